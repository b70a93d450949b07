/-! an expression is read: operators that wait, in segments -/
section
def rk (a : Nat) : Nat := if a = 5 then 1 else if a = 4 then 2 else if a = 3 then 3 else if a = 6 ∨ a = 7 then 4 else if a = 8 ∨ a = 9 then 5 else 6
def hr : List Nat → Nat
  | [] => 0
  | a :: _ => rk a
def sgI : List Nat → Prop
  | [] => True
  | a :: s => (3 ≤ a ∧ a ≤ 11) ∧ (hr s < rk a ∨ (a = 3 ∧ hr s = 3)) ∧ sgI s
def c3 : List Nat → Nat
  | [] => 0
  | a :: s => (if a = 3 then 1 else 0) + c3 s
def bns : List Nat → Nat
  | [] => 0
  | a :: s => (if a = 3 then 0 else 1) + bns s
def tst : List Nat → Nat
  | [] => 0
  | a :: s => if rk a = 4 then 1 else tst s
def rls (r : Nat) : List Nat → Prg → List Nat × Prg
  | [], P => ([], P)
  | a :: s, P => if r ≤ rk a then rls r s (P ++ [(a, 0)]) else (a :: s, P)
def dq (A : Nat → Prop) : Prg → Nat → Nat → Prop
  | [], d, e => d = e
  | i :: P, d, e => if i.1 = 1 then i.2 ≤ 9999 ∧ d < 40 ∧ dq A P (d + 1) e else if i.1 = 2 then (A i.2 ∧ i.2 ≤ 8) ∧ d < 40 ∧ dq A P (d + 1) e else if i.1 = 3 then 1 ≤ d ∧ dq A P d e else (4 ≤ i.1 ∧ i.1 ≤ 11) ∧ 2 ≤ d ∧ dq A P (d - 1) e
theorem dq_dp {A : Nat → Prop} : ∀ {P : Prg} {d e : Nat}, dq A P d e → 1 ≤ e → dp A P d := by
  intro P
  induction P with
  | nil => intro d e h he; unfold dq at h; unfold dp; omega
  | cons i P ih =>
    intro d e h he
    unfold dq at h
    unfold dp
    split
    · rename_i q
      rw [if_pos q] at h
      exact ⟨h.1, h.2.1, ih h.2.2 he⟩
    · rename_i q
      rw [if_neg q] at h
      split
      · rename_i q2
        rw [if_pos q2] at h
        exact ⟨h.1, h.2.1, ih h.2.2 he⟩
      · rename_i q2
        rw [if_neg q2] at h
        split
        · rename_i q3
          rw [if_pos q3] at h
          exact ⟨h.1, ih h.2 he⟩
        · rename_i q3
          rw [if_neg q3] at h
          exact ⟨h.1, h.2.1, ih h.2.2 he⟩
theorem dq_ap {A : Nat → Prop} {Q : Prg} : ∀ {P : Prg} {d m e : Nat}, dq A P d m → dq A Q m e → dq A (P ++ Q) d e := by
  intro P
  induction P with
  | nil => intro d m e h h2; unfold dq at h; subst h; exact h2
  | cons i P ih =>
    intro d m e h h2
    show dq A (i :: (P ++ Q)) d e
    unfold dq at h ⊢
    split
    · rename_i q
      rw [if_pos q] at h
      exact ⟨h.1, h.2.1, ih h.2.2 h2⟩
    · rename_i q
      rw [if_neg q] at h
      split
      · rename_i q2
        rw [if_pos q2] at h
        exact ⟨h.1, h.2.1, ih h.2.2 h2⟩
      · rename_i q2
        rw [if_neg q2] at h
        split
        · rename_i q3
          rw [if_pos q3] at h
          exact ⟨h.1, ih h.2 h2⟩
        · rename_i q3
          rw [if_neg q3] at h
          exact ⟨h.1, h.2.1, ih h.2.2 h2⟩
theorem dq_num {A : Nat → Prop} {v d : Nat} (hv : v ≤ 9999) (hd : d < 40) : dq A [(1, v)] d (d + 1) := by
  unfold dq
  rw [if_pos rfl]
  exact ⟨hv, hd, rfl⟩
theorem dq_val {A : Nat → Prop} {v d : Nat} (hv : A v ∧ v ≤ 8) (hd : d < 40) : dq A [(2, v)] d (d + 1) := by
  unfold dq
  rw [if_neg (by show ¬ (2 : Nat) = 1; omega), if_pos rfl]
  exact ⟨hv, hd, rfl⟩
theorem dq_op {A : Nat → Prop} {a n : Nat} (ha : 3 ≤ a ∧ a ≤ 11) : dq A [(a, 0)] ((if a = 3 then 0 else 1) + n + 1) (n + 1) := by
  unfold dq
  rw [if_neg (by show ¬ a = 1; omega), if_neg (by show ¬ a = 2; omega)]
  by_cases z : a = 3
  · rw [if_pos z, if_pos z]
    exact ⟨by omega, by show 0 + n + 1 = n + 1; omega⟩
  · rw [if_neg z, if_neg z]
    exact ⟨by show 4 ≤ a ∧ a ≤ 11; omega, by omega, by show 1 + n + 1 - 1 = n + 1; omega⟩
theorem rk_b {a : Nat} : 1 ≤ rk a ∧ rk a ≤ 6 := by
  unfold rk
  repeat' split
  all_goals omega
theorem rk_3 {a : Nat} (ha : 3 ≤ a ∧ a ≤ 11) : rk a = 3 ↔ a = 3 := by
  unfold rk
  repeat' split
  all_goals omega
def cc (r : Nat) : Nat := if r ≤ 2 then r else r - 1
theorem sg_len : ∀ {s : List Nat}, sgI s → s.length ≤ cc (hr s) + c3 s ∧ bns s ≤ cc (hr s) := by
  intro s
  induction s with
  | nil => intro _; exact ⟨Nat.zero_le _, Nat.zero_le _⟩
  | cons a s ih =>
    intro h
    obtain ⟨h1, h2, h3⟩ := h
    obtain ⟨i1, i2⟩ := ih h3
    have hb := rk_b (a := a)
    have h4 := rk_3 h1
    show s.length + 1 ≤ cc (rk a) + ((if a = 3 then 1 else 0) + c3 s) ∧ (if a = 3 then 0 else 1) + bns s ≤ cc (rk a)
    have hc : ∀ x y, x < y → ¬ y = 3 → y ≤ 6 → cc x + 1 ≤ cc y := by
      intro x y q1 q2 q3
      unfold cc
      split <;> split <;> omega
    by_cases z : a = 3
    · rw [if_pos z, if_pos z, h4.mpr z]
      have : cc (hr s) ≤ cc 3 := by
        unfold cc
        rw [h4.mpr z] at h2
        split <;> split <;> omega
      omega
    · rw [if_neg z, if_neg z]
      have := hc (hr s) (rk a) (by omega) (fun q => z (h4.mp q)) hb.2
      omega
theorem sg_c3 : ∀ {s : List Nat}, sgI s → hr s ≤ 2 → c3 s = 0 := by
  intro s
  induction s with
  | nil => intro _ _; rfl
  | cons a s ih =>
    intro h hr2
    obtain ⟨h1, h2, h3⟩ := h
    have h4 := rk_3 h1
    have hr2' : rk a ≤ 2 := hr2
    have z : ¬ a = 3 := fun q => by have := h4.mpr q; omega
    show (if a = 3 then 1 else 0) + c3 s = 0
    rw [if_neg z, ih h3 (by omega)]
theorem sg_t0 : ∀ {s : List Nat}, sgI s → hr s ≤ 3 → tst s = 0 := by
  intro s
  induction s with
  | nil => intro _ _; rfl
  | cons a s ih =>
    intro h hr2
    obtain ⟨h1, h2, h3⟩ := h
    have hr2' : rk a ≤ 3 := hr2
    show (if rk a = 4 then 1 else tst s) = 0
    rw [if_neg (by omega), ih h3 (by omega)]
theorem sg_t1 {s : List Nat} (h : hr s = 4) : tst s = 1 := by
  cases s with
  | nil => exact absurd h (by show ¬ (0 : Nat) = 4; omega)
  | cons a s => exact if_pos h
theorem cc_le {r : Nat} (h : r ≤ 6) : cc r ≤ 5 := by
  unfold cc
  split <;> omega
theorem hr_le (s : List Nat) : hr s ≤ 6 := by
  cases s with
  | nil => exact Nat.zero_le _
  | cons a s => exact rk_b.2
theorem rls_I {A : Nat → Prop} {r m : Nat} : ∀ {s : List Nat} {P : Prg}, sgI s → dq A P 0 (bns s + m + 1) → sgI (rls r s P).1 ∧ c3 (rls r s P).1 ≤ c3 s ∧ dq A (rls r s P).2 0 (bns (rls r s P).1 + m + 1) ∧ (rls r s P).2.length + (rls r s P).1.length = P.length + s.length ∧ (hr (rls r s P).1 < r ∨ (rls r s P).1 = []) := by
  intro s
  induction s with
  | nil => intro P h1 h2; exact ⟨trivial, Nat.le_refl _, h2, rfl, Or.inr rfl⟩
  | cons a s ih =>
    intro P h1 h2
    by_cases z : r ≤ rk a
    · have e : rls r (a :: s) P = rls r s (P ++ [(a, 0)]) := if_pos z
      rw [e]
      have h3 : dq A (P ++ [(a, 0)]) 0 (bns s + m + 1) := dq_ap h2 (by
        show dq A [(a, 0)] ((if a = 3 then 0 else 1) + bns s + m + 1) (bns s + m + 1)
        have := dq_op (A := A) (n := bns s + m) h1.1
        rw [← Nat.add_assoc] at this
        exact this)
      obtain ⟨k1, k2, k3, k4, k5⟩ := ih h1.2.2 h3
      refine ⟨k1, Nat.le_trans k2 (by show c3 s ≤ _ + c3 s; omega), k3, ?_, k5⟩
      rw [k4, List.length_append]
      show P.length + 1 + s.length = P.length + (s.length + 1)
      omega
    · have e : rls r (a :: s) P = (a :: s, P) := if_neg z
      rw [e]
      exact ⟨h1, Nat.le_refl _, h2, rfl, Or.inl (by show rk a < r; omega)⟩
theorem rls_t {r : Nat} (hr5 : 5 ≤ r) : ∀ {s : List Nat} {P : Prg}, tst (rls r s P).1 = tst s := by
  intro s
  induction s with
  | nil => intro P; rfl
  | cons a s ih =>
    intro P
    by_cases z : r ≤ rk a
    · have e : rls r (a :: s) P = rls r s (P ++ [(a, 0)]) := if_pos z
      rw [e, ih]
      show tst s = if rk a = 4 then 1 else tst s
      rw [if_neg (by omega)]
    · have e : rls r (a :: s) P = (a :: s, P) := if_neg z
      rw [e]
theorem rls_1 : ∀ {s : List Nat} {P : Prg}, (rls 1 s P).1 = [] := by
  intro s
  induction s with
  | nil => intro P; rfl
  | cons a s ih =>
    intro P
    have e : rls 1 (a :: s) P = rls 1 s (P ++ [(a, 0)]) := if_pos rk_b.1
    rw [e]
    exact ih
def bnw : List (List Nat) → Nat
  | [] => 0
  | s :: w => bns s + bnw w
def wln : List (List Nat) → Nat
  | [] => 0
  | s :: w => s.length + 1 + wln w
def wok : List (List Nat) → Prop
  | [] => True
  | s :: w => (sgI s ∧ c3 s ≤ 6) ∧ wok w
theorem wok_b : ∀ {w : List (List Nat)}, wok w → wln w ≤ 12 * w.length ∧ bnw w ≤ 5 * w.length := by
  intro w
  induction w with
  | nil => intro _; exact ⟨Nat.zero_le _, Nat.zero_le _⟩
  | cons s w ih =>
    intro h
    obtain ⟨⟨h1, h2⟩, h3⟩ := h
    obtain ⟨i1, i2⟩ := ih h3
    obtain ⟨j1, j2⟩ := sg_len h1
    have := cc_le (hr_le s)
    show s.length + 1 + wln w ≤ 12 * (w.length + 1) ∧ bns s + bnw w ≤ 5 * (w.length + 1)
    omega
/-- the machine: token and fault, the segment, those outside, the program, wants a part, may not, nots -/
abbrev Es : Type := Ft × (List Nat × List (List Nat)) × Prg × (Nat × Nat × Nat)
def tko (b : Tx) (T : Tk) : Nat := if T.2.2 = 60 then 6 else if T.2.2 = 61 then 7 else if T.2.2 = 43 then 8 else if T.2.2 = 45 then 9 else if T.2.2 = 42 then 10 else if T.2.2 = 47 then 11 else if kw (wdn b T) = 16 then 5 else if kw (wdn b T) = 15 then 4 else 0
def eP (b : Tx) (lo hi : Nat) (e : Es) : Es :=
  if ¬ (e.1.2.2.2 = 3 ∨ e.1.2.2.2 = 40 ∨ e.1.2.2.2 = 2) then (aF 1 e.1, e.2)
  else if 6 ≤ e.2.1.2.length ∨ (e.1.2.2.2 = 3 ∧ 9999 < num b e.1.2) then (aF 2 e.1, e.2)
  else if e.1.2.2.2 = 40 then (aS b e.1, ([], e.2.1.1 :: e.2.1.2), e.2.2.1, (1, 1, 0))
  else if e.1.2.2.2 = 3 then (aS b e.1, e.2.1, e.2.2.1 ++ [(1, num b e.1.2)], (0, e.2.2.2.2))
  else if e.2.2.2.2.1 = 1 ∧ kw (wdn b e.1.2) = 17 then (if 6 ≤ e.2.2.2.2.2 then (aF 2 e.1, e.2) else (aS b e.1, (3 :: e.2.1.1, e.2.1.2), e.2.2.1, (1, e.2.2.2.2.1, e.2.2.2.2.2 + 1)))
  else if lo ≤ kw (wdn b e.1.2) ∧ kw (wdn b e.1.2) ≤ hi then (aS b e.1, e.2.1, e.2.2.1 ++ [(2, kw (wdn b e.1.2))], (0, e.2.2.2.2))
  else (aF 3 e.1, e.2)
def eO (b : Tx) (op r : Nat) (e : Es) : Es := (aS b e.1, (op :: (rls r e.2.1.1 e.2.2.1).1, e.2.1.2), (rls r e.2.1.1 e.2.2.1).2, (1, (if op = 4 ∨ op = 5 then 1 else 0), 0))
def eB (b : Tx) (e : Es) : Es :=
  if e.1.2.2.2 = 41 ∧ 0 < e.2.1.2.length then (aS b e.1, (e.2.1.2.headD [], e.2.1.2.tail), (rls 1 e.2.1.1 e.2.2.1).2, e.2.2.2)
  else if tko b e.1.2 = 0 then (aF 1 e.1, e.2)
  else if tko b e.1.2 = 6 ∨ tko b e.1.2 = 7 then (if tst e.2.1.1 = 1 then (aF 1 e.1, e.2) else eO b (tko b e.1.2) 5 e)
  else eO b (tko b e.1.2) (rk (tko b e.1.2)) e
abbrev eN (e : Es) : Prop := e.2.2.2.1 = 0 ∧ e.2.1.2.length = 0 ∧ e.1.2.2.2 = 59
def eS (b : Tx) (lo hi : Nat) (e : Es) : Es := if e.2.2.2.1 = 0 then eB b e else eP b lo hi e
/-- what holds of the machine, with A for the values and p where it began -/
def EI (A : Nat → Prop) (b : Tx) (p : Nat) (e : Es) : Prop := TkG b e.1.2 ∧ (e.2.2.2.1 ≤ 1 ∧ e.2.2.2.2.1 ≤ 1 ∧ e.2.2.2.2.2 ≤ 6) ∧ (e.2.1.2.length ≤ 6 ∧ wok (e.2.1.1 :: e.2.1.2)) ∧ (e.2.2.2.1 = 1 → e.2.2.2.2.1 = 1 → c3 e.2.1.1 = e.2.2.2.2.2 ∧ hr e.2.1.1 ≤ 3) ∧ dq A e.2.2.1 0 (bnw (e.2.1.1 :: e.2.1.2) + (1 - e.2.2.2.1)) ∧ e.2.2.1.length + wln (e.2.1.1 :: e.2.1.2) + p ≤ e.1.2.1 + 1
end
