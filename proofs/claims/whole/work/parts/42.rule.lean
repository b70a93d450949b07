/-! decisions over numbers, for simp with omega -/
section
variable {α : Type} {X Y : α} {a b : Nat}
theorem leT {i : Decidable (nI a ≤ nI b)} (h : a ≤ b) (hb : b < 2147483648) : (@ite α (nI a ≤ nI b) i X Y) = X := if_pos ((nIle (by omega) hb).mpr h)
theorem leF {i : Decidable (nI a ≤ nI b)} (h : b < a) (ha : a < 2147483648) : (@ite α (nI a ≤ nI b) i X Y) = Y := if_neg (fun q => by have := (nIle ha (by omega)).mp q; omega)
theorem ltT {i : Decidable (nI a < nI b)} (h : a < b) (hb : b < 2147483648) : (@ite α (nI a < nI b) i X Y) = X := if_pos ((nIlt (by omega) hb).mpr h)
theorem ltF {i : Decidable (nI a < nI b)} (h : b ≤ a) (ha : a < 2147483648) : (@ite α (nI a < nI b) i X Y) = Y := if_neg (fun q => by have := (nIlt ha (by omega)).mp q; omega)
theorem eqT {i : Decidable (nI a = nI b)} (h : a = b) : (@ite α (nI a = nI b) i X Y) = X := if_pos (by rw [h])
theorem eqF {i : Decidable (nI a = nI b)} (h : ¬ a = b) (ha : a < 2147483648) (hb : b < 2147483648) : (@ite α (nI a = nI b) i X Y) = Y := if_neg (fun q => h ((nIeq ha hb).mp q))
theorem eqmF {i : Decidable (nI a = -1)} (ha : a < 2147483648) : (@ite α (nI a = -1) i X Y) = Y := if_neg (nIn ha)
theorem eq0T {i : Decidable (nI a = 0)} (h : a = 0) : (@ite α (nI a = 0) i X Y) = X := if_pos (by rw [h]; rfl)
theorem eq0F {i : Decidable (nI a = 0)} (h : 0 < a) (ha : a < 2147483648) : (@ite α (nI a = 0) i X Y) = Y := if_neg (fun q => by rw [l0, nIeq ha (by omega)] at q; omega)
theorem le0F {i : Decidable (nI a ≤ 0)} (h : 0 < a) (ha : a < 2147483648) : (@ite α (nI a ≤ 0) i X Y) = Y := if_neg (fun q => by rw [l0, nIle ha (by omega)] at q; omega)
theorem lt0F {i : Decidable (nI a < 0)} (ha : a < 2147483648) : (@ite α (nI a < 0) i X Y) = Y := if_neg (nI0 ha)
theorem oneT {i : Decidable (1 ≤ nI a)} (h : 0 < a) (ha : a < 2147483648) : (@ite α (1 ≤ nI a) i X Y) = X := if_pos (by rw [l1, nIle (by omega) ha]; omega)
theorem inbT {β : Type} {X : Option β} {n : Nat} {i : Decidable (inb (nI a) n = true)} (h : a < n) (hn : n ≤ 2147483648) : (@ite (Option β) (inb (nI a) n = true) i X none) = X := if_pos (inbN h hn)
theorem inb0T {β : Type} {X : Option β} {n : Nat} {i : Decidable (inb 0 n = true)} (h : 0 < n) (hn : n ≤ 2147483648) : (@ite (Option β) (inb 0 n = true) i X none) = X := if_pos (inbN (a := 0) h hn)
theorem inb1T {β : Type} {X : Option β} {n : Nat} {i : Decidable (inb 1 n = true)} (h : 1 < n) (hn : n ≤ 2147483648) : (@ite (Option β) (inb 1 n = true) i X none) = X := if_pos (inbN (a := 1) h hn)
theorem c00 : Int32.toNatClampNeg 0 = 0 := rfl
theorem c01 : Int32.toNatClampNeg 1 = 1 := rfl
end
/-! a rule -/
def wk (op : Nat) (a b : Int32) : Int32 := if op = 4 then (if a = 0 then 0 else if b = 0 then 0 else 1) else if op = 5 then (if a = 0 then (if b = 0 then 0 else 1) else 1) else if op = 6 then (if b ≤ a then 0 else 1) else if op = 7 then (if a = b then 1 else 0) else if op = 8 then a + b else if op = 9 then a - b else if op = 10 then a * b else if b = 0 then 0 else a / b
def oc (op : Nat) : Nat := if op = 4 then 2 else if op = 5 then 1 else op - 2
def cm (k : Nat) : Nat := if k = 2 then 3 else if k = 3 then 4 else if k = 4 then 2 else if k = 6 then 0 else if k = 7 then 1 else if k = 8 then 3 else k
abbrev Prg : Type := List (Nat × Nat)
def sc (i : Nat × Nat) : Nat := if i.1 = 1 then i.2 else if i.1 = 2 then 10000 + cm i.2 else if i.1 = 3 then 20003 else 20000 + oc i.1
def e1 (vals : Nat → Int32) (i : Nat × Nat) (st : List Int32) : List Int32 := if i.1 = 1 then nI i.2 :: st else if i.1 = 2 then vals i.2 :: st else match st with
  | [] => []
  | [a] => if i.1 = 3 then [if a = 0 then 1 else 0] else [a]
  | b :: a :: st => if i.1 = 3 then (if b = 0 then 1 else 0) :: a :: st else wk i.1 a b :: st
def ex (vals : Nat → Int32) : Prg → List Int32 → List Int32
  | [], st => st
  | i :: P, st => ex vals P (e1 vals i st)
def bot : List Int32 → Int32
  | [] => 0
  | [a] => a
  | _ :: b :: st => bot (b :: st)
def stk (S : am_S) (c : Nat) : List Int32 → Prop
  | [] => True
  | a :: st => sg S c st.length = a ∧ stk S c st
def dp (A : Nat → Prop) : Prg → Nat → Prop
  | [], d => 1 ≤ d
  | i :: P, d => if i.1 = 1 then i.2 ≤ 9999 ∧ d < 40 ∧ dp A P (d + 1) else if i.1 = 2 then (A i.2 ∧ i.2 ≤ 8) ∧ d < 40 ∧ dp A P (d + 1) else if i.1 = 3 then 1 ≤ d ∧ dp A P d else (4 ≤ i.1 ∧ i.1 ≤ 11) ∧ 2 ≤ d ∧ dp A P (d - 1)
def ev (P : Prg) (vals : Nat → Int32) : Int32 := bot (ex vals P [])
def stepsAt (S : am_S) (c : Nat) : Nat → Prg → Prop
  | _, [] => True
  | i, x :: P => sg S c i = nI (sc x) ∧ stepsAt S c (i + 1) P
def codeAt (S : am_S) : Nat → Prg → Prop
  | a, [] => a < 1400 ∧ sg S 84 a = 0
  | a, x :: P => a + 1 < 1400 ∧ sg S 84 a = nI x.1 ∧ (if x.1 = 1 then sg S 84 (a + 1) = nI x.2 ∧ codeAt S (a + 2) P else if x.1 = 2 then sg S 84 (a + 1) = nI x.2 ∧ codeAt S (a + 2) P else codeAt S (a + 1) P)
def Ru (k : Nat) : Prop := (rf k 0 = k + 1 ∧ ln (k + 1) = 700) ∧ rf k 2 = k + 2 ∧ ln (k + 2) = 40
theorem stk_bot {S : am_S} {c : Nat} : ∀ {st : List Int32}, stk S c st → 1 ≤ st.length → sg S c 0 = bot st := by
  intro st
  induction st with
  | nil => intro _ h; simp at h
  | cons a st ih =>
    intro h _
    cases st with
    | nil => exact h.1
    | cons b st => exact ih h.2 (by simp)
theorem stk_sp {S : am_S} {c i : Nat} {v : Int32} : ∀ {st : List Int32}, stk S c st → st.length ≤ i → stk (sp S c i v) c st := by
  intro st
  induction st with
  | nil => intro _ _; trivial
  | cons a st ih =>
    intro h hi
    refine ⟨?_, ih h.2 (by simp at hi; omega)⟩
    rw [sgj (by simp at hi; omega)]
    exact h.1
theorem stepsAt_same {S S' : am_S} {c : Nat} (hs : ∀ j, sg S' c j = sg S c j) : ∀ {P : Prg} {i : Nat}, stepsAt S c i P → stepsAt S' c i P := by
  intro P
  induction P with
  | nil => intro _ _; trivial
  | cons x P ih =>
    intro i h
    exact ⟨(hs i).trans h.1, ih h.2⟩
theorem codeAt_same {S S' : am_S} (hs : ∀ j, sg S' 84 j = sg S 84 j) : ∀ {P : Prg} {a : Nat}, codeAt S a P → codeAt S' a P := by
  intro P
  induction P with
  | nil => intro a h; exact ⟨h.1, (hs a).trans h.2⟩
  | cons x P ih =>
    intro a h
    obtain ⟨h1, h2, h3⟩ := h
    refine ⟨h1, (hs a).trans h2, ?_⟩
    by_cases q1 : x.1 = 1
    · rw [if_pos q1] at h3 ⊢
      exact ⟨(hs _).trans h3.1, ih h3.2⟩
    · rw [if_neg q1] at h3 ⊢
      by_cases q2 : x.1 = 2
      · rw [if_pos q2] at h3 ⊢
        exact ⟨(hs _).trans h3.1, ih h3.2⟩
      · rw [if_neg q2] at h3 ⊢
        exact ih h3
theorem c_joined {N op : Nat} {a b : Int32} {S : am_S} (h1 : 4 ≤ op) (h2 : op ≤ 11) : f_X5_joined N (nI (oc op)) a b S = some (wk op a b, S) := by
  unfold f_X5_joined b_X5_joined_61 b_X5_joined_56 b_X5_joined_74 b_X5_joined_75 b_X5_joined_86 b_X5_joined_97 b_X5_joined_121
  have h3 : op = 4 ∨ op = 5 ∨ op = 6 ∨ op = 7 ∨ op = 8 ∨ op = 9 ∨ op = 10 ∨ op = 11 := by omega
  rcases h3 with h | h | h | h | h | h | h | h <;> subst h <;> simp only [oc, wk, l1, l2, l3, l4, l5, l6, l7, l8] <;> simp (disch := omega) [eqT, eqF] <;> (try split) <;> (try split) <;> (try rfl) <;> simp_all [b_X5_joined_61, b_X5_joined_75]
theorem m_works {N op : Nat} {a b : Int32} {S : am_S} (h1 : 4 ≤ op) (h2 : op ≤ 11) : f_X10_works N (nI op) a b S = some (wk op a b, S) := by
  unfold f_X10_works b_X10_works_117 b_X10_works_93 b_X10_works_82 b_X10_works_66 b_X10_works_71 b_X10_works_56 b_X10_works_57
  have h3 : op = 4 ∨ op = 5 ∨ op = 6 ∨ op = 7 ∨ op = 8 ∨ op = 9 ∨ op = 10 ∨ op = 11 := by omega
  rcases h3 with h | h | h | h | h | h | h | h <;> subst h <;> simp only [wk, l4, l5, l6, l7, l8, l9, l10] <;> simp (disch := omega) [eqT, eqF] <;> (try split) <;> (try split) <;> (try rfl) <;> (try simp_all [b_X10_works_71, b_X10_works_57])
  rw [eqF (by decide) (by decide) (by decide), eqF (by decide) (by decide) (by decide), eqF (by decide) (by decide) (by decide), eqF (by decide) (by decide) (by decide), eqF (by decide) (by decide) (by decide), eqF (by decide) (by decide) (by decide), eqF (by decide) (by decide) (by decide)]
  split <;> rfl

theorem dp1 {A : Nat → Prop} {x : Nat × Nat} {P : Prg} {d : Nat} (h : dp A (x :: P) d) : (x.1 = 1 ∧ x.2 ≤ 9999 ∧ d < 40 ∧ dp A P (d + 1)) ∨ (x.1 = 2 ∧ (A x.2 ∧ x.2 ≤ 8) ∧ d < 40 ∧ dp A P (d + 1)) ∨ (x.1 = 3 ∧ 1 ≤ d ∧ dp A P d) ∨ ((4 ≤ x.1 ∧ x.1 ≤ 11) ∧ 2 ≤ d ∧ dp A P (d - 1)) := by
  unfold dp at h
  split at h
  · exact Or.inl ⟨‹_›, h⟩
  · split at h
    · exact Or.inr (Or.inl ⟨‹_›, h⟩)
    · split at h
      · exact Or.inr (Or.inr (Or.inl ⟨‹_›, h⟩))
      · exact Or.inr (Or.inr (Or.inr h))
theorem cm_lt {k : Nat} (h : k ≤ 8) : cm k < 6 := by
  have h1 : k = 0 ∨ k = 1 ∨ k = 2 ∨ k = 3 ∨ k = 4 ∨ k = 5 ∨ k = 6 ∨ k = 7 ∨ k = 8 := by omega
  rcases h1 with h | h | h | h | h | h | h | h | h <;> subst h <;> decide
theorem oc_lt {k : Nat} (h : k ≤ 11) : oc k < 10 := by
  unfold oc
  split <;> (try split) <;> omega
theorem oc_n3 {k : Nat} (h : 4 ≤ k) : ¬ oc k = 3 := by
  unfold oc
  split <;> (try split) <;> omega
theorem c_worth {N k v : Nat} {A : Nat → Prop} {vals : Nat → Int32} (hk : Ru k) (hv : ln v = 6) (hvk : ¬ v = k + 2) : ∀ (P : Prg) (n i : Nat) (st : List Int32) (S : am_S), P.length < n → stepsAt S (k + 1) i P → stk S (k + 2) st → sg S k 1 = nI (i + P.length) → i + P.length ≤ 700 → dp A P st.length → st.length ≤ 40 → (∀ j, A j → sg S v (cm j) = vals j) → Rn (b_X5_worth_4 N n k v (nI st.length) (nI i) S) (fun q => q.1 = bot (ex vals P st) ∧ Fr (fun a => a = k + 2) S q.2) := by
  obtain ⟨⟨k1, k2⟩, k3, k4⟩ := hk
  intro P
  induction P with
  | nil =>
    intro n i st S hn hs ht hl hi hd h40 hA
    cases n with
    | zero => simp at hn
    | succ n =>
      unfold b_X5_worth_4
      simp only [List.length_nil, Nat.add_zero] at hl
      rw [hl, leT (Nat.le_refl i) (by simp at hi; omega), k3, k4, inb0T (by decide) (by decide)]
      exact Rn_ret ⟨stk_bot ht hd, Fr_rf _ _⟩
  | cons x P ih =>
    intro n i st S hn hs ht hl hi hd h40 hA
    cases n with
    | zero => simp at hn
    | succ n =>
      simp only [List.length_cons] at hn hl hi
      obtain ⟨hs1, hs2⟩ := hs
      have hfr : ∀ (j : Nat) (w : Int32), Fr (fun a => a = k + 2) S (sp S (k + 2) j w) := fun j w => Fr_sp (Fr_rf _ _) rfl
      have hst2 : ∀ (j : Nat) (w : Int32), stepsAt (sp S (k + 2) j w) (k + 1) (i + 1) P := fun j w => stepsAt_same (fun j => sgn (by omega)) hs2
      have hl2 : ∀ (j : Nat) (w : Int32), sg (sp S (k + 2) j w) k 1 = nI (i + 1 + P.length) := fun j w => by
        rw [sgn (by omega), hl, Nat.add_comm P.length 1, Nat.add_assoc]
      have hA2 : ∀ (j : Nat) (w : Int32), ∀ u, A u → sg (sp S (k + 2) j w) v (cm u) = vals u := fun j w u hu => by
        rw [sgn hvk]
        exact hA u hu
      unfold b_X5_worth_4
      rw [hl, leF (by omega) (by omega), k1, k2, k3, k4, inbT (by omega) (by decide), nIc (by omega), hs1]
      rcases dp1 hd with ⟨q, q1, q2, q3⟩ | ⟨q, ⟨q1, q1b⟩, q2, q3⟩ | ⟨q, q2, q3⟩ | ⟨⟨q, q1⟩, q2, q3⟩
      · have e0 : sc x = x.2 := by unfold sc; rw [if_pos q]
        have e9 : ex vals (x :: P) st = ex vals P (nI x.2 :: st) := by
          show ex vals P (e1 vals x st) = _
          unfold e1
          rw [if_pos q]
        rw [e0, e9, show (20003 : Int32) = nI 20003 from rfl, l20000, l40, l10000, eqF (by omega) (by omega) (by omega), ltT (by omega) (by omega), leF (by omega) (by omega), ltT (by omega) (by omega)]
        unfold b_X5_worth_141 b_X5_worth_145
        rw [k4, inbT (by omega) (by decide), nIc (by omega), nI1, nI1]
        refine Rn_mono (ih n (i + 1) (nI x.2 :: st) _ (by omega) (hst2 _ _) ⟨sgp _ _ _ _, stk_sp ht (Nat.le_refl _)⟩ (hl2 _ _) (by omega) q3 (by simp only [List.length_cons]; omega) (hA2 _ _)) (fun a ha => ⟨ha.1, Fr_tr (hfr _ _) ha.2⟩)
      · have e0 : sc x = 10000 + cm x.2 := by unfold sc; rw [if_neg (by omega), if_pos q]
        have e9 : ex vals (x :: P) st = ex vals P (vals x.2 :: st) := by
          show ex vals P (e1 vals x st) = _
          unfold e1
          rw [if_neg (by omega), if_pos q]
        have hc := cm_lt q1b
        rw [e0, e9, show (20003 : Int32) = nI 20003 from rfl, l20000, l40, l10000, eqF (by omega) (by omega) (by omega), ltT (by omega) (by omega), leF (by omega) (by omega), ltF (by omega) (by omega), nIs (by omega), Nat.add_sub_cancel_left, hv, inbT (by omega) (by decide), nIc (by omega), hA _ q1]
        unfold b_X5_worth_141 b_X5_worth_145
        rw [k4, inbT (by omega) (by decide), nIc (by omega), nI1, nI1]
        refine Rn_mono (ih n (i + 1) (vals x.2 :: st) _ (by omega) (hst2 _ _) ⟨sgp _ _ _ _, stk_sp ht (Nat.le_refl _)⟩ (hl2 _ _) (by omega) q3 (by simp only [List.length_cons]; omega) (hA2 _ _)) (fun a ha => ⟨ha.1, Fr_tr (hfr _ _) ha.2⟩)
      · have e0 : sc x = 20003 := by unfold sc; rw [if_neg (by omega), if_neg (by omega), if_pos q]
        cases st with
        | nil => simp at q2
        | cons b st =>
          have e9 : ex vals (x :: P) (b :: st) = ex vals P ((if b = 0 then 1 else 0) :: st) := by
            show ex vals P (e1 vals x (b :: st)) = _
            unfold e1
            rw [if_neg (by omega), if_neg (by omega)]
            cases st with
            | nil => simp [q]
            | cons a st => simp [q]
          simp only [List.length_cons] at q3 ⊢
          simp only [List.length_cons] at h40
          rw [e0, e9, show (20003 : Int32) = nI 20003 from rfl, eqT rfl, le0F (by omega) (by omega), l1, nIs (by omega), Nat.add_sub_cancel, inbT (by omega) (by decide), nIc (by omega), ht.1]
          unfold b_X5_worth_55 b_X5_worth_145
          rw [k4, inbT (by omega) (by decide), nIc (by omega), inbT (by omega) (by decide), nI1]
          have h9 : ∀ w : Int32, Rn (b_X5_worth_4 N n k v (nI (st.length + 1)) (nI (i + 1)) (sp S (k + 2) st.length w)) (fun q => q.1 = bot (ex vals P (w :: st)) ∧ Fr (fun a => a = k + 2) S q.2) := fun w =>
            Rn_mono (ih n (i + 1) (w :: st) _ (by omega) (hst2 _ _) ⟨sgp _ _ _ _, stk_sp ht.2 (Nat.le_refl _)⟩ (hl2 _ _) (by omega) q3 (by simp only [List.length_cons]; omega) (hA2 _ _)) (fun a ha => ⟨ha.1, Fr_tr (hfr _ _) ha.2⟩)
          by_cases hb : b = 0
          · rw [if_pos hb, if_pos hb]
            exact h9 1
          · rw [if_neg hb, if_neg hb]
            exact h9 0
      · have e0 : sc x = 20000 + oc x.1 := by unfold sc; rw [if_neg (by omega), if_neg (by omega), if_neg (by omega)]
        cases st with
        | nil => simp at q2
        | cons b st =>
          cases st with
          | nil => simp at q2
          | cons a st =>
            have e9 : ex vals (x :: P) (b :: a :: st) = ex vals P (wk x.1 a b :: st) := by
              show ex vals P (e1 vals x (b :: a :: st)) = _
              unfold e1
              rw [if_neg (by omega), if_neg (by omega)]
              show ex vals P (if x.1 = 3 then _ else _) = _
              rw [if_neg (by omega)]
            simp only [List.length_cons] at q3 h40 ⊢
            have ho := oc_lt q1
            have ho3 := oc_n3 q
            have em : nI (st.length + 1 + 1) + (-1) = nI (st.length + 1) := by
              rw [← nI1 (st.length + 1), Int32.add_assoc]
              show nI (st.length + 1) + 0 = _
              exact Int32.add_zero _
            have en : nI (st.length + 1) - 1 = nI st.length := by
              rw [l1, nIs (by omega), Nat.add_sub_cancel]
            obtain ⟨ht1, ht2, ht3⟩ := ht
            simp only [List.length_cons] at ht1
            rw [e0, e9, show (20003 : Int32) = nI 20003 from rfl, l20000, l1, eqF (by omega) (by omega) (by omega), ltF (by omega) (by omega), leF (by omega) (by omega), ← l1, em, en, inbT (by omega) (by decide), inbT (by omega) (by decide), nIs (by omega), Nat.add_sub_cancel_left, nIc (by omega), nIc (by omega), ht1, ht2, c_joined q q1, bd_some, inbT (by omega) (by decide)]
            unfold b_X5_worth_145
            rw [nI1]
            exact Rn_mono (ih n (i + 1) (wk x.1 a b :: st) _ (by omega) (hst2 _ _) ⟨sgp _ _ _ _, stk_sp ht3 (Nat.le_refl _)⟩ (hl2 _ _) (by omega) q3 (by simp only [List.length_cons]; omega) (hA2 _ _)) (fun a ha => ⟨ha.1, Fr_tr (hfr _ _) ha.2⟩)
theorem m_reckons {N : Nat} {A : Nat → Prop} {vals : Nat → Int32} : ∀ (P : Prg) (n i : Nat) (st : List Int32) (S : am_S), P.length < n → codeAt S i P → stk S 99 st → dp A P st.length → st.length ≤ 40 → (∀ j, A j → sg S 98 j = vals j) → Rn (b_X10_reckons_4 N n 78 (nI st.length) (nI i) S) (fun q => q.1 = bot (ex vals P st) ∧ Fr (fun a => a = 99) S q.2) := by
  intro P
  induction P with
  | nil =>
    intro n i st S hn hs ht hd h40 hA
    obtain ⟨hs1, hs2⟩ := hs
    cases n with
    | zero => simp at hn
    | succ n =>
      unfold b_X10_reckons_4
      rw [r78_12, r78_50, n84, n99, inbT hs1 (by decide), nIc (by omega), hs2, if_pos rfl, inb0T (by decide) (by decide)]
      exact Rn_ret ⟨stk_bot ht hd, Fr_rf _ _⟩
  | cons x P ih =>
    intro n i st S hn hs ht hd h40 hA
    cases n with
    | zero => simp at hn
    | succ n =>
      simp only [List.length_cons] at hn
      obtain ⟨hs1, hs2, hs3⟩ := hs
      have hfr : ∀ (j : Nat) (w : Int32), Fr (fun a => a = 99) S (sp S 99 j w) := fun j w => Fr_sp (Fr_rf _ _) rfl
      have hst2 : ∀ (j : Nat) (w : Int32) (a : Nat), codeAt S a P → codeAt (sp S 99 j w) a P := fun j w a h => codeAt_same (fun j => sgn (by decide)) h
      have hA2 : ∀ (j : Nat) (w : Int32), ∀ u, A u → sg (sp S 99 j w) 98 u = vals u := fun j w u hu => by
        rw [sgn (by decide)]
        exact hA u hu
      unfold b_X10_reckons_4
      rw [r78_12, r78_50, n84, n99, inbT (by omega) (by decide), nIc (by omega), hs2, inbT (by omega) (by decide)]
      rcases dp1 hd with ⟨q, q1, q2, q3⟩ | ⟨q, ⟨q1, q1b⟩, q2, q3⟩ | ⟨q, q2, q3⟩ | ⟨⟨q, q1⟩, q2, q3⟩
      · have e9 : ex vals (x :: P) st = ex vals P (nI x.2 :: st) := by
          show ex vals P (e1 vals x st) = _
          unfold e1
          rw [if_pos q]
        rw [if_pos q] at hs3
        rw [q, e9, if_neg (by decide : ¬ nI 1 = 0), if_pos (by decide : nI 1 = 1)]
        unfold b_X10_reckons_36
        rw [if_pos (by decide : nI 1 = 1), r78_12, n84, nI1, inbT (by omega) (by decide), nIc (by omega), hs3.1, r78_50]
        unfold b_X10_reckons_67 b_X10_reckons_140
        rw [n99, inbT (by omega) (by decide), nIc (by omega), nI1, nI1]
        exact Rn_mono (ih n (i + 2) (nI x.2 :: st) _ (by omega) (hst2 _ _ _ hs3.2) ⟨sgp _ _ _ _, stk_sp ht (Nat.le_refl _)⟩ q3 (by simp only [List.length_cons]; omega) (hA2 _ _)) (fun a ha => ⟨ha.1, Fr_tr (hfr _ _) ha.2⟩)
      · have e9 : ex vals (x :: P) st = ex vals P (vals x.2 :: st) := by
          show ex vals P (e1 vals x st) = _
          unfold e1
          rw [if_neg (by omega), if_pos q]
        rw [if_neg (by omega), if_pos q] at hs3
        rw [q, e9, if_neg (by decide : ¬ nI 2 = 0), if_neg (by decide : ¬ nI 2 = 1), if_pos (by decide : nI 2 = 2)]
        unfold b_X10_reckons_36
        rw [if_neg (by decide : ¬ nI 2 = 1), r78_12, r78_49, n84, nI1, inbT (by omega) (by decide), nIc (by omega), hs3.1, n98, inbT (by omega) (by decide), nIc (by omega), hA _ q1, r78_50]
        unfold b_X10_reckons_67 b_X10_reckons_140
        rw [n99, inbT (by omega) (by decide), nIc (by omega), nI1, nI1]
        exact Rn_mono (ih n (i + 2) (vals x.2 :: st) _ (by omega) (hst2 _ _ _ hs3.2) ⟨sgp _ _ _ _, stk_sp ht (Nat.le_refl _)⟩ q3 (by simp only [List.length_cons]; omega) (hA2 _ _)) (fun a ha => ⟨ha.1, Fr_tr (hfr _ _) ha.2⟩)
      · rw [if_neg (by omega), if_neg (by omega)] at hs3
        cases st with
        | nil => simp at q2
        | cons b st =>
          have e9 : ex vals (x :: P) (b :: st) = ex vals P ((if b = 0 then 1 else 0) :: st) := by
            show ex vals P (e1 vals x (b :: st)) = _
            unfold e1
            rw [if_neg (by omega), if_neg (by omega)]
            cases st with
            | nil => simp [q]
            | cons a st => simp [q]
          simp only [List.length_cons] at q3 h40 ⊢
          rw [q, e9, if_neg (by decide : ¬ nI 3 = 0), if_neg (by decide : ¬ nI 3 = 1), if_neg (by decide : ¬ nI 3 = 2), if_pos (by decide : nI 3 = 3), l1, nIs (by omega), Nat.add_sub_cancel, inbT (by omega) (by decide), nIc (by omega), ht.1, nIa]
          unfold b_X10_reckons_106 b_X10_reckons_140
          rw [n99, inbT (by omega) (by decide), nIc (by omega), inbT (by omega) (by decide)]
          have h9 : ∀ w : Int32, Rn (b_X10_reckons_4 N n 78 (nI (st.length + 1)) (nI (i + 1)) (sp S 99 st.length w)) (fun q => q.1 = bot (ex vals P (w :: st)) ∧ Fr (fun a => a = 99) S q.2) := fun w =>
            Rn_mono (ih n (i + 1) (w :: st) _ (by omega) (hst2 _ _ _ hs3) ⟨sgp _ _ _ _, stk_sp ht.2 (Nat.le_refl _)⟩ q3 (by simp only [List.length_cons]; omega) (hA2 _ _)) (fun a ha => ⟨ha.1, Fr_tr (hfr _ _) ha.2⟩)
          by_cases hb : b = 0
          · rw [if_pos hb, if_pos hb]
            exact h9 1
          · rw [if_neg hb, if_neg hb]
            exact h9 0
      · rw [if_neg (by omega), if_neg (by omega)] at hs3
        cases st with
        | nil => simp at q2
        | cons b st =>
          cases st with
          | nil => simp at q2
          | cons a st =>
            have e9 : ex vals (x :: P) (b :: a :: st) = ex vals P (wk x.1 a b :: st) := by
              show ex vals P (e1 vals x (b :: a :: st)) = _
              unfold e1
              rw [if_neg (by omega), if_neg (by omega)]
              show ex vals P (if x.1 = 3 then _ else _) = _
              rw [if_neg (by omega)]
            simp only [List.length_cons] at q3 h40 ⊢
            have em : nI (st.length + 1 + 1) + (-1) = nI (st.length + 1) := by
              rw [← nI1 (st.length + 1), Int32.add_assoc]
              show nI (st.length + 1) + 0 = _
              exact Int32.add_zero _
            have en : nI (st.length + 1) - 1 = nI st.length := by
              rw [l1, nIs (by omega), Nat.add_sub_cancel]
            obtain ⟨ht1, ht2, ht3⟩ := ht
            simp only [List.length_cons] at ht1
            rw [e9, eq0F (by omega) (by omega), if_neg (by rw [l1, nIeq (by omega) (by omega)]; omega), if_neg (by rw [l2, nIeq (by omega) (by omega)]; omega), if_neg (by rw [l3, nIeq (by omega) (by omega)]; omega), em, en, inbT (by omega) (by decide), inbT (by omega) (by decide), nIc (by omega), nIc (by omega), ht1, ht2, m_works q q1, bd_some, inbT (by omega) (by decide), nI1]
            unfold b_X10_reckons_140
            exact Rn_mono (ih n (i + 1) (wk x.1 a b :: st) _ (by omega) (hst2 _ _ _ hs3) ⟨sgp _ _ _ _, stk_sp ht3 (Nat.le_refl _)⟩ q3 (by simp only [List.length_cons]; omega) (hA2 _ _)) (fun a ha => ⟨ha.1, Fr_tr (hfr _ _) ha.2⟩)
