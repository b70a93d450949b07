/-! tokens of a text -/
abbrev Tx : Type := Nat × (Nat → Nat)
abbrev Tk : Type := Nat × Nat × Nat
def kd (x : Nat) : Nat := if 97 ≤ x ∧ x ≤ 122 then 2 else if 48 ≤ x ∧ x ≤ 57 then 3 else if x = 10 ∨ x = 32 then 4 else if x = 40 ∨ x = 41 ∨ x = 42 ∨ x = 43 ∨ x = 45 ∨ x = 47 ∨ x = 59 ∨ x = 60 ∨ x = 61 then x else 1
def skp (b : Tx) : Nat → Nat → Nat
  | 0, p => p
  | n + 1, p => if kd (b.2 p) = 4 then skp b n (p + 1) else p
def rne (b : Tx) (k : Nat) : Nat → Nat → Nat
  | 0, e => e
  | n + 1, e => if kd (b.2 e) = k then rne b k n (e + 1) else e
def tkA (b : Tx) (p : Nat) : Tk := if b.1 ≤ p then (p, p, 0) else (p, if kd (b.2 p) = 2 ∨ kd (b.2 p) = 3 then rne b (kd (b.2 p)) (b.1 - (p + 1)) (p + 1) else p + 1, kd (b.2 p))
def tk (b : Tx) (e : Nat) : Tk := tkA b (skp b (b.1 - e) e)
def dg (b : Tx) (p : Nat) : Nat → Nat
  | 0 => 0
  | n + 1 => 10 * dg b p n + (b.2 (p + n) - 48)
def pkw (b : Tx) (p : Nat) : Nat → Nat
  | 0 => 0
  | n + 1 => 32 * pkw b p n + (b.2 (p + n) - 96)
def tln (T : Tk) : Nat := T.2.1 - T.1
def num (b : Tx) (T : Tk) : Nat := if T.2.2 = 3 then (if tln T ≤ 4 then dg b T.1 (tln T) else 10000) else 0
def mvl (b : Tx) (T : Tk) : Nat := if T.2.2 = 3 then dg b T.1 (min 4 (tln T)) else 0
def mwd (b : Tx) (T : Tk) : Nat := if T.2.2 = 2 then pkw b T.1 (min 7 (tln T)) else 0
def wdn (b : Tx) (T : Tk) : Nat := if T.2.2 = 2 ∧ tln T ≤ 7 then pkw b T.1 (tln T) else 0
def TxI (b : Tx) : Prop := b.1 ≤ 700 ∧ ∀ i, b.2 i < 256
theorem skp_le (b : Tx) : ∀ n p, p ≤ skp b n p ∧ skp b n p ≤ p + n := by
  intro n
  induction n with
  | zero => intro p; exact ⟨Nat.le_refl _, Nat.le_refl _⟩
  | succ n ih =>
    intro p
    unfold skp
    have := ih (p + 1)
    split <;> omega
theorem skp_n4 (b : Tx) : ∀ n p, skp b n p < p + n → ¬ kd (b.2 (skp b n p)) = 4 := by
  intro n
  induction n with
  | zero => intro p h; exact absurd h (by unfold skp; omega)
  | succ n ih =>
    intro p
    unfold skp
    by_cases z : kd (b.2 p) = 4
    · rw [if_pos z]
      intro h
      exact ih (p + 1) (by omega)
    · rw [if_neg z]
      intro _
      exact z
theorem rne_le (b : Tx) (k : Nat) : ∀ n e, e ≤ rne b k n e ∧ rne b k n e ≤ e + n := by
  intro n
  induction n with
  | zero => intro p; exact ⟨Nat.le_refl _, Nat.le_refl _⟩
  | succ n ih =>
    intro p
    unfold rne
    have := ih (p + 1)
    split <;> omega
theorem rne_k (b : Tx) (k : Nat) : ∀ n e i, e ≤ i → i < rne b k n e → kd (b.2 i) = k := by
  intro n
  induction n with
  | zero => intro e i h1 h2; unfold rne at h2; omega
  | succ n ih =>
    intro e i h1 h2
    unfold rne at h2
    by_cases z : kd (b.2 e) = k
    · rw [if_pos z] at h2
      by_cases q : i = e
      · rw [q]; exact z
      · exact ih (e + 1) i (by omega) h2
    · rw [if_neg z] at h2
      omega
/-- a token as it lies in the text -/
def TkI (b : Tx) (e : Nat) (T : Tk) : Prop := e ≤ T.1 ∧ T.1 ≤ T.2.1 ∧ T.2.1 ≤ b.1 ∧ (T.2.2 = 0 → T.1 = b.1 ∧ T.2.1 = b.1) ∧ (¬ T.2.2 = 0 → T.1 < T.2.1 ∧ T.2.2 = kd (b.2 T.1)) ∧ ¬ T.2.2 = 4 ∧ (T.2.2 = 2 ∨ T.2.2 = 3 → ∀ i, T.1 ≤ i → i < T.2.1 → kd (b.2 i) = T.2.2)
theorem tLo {b : Tx} {e : Nat} {T : Tk} (h : TkI b e T) : e ≤ T.1 := h.1
theorem tLe {b : Tx} {e : Nat} {T : Tk} (h : TkI b e T) : T.1 ≤ T.2.1 := h.2.1
theorem tHi {b : Tx} {e : Nat} {T : Tk} (h : TkI b e T) : T.2.1 ≤ b.1 := h.2.2.1
theorem tZ {b : Tx} {e : Nat} {T : Tk} (h : TkI b e T) : T.2.2 = 0 → T.1 = b.1 ∧ T.2.1 = b.1 := h.2.2.2.1
theorem tNz {b : Tx} {e : Nat} {T : Tk} (h : TkI b e T) : ¬ T.2.2 = 0 → T.1 < T.2.1 ∧ T.2.2 = kd (b.2 T.1) := h.2.2.2.2.1
theorem tN4 {b : Tx} {e : Nat} {T : Tk} (h : TkI b e T) : ¬ T.2.2 = 4 := h.2.2.2.2.2.1
theorem tWd {b : Tx} {e : Nat} {T : Tk} (h : TkI b e T) : T.2.2 = 2 ∨ T.2.2 = 3 → ∀ i, T.1 ≤ i → i < T.2.1 → kd (b.2 i) = T.2.2 := h.2.2.2.2.2.2
theorem kd_n0 (x : Nat) : ¬ kd x = 0 := by
  unfold kd
  repeat' split
  all_goals omega
theorem tkA_I {b : Tx} {e p : Nat} (h1 : e ≤ p) (h2 : p ≤ b.1) (h3 : p < b.1 → ¬ kd (b.2 p) = 4) : TkI b e (tkA b p) := by
  unfold tkA
  by_cases z : b.1 ≤ p
  · rw [if_pos z]
    refine ⟨h1, Nat.le_refl p, h2, fun _ => ⟨Nat.le_antisymm h2 z, Nat.le_antisymm h2 z⟩, fun q => absurd rfl q, by show ¬ (0 : Nat) = 4; omega, fun q => absurd q (by show ¬ ((0 : Nat) = 2 ∨ (0 : Nat) = 3); omega)⟩
  · rw [if_neg z]
    obtain ⟨h5, h6⟩ := rne_le b (kd (b.2 p)) (b.1 - (p + 1)) (p + 1)
    have h7 := rne_k b (kd (b.2 p)) (b.1 - (p + 1)) (p + 1)
    by_cases y : kd (b.2 p) = 2 ∨ kd (b.2 p) = 3
    · rw [if_pos y]
      refine ⟨h1, by show p ≤ rne _ _ _ _; omega, by show rne _ _ _ _ ≤ _; omega, fun q => absurd q (kd_n0 _), fun _ => ⟨by show p < rne _ _ _ _; omega, rfl⟩, h3 (by omega), fun q i hi1 hi2 => ?_⟩
      have hi1' : p ≤ i := hi1
      by_cases y : i = p
      · rw [y]
      · exact h7 i (by omega) hi2
    · rw [if_neg y]
      exact ⟨h1, Nat.le_succ p, by show p + 1 ≤ b.1; omega, fun q => absurd q (kd_n0 _), fun _ => ⟨Nat.lt_succ_self p, rfl⟩, h3 (by omega), fun q => absurd q y⟩
theorem tk_I {b : Tx} {e : Nat} (h : e ≤ b.1) : TkI b e (tk b e) := by
  obtain ⟨h1, h2⟩ := skp_le b (b.1 - e) e
  exact tkA_I h1 (by omega) (fun q => skp_n4 b (b.1 - e) e (by omega))
theorem kd2 {x : Nat} : kd x = 2 ↔ 97 ≤ x ∧ x ≤ 122 := by
  unfold kd
  constructor
  · intro h
    split at h
    · assumption
    · repeat' split at h
      all_goals omega
  · intro h
    rw [if_pos h]
theorem kd3 {x : Nat} : kd x = 3 ↔ 48 ≤ x ∧ x ≤ 57 := by
  unfold kd
  constructor
  · intro h
    split at h
    · omega
    · split at h
      · assumption
      · repeat' split at h
        all_goals omega
  · intro h
    rw [if_neg (by omega), if_pos h]
theorem kd4 {x : Nat} : kd x = 4 ↔ x = 10 ∨ x = 32 := by
  unfold kd
  constructor
  · intro h
    split at h
    · omega
    · split at h
      · omega
      · split at h
        · assumption
        · repeat' split at h
          all_goals omega
  · intro h
    rw [if_neg (by omega), if_neg (by omega), if_pos h]
theorem kd_lt (x : Nat) : kd x < 62 := by
  unfold kd
  repeat' split
  all_goals omega
theorem dg_lt {b : Tx} {p : Nat} : ∀ {n : Nat}, (∀ i, p ≤ i → i < p + n → kd (b.2 i) = 3) → dg b p n < 10 ^ n := by
  intro n
  induction n with
  | zero => intro _; exact Nat.one_pos
  | succ n ih =>
    intro h
    have h1 := ih (fun i a c => h i a (by omega))
    have h2 := kd3.mp (h (p + n) (by omega) (by omega))
    unfold dg
    rw [Nat.pow_succ]
    omega
theorem num_le {b : Tx} {e : Nat} {T : Tk} (h : TkI b e T) : num b T ≤ 10000 := by
  unfold num
  split
  · split
    · rename_i h1 h2
      have h3 := dg_lt (b := b) (p := T.1) (n := tln T) (fun i a c => (tWd h (Or.inr h1) i a (by have := tLe h; unfold tln at c; omega)).trans h1)
      have h4 : 10 ^ tln T ≤ 10 ^ 4 := Nat.pow_le_pow_right (by omega) h2
      omega
    · omega
  · omega
