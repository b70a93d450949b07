/-! what is so between calls, on either side -/
theorem sg_scp {S : am_S} {a s b d n k j : Nat} : sg (scp S a s b d n) k j = if k = b ∧ d ≤ j ∧ j < d + n then sg S a (s + (j - d)) else sg S k j := by
  unfold scp
  by_cases hk : k = b
  · subst hk
    rw [sgw]
    unfold va_cpy
    by_cases h : d ≤ j ∧ j < d + n
    · rw [if_pos h, if_pos ⟨rfl, h⟩]
      rfl
    · rw [if_neg h, if_neg (fun q => h q.2)]
      rfl
  · rw [sgwn hk, if_neg (fun q => hk q.1)]
theorem scp2 (S : am_S) (a s b d n : Nat) : (scp S a s b d n).2 = S.2 := rfl
theorem cpkT {β : Type} {X : Option β} {s d n la lb : Nat} (hs : s + n ≤ la) (hd : d + n ≤ lb) (h1 : la < 2147483648) (h2 : lb < 2147483648) : (if cpk (nI s) (nI d) (nI n) la lb = true then X else none) = X := by
  refine if_pos ?_
  unfold cpk
  rw [nIc (by omega), nIc (by omega), nIc (by omega), Nat.ble_eq_true_of_le hs, Nat.ble_eq_true_of_le hd, decide_eq_true (nI0 (by omega)), decide_eq_true (nI0 (by omega)), decide_eq_true (nI0 (by omega))]
  rfl
abbrev Rw : Type := Nat → Int32
abbrev Al : Type := Nat × (Nat → Rw)
abbrev Nl : Type := Nat × (Nat → Nat × Nat × Nat)
abbrev Av : Type := Rw × Al × Nl
/-- city, now, image, tape, place of the fault, refused -/
abbrev Ax : Type := Cy × Av × Option Av × (Nat × (Nat → Nat)) × Int32 × (Nat → Int32)
def WR (c : Cy) (r : Rw) : Prop := RI c r ∧ ∃ d, d ≤ 999 ∧ r 0 = nI d
def WV (c : Cy) (v : Av) : Prop := WR c v.1 ∧ (v.2.1.1 ≤ 40 ∧ ∀ i, i < v.2.1.1 → WR c (v.2.1.2 i)) ∧ (v.2.2.1 ≤ 8 ∧ ∀ i, i < v.2.2.1 → (v.2.2.2 i).1 < cnp c ∧ (v.2.2.2 i).2.1 ≤ 20 ∧ (v.2.2.2 i).2.2 ≤ 9999)
def WX (a : Ax) : Prop := CI a.1 ∧ WV a.1 a.2.1 ∧ (∀ v, a.2.2.1 = some v → WV a.1 v) ∧ (a.2.2.2.1.1 ≤ 700 ∧ ∀ i, a.2.2.2.1.2 i < 256)
/-- acts, notes: where the class keeps them -/
def AC (S : am_S) (np ka : Nat) (l : Al) : Prop := sg S ka 1 = nI l.1 ∧ ∃ nx, nx < 40 ∧ sg S ka 2 = nI nx ∧ ∀ i j, i < l.1 → j < 72 + np → sg S (ka + 1) (80 * ((nx + 40 - l.1 + i) % 40) + pm j) = l.2 i j
def NC (S : am_S) (kn : Nat) (l : Nl) : Prop := sg S kn 3 = nI l.1 ∧ ∀ i, i < l.1 → sg S (kn + 1) i = nI (l.2 i).1 ∧ sg S (kn + 2) i = nI (l.2 i).2.1 ∧ sg S (kn + 3) i = nI (l.2 i).2.2
def VC (S : am_S) (np k ka kn : Nat) (v : Av) : Prop := RC S k (72 + np) v.1 ∧ AC S np ka v.2.1 ∧ NC S kn v.2.2
/-- and the reference -/
def AM (S : am_S) (np f cl : Nat) (l : Al) : Prop := sg S 78 f = nI l.1 ∧ ∀ i j, i < l.1 → j < 72 + np → sg S cl (80 * i + j) = l.2 i j
def NM (S : am_S) (f cl : Nat) (l : Nl) : Prop := sg S 78 f = nI l.1 ∧ ∀ i, i < l.1 → sg S cl (3 * i) = nI (l.2 i).1 ∧ sg S cl (3 * i + 1) = nI (l.2 i).2.1 ∧ sg S cl (3 * i + 2) = nI (l.2 i).2.2
def RMc (S : am_S) (cl m : Nat) (r : Rw) : Prop := ∀ j, j < m → sg S cl j = r j
def sby (b : Nat) : Int32 := if b < 128 then nI b else nI b - 256
/-- best order, and how much is heard by it: filled in where it is proved -/
def OC (S : am_S) (c : Cy) (og : Rw → Int32) (ob : Rw → Nat → Int32) : Prop := sg S 58 4 = 0 ∨ (sg S 58 4 = 1 ∧ ∃ r, WR c r ∧ RC S 62 (72 + cnp c) r ∧ sg S 58 3 = og r ∧ ∀ i, i < cnb c → sg S 61 i = ob r i)
def HC (S : am_S) (t : Nat) : Prop := rg S 0 = t ∧ Ci t ∧ (rg S 1 = if t = 8 then 24 else 8)
def XC (S : am_S) (t : Nat) (a : Ax) : Prop := HC S t ∧ CC S t a.1 ∧ VC S (cnp a.1) 40 44 46 a.2.1 ∧ (match a.2.2.1 with
  | none => sg S 0 11 = 0
  | some v => sg S 0 11 = 1 ∧ VC S (cnp a.1) 50 52 54 v) ∧ (sg S 0 1 = nI a.2.2.2.1.1 ∧ ∀ j, j < a.2.2.2.1.1 → sg S 1 j = sby (a.2.2.2.1.2 j)) ∧ (sg S 0 3 = a.2.2.2.2.1 ∧ ∀ j, j < 3 → sg S 7 j = a.2.2.2.2.2 j)
def XM (S : am_S) (a : Ax) : Prop := (CM S a.1 ∧ MO S) ∧ (RM S 0 (72 + cnp a.1) a.2.1.1 ∧ AM S (cnp a.1) 48 97 a.2.1.2.1 ∧ NM S 56 102 a.2.1.2.2) ∧ (match a.2.2.1 with
  | none => sg S 78 61 = 0
  | some v => sg S 78 61 = 1 ∧ RMc S 105 (72 + cnp a.1) v.1 ∧ AM S (cnp a.1) 62 106 v.2.1 ∧ NM S 63 107 v.2.2) ∧ (sg S 78 14 = nI a.2.2.2.1.1 ∧ ∀ j, j < a.2.2.2.1.1 → sg S 85 j = nI (a.2.2.2.1.2 j)) ∧ (sg S 78 16 = a.2.2.2.2.1 ∧ ∀ j, j < 3 → sg S 86 j = a.2.2.2.2.2 j)
/-- what a question may write in the class -/
def qC (t : Nat) : Nat → Nat → Prop := fun k j => k = 43 ∨ k = t + 11 ∨ k = t + 14 ∨ k = t + 15 ∨ k = 77 ∨ (k = 0 ∧ j = 18)
/-- and one more row -/
def qC6 (t : Nat) : Nat → Nat → Prop := fun k j => qC t k j ∨ k = 76
/-- and in the reference -/
def qM : Nat → Nat → Prop := fun k j => (k = 78 ∧ (j = 0 ∨ j = 54 ∨ j = 60)) ∨ k = 98 ∨ k = 99 ∨ (k = 96 ∧ 80 ≤ j ∧ j < 160) ∨ k = 100 ∨ k = 101 ∨ k = 103 ∨ k = 104
section
variable {S S' : am_S} {np k ka kn : Nat}
theorem AC_same {l : Al} (h : AC S np ka l) (hs : ∀ a j, a = ka ∨ a = ka + 1 → sg S' a j = sg S a j) : AC S' np ka l := by
  obtain ⟨h1, nx, h2, h3, h4⟩ := h
  exact ⟨(hs _ _ (by omega)).trans h1, nx, h2, (hs _ _ (by omega)).trans h3, fun i j hi hj => (hs _ _ (by omega)).trans (h4 i j hi hj)⟩
theorem NC_same {l : Nl} (h : NC S kn l) (hs : ∀ a j, a = kn ∨ a = kn + 1 ∨ a = kn + 2 ∨ a = kn + 3 → sg S' a j = sg S a j) : NC S' kn l := by
  obtain ⟨h1, h2⟩ := h
  exact ⟨(hs _ _ (by omega)).trans h1, fun i hi => ⟨(hs _ _ (by omega)).trans (h2 i hi).1, (hs _ _ (by omega)).trans (h2 i hi).2.1, (hs _ _ (by omega)).trans (h2 i hi).2.2⟩⟩
theorem VC_same {v : Av} (h : VC S np k ka kn v) (hs : ∀ a j, a = k + 1 ∨ a = ka ∨ a = ka + 1 ∨ a = kn ∨ a = kn + 1 ∨ a = kn + 2 ∨ a = kn + 3 → sg S' a j = sg S a j) : VC S' np k ka kn v :=
  ⟨RC_same h.1 (fun j => hs _ _ (by omega)), AC_same h.2.1 (fun a j ha => hs _ _ (by omega)), NC_same h.2.2 (fun a j ha => hs _ _ (by omega))⟩
theorem AM_same {l : Al} {f cl : Nat} (h : AM S np f cl l) (hf : sg S' 78 f = sg S 78 f) (hs : ∀ j, sg S' cl j = sg S cl j) : AM S' np f cl l :=
  ⟨hf.trans h.1, fun i j hi hj => (hs _).trans (h.2 i j hi hj)⟩
theorem NM_same {l : Nl} {f cl : Nat} (h : NM S f cl l) (hf : sg S' 78 f = sg S 78 f) (hs : ∀ j, sg S' cl j = sg S cl j) : NM S' f cl l :=
  ⟨hf.trans h.1, fun i hi => ⟨(hs _).trans (h.2 i hi).1, (hs _).trans (h.2 i hi).2.1, (hs _).trans (h.2 i hi).2.2⟩⟩
end
theorem HC_same {S S' : am_S} {t : Nat} (h : HC S t) (hs : S'.2.2 = S.2.2) : HC S' t := by
  unfold HC rg at *
  rw [hs]
  exact h
theorem HC_t {S : am_S} {t : Nat} (h : HC S t) : t = 8 ∨ t = 24 := h.2.1.2.2.2.2.1
theorem XC_same {S S' : am_S} {t : Nat} {a : Ax} (h : XC S t a) (h2 : S'.2.2 = S.2.2) (hs : ∀ k j, (t ≤ k ∧ k < t + 15 ∧ ¬ k = t + 11 ∧ ¬ k = t + 14) ∨ (k = 0 ∧ (j = 1 ∨ j = 3 ∨ j = 11)) ∨ k = 1 ∨ k = 7 ∨ k = 41 ∨ (44 ≤ k ∧ k ≤ 57) → sg S' k j = sg S k j) : XC S' t a := by
  obtain ⟨a1, a2, a3, a4, ⟨a5, a6⟩, ⟨a7, a8⟩⟩ := h
  refine ⟨HC_same a1 h2, CC_same a2 (fun k j k1 k2 k3 k4 => hs k j (by omega)), VC_same a3 (fun k j hk => hs k j (by omega)), ?_, ⟨(hs _ _ (by omega)).trans a5, fun j hj => (hs _ _ (by omega)).trans (a6 j hj)⟩, ⟨(hs _ _ (by omega)).trans a7, fun j hj => (hs _ _ (by omega)).trans (a8 j hj)⟩⟩
  cases hv : a.2.2.1 with
  | none =>
    rw [hv] at a4
    exact (hs _ _ (by omega)).trans a4
  | some v =>
    rw [hv] at a4
    exact ⟨(hs _ _ (by omega)).trans a4.1, VC_same a4.2 (fun k j hk => hs k j (by omega))⟩
theorem XM_same {S S' : am_S} {a : Ax} (h : XM S a) (hs : ∀ k j, (78 ≤ k ∧ k ≤ 86 ∧ ¬ (k = 78 ∧ (j = 0 ∨ j = 54 ∨ j = 60))) ∨ (k = 96 ∧ j < 80) ∨ k = 97 ∨ k = 102 ∨ (105 ≤ k ∧ k ≤ 107) → sg S' k j = sg S k j) (hp : cnp a.1 ≤ 8) : XM S' a := by
  obtain ⟨⟨a1, b1, b2⟩, ⟨a2, a3, a9⟩, a4, ⟨a5, a6⟩, ⟨a7, a8⟩⟩ := h
  refine ⟨⟨CM_same a1 (fun k j hk => hs k j (by unfold mC at hk; omega)), (hs _ _ (by omega)).trans b1, (hs _ _ (by omega)).trans b2⟩, ⟨RM_same a2 (fun j hj => hs _ _ (by omega)), AM_same a3 (hs _ _ (by omega)) (fun j => hs _ _ (by omega)), NM_same a9 (hs _ _ (by omega)) (fun j => hs _ _ (by omega))⟩, ?_, ⟨(hs _ _ (by omega)).trans a5, fun j hj => (hs _ _ (by omega)).trans (a6 j hj)⟩, ⟨(hs _ _ (by omega)).trans a7, fun j hj => (hs _ _ (by omega)).trans (a8 j hj)⟩⟩
  cases hv : a.2.2.1 with
  | none =>
    rw [hv] at a4
    exact (hs _ _ (by omega)).trans a4
  | some v =>
    rw [hv] at a4
    obtain ⟨c1, c2, c3, c4⟩ := a4
    exact ⟨(hs _ _ (by omega)).trans c1, fun j hj => (hs _ _ (by omega)).trans (c2 j hj), AM_same c3 (hs _ _ (by omega)) (fun j => hs _ _ (by omega)), NM_same c4 (hs _ _ (by omega)) (fun j => hs _ _ (by omega))⟩
theorem XC_q {S S' : am_S} {t : Nat} {a : Ax} (h : XC S t a) (hf : Fm (qC6 t) S S') : XC S' t a := by
  have ht := HC_t h.1
  exact XC_same h (by rw [hf.2]) (fun k j hk => hf.1 k j (by unfold qC6 qC; omega))
theorem XM_q {S S' : am_S} {a : Ax} (h : XM S a) (hp : cnp a.1 ≤ 8) (hf : Fm qM S S') : XM S' a :=
  XM_same h (fun k j hk => hf.1 k j (by unfold qM; omega)) hp
/-- each side leaves the other alone -/
theorem XM_c {S S' : am_S} {a : Ax} (h : XM S a) (hp : cnp a.1 ≤ 8) (hf : ∀ k j, 78 ≤ k → sg S' k j = sg S k j) : XM S' a := XM_same h (fun k j hk => hf k j (by omega)) hp
theorem XC_m {S S' : am_S} {t : Nat} {a : Ax} (h : XC S t a) (h2 : S'.2.2 = S.2.2) (hf : ∀ k j, k < 78 → sg S' k j = sg S k j) : XC S' t a := by
  have ht := HC_t h.1
  exact XC_same h h2 (fun k j hk => hf k j (by omega))
theorem OC_same {S S' : am_S} {c : Cy} {og : Rw → Int32} {ob : Rw → Nat → Int32} (h : OC S c og ob) (hs : ∀ k j, k = 58 ∨ k = 61 ∨ k = 63 → sg S' k j = sg S k j) : OC S' c og ob := by
  rcases h with h | ⟨h1, r, h2, h3, h4, h5⟩
  · exact Or.inl ((hs _ _ (by omega)).trans h)
  · exact Or.inr ⟨(hs _ _ (by omega)).trans h1, r, h2, RC_same h3 (fun j => hs _ _ (by omega)), (hs _ _ (by omega)).trans h4, fun i hi => (hs _ _ (by omega)).trans (h5 i hi)⟩
/-- numbers that are asked for -/
def vB (x : Int32) (n : Nat) : Prop := ¬ x < 0 ∧ x < nI n
theorem vB_n {x : Int32} {n : Nat} (h : vB x n) (hn : n < 2147483648) : ∃ i, i < n ∧ x = nI i := by
  have h0 : 0 ≤ x.toInt := by
    have this : ¬ x.toInt < (0 : Int32).toInt := fun z => h.1 (Int32.lt_iff_toInt_lt.mpr z)
    rw [t0] at this
    omega
  refine ⟨x.toInt.toNat, ?_, ofI h0⟩
  have h1 := Int32.lt_iff_toInt_lt.mp h.2
  rw [nIi hn] at h1
  omega
theorem vB_i {i n : Nat} (h : i < n) (hn : n < 2147483648) : vB (nI i) n := ⟨nI0 (by omega), (nIlt (by omega) hn).mpr h⟩
def vR (x : Int32) (a b : Nat) : Prop := ¬ x < nI a ∧ x ≤ nI b
theorem vR_n {x : Int32} {a b : Nat} (h : vR x a b) (ha : a < 2147483648) (hb : b < 2147483648) : ∃ i, a ≤ i ∧ i ≤ b ∧ x = nI i := by
  have h0 : (a : Int) ≤ x.toInt := by
    have this : ¬ x.toInt < (nI a).toInt := fun z => h.1 (Int32.lt_iff_toInt_lt.mpr z)
    rw [nIi ha] at this
    omega
  refine ⟨x.toInt.toNat, by omega, ?_, ofI (by omega)⟩
  have h1 := Int32.le_iff_toInt_le.mp h.2
  rw [nIi hb] at h1
  omega
theorem vR_i {i a b : Nat} (h : a ≤ i) (h2 : i ≤ b) (hn : b < 2147483648) : vR (nI i) a b := ⟨fun q => by have := (nIlt (by omega) (by omega)).mp q; omega, (nIle (by omega) hn).mpr h2⟩
theorem le_of_nlt {a b : Int32} (h : ¬ a < b) : b ≤ a := by
  rw [Int32.le_iff_toInt_le]
  rw [Int32.lt_iff_toInt_lt] at h
  omega
theorem nlt_of_le {a b : Int32} (h : b ≤ a) : ¬ a < b := by
  rw [Int32.le_iff_toInt_le] at h
  rw [Int32.lt_iff_toInt_lt]
  omega
section
variable {N t : Nat} {S : am_S} {c : Cy}
theorem g_isC {β : Type} {X : Option β} (h : HC S t) : (if isC 1 (rg S 0) = true then X else none) = X := if_pos (by rw [h.1]; exact h.2.1.2.2.2.2.2)
theorem g_box {x : Int32} (h : HC S t) (hC : CC S t c) : (vB x (cnb c) → f_X9_needBox N 0 x S = some (.inl 0, S)) ∧ (¬ vB x (cnb c) → f_X9_needBox N 0 x S = some (.inr 0, S)) := by
  unfold f_X9_needBox b_X9_needBox_15 vB
  rw [g_isC h, h.1, hC.1.1]
  constructor
  · intro q
    rw [if_neg q.1, if_pos q.2]
  · intro q
    by_cases q1 : x < 0
    · rw [if_pos q1]
    · rw [if_neg q1, if_neg (fun z => q ⟨q1, z⟩)]
theorem g_person {x : Int32} (h : HC S t) (hC : CC S t c) : (vB x (cnp c) → f_X9_needPerson N 0 x S = some (.inl 0, S)) ∧ (¬ vB x (cnp c) → f_X9_needPerson N 0 x S = some (.inr 0, S)) := by
  unfold f_X9_needPerson b_X9_needPerson_15 vB
  rw [g_isC h, h.1, hC.1.2]
  constructor
  · intro q
    rw [if_neg q.1, if_pos q.2]
  · intro q
    by_cases q1 : x < 0
    · rw [if_pos q1]
    · rw [if_neg q1, if_neg (fun z => q ⟨q1, z⟩)]
theorem g_what {x : Int32} {m : Nat} : (vR x 0 m → f_X9_needWhat N x (nI m) S = some (.inl 0, S)) ∧ (¬ vR x 0 m → f_X9_needWhat N x (nI m) S = some (.inr 0, S)) := by
  unfold f_X9_needWhat b_X9_needWhat_9 vR
  rw [← l0]
  constructor
  · intro q
    rw [if_neg q.1, if_pos q.2]
  · intro q
    by_cases q1 : x < 0
    · rw [if_pos q1]
    · rw [if_neg q1, if_neg (fun z => q ⟨q1, z⟩)]
theorem g_range {x : Int32} {a m : Nat} : (vR x a m → f_X9_needRange N x (nI a) (nI m) S = some (.inl 0, S)) ∧ (¬ vR x a m → f_X9_needRange N x (nI a) (nI m) S = some (.inr 1, S)) := by
  unfold f_X9_needRange b_X9_needRange_10 vR
  constructor
  · intro q
    rw [if_neg q.1, if_pos q.2]
  · intro q
    by_cases q1 : x < nI a
    · rw [if_pos q1]
    · rw [if_neg q1, if_neg (fun z => q ⟨q1, z⟩)]
/-- the reference's own -/
theorem h_right {S : am_S} {v : Int32} (h0 : sg S 78 0 = 0) : f_X10_right N 78 1 v S = some (1, S) := by
  unfold f_X10_right b_X10_right_16 b_X10_right_28
  rw [h0, if_pos rfl, if_neg (by decide), if_pos rfl, isB1, ckT]
theorem h_wrong {S : am_S} {v : Int32} (h0 : sg S 78 0 = 0) (hv : ¬ v = 0) : f_X10_right N 78 0 v S = some (0, sp S 78 0 v) := by
  unfold f_X10_right b_X10_right_16 b_X10_right_28
  rw [h0, if_pos rfl, if_pos rfl, sgp, if_neg hv, isB0, ckT]
theorem h_within {S : am_S} {x : Int32} {a b : Nat} : f_X10_within N x (nI a) (nI b) S = some (if ¬ x < nI a ∧ x ≤ nI b then 1 else 0, S) := by
  unfold f_X10_within b_X10_within_14 b_X10_within_15
  rw [isB0, isB1, ckT, ckT]
  by_cases q1 : x < nI a
  · rw [if_pos q1, if_neg (fun z => z.1 q1)]
  · rw [if_neg q1]
    by_cases q2 : nI b < x
    · rw [if_pos q2, if_neg (fun z => nlt_of_le z.2 q2)]
    · rw [if_neg q2, if_pos ⟨q1, le_of_nlt q2⟩]
theorem h_box {S : am_S} {x : Int32} {n : Nat} (h0 : sg S 78 0 = 0) (hn : sg S 78 1 = nI n) : (vB x n → f_X10_isBox N 78 x S = some (1, S)) ∧ (¬ vB x n → f_X10_isBox N 78 x S = some (0, sp S 78 0 1)) := by
  unfold f_X10_isBox b_X10_isBox_17 b_X10_isBox_18 vB
  rw [h_right h0, h_wrong h0 (by decide), bd_some, bd_some, isB0, isB1, ckT, ckT, hn]
  constructor
  · intro q
    rw [if_neg q.1, if_neg (fun z => nlt_of_le z q.2)]
  · intro q
    by_cases q1 : x < 0
    · rw [if_pos q1]
    · rw [if_neg q1, if_pos (le_of_nlt (fun z => q ⟨q1, z⟩))]
theorem h_person {S : am_S} {x : Int32} {n : Nat} (h0 : sg S 78 0 = 0) (hn : sg S 78 2 = nI n) : (vB x n → f_X10_isPerson N 78 x S = some (1, S)) ∧ (¬ vB x n → f_X10_isPerson N 78 x S = some (0, sp S 78 0 1)) := by
  unfold f_X10_isPerson b_X10_isPerson_17 b_X10_isPerson_18 vB
  rw [h_right h0, h_wrong h0 (by decide), bd_some, bd_some, isB0, isB1, ckT, ckT, hn]
  constructor
  · intro q
    rw [if_neg q.1, if_neg (fun z => nlt_of_le z q.2)]
  · intro q
    by_cases q1 : x < 0
    · rw [if_pos q1]
    · rw [if_neg q1, if_pos (le_of_nlt (fun z => q ⟨q1, z⟩))]
theorem h_what {S : am_S} {x : Int32} {m : Nat} (h0 : sg S 78 0 = 0) : (vR x 0 m → f_X10_isWhat N 78 x (nI m) S = some (1, S)) ∧ (¬ vR x 0 m → f_X10_isWhat N 78 x (nI m) S = some (0, sp S 78 0 1)) := by
  unfold f_X10_isWhat vR
  rw [l0, h_within, bd_some]
  constructor
  · intro q
    rw [if_pos q, h_right h0, bd_some, isB1, ckT]
  · intro q
    rw [if_neg q, ← l0, h_wrong h0 (by decide), bd_some, isB0, ckT]
theorem h_days {S : am_S} {x : Int32} {a e : Nat} (h0 : sg S 78 0 = 0) (he : e = 1 ∨ e = 2) : (vR x a 40 → f_X10_isDays N 78 x (nI a) (nI e) S = some (1, S)) ∧ (¬ vR x a 40 → f_X10_isDays N 78 x (nI a) (nI e) S = some (0, sp S 78 0 (nI e))) := by
  unfold f_X10_isDays vR
  rw [l40, h_within, bd_some]
  constructor
  · intro q
    rw [if_pos q, h_right h0, bd_some, isB1, ckT]
  · intro q
    rw [if_neg q, h_wrong h0 (by rcases he with h | h <;> subst h <;> decide), bd_some, isB0, ckT]
end
