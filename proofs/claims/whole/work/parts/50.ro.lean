/-! questions that only read: first the pure ones -/
def bt1 (i : Nat) : Int32 := (1 : Int32) <<< (nI i &&& (31 : Int32))
def fansF (r : Rw) (w : Int32) (i : Nat) (a : Int32) : Int32 := if r (72 + i) = w then a ||| bt1 i else a
def fans (c : Cy) (r : Rw) (w : Int32) : Int32 := itr (fansF r w) (cnp c) 0
def unthF (c : Cy) (r : Rw) (i : Nat) (a : Int32) : Int32 := if fans c r (nI i) = 0 then a ||| bt1 i else a
def unth (c : Cy) (r : Rw) : Int32 := itr (unthF c r) (cnp c) 0
def nearF (c : Cy) (w : Int32) (i : Nat) (a : Int32) : Int32 := if cne c i = w then a ||| bt1 i else a
def near_ (c : Cy) (w : Int32) : Int32 := itr (nearF c w) (cnp c) 0
def neig (c : Cy) (p : Nat) : Int32 := if cne c p = -1 then 0 else near_ c (cne c p) &&& (bt1 p ^^^ (-1))
def farF (c : Cy) (x i : Nat) (a : Int32) : Int32 := if cne c i = nI x then (if a = -1 then nI i else if ff (cba c x) (cpa c i) ≤ ff (cba c x) (cpa c a.toNatClampNeg) then a else nI i) else a
def far_ (c : Cy) (x : Nat) : Int32 := itr (farF c x) (cnp c) (-1)
def bestF (g : Nat → Int32) (i : Nat) (a : Int32) : Int32 := if a = -1 then nI i else if g i ≤ g a.toNatClampNeg then a else nI i
def best_ (g : Nat → Int32) (n : Nat) : Int32 := itr (bestF g) n (-1)
def emptF (r : Rw) (i : Nat) (a : Int32) : Int32 := if hIn r i = 0 then a ||| bt1 i else a
def empt (c : Cy) (r : Rw) : Int32 := itr (emptF r) (cnb c) 0
def whoF (r : Rw) (x i : Nat) (a : Int32) : Int32 := if r (8 + 8 * x + i) ≤ (if a = -1 then 0 else r (8 + 8 * x + a.toNatClampNeg)) then a else nI i
def who_ (c : Cy) (r : Rw) (x : Nat) : Int32 := itr (whoF r x) (cnp c) (-1)
def ixP (m : Nat) (a : Int32) : Prop := a = -1 ∨ ∃ x, x < m ∧ a = nI x
theorem ixP_n {m i : Nat} (h : i < m) : ixP m (nI i) := Or.inr ⟨i, h, rfl⟩
theorem ff_c {a b : Int32} : ff a b = ff b a := by
  unfold ff
  by_cases h : b ≤ a
  · rw [if_pos h]
    by_cases h2 : a ≤ b
    · rw [if_pos h2]
      have e : a = b := Int32.toInt_inj.mp (by have := Int32.le_iff_toInt_le.mp h; have := Int32.le_iff_toInt_le.mp h2; omega)
      rw [e]
    · rw [if_neg h2]
  · have h2 : a ≤ b := Int32.le_iff_toInt_le.mpr (by have this : ¬ b.toInt ≤ a.toInt := fun z => h (Int32.le_iff_toInt_le.mpr z); omega)
    rw [if_neg h, if_pos h2]
section
variable {N t k : Nat} {c : Cy} {S : am_S} {r : Nat → Int32}
theorem r_at (hI : CI c) (hk : Sk k) (hR : RC S k (72 + cnp c) r) {p : Nat} (hp : p < cnp c) : f_X7_atOf N k (nI p) S = some (r (72 + p), S) := c_atOf hk.1 (by omega) (by have := hI.1.2; omega) hR
theorem r_held (hI : CI c) (hN : 10000 ≤ N) (hk : Sk k) (hR : RC S k (72 + cnp c) r) {x : Nat} (hx : x < cnb c) : f_X7_heldIn N k (nI x) S = some (hIn r x, S) := c_heldIn hN hk.1 (by have := hI.1.1; omega) (by omega) hR
theorem r_heard (hI : CI c) (hk : Sk k) (hR : RC S k (72 + cnp c) r) {p : Nat} (hp : p < cnp c) : f_X7_heardBy N k (nI p) S = some (r (64 + p), S) := c_heardBy hk.1 (by have := hI.1.2; omega) (by omega) hR
theorem r_regret (hI : CI c) (hk : Sk k) (hR : RC S k (72 + cnp c) r) {p : Nat} (hp : p < cnp c) : f_X7_regretOf N k (nI p) S = some (r (56 + p), S) := c_regretOf hk.1 (by have := hI.1.2; omega) (by omega) hR
theorem r_heldOf (hI : CI c) (hk : Sk k) (hR : RC S k (72 + cnp c) r) {x p : Nat} (hx : x < cnb c) (hp : p < cnp c) : f_X7_heldOf N k (nI x) (nI p) S = some (r (8 + 8 * x + p), S) := c_heldOf hk.1 (by have := hI.1.1; omega) (by have := hI.1.2; omega) (by omega) hR
theorem c_fans {w : Int32} (hN : 10000 ≤ N) (hI : CI c) (ht : Ci t) (hk : Sk k) (hC : CC S t c) (hR : RC S k (72 + cnp c) r) : f_X1_fanBits N t k w S = some (fans c r w, S) := by
  have hnp := hI.1.2
  unfold f_X1_fanBits fans
  refine lp_eq (fun n a i => b_X1_fanBits_5 N n t k w a i S) (fansF r w) (fun a => some (a, S)) (cnp c) (fun _ _ => True) 0 trivial (fun _ _ _ _ => trivial) (fun n b _ => ?_) (fun n i b hi _ => ?_) N (by omega)
  · show b_X1_fanBits_5 N (n + 1) t k w b (nI (cnp c)) S = _
    unfold b_X1_fanBits_5
    rw [hC.1.2, leT (Nat.le_refl _) (by omega)]
  · show b_X1_fanBits_5 N (n + 1) t k w b (nI i) S = b_X1_fanBits_5 N n t k w (fansF r w i b) (nI (i + 1)) S
    rw [b_X1_fanBits_5]
    unfold b_X1_fanBits_31 fansF
    rw [hC.1.2, leF (by omega) (by omega), r_at hI hk hR hi, bd_some, nI1]
    split <;> rfl
theorem m_fans {w : Int32} (hN : 10000 ≤ N) (hI : CI c) (hC : CM S c) (hR : RM S 0 (72 + cnp c) r) : f_X10_fansOf N 78 w S = some (fans c r w, S) := by
  have hnp := hI.1.2
  unfold f_X10_fansOf fans
  refine lp_eq (fun n a i => b_X10_fansOf_4 N n 78 w a i S) (fansF r w) (fun a => some (a, S)) (cnp c) (fun _ _ => True) 0 trivial (fun _ _ _ _ => trivial) (fun n b _ => ?_) (fun n i b hi _ => ?_) N (by omega)
  · show b_X10_fansOf_4 N (n + 1) 78 w b (nI (cnp c)) S = _
    unfold b_X10_fansOf_4
    rw [hC.1.2, leT (Nat.le_refl _) (by omega)]
  · show b_X10_fansOf_4 N (n + 1) 78 w b (nI i) S = b_X10_fansOf_4 N n 78 w (fansF r w i b) (nI (i + 1)) S
    rw [b_X10_fansOf_4]
    unfold b_X10_fansOf_33 fansF
    have e : sg S 96 (72 + i) = r (72 + i) := by rw [← hR (72 + i) (by omega), Nat.zero_add]
    rw [hC.1.2, leF (by omega) (by omega), l72, nIa, r78_46, n96, inbT (by omega) (by decide), nIc (by omega), e, nI1, Int32.or_zero]
    split <;> rfl
theorem c_unth (hN : 10000 ≤ N) (hI : CI c) (ht : Ci t) (hk : Sk k) (hC : CC S t c) (hR : RC S k (72 + cnp c) r) : f_X1_unthoughtBits N t k S = some (unth c r, S) := by
  have hnp := hI.1.2
  unfold f_X1_unthoughtBits unth
  refine lp_eq (fun n a i => b_X1_unthoughtBits_4 N n t k a i S) (unthF c r) (fun a => some (a, S)) (cnp c) (fun _ _ => True) 0 trivial (fun _ _ _ _ => trivial) (fun n b _ => ?_) (fun n i b hi _ => ?_) N (by omega)
  · show b_X1_unthoughtBits_4 N (n + 1) t k b (nI (cnp c)) S = _
    unfold b_X1_unthoughtBits_4
    rw [hC.1.2, leT (Nat.le_refl _) (by omega)]
  · show b_X1_unthoughtBits_4 N (n + 1) t k b (nI i) S = b_X1_unthoughtBits_4 N n t k (unthF c r i b) (nI (i + 1)) S
    rw [b_X1_unthoughtBits_4]
    unfold b_X1_unthoughtBits_27 unthF
    rw [hC.1.2, leF (by omega) (by omega), c_fans hN hI ht hk hC hR, bd_some, nI1]
    split <;> rfl
theorem m_unth (hN : 10000 ≤ N) (hI : CI c) (hC : CM S c) (hR : RM S 0 (72 + cnp c) r) : f_X10_unthought N 78 S = some (unth c r, S) := by
  have hnp := hI.1.2
  unfold f_X10_unthought unth
  refine lp_eq (fun n a i => b_X10_unthought_4 N n 78 a i S) (unthF c r) (fun a => some (a, S)) (cnp c) (fun _ _ => True) 0 trivial (fun _ _ _ _ => trivial) (fun n b _ => ?_) (fun n i b hi _ => ?_) N (by omega)
  · show b_X10_unthought_4 N (n + 1) 78 b (nI (cnp c)) S = _
    unfold b_X10_unthought_4
    rw [hC.1.2, leT (Nat.le_refl _) (by omega)]
  · show b_X10_unthought_4 N (n + 1) 78 b (nI i) S = b_X10_unthought_4 N n 78 (unthF c r i b) (nI (i + 1)) S
    rw [b_X10_unthought_4]
    unfold b_X10_unthought_28 unthF
    rw [hC.1.2, leF (by omega) (by omega), m_fans hN hI hC hR, bd_some, nI1, Int32.or_zero]
    split <;> rfl
theorem c_near {w : Int32} (hN : 10000 ≤ N) (hI : CI c) (ht : Ci t) (hC : CC S t c) : f_X1_nearBits N t w S = some (near_ c w, S) := by
  have hnp := hI.1.2
  obtain ⟨-, ⟨-, -, -, -, -, -, t1, t2⟩, -⟩ := ht
  unfold f_X1_nearBits near_
  refine lp_eq (fun n a i => b_X1_nearBits_4 N n t w a i S) (nearF c w) (fun a => some (a, S)) (cnp c) (fun _ _ => True) 0 trivial (fun _ _ _ _ => trivial) (fun n b _ => ?_) (fun n i b hi _ => ?_) N (by omega)
  · show b_X1_nearBits_4 N (n + 1) t w b (nI (cnp c)) S = _
    unfold b_X1_nearBits_4
    rw [hC.1.2, leT (Nat.le_refl _) (by omega)]
  · show b_X1_nearBits_4 N (n + 1) t w b (nI i) S = b_X1_nearBits_4 N n t w (nearF c w i b) (nI (i + 1)) S
    rw [b_X1_nearBits_4]
    unfold b_X1_nearBits_28 nearF
    rw [hC.1.2, leF (by omega) (by omega), t1, t2, inbT (by omega) (by decide), nIc (by omega), hC.2.1.2.2.2 i hi, nI1]
    split <;> rfl
theorem m_near {w : Int32} (hN : 10000 ≤ N) (hI : CI c) (hC : CM S c) : f_X10_nearBy N 78 w S = some (near_ c w, S) := by
  have hnp := hI.1.2
  unfold f_X10_nearBy near_
  refine lp_eq (fun n a i => b_X10_nearBy_4 N n 78 w a i S) (nearF c w) (fun a => some (a, S)) (cnp c) (fun _ _ => True) 0 trivial (fun _ _ _ _ => trivial) (fun n b _ => ?_) (fun n i b hi _ => ?_) N (by omega)
  · show b_X10_nearBy_4 N (n + 1) 78 w b (nI (cnp c)) S = _
    unfold b_X10_nearBy_4
    rw [hC.1.2, leT (Nat.le_refl _) (by omega)]
  · show b_X10_nearBy_4 N (n + 1) 78 w b (nI i) S = b_X10_nearBy_4 N n 78 w (nearF c w i b) (nI (i + 1)) S
    rw [b_X10_nearBy_4]
    unfold b_X10_nearBy_29 nearF
    rw [hC.1.2, leF (by omega) (by omega), m_boxOf hN hI hC hi, bd_some, nI1, Int32.or_zero]
    split <;> rfl
theorem c_neig {p : Nat} (hN : 10000 ≤ N) (hI : CI c) (ht : Ci t) (hC : CC S t c) (hp : p < cnp c) : f_X1_neighbourBits N t (nI p) S = some (neig c p, S) := by
  have hnp := hI.1.2
  obtain ⟨-, ⟨-, -, -, -, -, -, t1, t2⟩, -⟩ := id ht
  unfold f_X1_neighbourBits b_X1_neighbourBits_27 neig
  rw [t1, t2, inbT (by omega) (by decide), nIc (by omega), hC.2.1.2.2.2 p hp, c_near hN hI ht hC, bd_some]
  split <;> rfl
/-- who, what has most -/
theorem bestP {g : Nat → Int32} {m i : Nat} {b : Int32} (hi : i < m) (hb : ixP m b) : ixP m (bestF g i b) := by
  unfold bestF
  split
  · exact ixP_n hi
  · split
    · exact hb
    · exact ixP_n hi
theorem c_fullest (hN : 10000 ≤ N) (hI : CI c) (hk : Sk k) (hC : CC S t c) (hR : RC S k (72 + cnp c) r) : f_X1_fullestBox N t k S = some (best_ (hIn r) (cnb c), S) := by
  have hnb := hI.1.1
  unfold f_X1_fullestBox best_
  refine lp_eq (fun n a i => b_X1_fullestBox_4 N n t k a i S) (bestF (hIn r)) (fun a => some (a, S)) (cnb c) (fun _ a => ixP (cnb c) a) (-1) (Or.inl rfl) (fun i b hi hb => bestP hi hb) (fun n b _ => ?_) (fun n i b hi hb => ?_) N (by omega)
  · show b_X1_fullestBox_4 N (n + 1) t k b (nI (cnb c)) S = _
    unfold b_X1_fullestBox_4
    rw [hC.1.1, leT (Nat.le_refl _) (by omega)]
  · show b_X1_fullestBox_4 N (n + 1) t k b (nI i) S = b_X1_fullestBox_4 N n t k (bestF (hIn r) i b) (nI (i + 1)) S
    rw [b_X1_fullestBox_4]
    unfold b_X1_fullestBox_30 b_X1_fullestBox_32 bestF
    rw [hC.1.1, leF (by omega) (by omega), nI1]
    rcases hb with hb | ⟨x, hx, hb⟩
    · rw [if_pos hb, if_pos hb]
    · rw [hb, eqmF (by omega), eqmF (by omega), r_held hI hN hk hR hi, bd_some, r_held hI hN hk hR hx, bd_some, nIc (by omega)]
      split <;> rfl
theorem c_loudest (hN : 10000 ≤ N) (hI : CI c) (hk : Sk k) (hC : CC S t c) (hR : RC S k (72 + cnp c) r) : f_X1_loudestPerson N t k S = some (best_ (fun p => r (64 + p)) (cnp c), S) := by
  have hnp := hI.1.2
  unfold f_X1_loudestPerson best_
  refine lp_eq (fun n a i => b_X1_loudestPerson_4 N n t k a i S) (bestF (fun p => r (64 + p))) (fun a => some (a, S)) (cnp c) (fun _ a => ixP (cnp c) a) (-1) (Or.inl rfl) (fun i b hi hb => bestP hi hb) (fun n b _ => ?_) (fun n i b hi hb => ?_) N (by omega)
  · show b_X1_loudestPerson_4 N (n + 1) t k b (nI (cnp c)) S = _
    unfold b_X1_loudestPerson_4
    rw [hC.1.2, leT (Nat.le_refl _) (by omega)]
  · show b_X1_loudestPerson_4 N (n + 1) t k b (nI i) S = b_X1_loudestPerson_4 N n t k (bestF (fun p => r (64 + p)) i b) (nI (i + 1)) S
    rw [b_X1_loudestPerson_4]
    unfold b_X1_loudestPerson_30 b_X1_loudestPerson_32 bestF
    rw [hC.1.2, leF (by omega) (by omega), nI1]
    rcases hb with hb | ⟨x, hx, hb⟩
    · rw [if_pos hb, if_pos hb]
    · rw [hb, eqmF (by omega), eqmF (by omega), r_heard hI hk hR hi, bd_some, r_heard hI hk hR hx, bd_some, nIc (by omega)]
      split <;> rfl
theorem c_saddest (hN : 10000 ≤ N) (hI : CI c) (hk : Sk k) (hC : CC S t c) (hR : RC S k (72 + cnp c) r) : f_X1_saddestPerson N t k S = some (best_ (fun p => r (56 + p)) (cnp c), S) := by
  have hnp := hI.1.2
  unfold f_X1_saddestPerson best_
  refine lp_eq (fun n a i => b_X1_saddestPerson_4 N n t k a i S) (bestF (fun p => r (56 + p))) (fun a => some (a, S)) (cnp c) (fun _ a => ixP (cnp c) a) (-1) (Or.inl rfl) (fun i b hi hb => bestP hi hb) (fun n b _ => ?_) (fun n i b hi hb => ?_) N (by omega)
  · show b_X1_saddestPerson_4 N (n + 1) t k b (nI (cnp c)) S = _
    unfold b_X1_saddestPerson_4
    rw [hC.1.2, leT (Nat.le_refl _) (by omega)]
  · show b_X1_saddestPerson_4 N (n + 1) t k b (nI i) S = b_X1_saddestPerson_4 N n t k (bestF (fun p => r (56 + p)) i b) (nI (i + 1)) S
    rw [b_X1_saddestPerson_4]
    unfold b_X1_saddestPerson_30 b_X1_saddestPerson_32 bestF
    rw [hC.1.2, leF (by omega) (by omega), nI1]
    rcases hb with hb | ⟨x, hx, hb⟩
    · rw [if_pos hb, if_pos hb]
    · rw [hb, eqmF (by omega), eqmF (by omega), r_regret hI hk hR hi, bd_some, r_regret hI hk hR hx, bd_some, nIc (by omega)]
      split <;> rfl
theorem m_fullest (hN : 10000 ≤ N) (hI : CI c) (hC : CM S c) (hR : RM S 80 (72 + cnp c) r) (hRI : RI c r) : f_X10_fullest N 78 S = some (best_ (hIn r) (cnb c), S) := by
  have hnb := hI.1.1
  unfold f_X10_fullest best_
  refine lp_eq (fun n a i => b_X10_fullest_4 N n 78 a i S) (bestF (hIn r)) (fun a => some (a, S)) (cnb c) (fun _ a => ixP (cnb c) a) (-1) (Or.inl rfl) (fun i b hi hb => bestP hi hb) (fun n b _ => ?_) (fun n i b hi hb => ?_) N (by omega)
  · show b_X10_fullest_4 N (n + 1) 78 b (nI (cnb c)) S = _
    unfold b_X10_fullest_4
    rw [hC.1.1, leT (Nat.le_refl _) (by omega)]
  · show b_X10_fullest_4 N (n + 1) 78 b (nI i) S = b_X10_fullest_4 N n 78 (bestF (hIn r) i b) (nI (i + 1)) S
    rw [b_X10_fullest_4]
    unfold b_X10_fullest_34 b_X10_fullest_36 bestF
    rw [hC.1.1, leF (by omega) (by omega), nI1]
    rcases hb with hb | ⟨x, hx, hb⟩
    · rw [if_pos hb, if_pos hb]
    · rw [hb, eqmF (by omega), eqmF (by omega), l80, m_heldIn hN (by omega) hI hC.1.2 hR hRI (by omega), bd_some, m_heldIn hN (by omega) hI hC.1.2 hR hRI (by omega), bd_some, nIc (by omega)]
      split <;> rfl
theorem m_mostOf {o : Nat} (ho : o = 56 ∨ o = 64) (hN : 10000 ≤ N) (hI : CI c) (hC : CM S c) (hR : RM S 80 (72 + cnp c) r) : f_X10_mostOf N 78 (nI o) S = some (best_ (fun p => r (o + p)) (cnp c), S) := by
  have hnp := hI.1.2
  unfold f_X10_mostOf best_
  refine lp_eq (fun n a i => b_X10_mostOf_4 N n 78 (nI o) a i S) (bestF (fun p => r (o + p))) (fun a => some (a, S)) (cnp c) (fun _ a => ixP (cnp c) a) (-1) (Or.inl rfl) (fun i b hi hb => bestP hi hb) (fun n b _ => ?_) (fun n i b hi hb => ?_) N (by omega)
  · show b_X10_mostOf_4 N (n + 1) 78 (nI o) b (nI (cnp c)) S = _
    unfold b_X10_mostOf_4
    rw [hC.1.2, leT (Nat.le_refl _) (by omega)]
  · show b_X10_mostOf_4 N (n + 1) 78 (nI o) b (nI i) S = b_X10_mostOf_4 N n 78 (nI o) (bestF (fun p => r (o + p)) i b) (nI (i + 1)) S
    rw [b_X10_mostOf_4]
    unfold b_X10_mostOf_42 b_X10_mostOf_44 bestF
    rw [hC.1.2, leF (by omega) (by omega), nI1]
    have e : ∀ j, j < cnp c → sg S 96 (80 + o + j) = r (o + j) := fun j hj => by rw [← hR (o + j) (by omega), Nat.add_assoc]
    rcases hb with hb | ⟨x, hx, hb⟩
    · rw [if_pos hb, if_pos hb]
    · rw [hb, eqmF (by omega), eqmF (by omega), l80, nIa, nIa, nIa, r78_46, n96, inbT (by omega) (by decide), inbT (by omega) (by decide), nIc (by omega), nIc (by omega), nIc (by omega), e i hi, e x hx]
      split <;> rfl
theorem c_empt (hN : 10000 ≤ N) (hI : CI c) (hk : Sk k) (hC : CC S t c) (hR : RC S k (72 + cnp c) r) : f_X1_emptyBits N t k S = some (empt c r, S) := by
  have hnb := hI.1.1
  unfold f_X1_emptyBits empt
  refine lp_eq (fun n a i => b_X1_emptyBits_4 N n t k a i S) (emptF r) (fun a => some (a, S)) (cnb c) (fun _ _ => True) 0 trivial (fun _ _ _ _ => trivial) (fun n b _ => ?_) (fun n i b hi _ => ?_) N (by omega)
  · show b_X1_emptyBits_4 N (n + 1) t k b (nI (cnb c)) S = _
    unfold b_X1_emptyBits_4
    rw [hC.1.1, leT (Nat.le_refl _) (by omega)]
  · show b_X1_emptyBits_4 N (n + 1) t k b (nI i) S = b_X1_emptyBits_4 N n t k (emptF r i b) (nI (i + 1)) S
    rw [b_X1_emptyBits_4]
    unfold b_X1_emptyBits_26 emptF
    rw [hC.1.1, leF (by omega) (by omega), r_held hI hN hk hR hi, bd_some, nI1]
    split <;> rfl
theorem m_empt (hN : 10000 ≤ N) (hI : CI c) (hC : CM S c) (hR : RM S 80 (72 + cnp c) r) (hRI : RI c r) : f_X10_emptyOnes N 78 S = some (empt c r, S) := by
  have hnb := hI.1.1
  unfold f_X10_emptyOnes empt
  refine lp_eq (fun n a i => b_X10_emptyOnes_4 N n 78 a i S) (emptF r) (fun a => some (a, S)) (cnb c) (fun _ _ => True) 0 trivial (fun _ _ _ _ => trivial) (fun n b _ => ?_) (fun n i b hi _ => ?_) N (by omega)
  · show b_X10_emptyOnes_4 N (n + 1) 78 b (nI (cnb c)) S = _
    unfold b_X10_emptyOnes_4
    rw [hC.1.1, leT (Nat.le_refl _) (by omega)]
  · show b_X10_emptyOnes_4 N (n + 1) 78 b (nI i) S = b_X10_emptyOnes_4 N n 78 (emptF r i b) (nI (i + 1)) S
    rw [b_X10_emptyOnes_4]
    unfold b_X10_emptyOnes_30 emptF
    rw [hC.1.1, leF (by omega) (by omega), l80, m_heldIn hN (by omega) hI hC.1.2 hR hRI (by omega), bd_some, nI1, Int32.or_zero]
    split <;> rfl
/-- farthest -/
def farM (c : Cy) (x : Nat) (a : Int32) : Int32 := if a = -1 then -1 else ff (cba c x) (cpa c a.toNatClampNeg)
theorem farP {x i : Nat} {b : Int32} (hi : i < cnp c) (hb : ixP (cnp c) b) : ixP (cnp c) (farF c x i b) := by
  unfold farF
  split
  · split
    · exact ixP_n hi
    · split
      · exact hb
      · exact ixP_n hi
  · exact hb
theorem ff_nn {a b : Int32} (ha : 0 ≤ a.toInt ∧ a.toInt ≤ 30) (hb : 0 ≤ b.toInt ∧ b.toInt ≤ 30) : 0 ≤ (ff a b).toInt ∧ (ff a b).toInt ≤ 30 := by
  unfold ff
  split
  · rename_i h
    have h2 := Int32.le_iff_toInt_le.mp h
    rw [tS (by omega) (by omega)]
    omega
  · rename_i h
    have h2 : ¬ b.toInt ≤ a.toInt := fun z => h (Int32.le_iff_toInt_le.mpr z)
    rw [tS (by omega) (by omega)]
    omega
theorem c_far {x : Nat} (hN : 10000 ≤ N) (hI : CI c) (ht : Ci t) (hC : CC S t c) (hx : x < cnb c) : f_X1_farthestFrom N t (nI x) S = some (far_ c x, S) := by
  have hnp := hI.1.2
  have hnb := hI.1.1
  obtain ⟨⟨t1, t2, -, -⟩, ⟨t3, t4, -, -, -, -, t5, t6⟩, -⟩ := ht
  unfold f_X1_farthestFrom far_
  refine lp_eq (fun n a i => b_X1_farthestFrom_7 N n t (nI x) a (farM c x a) i S) (farF c x) (fun a => some (a, S)) (cnp c) (fun _ a => ixP (cnp c) a) (-1) (Or.inl rfl) (fun i b hi hb => farP hi hb) (fun n b _ => ?_) (fun n i b hi hb => ?_) N (by omega)
  · show b_X1_farthestFrom_7 N (n + 1) t (nI x) b (farM c x b) (nI (cnp c)) S = _
    unfold b_X1_farthestFrom_7
    rw [hC.1.2, leT (Nat.le_refl _) (by omega)]
  · show b_X1_farthestFrom_7 N (n + 1) t (nI x) b (farM c x b) (nI i) S = b_X1_farthestFrom_7 N n t (nI x) (farF c x i b) (farM c x (farF c x i b)) (nI (i + 1)) S
    have e0 := ff_nn (hI.2.1.1 x hx) (hI.2.1.2.1 i hi)
    have e1 : farM c x (nI i) = ff (cba c x) (cpa c i) := by
      unfold farM
      rw [if_neg (nIn (by omega)), nIc (by omega)]
    rw [b_X1_farthestFrom_7]
    unfold b_X1_farthestFrom_58
    rw [hC.1.2, leF (by omega) (by omega), t1, t2, t3, t4, t5, t6, inbT (by omega) (by decide), inbT (by omega) (by decide), inbT (by omega) (by decide), nIc (by omega), nIc (by omega), hC.2.1.2.2.2 i hi, hC.2.1.1 x hx, hC.2.1.2.1 i hi, jabs_ff (hI.2.1.1 x hx) (hI.2.1.2.1 i hi), nI1]
    by_cases q : cne c i = nI x
    · have ef : farF c x i b = if b = -1 then nI i else if ff (cba c x) (cpa c i) ≤ ff (cba c x) (cpa c b.toNatClampNeg) then b else nI i := by
        unfold farF
        rw [if_pos q]
      rw [if_pos q, ef]
      rcases hb with hb | ⟨y, hy, hb⟩
      · have em : farM c x b = -1 := by
          unfold farM
          rw [if_pos hb]
        rw [em, if_neg (fun z => by have := Int32.le_iff_toInt_le.mp z; rw [tm1] at this; omega), if_pos hb, e1]
      · have em : farM c x b = ff (cba c x) (cpa c y) := by
          unfold farM
          rw [hb, if_neg (nIn (by omega)), nIc (by omega)]
        rw [em, if_neg (c := b = -1) (by rw [hb]; exact nIn (by omega)), hb, nIc (by omega)]
        by_cases q2 : ff (cba c x) (cpa c i) ≤ ff (cba c x) (cpa c y)
        · rw [if_pos q2, if_pos q2, ← hb, em]
        · rw [if_neg q2, if_neg q2, e1]
    · have ef : farF c x i b = b := by
        unfold farF
        rw [if_neg q]
      rw [if_neg q, ef]
theorem m_far {x : Nat} (hN : 10000 ≤ N) (hI : CI c) (hC : CM S c) (hx : x < cnb c) : f_X10_farthest N 78 (nI x) S = some (far_ c x, S) := by
  have hnp := hI.1.2
  have hnb := hI.1.1
  unfold f_X10_farthest far_
  refine lp_eq (fun n a i => b_X10_farthest_4 N n 78 (nI x) a i S) (farF c x) (fun a => some (a, S)) (cnp c) (fun _ a => ixP (cnp c) a) (-1) (Or.inl rfl) (fun i b hi hb => farP hi hb) (fun n b _ => ?_) (fun n i b hi hb => ?_) N (by omega)
  · show b_X10_farthest_4 N (n + 1) 78 (nI x) b (nI (cnp c)) S = _
    unfold b_X10_farthest_4
    rw [hC.1.2, leT (Nat.le_refl _) (by omega)]
  · show b_X10_farthest_4 N (n + 1) 78 (nI x) b (nI i) S = b_X10_farthest_4 N n 78 (nI x) (farF c x i b) (nI (i + 1)) S
    rw [b_X10_farthest_4]
    unfold b_X10_farthest_59 b_X10_farthest_61 farF
    rw [hC.1.2, leF (by omega) (by omega), m_boxOf hN hI hC hi, bd_some, nI1]
    by_cases q : cne c i = nI x
    · rw [if_pos q, if_pos q]
      rcases hb with hb | ⟨y, hy, hb⟩
      · rw [if_pos hb, if_pos hb]
      · rw [hb, eqmF (by omega), eqmF (by omega)]
        simp (disch := omega) only [r78_7, r78_8, r78_9, r78_10, r78_11, r78_12, r78_13, r78_17, r78_37, r78_38, r78_39, r78_40, r78_41, r78_42, r78_43, r78_44, r78_45, r78_46, r78_47, r78_49, r78_50, r78_53, r78_55, r78_57, r78_58, r78_59, r78_64, r78_65, r78_66, n79, n80, n81, n82, n83, n84, n85, n86, n87, n88, n89, n90, n91, n92, n93, n94, n95, n96, n97, n98, n99, n100, n101, n102, n103, n104, n105, n106, n107, inbT, nIc, m_off, bd_some, hC.2.1.1, hC.2.1.2.1]
        rw [ff_c (a := cpa c i), ff_c (a := cpa c y)]
        split <;> rfl
    · rw [if_neg q, if_neg q]
end
