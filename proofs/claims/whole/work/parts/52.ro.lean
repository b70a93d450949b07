/-! covering; couples; whom one comes to -/
def bitS (s : Int32) (x : Nat) : Bool := decide ((s >>> (nI x &&& (31 : Int32))) &&& 1 = 1)
def hitB (c : Cy) (far s : Int32) (p x : Nat) : Bool := bitS s x && decide (ff (cba c x) (cpa c p) ≤ far)
def nrB (c : Cy) (far s : Int32) (p : Nat) : Bool := anyN (hitB c far s p) (cnb c)
def allB (c : Cy) (far s : Int32) : Bool := !(anyN (fun p => !(nrB c far s p)) (cnp c))
def bc (i : Nat) : Int32 := sI (fun k => (nI i >>> (nI k &&& (31 : Int32))) &&& 1) 8
def covF (c : Cy) (far : Int32) (i : Nat) (a : Int32) : Int32 := if allB c far (nI i) = true then (if a = -1 then nI i else if bc a.toNatClampNeg ≤ bc i then a else nI i) else a
def cov_ (c : Cy) (far : Int32) : Int32 := itr (covF c far) (2 ^ cnb c) (-1)
def Sz : am_S := (fun _ _ => 0, fun _ => 0, fun _ => 0)
theorem bc_ok : ∀ i, i < 64 → (f_J6_bitCount_0f7a4 0 (nI i) Sz).map Prod.fst = some (bc i) := by decide +kernel
theorem c_bc {N i : Nat} {S : am_S} (hi : i < 64) : f_J6_bitCount_0f7a4 N (nI i) S = some (bc i, S) := by
  have h := bc_ok i hi
  unfold f_J6_bitCount_0f7a4 at h ⊢
  have h2 := Option.some.inj h
  rw [← h2]
theorem m_bc {N i : Nat} {S : am_S} (hN : 10000 ≤ N) : f_X10_bits N (nI i) S = some (bc i, S) := by
  unfold f_X10_bits
  refine lp_sI (fun n v j => b_X10_bits_4 N n (nI i) v j S) (fun k => (nI i >>> (nI k &&& (31 : Int32))) &&& 1) (fun v => some (v, S)) 8 (fun n v => ?_) (fun n j v hj => ?_) N (by omega)
  · show b_X10_bits_4 N (n + 1) (nI i) v (nI 8) S = _
    unfold b_X10_bits_4
    rw [l8, leT (Nat.le_refl _) (by omega)]
  · show b_X10_bits_4 N (n + 1) (nI i) v (nI j) S = b_X10_bits_4 N n (nI i) (v + _) (nI (j + 1)) S
    rw [b_X10_bits_4]
    rw [l8, leF (by omega) (by omega), nI1]
theorem bt1_n : ∀ i, i < 8 → bt1 i = nI (2 ^ i) := by decide +kernel
theorem pow6 : ∀ i, i ≤ 6 → 2 ^ i ≤ 64 := by decide
section
variable {N t : Nat} {c : Cy} {S : am_S}
theorem c_covers {far s : Int32} {p : Nat} (hN : 10000 ≤ N) (hI : CI c) (ht : Ci t) (hC : CC S t c) (hp : p < cnp c) : f_X1_covers N t s far (cpa c p) S = some (bI (nrB c far s p), S) := by
  have hnb := hI.1.1
  obtain ⟨⟨t1, t2, -, -⟩, -⟩ := ht
  unfold f_X1_covers
  have h := lp_any (fun n i => b_X1_covers_3 N n t s far (cpa c p) i S) (hitB c far s p) (cnb c) (some (1, S)) (some (0, S)) (fun n => by
    show b_X1_covers_3 N (n + 1) t s far (cpa c p) (nI (cnb c)) S = _
    unfold b_X1_covers_3
    rw [hC.1.1, leT (Nat.le_refl _) (by omega)]) (fun n i hi hh => by
    show b_X1_covers_3 N (n + 1) t s far (cpa c p) (nI i) S = b_X1_covers_3 N n t s far (cpa c p) (nI (i + 1)) S
    rw [b_X1_covers_3]
    unfold b_X1_covers_40
    rw [hC.1.1, leF (by omega) (by omega), t1, t2, inbT (by omega) (by decide), nIc (by omega), hC.2.1.1 i hi, jabs_ff (hI.2.1.1 i hi) (hI.2.1.2.1 p hp), nI1]
    unfold hitB bitS at hh
    by_cases q : (s >>> (nI i &&& (31 : Int32))) &&& 1 = 1
    · rw [if_pos q]
      rw [decide_eq_true q, Bool.true_and] at hh
      rw [if_pos (by
        have := of_decide_eq_false hh
        rw [Int32.le_iff_toInt_le] at this
        rw [Int32.lt_iff_toInt_lt]
        omega)]
    · rw [if_neg q]) (fun n i hi hh => by
    show b_X1_covers_3 N (n + 1) t s far (cpa c p) (nI i) S = _
    unfold b_X1_covers_3 b_X1_covers_40
    rw [hC.1.1, leF (by omega) (by omega), t1, t2, inbT (by omega) (by decide), nIc (by omega), hC.2.1.1 i hi, jabs_ff (hI.2.1.1 i hi) (hI.2.1.2.1 p hp)]
    unfold hitB bitS at hh
    rw [Bool.and_eq_true] at hh
    rw [if_pos (of_decide_eq_true hh.1), if_neg (nlt_of_le (of_decide_eq_true hh.2))]) N (by omega)
  refine h.trans ?_
  unfold nrB
  cases anyN (hitB c far s p) (cnb c) <;> rfl
theorem c_coversAll {far s : Int32} (hN : 10000 ≤ N) (hI : CI c) (ht : Ci t) (hC : CC S t c) : f_X1_coversAll N t s far S = some (bI (allB c far s), S) := by
  have hnp := hI.1.2
  obtain ⟨-, ⟨t3, t4, -⟩, -⟩ := id ht
  unfold f_X1_coversAll
  have h := lp_any (fun n i => b_X1_coversAll_2 N n t s far i S) (fun p => !(nrB c far s p)) (cnp c) (some (0, S)) (some (1, S)) (fun n => by
    show b_X1_coversAll_2 N (n + 1) t s far (nI (cnp c)) S = _
    unfold b_X1_coversAll_2
    rw [hC.1.2, leT (Nat.le_refl _) (by omega)]) (fun n i hi hh => by
    show b_X1_coversAll_2 N (n + 1) t s far (nI i) S = b_X1_coversAll_2 N n t s far (nI (i + 1)) S
    rw [b_X1_coversAll_2]
    rw [hC.1.2, leF (by omega) (by omega), t3, t4, inbT (by omega) (by decide), nIc (by omega), hC.2.1.2.1 i hi, c_covers hN hI ht hC hi, bd_some, nI1]
    have hh2 : nrB c far s i = true := by simpa using hh
    rw [hh2]
    exact if_neg (by decide)) (fun n i hi hh => by
    show b_X1_coversAll_2 N (n + 1) t s far (nI i) S = _
    unfold b_X1_coversAll_2
    rw [hC.1.2, leF (by omega) (by omega), t3, t4, inbT (by omega) (by decide), nIc (by omega), hC.2.1.2.1 i hi, c_covers hN hI ht hC hi, bd_some]
    have hh2 : nrB c far s i = false := by simpa using hh
    rw [hh2]
    exact if_pos rfl) N (by omega)
  refine h.trans ?_
  unfold allB
  cases anyN (fun p => !(nrB c far s p)) (cnp c) <;> rfl
theorem covP {far : Int32} {i m : Nat} {b : Int32} (hi : i < m) (hb : ixP m b) : ixP m (covF c far i b) := by
  unfold covF
  split
  · split
    · exact ixP_n hi
    · split
      · exact hb
      · exact ixP_n hi
  · exact hb
theorem c_cov {far : Int32} (hN : 10000 ≤ N) (hI : CI c) (ht : Ci t) (hC : CC S t c) : f_X1_fewestCovering N t far S = some (cov_ c far, S) := by
  have hnb := hI.1.1
  have h2 := pow6 (cnb c) hnb
  have e2 : ((1 : Int32) <<< (nI (cnb c) &&& (31 : Int32))) = nI (2 ^ cnb c) := bt1_n (cnb c) (by omega)
  unfold f_X1_fewestCovering cov_
  refine lp_eq (fun n a i => b_X1_fewestCovering_4 N n t far a i S) (covF c far) (fun a => some (a, S)) (2 ^ cnb c) (fun _ a => ixP (2 ^ cnb c) a) (-1) (Or.inl rfl) (fun i b hi hb => covP hi hb) (fun n b _ => ?_) (fun n i b hi hb => ?_) N (by omega)
  · show b_X1_fewestCovering_4 N (n + 1) t far b (nI (2 ^ cnb c)) S = _
    unfold b_X1_fewestCovering_4
    rw [hC.1.1, e2, leT (Nat.le_refl _) (by omega)]
  · show b_X1_fewestCovering_4 N (n + 1) t far b (nI i) S = b_X1_fewestCovering_4 N n t far (covF c far i b) (nI (i + 1)) S
    rw [b_X1_fewestCovering_4]
    unfold b_X1_fewestCovering_30 b_X1_fewestCovering_35 b_X1_fewestCovering_53 covF
    rw [hC.1.1, e2, leF (by omega) (by omega), nI1]
    rcases hb with hb | ⟨y, hy, hb⟩
    · rw [if_pos hb, if_neg (by decide : ¬ (1 : Int32) = 0), c_coversAll hN hI ht hC, bd_some]
      cases allB c far (nI i) with
      | false => rw [if_pos bI0, if_neg (by decide)]
      | true => rw [if_neg (by decide), if_pos rfl, if_pos hb]
    · rw [hb, eqmF (by omega), eqmF (by omega), c_bc (by omega), bd_some, c_bc (by omega), bd_some, nIc (by omega), if_pos (rfl : (0 : Int32) = 0), if_neg (by decide : ¬ (1 : Int32) = 0), c_coversAll hN hI ht hC, bd_some]
      cases allB c far (nI i) with
      | false =>
        rw [if_pos bI0, if_neg (by decide : ¬ false = true)]
        split <;> rfl
      | true =>
        rw [if_neg (by decide : ¬ bI true = 0), if_pos (rfl : true = true)]
        split <;> rfl
theorem m_cov {far : Int32} (hN : 10000 ≤ N) (hI : CI c) (hC : CM S c) : b_X10_toCover_26 N N 78 far (-1) 0 S = some (cov_ c far, S) := by
  have hnb := hI.1.1
  have hnp := hI.1.2
  have h2 := pow6 (cnb c) hnb
  have e2 : ((1 : Int32) <<< (nI (cnb c) &&& (31 : Int32))) = nI (2 ^ cnb c) := bt1_n (cnb c) (by omega)
  unfold cov_
  have inner : ∀ (k26 : Nat → Int32 → Int32 → Int32 → am_S → Option (Int32 × am_S)) (k42 : Nat → Int32 → Int32 → Int32 → Int32 → Int32 → am_S → Option (Int32 × am_S)) (b s : Int32) (is : Bool) (p : Nat), p < cnp c → b_X10_toCover_57 N k26 k42 N 78 far b s (bI is) (nI p) 0 0 S = k42 78 far b s (bI (is && nrB c far s p)) (nI (p + 1)) S := by
    intro k26 k42 b s is p hp
    have h := lp_eq (fun n a i => b_X10_toCover_57 N k26 k42 n 78 far b s (bI is) (nI p) (bI a) i S) (fun i a => a || hitB c far s p i) (fun a => k42 78 far b s (bI (is && a)) (nI (p + 1)) S) (cnb c) (fun _ _ => True) false trivial (fun _ _ _ _ => trivial) (fun n a _ => by
      show b_X10_toCover_57 N k26 k42 (n + 1) 78 far b s (bI is) (nI p) (bI a) (nI (cnb c)) S = _
      unfold b_X10_toCover_57 b_X10_toCover_129 b_X10_toCover_130
      rw [hC.1.1, leT (Nat.le_refl _) (by omega), nI1]
      cases is <;> cases a <;> rfl) (fun n i a hi _ => by
      show b_X10_toCover_57 N k26 k42 (n + 1) 78 far b s (bI is) (nI p) (bI a) (nI i) S = b_X10_toCover_57 N k26 k42 n 78 far b s (bI is) (nI p) (bI (a || hitB c far s p i)) (nI (i + 1)) S
      rw [b_X10_toCover_57]
      unfold b_X10_toCover_102 b_X10_toCover_106 b_X10_toCover_107
      rw [hC.1.1, leF (by omega) (by omega), nI1]
      cases a with
      | true => rw [if_neg (by decide)]; rfl
      | false =>
        rw [if_pos bI0, r78_7, r78_8, n79, n80, inbT (by omega) (by decide), inbT (by omega) (by decide), nIc (by omega), nIc (by omega), hC.2.1.1 i hi, hC.2.1.2.1 p hp, m_off, bd_some]
        have eh : hitB c far s p i = (decide ((s >>> (nI i &&& (31 : Int32))) &&& 1 = 1) && decide (ff (cba c i) (cpa c p) ≤ far)) := rfl
        rw [eh, Bool.false_or]
        by_cases q : (s >>> (nI i &&& (31 : Int32))) &&& 1 = 1
        · rw [if_pos q, decide_eq_true q, Bool.true_and]
          by_cases q2 : ff (cba c i) (cpa c p) ≤ far
          · rw [if_neg (nlt_of_le q2), decide_eq_true q2]; rfl
          · rw [decide_eq_false q2, if_pos (by
              rw [Int32.le_iff_toInt_le] at q2
              rw [Int32.lt_iff_toInt_lt]
              omega)]
            rfl
        · rw [if_neg q, decide_eq_false q]; rfl) N (by omega)
    refine h.trans ?_
    have e : ∀ n, itr (fun i a => a || hitB c far s p i) n false = anyN (hitB c far s p) n := by
      intro n
      induction n with
      | zero => rfl
      | succ n ih =>
        show (itr _ n false || _) = (anyN _ n || _)
        rw [ih]
    show k42 78 far b s (bI (is && itr _ (cnb c) false)) _ S = _
    rw [e]
    rfl
  refine lp_eq (fun n a i => b_X10_toCover_26 N n 78 far a i S) (covF c far) (fun a => some (a, S)) (2 ^ cnb c) (fun _ a => ixP (2 ^ cnb c) a) (-1) (Or.inl rfl) (fun i b hi hb => covP hi hb) (fun n b _ => ?_) (fun n i b hi hb => ?_) N (by omega)
  · show b_X10_toCover_26 N (n + 1) 78 far b (nI (2 ^ cnb c)) S = _
    unfold b_X10_toCover_26
    rw [hC.1.1, e2, leT (Nat.le_refl _) (by omega)]
  · show b_X10_toCover_26 N (n + 1) 78 far b (nI i) S = b_X10_toCover_26 N n 78 far (covF c far i b) (nI (i + 1)) S
    have h : b_X10_toCover_26 N (n + 1) 78 far b (nI i) S = b_X10_toCover_42 N (b_X10_toCover_26 N n) N 78 far b (nI i) (bI true) 0 S := by
      rw [b_X10_toCover_26, hC.1.1, e2, leF (by omega) (by omega)]
      rfl
    rw [h]
    have h3 := lp_eq (fun m a j => b_X10_toCover_42 N (b_X10_toCover_26 N n) m 78 far b (nI i) (bI a) j S) (fun p a => a && nrB c far (nI i) p) (fun a => b_X10_toCover_26 N n 78 far (if a = true then (if b = -1 then nI i else if bc b.toNatClampNeg ≤ bc i then b else nI i) else b) (nI (i + 1)) S) (cnp c) (fun _ _ => True) true trivial (fun _ _ _ _ => trivial) (fun m a _ => by
      show b_X10_toCover_42 N (b_X10_toCover_26 N n) (m + 1) 78 far b (nI i) (bI a) (nI (cnp c)) S = _
      unfold b_X10_toCover_42 b_X10_toCover_159 b_X10_toCover_161
      rw [hC.1.2, leT (Nat.le_refl _) (by omega), nI1]
      cases a with
      | false => rfl
      | true =>
        rw [if_neg (by decide), if_pos rfl]
        rcases hb with hb | ⟨y, hy, hb⟩
        · rw [if_pos hb, if_pos hb]
        · rw [hb, eqmF (by omega), eqmF (by omega), m_bc hN, bd_some, m_bc hN, bd_some, nIc (by omega)]
          split <;> rfl) (fun m p a hp _ => by
      show b_X10_toCover_42 N (b_X10_toCover_26 N n) (m + 1) 78 far b (nI i) (bI a) (nI p) S = b_X10_toCover_42 N (b_X10_toCover_26 N n) m 78 far b (nI i) (bI (a && nrB c far (nI i) p)) (nI (p + 1)) S
      rw [b_X10_toCover_42, hC.1.2, leF (by omega) (by omega)]
      exact inner _ _ _ _ _ _ hp) N (by omega)
    refine h3.trans ?_
    have e : ∀ n, itr (fun p a => a && nrB c far (nI i) p) n true = !(anyN (fun p => !(nrB c far (nI i) p)) n) := by
      intro n
      induction n with
      | zero => rfl
      | succ n ih =>
        show (itr _ n true && _) = !(anyN _ n || _)
        rw [ih]
        show (!anyN (fun p => !(nrB c far (nI i) p)) n && nrB c far (nI i) n) = !(anyN (fun p => !(nrB c far (nI i) p)) n || !(nrB c far (nI i) n))
        cases anyN (fun p => !(nrB c far (nI i) p)) n <;> cases nrB c far (nI i) n <;> rfl
    show b_X10_toCover_26 N n 78 far (if itr _ (cnp c) true = true then _ else _) _ S = _
    rw [e]
    rfl
end
