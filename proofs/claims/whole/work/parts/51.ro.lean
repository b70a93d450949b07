/-! sums of a row; ways; who has most of what; covering -/
def anyN (hit : Nat → Bool) : Nat → Bool
  | 0 => false
  | n + 1 => anyN hit n || hit n
theorem anyN_of {hit : Nat → Bool} {i : Nat} (hi : hit i = true) : ∀ m, i < m → anyN hit m = true := by
  intro m
  induction m with
  | zero => intro h; omega
  | succ m ih =>
    intro h
    unfold anyN
    by_cases q : i = m
    · subst q
      rw [hi, Bool.or_true]
    · rw [ih (by omega), Bool.true_or]
theorem lp_any {β : Type} (B : Nat → Int32 → Option β) (hit : Nat → Bool) (m : Nat) (y z : Option β) (h0 : ∀ n, B (n + 1) (nI m) = z) (h1 : ∀ n i, i < m → hit i = false → B (n + 1) (nI i) = B n (nI (i + 1))) (h2 : ∀ n i, i < m → hit i = true → B (n + 1) (nI i) = y) (n : Nat) (hn : m < n) : B n 0 = if anyN hit m = true then y else z := by
  have key : ∀ (d n i : Nat), i + d = m → d < n → anyN hit i = false → B n (nI i) = if anyN hit m = true then y else z := by
    intro d
    induction d with
    | zero =>
      intro n i hi hn ha
      cases n with
      | zero => omega
      | succ n =>
        have hm : i = m := by omega
        subst hm
        rw [h0, if_neg (by rw [ha]; decide)]
    | succ d ih =>
      intro n i hi hn ha
      cases n with
      | zero => omega
      | succ n =>
        cases hh : hit i with
        | true => rw [h2 n i (by omega) hh, if_pos (anyN_of hh m (by omega))]
        | false =>
          rw [h1 n i (by omega) hh]
          refine ih n (i + 1) (by omega) (by omega) ?_
          unfold anyN
          rw [ha, hh]
          rfl
  exact key m n 0 (by omega) hn rfl
section
variable {N t k : Nat} {c : Cy} {S : am_S} {r : Nat → Int32}
theorem c_heardAll (hN : 10000 ≤ N) (hk : Sk k) (hR : RC S k (72 + cnp c) r) : f_X7_heardByAll N k S = some (sm r 64 8, S) := by
  unfold f_X7_heardByAll
  rw [l16, l8, c_sumOf hN hk.1 (by omega), bd_some, sm_ext (r' := r) (a' := 64) (fun i hi => by rw [← hR (64 + i) (by omega), pm_he])]
theorem c_regretAll (hN : 10000 ≤ N) (hk : Sk k) (hR : RC S k (72 + cnp c) r) : f_X7_regretOfAll N k S = some (sm r 56 8, S) := by
  unfold f_X7_regretOfAll
  rw [l8, c_sumOf hN hk.1 (by omega), bd_some, sm_ext (r' := r) (a' := 56) (fun i hi => by rw [← hR (56 + i) (by omega), pm_rg])]
theorem c_redAll (hN : 10000 ≤ N) (hk : Sk k) (hR : RC S k (72 + cnp c) r) : f_X7_redOfAll N k S = some (sm r 2 6, S) := by
  unfold f_X7_redOfAll
  rw [l2, l6, c_sumOf hN hk.1 (by omega), bd_some, sm_ext (r' := r) (a' := 2) (fun i hi => by rw [← hR (2 + i) (by omega), pm_rd hi])]
theorem c_heldAll (hN : 10000 ≤ N) (hk : Sk k) (hR : RC S k (72 + cnp c) r) : f_X7_heldInAll N k S = some (sm r 8 48, S) := by
  unfold f_X7_heldInAll
  rw [l32, l48, c_sumOf hN hk.1 (by omega), bd_some, sm_ext (r' := r) (a' := 8) (fun i hi => by
    rw [← hR (8 + i) (by omega)]
    unfold pm
    rw [if_neg (by omega), if_pos (by omega)]
    congr 1
    omega)]
theorem m_sumOf {b o : Nat} (ho : o = 56 ∨ o = 64) (hN : 10000 ≤ N) (hb : b ≤ 80) (hI : CI c) (hC : CM S c) (hR : RM S b (72 + cnp c) r) (hRI : RI c r) : f_X10_sumOf N 78 (nI b) (nI o) S = some (sm r o 8, S) := by
  have hnp := hI.1.2
  unfold f_X10_sumOf
  have hz : sm r o 8 = sm r o (cnp c) := sm_cut hnp (fun i h1 h2 => by
    have := hRI.2.2.2.2.1 i h2
    rcases ho with ho | ho <;> subst ho
    · exact this.1.2 h1
    · exact this.2.2 h1)
  rw [hz, ← sI_sm]
  refine lp_sI (fun n v i => b_X10_sumOf_5 N n 78 (nI b) (nI o) v i S) (fun i => r (o + i)) (fun v => some (v, S)) (cnp c) (fun n v => ?_) (fun n i v hi => ?_) N (by omega)
  · show b_X10_sumOf_5 N (n + 1) 78 (nI b) (nI o) v (nI (cnp c)) S = _
    unfold b_X10_sumOf_5
    rw [hC.1.2, leT (Nat.le_refl _) (by omega)]
  · show b_X10_sumOf_5 N (n + 1) 78 (nI b) (nI o) v (nI i) S = b_X10_sumOf_5 N n 78 (nI b) (nI o) (v + r (o + i)) (nI (i + 1)) S
    rw [b_X10_sumOf_5]
    rw [hC.1.2, leF (by omega) (by omega), nIa, nIa, r78_46, n96, inbT (by omega) (by decide), nIc (by omega), Nat.add_assoc, hR (o + i) (by omega), nI1]
theorem sI_hIn {r : Rw} : ∀ n, sI (fun x => hIn r x) n = sm r 8 (8 * n) := by
  intro n
  induction n with
  | zero => rfl
  | succ n ih =>
    show sI _ n + hIn r n = _
    rw [ih, Nat.mul_succ, sm_add]
    rfl
theorem m_heldAll {b : Nat} (hN : 10000 ≤ N) (hb : b ≤ 80) (hI : CI c) (hC : CM S c) (hR : RM S b (72 + cnp c) r) (hRI : RI c r) : f_X10_heldAll N 78 (nI b) S = some (sm r 8 48, S) := by
  have hnb := hI.1.1
  have hnp := hI.1.2
  unfold f_X10_heldAll
  have hz : sm r 8 48 = sm r 8 (8 * cnb c) := sm_cut (by omega) (fun i h1 h2 => by
    have h := (hRI.2.2.2.1 (i / 8) (i % 8) (by omega) (by omega)).2 (Or.inl (by omega))
    rw [show 8 + 8 * (i / 8) + i % 8 = 8 + i by omega] at h
    exact h)
  rw [hz, ← sI_hIn]
  refine lp_sI (fun n v i => b_X10_heldAll_4 N n 78 (nI b) v i S) (fun x => hIn r x) (fun v => some (v, S)) (cnb c) (fun n v => ?_) (fun n i v hi => ?_) N (by omega)
  · show b_X10_heldAll_4 N (n + 1) 78 (nI b) v (nI (cnb c)) S = _
    unfold b_X10_heldAll_4
    rw [hC.1.1, leT (Nat.le_refl _) (by omega)]
  · show b_X10_heldAll_4 N (n + 1) 78 (nI b) v (nI i) S = b_X10_heldAll_4 N n 78 (nI b) (v + hIn r i) (nI (i + 1)) S
    rw [b_X10_heldAll_4]
    rw [hC.1.1, leF (by omega) (by omega), m_heldIn hN hb hI hC.1.2 hR hRI (by omega), bd_some, nI1]
theorem m_reds (hN : 10000 ≤ N) (hI : CI c) (hC : CM S c) (hR : RM S 80 (72 + cnp c) r) (hRI : RI c r) : b_X10_reds_26 N N 78 0 0 S = some (sm r 2 6, S) := by
  have hnb := hI.1.1
  have hz : sm r 2 6 = sm r 2 (cnb c) := sm_cut hnb (fun i h1 h2 => (hRI.2.2.1 i h2).2 h1)
  rw [hz, ← sI_sm]
  refine lp_sI (fun n v i => b_X10_reds_26 N n 78 v i S) (fun i => r (2 + i)) (fun v => some (v, S)) (cnb c) (fun n v => ?_) (fun n i v hi => ?_) N (by omega)
  · show b_X10_reds_26 N (n + 1) 78 v (nI (cnb c)) S = _
    unfold b_X10_reds_26
    rw [hC.1.1, leT (Nat.le_refl _) (by omega)]
  · show b_X10_reds_26 N (n + 1) 78 v (nI i) S = b_X10_reds_26 N n 78 (v + r (2 + i)) (nI (i + 1)) S
    rw [b_X10_reds_26]
    rw [hC.1.1, leF (by omega) (by omega), show (82 : Int32) = nI 82 from rfl, nIa, r78_46, n96, inbT (by omega) (by decide), nIc (by omega), show 82 + i = 80 + (2 + i) by omega, hR (2 + i) (by omega), nI1]
/-- whose -/
def whoM (r : Rw) (x : Nat) (a : Int32) : Int32 := if a = -1 then 0 else r (8 + 8 * x + a.toNatClampNeg)
theorem whoP {x i : Nat} {b : Int32} (hi : i < cnp c) (hb : ixP (cnp c) b) : ixP (cnp c) (whoF r x i b) := by
  unfold whoF
  by_cases q : r (8 + 8 * x + i) ≤ (if b = -1 then 0 else r (8 + 8 * x + b.toNatClampNeg))
  · rw [if_pos q]
    exact hb
  · rw [if_neg q]
    exact ixP_n hi
theorem c_whose {x : Nat} (hN : 10000 ≤ N) (hI : CI c) (hH : HC S t) (hC : CC S t c) (hR : RC S 40 (72 + cnp c) r) (hx : x < cnb c) : b_X9_whose_12 N N 0 (nI x) (-1) 0 0 S = some (.inl (who_ c r x), S) := by
  have hnp := hI.1.2
  have hnb := hI.1.1
  unfold who_
  refine lp_eq (fun n a i => b_X9_whose_12 N n 0 (nI x) a (whoM r x a) i S) (whoF r x) (fun a => some (.inl a, S)) (cnp c) (fun _ a => ixP (cnp c) a) (-1) (Or.inl rfl) (fun i b hi hb => whoP hi hb) (fun n b _ => ?_) (fun n i b hi hb => ?_) N (by omega)
  · show b_X9_whose_12 N (n + 1) 0 (nI x) b (whoM r x b) (nI (cnp c)) S = _
    unfold b_X9_whose_12
    rw [g_isC hH, hH.1, hC.1.2, leT (Nat.le_refl _) (by omega)]
  · show b_X9_whose_12 N (n + 1) 0 (nI x) b (whoM r x b) (nI i) S = b_X9_whose_12 N n 0 (nI x) (whoF r x i b) (whoM r x (whoF r x i b)) (nI (i + 1)) S
    have e1 : whoM r x (nI i) = r (8 + 8 * x + i) := by
      unfold whoM
      rw [if_neg (nIn (by omega)), nIc (by omega)]
    have ef : whoF r x i b = if r (8 + 8 * x + i) ≤ whoM r x b then b else nI i := rfl
    rw [b_X9_whose_12]
    unfold b_X9_whose_52
    rw [g_isC hH, hH.1, hC.1.2, leF (by omega) (by omega), r0_7, r_heldOf hI Sk40 hR hx hi, bd_some, r_heldOf hI Sk40 hR hx hi, bd_some, nI1, ef]
    by_cases q : r (8 + 8 * x + i) ≤ whoM r x b
    · rw [if_pos q, if_pos q]
    · rw [if_neg q, if_neg q, e1]
theorem m_whose {x : Nat} (hN : 10000 ≤ N) (hI : CI c) (hC : CM S c) (hR : RM S 0 (72 + cnp c) r) (hx : x < cnb c) : b_X10_whose_19 N N 78 (nI x) (-1) 0 S = some (who_ c r x, S) := by
  have hnp := hI.1.2
  have hnb := hI.1.1
  unfold who_
  refine lp_eq (fun n a i => b_X10_whose_19 N n 78 (nI x) a i S) (whoF r x) (fun a => some (a, S)) (cnp c) (fun _ a => ixP (cnp c) a) (-1) (Or.inl rfl) (fun i b hi hb => whoP hi hb) (fun n b _ => ?_) (fun n i b hi hb => ?_) N (by omega)
  · show b_X10_whose_19 N (n + 1) 78 (nI x) b (nI (cnp c)) S = _
    unfold b_X10_whose_19
    rw [hC.1.2, leT (Nat.le_refl _) (by omega)]
  · show b_X10_whose_19 N (n + 1) 78 (nI x) b (nI i) S = b_X10_whose_19 N n 78 (nI x) (whoF r x i b) (nI (i + 1)) S
    have e : ∀ j, j < cnp c → sg S 96 (8 + 8 * x + j) = r (8 + 8 * x + j) := fun j hj => by
      rw [← hR (8 + 8 * x + j) (by omega), Nat.zero_add]
    rw [b_X10_whose_19]
    unfold b_X10_whose_64 b_X10_whose_69 whoF
    rw [hC.1.2, leF (by omega) (by omega), l8, nIm, nIa, nIa, r78_46, n96, inbT (by omega) (by decide), nIc (by omega), e i hi, nI1]
    rcases hb with hb | ⟨y, hy, hb⟩
    · rw [if_pos hb, if_pos hb]
      split <;> rfl
    · rw [hb, eqmF (by omega), eqmF (by omega), nIa, inbT (by omega) (by decide), nIc (by omega), nIc (by omega), e y hy]
      split <;> rfl
/-- ways -/
def wayF (c : Cy) (w : Int32) (bs : Bool) (i : Nat) : Int32 := if bs = true ∧ 0 < cnb c then jmin (ff w (cpa c i)) (ff (cba c (cne c i).toNatClampNeg) (cpa c i)) else ff w (cpa c i)
def ways (c : Cy) (w : Int32) (bs : Bool) : Int32 := sI (wayF c w bs) (cnp c)
def bI (b : Bool) : Int32 := if b = true then 1 else 0
theorem bI0 : bI false = 0 := rfl
theorem bI1 : bI true = 1 := rfl
theorem cne_0 {p : Nat} (hI : CI c) : (cnb c = 0 ∧ cne c p = -1) ∨ ∃ x, x < cnb c ∧ cne c p = nI x := nrs_in (cba c) (cpa c p) (cnb c) (by have := hI.1.1; omega)
theorem c_ways {w : Nat} {bs : Bool} (hN : 10000 ≤ N) (hI : CI c) (ht : Ci t) (hC : CC S t c) (hw : w ≤ 30) : f_X1_waysWith N t (nI w) (bI bs) S = some (ways c (nI w) bs, S) := by
  have hnp := hI.1.2
  have hnb := hI.1.1
  obtain ⟨⟨t1, t2, -, -⟩, ⟨t3, t4, -, -, -, -, t5, t6⟩, -⟩ := ht
  unfold f_X1_waysWith ways
  refine lp_sI (fun n v i => b_X1_waysWith_5 N n t (nI w) (bI bs) v i S) (wayF c (nI w) bs) (fun v => some (v, S)) (cnp c) (fun n v => ?_) (fun n i v hi => ?_) N (by omega)
  · show b_X1_waysWith_5 N (n + 1) t (nI w) (bI bs) v (nI (cnp c)) S = _
    unfold b_X1_waysWith_5
    rw [hC.1.2, leT (Nat.le_refl _) (by omega)]
  · show b_X1_waysWith_5 N (n + 1) t (nI w) (bI bs) v (nI i) S = b_X1_waysWith_5 N n t (nI w) (bI bs) (v + wayF c (nI w) bs i) (nI (i + 1)) S
    have hwb : 0 ≤ (nI w).toInt ∧ (nI w).toInt ≤ 30 := by rw [nIi (by omega)]; omega
    rw [b_X1_waysWith_5]
    unfold b_X1_waysWith_72 wayF
    rw [hC.1.2, leF (by omega) (by omega), t1, t2, t3, t4, t5, t6, inbT (by omega) (by decide), inbT (by omega) (by decide), nIc (by omega), hC.2.1.2.2.2 i hi, hC.2.1.2.1 i hi, jabs_ff hwb (hI.2.1.2.1 i hi), nI1]
    cases bs with
    | false =>
      rw [if_pos bI0, if_neg (fun q => by cases q.1)]
    | true =>
      rw [if_neg (by decide)]
      rcases cne_0 (p := i) hI with ⟨q1, q2⟩ | ⟨x, hx, q2⟩
      · rw [if_pos q2, if_neg (by omega)]
      · rw [q2, eqmF (by omega), inbT (by omega) (by decide), inbT (by omega) (by decide), nIc (by omega), hC.2.1.1 x hx, jabs_ff (hI.2.1.1 x hx) (hI.2.1.2.1 i hi), if_pos ⟨rfl, by omega⟩]
theorem m_ways {w : Int32} {bs : Bool} (hN : 10000 ≤ N) (hI : CI c) (hC : CM S c) : f_X10_waysTo N 78 w (bI bs) S = some (ways c w bs, S) := by
  have hnp := hI.1.2
  have hnb := hI.1.1
  unfold f_X10_waysTo ways
  refine lp_sI (fun n v i => b_X10_waysTo_5 N n 78 w (bI bs) v i S) (wayF c w bs) (fun v => some (v, S)) (cnp c) (fun n v => ?_) (fun n i v hi => ?_) N (by omega)
  · show b_X10_waysTo_5 N (n + 1) 78 w (bI bs) v (nI (cnp c)) S = _
    unfold b_X10_waysTo_5
    rw [hC.1.2, leT (Nat.le_refl _) (by omega)]
  · show b_X10_waysTo_5 N (n + 1) 78 w (bI bs) v (nI i) S = b_X10_waysTo_5 N n 78 w (bI bs) (v + wayF c w bs i) (nI (i + 1)) S
    rw [b_X10_waysTo_5]
    unfold b_X10_waysTo_68 b_X10_waysTo_70 wayF
    rw [hC.1.2, leF (by omega) (by omega), r78_8, n80, inbT (by omega) (by decide), nIc (by omega), hC.2.1.2.1 i hi, m_off, bd_some, nI1]
    cases bs with
    | false =>
      rw [if_pos bI0, if_neg (fun q => by cases q.1)]
    | true =>
      rw [if_neg (by decide), hC.1.1]
      rcases cne_0 (p := i) hI with ⟨q1, q2⟩ | ⟨x, hx, q2⟩
      · rw [q1, if_pos (by decide), if_neg (by omega)]
      · rw [le0F (by omega) (by omega), m_boxOf hN hI hC hi, bd_some, q2, r78_7, n79, inbT (by omega) (by decide), inbT (by omega) (by decide), nIc (by omega), hC.2.1.1 x hx, hC.2.1.2.1 i hi, m_off, bd_some, m_lesser, bd_some, if_pos ⟨rfl, by omega⟩]
def plF (c : Cy) (bs : Bool) (i : Nat) (a : Int32) : Int32 := if ways c a bs ≤ ways c (nI (i + 1)) bs then a else nI (i + 1)
def pl_ (c : Cy) (bs : Bool) : Int32 := itr (plF c bs) 30 0
def plP (a : Int32) : Prop := ∃ j, j ≤ 30 ∧ a = nI j
theorem plPs {bs : Bool} {i : Nat} {b : Int32} (hi : i < 30) (hb : plP b) : plP (plF c bs i b) := by
  unfold plF
  split
  · exact hb
  · exact ⟨i + 1, by omega, rfl⟩
theorem pl_in {bs : Bool} : plP (pl_ c bs) := itr_P (P := fun _ a => plP a) ⟨0, by omega, rfl⟩ (fun i b hi hb => plPs hi hb)
theorem c_pl {bs : Bool} (hN : 10000 ≤ N) (hI : CI c) (ht : Ci t) (hC : CC S t c) : f_X1_bestPlace N t (bI bs) S = some (pl_ c bs, S) := by
  unfold f_X1_bestPlace
  have h0 := c_ways (bs := bs) (w := 0) hN hI ht hC (by omega)
  rw [← l0] at h0
  rw [h0, bd_some]
  refine lp_eq (fun n a i => b_X1_bestPlace_12 N n t (bI bs) a (ways c a bs) (i + 1) S) (plF c bs) (fun a => some (a, S)) 30 (fun _ a => plP a) 0 ⟨0, by omega, rfl⟩ (fun i b hi hb => plPs hi hb) (fun n b _ => ?_) (fun n i b hi hb => ?_) N (by omega)
  · show b_X1_bestPlace_12 N (n + 1) t (bI bs) b (ways c b bs) (nI 30 + 1) S = _
    unfold b_X1_bestPlace_12
    rw [nI1, l30, ltT (by omega) (by omega)]
  · show b_X1_bestPlace_12 N (n + 1) t (bI bs) b (ways c b bs) (nI i + 1) S = b_X1_bestPlace_12 N n t (bI bs) (plF c bs i b) (ways c (plF c bs i b) bs) (nI (i + 1) + 1) S
    rw [b_X1_bestPlace_12]
    unfold b_X1_bestPlace_40 plF
    rw [nI1, l30, ltF (by omega) (by omega), c_ways hN hI ht hC (by omega), bd_some]
    split <;> rfl
theorem m_pl {bs : Bool} (hN : 10000 ≤ N) (hI : CI c) (hC : CM S c) : f_X10_bestPlace N 78 (bI bs) S = some (pl_ c bs, S) := by
  unfold f_X10_bestPlace
  refine lp_eq (fun n a i => b_X10_bestPlace_4 N n 78 (bI bs) a (i + 1) S) (plF c bs) (fun a => some (a, S)) 30 (fun _ a => plP a) 0 ⟨0, by omega, rfl⟩ (fun i b hi hb => plPs hi hb) (fun n b _ => ?_) (fun n i b hi hb => ?_) N (by omega)
  · show b_X10_bestPlace_4 N (n + 1) 78 (bI bs) b (nI 30 + 1) S = _
    unfold b_X10_bestPlace_4
    rw [nI1, l30, ltT (by omega) (by omega)]
  · show b_X10_bestPlace_4 N (n + 1) 78 (bI bs) b (nI i + 1) S = b_X10_bestPlace_4 N n 78 (bI bs) (plF c bs i b) (nI (i + 1) + 1) S
    rw [b_X10_bestPlace_4]
    unfold b_X10_bestPlace_27 plF
    rw [nI1, l30, ltF (by omega) (by omega), m_ways hN hI hC, bd_some, m_ways hN hI hC, bd_some]
    split <;> rfl
/-- visits -/
def visF (c : Cy) (d x i : Nat) : Int32 := if cro c (d + i) = nI x then 1 else 0
theorem c_visits {x d n : Nat} (hN : 10000 ≤ N) (hI : CI c) (hH : HC S t) (hC : CC S t c) (hR : RC S 40 (72 + cnp c) r) (hd : r 0 = nI d) (hd2 : d < 5000) (hn : n ≤ 60) : b_X9_visits_17 N N 0 (nI x) (nI n) 0 0 S = some (.inl (sI (visF c d x) n), S) := by
  refine lp_sI (fun m v i => b_X9_visits_17 N m 0 (nI x) (nI n) v i S) (visF c d x) (fun v => some (.inl v, S)) n (fun m v => ?_) (fun m i v hi => ?_) N (by omega)
  · show b_X9_visits_17 N (m + 1) 0 (nI x) (nI n) v (nI n) S = _
    unfold b_X9_visits_17
    rw [leT (Nat.le_refl _) (by omega)]
  · show b_X9_visits_17 N (m + 1) 0 (nI x) (nI n) v (nI i) S = b_X9_visits_17 N m 0 (nI x) (nI n) (v + visF c d x i) (nI (i + 1)) S
    rw [b_X9_visits_17]
    unfold b_X9_visits_47 visF
    rw [leF (by omega) (by omega), g_isC hH, r0_7, c_dayNow Sk40.1 (by omega) hR, bd_some, hd, nIa, hH.1, c_boxOn hH.2.1 hC (by omega), bd_some, nI1]
    split
    · rfl
    · rw [Int32.add_zero]
theorem m_visits {x d n : Nat} (hN : 10000 ≤ N) (hI : CI c) (hC : CM S c) (hO : MO S) (hR : RM S 0 (72 + cnp c) r) (hd : r 0 = nI d) (hd2 : d < 5000) (hn : n ≤ 60) : b_X10_visits_35 N N 78 (nI x) (nI n) 0 0 S = some (sI (visF c d x) n, S) := by
  refine lp_sI (fun m v i => b_X10_visits_35 N m 78 (nI x) (nI n) v i S) (visF c d x) (fun v => some (v, S)) n (fun m v => ?_) (fun m i v hi => ?_) N (by omega)
  · show b_X10_visits_35 N (m + 1) 78 (nI x) (nI n) v (nI n) S = _
    unfold b_X10_visits_35
    rw [leT (Nat.le_refl _) (by omega)]
  · show b_X10_visits_35 N (m + 1) 78 (nI x) (nI n) v (nI i) S = b_X10_visits_35 N m 78 (nI x) (nI n) (v + visF c d x i) (nI (i + 1)) S
    have e0 : sg S 96 0 = nI d := by rw [RM_0 hR (by omega), hd]
    rw [b_X10_visits_35]
    unfold b_X10_visits_64 visF
    rw [leF (by omega) (by omega), r78_46, n96, inb0T (by decide) (by decide), c00, e0, nIa, m_comesOn hI hC hO.2 (by omega), bd_some, nI1]
    split <;> rfl
end
