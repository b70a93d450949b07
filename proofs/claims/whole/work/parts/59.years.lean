/-! years -/
def nx (s : Int32) : Int32 := s * 1103515245 + 12345
def dv (s : Int32) : Nat := ((s >>> ((16 : Int32) &&& (31 : Int32))) &&& 32767).toNatClampNeg
theorem and_small (a : Int32) : 0 ≤ (a &&& 32767).toInt ∧ (a &&& 32767).toInt ≤ 32767 := by
  have h : (a &&& 32767).toBitVec.toNat ≤ 32767 := by
    rw [Int32.toBitVec_and, BitVec.toNat_and]
    exact Nat.and_le_right
  have h2 : (a &&& 32767).toInt = (a &&& 32767).toBitVec.toNat := BitVec.toInt_eq_toNat_of_lt (by omega)
  rw [h2]
  omega
theorem dv_ok (s : Int32) : (s >>> ((16 : Int32) &&& (31 : Int32))) &&& 32767 = nI (dv s) ∧ dv s < 32768 := by
  obtain ⟨h1, h2⟩ := and_small (s >>> ((16 : Int32) &&& (31 : Int32)))
  refine ⟨ofC (Int32.le_iff_toInt_le.mpr h1), ?_⟩
  unfold dv Int32.toNatClampNeg
  omega
theorem and15 : ∀ i, i < 32 → 15 ≤ i → (32767#32).getLsbD i = false := by decide
theorem dv_u (s : Int32) : (jushr s 16) &&& 32767 = (s >>> ((16 : Int32) &&& (31 : Int32))) &&& 32767 := by
  have h1 : (jushr s 16).toBitVec = s.toBitVec >>> 16 := rfl
  have h2 : (s >>> ((16 : Int32) &&& (31 : Int32))).toBitVec = s.toBitVec.sshiftRight 16 := rfl
  rw [← Int32.toBitVec_inj, Int32.toBitVec_and, Int32.toBitVec_and, h1, h2]
  refine BitVec.eq_of_getLsbD_eq (fun i hi => ?_)
  rw [BitVec.getLsbD_and, BitVec.getLsbD_and]
  by_cases z : i < 15
  · rw [BitVec.getLsbD_ushiftRight, BitVec.getLsbD_sshiftRight]
    have e : (decide (32 ≤ i)) = false := decide_eq_false (by omega)
    rw [e, if_pos (by omega)]
    simp
  · have e : ((32767 : Int32).toBitVec).getLsbD i = false := and15 i hi (by omega)
    rw [e, Bool.and_false, Bool.and_false]
section
variable {N t : Nat} {c : Cy} {S : am_S} {r : Rw}
theorem c_draw {m : Nat} (h0 : 0 < m) (hm : m < 2147483648) : f_X9_draw N 0 (nI m) S = some (nI (dv (nx (sg S 0 18)) % m), sp S 0 18 (nx (sg S 0 18))) := by
  have h := dv_ok (nx (sg S 0 18))
  unfold f_X9_draw b_X9_draw_38
  rw [sgp, oneT h0 hm, eq0F h0 hm, dv_u]
  show some ((nx (sg S 0 18) >>> ((16 : Int32) &&& (31 : Int32)) &&& 32767) - (nx (sg S 0 18) >>> ((16 : Int32) &&& (31 : Int32)) &&& 32767) / nI m * nI m, _) = _
  rw [h.1, nImod (by omega) hm]
  rfl
theorem m_draw {m : Nat} (h0 : 0 < m) (hm : m < 2147483648) : f_X10_draw N 78 (nI m) S = some (nI (dv (nx (sg S 78 60)) % m), sp S 78 60 (nx (sg S 78 60))) := by
  have h := dv_ok (nx (sg S 78 60))
  unfold f_X10_draw
  rw [sgp, eq0F h0 hm]
  show some ((nx (sg S 78 60) >>> ((16 : Int32) &&& (31 : Int32)) &&& 32767) - (nx (sg S 78 60) >>> ((16 : Int32) &&& (31 : Int32)) &&& 32767) / nI m * nI m, _) = _
  rw [h.1, nImod (by omega) hm]
  rfl
def yrW (np : Nat) (s : Int32) : Nat := dv (nx s) % np
def yrK (s : Int32) : Nat := dv (nx (nx s)) % 6
def yrO (np : Nat) (s : Int32) : Nat := dv (nx (nx (nx s))) % np
def yrS (s : Int32) : Int32 := if yrK s = 1 then nx (nx (nx s)) else nx (nx s)
def yrR (np : Nat) (s : Int32) (f : Rw) : Rw := if yrK s = 0 then wrt f (yrW np s) else if yrK s = 1 then wr f (72 + yrW np s) (if yrO np s = yrW np s then -1 else nI (yrO np s)) else if yrK s = 2 then wr f 1 (1 - f 1) else f
def yrs (c : Cy) (d : Nat) (s : Int32) (r : Rw) : Nat → Int32 × Rw
  | 0 => (s, r)
  | n + 1 => (if cnp c = 0 then nx (yrs c d s r n).1 else yrS (nx (yrs c d s r n).1), day_ c (nI (dv (nx (yrs c d s r n).1) % 10)) (cro c (d + n)) (if cnp c = 0 then (yrs c d s r n).2 else yrR (cnp c) (nx (yrs c d s r n).1) (yrs c d s r n).2))
theorem yrR_in {s : Int32} {f : Rw} (hI : CI c) (h : RI c f) (hp : 0 < cnp c) : RI c (yrR (cnp c) s f) ∧ yrR (cnp c) s f 0 = f 0 := by
  have hw : yrW (cnp c) s < cnp c := Nat.mod_lt _ hp
  have ho : yrO (cnp c) s < cnp c := Nat.mod_lt _ hp
  unfold yrR
  split
  · have := RI_wrt hI h hw
    exact ⟨this.1, this.2.1⟩
  · split
    · refine ⟨RI_at h hI ?_, wr_ne (by omega)⟩
      split
      · exact Or.inl rfl
      · exact Or.inr ⟨_, ho, rfl⟩
    · split
      · refine ⟨RI_st h ?_, wr_ne (by omega)⟩
        rcases h.2.1 with z | z
        · rw [z]; exact Or.inr rfl
        · rw [z]; exact Or.inl rfl
      · exact ⟨h, rfl⟩
theorem yrs_in {d : Nat} {s : Int32} (hI : CI c) (h : RI c r) (hd : r 0 = nI d) : ∀ n, d + n < 4999 → RI c (yrs c d s r n).2 ∧ (yrs c d s r n).2 0 = nI (d + n) := by
  intro n
  induction n with
  | zero => intro _; exact ⟨h, hd⟩
  | succ n ih =>
    intro hn
    obtain ⟨i1, i2⟩ := ih (by omega)
    have key : ∀ f, RI c f → f 0 = nI (d + n) → RI c (day_ c (nI (dv (nx (yrs c d s r n).1) % 10)) (cro c (d + n)) f) ∧ day_ c (nI (dv (nx (yrs c d s r n).1) % 10)) (cro c (d + n)) f 0 = nI (d + (n + 1)) := fun f h1 h2 => by
      obtain ⟨j1, j2, -, -⟩ := day_in (wet := nI (dv (nx (yrs c d s r n).1) % 10)) (vis := cro c (d + n)) hI h1 (Vi_cro hI) h2 (by omega)
      exact ⟨j1, j2⟩
    show RI c (day_ c _ _ (if cnp c = 0 then _ else _)) ∧ day_ c _ _ (if cnp c = 0 then _ else _) 0 = _
    by_cases z : cnp c = 0
    · simp only [if_pos z]
      exact key _ i1 i2
    · simp only [if_neg z]
      have := yrR_in (s := nx (yrs c d s r n).1) hI i1 (by omega)
      exact key _ this.1 (this.2.trans i2)
theorem KC_seed {v : Int32} (h : KC S t c r) : KC (sp S 0 18 v) t c r ∧ Fm (qC t) S (sp S 0 18 v) := by
  have hf : Fm (qC t) S (sp S 0 18 v) := Fm_sp (Fm_rf _ _) (by unfold qC; omega)
  exact ⟨KC_q h hf, hf⟩
theorem c_act {f : Rw} (hN : 10000 ≤ N) (hI : CI c) (hK : KC S t c r) (hF : RC S 42 (72 + cnp c) f) (hRI : RI c f) (hp : 0 < cnp c) : Rn (f_X9_drawAct N 0 S) (fun S' => KC S' t c r ∧ RC S' 42 (72 + cnp c) (yrR (cnp c) (sg S 0 18) f) ∧ sg S' 0 18 = yrS (sg S 0 18) ∧ Fm (qC t) S S') := by
  have hnp := hI.1.2
  have hw : yrW (cnp c) (sg S 0 18) < cnp c := Nat.mod_lt _ hp
  have ho : yrO (cnp c) (sg S 0 18) < cnp c := Nat.mod_lt _ hp
  have hk : yrK (sg S 0 18) < 6 := Nat.mod_lt _ (by omega)
  unfold f_X9_drawAct b_X9_drawAct_99 b_X9_drawAct_66 b_X9_drawAct_96
  rw [g_isC hK.1, hK.1.1, hK.2.1.1.2, c_draw hp (by omega), bd_some, l6, c_draw (by omega) (by omega), bd_some, sgp, r0_8]
  obtain ⟨k1, f1⟩ := KC_seed (v := nx (sg S 0 18)) hK
  obtain ⟨k2, f2⟩ := KC_seed (v := nx (nx (sg S 0 18))) k1
  have hF2 : RC (sp (sp S 0 18 (nx (sg S 0 18))) 0 18 (nx (nx (sg S 0 18)))) 42 (72 + cnp c) f := RC_o (RC_o hF (by omega)) (by omega)
  have hf2 := Fm_tr f1 f2
  have ek : dv (nx (nx (sg S 0 18))) % 6 = yrK (sg S 0 18) := rfl
  have ew : dv (nx (sg S 0 18)) % cnp c = yrW (cnp c) (sg S 0 18) := rfl
  rw [ek, ew]
  have fr42 : ∀ {A B : am_S}, Fr (fun a => a = 42 + 1) A B → Fm (qC t) A B := fun h => Fm_wk (Fm_fr h) (fun k j hk => Or.inl hk)
  unfold yrR yrS
  by_cases z0 : yrK (sg S 0 18) = 0
  · rw [z0, if_pos (by decide), if_pos rfl, if_neg (by decide)]
    refine Rn_bv (Rn_mono (c_letter hN hI Sk42 hF2 hRI hw) (fun S3 h => ?_))
    have hf3 := fr42 h.2
    exact Rn_ret ⟨KC_q k2 hf3, h.1, (h.2.1 _ _ (by omega)).trans (sgp _ _ _ _), Fm_tr hf2 hf3⟩
  · rw [if_neg z0, eq0F (by omega) (by omega)]
    by_cases z1 : yrK (sg S 0 18) = 1
    · rw [z1, if_pos (by decide), if_pos rfl, if_pos rfl, g_isC k2.1, k2.1.1, k2.2.1.1.2, c_draw hp (by omega), bd_some, sgp]
      have eo : dv (nx (nx (nx (sg S 0 18)))) % cnp c = yrO (cnp c) (sg S 0 18) := rfl
      rw [eo]
      obtain ⟨k3, f3⟩ := KC_seed (v := nx (nx (nx (sg S 0 18)))) k2
      have key : ∀ v : Int32, Rn (bv (f_X7_turnTo N 42 (nI (yrW (cnp c) (sg S 0 18))) v (sp (sp (sp S 0 18 (nx (sg S 0 18))) 0 18 (nx (nx (sg S 0 18)))) 0 18 (nx (nx (nx (sg S 0 18)))))) (fun S2 => some S2)) (fun S' => KC S' t c r ∧ RC S' 42 (72 + cnp c) (wr f (72 + yrW (cnp c) (sg S 0 18)) v) ∧ sg S' 0 18 = nx (nx (nx (sg S 0 18))) ∧ Fm (qC t) S S') := by
        intro v
        refine Rn_bv (Rn_mono (c_turnTo Sk42.1 (by omega) (by omega) (RC_o hF2 (by omega))) (fun S3 h => ?_))
        have hf3 := fr42 h.2
        exact Rn_ret ⟨KC_q k3 hf3, h.1, (h.2.1 _ _ (by omega)).trans (sgp _ _ _ _), Fm_tr hf2 (Fm_tr f3 hf3)⟩
      by_cases y : yrO (cnp c) (sg S 0 18) = yrW (cnp c) (sg S 0 18)
      · rw [eqT y, if_pos y]
        exact key _
      · rw [eqF y (by omega) (by omega), if_neg y]
        exact key _
    · rw [if_neg z1, if_neg z1, l1, eqF z1 (by omega) (by omega), ← l1]
      by_cases z2 : yrK (sg S 0 18) = 2
      · rw [z2, if_pos (by decide), if_pos rfl, c_onStrike Sk42.1 (by omega) hF2, bd_some]
        have key : ∀ v w : Int32, (if v = 0 then (0 : Int32) else 1) = w → Rn (bv (f_X7_setStrike N 42 v (sp (sp S 0 18 (nx (sg S 0 18))) 0 18 (nx (nx (sg S 0 18))))) (fun S2 => some S2)) (fun S' => KC S' t c r ∧ RC S' 42 (72 + cnp c) (wr f 1 w) ∧ sg S' 0 18 = nx (nx (sg S 0 18)) ∧ Fm (qC t) S S') := by
          intro v w hv
          refine Rn_bv (Rn_mono (c_setStrike Sk42.1 (by omega) hF2) (fun S3 h => ?_))
          have hf3 := fr42 h.2
          rw [hv] at h
          exact Rn_ret ⟨KC_q k2 hf3, h.1, (h.2.1 _ _ (by omega)).trans (sgp _ _ _ _), Fm_tr hf2 hf3⟩
        rcases hRI.2.1 with q | q
        · rw [q, if_pos (by decide)]
          exact key 1 _ rfl
        · rw [q, if_neg (by decide)]
          exact key 0 _ rfl
      · rw [l2, eqF z2 (by omega) (by omega), if_neg z2]
        exact Rn_ret ⟨k2, hF2, sgp _ _ _ _, hf2⟩
theorem m_act {f : Rw} (hN : 10000 ≤ N) (hI : CI c) (hC : CM S c) (hF : RM S 80 (72 + cnp c) f) (hRI : RI c f) (hp : 0 < cnp c) : Rn (f_X10_happens N 78 S) (fun S' => RM S' 80 (72 + cnp c) (yrR (cnp c) (sg S 78 60) f) ∧ sg S' 78 60 = yrS (sg S 78 60) ∧ Fm mX S S' ∧ sg S' 78 51 = sg S 78 51) := by
  have hnp := hI.1.2
  have hw : yrW (cnp c) (sg S 78 60) < cnp c := Nat.mod_lt _ hp
  have ho : yrO (cnp c) (sg S 78 60) < cnp c := Nat.mod_lt _ hp
  have hk : yrK (sg S 78 60) < 6 := Nat.mod_lt _ (by omega)
  have seed : ∀ (A : am_S) (v : Int32), Fm mX A (sp A 78 60 v) := fun A v => Fm_sp (Fm_rf _ _) (Or.inr ⟨rfl, Or.inr rfl⟩)
  unfold f_X10_happens b_X10_happens_41 b_X10_happens_74 b_X10_happens_75 b_X10_happens_96
  rw [hC.1.2, m_draw hp (by omega), bd_some, l6, m_draw (by omega) (by omega), bd_some, sgp]
  have ek : dv (nx (nx (sg S 78 60))) % 6 = yrK (sg S 78 60) := rfl
  have ew : dv (nx (sg S 78 60)) % cnp c = yrW (cnp c) (sg S 78 60) := rfl
  rw [ek, ew]
  have f1 := seed S (nx (sg S 78 60))
  have f2 := Fm_tr f1 (seed (sp S 78 60 (nx (sg S 78 60))) (nx (nx (sg S 78 60))))
  have hF2 : RM (sp (sp S 78 60 (nx (sg S 78 60))) 78 60 (nx (nx (sg S 78 60)))) 80 (72 + cnp c) f := RM_o (RM_o hF (by omega)) (by omega)
  have hC2 := CM_x hC f2
  have h51 : sg (sp (sp S 78 60 (nx (sg S 78 60))) 78 60 (nx (nx (sg S 78 60)))) 78 51 = sg S 78 51 := by rw [sgj (by omega), sgj (by omega)]
  unfold yrR yrS
  by_cases z0 : yrK (sg S 78 60) = 0
  · rw [z0, if_pos (by decide), if_pos rfl, if_neg (by decide : ¬ (0 : Nat) = 1)]
    have e1 : sg (sp (sp S 78 60 (nx (sg S 78 60))) 78 60 (nx (nx (sg S 78 60)))) 96 (152 + yrW (cnp c) (sg S 78 60)) = f (72 + yrW (cnp c) (sg S 78 60)) := by
      rw [← hF2 _ (by omega), ← Nat.add_assoc]
    rw [show (152 : Int32) = nI 152 from rfl, nIa, r78_46, n96, inbT (by omega) (by decide), nIc (by omega), e1]
    rcases hRI.2.2.2.2.2 _ hw with q | ⟨o, hoo, q⟩
    · rw [if_pos q, if_neg (by decide)]
      have ewr : wrt f (yrW (cnp c) (sg S 78 60)) = f := if_pos q
      rw [ewr]
      exact Rn_ret ⟨hF2, sgp _ _ _ _, f2, h51⟩
    · rw [if_neg (by rw [q]; exact nIn (by omega)), l80]
      refine Rn_bv (Rn_mono (m_writes hN (by omega) hI hC2 hF2 hRI hw hoo q) (fun S3 h => ?_))
      rw [if_neg (by decide), if_neg (by decide)]
      exact Rn_ret ⟨h.1, (h.2.1 _ _ (by unfold mR; omega)).trans (sgp _ _ _ _), Fm_tr f2 (x_mW (Fm_wk h.2 mR_W)), (h.2.1 _ _ (by unfold mR; omega)).trans h51⟩
  · rw [if_neg z0, eq0F (by omega) (by omega)]
    by_cases z1 : yrK (sg S 78 60) = 1
    · rw [z1, if_pos (by decide), if_pos rfl, if_pos rfl, hC2.1.2, m_draw hp (by omega), bd_some, sgp]
      have eo : dv (nx (nx (nx (sg S 78 60)))) % cnp c = yrO (cnp c) (sg S 78 60) := rfl
      have f3 := Fm_tr f2 (seed (sp (sp S 78 60 (nx (sg S 78 60))) 78 60 (nx (nx (sg S 78 60)))) (nx (nx (nx (sg S 78 60)))))
      rw [eo, show (152 : Int32) = nI 152 from rfl, nIa, r78_46, n96, nIc (by omega), show 152 + yrW (cnp c) (sg S 78 60) = 80 + 72 + yrW (cnp c) (sg S 78 60) by omega]
      have key : ∀ v : Int32, Rn (some (sp (sp (sp (sp S 78 60 (nx (sg S 78 60))) 78 60 (nx (nx (sg S 78 60)))) 78 60 (nx (nx (nx (sg S 78 60))))) 96 (80 + 72 + yrW (cnp c) (sg S 78 60)) v)) (fun S' => RM S' 80 (72 + cnp c) (wr f (72 + yrW (cnp c) (sg S 78 60)) v) ∧ sg S' 78 60 = nx (nx (nx (sg S 78 60))) ∧ Fm mX S S' ∧ sg S' 78 51 = sg S 78 51) := fun v => Rn_ret ⟨RMw_at (RM_o hF2 (by omega)), by rw [sgn (by omega), sgp], Fm_sp f3 (Or.inl (mW_r (by omega) (by omega))), by rw [sgn (by omega), sgj (by omega)]; exact h51⟩
      by_cases y : yrO (cnp c) (sg S 78 60) = yrW (cnp c) (sg S 78 60)
      · rw [eqT y, if_pos y, inbT (by omega) (by decide), if_neg (by decide : ¬ nI 1 = 2)]
        exact key _
      · rw [eqF y (by omega) (by omega), if_neg y, inbT (by omega) (by decide), if_neg (by decide : ¬ nI 1 = 2)]
        exact key _
    · rw [if_neg z1, if_neg z1, l1, eqF z1 (by omega) (by omega), ← l1]
      by_cases z2 : yrK (sg S 78 60) = 2
      · have e1 : sg (sp (sp S 78 60 (nx (sg S 78 60))) 78 60 (nx (nx (sg S 78 60)))) 96 81 = f 1 := hF2 1 (by omega)
        rw [z2, if_pos (by decide), if_pos rfl, show (81 : Int32) = nI 81 from rfl, r78_46, n96, inbT (by omega) (by decide), inbT (by omega) (by decide), nIc (by omega), e1]
        exact Rn_ret ⟨RM_sp (j := 1) hF2, by rw [sgn (by omega), sgp], Fm_sp f2 (Or.inl (mW_r (by omega) (by omega))), by rw [sgn (by omega)]; exact h51⟩
      · rw [l2, eqF z2 (by omega) (by omega), if_neg z2]
        exact Rn_ret ⟨hF2, sgp _ _ _ _, f2, h51⟩
def yrV (c : Cy) (d : Nat) (s : Int32) (r : Rw) (n w : Nat) : Int32 := if w = 0 then sm (yrs c d s r n).2 64 8 - sm r 64 8 else if w = 1 then sm (yrs c d s r n).2 56 8 else sm (yrs c d s r n).2 8 48
theorem c_years {d n w : Nat} {s0 : Int32} (hN : 10000 ≤ N) (hI : CI c) (hRI : RI c r) (hd0 : r 0 = nI d) (hd : d ≤ 999) (hn : n ≤ 40) (hw : w ≤ 2) (hK : KC S t c r) (hF : RC S 42 (72 + cnp c) r) (hs : sg S 0 18 = s0) : Rn (b_X9_years_31 N N 0 (nI n) (nI w) 0 S) (fun q => q.1 = .inl (yrV c d s0 r n w) ∧ Fm (qC t) S q.2) := by
  have hnp := hI.1.2
  refine lp0 (fun m (s : am_S) i => b_X9_years_31 N m 0 (nI n) (nI w) i s) (fun i s => KC s t c r ∧ RC s 42 (72 + cnp c) (yrs c d s0 r i).2 ∧ sg s 0 18 = (yrs c d s0 r i).1 ∧ Fm (qC t) S s) _ n ?_ ?_ N S (by omega) ⟨hK, hF, hs, Fm_rf _ _⟩
  · intro m s hs
    obtain ⟨g1, g2, g3, g4⟩ := hs
    show Rn (b_X9_years_31 N (m + 1) 0 (nI n) (nI w) (nI n) s) _
    unfold b_X9_years_31
    rw [leT (Nat.le_refl _) (by omega), r0_7, r0_8]
    have : w = 0 ∨ w = 1 ∨ w = 2 := by omega
    rcases this with h | h | h <;> subst h
    · rw [if_pos (by decide), c_heardAll hN Sk42 g2, bd_some, c_heardAll hN Sk40 g1.2.2, bd_some]
      exact Rn_ret ⟨rfl, g4⟩
    · rw [if_neg (by decide), if_pos (by decide), c_regretAll hN Sk42 g2, bd_some]
      exact Rn_ret ⟨rfl, g4⟩
    · rw [if_neg (by decide), if_neg (by decide), c_heldAll hN Sk42 g2, bd_some]
      exact Rn_ret ⟨rfl, g4⟩
  · intro m i s hi hs ih
    obtain ⟨g1, g2, g3, g4⟩ := hs
    obtain ⟨i1, i2⟩ := yrs_in (s := s0) hI hRI hd0 i (by omega)
    show Rn (b_X9_years_31 N (m + 1) 0 (nI n) (nI w) (nI i) s) _
    unfold b_X9_years_31 b_X9_years_59
    obtain ⟨k1, f1⟩ := KC_seed (v := nx (yrs c d s0 r i).1) g1
    have hF1 : RC (sp s 0 18 (nx (yrs c d s0 r i).1)) 42 (72 + cnp c) (yrs c d s0 r i).2 := RC_o g2 (by omega)
    rw [leF (by omega) (by omega), l10, c_draw (by omega) (by omega), bd_some, g3, g_isC k1.1, k1.1.1, k1.2.1.1.2, nI1]
    have day : ∀ (A : am_S) (f : Rw), KC A t c r → RC A 42 (72 + cnp c) f → RI c f → f 0 = nI (d + i) → Fm (qC t) S A → day_ c (nI (dv (nx (yrs c d s0 r i).1) % 10)) (cro c (d + i)) f = (yrs c d s0 r (i + 1)).2 → sg A 0 18 = (yrs c d s0 r (i + 1)).1 → Rn (if isC 1 (rg A 0) = true then (if isC 1 (rg A 0) = true then (bd (f_X7_dayNow N (rf 0 8) A) (fun r3 S4 => (bd (f_X1_boxOn N (rg A 0) r3 S4) (fun r6 S7 => (bd (f_X1_passDayWith N (rg A 0) (rf 0 8) (nI (dv (nx (yrs c d s0 r i).1) % 10)) r6 S7) (fun r9 S10 => b_X9_years_31 N m 0 (nI n) (nI w) (nI (i + 1)) S10)))))) else none) else none) (fun q => q.1 = .inl (yrV c d s0 r n w) ∧ Fm (qC t) S q.2) := by
      intro A f a1 a2 a3 a4 a5 a6 a7
      have ht := HC_t a1.1
      rw [g_isC a1.1, g_isC a1.1, a1.1.1, r0_8, c_dayNow Sk42.1 (by omega) a2, bd_some, a4, c_boxOn a1.1.2.1 a1.2.1 (by omega), bd_some]
      refine Rn_bd (Rn_mono (c_passDayWith hN a1.1.2.1 Sk42 hI (Vi_cro hI) a1.2.1 a2 a3) (fun q h => ?_))
      refine ih q.2 ⟨KC_q a1 (q_dW h.2.2), ?_, (h.2.2.1 _ _ (by unfold dW; omega)).trans a7, Fm_tr a5 (q_dW h.2.2)⟩
      rw [← a6]
      exact h.2.1
    by_cases z : cnp c = 0
    · rw [if_pos (show nI (cnp c) ≤ 0 by rw [z]; decide)]
      have dd := day _ _ k1 hF1 i1 i2 (Fm_tr g4 f1) (by
        show _ = day_ c _ _ (if cnp c = 0 then _ else _)
        rw [if_pos z]) (by
        show _ = (if cnp c = 0 then _ else _)
        rw [if_pos z, sgp])
      rw [k1.1.1] at dd
      exact dd
    · rw [le0F (by omega) (by omega)]
      refine Rn_bv (Rn_mono (c_act hN hI k1 hF1 i1 (by omega)) (fun S3 h => ?_))
      rw [sgp] at h
      have hy := yrR_in (s := nx (yrs c d s0 r i).1) hI i1 (by omega)
      refine day S3 _ h.1 h.2.1 hy.1 (hy.2.trans i2) (Fm_tr g4 (Fm_tr f1 h.2.2.2)) ?_ ?_
      · show _ = day_ c _ _ (if cnp c = 0 then _ else _)
        rw [if_neg z]
      · show _ = (if cnp c = 0 then _ else _)
        rw [if_neg z]
        exact h.2.2.1
theorem m_years {d n w : Nat} {s0 : Int32} (hN : 10000 ≤ N) (hI : CI c) (hRI : RI c r) (hd0 : r 0 = nI d) (hd : d ≤ 999) (hn : n ≤ 40) (hw : w ≤ 2) (hK : KM S c r) (hF : RM S 80 (72 + cnp c) r) (hs : sg S 78 60 = s0) : Rn (b_X10_years_38 N N 78 (nI n) (nI w) 0 S) (fun q => q.1 = yrV c d s0 r n w ∧ Fm qM S q.2 ∧ sg q.2 78 0 = sg S 78 0) := by
  have hnp := hI.1.2
  refine lp0 (fun m (s : am_S) i => b_X10_years_38 N m 78 (nI n) (nI w) i s) (fun i s => RM s 80 (72 + cnp c) (yrs c d s0 r i).2 ∧ sg s 78 60 = (yrs c d s0 r i).1 ∧ Fm mX S s) _ n ?_ ?_ N S (by omega) ⟨hF, hs, Fm_rf _ _⟩
  · intro m s hs
    obtain ⟨g2, g3, g4⟩ := hs
    obtain ⟨i1, i2⟩ := yrs_in (s := s0) hI hRI hd0 n (by omega)
    have hq := x_end hK.2.1.1 g4
    have hk := KM_q hK hnp hq
    have g5 : RM (sp s 78 51 (-1)) 80 (72 + cnp c) (yrs c d s0 r n).2 := RM_o g2 (by omega)
    have h0 : sg (sp s 78 51 (-1)) 78 0 = sg S 78 0 := by
      rw [sgj (by omega)]
      exact g4.1 _ _ (by unfold mX mW; omega)
    show Rn (b_X10_years_38 N (m + 1) 78 (nI n) (nI w) (nI n) s) _
    unfold b_X10_years_38 b_X10_years_127
    rw [leT (Nat.le_refl _) (by omega)]
    have : w = 0 ∨ w = 1 ∨ w = 2 := by omega
    rcases this with h | h | h <;> subst h
    · rw [if_pos (by decide), l80, l64, m_sumOf (Or.inr rfl) hN (by omega) hI hk.1 g5 i1, bd_some, l0, m_sumOf (Or.inr rfl) hN (by omega) hI hk.1 hk.2.2 hRI, bd_some]
      exact Rn_ret ⟨rfl, hq, h0⟩
    · rw [if_neg (by decide), if_pos (by decide), l80, l56, m_sumOf (Or.inl rfl) hN (by omega) hI hk.1 g5 i1, bd_some]
      exact Rn_ret ⟨rfl, hq, h0⟩
    · rw [if_neg (by decide), if_neg (by decide), l80, m_heldAll hN (by omega) hI hk.1 g5 i1, bd_some]
      exact Rn_ret ⟨rfl, hq, h0⟩
  · intro m i s hi hs ih
    obtain ⟨g2, g3, g4⟩ := hs
    obtain ⟨i1, i2⟩ := yrs_in (s := s0) hI hRI hd0 i (by omega)
    obtain ⟨x1, x2, x3⟩ := KM_x hK hnp g4
    show Rn (b_X10_years_38 N (m + 1) 78 (nI n) (nI w) (nI i) s) _
    unfold b_X10_years_38 b_X10_years_65
    rw [leF (by omega) (by omega), l10, m_draw (by omega) (by omega), bd_some, g3, nI1]
    have f1 : Fm mX S (sp (sp s 78 60 (nx (yrs c d s0 r i).1)) 78 51 (nI (dv (nx (yrs c d s0 r i).1) % 10))) := Fm_sp (Fm_sp g4 (Or.inr ⟨rfl, Or.inr rfl⟩)) (Or.inr ⟨rfl, Or.inl rfl⟩)
    have hF1 : RM (sp (sp s 78 60 (nx (yrs c d s0 r i).1)) 78 51 (nI (dv (nx (yrs c d s0 r i).1) % 10))) 80 (72 + cnp c) (yrs c d s0 r i).2 := RM_o (RM_o g2 (by omega)) (by omega)
    obtain ⟨y1, y2, y3⟩ := KM_x hK hnp f1
    have e60 : sg (sp (sp s 78 60 (nx (yrs c d s0 r i).1)) 78 51 (nI (dv (nx (yrs c d s0 r i).1) % 10))) 78 60 = nx (yrs c d s0 r i).1 := by rw [sgj (by omega), sgp]
    have hwet : ¬ nI (dv (nx (yrs c d s0 r i).1) % 10) = -1 := nIn (by have := Nat.mod_lt (dv (nx (yrs c d s0 r i).1)) (show 0 < 10 by omega); omega)
    have day : ∀ (A : am_S) (f : Rw), RM A 80 (72 + cnp c) f → RI c f → f 0 = nI (d + i) → Fm mX S A → sg A 78 51 = nI (dv (nx (yrs c d s0 r i).1) % 10) → day_ c (nI (dv (nx (yrs c d s0 r i).1) % 10)) (cro c (d + i)) f = (yrs c d s0 r (i + 1)).2 → sg A 78 60 = (yrs c d s0 r (i + 1)).1 → Rn (bv (f_X10_dayGoes N 78 80 A) (fun S2 => b_X10_years_38 N m 78 (nI n) (nI w) (nI (i + 1)) S2)) (fun q => q.1 = yrV c d s0 r n w ∧ Fm qM S q.2 ∧ sg q.2 78 0 = sg S 78 0) := by
      intro A f a2 a3 a4 a5 a8 a6 a7
      obtain ⟨u1, u2, u3⟩ := KM_x hK hnp a5
      refine Rn_bv (Rn_mono (m_xday hN hI u1 u2 a8 hwet a2 a3 a4 (by omega)) (fun S2 h => ?_))
      refine ih S2 ⟨?_, (h.2.1 _ _ (by unfold mW; omega)).trans a7, Fm_tr a5 (x_mW h.2)⟩
      rw [← a6]
      exact h.1
    by_cases z : cnp c = 0
    · rw [y1.1.2, if_pos (show nI (cnp c) ≤ 0 by rw [z]; decide)]
      refine day _ _ hF1 i1 i2 f1 (sgp _ _ _ _) ?_ ?_
      · show _ = day_ c _ _ (if cnp c = 0 then _ else _)
        rw [if_pos z]
      · show _ = (if cnp c = 0 then _ else _)
        rw [if_pos z, e60]
    · rw [y1.1.2, le0F (by omega) (by omega)]
      refine Rn_bv (Rn_mono (m_act hN hI y1 hF1 i1 (by omega)) (fun S3 h => ?_))
      rw [e60] at h
      have hy := yrR_in (s := nx (yrs c d s0 r i).1) hI i1 (by omega)
      refine day S3 _ h.1 hy.1 (hy.2.trans i2) (Fm_tr f1 h.2.2.1) (h.2.2.2.trans (sgp _ _ _ _)) ?_ ?_
      · show _ = day_ c _ _ (if cnp c = 0 then _ else _)
        rw [if_neg z]
      · show _ = (if cnp c = 0 then _ else _)
        rw [if_neg z]
        exact h.2.1
end
