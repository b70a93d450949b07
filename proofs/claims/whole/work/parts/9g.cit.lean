/-! city -/
section
variable {N t : Nat} {a : Ax}
theorem XC_w {S S' : am_S} {pl : Int32} {rfu : Nat → Int32} (h : XC S t a) (hH : HC S' t) (h1 : sg S' 0 1 = 0) (h3 : sg S' 0 3 = pl) (hr : ∀ j, j < 3 → sg S' 7 j = rfu j) (hs : ∀ k j, (t ≤ k ∧ k < t + 15 ∧ ¬ k = t + 11 ∧ ¬ k = t + 14) ∨ (k = 0 ∧ j = 11) ∨ k = 41 ∨ (44 ≤ k ∧ k ≤ 57) → sg S' k j = sg S k j) : XC S' t (a.1, a.2.1, a.2.2.1, (0, a.2.2.2.1.2), pl, rfu) := by
  obtain ⟨a1, a2, a3, a4, -, -⟩ := h
  refine ⟨hH, CC_same a2 (fun k j k1 k2 k3 k4 => hs k j (by omega)), VC_same a3 (fun k j hk => hs k j (by omega)), ?_, ⟨h1, fun j hj => absurd hj (Nat.not_lt_zero j)⟩, ⟨h3, hr⟩⟩
  show (match a.2.2.1 with
    | none => sg S' 0 11 = 0
    | some v => sg S' 0 11 = 1 ∧ VC S' (cnp a.1) 50 52 54 v)
  cases hv : a.2.2.1 with
  | none =>
    rw [hv] at a4
    exact (hs _ _ (by omega)).trans a4
  | some v =>
    rw [hv] at a4
    exact ⟨(hs _ _ (by omega)).trans a4.1, VC_same a4.2 (fun k j hk => hs k j (by omega))⟩
theorem XM_w {S S' : am_S} {pl : Int32} {rfu : Nat → Int32} (h : XM S a) (hp : cnp a.1 ≤ 8) (h1 : sg S' 78 14 = 0) (h3 : sg S' 78 16 = pl) (hr : ∀ j, j < 3 → sg S' 86 j = rfu j) (hs : ∀ k j, (79 ≤ k ∧ k ≤ 84) ∨ (k = 78 ∧ ((1 ≤ j ∧ j ≤ 6) ∨ j = 48 ∨ j = 51 ∨ j = 52 ∨ j = 56 ∨ 61 ≤ j)) ∨ (k = 96 ∧ j < 80) ∨ k = 97 ∨ k = 102 ∨ (105 ≤ k ∧ k ≤ 107) → sg S' k j = sg S k j) : XM S' (a.1, a.2.1, a.2.2.1, (0, a.2.2.2.1.2), pl, rfu) := by
  obtain ⟨⟨a1, b1, b2⟩, ⟨a2, a3, a9⟩, a4, -, -⟩ := h
  refine ⟨⟨CM_same a1 (fun k j hk => hs k j (by unfold mC at hk; omega)), (hs _ _ (by omega)).trans b1, (hs _ _ (by omega)).trans b2⟩, ⟨RM_same a2 (fun j hj => hs _ _ (by have hj' : j < 72 + cnp a.1 := hj; omega)), AM_same a3 (hs _ _ (by omega)) (fun j => hs _ _ (by omega)), NM_same a9 (hs _ _ (by omega)) (fun j => hs _ _ (by omega))⟩, ?_, ⟨h1, fun j hj => absurd hj (Nat.not_lt_zero j)⟩, ⟨h3, hr⟩⟩
  show (match a.2.2.1 with
    | none => sg S' 78 61 = 0
    | some v => sg S' 78 61 = 1 ∧ RMc S' 105 (72 + cnp a.1) v.1 ∧ AM S' (cnp a.1) 62 106 v.2.1 ∧ NM S' 63 107 v.2.2)
  cases hv : a.2.2.1 with
  | none =>
    rw [hv] at a4
    exact (hs _ _ (by omega)).trans a4
  | some v =>
    rw [hv] at a4
    obtain ⟨c1, c2, c3, c4⟩ := a4
    exact ⟨(hs _ _ (by omega)).trans c1, fun j hj => (hs _ _ (by omega)).trans (c2 j hj), AM_same c3 (hs _ _ (by omega)) (fun j => hs _ _ (by omega)), NM_same c4 (hs _ _ (by omega)) (fun j => hs _ _ (by omega))⟩
def oth (t : Nat) : Nat := if t = 8 then 24 else 8
theorem Ci_o {S : am_S} (h : HC S t) : Ci (oth t) ∧ rg S 1 = oth t ∧ (t = if oth t = 8 then 24 else 8) ∧ isC 1 (oth t) = true ∧ ((t = 8 ∧ oth t = 24) ∨ (t = 24 ∧ oth t = 8)) := by
  unfold oth
  rcases HC_t h with q | q
  · subst q
    exact ⟨Ci24, h.2.2, rfl, Ci24.2.2.2.2.2, Or.inl ⟨rfl, rfl⟩⟩
  · subst q
    exact ⟨Ci8, h.2.2, rfl, Ci8.2.2.2.2.2, Or.inr ⟨rfl, rfl⟩⟩
def aBad (a : Ax) (x : Ft) : Ax := (a.1, a.2.1, a.2.2.1, (0, a.2.2.2.1.2), nI x.2.1, wr a.2.2.2.2.2 0 (a.2.2.2.2.2 0 + 1))
def aNew (a : Ax) (c : Cp) : Ax := (cyN c, (rwN c, (0, fun _ _ => 0), (0, fun _ => (0, 0, 0))), none, (0, a.2.2.2.1.2), -1, a.2.2.2.2.2)
theorem W_bad {x : Ft} (h : WX a) : WX (aBad a x) := ⟨h.1, h.2.1, h.2.2.1, Nat.zero_le _, h.2.2.2.2⟩
theorem W_new {c : Cp} (h : WX a) (hI : CpI c) (hR : RuA c) : WX (aNew a c) := ⟨CI_N hI hR, ⟨WR_N hI, ⟨Nat.zero_le _, fun i hi => absurd hi (Nat.not_lt_zero i)⟩, ⟨Nat.zero_le _, fun i hi => absurd hi (Nat.not_lt_zero i)⟩⟩, fun v q => nnE q, Nat.zero_le _, h.2.2.2.2⟩
theorem x_city {n : Int32} (hN : 10000 ≤ N) (hW : WX a) : Jx t a (f_X9_city N 0 n) (f_X10_city N 78 n) cd1 := by
  have hnp := WX_np hW
  obtain ⟨w1, w2⟩ := hW.2.2.2
  by_cases hv : vR n 0 a.2.2.2.1.1
  · obtain ⟨m, -, hm, rfl⟩ := vR_n hv (by omega) (by omega)
    have hv1 : ¬ nI m < 0 := hv.1
    obtain ⟨b, hbd⟩ : ∃ b : Tx, b = (m, a.2.2.2.1.2) := ⟨_, rfl⟩
    have hb : TxI b := by rw [hbd]; exact ⟨by show m ≤ 700; omega, w2⟩
    have eb1 : b.1 = m := by rw [hbd]
    have eb2 : b.2 = a.2.2.2.1.2 := by rw [hbd]
    have clas : ∀ S, XC S t a → Rn (f_X2_read N 2 1 (nI m) (oth t) (sp S 0 1 0)) (fun q => q.1 = nI (sAll b).1.1 ∧ PCs q.2 b (sAll b).1 ∧ ((sAll b).1.1 = 0 → CE q.2 (oth t) (sAll b).2.1) ∧ (∀ k j, ¬ rdW (oth t) k j → sg q.2 k j = sg (sp S 0 1 0) k j) ∧ (rg q.2 0 = rg (sp S 0 1 0) 0 ∧ rg q.2 1 = rg (sp S 0 1 0) 1)) := by
      intro S hX
      rw [← eb1]
      refine c_read hN hb (Ci_o hX.1).1 (fun j hj => ?_)
      rw [sgn (by omega), eb2]
      exact hX.2.2.2.2.1.2 j (by omega)
    have mode : ∀ (S : am_S) (Q : Int32 × am_S → Prop), XM S a → (∀ S', PMs S' b (sAll b).1 → ((sAll b).1.1 = 0 → CTM S' (sAll b).2.2 (sAll b).2.1) → Fl cmW (sp S 78 0 0) S' → sg S' 78 14 = 0 → Rn (b_X10_city_138 N 78 S') Q) → Rn (f_X10_city N 78 (nI m) S) Q := by
      intro S Q hX hQ
      obtain ⟨k1, k2, k3⟩ := XM_0 hX hnp
      unfold f_X10_city
      rw [if_neg hv1, k1.2.2.2.1.1, ltF hm (by omega), ← eb1]
      exact m_start hN hb k2 (fun j hj => by rw [eb2]; exact k1.2.2.2.1.2 j (by omega)) hQ
    by_cases z : (sAll b).1.1 = 0
    · obtain ⟨y1, y2, y3, y4⟩ := sAll_ok hb z
      have ytp : (sAll b).2.2 ≤ 1400 := by have := G_hi y1; have := hb.1; omega
      refine ⟨.inl 0, aNew a (sAll b).2.1, oth t, W_new hW y2 y3, fun S hX hO => ?_, fun S hX => ?_⟩
      · obtain ⟨o1, o2, o3, o4, o5⟩ := Ci_o hX.1
        unfold f_X9_city
        rw [if_neg hv1, hX.2.2.2.2.1.1, if_pos ((nIle (by omega) (by omega)).mpr hm), rg_sp, o2, if_pos o4, r0_2, r0_0]
        refine Rn_bd (Rn_mono (clas S hX) (fun q g => ?_))
        obtain ⟨g1, g2, g3, g4, g5, g6⟩ := g
        rw [g1, c_place g2, bd_some, if_pos z, eq0T z]
        have e0 : rg (sp q.2 0 3 (-1)) 0 = t := g5.trans hX.1.1
        have e1 : rg (sp q.2 0 3 (-1)) 1 = oth t := g6.trans o2
        rw [e0, e1, if_pos hX.1.2.1.2.2.2.2.2, if_pos o4, rgn (by omega), rgp, if_pos o4, r0_7, r0_9, r0_10, r0_15]
        obtain ⟨S2, hS2⟩ : ∃ S2, S2 = rp (rp (sp q.2 0 3 (-1)) 0 (oth t)) 1 t := ⟨_, rfl⟩
        rw [← hS2]
        have s2 : ∀ k j, sg S2 k j = sg (sp q.2 0 3 (-1)) k j := fun k j => by rw [hS2]; rfl
        have hCE : CE S2 (oth t) (sAll b).2.1 := by
          obtain ⟨c1, c2, c3⟩ := g3 z
          exact ⟨CC_same c1 (fun k j k1 k2 _ _ => by rw [s2, sgn (by omega)]), fun i hi => by rw [s2, sgn (by omega)]; exact c2 i hi, fun i hi => by rw [s2, sgn (by omega)]; exact c3 i hi⟩
        refine Rn_bv (Rn_mono (c_begin hN y2 o1 hCE) (fun S3 g7 => ?_))
        unfold f_X0_clearAll f_X3_clearAll f_X4_clearAll
        rw [bv_some, bv_some, bv_some]
        obtain ⟨S4, hS4⟩ : ∃ S4, S4 = sp (sp (sp (sp (sp S3 44 1 0) 44 2 0) 46 3 0) 0 11 0) 58 4 0 := ⟨_, rfl⟩
        rw [← hS4]
        have s4 : ∀ k j, ¬ (k = 44 ∨ k = 46 ∨ k = 0 ∨ k = 58) → sg S4 k j = sg S3 k j := fun k j hk => by rw [hS4]; simp (disch := omega) only [sgp, sgn, sgj]
        have s3 : ∀ k j, ¬ k = 41 → sg S3 k j = sg (sp q.2 0 3 (-1)) k j := fun k j hk => (g7.2.1 k j hk).trans (s2 k j)
        have s0 : ∀ k j, ¬ rdW (oth t) k j → ¬ (k = 41 ∨ k = 44 ∨ k = 46 ∨ k = 0 ∨ k = 58) → sg S4 k j = sg S k j := fun k j h1 h2 => by
          rw [s4 _ _ (by omega), s3 _ _ (by omega), sgn (by omega), g4 _ _ h1, sgn (by omega)]
        have hrg : rg S4 0 = oth t ∧ rg S4 1 = t := by
          have r3 : ∀ i, rg S3 i = rg S2 i := fun i => by unfold rg; rw [g7.2.2]
          have r4 : ∀ i, rg S4 i = rg S3 i := fun i => by rw [hS4]; rfl
          rw [r4, r4, r3, r3, hS2, rgn (by omega), rgp, rgp]
          exact ⟨rfl, rfl⟩
        have e01 : sg S4 0 1 = 0 := by
          rw [hS4]
          simp (disch := omega) only [sgp, sgn, sgj]
          rw [s3 _ _ (by omega), sgj (by omega), g4 _ _ (by unfold rdW; omega), sgp]
        have e03 : sg S4 0 3 = -1 := by
          rw [hS4]
          simp (disch := omega) only [sgp, sgn, sgj]
          rw [s3 _ _ (by omega), sgp]
        refine Rn_ret ⟨rfl, ⟨⟨hrg.1, o1, by rw [hrg.2]; exact o3⟩, CC_same hCE.1 (fun k j k1 k2 _ _ => ?_), ⟨?_, ⟨?_, 0, by omega, ?_, fun i j hi => absurd hi (Nat.not_lt_zero i)⟩, ?_, fun i hi => absurd hi (Nat.not_lt_zero i)⟩, ?_, ⟨e01, fun j hj => absurd hj (Nat.not_lt_zero j)⟩, e03, fun j hj => ?_⟩, Or.inl ?_, fun k j hk => s0 k j (by unfold rdW; omega) (by omega)⟩
        · rw [s4 _ _ (by omega), g7.2.1 _ _ (by omega)]
        · exact RC_same g7.1 (fun j => s4 _ _ (by omega))
        · show sg S4 44 1 = 0
          rw [hS4]
          simp (disch := omega) only [sgp, sgn, sgj]
        · show sg S4 44 2 = 0
          rw [hS4]
          simp (disch := omega) only [sgp, sgn, sgj]
        · show sg S4 46 3 = 0
          rw [hS4]
          simp (disch := omega) only [sgp, sgn, sgj]
        · show sg S4 0 11 = 0
          rw [hS4]
          simp (disch := omega) only [sgp, sgn, sgj]
        · rw [s0 _ _ (by unfold rdW; omega) (by omega)]
          exact hX.2.2.2.2.2.2 j hj
        · show sg S4 58 4 = 0
          rw [hS4, sgp]
      · refine mode S _ hX (fun S1 q1 q2 q3 q4 => ?_)
        obtain ⟨k1, k2, k3⟩ := XM_0 hX hnp
        refine Rn_mono (m_done hN q1 z y2 (q2 z) ytp) (fun q g => ?_)
        obtain ⟨g1, g2, g3, ⟨g4, g5, g6⟩, g7⟩ := g
        have e : ∀ k j, ¬ ceW k j → ¬ cmW k j → sg q.2 k j = sg (sp S 78 0 0) k j := fun k j h1 h2 => (g7.1 k j h1).trans (q3.1 k j h2)
        refine ⟨⟨g1, (e _ _ (by unfold ceW; omega) (by unfold cmW; omega)).trans (sgp _ _ _ _)⟩, ⟨⟨g2, (e _ _ (by unfold ceW; omega) (by unfold cmW; omega)).trans k1.1.2.1, (e _ _ (by unfold ceW; omega) (by unfold cmW; omega)).trans k1.1.2.2⟩, ⟨g3, ⟨g4, fun i j hi => absurd hi (Nat.not_lt_zero i)⟩, g5, fun i hi => absurd hi (Nat.not_lt_zero i)⟩, g6, ⟨?_, fun j hj => absurd hj (Nat.not_lt_zero j)⟩, ?_, fun j hj => ?_⟩, fun k j hk => ?_, ?_, ?_⟩
        · rw [g7.1 _ _ (by unfold ceW; omega), q4]; rfl
        · rw [g7.1 _ _ (by unfold ceW; omega), q1.2.2.2, if_pos z]; rfl
        · rw [e _ _ (by unfold ceW; omega) (by unfold cmW; omega)]
          exact k1.2.2.2.2.2 j hj
        · rw [e _ _ (by unfold ceW; omega) (by unfold cmW; omega), sgn (by omega)]
        · rw [g7.2, q3.2.1]; rfl
        · have e1 : lg q.2 108 = lg S1 108 := by unfold lg; rw [g7.2]
          rw [e1, q3.2.2 _ (by omega)]; rfl
    · refine ⟨.inl (nI (sAll b).1.1), aBad a (sAll b).1, t, W_bad hW, fun S hX hO => ?_, fun S hX => ?_⟩
      · obtain ⟨o1, o2, o3, o4, o5⟩ := Ci_o hX.1
        unfold f_X9_city
        rw [if_neg hv1, hX.2.2.2.2.1.1, if_pos ((nIle (by omega) (by omega)).mpr hm), rg_sp, o2, if_pos o4, r0_2, r0_0]
        refine Rn_bd (Rn_mono (clas S hX) (fun q g => ?_))
        obtain ⟨g1, g2, g3, g4, g5, g6⟩ := g
        rw [g1, c_place g2, bd_some, if_neg z, eq0F (by omega) (by have := g2.1.2; omega), r0_4, n7, inb0T (by decide) (by decide), inb0T (by decide) (by decide), c00]
        have e7 : ∀ j, sg (sp q.2 0 3 (nI (sAll b).1.2.1)) 7 j = sg S 7 j := fun j => by rw [sgn (by omega), g4 _ _ (by unfold rdW; omega), sgn (by omega)]
        have ek : ∀ k j, ¬ rdW (oth t) k j → ¬ k = 7 → ¬ (k = 0 ∧ (j = 3 ∨ j = 1)) → sg (sp (sp q.2 0 3 (nI (sAll b).1.2.1)) 7 0 (sg (sp q.2 0 3 (nI (sAll b).1.2.1)) 7 0 + 1)) k j = sg S k j := fun k j h1 h2 h3 => by rw [sgx (by omega), sgx (by omega), g4 _ _ h1, sgx (by omega)]
        refine Rn_ret ⟨rfl, XC_w hX ⟨g5.trans hX.1.1, hX.1.2.1, g6.trans hX.1.2.2⟩ ?_ ?_ (fun j hj => ?_) (fun k j hk => ek k j (by unfold rdW; omega) (by omega) (by omega)), OCx_same hO (fun k j hk => ek k j (by unfold rdW; omega) (by omega) (by omega)), fun k j hk => ek k j (by unfold rdW; omega) (by omega) (by omega)⟩
        · rw [sgn (by omega), sgj (by omega), g4 _ _ (by unfold rdW; omega), sgp]
        · rw [sgn (by omega), sgp]
        · by_cases y : j = 0
          · subst y
            rw [sgp, e7, hX.2.2.2.2.2.2 0 (by omega), wr_eq]
          · rw [sgj y, e7, hX.2.2.2.2.2.2 j hj, wr_ne y]
      · refine mode S _ hX (fun S1 q1 q2 q3 q4 => ?_)
        obtain ⟨k1, k2, k3⟩ := XM_0 hX hnp
        rw [m_failed q1 z]
        have ek : ∀ k j, ¬ cmW k j → ¬ k = 86 → sg (sp S1 86 0 (sg S1 86 0 + 1)) k j = sg (sp S 78 0 0) k j := fun k j h1 h2 => by rw [sgn h2, q3.1 _ _ h1]
        have e86 : ∀ j, sg S1 86 j = sg (sp S 78 0 0) 86 j := fun j => q3.1 _ _ (by unfold cmW; omega)
        refine Rn_ret ⟨⟨rfl, (ek _ _ (by unfold cmW; omega) (by omega)).trans (sgp _ _ _ _)⟩, XM_w k1 hnp (by rw [sgn (by omega), q4]) (by rw [sgn (by omega), q1.2.2.2, if_neg z]) (fun j hj => ?_) (fun k j hk => ek k j (by unfold cmW; omega) (by omega)), fun k j hk => ?_, ?_, ?_⟩
        · by_cases y : j = 0
          · subst y
            rw [sgp, e86, k1.2.2.2.2.2 0 (by omega), wr_eq]
          · rw [sgj y, e86, k1.2.2.2.2.2 j hj, wr_ne y]
        · rw [ek _ _ (by unfold cmW; omega) (by omega), sgn (by omega)]
        · exact q3.2.1
        · exact q3.2.2 _ (by omega)
  · refine ⟨.inr 1, a, t, hW, fun S hX hO => ?_, fun S hX => ?_⟩
    · unfold f_X9_city b_X9_city_12
      by_cases y : n < 0
      · rw [if_pos y]
        exact Rn_ret ⟨rfl, PC_q hX hO (Fm_rf _ _)⟩
      · rw [if_neg y, hX.2.2.2.2.1.1, if_neg (fun q => hv ⟨y, q⟩)]
        exact Rn_ret ⟨rfl, PC_q hX hO (Fm_rf _ _)⟩
    · obtain ⟨k1, k2, k3⟩ := XM_0 hX hnp
      have e : Rn (b_X10_city_22 N 78 n 78 (sp S 78 0 0)) (fun q => mok cd1 (.inr 1) q ∧ PM a S q.2) := by
        unfold b_X10_city_22 b_X10_city_23
        rw [h_wrong k2 (by decide), bd_some, zer0]
        exact Rn_ret ⟨sgp _ _ _ _, PM_q hX hnp (q_thr (q_thr (Fm_rf _ _)))⟩
      unfold f_X10_city
      by_cases y : n < 0
      · rw [if_pos y]
        exact e
      · rw [if_neg y, k1.2.2.2.1.1, if_pos (Classical.byContradiction (fun q => hv ⟨y, le_of_nlt q⟩))]
        exact e
end
