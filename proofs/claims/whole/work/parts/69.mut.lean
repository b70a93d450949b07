section
variable {N t : Nat} {a : Ax}
theorem c_refE {S : am_S} {v : Int32} {β : Type} {F : Int32 → β} (hX : XC S t a) (hO : OCx S a.1) : (if inb 1 (ln (rf 0 4)) = true then (if inb 1 (ln (rf 0 4)) = true then some (F v, sp S (rf 0 4) (Int32.toNatClampNeg 1) (sg S (rf 0 4) (Int32.toNatClampNeg 1) + 1)) else none) else none) = some (F v, sp S 7 1 (sg S 7 1 + 1)) := by
  rw [r0_4, n7, inb1T (by decide) (by decide), inb1T (by decide) (by decide), c01]
theorem fr40 {A B : am_S} (h : Fr (fun x => x = 40 + 1) A B) : Fr (dW t 40) A B := Fr_wk h (fun k hk => Or.inl hk)
theorem bad_person {p : Int32} {fc : am_S → Option am_T} {fm : am_S → Option (Int32 × am_S)} (hW : WX a) (hc : ∀ S, XC S t a → fc S = some (.inr 0, S)) (hm : ∀ S, XM S a → sg S 78 0 = 0 → ∃ v, fm S = some (v, sp S 78 0 1)) (fm' : am_S → Option (Int32 × am_S)) (e : ∀ S, fm' S = fm (sp S 78 0 0)) : Jx t a fc fm' cd2 := by
  have hnp := WX_np hW
  refine ⟨.inr 0, a, t, hW, fun S hX hO => ?_, fun S hX => ?_⟩
  · rw [hc S hX]
    exact Rn_ret ⟨rfl, PC_q hX hO (Fm_rf _ _)⟩
  · obtain ⟨k1, k2, k3⟩ := XM_0 hX hnp
    obtain ⟨v, hv⟩ := hm _ k1 k2
    rw [e, hv]
    exact Rn_ret ⟨sgp _ _ _ _, PM_q hX hnp (q_thr (q_thr (Fm_rf _ _)))⟩
theorem x_write {p : Int32} (hN : 10000 ≤ N) (hW : WX a) : Jx t a (f_X9_write N 0 p) (f_X10_write N 78 p) cd2 := by
  have hI := hW.1
  have hnb := hI.1.1
  have hnp := WX_np hW
  obtain ⟨hRI, d, hd, hd0⟩ := hW.2.1.1
  by_cases h1 : vB p (cnp a.1)
  · obtain ⟨i, hi, ei⟩ := vB_n h1 (by omega)
    have e3 : ∀ S, XM S a → sg S 96 (72 + i) = a.2.1.1 (72 + i) := fun S hX => by rw [← hX.2.1.1 (72 + i) (by omega), Nat.zero_add]
    rcases hRI.2.2.2.2.2 i hi with z | ⟨q, hq, z⟩
    · refine ⟨.inl (-1), refu a 1, t, WX_refu hW, fun S hX hO => ?_, fun S hX => ?_⟩
      · unfold f_X9_write
        rw [(g_person hX.1 hX.2.1).1 h1, bt_inl, ei, r0_7, r_at hI Sk40 hX.2.2.1.1 hi, bd_some, if_pos z, c_refE (F := fun v => Sum.inl v) hX hO]
        exact Rn_ret ⟨rfl, c_refu hX hO (by omega)⟩
      · obtain ⟨k1, k2, k3⟩ := XM_0 hX hnp
        unfold f_X10_write
        rw [(h_person k2 k1.1.1.1.2).1 h1, bd_some, if_neg (by decide), ei, l72, nIa, r78_46, n96, inbT (by omega) (by decide), nIc (by omega), e3 _ k1, if_pos z, l1]
        exact Rn_bd (Rn_mono (m_refu k1 (by omega) hnp k3) (fun q h => Rn_ret ⟨⟨h.1, h.2.2.trans k2⟩, h.2.1⟩))
    · obtain ⟨w1, w2, w3⟩ := RI_wrt hI hRI hi
      refine ⟨.inl (wrt a.2.1.1 i (64 + q)), act a (wrt a.2.1.1 i), t, WX_act hW ⟨w1, d, hd, w2.trans hd0⟩, fun S hX hO => ?_, fun S hX => ?_⟩
      · unfold f_X9_write
        rw [(g_person hX.1 hX.2.1).1 h1, bt_inl, ei, r0_7, r_at hI Sk40 hX.2.2.1.1 hi, bd_some, z, eqmF (by omega), r0_9]
        refine c_act2 hW hX hO (fun S1 hk hfin => ?_)
        refine Rn_bv (Rn_mono (c_letter hN hI Sk40 hk.2.2 hRI hi) (fun S2 h => ?_))
        rw [r_heard hI Sk40 h.1 hq, bd_some]
        exact Rn_ret ⟨rfl, hfin S2 _ h.1 (fr40 h.2)⟩
      · obtain ⟨k1, k2, k3⟩ := XM_0 hX hnp
        unfold f_X10_write
        rw [(h_person k2 k1.1.1.1.2).1 h1, bd_some, if_neg (by decide), ei, l72, nIa, r78_46, n96, inbT (by omega) (by decide), nIc (by omega), e3 _ k1, z, eqmF (by omega)]
        refine m_act2 hN hW k1 k3 k2 (fun S1 hk hfin => ?_)
        rw [l0]
        refine Rn_bv (Rn_mono (m_writes hN (by omega) hI hk.1 hk.2.2 hRI hi hq z) (fun S2 h => ?_))
        have g1 : sg S2 96 (72 + i) = nI q := by
          have := h.1 (72 + i) (by omega)
          rw [Nat.zero_add, w3] at this
          rw [this, z]
        have g2 : sg S2 96 (64 + q) = wrt a.2.1.1 i (64 + q) := by
          have := h.1 (64 + q) (by omega)
          rwa [Nat.zero_add] at this
        obtain ⟨p1, p2⟩ := hfin S2 _ h.1 (Fm_wk h.2 mR_W)
        rw [inbT (by omega) (by decide), g1, l64, nIa, inbT (by omega) (by decide), nIc (by omega), g2]
        exact Rn_ret ⟨⟨rfl, p2⟩, p1⟩
  · refine bad_person (p := p) hW (fun S hX => ?_) (fm := fun S => bd (f_X10_isPerson N 78 p S) (fun r1 S2 => (if r1 = 0 then some (0, S2) else (if inb (72 + p) (ln (rf 78 46)) = true then (if (sg S2 (rf 78 46) (Int32.toNatClampNeg (72 + p))) = (-1) then (bd (f_X10_refuses N 78 1 S2) (fun r15 S16 => some (r15, S16))) else (bv (f_X10_keeps N 78 S2) (fun S8 => (bv (f_X10_writes N 78 0 p S8) (fun S11 => (if inb (72 + p) (ln (rf 78 46)) = true then (if inb (64 + (sg S11 (rf 78 46) (Int32.toNatClampNeg (72 + p)))) (ln (rf 78 46)) = true then some ((sg S11 (rf 78 46) (Int32.toNatClampNeg (64 + (sg S11 (rf 78 46) (Int32.toNatClampNeg (72 + p)))))), S11) else none) else none)))))) else none)))) (fun S hX h0 => ⟨0, ?_⟩) _ (fun S => rfl)
    · unfold f_X9_write
      rw [(g_person hX.1 hX.2.1).2 h1, bt_inr]
    · show bd _ _ = _
      rw [(h_person h0 hX.1.1.1.2).2 h1, bd_some, if_pos rfl]
theorem x_paint {x : Int32} (hN : 10000 ≤ N) (hW : WX a) : Jx t a (f_X9_paint N 0 x) (f_X10_paint N 78 x) cd2 := by
  have hI := hW.1
  have hnb := hI.1.1
  have hnp := WX_np hW
  obtain ⟨hRI, d, hd, hd0⟩ := hW.2.1.1
  by_cases h1 : vB x (cnb a.1)
  · obtain ⟨i, hi, ei⟩ := vB_n h1 (by omega)
    have e3 : ∀ S, XM S a → sg S 96 (2 + i) = a.2.1.1 (2 + i) := fun S hX => by rw [← hX.2.1.1 (2 + i) (by omega), Nat.zero_add]
    by_cases z : a.2.1.1 (2 + i) = 99
    · refine ⟨.inl (-1), refu a 1, t, WX_refu hW, fun S hX hO => ?_, fun S hX => ?_⟩
      · unfold f_X9_paint
        rw [(g_box hX.1 hX.2.1).1 h1, bt_inl, ei, r0_7, c_redOf Sk40.1 (by omega) (by omega) hX.2.2.1.1, bd_some, if_pos z, c_refE (F := fun v => Sum.inl v) hX hO]
        exact Rn_ret ⟨rfl, c_refu hX hO (by omega)⟩
      · obtain ⟨k1, k2, k3⟩ := XM_0 hX hnp
        unfold f_X10_paint
        rw [(h_box k2 k1.1.1.1.1).1 h1, bd_some, if_neg (by decide), ei, l2, nIa, r78_46, n96, inbT (by omega) (by decide), nIc (by omega), e3 _ k1, if_pos z, l1]
        exact Rn_bd (Rn_mono (m_refu k1 (by omega) hnp k3) (fun q h => Rn_ret ⟨⟨h.1, h.2.2.trans k2⟩, h.2.1⟩))
    · refine ⟨.inl (a.2.1.1 (2 + i)), act a (wr a.2.1.1 (2 + i) 99), t, WX_act hW ⟨RI_rd hRI hI hi ⟨by decide, by decide⟩, d, hd, by rw [wr_ne (by omega)]; exact hd0⟩, fun S hX hO => ?_, fun S hX => ?_⟩
      · unfold f_X9_paint
        rw [(g_box hX.1 hX.2.1).1 h1, bt_inl, ei, r0_7, c_redOf Sk40.1 (by omega) (by omega) hX.2.2.1.1, bd_some, if_neg z, r0_9]
        refine c_act2 hW hX hO (fun S1 hk hfin => ?_)
        refine Rn_bv (Rn_mono (c_setRed Sk40.1 (by omega) (by omega) hk.2.2) (fun S2 h => ?_))
        exact Rn_ret ⟨rfl, hfin S2 _ h.1 (fr40 h.2)⟩
      · obtain ⟨k1, k2, k3⟩ := XM_0 hX hnp
        unfold f_X10_paint
        rw [(h_box k2 k1.1.1.1.1).1 h1, bd_some, if_neg (by decide), ei, l2, nIa, r78_46, n96, inbT (by omega) (by decide), nIc (by omega), e3 _ k1, if_neg z]
        refine m_act2 hN hW k1 k3 k2 (fun S1 hk hfin => ?_)
        rw [inbT (by omega) (by decide)]
        have hR : RM (sp S1 96 (2 + i) 99) 0 (72 + cnp a.1) (wr a.2.1.1 (2 + i) 99) := by
          have := RM_sp (j := 2 + i) (v := 99) hk.2.2
          rwa [Nat.zero_add] at this
        obtain ⟨p1, p2⟩ := hfin _ _ hR (Fm_sp (Fm_rf _ _) (mW_r (by omega) (by omega)))
        exact Rn_ret ⟨⟨rfl, p2⟩, p1⟩
  · refine ⟨.inr 0, a, t, hW, fun S hX hO => ?_, fun S hX => ?_⟩
    · unfold f_X9_paint
      rw [(g_box hX.1 hX.2.1).2 h1, bt_inr]
      exact Rn_ret ⟨rfl, PC_q hX hO (Fm_rf _ _)⟩
    · obtain ⟨k1, k2, k3⟩ := XM_0 hX hnp
      unfold f_X10_paint
      rw [(h_box k2 k1.1.1.1.1).2 h1, bd_some, if_pos rfl]
      exact Rn_ret ⟨sgp _ _ _ _, PM_q hX hnp (q_thr (q_thr (Fm_rf _ _)))⟩
theorem x_turn {p o : Int32} (hN : 10000 ≤ N) (hW : WX a) : Jx t a (f_X9_turn N 0 p o) (f_X10_turn N 78 p o) cd2 := by
  have hI := hW.1
  have hnb := hI.1.1
  have hnp := WX_np hW
  obtain ⟨hRI, d, hd, hd0⟩ := hW.2.1.1
  by_cases h1 : vB p (cnp a.1)
  · obtain ⟨i, hi, ei⟩ := vB_n h1 (by omega)
    have e3 : ∀ S, XM S a → sg S 96 (72 + i) = a.2.1.1 (72 + i) := fun S hX => by rw [← hX.2.1.1 (72 + i) (by omega), Nat.zero_add]
    by_cases h2 : o = -1 ∨ vB o (cnp a.1)
    · have ho : ixP (cnp a.1) o := by
        rcases h2 with h | h
        · exact Or.inl h
        · obtain ⟨q, hq, eq⟩ := vB_n h (by omega)
          exact Or.inr ⟨q, hq, eq⟩
      have g1 : ¬ o < -1 := by
        rcases ho with hw | ⟨q, hq, hw⟩
        · rw [hw]; decide
        · rw [hw]
          intro z
          have := Int32.lt_iff_toInt_lt.mp z
          rw [nIi (by omega), tm1] at this
          omega
      have g2 : ¬ nI (cnp a.1) ≤ o := by
        rcases ho with hw | ⟨q, hq, hw⟩
        · rw [hw]
          intro z
          have := Int32.le_iff_toInt_le.mp z
          rw [nIi (by omega), tm1] at this
          omega
        · rw [hw, nIle (by omega) (by omega)]
          omega
      have hc : ∀ S, XC S t a → f_X9_turn N 0 p o S = b_X9_turn_15 N 0 p o S := fun S hX => by
        unfold f_X9_turn
        rw [(g_person hX.1 hX.2.1).1 h1, bt_inl]
        rcases h2 with h | h
        · rw [if_pos h]
        · have hne : ¬ o = -1 := by
            obtain ⟨q, hq, eq⟩ := vB_n h (by omega)
            rw [eq]
            exact nIn (by omega)
          rw [if_neg hne, (g_person hX.1 hX.2.1).1 h, bt_inl]
      by_cases z : a.2.1.1 (72 + i) = o ∨ p = o
      · refine ⟨.inl (-2), refu a 1, t, WX_refu hW, fun S hX hO => ?_, fun S hX => ?_⟩
        · rw [hc S hX]
          unfold b_X9_turn_15 b_X9_turn_34
          rw [ei, r0_7, r_at hI Sk40 hX.2.2.1.1 hi, bd_some, c_refE (F := fun v => Sum.inl v) hX hO]
          have fin : Rn (some ((Sum.inl (-2) : Int32 ⊕ Nat), sp S 7 1 (sg S 7 1 + 1))) (fun q => q.1 = Sum.inl (-2) ∧ PC t (refu a 1) S q.2) := Rn_ret ⟨rfl, c_refu hX hO (by omega)⟩
          by_cases y : o = a.2.1.1 (72 + i)
          · rw [if_pos y]; exact fin
          · rw [if_neg y]
            rcases z with z | z
            · exact absurd z.symm y
            · rw [if_pos (by rw [← z, ei])]; exact fin
        · obtain ⟨k1, k2, k3⟩ := XM_0 hX hnp
          have fin : Rn (b_X10_turn_61 N 78 (sp S 78 0 0)) (fun q => mok cd2 (.inl (-2)) q ∧ PM (refu a 1) S q.2) := by
            unfold b_X10_turn_61
            rw [l1]
            refine Rn_bd (Rn_mono (m_refu k1 (by omega) hnp k3) (fun q h => Rn_ret ⟨⟨?_, h.2.2.trans k2⟩, h.2.1⟩))
            show q.1 - nI 1 = -2
            rw [h.1]
            decide
          unfold f_X10_turn b_X10_turn_31 b_X10_turn_32
          rw [(h_person k2 k1.1.1.1.2).1 h1, bd_some, if_neg (by decide), if_neg g1, k1.1.1.1.2, if_neg g2, h_right k2, bd_some, if_neg (by decide), ei, l72, nIa, r78_46, n96, inbT (by omega) (by decide), nIc (by omega), e3 _ k1]
          by_cases y : a.2.1.1 (72 + i) = o
          · rw [if_pos y]; exact fin
          · rw [if_neg y]
            rcases z with z | z
            · exact absurd z y
            · rw [if_pos (by rw [← z, ei])]; exact fin
      · have z1 : ¬ a.2.1.1 (72 + i) = o := fun y => z (Or.inl y)
        have z2 : ¬ p = o := fun y => z (Or.inr y)
        refine ⟨.inl (a.2.1.1 (72 + i)), act a (wr a.2.1.1 (72 + i) o), t, WX_act hW ⟨RI_at hRI hI ho, d, hd, by rw [wr_ne (by omega)]; exact hd0⟩, fun S hX hO => ?_, fun S hX => ?_⟩
        · rw [hc S hX]
          unfold b_X9_turn_15
          rw [ei, r0_7, r_at hI Sk40 hX.2.2.1.1 hi, bd_some, if_neg (fun y => z1 y.symm), if_neg (fun y => z2 (by rw [ei, y])), r0_9]
          refine c_act2 hW hX hO (fun S1 hk hfin => ?_)
          refine Rn_bv (Rn_mono (c_turnTo Sk40.1 (by omega) (by omega) hk.2.2) (fun S2 h => ?_))
          exact Rn_ret ⟨rfl, hfin S2 _ h.1 (fr40 h.2)⟩
        · obtain ⟨k1, k2, k3⟩ := XM_0 hX hnp
          unfold f_X10_turn b_X10_turn_31 b_X10_turn_32
          rw [(h_person k2 k1.1.1.1.2).1 h1, bd_some, if_neg (by decide), if_neg g1, k1.1.1.1.2, if_neg g2, h_right k2, bd_some, if_neg (by decide), if_neg z2, ei, l72, nIa, r78_46, n96, inbT (by omega) (by decide), nIc (by omega), e3 _ k1, if_neg z1]
          refine m_act2 hN hW k1 k3 k2 (fun S1 hk hfin => ?_)
          rw [inbT (by omega) (by decide)]
          have hR : RM (sp S1 96 (72 + i) o) 0 (72 + cnp a.1) (wr a.2.1.1 (72 + i) o) := by
            have := RM_sp (j := 72 + i) (v := o) hk.2.2
            rwa [Nat.zero_add] at this
          obtain ⟨p1, p2⟩ := hfin _ _ hR (Fm_sp (Fm_rf _ _) (mW_r (by omega) (by omega)))
          exact Rn_ret ⟨⟨rfl, p2⟩, p1⟩
    · have h3 : ¬ o = -1 := fun y => h2 (Or.inl y)
      have h4 : ¬ vB o (cnp a.1) := fun y => h2 (Or.inr y)
      refine ⟨.inr 0, a, t, hW, fun S hX hO => ?_, fun S hX => ?_⟩
      · unfold f_X9_turn
        rw [(g_person hX.1 hX.2.1).1 h1, bt_inl, if_neg h3, (g_person hX.1 hX.2.1).2 h4, bt_inr]
        exact Rn_ret ⟨rfl, PC_q hX hO (Fm_rf _ _)⟩
      · obtain ⟨k1, k2, k3⟩ := XM_0 hX hnp
        unfold f_X10_turn b_X10_turn_31 b_X10_turn_32 b_X10_turn_39
        rw [(h_person k2 k1.1.1.1.2).1 h1, bd_some, if_neg (by decide), k1.1.1.1.2, h_wrong k2 (by decide), bd_some, if_pos rfl]
        have fin : Rn (some ((0 : Int32), sp (sp S 78 0 0) 78 0 1)) (fun q => mok cd2 (.inr 0) q ∧ PM a S q.2) := Rn_ret ⟨sgp _ _ _ _, PM_q hX hnp (q_thr (q_thr (Fm_rf _ _)))⟩
        by_cases y : o < -1
        · rw [if_pos y]; exact fin
        · rw [if_neg y, if_pos (by
            have y1 : ¬ o.toInt < (-1 : Int32).toInt := fun z => y (Int32.lt_iff_toInt_lt.mpr z)
            have y2 : ¬ o.toInt = (-1 : Int32).toInt := fun z => h3 (Int32.toInt_inj.mp z)
            rw [tm1] at y1 y2
            exact le_of_nlt (fun z => h4 ⟨fun x => by
              have := Int32.lt_iff_toInt_lt.mp x
              rw [t0] at this
              omega, z⟩))]
          exact fin
  · refine ⟨.inr 0, a, t, hW, fun S hX hO => ?_, fun S hX => ?_⟩
    · unfold f_X9_turn
      rw [(g_person hX.1 hX.2.1).2 h1, bt_inr]
      exact Rn_ret ⟨rfl, PC_q hX hO (Fm_rf _ _)⟩
    · obtain ⟨k1, k2, k3⟩ := XM_0 hX hnp
      unfold f_X10_turn b_X10_turn_39
      rw [(h_person k2 k1.1.1.1.2).2 h1, bd_some, if_pos rfl]
      exact Rn_ret ⟨sgp _ _ _ _, PM_q hX hnp (q_thr (q_thr (Fm_rf _ _)))⟩
theorem x_strike {b : Bool} (hN : 10000 ≤ N) (hW : WX a) : Jp t a (f_X9_strike N 0 (bI b)) (f_X10_strike N 78 (bI b)) := by
  have hI := hW.1
  have hnp := WX_np hW
  obtain ⟨hRI, d, hd, hd0⟩ := hW.2.1.1
  have es : ∃ s : Bool, a.2.1.1 1 = bI s := by
    rcases hRI.2.1 with z | z
    · exact ⟨false, z⟩
    · exact ⟨true, z⟩
  obtain ⟨s, hs⟩ := es
  have e1 : (if bI s = 1 then (1 : Int32) else 0) = bI s := by cases s <;> rfl
  have e3 : ∀ S, XM S a → sg S 96 1 = bI s := fun S hX => by
    have := hX.2.1.1 1 (by omega)
    rw [Nat.zero_add, hs] at this
    exact this
  by_cases z : b = s
  · subst z
    refine ⟨0, refu a 1, t, WX_refu hW, fun S hX hO => ?_, fun S hX => ?_⟩
    · unfold f_X9_strike
      rw [r0_7, c_onStrike Sk40.1 (by omega) hX.2.2.1.1, bd_some, hs, e1, if_pos rfl, c_refE (F := fun v => v) hX hO]
      exact Rn_ret ⟨rfl, c_refu hX hO (by omega)⟩
    · obtain ⟨k1, k2, k3⟩ := XM_0 hX hnp
      have fin : Rn (bd (f_X10_refuses N 78 1 (sp S 78 0 0)) (fun r6 S7 => (if r6 ≤ 0 then b_X10_strike_37 N 0 S7 else b_X10_strike_37 N 1 S7))) (fun q => q.1 = 0 ∧ PM (refu a 1) S q.2) := by
        rw [l1]
        refine Rn_bd (Rn_mono (m_refu k1 (by omega) hnp k3) (fun q h => ?_))
        rw [h.1, if_pos (by decide)]
        exact Rn_ret ⟨rfl, h.2.1⟩
      unfold f_X10_strike b_X10_strike_20
      rw [r78_46, n96, inb1T (by decide) (by decide), c01, e3 _ k1]
      cases b with
      | true => rw [if_pos bI1, if_pos bI1.symm]; exact fin
      | false => rw [if_neg (by decide), if_pos bI0.symm]; exact fin
  · refine ⟨1, act a (wr a.2.1.1 1 (bI b)), t, WX_act hW ⟨RI_st hRI (by cases b; exact Or.inl rfl; exact Or.inr rfl), d, hd, by rw [wr_ne (by omega)]; exact hd0⟩, fun S hX hO => ?_, fun S hX => ?_⟩
    · unfold f_X9_strike
      rw [r0_7, c_onStrike Sk40.1 (by omega) hX.2.2.1.1, bd_some, hs, e1, if_neg (fun y => z (by cases b <;> cases s <;> first | rfl | (exfalso; revert y; decide))), r0_9]
      refine c_act2 hW hX hO (fun S1 hk hfin => ?_)
      refine Rn_bv (Rn_mono (c_setStrike Sk40.1 (by omega) hk.2.2) (fun S2 h => ?_))
      have e9 : (if bI b = 0 then (0 : Int32) else 1) = bI b := by cases b <;> rfl
      rw [e9] at h
      exact Rn_ret ⟨rfl, hfin S2 _ h.1 (fr40 h.2)⟩
    · obtain ⟨k1, k2, k3⟩ := XM_0 hX hnp
      have fin : Rn (bv (f_X10_keeps N 78 (sp S 78 0 0)) (fun S3 => (if bI b = 0 then b_X10_strike_56 N (rf 78 46) 1 0 S3 else b_X10_strike_56 N (rf 78 46) 1 1 S3))) (fun q => q.1 = 1 ∧ PM (act a (wr a.2.1.1 1 (bI b))) S q.2) := by
        refine m_act2 hN hW k1 k3 k2 (fun S1 hk hfin => ?_)
        unfold b_X10_strike_56
        rw [r78_46, n96, inb1T (by decide) (by decide), inb1T (by decide) (by decide), c01]
        have hR : ∀ v, RM (sp S1 96 1 v) 0 (72 + cnp a.1) (wr a.2.1.1 1 v) := fun v => RM_sp (j := 1) hk.2.2
        have g : ∀ v, PM (act a (wr a.2.1.1 1 v)) S (sp S1 96 1 v) := fun v => (hfin _ _ (hR v) (Fm_sp (Fm_rf _ _) (mW_r (by omega) (by omega)))).1
        cases b with
        | true => rw [if_neg (by decide)]; exact Rn_ret ⟨rfl, g 1⟩
        | false => rw [if_pos bI0]; exact Rn_ret ⟨rfl, g 0⟩
      unfold f_X10_strike b_X10_strike_20
      rw [inb1T (by decide) (by decide), c01]
      have e4 : sg (sp S 78 0 0) (rf 78 46) 1 = bI s := e3 _ k1
      rw [e4]
      cases s with
      | true =>
        rw [if_pos bI1, if_neg (fun y => z (by cases b; exact absurd y (by decide); rfl))]
        exact fin
      | false =>
        rw [if_neg (by decide), if_neg (fun y => z (by cases b; rfl; exact absurd y (by decide)))]
        exact fin
theorem x_undo (hN : 10000 ≤ N) (hW : WX a) : Jp t a (f_X9_undo N 0) (f_X10_undo N 78) := by
  have hnp := WX_np hW
  obtain ⟨w1, w2⟩ := hW.2.1.2.1
  by_cases z : a.2.1.2.1.1 = 0
  · refine ⟨-1, a, t, hW, fun S hX hO => ?_, fun S hX => ?_⟩
    · unfold f_X9_undo
      rw [r0_9, hX.2.2.1.2.1.1, z, if_pos (by decide)]
      exact Rn_ret ⟨rfl, PC_q hX hO (Fm_rf _ _)⟩
    · obtain ⟨k1, k2, k3⟩ := XM_0 hX hnp
      unfold f_X10_undo
      rw [k1.2.1.2.1.1, z, if_pos (by decide)]
      exact Rn_ret ⟨rfl, k3⟩
  · refine ⟨nI (a.2.1.2.1.1 - 1), setV a (a.2.1.2.1.2 (a.2.1.2.1.1 - 1), (a.2.1.2.1.1 - 1, a.2.1.2.1.2), a.2.1.2.2), t, WX_set hW ⟨w2 _ (by omega), ⟨by show a.2.1.2.1.1 - 1 ≤ 40; omega, fun i hi => w2 i (by have : i < a.2.1.2.1.1 - 1 := hi; omega)⟩, hW.2.1.2.2⟩, fun S hX hO => ?_, fun S hX => ?_⟩
    · have ht := HC_t hX.1
      unfold f_X9_undo
      rw [r0_9, r0_7, hX.2.2.1.2.1.1, eq0F (by omega) (by omega)]
      refine Rn_bv (Rn_mono (c_takeBack (by omega) w1 hnp hX.2.2.1.2.1) (fun S1 h => ?_))
      rw [h.1.1]
      have e : ∀ k j, ¬ k = 41 → ¬ (k = 44 ∧ (j = 1 ∨ j = 2)) → sg S1 k j = sg S k j := fun k j e1 e2 => h.2.2.1 k j (by omega)
      exact Rn_ret ⟨rfl, XC_v hX (by rw [h.2.2.2]) ⟨h.2.1, h.1, NC_same hX.2.2.1.2.2 (fun b j hb => e b j (by omega) (by omega))⟩ (fun j hj => (e 7 j (by omega) (by omega)).trans (hX.2.2.2.2.2.2 j hj)) (fun k j hk => e k j (by omega) (by omega)), OCx_same hO (fun k j hk => e k j (by omega) (by omega)), fun k j hk => e k j (by omega) (by omega)⟩
    · obtain ⟨k1, k2, k3⟩ := XM_0 hX hnp
      unfold f_X10_undo
      rw [k1.2.1.2.1.1, eq0F (by omega) (by omega), l1, nIs (by omega)]
      refine Rn_mono (m_undo hN (by omega) w1 hnp k1.2.1.2.1) (fun q h => ?_)
      have e : ∀ k j, ¬ (k = 96 ∧ j < 80) → ¬ (k = 78 ∧ j = 48) → sg q.2 k j = sg (sp S 78 0 0) k j := fun k j e1 e2 => h.2.2.2.1 k j (by omega)
      refine ⟨h.1, XM_v k1 ⟨h.2.2.1, h.2.1, NM_same k1.2.1.2.2 (e _ _ (by omega) (by omega)) (fun j => e _ _ (by omega) (by omega))⟩ (fun j hj => (e 86 j (by omega) (by omega)).trans (k1.2.2.2.2.2 j hj)) (fun k j hk => e k j (by omega) (by omega)), fun k j hk => (e k j (by omega) (by omega)).trans (k3.2.1 k j hk), ?_, ?_⟩
      · rw [h.2.2.2.2]
        exact k3.2.2.1
      · unfold lg
        rw [h.2.2.2.2]
        exact k3.2.2.2
end
