/-! count (written by gen9h.py) -/
section
variable {N t : Nat} {a : Ax}
theorem h_in {S : am_S} {k : Nat} (hk : k ≤ 15) : f_X10_within N (nI k) 0 15 S = some (1, S) := by
  have h := h_within (N := N) (S := S) (x := nI k) (a := 0) (b := 15)
  rw [if_pos (show ¬ nI k < nI 0 ∧ nI k ≤ nI 15 from vR_i (Nat.zero_le _) hk (by omega))] at h
  exact h
theorem h_out {S : am_S} {w : Int32} (hk : ¬ vR w 0 15) : f_X10_within N w 0 15 S = some (0, S) := by
  have h := h_within (N := N) (S := S) (x := w) (a := 0) (b := 15)
  rw [if_neg (show ¬ (¬ w < nI 0 ∧ w ≤ nI 15) from hk)] at h
  exact h
theorem x_count {w : Int32} (hN : 10000 ≤ N) (hW : WX a) : Jx t a (f_X9_count N 0 w) (f_X10_count N 78 w) cd2 := by
  have hnp := WX_np hW
  have hRI := hW.2.1.1.1
  obtain ⟨d, hd, hd0⟩ := hW.2.1.1.2
  by_cases hv : vR w 0 15
  · obtain ⟨i, -, hi, rfl⟩ := vR_n hv (by omega) (by omega)
    have h16 : i = 0 ∨ i = 1 ∨ i = 2 ∨ i = 3 ∨ i = 4 ∨ i = 5 ∨ i = 6 ∨ i = 7 ∨ i = 8 ∨ i = 9 ∨ i = 10 ∨ i = 11 ∨ i = 12 ∨ i = 13 ∨ i = 14 ∨ i = 15 := by omega
    rcases h16 with rfl | rfl | rfl | rfl | rfl | rfl | rfl | rfl | rfl | rfl | rfl | rfl | rfl | rfl | rfl | rfl
    · refine ⟨.inl (nI (cnb a.1)), a, t, hW, fun S hX hO => ?_, fun S hX => ?_⟩
      · have hR : RC S 40 (72 + cnp a.1) a.2.1.1 := hX.2.2.1.1
        unfold f_X9_count
        rw [if_pos (show nI 0 = 0 by decide), g_isC hX.1, hX.1.1, hX.2.1.1.1]
        exact Rn_ret ⟨rfl, PC_q hX hO (Fm_rf _ _)⟩
      · obtain ⟨k1, k2, k3⟩ := XM_0 hX hnp
        have hR : RM (sp S 78 0 0) 0 (72 + cnp a.1) a.2.1.1 := k1.2.1.1
        have hM : MO (sp S 78 0 0) := k1.1.2
        unfold f_X10_count
        rw [h_in (by omega), bd_some, h_right k2, bd_some, one0, if_pos (show nI 0 = 0 by decide), k1.1.1.1.1]
        exact Rn_ret ⟨⟨rfl, k2⟩, k3⟩
    · refine ⟨.inl (nI (cnp a.1)), a, t, hW, fun S hX hO => ?_, fun S hX => ?_⟩
      · have hR : RC S 40 (72 + cnp a.1) a.2.1.1 := hX.2.2.1.1
        unfold f_X9_count
        rw [if_neg (show ¬ nI 1 = 0 by decide), if_pos (show nI 1 = 1 by decide), g_isC hX.1, hX.1.1, hX.2.1.1.2]
        exact Rn_ret ⟨rfl, PC_q hX hO (Fm_rf _ _)⟩
      · obtain ⟨k1, k2, k3⟩ := XM_0 hX hnp
        have hR : RM (sp S 78 0 0) 0 (72 + cnp a.1) a.2.1.1 := k1.2.1.1
        have hM : MO (sp S 78 0 0) := k1.1.2
        unfold f_X10_count
        rw [h_in (by omega), bd_some, h_right k2, bd_some, one0, if_neg (show ¬ nI 1 = 0 by decide), if_pos (show nI 1 = 1 by decide), k1.1.1.1.2]
        exact Rn_ret ⟨⟨rfl, k2⟩, k3⟩
    · refine ⟨.inl (a.2.1.1 0), a, t, hW, fun S hX hO => ?_, fun S hX => ?_⟩
      · have hR : RC S 40 (72 + cnp a.1) a.2.1.1 := hX.2.2.1.1
        unfold f_X9_count
        rw [if_neg (show ¬ nI 2 = 0 by decide), if_neg (show ¬ nI 2 = 1 by decide), if_pos (show nI 2 = 2 by decide), r0_7, c_dayNow (m := 72 + cnp a.1) Sk40.1 (by omega) hR, bd_some]
        exact Rn_ret ⟨rfl, PC_q hX hO (Fm_rf _ _)⟩
      · obtain ⟨k1, k2, k3⟩ := XM_0 hX hnp
        have hR : RM (sp S 78 0 0) 0 (72 + cnp a.1) a.2.1.1 := k1.2.1.1
        have hM : MO (sp S 78 0 0) := k1.1.2
        unfold f_X10_count
        rw [h_in (by omega), bd_some, h_right k2, bd_some, one0, if_neg (show ¬ nI 2 = 0 by decide), if_neg (show ¬ nI 2 = 1 by decide), if_pos (show nI 2 = 2 by decide), r78_46, n96, if_pos (show inb 0 160 = true by decide), show Int32.toNatClampNeg 0 = 0 from rfl, show sg (sp S 78 0 0) 96 0 = a.2.1.1 0 from hR 0 (by omega)]
        exact Rn_ret ⟨⟨rfl, k2⟩, k3⟩
    · refine ⟨.inl (cwe a.1 d), a, t, hW, fun S hX hO => ?_, fun S hX => ?_⟩
      · have hR : RC S 40 (72 + cnp a.1) a.2.1.1 := hX.2.2.1.1
        unfold f_X9_count
        rw [if_neg (show ¬ nI 3 = 0 by decide), if_neg (show ¬ nI 3 = 1 by decide), if_neg (show ¬ nI 3 = 2 by decide), if_pos (show nI 3 = 3 by decide), g_isC hX.1, r0_7, c_dayNow (m := 72 + cnp a.1) Sk40.1 (by omega) hR, bd_some, hX.1.1, hd0, c_wetOn hX.1.2.1 hX.2.1 (by omega), bd_some]
        exact Rn_ret ⟨rfl, PC_q hX hO (Fm_rf _ _)⟩
      · obtain ⟨k1, k2, k3⟩ := XM_0 hX hnp
        have hR : RM (sp S 78 0 0) 0 (72 + cnp a.1) a.2.1.1 := k1.2.1.1
        have hM : MO (sp S 78 0 0) := k1.1.2
        unfold f_X10_count
        rw [h_in (by omega), bd_some, h_right k2, bd_some, one0, if_neg (show ¬ nI 3 = 0 by decide), if_neg (show ¬ nI 3 = 1 by decide), if_neg (show ¬ nI 3 = 2 by decide), if_pos (show nI 3 = 3 by decide), show f_X10_wetIn N 78 0 (sp S 78 0 0) = some (cwe a.1 d, sp S 78 0 0) from m_wetIn (b := 0) (by omega) k1.1.1 hM.1 (by omega) (show sg (sp S 78 0 0) 96 0 = nI d from (hR 0 (by omega)).trans hd0), bd_some]
        exact Rn_ret ⟨⟨rfl, k2⟩, k3⟩
    · refine ⟨.inl (a.2.1.1 1), a, t, hW, fun S hX hO => ?_, fun S hX => ?_⟩
      · have hR : RC S 40 (72 + cnp a.1) a.2.1.1 := hX.2.2.1.1
        unfold f_X9_count
        rw [if_neg (show ¬ nI 4 = 0 by decide), if_neg (show ¬ nI 4 = 1 by decide), if_neg (show ¬ nI 4 = 2 by decide), if_neg (show ¬ nI 4 = 3 by decide), if_pos (show nI 4 = 4 by decide), r0_7, c_onStrike (m := 72 + cnp a.1) Sk40.1 (by omega) hR, bd_some]
        unfold b_X9_count_134
        rcases hRI.2.1 with q | q
        · rw [if_neg (show ¬ a.2.1.1 1 = 1 by rw [q]; decide), if_pos rfl]
          exact Rn_ret ⟨congrArg Sum.inl q.symm, PC_q hX hO (Fm_rf _ _)⟩
        · rw [if_pos q, if_neg (by decide)]
          exact Rn_ret ⟨congrArg Sum.inl q.symm, PC_q hX hO (Fm_rf _ _)⟩
      · obtain ⟨k1, k2, k3⟩ := XM_0 hX hnp
        have hR : RM (sp S 78 0 0) 0 (72 + cnp a.1) a.2.1.1 := k1.2.1.1
        have hM : MO (sp S 78 0 0) := k1.1.2
        unfold f_X10_count
        rw [h_in (by omega), bd_some, h_right k2, bd_some, one0, if_neg (show ¬ nI 4 = 0 by decide), if_neg (show ¬ nI 4 = 1 by decide), if_neg (show ¬ nI 4 = 2 by decide), if_neg (show ¬ nI 4 = 3 by decide), if_pos (show nI 4 = 4 by decide), r78_46, n96, if_pos (show inb 1 160 = true by decide), show Int32.toNatClampNeg 1 = 1 from rfl, show sg (sp S 78 0 0) 96 1 = a.2.1.1 1 from hR 1 (by omega)]
        exact Rn_ret ⟨⟨rfl, k2⟩, k3⟩
    · refine ⟨.inl (cro a.1 d), a, t, hW, fun S hX hO => ?_, fun S hX => ?_⟩
      · have hR : RC S 40 (72 + cnp a.1) a.2.1.1 := hX.2.2.1.1
        unfold f_X9_count
        rw [if_neg (show ¬ nI 5 = 0 by decide), if_neg (show ¬ nI 5 = 1 by decide), if_neg (show ¬ nI 5 = 2 by decide), if_neg (show ¬ nI 5 = 3 by decide), if_neg (show ¬ nI 5 = 4 by decide), if_pos (show nI 5 = 5 by decide), g_isC hX.1, r0_7, c_dayNow (m := 72 + cnp a.1) Sk40.1 (by omega) hR, bd_some, hX.1.1, hd0, c_boxOn hX.1.2.1 hX.2.1 (by omega), bd_some]
        exact Rn_ret ⟨rfl, PC_q hX hO (Fm_rf _ _)⟩
      · obtain ⟨k1, k2, k3⟩ := XM_0 hX hnp
        have hR : RM (sp S 78 0 0) 0 (72 + cnp a.1) a.2.1.1 := k1.2.1.1
        have hM : MO (sp S 78 0 0) := k1.1.2
        unfold f_X10_count
        rw [h_in (by omega), bd_some, h_right k2, bd_some, one0, if_neg (show ¬ nI 5 = 0 by decide), if_neg (show ¬ nI 5 = 1 by decide), if_neg (show ¬ nI 5 = 2 by decide), if_neg (show ¬ nI 5 = 3 by decide), if_neg (show ¬ nI 5 = 4 by decide), if_pos (show nI 5 = 5 by decide), r78_46, n96, if_pos (show inb 0 160 = true by decide), show Int32.toNatClampNeg 0 = 0 from rfl, show sg (sp S 78 0 0) 96 0 = nI d from (hR 0 (by omega)).trans hd0, m_comesOn hW.1 k1.1.1 hM.2 (by omega), bd_some]
        exact Rn_ret ⟨⟨rfl, k2⟩, k3⟩
    · refine ⟨.inl (sm a.2.1.1 8 48), a, t, hW, fun S hX hO => ?_, fun S hX => ?_⟩
      · have hR : RC S 40 (72 + cnp a.1) a.2.1.1 := hX.2.2.1.1
        unfold f_X9_count
        rw [if_neg (show ¬ nI 6 = 0 by decide), if_neg (show ¬ nI 6 = 1 by decide), if_neg (show ¬ nI 6 = 2 by decide), if_neg (show ¬ nI 6 = 3 by decide), if_neg (show ¬ nI 6 = 4 by decide), if_neg (show ¬ nI 6 = 5 by decide), if_pos (show nI 6 = 6 by decide), r0_7, c_heldAll hN Sk40 hR, bd_some]
        exact Rn_ret ⟨rfl, PC_q hX hO (Fm_rf _ _)⟩
      · obtain ⟨k1, k2, k3⟩ := XM_0 hX hnp
        have hR : RM (sp S 78 0 0) 0 (72 + cnp a.1) a.2.1.1 := k1.2.1.1
        have hM : MO (sp S 78 0 0) := k1.1.2
        unfold f_X10_count
        rw [h_in (by omega), bd_some, h_right k2, bd_some, one0, if_neg (show ¬ nI 6 = 0 by decide), if_neg (show ¬ nI 6 = 1 by decide), if_neg (show ¬ nI 6 = 2 by decide), if_neg (show ¬ nI 6 = 3 by decide), if_neg (show ¬ nI 6 = 4 by decide), if_neg (show ¬ nI 6 = 5 by decide), if_pos (show nI 6 = 6 by decide), show f_X10_heldAll N 78 0 (sp S 78 0 0) = some (sm a.2.1.1 8 48, sp S 78 0 0) from m_heldAll (b := 0) hN (by omega) hW.1 k1.1.1 hR hRI, bd_some]
        exact Rn_ret ⟨⟨rfl, k2⟩, k3⟩
    · refine ⟨.inl (sm a.2.1.1 64 8), a, t, hW, fun S hX hO => ?_, fun S hX => ?_⟩
      · have hR : RC S 40 (72 + cnp a.1) a.2.1.1 := hX.2.2.1.1
        unfold f_X9_count
        rw [if_neg (show ¬ nI 7 = 0 by decide), if_neg (show ¬ nI 7 = 1 by decide), if_neg (show ¬ nI 7 = 2 by decide), if_neg (show ¬ nI 7 = 3 by decide), if_neg (show ¬ nI 7 = 4 by decide), if_neg (show ¬ nI 7 = 5 by decide), if_neg (show ¬ nI 7 = 6 by decide), if_pos (show nI 7 = 7 by decide), r0_7, c_heardAll hN Sk40 hR, bd_some]
        exact Rn_ret ⟨rfl, PC_q hX hO (Fm_rf _ _)⟩
      · obtain ⟨k1, k2, k3⟩ := XM_0 hX hnp
        have hR : RM (sp S 78 0 0) 0 (72 + cnp a.1) a.2.1.1 := k1.2.1.1
        have hM : MO (sp S 78 0 0) := k1.1.2
        unfold f_X10_count
        rw [h_in (by omega), bd_some, h_right k2, bd_some, one0, if_neg (show ¬ nI 7 = 0 by decide), if_neg (show ¬ nI 7 = 1 by decide), if_neg (show ¬ nI 7 = 2 by decide), if_neg (show ¬ nI 7 = 3 by decide), if_neg (show ¬ nI 7 = 4 by decide), if_neg (show ¬ nI 7 = 5 by decide), if_neg (show ¬ nI 7 = 6 by decide), if_pos (show nI 7 = 7 by decide), show f_X10_sumOf N 78 0 64 (sp S 78 0 0) = some (sm a.2.1.1 64 8, sp S 78 0 0) from m_sumOf (b := 0) (o := 64) (Or.inr rfl) hN (by omega) hW.1 k1.1.1 hR hRI, bd_some]
        exact Rn_ret ⟨⟨rfl, k2⟩, k3⟩
    · refine ⟨.inl (mut_ a.1 a.2.1.1), a, t, hW, fun S hX hO => ?_, fun S hX => ?_⟩
      · have hR : RC S 40 (72 + cnp a.1) a.2.1.1 := hX.2.2.1.1
        unfold f_X9_count
        rw [if_neg (show ¬ nI 8 = 0 by decide), if_neg (show ¬ nI 8 = 1 by decide), if_neg (show ¬ nI 8 = 2 by decide), if_neg (show ¬ nI 8 = 3 by decide), if_neg (show ¬ nI 8 = 4 by decide), if_neg (show ¬ nI 8 = 5 by decide), if_neg (show ¬ nI 8 = 6 by decide), if_neg (show ¬ nI 8 = 7 by decide), if_pos (show nI 8 = 8 by decide), g_isC hX.1, hX.1.1, r0_7, c_mut hN hW.1 Sk40 hX.2.1 hR hRI, bd_some]
        exact Rn_ret ⟨rfl, PC_q hX hO (Fm_rf _ _)⟩
      · obtain ⟨k1, k2, k3⟩ := XM_0 hX hnp
        have hR : RM (sp S 78 0 0) 0 (72 + cnp a.1) a.2.1.1 := k1.2.1.1
        have hM : MO (sp S 78 0 0) := k1.1.2
        unfold f_X10_count
        rw [h_in (by omega), bd_some, h_right k2, bd_some, one0, if_neg (show ¬ nI 8 = 0 by decide), if_neg (show ¬ nI 8 = 1 by decide), if_neg (show ¬ nI 8 = 2 by decide), if_neg (show ¬ nI 8 = 3 by decide), if_neg (show ¬ nI 8 = 4 by decide), if_neg (show ¬ nI 8 = 5 by decide), if_neg (show ¬ nI 8 = 6 by decide), if_neg (show ¬ nI 8 = 7 by decide), if_pos (show nI 8 = 8 by decide), m_mut hN hW.1 k1.1.1 hR, bd_some]
        exact Rn_ret ⟨⟨rfl, k2⟩, k3⟩
    · refine ⟨.inl (unth a.1 a.2.1.1), a, t, hW, fun S hX hO => ?_, fun S hX => ?_⟩
      · have hR : RC S 40 (72 + cnp a.1) a.2.1.1 := hX.2.2.1.1
        unfold f_X9_count
        rw [if_neg (show ¬ nI 9 = 0 by decide), if_neg (show ¬ nI 9 = 1 by decide), if_neg (show ¬ nI 9 = 2 by decide), if_neg (show ¬ nI 9 = 3 by decide), if_neg (show ¬ nI 9 = 4 by decide), if_neg (show ¬ nI 9 = 5 by decide), if_neg (show ¬ nI 9 = 6 by decide), if_neg (show ¬ nI 9 = 7 by decide), if_neg (show ¬ nI 9 = 8 by decide), if_pos (show nI 9 = 9 by decide), g_isC hX.1, hX.1.1, r0_7, c_unth hN hW.1 hX.1.2.1 Sk40 hX.2.1 hR, bd_some]
        exact Rn_ret ⟨rfl, PC_q hX hO (Fm_rf _ _)⟩
      · obtain ⟨k1, k2, k3⟩ := XM_0 hX hnp
        have hR : RM (sp S 78 0 0) 0 (72 + cnp a.1) a.2.1.1 := k1.2.1.1
        have hM : MO (sp S 78 0 0) := k1.1.2
        unfold f_X10_count
        rw [h_in (by omega), bd_some, h_right k2, bd_some, one0, if_neg (show ¬ nI 9 = 0 by decide), if_neg (show ¬ nI 9 = 1 by decide), if_neg (show ¬ nI 9 = 2 by decide), if_neg (show ¬ nI 9 = 3 by decide), if_neg (show ¬ nI 9 = 4 by decide), if_neg (show ¬ nI 9 = 5 by decide), if_neg (show ¬ nI 9 = 6 by decide), if_neg (show ¬ nI 9 = 7 by decide), if_neg (show ¬ nI 9 = 8 by decide), if_pos (show nI 9 = 9 by decide), m_unth hN hW.1 k1.1.1 hR, bd_some]
        exact Rn_ret ⟨⟨rfl, k2⟩, k3⟩
    · refine ⟨.inl (nI a.2.1.2.1.1), a, t, hW, fun S hX hO => ?_, fun S hX => ?_⟩
      · have hR : RC S 40 (72 + cnp a.1) a.2.1.1 := hX.2.2.1.1
        unfold f_X9_count
        rw [if_neg (show ¬ nI 10 = 0 by decide), if_neg (show ¬ nI 10 = 1 by decide), if_neg (show ¬ nI 10 = 2 by decide), if_neg (show ¬ nI 10 = 3 by decide), if_neg (show ¬ nI 10 = 4 by decide), if_neg (show ¬ nI 10 = 5 by decide), if_neg (show ¬ nI 10 = 6 by decide), if_neg (show ¬ nI 10 = 7 by decide), if_neg (show ¬ nI 10 = 8 by decide), if_neg (show ¬ nI 10 = 9 by decide), if_pos (show nI 10 = 10 by decide), r0_9, hX.2.2.1.2.1.1]
        exact Rn_ret ⟨rfl, PC_q hX hO (Fm_rf _ _)⟩
      · obtain ⟨k1, k2, k3⟩ := XM_0 hX hnp
        have hR : RM (sp S 78 0 0) 0 (72 + cnp a.1) a.2.1.1 := k1.2.1.1
        have hM : MO (sp S 78 0 0) := k1.1.2
        unfold f_X10_count
        rw [h_in (by omega), bd_some, h_right k2, bd_some, one0, if_neg (show ¬ nI 10 = 0 by decide), if_neg (show ¬ nI 10 = 1 by decide), if_neg (show ¬ nI 10 = 2 by decide), if_neg (show ¬ nI 10 = 3 by decide), if_neg (show ¬ nI 10 = 4 by decide), if_neg (show ¬ nI 10 = 5 by decide), if_neg (show ¬ nI 10 = 6 by decide), if_neg (show ¬ nI 10 = 7 by decide), if_neg (show ¬ nI 10 = 8 by decide), if_neg (show ¬ nI 10 = 9 by decide), if_pos (show nI 10 = 10 by decide), k1.2.1.2.1.1]
        exact Rn_ret ⟨⟨rfl, k2⟩, k3⟩
    · refine ⟨.inl (nI a.2.1.2.2.1), a, t, hW, fun S hX hO => ?_, fun S hX => ?_⟩
      · have hR : RC S 40 (72 + cnp a.1) a.2.1.1 := hX.2.2.1.1
        unfold f_X9_count
        rw [if_neg (show ¬ nI 11 = 0 by decide), if_neg (show ¬ nI 11 = 1 by decide), if_neg (show ¬ nI 11 = 2 by decide), if_neg (show ¬ nI 11 = 3 by decide), if_neg (show ¬ nI 11 = 4 by decide), if_neg (show ¬ nI 11 = 5 by decide), if_neg (show ¬ nI 11 = 6 by decide), if_neg (show ¬ nI 11 = 7 by decide), if_neg (show ¬ nI 11 = 8 by decide), if_neg (show ¬ nI 11 = 9 by decide), if_neg (show ¬ nI 11 = 10 by decide), if_pos (show nI 11 = 11 by decide), r0_10, hX.2.2.1.2.2.1]
        exact Rn_ret ⟨rfl, PC_q hX hO (Fm_rf _ _)⟩
      · obtain ⟨k1, k2, k3⟩ := XM_0 hX hnp
        have hR : RM (sp S 78 0 0) 0 (72 + cnp a.1) a.2.1.1 := k1.2.1.1
        have hM : MO (sp S 78 0 0) := k1.1.2
        unfold f_X10_count
        rw [h_in (by omega), bd_some, h_right k2, bd_some, one0, if_neg (show ¬ nI 11 = 0 by decide), if_neg (show ¬ nI 11 = 1 by decide), if_neg (show ¬ nI 11 = 2 by decide), if_neg (show ¬ nI 11 = 3 by decide), if_neg (show ¬ nI 11 = 4 by decide), if_neg (show ¬ nI 11 = 5 by decide), if_neg (show ¬ nI 11 = 6 by decide), if_neg (show ¬ nI 11 = 7 by decide), if_neg (show ¬ nI 11 = 8 by decide), if_neg (show ¬ nI 11 = 9 by decide), if_neg (show ¬ nI 11 = 10 by decide), if_pos (show nI 11 = 11 by decide), k1.2.1.2.2.1]
        exact Rn_ret ⟨⟨rfl, k2⟩, k3⟩
    · refine ⟨.inl (nI a.2.2.2.1.1), a, t, hW, fun S hX hO => ?_, fun S hX => ?_⟩
      · have hR : RC S 40 (72 + cnp a.1) a.2.1.1 := hX.2.2.1.1
        unfold f_X9_count
        rw [if_neg (show ¬ nI 12 = 0 by decide), if_neg (show ¬ nI 12 = 1 by decide), if_neg (show ¬ nI 12 = 2 by decide), if_neg (show ¬ nI 12 = 3 by decide), if_neg (show ¬ nI 12 = 4 by decide), if_neg (show ¬ nI 12 = 5 by decide), if_neg (show ¬ nI 12 = 6 by decide), if_neg (show ¬ nI 12 = 7 by decide), if_neg (show ¬ nI 12 = 8 by decide), if_neg (show ¬ nI 12 = 9 by decide), if_neg (show ¬ nI 12 = 10 by decide), if_neg (show ¬ nI 12 = 11 by decide), if_pos (show nI 12 = 12 by decide), hX.2.2.2.2.1.1]
        exact Rn_ret ⟨rfl, PC_q hX hO (Fm_rf _ _)⟩
      · obtain ⟨k1, k2, k3⟩ := XM_0 hX hnp
        have hR : RM (sp S 78 0 0) 0 (72 + cnp a.1) a.2.1.1 := k1.2.1.1
        have hM : MO (sp S 78 0 0) := k1.1.2
        unfold f_X10_count
        rw [h_in (by omega), bd_some, h_right k2, bd_some, one0, if_neg (show ¬ nI 12 = 0 by decide), if_neg (show ¬ nI 12 = 1 by decide), if_neg (show ¬ nI 12 = 2 by decide), if_neg (show ¬ nI 12 = 3 by decide), if_neg (show ¬ nI 12 = 4 by decide), if_neg (show ¬ nI 12 = 5 by decide), if_neg (show ¬ nI 12 = 6 by decide), if_neg (show ¬ nI 12 = 7 by decide), if_neg (show ¬ nI 12 = 8 by decide), if_neg (show ¬ nI 12 = 9 by decide), if_neg (show ¬ nI 12 = 10 by decide), if_neg (show ¬ nI 12 = 11 by decide), if_pos (show nI 12 = 12 by decide), k1.2.2.2.1.1]
        exact Rn_ret ⟨⟨rfl, k2⟩, k3⟩
    · refine ⟨.inl (a.2.2.2.2.2 0), a, t, hW, fun S hX hO => ?_, fun S hX => ?_⟩
      · have hR : RC S 40 (72 + cnp a.1) a.2.1.1 := hX.2.2.1.1
        unfold f_X9_count
        rw [if_neg (show ¬ nI 13 = 0 by decide), if_neg (show ¬ nI 13 = 1 by decide), if_neg (show ¬ nI 13 = 2 by decide), if_neg (show ¬ nI 13 = 3 by decide), if_neg (show ¬ nI 13 = 4 by decide), if_neg (show ¬ nI 13 = 5 by decide), if_neg (show ¬ nI 13 = 6 by decide), if_neg (show ¬ nI 13 = 7 by decide), if_neg (show ¬ nI 13 = 8 by decide), if_neg (show ¬ nI 13 = 9 by decide), if_neg (show ¬ nI 13 = 10 by decide), if_neg (show ¬ nI 13 = 11 by decide), if_neg (show ¬ nI 13 = 12 by decide), if_pos (show nI 13 = 13 by decide), r0_4, n7, if_pos (show inb 0 3 = true by decide), show Int32.toNatClampNeg 0 = 0 from rfl, hX.2.2.2.2.2.2 0 (by omega)]
        exact Rn_ret ⟨rfl, PC_q hX hO (Fm_rf _ _)⟩
      · obtain ⟨k1, k2, k3⟩ := XM_0 hX hnp
        have hR : RM (sp S 78 0 0) 0 (72 + cnp a.1) a.2.1.1 := k1.2.1.1
        have hM : MO (sp S 78 0 0) := k1.1.2
        unfold f_X10_count
        rw [h_in (by omega), bd_some, h_right k2, bd_some, one0, if_neg (show ¬ nI 13 = 0 by decide), if_neg (show ¬ nI 13 = 1 by decide), if_neg (show ¬ nI 13 = 2 by decide), if_neg (show ¬ nI 13 = 3 by decide), if_neg (show ¬ nI 13 = 4 by decide), if_neg (show ¬ nI 13 = 5 by decide), if_neg (show ¬ nI 13 = 6 by decide), if_neg (show ¬ nI 13 = 7 by decide), if_neg (show ¬ nI 13 = 8 by decide), if_neg (show ¬ nI 13 = 9 by decide), if_neg (show ¬ nI 13 = 10 by decide), if_neg (show ¬ nI 13 = 11 by decide), if_neg (show ¬ nI 13 = 12 by decide), r78_17, n86, if_pos (show inb (nI 13 - 13) 3 = true by decide), show Int32.toNatClampNeg (nI 13 - 13) = 0 by decide, k1.2.2.2.2.2 0 (by omega)]
        exact Rn_ret ⟨⟨rfl, k2⟩, k3⟩
    · refine ⟨.inl (a.2.2.2.2.2 1), a, t, hW, fun S hX hO => ?_, fun S hX => ?_⟩
      · have hR : RC S 40 (72 + cnp a.1) a.2.1.1 := hX.2.2.1.1
        unfold f_X9_count
        rw [if_neg (show ¬ nI 14 = 0 by decide), if_neg (show ¬ nI 14 = 1 by decide), if_neg (show ¬ nI 14 = 2 by decide), if_neg (show ¬ nI 14 = 3 by decide), if_neg (show ¬ nI 14 = 4 by decide), if_neg (show ¬ nI 14 = 5 by decide), if_neg (show ¬ nI 14 = 6 by decide), if_neg (show ¬ nI 14 = 7 by decide), if_neg (show ¬ nI 14 = 8 by decide), if_neg (show ¬ nI 14 = 9 by decide), if_neg (show ¬ nI 14 = 10 by decide), if_neg (show ¬ nI 14 = 11 by decide), if_neg (show ¬ nI 14 = 12 by decide), if_neg (show ¬ nI 14 = 13 by decide), if_pos (show nI 14 = 14 by decide), r0_4, n7, if_pos (show inb 1 3 = true by decide), show Int32.toNatClampNeg 1 = 1 from rfl, hX.2.2.2.2.2.2 1 (by omega)]
        exact Rn_ret ⟨rfl, PC_q hX hO (Fm_rf _ _)⟩
      · obtain ⟨k1, k2, k3⟩ := XM_0 hX hnp
        have hR : RM (sp S 78 0 0) 0 (72 + cnp a.1) a.2.1.1 := k1.2.1.1
        have hM : MO (sp S 78 0 0) := k1.1.2
        unfold f_X10_count
        rw [h_in (by omega), bd_some, h_right k2, bd_some, one0, if_neg (show ¬ nI 14 = 0 by decide), if_neg (show ¬ nI 14 = 1 by decide), if_neg (show ¬ nI 14 = 2 by decide), if_neg (show ¬ nI 14 = 3 by decide), if_neg (show ¬ nI 14 = 4 by decide), if_neg (show ¬ nI 14 = 5 by decide), if_neg (show ¬ nI 14 = 6 by decide), if_neg (show ¬ nI 14 = 7 by decide), if_neg (show ¬ nI 14 = 8 by decide), if_neg (show ¬ nI 14 = 9 by decide), if_neg (show ¬ nI 14 = 10 by decide), if_neg (show ¬ nI 14 = 11 by decide), if_neg (show ¬ nI 14 = 12 by decide), r78_17, n86, if_pos (show inb (nI 14 - 13) 3 = true by decide), show Int32.toNatClampNeg (nI 14 - 13) = 1 by decide, k1.2.2.2.2.2 1 (by omega)]
        exact Rn_ret ⟨⟨rfl, k2⟩, k3⟩
    · refine ⟨.inl (a.2.2.2.2.2 2), a, t, hW, fun S hX hO => ?_, fun S hX => ?_⟩
      · have hR : RC S 40 (72 + cnp a.1) a.2.1.1 := hX.2.2.1.1
        unfold f_X9_count
        rw [if_neg (show ¬ nI 15 = 0 by decide), if_neg (show ¬ nI 15 = 1 by decide), if_neg (show ¬ nI 15 = 2 by decide), if_neg (show ¬ nI 15 = 3 by decide), if_neg (show ¬ nI 15 = 4 by decide), if_neg (show ¬ nI 15 = 5 by decide), if_neg (show ¬ nI 15 = 6 by decide), if_neg (show ¬ nI 15 = 7 by decide), if_neg (show ¬ nI 15 = 8 by decide), if_neg (show ¬ nI 15 = 9 by decide), if_neg (show ¬ nI 15 = 10 by decide), if_neg (show ¬ nI 15 = 11 by decide), if_neg (show ¬ nI 15 = 12 by decide), if_neg (show ¬ nI 15 = 13 by decide), if_neg (show ¬ nI 15 = 14 by decide), if_pos (show nI 15 = 15 by decide), r0_4, n7, if_pos (show inb 2 3 = true by decide), show Int32.toNatClampNeg 2 = 2 from rfl, hX.2.2.2.2.2.2 2 (by omega)]
        exact Rn_ret ⟨rfl, PC_q hX hO (Fm_rf _ _)⟩
      · obtain ⟨k1, k2, k3⟩ := XM_0 hX hnp
        have hR : RM (sp S 78 0 0) 0 (72 + cnp a.1) a.2.1.1 := k1.2.1.1
        have hM : MO (sp S 78 0 0) := k1.1.2
        unfold f_X10_count
        rw [h_in (by omega), bd_some, h_right k2, bd_some, one0, if_neg (show ¬ nI 15 = 0 by decide), if_neg (show ¬ nI 15 = 1 by decide), if_neg (show ¬ nI 15 = 2 by decide), if_neg (show ¬ nI 15 = 3 by decide), if_neg (show ¬ nI 15 = 4 by decide), if_neg (show ¬ nI 15 = 5 by decide), if_neg (show ¬ nI 15 = 6 by decide), if_neg (show ¬ nI 15 = 7 by decide), if_neg (show ¬ nI 15 = 8 by decide), if_neg (show ¬ nI 15 = 9 by decide), if_neg (show ¬ nI 15 = 10 by decide), if_neg (show ¬ nI 15 = 11 by decide), if_neg (show ¬ nI 15 = 12 by decide), r78_17, n86, if_pos (show inb (nI 15 - 13) 3 = true by decide), show Int32.toNatClampNeg (nI 15 - 13) = 2 by decide, k1.2.2.2.2.2 2 (by omega)]
        exact Rn_ret ⟨⟨rfl, k2⟩, k3⟩
  · refine ⟨.inr 0, a, t, hW, fun S hX hO => ?_, fun S hX => ?_⟩
    · have hne : ∀ k, k ≤ 15 → ¬ w = nI k := fun k hk q => hv (by rw [q]; exact vR_i (Nat.zero_le _) hk (by omega))
      unfold f_X9_count
      rw [if_neg (show ¬ w = 0 from hne 0 (by omega)), if_neg (show ¬ w = 1 from hne 1 (by omega)), if_neg (show ¬ w = 2 from hne 2 (by omega)), if_neg (show ¬ w = 3 from hne 3 (by omega)), if_neg (show ¬ w = 4 from hne 4 (by omega)), if_neg (show ¬ w = 5 from hne 5 (by omega)), if_neg (show ¬ w = 6 from hne 6 (by omega)), if_neg (show ¬ w = 7 from hne 7 (by omega)), if_neg (show ¬ w = 8 from hne 8 (by omega)), if_neg (show ¬ w = 9 from hne 9 (by omega)), if_neg (show ¬ w = 10 from hne 10 (by omega)), if_neg (show ¬ w = 11 from hne 11 (by omega)), if_neg (show ¬ w = 12 from hne 12 (by omega)), if_neg (show ¬ w = 13 from hne 13 (by omega)), if_neg (show ¬ w = 14 from hne 14 (by omega)), if_neg (show ¬ w = 15 from hne 15 (by omega))]
      exact Rn_ret ⟨rfl, PC_q hX hO (Fm_rf _ _)⟩
    · obtain ⟨k1, k2, k3⟩ := XM_0 hX hnp
      unfold f_X10_count
      rw [h_out hv, bd_some, h_wrong k2 (by decide), bd_some, zer0]
      exact Rn_ret ⟨sgp _ _ _ _, PM_q hX hnp (q_thr (q_thr (Fm_rf _ _)))⟩
end
