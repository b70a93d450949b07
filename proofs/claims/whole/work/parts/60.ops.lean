section
variable {N t : Nat} {c : Cy} {r : Rw}
theorem j_years {s n w : Int32} (hN : 10000 ≤ N) (hI : CI c) (hW : WR c r) : Jq t c r (f_X9_years N 0 s n w) (f_X10_years N 78 s n w) cd2 := by
  have hnb := hI.1.1
  have hnp := hI.1.2
  obtain ⟨hRI, d, hd, hd0⟩ := hW
  by_cases h1 : vR w 0 2
  · by_cases h2 : vR n 0 40
    · obtain ⟨wi, -, hw, ew⟩ := vR_n h1 (by omega) (by omega)
      obtain ⟨ni, hn0, hn, en⟩ := vR_n h2 (by omega) (by omega)
      have hv : wi = 0 ∨ wi = 1 ∨ wi = 2 := by omega
      rcases hv with hv | hv | hv
      · subst hv
        refine ⟨.inl (yrV c d s r ni 0), fun S hK => ?_, fun S hK => ?_⟩
        · unfold f_X9_years
          rw [g_w2.1 h1, bt_inl, g_r_0_40.1 h2, bt_inl]
          rw [en, ew, r0_7, r0_8]
          refine Rn_bv (Rn_mono (c_ahead hI hK) (fun S1 h1 => ?_))
          obtain ⟨k4, f4⟩ := KC_seed (v := s) h1.1
          exact Rn_mono (c_years hN hI hRI hd0 hd hn (by omega) k4 (RC_o h1.2.1 (by omega)) (sgp _ _ _ _)) (fun q h => ⟨h.1, Fm_tr h1.2.2 (Fm_tr f4 h.2)⟩)
        · obtain ⟨k1, k2, k3⟩ := KM_0 hK hnp
          unfold f_X10_years b_X10_years_24
          rw [(h_w2 k2).1 h1, bd_some, if_neg (by decide), (h_d_0_2 k2).1 h2, bd_some, if_neg (by decide)]
          rw [en, ew]
          refine Rn_bv (Rn_mono (m_tries hN (by omega) k1.2.2) (fun S1 h1 => ?_))
          have f4 : Fm qM (sp S 78 0 0) (sp S1 78 60 s) := Fm_sp (q_mR h1.2) (Or.inl ⟨rfl, by omega⟩)
          refine Rn_mono (m_years hN hI hRI hd0 hd hn (by omega) (KM_q k1 hnp f4) (RM_o h1.1 (by omega)) (sgp _ _ _ _)) (fun q h => ⟨⟨h.1, ?_⟩, Fm_tr k3 (Fm_tr f4 h.2.1)⟩)
          rw [h.2.2, sgj (by omega)]
          exact thr_r k2 h1.2
      · subst hv
        refine ⟨.inl (yrV c d s r ni 1), fun S hK => ?_, fun S hK => ?_⟩
        · unfold f_X9_years
          rw [g_w2.1 h1, bt_inl, g_r_0_40.1 h2, bt_inl]
          rw [en, ew, r0_7, r0_8]
          refine Rn_bv (Rn_mono (c_ahead hI hK) (fun S1 h1 => ?_))
          obtain ⟨k4, f4⟩ := KC_seed (v := s) h1.1
          exact Rn_mono (c_years hN hI hRI hd0 hd hn (by omega) k4 (RC_o h1.2.1 (by omega)) (sgp _ _ _ _)) (fun q h => ⟨h.1, Fm_tr h1.2.2 (Fm_tr f4 h.2)⟩)
        · obtain ⟨k1, k2, k3⟩ := KM_0 hK hnp
          unfold f_X10_years b_X10_years_24
          rw [(h_w2 k2).1 h1, bd_some, if_neg (by decide), (h_d_0_2 k2).1 h2, bd_some, if_neg (by decide)]
          rw [en, ew]
          refine Rn_bv (Rn_mono (m_tries hN (by omega) k1.2.2) (fun S1 h1 => ?_))
          have f4 : Fm qM (sp S 78 0 0) (sp S1 78 60 s) := Fm_sp (q_mR h1.2) (Or.inl ⟨rfl, by omega⟩)
          refine Rn_mono (m_years hN hI hRI hd0 hd hn (by omega) (KM_q k1 hnp f4) (RM_o h1.1 (by omega)) (sgp _ _ _ _)) (fun q h => ⟨⟨h.1, ?_⟩, Fm_tr k3 (Fm_tr f4 h.2.1)⟩)
          rw [h.2.2, sgj (by omega)]
          exact thr_r k2 h1.2
      · subst hv
        refine ⟨.inl (yrV c d s r ni 2), fun S hK => ?_, fun S hK => ?_⟩
        · unfold f_X9_years
          rw [g_w2.1 h1, bt_inl, g_r_0_40.1 h2, bt_inl]
          rw [en, ew, r0_7, r0_8]
          refine Rn_bv (Rn_mono (c_ahead hI hK) (fun S1 h1 => ?_))
          obtain ⟨k4, f4⟩ := KC_seed (v := s) h1.1
          exact Rn_mono (c_years hN hI hRI hd0 hd hn (by omega) k4 (RC_o h1.2.1 (by omega)) (sgp _ _ _ _)) (fun q h => ⟨h.1, Fm_tr h1.2.2 (Fm_tr f4 h.2)⟩)
        · obtain ⟨k1, k2, k3⟩ := KM_0 hK hnp
          unfold f_X10_years b_X10_years_24
          rw [(h_w2 k2).1 h1, bd_some, if_neg (by decide), (h_d_0_2 k2).1 h2, bd_some, if_neg (by decide)]
          rw [en, ew]
          refine Rn_bv (Rn_mono (m_tries hN (by omega) k1.2.2) (fun S1 h1 => ?_))
          have f4 : Fm qM (sp S 78 0 0) (sp S1 78 60 s) := Fm_sp (q_mR h1.2) (Or.inl ⟨rfl, by omega⟩)
          refine Rn_mono (m_years hN hI hRI hd0 hd hn (by omega) (KM_q k1 hnp f4) (RM_o h1.1 (by omega)) (sgp _ _ _ _)) (fun q h => ⟨⟨h.1, ?_⟩, Fm_tr k3 (Fm_tr f4 h.2.1)⟩)
          rw [h.2.2, sgj (by omega)]
          exact thr_r k2 h1.2
    · refine ⟨.inr 1, fun S hK => ?_, fun S hK => ?_⟩
      · unfold f_X9_years
        rw [g_w2.1 h1, bt_inl, g_r_0_40.2 h2, bt_inr]
        exact Rn_ret ⟨rfl, Fm_rf _ _⟩
      · obtain ⟨k1, k2, k3⟩ := KM_0 hK hnp
        unfold f_X10_years b_X10_years_24
        rw [(h_w2 k2).1 h1, bd_some, if_neg (by decide), (h_d_0_2 k2).2 h2, bd_some, if_pos rfl]
        exact Rn_ret ⟨sgp _ _ _ _, q_thr k3⟩
  · refine ⟨.inr 0, fun S hK => ?_, fun S hK => ?_⟩
    · unfold f_X9_years
      rw [g_w2.2 h1, bt_inr]
      exact Rn_ret ⟨rfl, Fm_rf _ _⟩
    · obtain ⟨k1, k2, k3⟩ := KM_0 hK hnp
      unfold f_X10_years b_X10_years_24
      rw [(h_w2 k2).2 h1, bd_some, if_pos rfl]
      exact Rn_ret ⟨sgp _ _ _ _, q_thr k3⟩

end
