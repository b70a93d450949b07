section
variable {N t : Nat} {a : Ax}
/-- what is noted -/
def putN (l : Nl) (p d v : Nat) : Nl := (l.1 + 1, fun i => if i = l.1 then (p, d, v) else l.2 i)
theorem x_note {p n v : Int32} (hN : 10000 ≤ N) (hW : WX a) : Jx t a (f_X9_note N 0 p n v) (f_X10_note N 78 p n v) cd2 := by
  have hI := hW.1
  have hnp := WX_np hW
  obtain ⟨w1, w2⟩ := hW.2.1.2.2
  by_cases h1 : vB p (cnp a.1)
  · obtain ⟨i, hi, ei⟩ := vB_n h1 (by omega)
    have no : (a.2.1.2.2.1 = 8 ∨ ¬ vR n 0 20 ∨ ¬ vR v 0 9999) → Jx t a (f_X9_note N 0 p n v) (f_X10_note N 78 p n v) cd2 := by
      intro hno
      refine ⟨.inl (-1), refu a 2, t, WX_refu hW, fun S hX hO => ?_, fun S hX => ?_⟩
      · have fin : Rn (b_X9_note_38 N 0 S) (fun q => q.1 = Sum.inl (-1) ∧ PC t (refu a 2) S q.2) := by
          unfold b_X9_note_38
          rw [r0_4, n7, l2, inbT (by decide) (by decide), inbT (by decide) (by decide), nIc (by decide)]
          exact Rn_ret ⟨rfl, c_refu hX hO (by omega)⟩
        unfold f_X9_note
        rw [(g_person hX.1 hX.2.1).1 h1, bt_inl, r0_10, hX.2.2.1.2.2.1]
        by_cases z0 : 8 ≤ a.2.1.2.2.1
        · rw [l8, leT z0 (by omega)]; exact fin
        · rw [l8, leF (by omega) (by omega)]
          by_cases z1 : n < 0
          · rw [if_pos z1]; exact fin
          · rw [if_neg z1]
            by_cases z2 : 20 < n
            · rw [if_pos z2]; exact fin
            · rw [if_neg z2]
              by_cases z3 : v < 0
              · rw [if_pos z3]; exact fin
              · rw [if_neg z3]
                by_cases z4 : v ≤ 9999
                · exfalso
                  rcases hno with h | h | h
                  · omega
                  · exact h ⟨z1, le_of_nlt z2⟩
                  · exact h ⟨z3, z4⟩
                · rw [if_neg z4]; exact fin
      · obtain ⟨k1, k2, k3⟩ := XM_0 hX hnp
        have fin : Rn (b_X10_note_45 N 78 (sp S 78 0 0)) (fun q => mok cd2 (.inl (-1)) q ∧ PM (refu a 2) S q.2) := by
          unfold b_X10_note_45
          rw [l2]
          exact Rn_bd (Rn_mono (m_refu k1 (by omega) hnp k3) (fun q h => Rn_ret ⟨⟨h.1, h.2.2.trans k2⟩, h.2.1⟩))
        unfold f_X10_note
        rw [(h_person k2 k1.1.1.1.2).1 h1, bd_some, if_neg (by decide), k1.2.1.2.2.1]
        by_cases z0 : a.2.1.2.2.1 = 8
        · rw [z0, if_pos (by decide)]; exact fin
        · rw [l8, eqF z0 (by omega) (by omega)]
          by_cases z1 : vR n 0 20
          · rw [h_in_0_20.1 z1, bd_some, if_neg (by decide)]
            by_cases z2 : vR v 0 9999
            · exfalso
              rcases hno with h | h | h
              · exact z0 h
              · exact h z1
              · exact h z2
            · rw [h_in_0_9999.2 z2, bd_some, if_pos rfl]; exact fin
          · rw [h_in_0_20.2 z1, bd_some, if_pos rfl]; exact fin
    by_cases z0 : a.2.1.2.2.1 = 8
    · exact no (Or.inl z0)
    · by_cases z1 : vR n 0 20
      · by_cases z2 : vR v 0 9999
        · obtain ⟨ni, -, hn, en⟩ := vR_n z1 (by omega) (by omega)
          obtain ⟨vi, -, hv, ev⟩ := vR_n z2 (by omega) (by omega)
          refine ⟨.inl (nI (a.2.1.2.2.1 + 1)), setV a (a.2.1.1, a.2.1.2.1, putN a.2.1.2.2 i ni vi), t, WX_set hW ⟨hW.2.1.1, hW.2.1.2.1, by show a.2.1.2.2.1 + 1 ≤ 8; omega, fun k hk => ?_⟩, fun S hX hO => ?_, fun S hX => ?_⟩
          · have hk' : k < a.2.1.2.2.1 + 1 := hk
            show (if k = a.2.1.2.2.1 then (i, ni, vi) else a.2.1.2.2.2 k).1 < _ ∧ (if k = a.2.1.2.2.1 then (i, ni, vi) else a.2.1.2.2.2 k).2.1 ≤ 20 ∧ (if k = a.2.1.2.2.1 then (i, ni, vi) else a.2.1.2.2.2 k).2.2 ≤ 9999
            by_cases y : k = a.2.1.2.2.1
            · rw [if_pos y]; exact ⟨hi, hn, hv⟩
            · rw [if_neg y]; exact w2 k (by omega)
          · have ht := HC_t hX.1
            obtain ⟨n1, n2⟩ := hX.2.2.1.2.2
            unfold f_X9_note f_X3_put b_X3_put_49
            rw [(g_person hX.1 hX.2.1).1 h1, bt_inl, r0_10, n1, l8, leF (by omega) (by omega), if_neg (show ¬ n < 0 from z1.1), if_neg (show ¬ 20 < n from nlt_of_le z1.2), if_neg (show ¬ v < 0 from z2.1), if_pos (show v ≤ 9999 from z2.2), r46_0, r46_1, r46_2, n47, n48, n49, leF (by omega) (by omega), inbT (by omega) (by decide), nIc (by omega)]
            have q1 : ∀ w, sg (sp S 47 a.2.1.2.2.1 w) 46 3 = nI a.2.1.2.2.1 := fun w => by rw [sgn (by omega)]; exact n1
            rw [q1, inbT (by omega) (by decide), nIc (by omega)]
            have q2 : ∀ w u, sg (sp (sp S 47 a.2.1.2.2.1 w) 48 a.2.1.2.2.1 u) 46 3 = nI a.2.1.2.2.1 := fun w u => by rw [sgn (by omega)]; exact q1 w
            rw [q2, inbT (by omega) (by decide), nIc (by omega)]
            have q3 : ∀ w u x, sg (sp (sp (sp S 47 a.2.1.2.2.1 w) 48 a.2.1.2.2.1 u) 49 a.2.1.2.2.1 x) 46 3 = nI a.2.1.2.2.1 := fun w u x => by rw [sgn (by omega)]; exact q2 w u
            rw [q3, nI1, bv_some, sgp]
            have e : ∀ k j, ¬ k = 47 → ¬ k = 48 → ¬ k = 49 → ¬ k = 46 → sg (sp (sp (sp (sp S 47 a.2.1.2.2.1 p) 48 a.2.1.2.2.1 n) 49 a.2.1.2.2.1 v) 46 3 (nI (a.2.1.2.2.1 + 1))) k j = sg S k j := fun k j e1 e2 e3 e4 => by rw [sgn (by omega), sgn (by omega), sgn (by omega), sgn (by omega)]
            refine Rn_ret ⟨rfl, XC_v hX rfl ⟨RC_same hX.2.2.1.1 (fun j => e _ j (by omega) (by omega) (by omega) (by omega)), AC_same hX.2.2.1.2.1 (fun b j hb => e b j (by omega) (by omega) (by omega) (by omega)), sgp _ _ _ _, fun k hk => ?_⟩ (fun j hj => (e 7 j (by omega) (by omega) (by omega) (by omega)).trans (hX.2.2.2.2.2.2 j hj)) (fun k j hk => e k j (by omega) (by omega) (by omega) (by omega)), OCx_same hO (fun k j hk => e k j (by omega) (by omega) (by omega) (by omega)), fun k j hk => e k j (by omega) (by omega) (by omega) (by omega)⟩
            have hk' : k < a.2.1.2.2.1 + 1 := hk
            show sg _ 47 k = nI (if k = a.2.1.2.2.1 then (i, ni, vi) else a.2.1.2.2.2 k).1 ∧ sg _ 48 k = nI (if k = a.2.1.2.2.1 then (i, ni, vi) else a.2.1.2.2.2 k).2.1 ∧ sg _ 49 k = nI (if k = a.2.1.2.2.1 then (i, ni, vi) else a.2.1.2.2.2 k).2.2
            by_cases y : k = a.2.1.2.2.1
            · rw [if_pos y, y]
              refine ⟨?_, ?_, ?_⟩
              · rw [sgn (by omega), sgn (by omega), sgn (by omega), sgp, ei]
              · rw [sgn (by omega), sgn (by omega), sgp, en]
              · rw [sgn (by omega), sgp, ev]
            · rw [if_neg y]
              obtain ⟨m1, m2, m3⟩ := n2 k (by omega)
              refine ⟨?_, ?_, ?_⟩
              · rw [sgn (by omega), sgn (by omega), sgn (by omega), sgj y]; exact m1
              · rw [sgn (by omega), sgn (by omega), sgj y, sgn (by omega)]; exact m2
              · rw [sgn (by omega), sgj y, sgn (by omega), sgn (by omega)]; exact m3
          · obtain ⟨k1, k2, k3⟩ := XM_0 hX hnp
            obtain ⟨n1, n2⟩ := k1.2.1.2.2
            unfold f_X10_note
            rw [(h_person k2 k1.1.1.1.2).1 h1, bd_some, if_neg (by decide), n1, l8, eqF z0 (by omega) (by omega), h_in_0_20.1 z1, bd_some, if_neg (by decide), h_in_0_9999.1 z2, bd_some, if_neg (by decide), n1, l3, nIm, r78_57, n102, inbT (by omega) (by decide), nIc (by omega)]
            have q1 : ∀ w, sg (sp (sp S 78 0 0) 102 (3 * a.2.1.2.2.1) w) 78 56 = nI a.2.1.2.2.1 := fun w => by rw [sgn (by omega)]; exact n1
            rw [q1, nIm, nI1, inbT (by omega) (by decide), nIc (by omega)]
            have q2 : ∀ w u, sg (sp (sp (sp S 78 0 0) 102 (3 * a.2.1.2.2.1) w) 102 (3 * a.2.1.2.2.1 + 1) u) 78 56 = nI a.2.1.2.2.1 := fun w u => by rw [sgn (by omega)]; exact q1 w
            rw [q2, nIm, l2, nIa, inbT (by omega) (by decide), nIc (by omega)]
            have q3 : ∀ w u x, sg (sp (sp (sp (sp S 78 0 0) 102 (3 * a.2.1.2.2.1) w) 102 (3 * a.2.1.2.2.1 + 1) u) 102 (3 * a.2.1.2.2.1 + 2) x) 78 56 = nI a.2.1.2.2.1 := fun w u x => by rw [sgn (by omega)]; exact q2 w u
            rw [q3, nI1, sgp]
            have e : ∀ k j, ¬ k = 102 → ¬ (k = 78 ∧ j = 56) → sg (sp (sp (sp (sp (sp S 78 0 0) 102 (3 * a.2.1.2.2.1) p) 102 (3 * a.2.1.2.2.1 + 1) n) 102 (3 * a.2.1.2.2.1 + 2) v) 78 56 (nI (a.2.1.2.2.1 + 1))) k j = sg (sp S 78 0 0) k j := fun k j e1 e2 => by
              by_cases y : k = 78
              · subst y
                rw [sgj (by omega), sgn (by omega), sgn (by omega), sgn (by omega)]
              · rw [sgn y, sgn (by omega), sgn (by omega), sgn (by omega)]
            refine Rn_ret ⟨⟨rfl, (e 78 0 (by omega) (by omega)).trans k2⟩, XM_v k1 ⟨RM_same k1.2.1.1 (fun j _ => e _ _ (by omega) (by omega)), AM_same k1.2.1.2.1 (e _ _ (by omega) (by omega)) (fun j => e _ _ (by omega) (by omega)), sgp _ _ _ _, fun k hk => ?_⟩ (fun j hj => (e 86 j (by omega) (by omega)).trans (k1.2.2.2.2.2 j hj)) (fun k j hk => e k j (by omega) (by omega)), fun k j hk => (e k j (by omega) (by omega)).trans (k3.2.1 k j hk), k3.2.2.1, k3.2.2.2⟩
            have hk' : k < a.2.1.2.2.1 + 1 := hk
            show sg _ 102 (3 * k) = nI (if k = a.2.1.2.2.1 then (i, ni, vi) else a.2.1.2.2.2 k).1 ∧ sg _ 102 (3 * k + 1) = nI (if k = a.2.1.2.2.1 then (i, ni, vi) else a.2.1.2.2.2 k).2.1 ∧ sg _ 102 (3 * k + 2) = nI (if k = a.2.1.2.2.1 then (i, ni, vi) else a.2.1.2.2.2 k).2.2
            by_cases y : k = a.2.1.2.2.1
            · rw [if_pos y, y]
              refine ⟨?_, ?_, ?_⟩
              · rw [sgn (by omega), sgj (by omega), sgj (by omega), sgp, ei]
              · rw [sgn (by omega), sgj (by omega), sgp, en]
              · rw [sgn (by omega), sgp, ev]
            · rw [if_neg y]
              obtain ⟨m1, m2, m3⟩ := n2 k (by omega)
              refine ⟨?_, ?_, ?_⟩
              · rw [sgn (by omega), sgj (by omega), sgj (by omega), sgj (by omega)]; exact m1
              · rw [sgn (by omega), sgj (by omega), sgj (by omega), sgj (by omega)]; exact m2
              · rw [sgn (by omega), sgj (by omega), sgj (by omega), sgj (by omega)]; exact m3
        · exact no (Or.inr (Or.inr z2))
      · exact no (Or.inr (Or.inl z1))
  · refine ⟨.inr 0, a, t, hW, fun S hX hO => ?_, fun S hX => ?_⟩
    · unfold f_X9_note
      rw [(g_person hX.1 hX.2.1).2 h1, bt_inr]
      exact Rn_ret ⟨rfl, PC_q hX hO (Fm_rf _ _)⟩
    · obtain ⟨k1, k2, k3⟩ := XM_0 hX hnp
      unfold f_X10_note
      rw [(h_person k2 k1.1.1.1.2).2 h1, bd_some, if_pos rfl]
      exact Rn_ret ⟨sgp _ _ _ _, PM_q hX hnp (q_thr (q_thr (Fm_rf _ _)))⟩
theorem x_forget (hW : WX a) : Jv t a (f_X9_forget N 0) (f_X10_forget N 78) := by
  have hnp := WX_np hW
  refine ⟨setV a (a.2.1.1, a.2.1.2.1, (0, a.2.1.2.2.2)), t, WX_set hW ⟨hW.2.1.1, hW.2.1.2.1, by show 0 ≤ 8; omega, fun k hk => absurd hk (Nat.not_lt_zero _)⟩, fun S hX hO => ?_, fun S hX => ?_⟩
  · have ht := HC_t hX.1
    unfold f_X9_forget f_X3_clearAll
    rw [r0_10, bv_some]
    refine Rn_ret ⟨XC_v hX rfl ⟨RC_o hX.2.2.1.1 (by omega), AC_same hX.2.2.1.2.1 (fun b j hb => sgn (by omega)), sgp _ _ _ _, fun k hk => absurd hk (Nat.not_lt_zero _)⟩ (fun j hj => (sgn (by omega)).trans (hX.2.2.2.2.2.2 j hj)) (fun k j hk => sgn (by omega)), OCx_same hO (fun k j hk => sgn (by omega)), fun k j hk => sgn (by omega)⟩
  · obtain ⟨k1, k2, k3⟩ := XM_0 hX hnp
    unfold f_X10_forget
    have e : ∀ k j, ¬ (k = 78 ∧ j = 56) → sg (sp (sp S 78 0 0) 78 56 0) k j = sg (sp S 78 0 0) k j := fun k j e2 => by
      by_cases y : k = 78
      · subst y
        exact sgj (by omega)
      · exact sgn y
    refine Rn_ret ⟨XM_v k1 ⟨RM_same k1.2.1.1 (fun j _ => e _ _ (by omega)), AM_same k1.2.1.2.1 (e _ _ (by omega)) (fun j => e _ _ (by omega)), sgp _ _ _ _, fun k hk => absurd hk (Nat.not_lt_zero _)⟩ (fun j hj => (e 86 j (by omega)).trans (k1.2.2.2.2.2 j hj)) (fun k j hk => e k j (by omega)), fun k j hk => (e k j (by omega)).trans (k3.2.1 k j hk), k3.2.2.1, k3.2.2.2⟩
/-- copies of all that -/
theorem c_copyA {S : am_S} {np ka kb : Nat} {l : Al} (ha : rf ka 0 = ka + 1 ∧ ln (ka + 1) = 3200) (hb : rf kb 0 = kb + 1 ∧ ln (kb + 1) = 3200) (hab : ka + 1 < kb ∨ kb + 1 < ka) (hl : l.1 ≤ 40) (hnp : np ≤ 8) (hA : AC S np ka l) : Rn (f_X0_copyFrom N kb ka S) (fun S' => AC S' np kb l ∧ Fm (fun k _ => k = kb ∨ k = kb + 1) S S') := by
  obtain ⟨h1, nx, h2, h3, h4⟩ := hA
  unfold f_X0_copyFrom
  rw [ha.1, ha.2, hb.1, hb.2, l0, cpkT (by omega) (by omega) (by omega) (by omega), nIc (by omega), nIc (by omega)]
  have e1 : ∀ j, sg (scp S (ka + 1) 0 (kb + 1) 0 3200) ka j = sg S ka j := fun j => by rw [sg_scp, if_neg (by omega)]
  have e2 : ∀ v, sg (sp (scp S (ka + 1) 0 (kb + 1) 0 3200) kb 1 v) ka 2 = nI nx := fun v => by rw [sgn (by omega), e1]; exact h3
  rw [e1, h1, e2]
  refine Rn_ret ⟨⟨by rw [sgj (by omega), sgp], nx, h2, sgp _ _ _ _, fun i j hi hj => ?_⟩, Fm_sp (Fm_sp ⟨fun k j hk => by rw [sg_scp, if_neg (by omega)], rfl⟩ (Or.inl rfl)) (Or.inl rfl)⟩
  have hp := pm_lt (j := j) (by omega)
  rw [sgn (by omega), sgn (by omega), sg_scp, if_pos ⟨rfl, by omega, by omega⟩, ← h4 i j hi hj]
  congr 1
  omega
theorem c_copyN {S : am_S} {ka kb : Nat} {l : Nl} (ha : rf ka 0 = ka + 1 ∧ rf ka 1 = ka + 2 ∧ rf ka 2 = ka + 3 ∧ ln (ka + 1) = 8 ∧ ln (ka + 2) = 8 ∧ ln (ka + 3) = 8) (hb : rf kb 0 = kb + 1 ∧ rf kb 1 = kb + 2 ∧ rf kb 2 = kb + 3 ∧ ln (kb + 1) = 8 ∧ ln (kb + 2) = 8 ∧ ln (kb + 3) = 8) (hab : ka + 3 < kb ∨ kb + 3 < ka) (hl : l.1 ≤ 8) (hA : NC S ka l) : Rn (f_X3_copyFrom N kb ka S) (fun S' => NC S' kb l ∧ Fm (fun k _ => kb ≤ k ∧ k ≤ kb + 3) S S') := by
  obtain ⟨h1, h2⟩ := hA
  obtain ⟨a1, a2, a3, a4, a5, a6⟩ := ha
  obtain ⟨b1, b2, b3, b4, b5, b6⟩ := hb
  unfold f_X3_copyFrom
  rw [a1, a2, a3, a4, a5, a6, b1, b2, b3, b4, b5, b6, l0, l8, cpkT (by omega) (by omega) (by omega) (by omega), cpkT (by omega) (by omega) (by omega) (by omega), cpkT (by omega) (by omega) (by omega) (by omega), nIc (by omega), nIc (by omega)]
  have e1 : sg (scp (scp (scp S (ka + 1) 0 (kb + 1) 0 8) (ka + 2) 0 (kb + 2) 0 8) (ka + 3) 0 (kb + 3) 0 8) ka 3 = nI l.1 := by
    rw [sg_scp, if_neg (by omega), sg_scp, if_neg (by omega), sg_scp, if_neg (by omega)]
    exact h1
  rw [e1]
  refine Rn_ret ⟨⟨sgp _ _ _ _, fun i hi => ?_⟩, Fm_sp ⟨fun k j hk => ?_, rfl⟩ (by omega)⟩
  · obtain ⟨m1, m2, m3⟩ := h2 i hi
    refine ⟨?_, ?_, ?_⟩
    · rw [sgn (by omega), sg_scp, if_neg (by omega), sg_scp, if_neg (by omega), sg_scp, if_pos ⟨rfl, by omega, by omega⟩, ← m1]
      congr 1
      omega
    · rw [sgn (by omega), sg_scp, if_neg (by omega), sg_scp, if_pos ⟨rfl, by omega, by omega⟩, sg_scp, if_neg (by omega), ← m2]
      congr 1
      omega
    · rw [sgn (by omega), sg_scp, if_pos ⟨rfl, by omega, by omega⟩, sg_scp, if_neg (by omega), sg_scp, if_neg (by omega), ← m3]
      congr 1
      omega
  · rw [sg_scp, if_neg (by omega), sg_scp, if_neg (by omega), sg_scp, if_neg (by omega)]
theorem nf46 : rf 46 0 = 46 + 1 ∧ rf 46 1 = 46 + 2 ∧ rf 46 2 = 46 + 3 ∧ ln (46 + 1) = 8 ∧ ln (46 + 2) = 8 ∧ ln (46 + 3) = 8 := ⟨rfl, rfl, rfl, rfl, rfl, rfl⟩
theorem nf54 : rf 54 0 = 54 + 1 ∧ rf 54 1 = 54 + 2 ∧ rf 54 2 = 54 + 3 ∧ ln (54 + 1) = 8 ∧ ln (54 + 2) = 8 ∧ ln (54 + 3) = 8 := ⟨rfl, rfl, rfl, rfl, rfl, rfl⟩
theorem x_image (hN : 10000 ≤ N) (hW : WX a) : Jv t a (f_X9_image N 0) (f_X10_image N 78) := by
  have hnp := WX_np hW
  refine ⟨(a.1, a.2.1, some a.2.1, a.2.2.2), t, ⟨hW.1, hW.2.1, fun v hv => by have : some a.2.1 = some v := hv; cases this; exact hW.2.1, hW.2.2.2⟩, fun S hX hO => ?_, fun S hX => ?_⟩
  · have ht := HC_t hX.1
    unfold f_X9_image
    rw [r0_7, r0_9, r0_10, r0_12, r0_13, r0_14]
    refine Rn_bv (Rn_mono (c_copyFrom Sk50 Sk40 (by omega) hX.2.2.1.1) (fun S1 h1 => ?_))
    refine Rn_bv (Rn_mono (c_copyA (ka := 44) (kb := 52) ⟨rfl, rfl⟩ ⟨rfl, rfl⟩ (by omega) hW.2.1.2.1.1 hnp (AC_same hX.2.2.1.2.1 (fun b j hb => h1.2.1.1 b j (by omega)))) (fun S2 h2 => ?_))
    have e2 : ∀ k j, ¬ k = 51 → ¬ k = 52 → ¬ k = 53 → sg S2 k j = sg S k j := fun k j x1 x2 x3 => (h2.2.1 k j (by omega)).trans (h1.2.1.1 k j (by omega))
    refine Rn_bv (Rn_mono (c_copyN (ka := 46) (kb := 54) nf46 nf54 (by omega) hW.2.1.2.2.1 (NC_same hX.2.2.1.2.2 (fun b j hb => e2 b j (by omega) (by omega) (by omega)))) (fun S3 h3 => ?_))
    have e3 : ∀ k j, (k < 51 ∨ 57 < k) → sg S3 k j = sg S k j := fun k j x1 => (h3.2.1 k j (by omega)).trans (e2 k j (by omega) (by omega) (by omega))
    have e4 : ∀ k j, (k < 51 ∨ 57 < k) → ¬ (k = 0 ∧ j = 11) → sg (sp S3 0 11 1) k j = sg S k j := fun k j x1 x2 => by
      by_cases y : k = 0
      · subst y
        rw [sgj (by omega)]
        exact e3 _ _ x1
      · rw [sgn y]
        exact e3 _ _ x1
    have h22 : (sp S3 0 11 1).2.2 = S.2.2 := by
      show S3.2.2 = _
      rw [h3.2.2, h2.2.2, h1.2.1.2]
    obtain ⟨a1, a2, a3, a4, ⟨a5, a6⟩, ⟨a7, a8⟩⟩ := hX
    refine Rn_ret ⟨⟨HC_same a1 h22, CC_same a2 (fun k j k1 k2 k3 k4 => e4 k j (by omega) (by omega)), VC_same a3 (fun k j hk => e4 k j (by omega) (by omega)), ⟨sgp _ _ _ _, RC_same h1.1 (fun j => ?_), AC_same h2.1 (fun b j hb => ?_), NC_same h3.1 (fun b j hb => sgn (by omega))⟩, ⟨(e4 _ _ (by omega) (by omega)).trans a5, fun j hj => (e4 _ _ (by omega) (by omega)).trans (a6 j hj)⟩, ⟨(e4 _ _ (by omega) (by omega)).trans a7, fun j hj => (e4 _ _ (by omega) (by omega)).trans (a8 j hj)⟩⟩, OCx_same hO (fun k j hk => e4 k j (by omega) (by omega)), fun k j hk => e4 k j (by omega) (by omega)⟩
    · rw [sgn (by omega), h3.2.1 _ _ (by omega), h2.2.1 _ _ (by omega)]
    · rw [sgn (by omega), h3.2.1 _ _ (by omega)]
  · obtain ⟨k1, k2, k3⟩ := XM_0 hX hnp
    obtain ⟨⟨b1, b2⟩, ⟨b3, b4, b5⟩, -, ⟨b7, b8⟩, ⟨b9, b10⟩⟩ := k1
    unfold f_X10_image
    have q1 : sg (sp (sp S 78 0 0) 78 61 1) 78 48 = nI a.2.1.2.1.1 := by rw [sgj (by omega)]; exact b4.1
    have q2 : ∀ v, sg (sp (sp (sp S 78 0 0) 78 61 1) 78 62 v) 78 56 = nI a.2.1.2.2.1 := fun v => by rw [sgj (by omega), sgj (by omega)]; exact b5.1
    rw [q1, q2]
    have e0 : ∀ k j, ¬ (k = 78 ∧ (j = 61 ∨ j = 62 ∨ j = 63)) → sg (sp (sp (sp (sp S 78 0 0) 78 61 1) 78 62 (nI a.2.1.2.1.1)) 78 63 (nI a.2.1.2.2.1)) k j = sg (sp S 78 0 0) k j := fun k j x1 => by
      by_cases y : k = 78
      · subst y
        rw [sgj (by omega), sgj (by omega), sgj (by omega)]
      · rw [sgn y, sgn y, sgn y]
    refine lp0 (fun n (s : am_S) i => b_X10_image_28 N n 78 i s) (fun i s => Fm (fun k _ => k = 105) (sp (sp (sp (sp S 78 0 0) 78 61 1) 78 62 (nI a.2.1.2.1.1)) 78 63 (nI a.2.1.2.2.1)) s ∧ ∀ j, j < i → sg s 105 j = sg (sp S 78 0 0) 96 j) _ 80 ?_ ?_ N _ (by omega) ⟨Fm_rf _ _, fun j hj => by omega⟩
    · intro n s hs
      show Rn (b_X10_image_28 N (n + 1) 78 (nI 80) s) _
      unfold b_X10_image_28
      rw [l80, leT (Nat.le_refl _) (by omega), r78_47, r78_65, r78_57, r78_66]
      refine Rn_bv (Rn_mono (m_copies (la := 3200) (lb := 3200) n97 n106 (by omega) (by omega) (by omega) (by omega)) (fun S2 h2 => ?_))
      refine Rn_bv (Rn_mono (m_copies (la := 24) (lb := 24) n102 n107 (by omega) (by omega) (by omega) (by omega)) (fun S3 h3 => ?_))
      have e : ∀ k j, ¬ (k = 78 ∧ (j = 61 ∨ j = 62 ∨ j = 63)) → ¬ k = 105 → ¬ k = 106 → ¬ k = 107 → sg S3 k j = sg (sp S 78 0 0) k j := fun k j x1 x2 x3 x4 => by
        rw [h3.2.1 k j (by omega), h2.2.1 k j (by omega), hs.1.1 k j x2]
        exact e0 k j x1
      have ef : ∀ j, sg S3 78 j = sg (sp (sp (sp (sp S 78 0 0) 78 61 1) 78 62 (nI a.2.1.2.1.1)) 78 63 (nI a.2.1.2.2.1)) 78 j := fun j => by
        rw [h3.2.1 _ _ (by omega), h2.2.1 _ _ (by omega), hs.1.1 _ _ (by omega)]
      refine Rn_ret ⟨⟨⟨CM_same b1 (fun k j hk => e k j (by unfold mC at hk; omega) (by unfold mC at hk; omega) (by unfold mC at hk; omega) (by unfold mC at hk; omega)), (e _ _ (by omega) (by omega) (by omega) (by omega)).trans b2.1, (e _ _ (by omega) (by omega) (by omega) (by omega)).trans b2.2⟩, ⟨RM_same b3 (fun j _ => e _ _ (by omega) (by omega) (by omega) (by omega)), AM_same b4 (e _ _ (by omega) (by omega) (by omega) (by omega)) (fun j => e _ _ (by omega) (by omega) (by omega) (by omega)), NM_same b5 (e _ _ (by omega) (by omega) (by omega) (by omega)) (fun j => e _ _ (by omega) (by omega) (by omega) (by omega))⟩, ⟨?_, fun j hj => ?_, ⟨?_, fun i j hi hj => ?_⟩, ⟨?_, fun i hi => ?_⟩⟩, ⟨(e _ _ (by omega) (by omega) (by omega) (by omega)).trans b7, fun j hj => (e _ _ (by omega) (by omega) (by omega) (by omega)).trans (b8 j hj)⟩, ⟨(e _ _ (by omega) (by omega) (by omega) (by omega)).trans b9, fun j hj => (e _ _ (by omega) (by omega) (by omega) (by omega)).trans (b10 j hj)⟩⟩, fun k j hk => (e k j (by omega) (by omega) (by omega) (by omega)).trans (k3.2.1 k j hk), ?_, ?_⟩
      · rw [ef, sgj (by omega), sgj (by omega), sgp]
      · have hj' : j < 72 + cnp a.1 := hj
        rw [h3.2.1 _ _ (by omega), h2.2.1 _ _ (by omega), hs.2 j (by omega), ← b3 j hj, Nat.zero_add]
      · rw [ef, sgj (by omega), sgp]
      · have w1 := hW.2.1.2.1.1
        have hi' : i < a.2.1.2.1.1 := hi
        have hj' : j < 72 + cnp a.1 := hj
        rw [h3.2.1 _ _ (by omega), h2.1 _ (by omega), hs.1.1 _ _ (by omega), e0 _ _ (by omega)]
        exact b4.2 i j hi hj
      · rw [ef, sgp]
      · have w1 := hW.2.1.2.2.1
        have hi' : i < a.2.1.2.2.1 := hi
        have g : ∀ j, j < 24 → sg S3 107 j = sg (sp S 78 0 0) 102 j := fun j hj => by
          rw [h3.1 j hj, h2.2.1 _ _ (by omega), hs.1.1 _ _ (by omega), e0 _ _ (by omega)]
        rw [g _ (by omega), g _ (by omega), g _ (by omega)]
        exact b5.2 i hi
      · rw [h3.2.2, h2.2.2, hs.1.2]
        exact k3.2.2.1
      · unfold lg
        rw [h3.2.2, h2.2.2, hs.1.2]
        exact k3.2.2.2
    · intro n i s hi hs ih
      show Rn (b_X10_image_28 N (n + 1) 78 (nI i) s) _
      unfold b_X10_image_28
      rw [l80, leF (by omega) (by omega), r78_46, r78_64, n96, n105, inbT (by omega) (by decide), inbT (by omega) (by decide), nIc (by omega), nI1]
      refine ih _ ⟨Fm_sp hs.1 rfl, fun j hj => ?_⟩
      by_cases y : j = i
      · subst y
        rw [sgp, hs.1.1 _ _ (by omega)]
        exact e0 _ _ (by omega)
      · rw [sgj y]
        exact hs.2 j (by omega)
theorem x_restore (hN : 10000 ≤ N) (hW : WX a) : Jp t a (f_X9_restore N 0) (f_X10_restore N 78) := by
  have hnp := WX_np hW
  cases hv : a.2.2.1 with
  | none =>
    refine ⟨0, a, t, hW, fun S hX hO => ?_, fun S hX => ?_⟩
    · have h11 := hX.2.2.2.1
      rw [hv] at h11
      have h11' : sg S 0 11 = 0 := h11
      unfold f_X9_restore
      rw [h11', if_pos rfl]
      exact Rn_ret ⟨rfl, PC_q hX hO (Fm_rf _ _)⟩
    · obtain ⟨k1, k2, k3⟩ := XM_0 hX hnp
      have h61 := k1.2.2.1
      rw [hv] at h61
      have h61' : sg (sp S 78 0 0) 78 61 = 0 := h61
      unfold f_X10_restore
      rw [h61', if_pos rfl]
      exact Rn_ret ⟨rfl, k3⟩
  | some v =>
    have hWv := hW.2.2.1 v hv
    refine ⟨1, setV a v, t, WX_set hW hWv, fun S hX hO => ?_, fun S hX => ?_⟩
    · have ht := HC_t hX.1
      have h11 := hX.2.2.2.1
      rw [hv] at h11
      obtain ⟨h11a, v1, v2, v3⟩ := h11
      unfold f_X9_restore
      rw [h11a, if_neg (by decide), r0_7, r0_9, r0_10, r0_12, r0_13, r0_14]
      refine Rn_bv (Rn_mono (c_copyFrom Sk40 Sk50 (by omega) v1) (fun S1 h1 => ?_))
      refine Rn_bv (Rn_mono (c_copyA (ka := 52) (kb := 44) ⟨rfl, rfl⟩ ⟨rfl, rfl⟩ (by omega) hWv.2.1.1 hnp (AC_same v2 (fun b j hb => h1.2.1.1 b j (by omega)))) (fun S2 h2 => ?_))
      have e2 : ∀ k j, ¬ k = 41 → ¬ k = 44 → ¬ k = 45 → sg S2 k j = sg S k j := fun k j x1 x2 x3 => (h2.2.1 k j (by omega)).trans (h1.2.1.1 k j (by omega))
      refine Rn_bv (Rn_mono (c_copyN (ka := 54) (kb := 46) nf54 nf46 (by omega) hWv.2.2.1 (NC_same v3 (fun b j hb => e2 b j (by omega) (by omega) (by omega)))) (fun S3 h3 => ?_))
      have e3 : ∀ k j, ¬ k = 41 → (k < 44 ∨ 49 < k) → sg S3 k j = sg S k j := fun k j x0 x1 => (h3.2.1 k j (by omega)).trans (e2 k j (by omega) (by omega) (by omega))
      refine Rn_ret ⟨rfl, XC_v hX (by rw [h3.2.2, h2.2.2, h1.2.1.2]) ⟨RC_same h1.1 (fun j => ?_), AC_same h2.1 (fun b j hb => h3.2.1 b j (by omega)), h3.1⟩ (fun j hj => (e3 7 j (by omega) (by omega)).trans (hX.2.2.2.2.2.2 j hj)) (fun k j hk => e3 k j (by omega) (by omega)), OCx_same hO (fun k j hk => e3 k j (by omega) (by omega)), fun k j hk => e3 k j (by omega) (by omega)⟩
      rw [h3.2.1 _ _ (by omega), h2.2.1 _ _ (by omega)]
    · obtain ⟨k1, k2, k3⟩ := XM_0 hX hnp
      have h61 := k1.2.2.1
      rw [hv] at h61
      obtain ⟨h61a, v1, v2, v3⟩ := h61
      unfold f_X10_restore
      have q1 : ∀ u, sg (sp (sp S 78 0 0) 78 48 u) 78 63 = nI v.2.2.1 := fun u => by rw [sgj (by omega)]; exact v3.1
      rw [h61a, if_neg (by decide), v2.1, q1]
      have e0 : ∀ k j, ¬ (k = 78 ∧ (j = 48 ∨ j = 56)) → sg (sp (sp (sp S 78 0 0) 78 48 (nI v.2.1.1)) 78 56 (nI v.2.2.1)) k j = sg (sp S 78 0 0) k j := fun k j x1 => by
        by_cases y : k = 78
        · subst y
          rw [sgj (by omega), sgj (by omega)]
        · rw [sgn y, sgn y]
      refine lp0 (fun n (s : am_S) i => b_X10_restore_32 N n 78 i s) (fun i s => Fm (fun k j => k = 96 ∧ j < 80) (sp (sp (sp S 78 0 0) 78 48 (nI v.2.1.1)) 78 56 (nI v.2.2.1)) s ∧ ∀ j, j < i → sg s 96 j = sg (sp S 78 0 0) 105 j) _ 80 ?_ ?_ N _ (by omega) ⟨Fm_rf _ _, fun j hj => by omega⟩
      · intro n s hs
        show Rn (b_X10_restore_32 N (n + 1) 78 (nI 80) s) _
        unfold b_X10_restore_32
        rw [l80, leT (Nat.le_refl _) (by omega), r78_47, r78_65, r78_57, r78_66]
        refine Rn_bv (Rn_mono (m_copies (la := 3200) (lb := 3200) n106 n97 (by omega) (by omega) (by omega) (by omega)) (fun S2 h2 => ?_))
        refine Rn_bv (Rn_mono (m_copies (la := 24) (lb := 24) n107 n102 (by omega) (by omega) (by omega) (by omega)) (fun S3 h3 => ?_))
        have e : ∀ k j, ¬ (k = 78 ∧ (j = 48 ∨ j = 56)) → ¬ (k = 96 ∧ j < 80) → ¬ k = 97 → ¬ k = 102 → sg S3 k j = sg (sp S 78 0 0) k j := fun k j x1 x2 x3 x4 => by
          rw [h3.2.1 k j (by omega), h2.2.1 k j (by omega), hs.1.1 k j x2]
          exact e0 k j x1
        have ef : ∀ j, sg S3 78 j = sg (sp (sp (sp S 78 0 0) 78 48 (nI v.2.1.1)) 78 56 (nI v.2.2.1)) 78 j := fun j => by
          rw [h3.2.1 _ _ (by omega), h2.2.1 _ _ (by omega), hs.1.1 _ _ (by omega)]
        refine Rn_ret ⟨rfl, XM_v k1 ⟨fun j hj => ?_, ⟨?_, fun i j hi hj => ?_⟩, ⟨?_, fun i hi => ?_⟩⟩ (fun j hj => (e 86 j (by omega) (by omega) (by omega) (by omega)).trans (k1.2.2.2.2.2 j hj)) (fun k j hk => e k j (by omega) (by omega) (by omega) (by omega)), fun k j hk => (e k j (by omega) (by omega) (by omega) (by omega)).trans (k3.2.1 k j hk), ?_, ?_⟩
        · rw [Nat.zero_add, h3.2.1 _ _ (by omega), h2.2.1 _ _ (by omega), hs.2 j (by omega)]
          exact v1 j hj
        · rw [ef, sgj (by omega), sgp]
        · have w1 := hWv.2.1.1
          have hi' : i < v.2.1.1 := hi
          rw [h3.2.1 _ _ (by omega), h2.1 _ (by omega), hs.1.1 _ _ (by omega), e0 _ _ (by omega)]
          exact v2.2 i j hi hj
        · rw [ef, sgp]
        · have w1 := hWv.2.2.1
          have hi' : i < v.2.2.1 := hi
          have g : ∀ j, j < 24 → sg S3 102 j = sg (sp S 78 0 0) 107 j := fun j hj => by
            rw [h3.1 j hj, h2.2.1 _ _ (by omega), hs.1.1 _ _ (by omega), e0 _ _ (by omega)]
          rw [g _ (by omega), g _ (by omega), g _ (by omega)]
          exact v3.2 i hi
        · rw [h3.2.2, h2.2.2, hs.1.2]
          exact k3.2.2.1
        · unfold lg
          rw [h3.2.2, h2.2.2, hs.1.2]
          exact k3.2.2.2
      · intro n i s hi hs ih
        show Rn (b_X10_restore_32 N (n + 1) 78 (nI i) s) _
        unfold b_X10_restore_32
        rw [l80, leF (by omega) (by omega), r78_46, r78_64, n96, n105, inbT (by omega) (by decide), inbT (by omega) (by decide), nIc (by omega), nI1]
        refine ih _ ⟨Fm_sp hs.1 ⟨rfl, by omega⟩, fun j hj => ?_⟩
        by_cases y : j = i
        · subst y
          rw [sgp, hs.1.1 _ _ (by omega)]
          exact e0 _ _ (by omega)
        · rw [sgj y]
          exact hs.2 j (by omega)
end
