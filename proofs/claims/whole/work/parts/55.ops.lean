/-! questions, both sides: written by gops.py -/
section
variable {N : Nat} {S : am_S} {x : Int32}
theorem g_w1 : (vR x 0 1 → f_X9_needWhat N x 1 S = some (.inl 0, S)) ∧ (¬ vR x 0 1 → f_X9_needWhat N x 1 S = some (.inr 0, S)) := g_what (m := 1)
theorem g_w2 : (vR x 0 2 → f_X9_needWhat N x 2 S = some (.inl 0, S)) ∧ (¬ vR x 0 2 → f_X9_needWhat N x 2 S = some (.inr 0, S)) := g_what (m := 2)
theorem g_w4 : (vR x 0 4 → f_X9_needWhat N x 4 S = some (.inl 0, S)) ∧ (¬ vR x 0 4 → f_X9_needWhat N x 4 S = some (.inr 0, S)) := g_what (m := 4)
theorem h_w1 (h0 : sg S 78 0 = 0) : (vR x 0 1 → f_X10_isWhat N 78 x 1 S = some (1, S)) ∧ (¬ vR x 0 1 → f_X10_isWhat N 78 x 1 S = some (0, sp S 78 0 1)) := h_what (m := 1) h0
theorem h_w2 (h0 : sg S 78 0 = 0) : (vR x 0 2 → f_X10_isWhat N 78 x 2 S = some (1, S)) ∧ (¬ vR x 0 2 → f_X10_isWhat N 78 x 2 S = some (0, sp S 78 0 1)) := h_what (m := 2) h0
theorem h_w4 (h0 : sg S 78 0 = 0) : (vR x 0 4 → f_X10_isWhat N 78 x 4 S = some (1, S)) ∧ (¬ vR x 0 4 → f_X10_isWhat N 78 x 4 S = some (0, sp S 78 0 1)) := h_what (m := 4) h0
theorem h_w7 (h0 : sg S 78 0 = 0) : (vR x 0 7 → f_X10_isWhat N 78 x 7 S = some (1, S)) ∧ (¬ vR x 0 7 → f_X10_isWhat N 78 x 7 S = some (0, sp S 78 0 1)) := h_what (m := 7) h0
theorem g_r_0_40 : (vR x 0 40 → f_X9_needRange N x 0 40 S = some (.inl 0, S)) ∧ (¬ vR x 0 40 → f_X9_needRange N x 0 40 S = some (.inr 1, S)) := g_range (a := 0) (m := 40)
theorem h_in_0_40 : (vR x 0 40 → f_X10_within N x 0 40 S = some (1, S)) ∧ (¬ vR x 0 40 → f_X10_within N x 0 40 S = some (0, S)) := ⟨fun h => (h_within (a := 0) (b := 40)).trans (by rw [if_pos (show ¬ x < nI 0 ∧ x ≤ nI 40 from h)]), fun h => (h_within (a := 0) (b := 40)).trans (by rw [if_neg (show ¬ (¬ x < nI 0 ∧ x ≤ nI 40) from h)])⟩
theorem g_r_1_40 : (vR x 1 40 → f_X9_needRange N x 1 40 S = some (.inl 0, S)) ∧ (¬ vR x 1 40 → f_X9_needRange N x 1 40 S = some (.inr 1, S)) := g_range (a := 1) (m := 40)
theorem h_in_1_40 : (vR x 1 40 → f_X10_within N x 1 40 S = some (1, S)) ∧ (¬ vR x 1 40 → f_X10_within N x 1 40 S = some (0, S)) := ⟨fun h => (h_within (a := 1) (b := 40)).trans (by rw [if_pos (show ¬ x < nI 1 ∧ x ≤ nI 40 from h)]), fun h => (h_within (a := 1) (b := 40)).trans (by rw [if_neg (show ¬ (¬ x < nI 1 ∧ x ≤ nI 40) from h)])⟩
theorem g_r_1_792 : (vR x 1 792 → f_X9_needRange N x 1 792 S = some (.inl 0, S)) ∧ (¬ vR x 1 792 → f_X9_needRange N x 1 792 S = some (.inr 1, S)) := g_range (a := 1) (m := 792)
theorem h_in_1_792 : (vR x 1 792 → f_X10_within N x 1 792 S = some (1, S)) ∧ (¬ vR x 1 792 → f_X10_within N x 1 792 S = some (0, S)) := ⟨fun h => (h_within (a := 1) (b := 792)).trans (by rw [if_pos (show ¬ x < nI 1 ∧ x ≤ nI 792 from h)]), fun h => (h_within (a := 1) (b := 792)).trans (by rw [if_neg (show ¬ (¬ x < nI 1 ∧ x ≤ nI 792) from h)])⟩
theorem g_r_0_99 : (vR x 0 99 → f_X9_needRange N x 0 99 S = some (.inl 0, S)) ∧ (¬ vR x 0 99 → f_X9_needRange N x 0 99 S = some (.inr 1, S)) := g_range (a := 0) (m := 99)
theorem h_in_0_99 : (vR x 0 99 → f_X10_within N x 0 99 S = some (1, S)) ∧ (¬ vR x 0 99 → f_X10_within N x 0 99 S = some (0, S)) := ⟨fun h => (h_within (a := 0) (b := 99)).trans (by rw [if_pos (show ¬ x < nI 0 ∧ x ≤ nI 99 from h)]), fun h => (h_within (a := 0) (b := 99)).trans (by rw [if_neg (show ¬ (¬ x < nI 0 ∧ x ≤ nI 99) from h)])⟩
theorem g_r_1_60 : (vR x 1 60 → f_X9_needRange N x 1 60 S = some (.inl 0, S)) ∧ (¬ vR x 1 60 → f_X9_needRange N x 1 60 S = some (.inr 1, S)) := g_range (a := 1) (m := 60)
theorem h_in_1_60 : (vR x 1 60 → f_X10_within N x 1 60 S = some (1, S)) ∧ (¬ vR x 1 60 → f_X10_within N x 1 60 S = some (0, S)) := ⟨fun h => (h_within (a := 1) (b := 60)).trans (by rw [if_pos (show ¬ x < nI 1 ∧ x ≤ nI 60 from h)]), fun h => (h_within (a := 1) (b := 60)).trans (by rw [if_neg (show ¬ (¬ x < nI 1 ∧ x ≤ nI 60) from h)])⟩
theorem g_r_0_30 : (vR x 0 30 → f_X9_needRange N x 0 30 S = some (.inl 0, S)) ∧ (¬ vR x 0 30 → f_X9_needRange N x 0 30 S = some (.inr 1, S)) := g_range (a := 0) (m := 30)
theorem h_in_0_30 : (vR x 0 30 → f_X10_within N x 0 30 S = some (1, S)) ∧ (¬ vR x 0 30 → f_X10_within N x 0 30 S = some (0, S)) := ⟨fun h => (h_within (a := 0) (b := 30)).trans (by rw [if_pos (show ¬ x < nI 0 ∧ x ≤ nI 30 from h)]), fun h => (h_within (a := 0) (b := 30)).trans (by rw [if_neg (show ¬ (¬ x < nI 0 ∧ x ≤ nI 30) from h)])⟩
theorem g_r_0_9999 : (vR x 0 9999 → f_X9_needRange N x 0 9999 S = some (.inl 0, S)) ∧ (¬ vR x 0 9999 → f_X9_needRange N x 0 9999 S = some (.inr 1, S)) := g_range (a := 0) (m := 9999)
theorem h_in_0_9999 : (vR x 0 9999 → f_X10_within N x 0 9999 S = some (1, S)) ∧ (¬ vR x 0 9999 → f_X10_within N x 0 9999 S = some (0, S)) := ⟨fun h => (h_within (a := 0) (b := 9999)).trans (by rw [if_pos (show ¬ x < nI 0 ∧ x ≤ nI 9999 from h)]), fun h => (h_within (a := 0) (b := 9999)).trans (by rw [if_neg (show ¬ (¬ x < nI 0 ∧ x ≤ nI 9999) from h)])⟩
theorem g_r_1_5 : (vR x 1 5 → f_X9_needRange N x 1 5 S = some (.inl 0, S)) ∧ (¬ vR x 1 5 → f_X9_needRange N x 1 5 S = some (.inr 1, S)) := g_range (a := 1) (m := 5)
theorem h_in_1_5 : (vR x 1 5 → f_X10_within N x 1 5 S = some (1, S)) ∧ (¬ vR x 1 5 → f_X10_within N x 1 5 S = some (0, S)) := ⟨fun h => (h_within (a := 1) (b := 5)).trans (by rw [if_pos (show ¬ x < nI 1 ∧ x ≤ nI 5 from h)]), fun h => (h_within (a := 1) (b := 5)).trans (by rw [if_neg (show ¬ (¬ x < nI 1 ∧ x ≤ nI 5) from h)])⟩
theorem g_r_0_10 : (vR x 0 10 → f_X9_needRange N x 0 10 S = some (.inl 0, S)) ∧ (¬ vR x 0 10 → f_X9_needRange N x 0 10 S = some (.inr 1, S)) := g_range (a := 0) (m := 10)
theorem h_in_0_10 : (vR x 0 10 → f_X10_within N x 0 10 S = some (1, S)) ∧ (¬ vR x 0 10 → f_X10_within N x 0 10 S = some (0, S)) := ⟨fun h => (h_within (a := 0) (b := 10)).trans (by rw [if_pos (show ¬ x < nI 0 ∧ x ≤ nI 10 from h)]), fun h => (h_within (a := 0) (b := 10)).trans (by rw [if_neg (show ¬ (¬ x < nI 0 ∧ x ≤ nI 10) from h)])⟩
theorem g_r_0_15 : (vR x 0 15 → f_X9_needRange N x 0 15 S = some (.inl 0, S)) ∧ (¬ vR x 0 15 → f_X9_needRange N x 0 15 S = some (.inr 1, S)) := g_range (a := 0) (m := 15)
theorem h_in_0_15 : (vR x 0 15 → f_X10_within N x 0 15 S = some (1, S)) ∧ (¬ vR x 0 15 → f_X10_within N x 0 15 S = some (0, S)) := ⟨fun h => (h_within (a := 0) (b := 15)).trans (by rw [if_pos (show ¬ x < nI 0 ∧ x ≤ nI 15 from h)]), fun h => (h_within (a := 0) (b := 15)).trans (by rw [if_neg (show ¬ (¬ x < nI 0 ∧ x ≤ nI 15) from h)])⟩
theorem g_r_0_20 : (vR x 0 20 → f_X9_needRange N x 0 20 S = some (.inl 0, S)) ∧ (¬ vR x 0 20 → f_X9_needRange N x 0 20 S = some (.inr 1, S)) := g_range (a := 0) (m := 20)
theorem h_in_0_20 : (vR x 0 20 → f_X10_within N x 0 20 S = some (1, S)) ∧ (¬ vR x 0 20 → f_X10_within N x 0 20 S = some (0, S)) := ⟨fun h => (h_within (a := 0) (b := 20)).trans (by rw [if_pos (show ¬ x < nI 0 ∧ x ≤ nI 20 from h)]), fun h => (h_within (a := 0) (b := 20)).trans (by rw [if_neg (show ¬ (¬ x < nI 0 ∧ x ≤ nI 20) from h)])⟩
theorem g_r_1_20 : (vR x 1 20 → f_X9_needRange N x 1 20 S = some (.inl 0, S)) ∧ (¬ vR x 1 20 → f_X9_needRange N x 1 20 S = some (.inr 1, S)) := g_range (a := 1) (m := 20)
theorem h_in_1_20 : (vR x 1 20 → f_X10_within N x 1 20 S = some (1, S)) ∧ (¬ vR x 1 20 → f_X10_within N x 1 20 S = some (0, S)) := ⟨fun h => (h_within (a := 1) (b := 20)).trans (by rw [if_pos (show ¬ x < nI 1 ∧ x ≤ nI 20 from h)]), fun h => (h_within (a := 1) (b := 20)).trans (by rw [if_neg (show ¬ (¬ x < nI 1 ∧ x ≤ nI 20) from h)])⟩
theorem h_d_0_1 (h0 : sg S 78 0 = 0) : (vR x 0 40 → f_X10_isDays N 78 x 0 1 S = some (1, S)) ∧ (¬ vR x 0 40 → f_X10_isDays N 78 x 0 1 S = some (0, sp S 78 0 1)) := h_days (a := 0) (e := 1) h0 (by omega)
theorem h_d_0_2 (h0 : sg S 78 0 = 0) : (vR x 0 40 → f_X10_isDays N 78 x 0 2 S = some (1, S)) ∧ (¬ vR x 0 40 → f_X10_isDays N 78 x 0 2 S = some (0, sp S 78 0 2)) := h_days (a := 0) (e := 2) h0 (by omega)
theorem h_d_1_1 (h0 : sg S 78 0 = 0) : (vR x 1 40 → f_X10_isDays N 78 x 1 1 S = some (1, S)) ∧ (¬ vR x 1 40 → f_X10_isDays N 78 x 1 1 S = some (0, sp S 78 0 1)) := h_days (a := 1) (e := 1) h0 (by omega)
theorem h_d_1_2 (h0 : sg S 78 0 = 0) : (vR x 1 40 → f_X10_isDays N 78 x 1 2 S = some (1, S)) ∧ (¬ vR x 1 40 → f_X10_isDays N 78 x 1 2 S = some (0, sp S 78 0 2)) := h_days (a := 1) (e := 2) h0 (by omega)
theorem thr_m {S' : am_S} (k2 : sg S 78 0 = 0) (h : Fm (mW 80) S S') : sg S' 78 0 = 0 := (h.1 _ _ (by unfold mW; omega)).trans k2
theorem thr_r {S' : am_S} (k2 : sg S 78 0 = 0) (h : Fm (mR 80) S S') : sg S' 78 0 = 0 := (h.1 _ _ (by unfold mR; omega)).trans k2
end

theorem m_heldIn0 {N x : Nat} {c : Cy} {S : am_S} {r : Nat → Int32} (hN : 10000 ≤ N) (hI : CI c) (hn : sg S 78 2 = nI (cnp c)) (hR : RM S 0 (72 + cnp c) r) (hRI : RI c r) (hx : x < 6) : f_X10_heldIn N 78 0 (nI x) S = some (hIn r x, S) := m_heldIn (b := 0) hN (by omega) hI hn hR hRI hx
section
variable {N t : Nat} {c : Cy} {r : Rw}
theorem j_box {x w : Int32} (hN : 10000 ≤ N) (hI : CI c) (hW : WR c r) : Jq t c r (f_X9_box N 0 x w) (f_X10_box N 78 x w) cd2 := by
  have hnb := hI.1.1
  have hnp := hI.1.2
  obtain ⟨hRI, d, hd, hd0⟩ := hW
  by_cases h1 : vB x (cnb c)
  · by_cases h2 : vR w 0 4
    · obtain ⟨xi, hx, ex⟩ := vB_n h1 (by omega)
      obtain ⟨wi, -, hw, ew⟩ := vR_n h2 (by omega) (by omega)
      have hv : wi = 0 ∨ wi = 1 ∨ wi = 2 ∨ wi = 3 ∨ wi = 4 := by omega
      rcases hv with hv | hv | hv | hv | hv
      · subst hv
        refine ⟨.inl (cba c xi), fun S hK => ?_, fun S hK => ?_⟩
        · unfold f_X9_box
          rw [(g_box hK.1 hK.2.1).1 h1, bt_inl]
          rw [ex, ew, if_pos (by decide)]
          obtain ⟨⟨t1, t2, -, -⟩, -⟩ := hK.1.2.1
          rw [g_isC hK.1, hK.1.1, t1, t2, inbT (by omega) (by decide), nIc (by omega), hK.2.1.2.1.1 xi hx]
          exact Rn_ret ⟨rfl, Fm_rf _ _⟩
        · obtain ⟨k1, k2, k3⟩ := KM_0 hK hnp
          unfold f_X10_box b_X10_box_22 b_X10_box_85
          rw [(h_box k2 k1.1.1.1).1 h1, bd_some, if_neg (by decide), (h_w4 k2).1 h2, bd_some, if_neg (by decide)]
          rw [ex, ew, if_pos (by decide)]
          rw [r78_7, n79, inbT (by omega) (by decide), nIc (by omega), k1.1.2.1.1 xi hx]
          exact Rn_ret ⟨⟨rfl, k2⟩, k3⟩
      · subst hv
        refine ⟨.inl (r (2 + xi)), fun S hK => ?_, fun S hK => ?_⟩
        · unfold f_X9_box
          rw [(g_box hK.1 hK.2.1).1 h1, bt_inl]
          rw [ex, ew, if_neg (by decide), if_pos (by decide)]
          rw [r0_7, c_redOf Sk40.1 (by omega) (by omega) hK.2.2, bd_some]
          exact Rn_ret ⟨rfl, Fm_rf _ _⟩
        · obtain ⟨k1, k2, k3⟩ := KM_0 hK hnp
          unfold f_X10_box b_X10_box_22 b_X10_box_85
          rw [(h_box k2 k1.1.1.1).1 h1, bd_some, if_neg (by decide), (h_w4 k2).1 h2, bd_some, if_neg (by decide)]
          rw [ex, ew, if_neg (by decide), if_pos (by decide)]
          have e3 : ∀ j, j < 72 + cnp c → sg (sp S 78 0 0) 96 j = r j := fun j hj => by rw [← k1.2.2 j hj, Nat.zero_add]
          rw [r78_46, n96, l2, nIa, inbT (by omega) (by decide), nIc (by omega), e3 _ (by omega)]
          exact Rn_ret ⟨⟨rfl, k2⟩, k3⟩
      · subst hv
        refine ⟨.inl (hIn r xi), fun S hK => ?_, fun S hK => ?_⟩
        · unfold f_X9_box
          rw [(g_box hK.1 hK.2.1).1 h1, bt_inl]
          rw [ex, ew, if_neg (by decide), if_neg (by decide), if_pos (by decide)]
          rw [r0_7, r_held hI hN Sk40 hK.2.2 hx, bd_some]
          exact Rn_ret ⟨rfl, Fm_rf _ _⟩
        · obtain ⟨k1, k2, k3⟩ := KM_0 hK hnp
          unfold f_X10_box b_X10_box_22 b_X10_box_85
          rw [(h_box k2 k1.1.1.1).1 h1, bd_some, if_neg (by decide), (h_w4 k2).1 h2, bd_some, if_neg (by decide)]
          rw [ex, ew, if_neg (by decide), if_neg (by decide), if_pos (by decide)]
          rw [m_heldIn0 hN hI k1.1.1.2 k1.2.2 hRI (by omega), bd_some]
          exact Rn_ret ⟨⟨rfl, k2⟩, k3⟩
      · subst hv
        refine ⟨.inl (near_ c (nI xi)), fun S hK => ?_, fun S hK => ?_⟩
        · unfold f_X9_box
          rw [(g_box hK.1 hK.2.1).1 h1, bt_inl]
          rw [ex, ew, if_neg (by decide), if_neg (by decide), if_neg (by decide), if_pos (by decide)]
          rw [g_isC hK.1, hK.1.1, c_near hN hI hK.1.2.1 hK.2.1, bd_some]
          exact Rn_ret ⟨rfl, Fm_rf _ _⟩
        · obtain ⟨k1, k2, k3⟩ := KM_0 hK hnp
          unfold f_X10_box b_X10_box_22 b_X10_box_85
          rw [(h_box k2 k1.1.1.1).1 h1, bd_some, if_neg (by decide), (h_w4 k2).1 h2, bd_some, if_neg (by decide)]
          rw [ex, ew, if_neg (by decide), if_neg (by decide), if_neg (by decide), if_pos (by decide)]
          rw [m_near hN hI k1.1, bd_some]
          exact Rn_ret ⟨⟨rfl, k2⟩, k3⟩
      · subst hv
        refine ⟨.inl (far_ c xi), fun S hK => ?_, fun S hK => ?_⟩
        · unfold f_X9_box
          rw [(g_box hK.1 hK.2.1).1 h1, bt_inl]
          rw [ex, ew, if_neg (by decide), if_neg (by decide), if_neg (by decide), if_neg (by decide), if_pos (by decide)]
          rw [g_isC hK.1, hK.1.1, c_far hN hI hK.1.2.1 hK.2.1 hx, bd_some]
          exact Rn_ret ⟨rfl, Fm_rf _ _⟩
        · obtain ⟨k1, k2, k3⟩ := KM_0 hK hnp
          unfold f_X10_box b_X10_box_22 b_X10_box_85
          rw [(h_box k2 k1.1.1.1).1 h1, bd_some, if_neg (by decide), (h_w4 k2).1 h2, bd_some, if_neg (by decide)]
          rw [ex, ew, if_neg (by decide), if_neg (by decide), if_neg (by decide), if_neg (by decide)]
          rw [m_far hN hI k1.1 hx, bd_some]
          exact Rn_ret ⟨⟨rfl, k2⟩, k3⟩
    · refine ⟨.inr 0, fun S hK => ?_, fun S hK => ?_⟩
      · unfold f_X9_box
        rw [(g_box hK.1 hK.2.1).1 h1, bt_inl, if_neg (fun z => h2 (by rw [z]; exact ⟨by decide, by decide⟩)), if_neg (fun z => h2 (by rw [z]; exact ⟨by decide, by decide⟩)), if_neg (fun z => h2 (by rw [z]; exact ⟨by decide, by decide⟩)), if_neg (fun z => h2 (by rw [z]; exact ⟨by decide, by decide⟩)), if_neg (fun z => h2 (by rw [z]; exact ⟨by decide, by decide⟩))]
        exact Rn_ret ⟨rfl, Fm_rf _ _⟩
      · obtain ⟨k1, k2, k3⟩ := KM_0 hK hnp
        unfold f_X10_box b_X10_box_22 b_X10_box_85
        rw [(h_box k2 k1.1.1.1).1 h1, bd_some, if_neg (by decide), (h_w4 k2).2 h2, bd_some, if_pos rfl]
        exact Rn_ret ⟨sgp _ _ _ _, q_thr k3⟩
  · refine ⟨.inr 0, fun S hK => ?_, fun S hK => ?_⟩
    · unfold f_X9_box
      rw [(g_box hK.1 hK.2.1).2 h1, bt_inr]
      exact Rn_ret ⟨rfl, Fm_rf _ _⟩
    · obtain ⟨k1, k2, k3⟩ := KM_0 hK hnp
      unfold f_X10_box b_X10_box_22 b_X10_box_85
      rw [(h_box k2 k1.1.1.1).2 h1, bd_some, if_pos rfl]
      exact Rn_ret ⟨sgp _ _ _ _, q_thr k3⟩

theorem j_person {x w : Int32} (hN : 10000 ≤ N) (hI : CI c) (hW : WR c r) : Jq t c r (f_X9_person N 0 x w) (f_X10_person N 78 x w) cd2 := by
  have hnb := hI.1.1
  have hnp := hI.1.2
  obtain ⟨hRI, d, hd, hd0⟩ := hW
  by_cases h1 : vB x (cnp c)
  · by_cases h2 : vR w 0 7
    · obtain ⟨xi, hx, ex⟩ := vB_n h1 (by omega)
      obtain ⟨wi, -, hw, ew⟩ := vR_n h2 (by omega) (by omega)
      have hv : wi = 0 ∨ wi = 1 ∨ wi = 2 ∨ wi = 3 ∨ wi = 4 ∨ wi = 5 ∨ wi = 6 ∨ wi = 7 := by omega
      rcases hv with hv | hv | hv | hv | hv | hv | hv | hv
      · subst hv
        refine ⟨.inl (cpa c xi), fun S hK => ?_, fun S hK => ?_⟩
        · unfold f_X9_person
          rw [(g_person hK.1 hK.2.1).1 h1, bt_inl]
          rw [ex, ew, if_pos (by decide)]
          obtain ⟨-, ⟨t3, t4, t5, t6, -⟩, -⟩ := hK.1.2.1
          rw [g_isC hK.1, hK.1.1, t3, t4, inbT (by omega) (by decide), nIc (by omega), hK.2.1.2.1.2.1 xi hx]
          exact Rn_ret ⟨rfl, Fm_rf _ _⟩
        · obtain ⟨k1, k2, k3⟩ := KM_0 hK hnp
          unfold f_X10_person b_X10_person_23 b_X10_person_152
          rw [(h_person k2 k1.1.1.2).1 h1, bd_some, if_neg (by decide), (h_w7 k2).1 h2, bd_some, if_neg (by decide)]
          rw [ex, ew, if_pos (by decide)]
          rw [r78_8, n80, inbT (by omega) (by decide), nIc (by omega), k1.1.2.1.2.1 xi hx]
          exact Rn_ret ⟨⟨rfl, k2⟩, k3⟩
      · subst hv
        refine ⟨.inl (cpe c xi), fun S hK => ?_, fun S hK => ?_⟩
        · unfold f_X9_person
          rw [(g_person hK.1 hK.2.1).1 h1, bt_inl]
          rw [ex, ew, if_neg (by decide), if_pos (by decide)]
          obtain ⟨-, ⟨t3, t4, t5, t6, -⟩, -⟩ := hK.1.2.1
          rw [g_isC hK.1, hK.1.1, t5, t6, inbT (by omega) (by decide), nIc (by omega), hK.2.1.2.1.2.2.1 xi hx]
          exact Rn_ret ⟨rfl, Fm_rf _ _⟩
        · obtain ⟨k1, k2, k3⟩ := KM_0 hK hnp
          unfold f_X10_person b_X10_person_23 b_X10_person_152
          rw [(h_person k2 k1.1.1.2).1 h1, bd_some, if_neg (by decide), (h_w7 k2).1 h2, bd_some, if_neg (by decide)]
          rw [ex, ew, if_neg (by decide), if_pos (by decide)]
          rw [r78_9, n81, inbT (by omega) (by decide), nIc (by omega), k1.1.2.1.2.2 xi hx]
          exact Rn_ret ⟨⟨rfl, k2⟩, k3⟩
      · subst hv
        refine ⟨.inl (r (72 + xi)), fun S hK => ?_, fun S hK => ?_⟩
        · unfold f_X9_person
          rw [(g_person hK.1 hK.2.1).1 h1, bt_inl]
          rw [ex, ew, if_neg (by decide), if_neg (by decide), if_pos (by decide)]
          rw [r0_7, r_at hI Sk40 hK.2.2 hx, bd_some]
          exact Rn_ret ⟨rfl, Fm_rf _ _⟩
        · obtain ⟨k1, k2, k3⟩ := KM_0 hK hnp
          unfold f_X10_person b_X10_person_23 b_X10_person_152
          rw [(h_person k2 k1.1.1.2).1 h1, bd_some, if_neg (by decide), (h_w7 k2).1 h2, bd_some, if_neg (by decide)]
          rw [ex, ew, if_neg (by decide), if_neg (by decide), if_pos (by decide)]
          have e3 : ∀ j, j < 72 + cnp c → sg (sp S 78 0 0) 96 j = r j := fun j hj => by rw [← k1.2.2 j hj, Nat.zero_add]
          rw [r78_46, n96, l72, nIa, inbT (by omega) (by decide), nIc (by omega), e3 _ (by omega)]
          exact Rn_ret ⟨⟨rfl, k2⟩, k3⟩
      · subst hv
        refine ⟨.inl (r (56 + xi)), fun S hK => ?_, fun S hK => ?_⟩
        · unfold f_X9_person
          rw [(g_person hK.1 hK.2.1).1 h1, bt_inl]
          rw [ex, ew, if_neg (by decide), if_neg (by decide), if_neg (by decide), if_pos (by decide)]
          rw [r0_7, r_regret hI Sk40 hK.2.2 hx, bd_some]
          exact Rn_ret ⟨rfl, Fm_rf _ _⟩
        · obtain ⟨k1, k2, k3⟩ := KM_0 hK hnp
          unfold f_X10_person b_X10_person_23 b_X10_person_152
          rw [(h_person k2 k1.1.1.2).1 h1, bd_some, if_neg (by decide), (h_w7 k2).1 h2, bd_some, if_neg (by decide)]
          rw [ex, ew, if_neg (by decide), if_neg (by decide), if_neg (by decide), if_pos (by decide)]
          have e3 : ∀ j, j < 72 + cnp c → sg (sp S 78 0 0) 96 j = r j := fun j hj => by rw [← k1.2.2 j hj, Nat.zero_add]
          rw [r78_46, n96, l56, nIa, inbT (by omega) (by decide), nIc (by omega), e3 _ (by omega)]
          exact Rn_ret ⟨⟨rfl, k2⟩, k3⟩
      · subst hv
        refine ⟨.inl (r (64 + xi)), fun S hK => ?_, fun S hK => ?_⟩
        · unfold f_X9_person
          rw [(g_person hK.1 hK.2.1).1 h1, bt_inl]
          rw [ex, ew, if_neg (by decide), if_neg (by decide), if_neg (by decide), if_neg (by decide), if_pos (by decide)]
          rw [r0_7, r_heard hI Sk40 hK.2.2 hx, bd_some]
          exact Rn_ret ⟨rfl, Fm_rf _ _⟩
        · obtain ⟨k1, k2, k3⟩ := KM_0 hK hnp
          unfold f_X10_person b_X10_person_23 b_X10_person_152
          rw [(h_person k2 k1.1.1.2).1 h1, bd_some, if_neg (by decide), (h_w7 k2).1 h2, bd_some, if_neg (by decide)]
          rw [ex, ew, if_neg (by decide), if_neg (by decide), if_neg (by decide), if_neg (by decide), if_pos (by decide)]
          have e3 : ∀ j, j < 72 + cnp c → sg (sp S 78 0 0) 96 j = r j := fun j hj => by rw [← k1.2.2 j hj, Nat.zero_add]
          rw [r78_46, n96, l64, nIa, inbT (by omega) (by decide), nIc (by omega), e3 _ (by omega)]
          exact Rn_ret ⟨⟨rfl, k2⟩, k3⟩
      · subst hv
        refine ⟨.inl (cne c xi), fun S hK => ?_, fun S hK => ?_⟩
        · unfold f_X9_person
          rw [(g_person hK.1 hK.2.1).1 h1, bt_inl]
          rw [ex, ew, if_neg (by decide), if_neg (by decide), if_neg (by decide), if_neg (by decide), if_neg (by decide), if_pos (by decide)]
          obtain ⟨-, ⟨-, -, -, -, -, -, t5, t6⟩, -⟩ := hK.1.2.1
          rw [g_isC hK.1, hK.1.1, t5, t6, inbT (by omega) (by decide), nIc (by omega), hK.2.1.2.1.2.2.2 xi hx]
          exact Rn_ret ⟨rfl, Fm_rf _ _⟩
        · obtain ⟨k1, k2, k3⟩ := KM_0 hK hnp
          unfold f_X10_person b_X10_person_23 b_X10_person_152
          rw [(h_person k2 k1.1.1.2).1 h1, bd_some, if_neg (by decide), (h_w7 k2).1 h2, bd_some, if_neg (by decide)]
          rw [ex, ew, if_neg (by decide), if_neg (by decide), if_neg (by decide), if_neg (by decide), if_neg (by decide), if_pos (by decide)]
          rw [m_boxOf hN hI k1.1 hx, bd_some]
          exact Rn_ret ⟨⟨rfl, k2⟩, k3⟩
      · subst hv
        refine ⟨.inl (fans c r (nI xi)), fun S hK => ?_, fun S hK => ?_⟩
        · unfold f_X9_person
          rw [(g_person hK.1 hK.2.1).1 h1, bt_inl]
          rw [ex, ew, if_neg (by decide), if_neg (by decide), if_neg (by decide), if_neg (by decide), if_neg (by decide), if_neg (by decide), if_pos (by decide)]
          rw [g_isC hK.1, hK.1.1, r0_7, c_fans hN hI hK.1.2.1 Sk40 hK.2.1 hK.2.2, bd_some]
          exact Rn_ret ⟨rfl, Fm_rf _ _⟩
        · obtain ⟨k1, k2, k3⟩ := KM_0 hK hnp
          unfold f_X10_person b_X10_person_23 b_X10_person_152
          rw [(h_person k2 k1.1.1.2).1 h1, bd_some, if_neg (by decide), (h_w7 k2).1 h2, bd_some, if_neg (by decide)]
          rw [ex, ew, if_neg (by decide), if_neg (by decide), if_neg (by decide), if_neg (by decide), if_neg (by decide), if_neg (by decide), if_pos (by decide)]
          rw [m_fans hN hI k1.1 k1.2.2, bd_some]
          exact Rn_ret ⟨⟨rfl, k2⟩, k3⟩
      · subst hv
        refine ⟨.inl (neig c xi), fun S hK => ?_, fun S hK => ?_⟩
        · unfold f_X9_person
          rw [(g_person hK.1 hK.2.1).1 h1, bt_inl]
          rw [ex, ew, if_neg (by decide), if_neg (by decide), if_neg (by decide), if_neg (by decide), if_neg (by decide), if_neg (by decide), if_neg (by decide), if_pos (by decide)]
          rw [g_isC hK.1, hK.1.1, c_neig hN hI hK.1.2.1 hK.2.1 hx, bd_some]
          exact Rn_ret ⟨rfl, Fm_rf _ _⟩
        · obtain ⟨k1, k2, k3⟩ := KM_0 hK hnp
          unfold f_X10_person b_X10_person_23 b_X10_person_152
          rw [(h_person k2 k1.1.1.2).1 h1, bd_some, if_neg (by decide), (h_w7 k2).1 h2, bd_some, if_neg (by decide)]
          rw [ex, ew, if_neg (by decide), if_neg (by decide), if_neg (by decide), if_neg (by decide), if_neg (by decide), if_neg (by decide), if_neg (by decide)]
          rw [m_boxOf hN hI k1.1 hx, bd_some]
          unfold neig
          by_cases z : cne c xi = -1
          · rw [if_pos z, if_pos z]
            exact Rn_ret ⟨⟨rfl, k2⟩, k3⟩
          · rw [if_neg z, if_neg z, m_boxOf hN hI k1.1 hx, bd_some, m_near hN hI k1.1, bd_some]
            exact Rn_ret ⟨⟨rfl, k2⟩, k3⟩
    · refine ⟨.inr 0, fun S hK => ?_, fun S hK => ?_⟩
      · unfold f_X9_person
        rw [(g_person hK.1 hK.2.1).1 h1, bt_inl, if_neg (fun z => h2 (by rw [z]; exact ⟨by decide, by decide⟩)), if_neg (fun z => h2 (by rw [z]; exact ⟨by decide, by decide⟩)), if_neg (fun z => h2 (by rw [z]; exact ⟨by decide, by decide⟩)), if_neg (fun z => h2 (by rw [z]; exact ⟨by decide, by decide⟩)), if_neg (fun z => h2 (by rw [z]; exact ⟨by decide, by decide⟩)), if_neg (fun z => h2 (by rw [z]; exact ⟨by decide, by decide⟩)), if_neg (fun z => h2 (by rw [z]; exact ⟨by decide, by decide⟩)), if_neg (fun z => h2 (by rw [z]; exact ⟨by decide, by decide⟩))]
        exact Rn_ret ⟨rfl, Fm_rf _ _⟩
      · obtain ⟨k1, k2, k3⟩ := KM_0 hK hnp
        unfold f_X10_person b_X10_person_23 b_X10_person_152
        rw [(h_person k2 k1.1.1.2).1 h1, bd_some, if_neg (by decide), (h_w7 k2).2 h2, bd_some, if_pos rfl]
        exact Rn_ret ⟨sgp _ _ _ _, q_thr k3⟩
  · refine ⟨.inr 0, fun S hK => ?_, fun S hK => ?_⟩
    · unfold f_X9_person
      rw [(g_person hK.1 hK.2.1).2 h1, bt_inr]
      exact Rn_ret ⟨rfl, Fm_rf _ _⟩
    · obtain ⟨k1, k2, k3⟩ := KM_0 hK hnp
      unfold f_X10_person b_X10_person_23 b_X10_person_152
      rw [(h_person k2 k1.1.1.2).2 h1, bd_some, if_pos rfl]
      exact Rn_ret ⟨sgp _ _ _ _, q_thr k3⟩

theorem j_then {x n w : Int32} (hN : 10000 ≤ N) (hI : CI c) (hW : WR c r) : Jq t c r (f_X9_then N 0 x n w) (f_X10_then N 78 x n w) cd2 := by
  have hnb := hI.1.1
  have hnp := hI.1.2
  obtain ⟨hRI, d, hd, hd0⟩ := hW
  by_cases h1 : vB x (cnb c)
  · by_cases h2 : vR w 0 1
    · by_cases h3 : vR n 0 40
      · obtain ⟨xi, hx, ex⟩ := vB_n h1 (by omega)
        obtain ⟨wi, -, hw, ew⟩ := vR_n h2 (by omega) (by omega)
        obtain ⟨ni, hn0, hn, en⟩ := vR_n h3 (by omega) (by omega)
        obtain ⟨i1, i2, -, -⟩ := dys_in hI hRI hd0 ni (by omega)
        have hv : wi = 0 ∨ wi = 1 := by omega
        rcases hv with hv | hv
        · subst hv
          refine ⟨.inl (hIn (dys c d r ni) xi), fun S hK => ?_, fun S hK => ?_⟩
          · unfold f_X9_then b_X9_then_46
            rw [(g_box hK.1 hK.2.1).1 h1, bt_inl, g_w1.1 h2, bt_inl, g_r_0_40.1 h3, bt_inl]
            rw [ex, en, ew]
            refine Rn_bd (Rn_mono (c_lookAhead hN hI hK hRI hd0 (by omega)) (fun q h => ?_))
            rw [if_pos (by decide), r0_8, r_held hI hN Sk42 h.2.2.1 hx, bd_some]
            exact Rn_ret ⟨rfl, h.2.2.2⟩
          · obtain ⟨k1, k2, k3⟩ := KM_0 hK hnp
            unfold f_X10_then b_X10_then_32 b_X10_then_62
            rw [(h_box k2 k1.1.1.1).1 h1, bd_some, if_neg (by decide), (h_w1 k2).1 h2, bd_some, if_neg (by decide), (h_d_0_2 k2).1 h3, bd_some, if_neg (by decide)]
            rw [ex, en, ew]
            refine Rn_bv (Rn_mono (m_goesTo hN hI k1 hRI hd0 (by omega)) (fun S1 h => ?_))
            rw [if_pos (by decide), l80, m_heldIn hN (by omega) hI (CM_m k1.1 h.2).1.2 h.1 i1 (by omega), bd_some]
            exact Rn_ret ⟨⟨rfl, thr_m k2 h.2⟩, Fm_tr k3 (q_mW h.2)⟩
        · subst hv
          refine ⟨.inl (dys c d r ni (2 + xi)), fun S hK => ?_, fun S hK => ?_⟩
          · unfold f_X9_then b_X9_then_46
            rw [(g_box hK.1 hK.2.1).1 h1, bt_inl, g_w1.1 h2, bt_inl, g_r_0_40.1 h3, bt_inl]
            rw [ex, en, ew]
            refine Rn_bd (Rn_mono (c_lookAhead hN hI hK hRI hd0 (by omega)) (fun q h => ?_))
            rw [if_neg (by decide), r0_8, c_redOf Sk42.1 (by omega) (by omega) h.2.2.1, bd_some]
            exact Rn_ret ⟨rfl, h.2.2.2⟩
          · obtain ⟨k1, k2, k3⟩ := KM_0 hK hnp
            unfold f_X10_then b_X10_then_32 b_X10_then_62
            rw [(h_box k2 k1.1.1.1).1 h1, bd_some, if_neg (by decide), (h_w1 k2).1 h2, bd_some, if_neg (by decide), (h_d_0_2 k2).1 h3, bd_some, if_neg (by decide)]
            rw [ex, en, ew]
            refine Rn_bv (Rn_mono (m_goesTo hN hI k1 hRI hd0 (by omega)) (fun S1 h => ?_))
            have e3 : ∀ j, j < 72 + cnp c → sg S1 96 (80 + j) = dys c d r ni j := h.1
            rw [if_neg (by decide), show (82 : Int32) = nI 82 from rfl, nIa, r78_46, n96, inbT (by omega) (by decide), nIc (by omega), show 82 + xi = 80 + (2 + xi) by omega, e3 _ (by omega)]
            exact Rn_ret ⟨⟨rfl, thr_m k2 h.2⟩, Fm_tr k3 (q_mW h.2)⟩
      · refine ⟨.inr 1, fun S hK => ?_, fun S hK => ?_⟩
        · unfold f_X9_then b_X9_then_46
          rw [(g_box hK.1 hK.2.1).1 h1, bt_inl, g_w1.1 h2, bt_inl, g_r_0_40.2 h3, bt_inr]
          exact Rn_ret ⟨rfl, Fm_rf _ _⟩
        · obtain ⟨k1, k2, k3⟩ := KM_0 hK hnp
          unfold f_X10_then b_X10_then_32 b_X10_then_62
          rw [(h_box k2 k1.1.1.1).1 h1, bd_some, if_neg (by decide), (h_w1 k2).1 h2, bd_some, if_neg (by decide), (h_d_0_2 k2).2 h3, bd_some, if_pos rfl]
          exact Rn_ret ⟨sgp _ _ _ _, q_thr k3⟩
    · refine ⟨.inr 0, fun S hK => ?_, fun S hK => ?_⟩
      · unfold f_X9_then b_X9_then_46
        rw [(g_box hK.1 hK.2.1).1 h1, bt_inl, g_w1.2 h2, bt_inr]
        exact Rn_ret ⟨rfl, Fm_rf _ _⟩
      · obtain ⟨k1, k2, k3⟩ := KM_0 hK hnp
        unfold f_X10_then b_X10_then_32 b_X10_then_62
        rw [(h_box k2 k1.1.1.1).1 h1, bd_some, if_neg (by decide), (h_w1 k2).2 h2, bd_some, if_pos rfl]
        exact Rn_ret ⟨sgp _ _ _ _, q_thr k3⟩
  · refine ⟨.inr 0, fun S hK => ?_, fun S hK => ?_⟩
    · unfold f_X9_then b_X9_then_46
      rw [(g_box hK.1 hK.2.1).2 h1, bt_inr]
      exact Rn_ret ⟨rfl, Fm_rf _ _⟩
    · obtain ⟨k1, k2, k3⟩ := KM_0 hK hnp
      unfold f_X10_then b_X10_then_32 b_X10_then_62
      rw [(h_box k2 k1.1.1.1).2 h1, bd_some, if_pos rfl]
      exact Rn_ret ⟨sgp _ _ _ _, q_thr k3⟩

theorem j_later {x n w : Int32} (hN : 10000 ≤ N) (hI : CI c) (hW : WR c r) : Jq t c r (f_X9_later N 0 x n w) (f_X10_later N 78 x n w) cd2 := by
  have hnb := hI.1.1
  have hnp := hI.1.2
  obtain ⟨hRI, d, hd, hd0⟩ := hW
  by_cases h1 : vB x (cnp c)
  · by_cases h2 : vR w 0 1
    · by_cases h3 : vR n 0 40
      · obtain ⟨xi, hx, ex⟩ := vB_n h1 (by omega)
        obtain ⟨wi, -, hw, ew⟩ := vR_n h2 (by omega) (by omega)
        obtain ⟨ni, hn0, hn, en⟩ := vR_n h3 (by omega) (by omega)
        obtain ⟨i1, i2, -, -⟩ := dys_in hI hRI hd0 ni (by omega)
        have hv : wi = 0 ∨ wi = 1 := by omega
        rcases hv with hv | hv
        · subst hv
          refine ⟨.inl (dys c d r ni (56 + xi)), fun S hK => ?_, fun S hK => ?_⟩
          · unfold f_X9_later b_X9_later_46
            rw [(g_person hK.1 hK.2.1).1 h1, bt_inl, g_w1.1 h2, bt_inl, g_r_0_40.1 h3, bt_inl]
            rw [ex, en, ew]
            refine Rn_bd (Rn_mono (c_lookAhead hN hI hK hRI hd0 (by omega)) (fun q h => ?_))
            rw [if_pos (by decide), r0_8, r_regret hI Sk42 h.2.2.1 hx, bd_some]
            exact Rn_ret ⟨rfl, h.2.2.2⟩
          · obtain ⟨k1, k2, k3⟩ := KM_0 hK hnp
            unfold f_X10_later b_X10_later_32 b_X10_later_56
            rw [(h_person k2 k1.1.1.2).1 h1, bd_some, if_neg (by decide), (h_w1 k2).1 h2, bd_some, if_neg (by decide), (h_d_0_2 k2).1 h3, bd_some, if_neg (by decide)]
            rw [ex, en, ew]
            refine Rn_bv (Rn_mono (m_goesTo hN hI k1 hRI hd0 (by omega)) (fun S1 h => ?_))
            have e3 : ∀ j, j < 72 + cnp c → sg S1 96 (80 + j) = dys c d r ni j := h.1
            rw [if_pos (by decide), l80, l56, nIa, nIa, r78_46, n96, inbT (by omega) (by decide), nIc (by omega), Nat.add_assoc, e3 _ (by omega)]
            exact Rn_ret ⟨⟨rfl, thr_m k2 h.2⟩, Fm_tr k3 (q_mW h.2)⟩
        · subst hv
          refine ⟨.inl (dys c d r ni (64 + xi)), fun S hK => ?_, fun S hK => ?_⟩
          · unfold f_X9_later b_X9_later_46
            rw [(g_person hK.1 hK.2.1).1 h1, bt_inl, g_w1.1 h2, bt_inl, g_r_0_40.1 h3, bt_inl]
            rw [ex, en, ew]
            refine Rn_bd (Rn_mono (c_lookAhead hN hI hK hRI hd0 (by omega)) (fun q h => ?_))
            rw [if_neg (by decide), r0_8, r_heard hI Sk42 h.2.2.1 hx, bd_some]
            exact Rn_ret ⟨rfl, h.2.2.2⟩
          · obtain ⟨k1, k2, k3⟩ := KM_0 hK hnp
            unfold f_X10_later b_X10_later_32 b_X10_later_56
            rw [(h_person k2 k1.1.1.2).1 h1, bd_some, if_neg (by decide), (h_w1 k2).1 h2, bd_some, if_neg (by decide), (h_d_0_2 k2).1 h3, bd_some, if_neg (by decide)]
            rw [ex, en, ew]
            refine Rn_bv (Rn_mono (m_goesTo hN hI k1 hRI hd0 (by omega)) (fun S1 h => ?_))
            have e3 : ∀ j, j < 72 + cnp c → sg S1 96 (80 + j) = dys c d r ni j := h.1
            rw [if_neg (by decide), l80, l64, nIa, nIa, r78_46, n96, inbT (by omega) (by decide), nIc (by omega), Nat.add_assoc, e3 _ (by omega)]
            exact Rn_ret ⟨⟨rfl, thr_m k2 h.2⟩, Fm_tr k3 (q_mW h.2)⟩
      · refine ⟨.inr 1, fun S hK => ?_, fun S hK => ?_⟩
        · unfold f_X9_later b_X9_later_46
          rw [(g_person hK.1 hK.2.1).1 h1, bt_inl, g_w1.1 h2, bt_inl, g_r_0_40.2 h3, bt_inr]
          exact Rn_ret ⟨rfl, Fm_rf _ _⟩
        · obtain ⟨k1, k2, k3⟩ := KM_0 hK hnp
          unfold f_X10_later b_X10_later_32 b_X10_later_56
          rw [(h_person k2 k1.1.1.2).1 h1, bd_some, if_neg (by decide), (h_w1 k2).1 h2, bd_some, if_neg (by decide), (h_d_0_2 k2).2 h3, bd_some, if_pos rfl]
          exact Rn_ret ⟨sgp _ _ _ _, q_thr k3⟩
    · refine ⟨.inr 0, fun S hK => ?_, fun S hK => ?_⟩
      · unfold f_X9_later b_X9_later_46
        rw [(g_person hK.1 hK.2.1).1 h1, bt_inl, g_w1.2 h2, bt_inr]
        exact Rn_ret ⟨rfl, Fm_rf _ _⟩
      · obtain ⟨k1, k2, k3⟩ := KM_0 hK hnp
        unfold f_X10_later b_X10_later_32 b_X10_later_56
        rw [(h_person k2 k1.1.1.2).1 h1, bd_some, if_neg (by decide), (h_w1 k2).2 h2, bd_some, if_pos rfl]
        exact Rn_ret ⟨sgp _ _ _ _, q_thr k3⟩
  · refine ⟨.inr 0, fun S hK => ?_, fun S hK => ?_⟩
    · unfold f_X9_later b_X9_later_46
      rw [(g_person hK.1 hK.2.1).2 h1, bt_inr]
      exact Rn_ret ⟨rfl, Fm_rf _ _⟩
    · obtain ⟨k1, k2, k3⟩ := KM_0 hK hnp
      unfold f_X10_later b_X10_later_32 b_X10_later_56
      rw [(h_person k2 k1.1.1.2).2 h1, bd_some, if_pos rfl]
      exact Rn_ret ⟨sgp _ _ _ _, q_thr k3⟩

theorem j_reds {n : Int32} (hN : 10000 ≤ N) (hI : CI c) (hW : WR c r) : Jq t c r (f_X9_reds N 0 n) (f_X10_reds N 78 n) cd1 := by
  have hnb := hI.1.1
  have hnp := hI.1.2
  obtain ⟨hRI, d, hd, hd0⟩ := hW
  by_cases h1 : vR n 0 40
  · obtain ⟨ni, hn0, hn, en⟩ := vR_n h1 (by omega) (by omega)
    obtain ⟨i1, i2, -, -⟩ := dys_in hI hRI hd0 ni (by omega)
    refine ⟨.inl (sm (dys c d r ni) 2 6), fun S hK => ?_, fun S hK => ?_⟩
    · unfold f_X9_reds
      rw [g_r_0_40.1 h1, bt_inl]
      rw [en]
      refine Rn_bd (Rn_mono (c_lookAhead hN hI hK hRI hd0 (by omega)) (fun q h => ?_))
      rw [r0_8, c_redAll hN Sk42 h.2.2.1, bd_some]
      exact Rn_ret ⟨rfl, h.2.2.2⟩
    · obtain ⟨k1, k2, k3⟩ := KM_0 hK hnp
      unfold f_X10_reds
      rw [(h_d_0_1 k2).1 h1, bd_some, if_neg (by decide)]
      rw [en]
      refine Rn_bv (Rn_mono (m_goesTo hN hI k1 hRI hd0 (by omega)) (fun S1 h => ?_))
      rw [m_reds hN hI (CM_m k1.1 h.2) h.1 i1]
      exact Rn_ret ⟨⟨rfl, thr_m k2 h.2⟩, Fm_tr k3 (q_mW h.2)⟩
  · refine ⟨.inr 1, fun S hK => ?_, fun S hK => ?_⟩
    · unfold f_X9_reds
      rw [g_r_0_40.2 h1, bt_inr]
      exact Rn_ret ⟨rfl, Fm_rf _ _⟩
    · obtain ⟨k1, k2, k3⟩ := KM_0 hK hnp
      unfold f_X10_reds
      rw [(h_d_0_1 k2).2 h1, bd_some, if_pos rfl]
      exact Rn_ret ⟨sgp _ _ _ _, q_thr k3⟩

theorem j_ring {x : Int32} (hN : 10000 ≤ N) (hI : CI c) (hW : WR c r) : Jq t c r (f_X9_ring N 0 x) (f_X10_ring N 78 x) cd2 := by
  have hnb := hI.1.1
  have hnp := hI.1.2
  obtain ⟨hRI, d, hd, hd0⟩ := hW
  by_cases h1 : vB x (cnp c)
  · obtain ⟨xi, hx, ex⟩ := vB_n h1 (by omega)
    refine ⟨.inl (if (rch r xi >>> (nI xi &&& (31 : Int32))) &&& 1 = 1 then rch r xi else 0), fun S hK => ?_, fun S hK => ?_⟩
    · unfold f_X9_ring b_X9_ring_32
      rw [(g_person hK.1 hK.2.1).1 h1, bt_inl]
      rw [ex, g_isC hK.1, hK.1.1, r0_7, c_rch hN hI Sk40 hK.2.2 hRI hx, bd_some]
      split <;> exact Rn_ret ⟨rfl, Fm_rf _ _⟩
    · obtain ⟨k1, k2, k3⟩ := KM_0 hK hnp
      unfold f_X10_ring b_X10_ring_35
      rw [(h_person k2 k1.1.1.2).1 h1, bd_some, if_neg (by decide)]
      rw [ex, m_rch hN hI k1.2.2 hRI hx, bd_some]
      split <;> exact Rn_ret ⟨⟨rfl, k2⟩, k3⟩
  · refine ⟨.inr 0, fun S hK => ?_, fun S hK => ?_⟩
    · unfold f_X9_ring b_X9_ring_32
      rw [(g_person hK.1 hK.2.1).2 h1, bt_inr]
      exact Rn_ret ⟨rfl, Fm_rf _ _⟩
    · obtain ⟨k1, k2, k3⟩ := KM_0 hK hnp
      unfold f_X10_ring b_X10_ring_35
      rw [(h_person k2 k1.1.1.2).2 h1, bd_some, if_pos rfl]
      exact Rn_ret ⟨sgp _ _ _ _, q_thr k3⟩

theorem j_comesTo {x : Int32} (hN : 10000 ≤ N) (hI : CI c) (hW : WR c r) : Jq t c r (f_X9_comesTo N 0 x) (f_X10_comesTo N 78 x) cd2 := by
  have hnb := hI.1.1
  have hnp := hI.1.2
  obtain ⟨hRI, d, hd, hd0⟩ := hW
  by_cases h1 : vB x (cnp c)
  · obtain ⟨xi, hx, ex⟩ := vB_n h1 (by omega)
    refine ⟨.inl (rch r xi), fun S hK => ?_, fun S hK => ?_⟩
    · unfold f_X9_comesTo
      rw [(g_person hK.1 hK.2.1).1 h1, bt_inl]
      rw [ex, g_isC hK.1, hK.1.1, r0_7, c_rch hN hI Sk40 hK.2.2 hRI hx, bd_some]
      exact Rn_ret ⟨rfl, Fm_rf _ _⟩
    · obtain ⟨k1, k2, k3⟩ := KM_0 hK hnp
      unfold f_X10_comesTo b_X10_comesTo_22
      rw [(h_person k2 k1.1.1.2).1 h1, bd_some, if_neg (by decide)]
      rw [ex, m_rch hN hI k1.2.2 hRI hx, bd_some]
      exact Rn_ret ⟨⟨rfl, k2⟩, k3⟩
  · refine ⟨.inr 0, fun S hK => ?_, fun S hK => ?_⟩
    · unfold f_X9_comesTo
      rw [(g_person hK.1 hK.2.1).2 h1, bt_inr]
      exact Rn_ret ⟨rfl, Fm_rf _ _⟩
    · obtain ⟨k1, k2, k3⟩ := KM_0 hK hnp
      unfold f_X10_comesTo b_X10_comesTo_22
      rw [(h_person k2 k1.1.1.2).2 h1, bd_some, if_pos rfl]
      exact Rn_ret ⟨sgp _ _ _ _, q_thr k3⟩

theorem j_toCover {x : Int32} (hN : 10000 ≤ N) (hI : CI c) (hW : WR c r) : Jq t c r (f_X9_toCover N 0 x) (f_X10_toCover N 78 x) cd1 := by
  have hnb := hI.1.1
  have hnp := hI.1.2
  obtain ⟨hRI, d, hd, hd0⟩ := hW
  by_cases h1 : vR x 0 30
  · obtain ⟨xi, hx0, hx, ex⟩ := vR_n h1 (by omega) (by omega)
    refine ⟨.inl (cov_ c x), fun S hK => ?_, fun S hK => ?_⟩
    · unfold f_X9_toCover
      rw [g_r_0_30.1 h1, bt_inl]
      rw [g_isC hK.1, hK.1.1, c_cov hN hI hK.1.2.1 hK.2.1, bd_some]
      exact Rn_ret ⟨rfl, Fm_rf _ _⟩
    · obtain ⟨k1, k2, k3⟩ := KM_0 hK hnp
      unfold f_X10_toCover
      rw [h_in_0_30.1 h1, bd_some, h_right k2, bd_some, if_neg (by decide)]
      rw [m_cov hN hI k1.1]
      exact Rn_ret ⟨⟨rfl, k2⟩, k3⟩
  · refine ⟨.inr 1, fun S hK => ?_, fun S hK => ?_⟩
    · unfold f_X9_toCover
      rw [g_r_0_30.2 h1, bt_inr]
      exact Rn_ret ⟨rfl, Fm_rf _ _⟩
    · obtain ⟨k1, k2, k3⟩ := KM_0 hK hnp
      unfold f_X10_toCover
      rw [h_in_0_30.2 h1, bd_some, h_wrong k2 (by decide), bd_some, if_pos rfl]
      exact Rn_ret ⟨sgp _ _ _ _, q_thr k3⟩

theorem j_oneMore {w : Int32} (hN : 10000 ≤ N) (hI : CI c) (hW : WR c r) : Jq t c r (f_X9_oneMore N 0 w) (f_X10_oneMore N 78 w) cd2 := by
  have hnb := hI.1.1
  have hnp := hI.1.2
  obtain ⟨hRI, d, hd, hd0⟩ := hW
  by_cases h1 : vR w 0 1
  · obtain ⟨wi, -, hw, ew⟩ := vR_n h1 (by omega) (by omega)
    have hv : wi = 0 ∨ wi = 1 := by omega
    rcases hv with hv | hv
    · subst hv
      refine ⟨.inl (pl_ c true), fun S hK => ?_, fun S hK => ?_⟩
      · unfold f_X9_oneMore b_X9_oneMore_31
        rw [g_w1.1 h1, bt_inl]
        rw [ew, g_isC hK.1, hK.1.1, ← bI1, c_pl hN hI hK.1.2.1 hK.2.1, bd_some, if_pos (by decide)]
        exact Rn_ret ⟨rfl, Fm_rf _ _⟩
      · obtain ⟨k1, k2, k3⟩ := KM_0 hK hnp
        unfold f_X10_oneMore b_X10_oneMore_36
        rw [(h_w1 k2).1 h1, bd_some, if_neg (by decide)]
        rw [ew, ← bI1, m_pl hN hI k1.1, bd_some, if_pos (by decide)]
        exact Rn_ret ⟨⟨rfl, k2⟩, k3⟩
    · subst hv
      refine ⟨.inl (ways c (pl_ c true) true), fun S hK => ?_, fun S hK => ?_⟩
      · unfold f_X9_oneMore b_X9_oneMore_31
        rw [g_w1.1 h1, bt_inl]
        obtain ⟨z, hz, ez⟩ := pl_in (c := c) (bs := true)
        rw [ew, g_isC hK.1, hK.1.1, ← bI1, c_pl hN hI hK.1.2.1 hK.2.1, bd_some, if_neg (by decide), g_isC hK.1, hK.1.1, ez, c_ways hN hI hK.1.2.1 hK.2.1 hz, bd_some]
        exact Rn_ret ⟨rfl, Fm_rf _ _⟩
      · obtain ⟨k1, k2, k3⟩ := KM_0 hK hnp
        unfold f_X10_oneMore b_X10_oneMore_36
        rw [(h_w1 k2).1 h1, bd_some, if_neg (by decide)]
        rw [ew, ← bI1, m_pl hN hI k1.1, bd_some, if_neg (by decide), m_ways hN hI k1.1, bd_some]
        exact Rn_ret ⟨⟨rfl, k2⟩, k3⟩
  · refine ⟨.inr 0, fun S hK => ?_, fun S hK => ?_⟩
    · unfold f_X9_oneMore b_X9_oneMore_31
      rw [g_w1.2 h1, bt_inr]
      exact Rn_ret ⟨rfl, Fm_rf _ _⟩
    · obtain ⟨k1, k2, k3⟩ := KM_0 hK hnp
      unfold f_X10_oneMore b_X10_oneMore_36
      rw [(h_w1 k2).2 h1, bd_some, if_pos rfl]
      exact Rn_ret ⟨sgp _ _ _ _, q_thr k3⟩

theorem j_visits {x n : Int32} (hN : 10000 ≤ N) (hI : CI c) (hW : WR c r) : Jq t c r (f_X9_visits N 0 x n) (f_X10_visits N 78 x n) cd2 := by
  have hnb := hI.1.1
  have hnp := hI.1.2
  obtain ⟨hRI, d, hd, hd0⟩ := hW
  by_cases h1 : vB x (cnb c)
  · by_cases h2 : vR n 1 60
    · obtain ⟨xi, hx, ex⟩ := vB_n h1 (by omega)
      obtain ⟨ni, hn0, hn, en⟩ := vR_n h2 (by omega) (by omega)
      refine ⟨.inl (sI (visF c d xi) ni), fun S hK => ?_, fun S hK => ?_⟩
      · unfold f_X9_visits
        rw [(g_box hK.1 hK.2.1).1 h1, bt_inl, g_r_1_60.1 h2, bt_inl]
        rw [ex, en, c_visits hN hI hK.1 hK.2.1 hK.2.2 hd0 (by omega) hn]
        exact Rn_ret ⟨rfl, Fm_rf _ _⟩
      · obtain ⟨k1, k2, k3⟩ := KM_0 hK hnp
        unfold f_X10_visits b_X10_visits_28
        rw [(h_box k2 k1.1.1.1).1 h1, bd_some, if_neg (by decide), h_in_1_60.1 h2, bd_some, h_right k2, bd_some, if_neg (by decide)]
        rw [ex, en, m_visits hN hI k1.1 k1.2.1 k1.2.2 hd0 (by omega) hn]
        exact Rn_ret ⟨⟨rfl, k2⟩, k3⟩
    · refine ⟨.inr 1, fun S hK => ?_, fun S hK => ?_⟩
      · unfold f_X9_visits
        rw [(g_box hK.1 hK.2.1).1 h1, bt_inl, g_r_1_60.2 h2, bt_inr]
        exact Rn_ret ⟨rfl, Fm_rf _ _⟩
      · obtain ⟨k1, k2, k3⟩ := KM_0 hK hnp
        unfold f_X10_visits b_X10_visits_28
        rw [(h_box k2 k1.1.1.1).1 h1, bd_some, if_neg (by decide), h_in_1_60.2 h2, bd_some, h_wrong k2 (by decide), bd_some, if_pos rfl]
        exact Rn_ret ⟨sgp _ _ _ _, q_thr k3⟩
  · refine ⟨.inr 0, fun S hK => ?_, fun S hK => ?_⟩
    · unfold f_X9_visits
      rw [(g_box hK.1 hK.2.1).2 h1, bt_inr]
      exact Rn_ret ⟨rfl, Fm_rf _ _⟩
    · obtain ⟨k1, k2, k3⟩ := KM_0 hK hnp
      unfold f_X10_visits b_X10_visits_28
      rw [(h_box k2 k1.1.1.1).2 h1, bd_some, if_pos rfl]
      exact Rn_ret ⟨sgp _ _ _ _, q_thr k3⟩

theorem j_steps {x o : Int32} (hN : 10000 ≤ N) (hI : CI c) (hW : WR c r) : Jq t c r (f_X9_steps N 0 x o) (f_X10_steps N 78 x o) cd2 := by
  have hnb := hI.1.1
  have hnp := hI.1.2
  obtain ⟨hRI, d, hd, hd0⟩ := hW
  by_cases h1 : vB x (cnp c)
  · by_cases h2 : vB o (cnp c)
    · obtain ⟨xi, hx, ex⟩ := vB_n h1 (by omega)
      obtain ⟨oi, ho, eo⟩ := vB_n h2 (by omega)
      refine ⟨.inl (stpF r oi 8 0 (nI xi)), fun S hK => ?_, fun S hK => ?_⟩
      · unfold f_X9_steps
        rw [(g_person hK.1 hK.2.1).1 h1, bt_inl, (g_person hK.1 hK.2.1).1 h2, bt_inl]
        rw [ex, eo, c_stp hN hI hK.2.2 hRI hx ho]
        exact Rn_ret ⟨rfl, Fm_rf _ _⟩
      · obtain ⟨k1, k2, k3⟩ := KM_0 hK hnp
        unfold f_X10_steps b_X10_steps_21
        rw [(h_person k2 k1.1.1.2).1 h1, bd_some, if_neg (by decide), (h_person k2 k1.1.1.2).1 h2, bd_some, if_neg (by decide)]
        rw [ex, eo, m_stp hN hI k1.1 k1.2.2 hRI hx ho]
        exact Rn_ret ⟨⟨rfl, k2⟩, k3⟩
    · refine ⟨.inr 0, fun S hK => ?_, fun S hK => ?_⟩
      · unfold f_X9_steps
        rw [(g_person hK.1 hK.2.1).1 h1, bt_inl, (g_person hK.1 hK.2.1).2 h2, bt_inr]
        exact Rn_ret ⟨rfl, Fm_rf _ _⟩
      · obtain ⟨k1, k2, k3⟩ := KM_0 hK hnp
        unfold f_X10_steps b_X10_steps_21
        rw [(h_person k2 k1.1.1.2).1 h1, bd_some, if_neg (by decide), (h_person k2 k1.1.1.2).2 h2, bd_some, if_pos rfl]
        exact Rn_ret ⟨sgp _ _ _ _, q_thr k3⟩
  · refine ⟨.inr 0, fun S hK => ?_, fun S hK => ?_⟩
    · unfold f_X9_steps
      rw [(g_person hK.1 hK.2.1).2 h1, bt_inr]
      exact Rn_ret ⟨rfl, Fm_rf _ _⟩
    · obtain ⟨k1, k2, k3⟩ := KM_0 hK hnp
      unfold f_X10_steps b_X10_steps_21
      rw [(h_person k2 k1.1.1.2).2 h1, bd_some, if_pos rfl]
      exact Rn_ret ⟨sgp _ _ _ _, q_thr k3⟩

theorem j_whose {x : Int32} (hN : 10000 ≤ N) (hI : CI c) (hW : WR c r) : Jq t c r (f_X9_whose N 0 x) (f_X10_whose N 78 x) cd2 := by
  have hnb := hI.1.1
  have hnp := hI.1.2
  obtain ⟨hRI, d, hd, hd0⟩ := hW
  by_cases h1 : vB x (cnb c)
  · obtain ⟨xi, hx, ex⟩ := vB_n h1 (by omega)
    refine ⟨.inl (who_ c r xi), fun S hK => ?_, fun S hK => ?_⟩
    · unfold f_X9_whose
      rw [(g_box hK.1 hK.2.1).1 h1, bt_inl]
      rw [ex, c_whose hN hI hK.1 hK.2.1 hK.2.2 hx]
      exact Rn_ret ⟨rfl, Fm_rf _ _⟩
    · obtain ⟨k1, k2, k3⟩ := KM_0 hK hnp
      unfold f_X10_whose
      rw [(h_box k2 k1.1.1.1).1 h1, bd_some, if_neg (by decide)]
      rw [ex, m_whose hN hI k1.1 k1.2.2 hx]
      exact Rn_ret ⟨⟨rfl, k2⟩, k3⟩
  · refine ⟨.inr 0, fun S hK => ?_, fun S hK => ?_⟩
    · unfold f_X9_whose
      rw [(g_box hK.1 hK.2.1).2 h1, bt_inr]
      exact Rn_ret ⟨rfl, Fm_rf _ _⟩
    · obtain ⟨k1, k2, k3⟩ := KM_0 hK hnp
      unfold f_X10_whose
      rw [(h_box k2 k1.1.1.1).2 h1, bd_some, if_pos rfl]
      exact Rn_ret ⟨sgp _ _ _ _, q_thr k3⟩

end
