theorem wetP_m {N b d : Nat} {S S' : am_S} {wet : Int32} (h : wetP N b d S wet) (hf : Fm (mW b) S S') : wetP N b d S' wet := fun S2 h2 h3 => h S2 (Fm_tr hf h2) h3
theorem RM_v {S S' : am_S} {b m : Nat} {r : Nat → Int32} (h : RM S b m r) (hf : Fm mV S S') : RM S' b m r := RM_same h (fun j _ => hf.1 _ _ (by unfold mV; omega))
theorem mW_r {b j : Nat} (h : b ≤ j) (h2 : j < b + 80) : mW b 96 j := Or.inr (Or.inr (Or.inr ⟨rfl, h, h2⟩))
def mR (b : Nat) : Nat → Nat → Prop := fun k j => k = 96 ∧ b ≤ j ∧ j < b + 80
theorem mR_W {b : Nat} : ∀ k j, mR b k j → mW b k j := fun k j h => Or.inr (Or.inr (Or.inr h))
theorem m_hears {N b o : Nat} {v : Int32} {c : Cy} {S : am_S} {r : Nat → Int32} (hb : b ≤ 80) (hR : RM S b (72 + cnp c) r) (ho : o < 8) : Rn (f_X10_hears N 78 (nI b) (nI o) v S) (fun S' => RM S' b (72 + cnp c) (wr r (64 + o) (jmin 9999 (r (64 + o) + v))) ∧ Fm (mR b) S S') := by
  unfold f_X10_hears
  simp (disch := omega) only [r78_7, r78_8, r78_9, r78_10, r78_11, r78_12, r78_13, r78_17, r78_37, r78_38, r78_39, r78_40, r78_41, r78_42, r78_43, r78_44, r78_45, r78_46, r78_47, r78_49, r78_50, r78_53, r78_55, r78_57, r78_58, r78_59, r78_64, r78_65, r78_66, n79, n80, n81, n82, n83, n84, n85, n86, n87, n88, n89, n90, n91, n92, n93, n94, n95, n96, n97, n98, n99, n100, n101, n102, n103, n104, n105, n106, n107, l2, l3, l4, l5, l6, l7, l8, l56, l64, l72, l80, nIa, nIm, nI1, nIz, nIc, inbT, inb0T, inb1T, c00, c01, leT, leF, ltT, ltF, eqT, eqF, eqmF, oneT, bd_some, bv_some, sgn, sgj, sgp, m_lesser, RM_he hR]
  exact Rn_ret ⟨RMw_he hR, Fm_sp (Fm_rf _ _) ⟨rfl, by omega, by omega⟩⟩
theorem m_thinks {N b p : Nat} {c : Cy} {S : am_S} {r : Nat → Int32} (hN : 10000 ≤ N) (hb : b ≤ 80) (hI : CI c) (hC : CM S c) (hR : RM S b (72 + cnp c) r) (hRI : RI c r) (hp : p < cnp c) : Rn (f_X10_thinks N 78 (nI b) (nI p) S) (fun S' => RM S' b (72 + cnp c) (d1 c r p) ∧ Fm (mW b) S S' ∧ sg S' 78 54 = sg S 78 54) := by
  have hnb := hI.1.1
  have hnp := hI.1.2
  unfold f_X10_thinks
  rw [m_boxOf hN hI hC hp, bd_some]
  rcases cne_in (p := p) hI with q | ⟨x, hx, q⟩
  · rw [if_pos q, d1_ne q]
    exact Rn_ret ⟨hR, Fm_rf _ _, rfl⟩
  · rw [q, eqmF (by omega), d1_eq q (by omega)]
    refine Rn_bd (Rn_mono (m_thinksInto hN hb hI hC hR hRI hx hp) (fun z hz => ?_))
    have hR2 := RM_v hR hz.2
    simp (disch := omega) only [r78_7, r78_8, r78_9, r78_10, r78_11, r78_12, r78_13, r78_17, r78_37, r78_38, r78_39, r78_40, r78_41, r78_42, r78_43, r78_44, r78_45, r78_46, r78_47, r78_49, r78_50, r78_53, r78_55, r78_57, r78_58, r78_59, r78_64, r78_65, r78_66, n79, n80, n81, n82, n83, n84, n85, n86, n87, n88, n89, n90, n91, n92, n93, n94, n95, n96, n97, n98, n99, n100, n101, n102, n103, n104, n105, n106, n107, l2, l3, l4, l5, l6, l7, l8, l56, l64, l72, l80, nIa, nIm, nI1, nIz, nIc, inbT, inb0T, inb1T, c00, c01, leT, leF, ltT, ltF, eqT, eqF, eqmF, oneT, bd_some, bv_some, sgn, sgj, sgp, m_lesser, RM_hd hR2, RM_rg hR2]
    rw [hz.1]
    exact Rn_ret ⟨RMw_rg (RMw_hd hR2), Fm_tr (Fm_wk hz.2 mV_W) (Fm_sp (Fm_sp (Fm_rf _ _) (mW_r (by omega) (by omega))) (mW_r (by omega) (by omega))), by
      rw [sgn (by omega), sgn (by omega)]
      exact hz.2.1 _ _ (by unfold mV; omega)⟩
theorem cl_jmax {a b : Int32} (ha : Bd a 999) (hb : Bd b 999) : cl (a - b) 0 999 = jmax 0 (a - b) := by
  obtain ⟨a1, a2⟩ := ha
  obtain ⟨b1, b2⟩ := hb
  have h : (a - b).toInt = a.toInt - b.toInt := tS (by omega) (by omega)
  rw [← Int32.toInt_inj, jmax_t, t0]
  unfold cl
  have h9 : (999 : Int32).toInt = 999 := rfl
  simp only [Int32.le_iff_toInt_le, t0, h9]
  split
  · rw [if_pos (by omega)]
    split <;> omega
  · rw [t0]
    split <;> omega
theorem m_fetches {N b x d : Nat} {wet : Int32} {c : Cy} {S : am_S} {r : Nat → Int32} (hN : 10000 ≤ N) (hb : b ≤ 80) (hI : CI c) (hC : CM S c) (hR : RM S b (72 + cnp c) r) (hRI : RI c r) (hx : x < cnb c) (hd : r 0 = nI d) (hw : wetP N b d S wet) (hf : sg S 78 54 = 0) : Rn (f_X10_fetches N 78 (nI b) (nI x) S) (fun S' => RM S' b (72 + cnp c) (d2s c wet x r (cnp c)) ∧ Fm (mW b) S S' ∧ sg S' 78 54 = d2f c wet x r (cnp c)) := by
  have hnb := hI.1.1
  have hnp := hI.1.2
  unfold f_X10_fetches
  refine lp0 (fun n (s : am_S) i => b_X10_fetches_2 N n 78 (nI b) (nI x) i s) (fun i s => RM s b (72 + cnp c) (d2s c wet x r i) ∧ Fm (mW b) S s ∧ sg s 78 54 = d2f c wet x r i) _ (cnp c) ?_ ?_ N S (by omega) ⟨hR, Fm_rf _ _, hf⟩
  · intro n s hs
    obtain ⟨h1, h2, h3⟩ := hs
    show Rn (b_X10_fetches_2 N (n + 1) 78 (nI b) (nI x) (nI (cnp c)) s) _
    unfold b_X10_fetches_2
    rw [(CM_m hC h2).1.2, leT (Nat.le_refl _) (by omega)]
    exact Rn_ret ⟨h1, h2, h3⟩
  · intro n i s hi hs ih
    obtain ⟨h1, h2, h3⟩ := hs
    have hC1 := CM_m hC h2
    have hRi := RI_d2s (wet := wet) hI hRI hx i (by omega)
    have e0 : d2s c wet x r i 0 = nI d := by rw [d2s_low (by omega) hI hRI hx i (by omega), hd]
    show Rn (b_X10_fetches_2 N (n + 1) 78 (nI b) (nI x) (nI i) s) _
    unfold b_X10_fetches_2 b_X10_fetches_132
    rw [hC1.1.2, leF (by omega) (by omega)]
    simp (disch := omega) only [r78_7, r78_8, r78_9, r78_10, r78_11, r78_12, r78_13, r78_17, r78_37, r78_38, r78_39, r78_40, r78_41, r78_42, r78_43, r78_44, r78_45, r78_46, r78_47, r78_49, r78_50, r78_53, r78_55, r78_57, r78_58, r78_59, r78_64, r78_65, r78_66, n79, n80, n81, n82, n83, n84, n85, n86, n87, n88, n89, n90, n91, n92, n93, n94, n95, n96, n97, n98, n99, n100, n101, n102, n103, n104, n105, n106, n107, l2, l3, l4, l5, l6, l7, l8, l56, l64, l72, l80, nIa, nIm, nI1, nIz, nIc, inbT, inb0T, inb1T, c00, c01, leT, leF, ltT, ltF, eqT, eqF, eqmF, oneT, bd_some, bv_some, sgn, sgj, sgp, RM_hd h1, RM_at h1]
    have e2 : d2s c wet x r (i + 1) = d2 c wet x (d2s c wet x r i) i := rfl
    have e3 : d2f c wet x r (i + 1) = d2f c wet x r i + d2s c wet x r i (8 + 8 * x + i) := rfl
    by_cases q : d2s c wet x r i (8 + 8 * x + i) = 0
    · rw [if_pos q]
      refine ih s ⟨?_, h2, ?_⟩
      · rw [e2]
        unfold d2
        rw [if_pos q]
        exact h1
      · rw [e3, q, Int32.add_zero]
        exact h3
    · rw [if_neg q]
      have fin : ∀ (S2 : am_S), RM S2 b (72 + cnp c) (d2a c wet x (d2s c wet x r i) i) → Fm (mW b) S S2 → sg S2 78 54 = d2f c wet x r i → Rn (b_X10_fetches_72 N (b_X10_fetches_2 N n) 78 (nI b) (nI x) (nI i) (d2s c wet x r i (8 + 8 * x + i)) S2) (fun S' => RM S' b (72 + cnp c) (d2s c wet x r (cnp c)) ∧ Fm (mW b) S S' ∧ sg S' 78 54 = d2f c wet x r (cnp c)) := by
        intro S2 g1 g2 g3
        have hRa := RI_d2a (wet := wet) (x := x) hI hRi hi
        have ea : d2a c wet x (d2s c wet x r i) i (8 + 8 * x + i) = d2s c wet x r i (8 + 8 * x + i) := d2a_low (by omega) hI hRi hi
        unfold b_X10_fetches_72 b_X10_fetches_132
        have eb := (hRi.2.2.2.1 x i (by omega) (by omega)).1
        simp (disch := omega) only [r78_7, r78_8, r78_9, r78_10, r78_11, r78_12, r78_13, r78_17, r78_37, r78_38, r78_39, r78_40, r78_41, r78_42, r78_43, r78_44, r78_45, r78_46, r78_47, r78_49, r78_50, r78_53, r78_55, r78_57, r78_58, r78_59, r78_64, r78_65, r78_66, n79, n80, n81, n82, n83, n84, n85, n86, n87, n88, n89, n90, n91, n92, n93, n94, n95, n96, n97, n98, n99, n100, n101, n102, n103, n104, n105, n106, n107, l2, l3, l4, l5, l6, l7, l8, l56, l64, l72, l80, nIa, nIm, nI1, nIz, nIc, inbT, inb0T, inb1T, c00, c01, leT, leF, ltT, ltF, eqT, eqF, eqmF, oneT, bd_some, bv_some, sgn, sgj, sgp, RM_rg g1, cl_bounded]
        rw [g3]
        refine ih _ ⟨?_, ?_, ?_⟩
        · rw [e2]
          unfold d2
          rw [if_neg q, ea, ← cl_jmax (hRa.2.2.2.2.1 i (by omega)).1.1 ⟨eb.1, by omega⟩]
          exact RM_o (RMw_hd (RMw_rg g1)) (by omega)
        · exact Fm_sp (Fm_sp (Fm_sp g2 (mW_r (by omega) (by omega))) (mW_r (by omega) (by omega))) (Or.inr (Or.inr (Or.inl ⟨rfl, rfl⟩)))
        · rw [sgp, e3]
      rcases hRi.2.2.2.2.2 i hi with q2 | ⟨o, ho, q2⟩
      · rw [if_pos q2]
        refine fin s ?_ h2 h3
        unfold d2a
        rw [if_pos q2]
        exact h1
      · rw [q2, eqmF (by omega)]
        refine Rn_bd (Rn_mono (m_soundsBy hN hb hI hC1 h1 hx ho e0 (wetP_m hw h2)) (fun z hz => ?_))
        refine Rn_bv (Rn_mono (m_hears (c := c) hb (RM_v h1 hz.2) (by omega)) (fun S2 hS => ?_))
        refine fin S2 ?_ (Fm_tr h2 (Fm_tr (Fm_wk hz.2 mV_W) (Fm_wk hS.2 mR_W))) ?_
        · unfold d2a
          rw [q2, if_neg (nIn (by omega))]
          show RM S2 b _ (wr _ (64 + (nI o).toNatClampNeg) (jmin 9999 (_ + snd_ c wet _ x _ (nI o).toNatClampNeg)))
          rw [nIc (by omega), ← hz.1]
          exact hS.1
        · rw [hS.2.1 _ _ (by unfold mR; omega), hz.2.1 _ _ (by unfold mV; omega)]
          exact h3
theorem m_day3 {N b : Nat} {f : Int32} {c : Cy} {S : am_S} {r : Nat → Int32} (hN : 10000 ≤ N) (hb : b ≤ 80) (hI : CI c) (hC : CM S c) (hR : RM S b (72 + cnp c) r) (hRI : RI c r) (hf : sg S 78 54 = f) : Rn (b_X10_dayGoes_64 N N 78 (nI b) 0 S) (fun S' => RM S' b (72 + cnp c) (wr (d3s r (cnb c)) 0 (d3s r (cnb c) 0 + 1)) ∧ Fm (mW b) S S' ∧ sg S' 78 54 = f) := by
  have hnb := hI.1.1
  have hnp := hI.1.2
  refine lp0 (fun n (s : am_S) i => b_X10_dayGoes_64 N n 78 (nI b) i s) (fun i s => RM s b (72 + cnp c) (d3s r i) ∧ Fm (mW b) S s ∧ sg s 78 54 = f) _ (cnb c) ?_ ?_ N S (by omega) ⟨hR, Fm_rf _ _, hf⟩
  · intro n s hs
    obtain ⟨h1, h2, h3⟩ := hs
    show Rn (b_X10_dayGoes_64 N (n + 1) 78 (nI b) (nI (cnb c)) s) _
    unfold b_X10_dayGoes_64
    rw [(CM_m hC h2).1.1, leT (Nat.le_refl _) (by omega)]
    simp (disch := omega) only [r78_7, r78_8, r78_9, r78_10, r78_11, r78_12, r78_13, r78_17, r78_37, r78_38, r78_39, r78_40, r78_41, r78_42, r78_43, r78_44, r78_45, r78_46, r78_47, r78_49, r78_50, r78_53, r78_55, r78_57, r78_58, r78_59, r78_64, r78_65, r78_66, n79, n80, n81, n82, n83, n84, n85, n86, n87, n88, n89, n90, n91, n92, n93, n94, n95, n96, n97, n98, n99, n100, n101, n102, n103, n104, n105, n106, n107, l2, l3, l4, l5, l6, l7, l8, l56, l64, l72, l80, nIa, nIm, nI1, nIz, nIc, inbT, inb0T, inb1T, c00, c01, leT, leF, ltT, ltF, eqT, eqF, eqmF, oneT, bd_some, bv_some, sgn, sgj, sgp, RM_0 h1]
    exact Rn_ret ⟨RMw_0 h1, Fm_sp h2 (mW_r (by omega) (by omega)), by rw [sgn (by omega)]; exact h3⟩
  · intro n i s hi hs ih
    obtain ⟨h1, h2, h3⟩ := hs
    have hC1 := CM_m hC h2
    show Rn (b_X10_dayGoes_64 N (n + 1) 78 (nI b) (nI i) s) _
    unfold b_X10_dayGoes_64 b_X10_dayGoes_109 b_X10_dayGoes_110
    rw [hC1.1.1, leF (by omega) (by omega)]
    simp (disch := omega) only [r78_7, r78_8, r78_9, r78_10, r78_11, r78_12, r78_13, r78_17, r78_37, r78_38, r78_39, r78_40, r78_41, r78_42, r78_43, r78_44, r78_45, r78_46, r78_47, r78_49, r78_50, r78_53, r78_55, r78_57, r78_58, r78_59, r78_64, r78_65, r78_66, n79, n80, n81, n82, n83, n84, n85, n86, n87, n88, n89, n90, n91, n92, n93, n94, n95, n96, n97, n98, n99, n100, n101, n102, n103, n104, n105, n106, n107, l2, l3, l4, l5, l6, l7, l8, l56, l64, l72, l80, nIa, nIm, nI1, nIz, nIc, inbT, inb0T, inb1T, c00, c01, leT, leF, ltT, ltF, eqT, eqF, eqmF, oneT, bd_some, bv_some, sgn, sgj, sgp, RM_rd h1, m_heldIn hN hb hI hC1.1.2 h1 (RI_d3s hI hRI i (by omega))]
    have e2 : d3s r (i + 1) = d3 (d3s r i) i := rfl
    have fin : ∀ v : Int32, wr (d3s r i) (2 + i) v = d3 (d3s r i) i → Rn (b_X10_dayGoes_64 N n 78 (nI b) (nI (i + 1)) (sp s 96 (b + 2 + i) v)) (fun S' => RM S' b (72 + cnp c) (wr (d3s r (cnb c)) 0 (d3s r (cnb c) 0 + 1)) ∧ Fm (mW b) S S' ∧ sg S' 78 54 = f) := by
      intro v hv
      refine ih _ ⟨?_, Fm_sp h2 (mW_r (by omega) (by omega)), by rw [sgn (by omega)]; exact h3⟩
      rw [e2, ← hv]
      exact RMw_rd h1
    by_cases q1 : hIn (d3s r i) i ≤ 0
    · rw [if_pos q1, Int32.sub_zero]
      refine fin _ ?_
      unfold d3
      rw [if_pos q1, wr_id rfl]
      split <;> rfl
    · rw [if_neg q1]
      by_cases q2 : d3s r i (2 + i) ≤ 0
      · rw [if_pos q2, Int32.sub_zero]
        refine fin _ ?_
        unfold d3
        rw [if_pos q2, wr_id rfl]
      · rw [if_neg q2]
        refine fin _ ?_
        unfold d3
        rw [if_neg q2, if_neg q1]
theorem m_day {N b d : Nat} {wet vis : Int32} {c : Cy} {S : am_S} {r : Nat → Int32} (hN : 10000 ≤ N) (hb : b ≤ 80) (hI : CI c) (hC : CM S c) (hR : RM S b (72 + cnp c) r) (hRI : RI c r) (hv : Vi c vis) (hd : r 0 = nI d) (hw : wetP N b d S wet) (hs : visP N b d S vis) : Rn (f_X10_dayGoes N 78 (nI b) S) (fun S' => RM S' b (72 + cnp c) (day_ c wet vis r) ∧ Fm (mW b) S S' ∧ sg S' 78 54 = dayF c wet vis r) := by
  have hnb := hI.1.1
  have hnp := hI.1.2
  unfold f_X10_dayGoes
  have hF0 : Fm (mW b) S (sp S 78 54 0) := Fm_sp (Fm_rf _ _) (Or.inr (Or.inr (Or.inl ⟨rfl, rfl⟩)))
  refine lp0 (fun n (s : am_S) i => b_X10_dayGoes_7 N n 78 (nI b) i s) (fun i s => RM s b (72 + cnp c) (d1s c r i) ∧ Fm (mW b) S s ∧ sg s 78 54 = 0) _ (cnp c) ?_ ?_ N _ (by omega) ⟨RM_o hR (by omega), hF0, sgp _ _ _ _⟩
  · intro n s hs1
    obtain ⟨h1, h2, h3⟩ := hs1
    have hC1 := CM_m hC h2
    have hRI1 := RI_d1s hI hRI (cnp c) (Nat.le_refl _)
    have e0 : d1s c r (cnp c) 0 = nI d := by rw [d1s_low (by omega) hI _ (Nat.le_refl _), hd]
    have e1 : d1s c r (cnp c) 1 = r 1 := by rw [d1s_low (by omega) hI _ (Nat.le_refl _)]
    show Rn (b_X10_dayGoes_7 N (n + 1) 78 (nI b) (nI (cnp c)) s) _
    unfold b_X10_dayGoes_7 b_X10_dayGoes_62
    rw [hC1.1.2, leT (Nat.le_refl _) (by omega)]
    simp (disch := omega) only [r78_7, r78_8, r78_9, r78_10, r78_11, r78_12, r78_13, r78_17, r78_37, r78_38, r78_39, r78_40, r78_41, r78_42, r78_43, r78_44, r78_45, r78_46, r78_47, r78_49, r78_50, r78_53, r78_55, r78_57, r78_58, r78_59, r78_64, r78_65, r78_66, n79, n80, n81, n82, n83, n84, n85, n86, n87, n88, n89, n90, n91, n92, n93, n94, n95, n96, n97, n98, n99, n100, n101, n102, n103, n104, n105, n106, n107, l2, l3, l4, l5, l6, l7, l8, l56, l64, l72, l80, nIa, nIm, nI1, nIz, nIc, inbT, inb0T, inb1T, c00, c01, leT, leF, ltT, ltF, eqT, eqF, eqmF, oneT, bd_some, bv_some, sgn, sgj, sgp, RM_0 h1, e0, hs s h2, RM_1 h1, e1]
    have fin : ∀ (S2 : am_S) (rb : Nat → Int32) (f : Int32), CM S2 c → RM S2 b (72 + cnp c) rb → RI c rb → Fm (mW b) S S2 → sg S2 78 54 = f → f = dayF c wet vis r → wr (d3s rb (cnb c)) 0 (d3s rb (cnb c) 0 + 1) = day_ c wet vis r → Rn (b_X10_dayGoes_64 N N 78 (nI b) 0 S2) (fun S' => RM S' b (72 + cnp c) (day_ c wet vis r) ∧ Fm (mW b) S S' ∧ sg S' 78 54 = dayF c wet vis r) := by
      intro S2 rb f g1 g2 g3 g4 g5 g6 g7
      refine Rn_mono (m_day3 hN hb hI g1 g2 g3 g5) (fun S' h => ⟨?_, Fm_tr g4 h.2.1, h.2.2.trans g6⟩)
      rw [← g7]
      exact h.1
    by_cases q1 : vis = -1
    · have hf : ¬ fet c vis r = true := by
        unfold fet
        rw [q1]
        simp
      rw [if_pos q1]
      have gg := fin s _ 0 hC1 h1 hRI1 h2 h3 (by unfold dayF; rw [if_neg hf]) (by unfold day_; simp only [if_neg hf])
      split <;> exact gg
    · rw [if_neg q1]
      rcases hRI.2.1 with q2 | q2
      · rw [if_pos q2]
        have hf : fet c vis r = true := by
          unfold fet
          rw [q2]
          simp [q1]
        rcases hv with hv | ⟨x, hx, hv⟩
        · exact absurd hv q1
        · have g := m_fetches hN hb hI hC1 h1 hRI1 hx e0 (wetP_m hw h2) h3
          rw [← hv] at g
          refine Rn_bv (Rn_mono g (fun S2 hS => ?_))
          refine fin S2 _ _ (CM_m hC1 hS.2.1) hS.1 (RI_d2s hI hRI1 hx _ (Nat.le_refl _)) (Fm_tr h2 hS.2.1) hS.2.2 ?_ ?_
          · unfold dayF
            rw [if_pos hf, hv, nIc (by omega)]
          · unfold day_
            simp only [if_pos hf]
            rw [hv, nIc (by omega)]
      · rw [if_neg (by rw [q2]; decide)]
        have hf : ¬ fet c vis r = true := by
          unfold fet
          rw [q2]
          simp
        exact fin s _ 0 hC1 h1 hRI1 h2 h3 (by unfold dayF; rw [if_neg hf]) (by unfold day_; simp only [if_neg hf])
  · intro n i s hi hs1 ih
    obtain ⟨h1, h2, h3⟩ := hs1
    have hC1 := CM_m hC h2
    show Rn (b_X10_dayGoes_7 N (n + 1) 78 (nI b) (nI i) s) _
    unfold b_X10_dayGoes_7
    rw [hC1.1.2, leF (by omega) (by omega), nI1]
    refine Rn_bv (Rn_mono (m_thinks hN hb hI hC1 h1 (RI_d1s hI hRI i (by omega)) hi) (fun S2 hS => ?_))
    exact ih S2 ⟨hS.1, Fm_tr h2 hS.2.1, hS.2.2.trans h3⟩
/-- wet and the round as they are told -/
theorem m_wetIn {N b d : Nat} {c : Cy} {S : am_S} (hb : b ≤ 80) (hC : CM S c) (ho : sg S 78 51 = -1) (hd : d < 10000) (h0 : sg S 96 b = nI d) : f_X10_wetIn N 78 (nI b) S = some (cwe c d, S) := by
  obtain ⟨-, -, ⟨⟨n, h1, h2, h3⟩, -⟩, -⟩ := hC
  unfold f_X10_wetIn b_X10_wetIn_44
  rw [ho, if_pos rfl, h2, h3 d]
  by_cases hn : n = 0
  · subst hn
    rw [if_pos rfl, eq0T rfl]
  · have hm := Nat.mod_lt d (show 0 < n by omega)
    rw [eq0F (by omega) (by omega), eq0F (by omega) (by omega), if_neg hn]
    simp (disch := omega) only [r78_7, r78_8, r78_9, r78_10, r78_11, r78_12, r78_13, r78_17, r78_37, r78_38, r78_39, r78_40, r78_41, r78_42, r78_43, r78_44, r78_45, r78_46, r78_47, r78_49, r78_50, r78_53, r78_55, r78_57, r78_58, r78_59, r78_64, r78_65, r78_66, n79, n80, n81, n82, n83, n84, n85, n86, n87, n88, n89, n90, n91, n92, n93, n94, n95, n96, n97, n98, n99, n100, n101, n102, n103, n104, n105, n106, n107, nIz, nIc, inbT, h0, nImod]
theorem m_wetOther {N b : Nat} {w : Int32} {S : am_S} (ho : sg S 78 51 = w) (hw : ¬ w = -1) : f_X10_wetIn N 78 (nI b) S = some (w, S) := by
  unfold f_X10_wetIn b_X10_wetIn_44
  rw [ho, if_neg hw]
theorem m_comesOn {N d : Nat} {c : Cy} {S : am_S} (hI : CI c) (hC : CM S c) (ho : sg S 78 52 = 0) (hd : d < 10000) : f_X10_comesOn N 78 (nI d) S = some (cro c d, S) := by
  have hnb := hI.1.1
  obtain ⟨⟨g1, g2⟩, -, ⟨-, ⟨n, h1, h2, h3⟩⟩, -⟩ := hC
  unfold f_X10_comesOn b_X10_comesOn_62
  rw [ho, g1, h2, h3 d, if_pos (rfl : (0 : Int32) = 0)]
  by_cases hb : cnb c = 0
  · rw [hb, if_pos rfl, eq0T rfl]
  · have e1 : ¬ nI (cnb c) = 0 := fun z => by rw [l0, nIeq (by omega) (by omega)] at z; omega
    rw [if_neg e1, if_neg hb]
    by_cases hn : n = 0
    · subst hn
      rw [eq0T rfl, if_pos rfl, if_neg e1, nImod (by omega) (by omega)]
    · have hm := Nat.mod_lt d (show 0 < n by omega)
      have e2 : ¬ nI n = 0 := fun z => by rw [l0, nIeq (by omega) (by omega)] at z; omega
      rw [if_neg e2, if_neg hn, if_neg e2]
      simp (disch := omega) only [r78_7, r78_8, r78_9, r78_10, r78_11, r78_12, r78_13, r78_17, r78_37, r78_38, r78_39, r78_40, r78_41, r78_42, r78_43, r78_44, r78_45, r78_46, r78_47, r78_49, r78_50, r78_53, r78_55, r78_57, r78_58, r78_59, r78_64, r78_65, r78_66, n79, n80, n81, n82, n83, n84, n85, n86, n87, n88, n89, n90, n91, n92, n93, n94, n95, n96, n97, n98, n99, n100, n101, n102, n103, n104, n105, n106, n107, nIc, inbT, nImod]
/-- the reference, between calls -/
def MO (S : am_S) : Prop := sg S 78 51 = -1 ∧ sg S 78 52 = 0
theorem MO_m {S S' : am_S} {b : Nat} (h : MO S) (hf : Fm (mW b) S S') : MO S' := ⟨(hf.1 _ _ (by unfold mW; omega)).trans h.1, (hf.1 _ _ (by unfold mW; omega)).trans h.2⟩
theorem m_dayO {N b d : Nat} {c : Cy} {S : am_S} {r : Nat → Int32} (hN : 10000 ≤ N) (hb : b ≤ 80) (hI : CI c) (hC : CM S c) (hO : MO S) (hR : RM S b (72 + cnp c) r) (hRI : RI c r) (hd : r 0 = nI d) (hd2 : d < 10000) : Rn (f_X10_dayGoes N 78 (nI b) S) (fun S' => RM S' b (72 + cnp c) (dayO c d r) ∧ Fm (mW b) S S' ∧ sg S' 78 54 = dayOF c d r) :=
  m_day hN hb hI hC hR hRI (Vi_cro hI) hd (fun S' hf h0 => m_wetIn hb (CM_m hC hf) (MO_m hO hf).1 hd2 h0) (fun S' hf => m_comesOn hI (CM_m hC hf) (MO_m hO hf).2 hd2)
