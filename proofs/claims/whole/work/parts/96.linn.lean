/-! a line of a text, by the model -/
section
variable {N : Nat}
theorem m_sign {S : am_S} {b : Tx} {y : Ft} (hN : 10000 ≤ N) (hb : TxI b) (h : PMs S b y) : Rn (b_X10_line_235 N 78 S) (fun S' => PMs S' b (sEnd b y) ∧ Fl mw6 S S') := by
  unfold b_X10_line_235 f_X10_need b_X10_need_24
  rw [show (59 : Int32) = nI 59 from rfl, m_sgn hb h (by omega), bd_some, m_good h, bd_some]
  by_cases z : y.1 = 0
  · rw [if_pos z, one0]
    unfold sEnd
    by_cases w : y.2.2.2 = 59
    · rw [if_pos w, one0, if_pos w]
      exact Rn_bv (Rn_bv (Rn_mono (m_S hN hb h z) (fun S1 g => Rn_ret (Rn_ret g))))
    · rw [if_neg w, zer0, if_neg w, aSf (aF_n (by omega) z)]
      exact Rn_bv (Rn_bv (Rn_mono (m_F (k := 1) (by omega) h) (fun S1 g => Rn_ret (Rn_ret g))))
  · rw [if_neg z, zer0, sEnd_f z]
    exact Rn_bv (Rn_ret (Rn_ret ⟨h, Fl_rf _ _⟩))
/-- what the top of the code is behind a line -/
def tpL (b : Tx) (x : Ft) (c : Cp) (tp : Nat) : Nat :=
  if kw (wdn b x.2) = 13 then tp + clen ((sRul b 0 5 (pth c) x).2.getD []) + 1
  else if kw (wdn b x.2) = 14 then tp + clen ((sRul b 4 8 (pso c) x).2.getD []) + 1
  else tp
theorem m_line {S : am_S} {b : Tx} {x : Ft} {c : Cp} {tp : Nat} (hN : 10000 ≤ N) (hb : TxI b) (hI : CpI c) (h : PMs S b x) (hx : x.1 = 0) (hC : CTM S tp c) (htp : tp ≤ 2 * x.2.1) : Rn (f_X10_line N 78 S) (fun S' => PMs S' b (sLin b x c).1 ∧ ((sLin b x c).1.1 = 0 → CTM S' (tpL b x c tp) (sLin b x c).2) ∧ Fl pmW S S') := by
  have hkw := kw_le (wdn b x.2)
  have fin : ∀ S1 y, PMs S1 b y → sEnd b y = sEnd b (sBod b x c).1 → ((sBod b x c).1.1 = 0 → CTM S1 (tpL b x c tp) (sBod b x c).2) → Fl pmW S S1 → Rn (b_X10_line_235 N 78 S1) (fun S' => PMs S' b (sLin b x c).1 ∧ ((sLin b x c).1.1 = 0 → CTM S' (tpL b x c tp) (sLin b x c).2) ∧ Fl pmW S S') := by
    intro S1 y h1 h2 h3 h4
    refine Rn_mono (m_sign hN hb h1) (fun S2 g => ⟨?_, fun q => CTM_6 (h3 (sEnd_0 q).1) g.2, Fl_tr h4 (mw_pm g.2)⟩)
    show PMs S2 b (sEnd b (sBod b x c).1)
    rw [← h2]
    exact g.1
  unfold f_X10_line
  rw [m_wd hN hb h, bd_some, show (9 : Int32) = nI 9 from rfl, show (10 : Int32) = nI 10 from rfl, show (12 : Int32) = nI 12 from rfl, show (13 : Int32) = nI 13 from rfl, show (14 : Int32) = nI 14 from rfl]
  by_cases z1 : kw (wdn b x.2) = 9
  · rw [kIT hkw (by omega) z1]
    have e : sBod b x c = sBox b x c := by unfold sBod; rw [if_pos z1]
    have et : tpL b x c tp = tp := by unfold tpL; rw [if_neg (by omega), if_neg (by omega)]
    exact m_box hN hb hI h hC (fun S1 g1 g2 g3 => fin S1 _ g1 (by rw [e]) (fun q => by rw [e] at q ⊢; rw [et]; exact g2 q) g3)
  rw [kIF hkw (by omega) z1]
  by_cases z2 : kw (wdn b x.2) = 10
  · rw [kIT hkw (by omega) z2]
    have e : sBod b x c = sPer b x c := by unfold sBod; rw [if_neg z1, if_pos z2]
    have et : tpL b x c tp = tp := by unfold tpL; rw [if_neg (by omega), if_neg (by omega)]
    exact m_per hN hb hI h hC (fun S1 g1 g2 g3 => fin S1 _ g1 (by rw [e]) (fun q => by rw [e] at q ⊢; rw [et]; exact g2 q) g3)
  rw [kIF hkw (by omega) z2]
  by_cases z3 : kw (wdn b x.2) = 12
  · rw [kIT hkw (by omega) z3]
    have e : sBod b x c = sRou b x c := by unfold sBod; rw [if_neg z1, if_neg z2, if_pos z3]
    have et : tpL b x c tp = tp := by unfold tpL; rw [if_neg (by omega), if_neg (by omega)]
    exact m_rou hN hb hI h hC (fun S1 g1 g2 g3 => fin S1 _ g1 (by rw [e]) (fun q => by rw [e] at q ⊢; rw [et]; exact g2 q) g3)
  rw [kIF hkw (by omega) z3]
  have e8 : (kI (kw (wdn b x.2)) = (8 : Int32)) ↔ kw (wdn b x.2) = 8 := kI_n (n := 8) hkw (by omega)
  by_cases z4 : kw (wdn b x.2) = 8
  · rw [if_pos (e8.mpr z4)]
    have e : sBod b x c = sWet b x c := by unfold sBod; rw [if_neg z1, if_neg z2, if_neg z3, if_pos z4]
    have et : tpL b x c tp = tp := by unfold tpL; rw [if_neg (by omega), if_neg (by omega)]
    exact m_wet hN hb hI h hC (fun S1 g1 g2 g3 => fin S1 _ g1 (by rw [e]) (fun q => by rw [e] at q ⊢; rw [et]; exact g2 q) g3)
  rw [if_neg (fun q => z4 (e8.mp q))]
  by_cases z5 : kw (wdn b x.2) = 13
  · rw [kIT hkw (by omega) z5]
    have e : sBod b x c = ((sRul b 0 5 (pth c) x).1, (c.1, c.2.1, ((sRul b 0 5 (pth c) x).2, pso c))) := by unfold sBod; rw [if_neg z1, if_neg z2, if_neg z3, if_neg z4, if_pos z5]
    refine m_thi hN hb h hx z5 hC htp (fun S1 y g1 g2 g3 g4 => fin S1 y g1 (by rw [e]; exact g2) (fun q => ?_) g4)
    rw [e] at q ⊢
    obtain ⟨-, P, k1, k2⟩ := g3 q
    have et : tpL b x c tp = tp + clen P + 1 := by unfold tpL; rw [if_pos z5, k1]; rfl
    rw [et]
    show CTM S1 _ (c.1, c.2.1, ((sRul b 0 5 (pth c) x).2, pso c))
    rw [k1]
    exact k2
  rw [kIF hkw (by omega) z5]
  by_cases z6 : kw (wdn b x.2) = 14
  · rw [kIT hkw (by omega) z6]
    have e : sBod b x c = ((sRul b 4 8 (pso c) x).1, (c.1, c.2.1, (pth c, (sRul b 4 8 (pso c) x).2))) := by unfold sBod; rw [if_neg z1, if_neg z2, if_neg z3, if_neg z4, if_neg z5, if_pos z6]
    refine m_sou hN hb h hx z6 hC htp (fun S1 y g1 g2 g3 g4 => fin S1 y g1 (by rw [e]; exact g2) (fun q => ?_) g4)
    rw [e] at q ⊢
    obtain ⟨-, P, k1, k2⟩ := g3 q
    have et : tpL b x c tp = tp + clen P + 1 := by unfold tpL; rw [if_neg z5, if_pos z6, k1]; rfl
    rw [et]
    show CTM S1 _ (c.1, c.2.1, (pth c, (sRul b 4 8 (pso c) x).2))
    rw [k1]
    exact k2
  rw [kIF hkw (by omega) z6]
  have e : sBod b x c = (aF 1 x, c) := by unfold sBod; rw [if_neg z1, if_neg z2, if_neg z3, if_neg z4, if_neg z5, if_neg z6]
  have hf1 : ¬ (aF 1 x).1 = 0 := aF_n (by omega) hx
  exact Rn_bv (Rn_mono (m_F (k := 1) (by omega) h) (fun S1 g => fin S1 _ g.1 (by rw [e]) (fun q => absurd (by rw [e] at q; exact q) hf1) (mw_pm g.2)))
end
