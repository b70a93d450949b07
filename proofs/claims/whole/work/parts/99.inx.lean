/-! what a line that is read well keeps -/
section
theorem rl_box {b : Tx} {x : Ft} {c : Cp} : (sBox b x c).2.2.2 = c.2.2 := by
  by_cases z : (aN b 99 (aN b 30 (aS b (if pnb c < 6 then x else aF 2 x)))).1 = 0
  · have e : (sBox b x c).2 = adB c (num b (aS b (if pnb c < 6 then x else aF 2 x)).2) (num b (aN b 30 (aS b (if pnb c < 6 then x else aF 2 x))).2) := if_pos z
    rw [e]; rfl
  · have e : (sBox b x c).2 = c := if_neg z
    rw [e]
theorem rl_per {b : Tx} {x : Ft} {c : Cp} : (sPer b x c).2.2.2 = c.2.2 := by
  by_cases z : (y6 b x c).1 = 0
  · have e : (sPer b x c).2 = adP c (num b (y2 b x c).2) (num b (aN b 30 (y2 b x c)).2) (yAt b x c) := if_pos z
    rw [e]; rfl
  · have e : (sPer b x c).2 = c := if_neg z
    rw [e]
theorem rl_rowR {b : Tx} : ∀ n x c, (rowR b n x c).2.2.2 = c.2.2 := by
  intro n
  induction n with
  | zero => intro x c; rfl
  | succ n ih =>
    intro x c
    unfold rowR
    split
    · split
      · exact (ih _ _).trans rfl
      · rfl
    · rfl
theorem rl_rowW {b : Tx} : ∀ n x c, (rowW b n x c).2.2.2 = c.2.2 := by
  intro n
  induction n with
  | zero => intro x c; rfl
  | succ n ih =>
    intro x c
    unfold rowW
    split
    · split
      · exact (ih _ _).trans rfl
      · rfl
    · rfl
theorem rl_rou {b : Tx} {x : Ft} {c : Cp} : (sRou b x c).2.2.2 = c.2.2 := by
  unfold sRou
  generalize aS b (if 0 < pnr c then aF 5 x else x) = z at *
  split
  · exact rl_rowR _ _ _
  · rfl
theorem rl_wet {b : Tx} {x : Ft} {c : Cp} : (sWet b x c).2.2.2 = c.2.2 := by
  unfold sWet
  generalize aS b (if 0 < pnw c then aF 5 x else x) = z at *
  split
  · exact rl_rowW _ _ _
  · rfl
def RuA (c : Cp) : Prop := RuI AT_ (pth c) ∧ RuI AS_ (pso c)
theorem RuA_R {c : Cp} (h : RuA c) : CpR c := ⟨fun P q => (h.1 P q).2, fun P q => (h.2 P q).2⟩
theorem RuA_e {c d : Cp} (h : RuA c) (e : d.2.2 = c.2.2) : RuA d := by
  unfold RuA pth pso at *
  rw [e]
  exact h
theorem B_ok {b : Tx} {x : Ft} {c : Cp} {tp : Nat} (hb : TxI b) (hG : TkG b x.2) (hx : x.1 = 0) (hR : RuA c) (htp : tp ≤ 2 * x.2.1) (hz : (sBod b x c).1.1 = 0) : TkG b (sBod b x c).1.2 ∧ x.2.1 ≤ (sBod b x c).1.2.1 ∧ RuA (sBod b x c).2 ∧ tpL b x c tp ≤ 2 * (sBod b x c).1.2.1 := by
  have nor : ∀ y : Ft × Cp, sBod b x c = y → ¬ kw (wdn b x.2) = 13 → ¬ kw (wdn b x.2) = 14 → Mv b x y.1 → y.2.2.2 = c.2.2 → TkG b (sBod b x c).1.2 ∧ x.2.1 ≤ (sBod b x c).1.2.1 ∧ RuA (sBod b x c).2 ∧ tpL b x c tp ≤ 2 * (sBod b x c).1.2.1 := by
    intro y e n1 n2 hm he
    have et : tpL b x c tp = tp := by unfold tpL; rw [if_neg n1, if_neg n2]
    rw [e, et]
    obtain ⟨m1, m2⟩ := hm hG
    exact ⟨m1, m2, RuA_e hR he, by omega⟩
  by_cases z1 : kw (wdn b x.2) = 9
  · exact nor (sBox b x c) (by unfold sBod; rw [if_pos z1]) (by omega) (by omega) Mv_box rl_box
  by_cases z2 : kw (wdn b x.2) = 10
  · exact nor (sPer b x c) (by unfold sBod; rw [if_neg z1, if_pos z2]) (by omega) (by omega) Mv_per rl_per
  by_cases z3 : kw (wdn b x.2) = 12
  · exact nor (sRou b x c) (by unfold sBod; rw [if_neg z1, if_neg z2, if_pos z3]) (by omega) (by omega) Mv_rou rl_rou
  by_cases z4 : kw (wdn b x.2) = 8
  · exact nor (sWet b x c) (by unfold sBod; rw [if_neg z1, if_neg z2, if_neg z3, if_pos z4]) (by omega) (by omega) Mv_wet rl_wet
  by_cases z5 : kw (wdn b x.2) = 13
  · have e : sBod b x c = ((sRul b 0 5 (pth c) x).1, (c.1, c.2.1, ((sRul b 0 5 (pth c) x).2, pso c))) := by unfold sBod; rw [if_neg z1, if_neg z2, if_neg z3, if_neg z4, if_pos z5]
    have h6 := aS_6 hG hx (Or.inl z5)
    rw [e] at hz ⊢
    obtain ⟨P, k1, k2, k3, k4⟩ := R_rul (A := AT_) (lo := 0) (hi := 5) (o := pth c) hb (fun k q1 q2 => ⟨by unfold AT_; omega, by omega⟩) hG hx hz
    have et : tpL b x c tp = tp + clen P + 1 := by unfold tpL; rw [if_pos z5, k1]; rfl
    have hc := clen_le P
    rw [et]
    refine ⟨k3, ?_, ⟨fun Q q => ?_, hR.2⟩, ?_⟩
    · show x.2.1 ≤ (sRul b 0 5 (pth c) x).1.2.1
      omega
    · have q' : (sRul b 0 5 (pth c) x).2 = some Q := q
      rw [k1] at q'
      cases q'
      exact k2
    · show tp + clen P + 1 ≤ 2 * (sRul b 0 5 (pth c) x).1.2.1
      omega
  by_cases z6 : kw (wdn b x.2) = 14
  · have e : sBod b x c = ((sRul b 4 8 (pso c) x).1, (c.1, c.2.1, (pth c, (sRul b 4 8 (pso c) x).2))) := by unfold sBod; rw [if_neg z1, if_neg z2, if_neg z3, if_neg z4, if_neg z5, if_pos z6]
    have h6 := aS_6 hG hx (Or.inr z6)
    rw [e] at hz ⊢
    obtain ⟨P, k1, k2, k3, k4⟩ := R_rul (A := AS_) (lo := 4) (hi := 8) (o := pso c) hb (fun k q1 q2 => ⟨by unfold AS_; omega, by omega⟩) hG hx hz
    have et : tpL b x c tp = tp + clen P + 1 := by unfold tpL; rw [if_neg z5, if_pos z6, k1]; rfl
    have hc := clen_le P
    rw [et]
    refine ⟨k3, ?_, ⟨hR.1, fun Q q => ?_⟩, ?_⟩
    · show x.2.1 ≤ (sRul b 4 8 (pso c) x).1.2.1
      omega
    · have q' : (sRul b 4 8 (pso c) x).2 = some Q := q
      rw [k1] at q'
      cases q'
      exact k2
    · show tp + clen P + 1 ≤ 2 * (sRul b 4 8 (pso c) x).1.2.1
      omega
  exact nor (aF 1 x, c) (by unfold sBod; rw [if_neg z1, if_neg z2, if_neg z3, if_neg z4, if_neg z5, if_neg z6]) z5 z6 Mv_F rfl
/-- all that the next line wants -/
def LI (b : Tx) (x : Ft) (c : Cp) (tp : Nat) : Prop := TkG b x.2 ∧ CpI c ∧ RuA c ∧ tp ≤ 2 * x.2.1
theorem L_ok {b : Tx} {x : Ft} {c : Cp} {tp : Nat} (hb : TxI b) (hx : x.1 = 0) (h : LI b x c tp) (hz : (sLin b x c).1.1 = 0) : LI b (sLin b x c).1 (sLin b x c).2 (tpL b x c tp) ∧ x.2.1 + 1 ≤ (sLin b x c).1.2.1 := by
  obtain ⟨hG, hI, hR, htp⟩ := h
  have hz' : (sEnd b (sBod b x c).1).1 = 0 := hz
  obtain ⟨z1, z2⟩ := sEnd_0 hz'
  obtain ⟨q1, q2, q3, q4⟩ := B_ok hb hG hx hR htp z1
  have e : sEnd b (sBod b x c).1 = aS b (sBod b x c).1 := by unfold sEnd; rw [if_pos z2]
  obtain ⟨w1, w2, w3⟩ := aS_adv (b := b) q1 (by rw [z2]; omega) z1
  have eL : (sLin b x c).1 = aS b (sBod b x c).1 := e
  rw [eL]
  exact ⟨⟨w2, I_bod hI hx, q3, by omega⟩, by omega⟩
end
