/-! a line of a text -/
section
variable {N : Nat}
def sBod (b : Tx) (x : Ft) (c : Cp) : Ft × Cp :=
  if kw (wdn b x.2) = 9 then sBox b x c
  else if kw (wdn b x.2) = 10 then sPer b x c
  else if kw (wdn b x.2) = 12 then sRou b x c
  else if kw (wdn b x.2) = 8 then sWet b x c
  else if kw (wdn b x.2) = 13 then ((sRul b 0 5 (pth c) x).1, (c.1, c.2.1, ((sRul b 0 5 (pth c) x).2, pso c)))
  else if kw (wdn b x.2) = 14 then ((sRul b 4 8 (pso c) x).1, (c.1, c.2.1, (pth c, (sRul b 4 8 (pso c) x).2)))
  else (aF 1 x, c)
def sLin (b : Tx) (x : Ft) (c : Cp) : Ft × Cp := (sEnd b (sBod b x c).1, (sBod b x c).2)
def CpR (c : Cp) : Prop := (∀ P, pth c = some P → P.length ≤ 700 ∧ ¬ P = []) ∧ (∀ P, pso c = some P → P.length ≤ 700 ∧ ¬ P = [])
theorem c_sign {S : am_S} {b : Tx} {y : Ft} (hN : 10000 ≤ N) (hb : TxI b) (h : PCs S b y) : Rn (f_X8_takeSign N 3 59 S) (fun S' => PCs S' b (sEnd b y) ∧ Fm cw6 S S') := by
  have hkd := G_kd h.1.1
  unfold f_X8_takeSign b_X8_takeSign_13 sEnd
  rw [h.2.1.2.2.2.1]
  have k59 : (nI y.2.2.2 = (59 : Int32)) ↔ y.2.2.2 = 59 := nIeq (b := 59) (by omega) (by omega)
  by_cases z : y.2.2.2 = 59
  · rw [if_pos (k59.mpr z), if_pos z]
    exact Rn_bv (Rn_mono (c_S hN hb h) (fun S1 g => Rn_ret g))
  · rw [if_neg (fun q => z (k59.mp q)), if_neg z]
    refine Rn_bv (Rn_mono (c_F (k := 1) (by omega) h) (fun S1 g => ?_))
    exact Rn_bv (Rn_mono (c_S hN hb g.1) (fun S2 g2 => Rn_ret ⟨g2.1, Fm_tr g.2 g2.2⟩))
theorem sEnd_0 {b : Tx} {y : Ft} (h : (sEnd b y).1 = 0) : y.1 = 0 ∧ y.2.2.2 = 59 := by
  by_cases z : y.1 = 0
  · refine ⟨z, Classical.byContradiction (fun q => ?_)⟩
    unfold sEnd at h
    rw [if_neg q, aSf (aF_n (by omega) z)] at h
    exact aF_n (by omega) z h
  · rw [sEnd_f z] at h
    exact absurd h z
theorem ew_pc {t k : Nat} {S S' : am_S} (hk : k = t + 9 ∨ k = t + 12) (h : Fm (eWk k) S S') : Fm (pcW t) S S' := Fm_wk h (fun c j q => by unfold eWk at q; unfold pcW; omega)
theorem c_line {S : am_S} {t : Nat} {b : Tx} {x : Ft} {c : Cp} (hN : 10000 ≤ N) (hb : TxI b) (ht : Ci t) (hI : CpI c) (hR : CpR c) (h : PCs S b x) (hC : CT S t c) : Rn (f_X2_readLine N 2 t S) (fun S' => PCs S' b (sLin b x c).1 ∧ ((sLin b x c).1.1 = 0 → CT S' t (sLin b x c).2) ∧ Fm (pcW t) S S') := by
  have h8 := Ci_8 ht
  have fin : ∀ S1, PCs S1 b (sBod b x c).1 → ((sBod b x c).1.1 = 0 → CT S1 t (sBod b x c).2) → Fm (pcW t) S S1 → Rn (b_X2_readLine_150 N 2 S1) (fun S' => PCs S' b (sLin b x c).1 ∧ ((sLin b x c).1.1 = 0 → CT S' t (sLin b x c).2) ∧ Fm (pcW t) S S') := by
    intro S1 h1 h2 h3
    unfold b_X2_readLine_150
    rw [r2_0]
    exact Rn_bv (Rn_mono (c_sign hN hb h1) (fun S2 g => Rn_ret ⟨g.1, fun q => CT_6 ht (h2 (sEnd_0 q).1) g.2, Fm_tr h3 (cw_pc g.2)⟩))
  obtain ⟨-, -, -, ⟨r12, ru12, r13, ru13, -⟩, -⟩ := id ht
  unfold f_X2_readLine
  rw [r2_0, r2_1, r12, r13]
  rw [c_wd hN hb h (s := 1) (by omega) (by omega), bd_some, show skw 1 = 9 from rfl]
  by_cases z1 : kw (wdn b x.2) = 9
  · rw [if_pos z1, one0]
    have e : sBod b x c = sBox b x c := by unfold sBod; rw [if_pos z1]
    exact Rn_bv (Rn_mono (e ▸ c_box hN hb ht hI h hC) (fun S1 g => fin S1 g.1 (fun _ => g.2.1) g.2.2))
  rw [if_neg z1, zer0, c_wd hN hb h (s := 2) (by omega) (by omega), bd_some, show skw 2 = 10 from rfl]
  by_cases z2 : kw (wdn b x.2) = 10
  · rw [if_pos z2, one0]
    have e : sBod b x c = sPer b x c := by unfold sBod; rw [if_neg z1, if_pos z2]
    exact Rn_bv (Rn_mono (e ▸ c_per hN hb ht hI h hC) (fun S1 g => fin S1 g.1 (fun _ => g.2.1) g.2.2))
  rw [if_neg z2, zer0, c_wd hN hb h (s := 4) (by omega) (by omega), bd_some, show skw 4 = 12 from rfl]
  by_cases z3 : kw (wdn b x.2) = 12
  · rw [if_pos z3, one0]
    have e : sBod b x c = sRou b x c := by unfold sBod; rw [if_neg z1, if_neg z2, if_pos z3]
    exact Rn_bv (Rn_mono (e ▸ c_rou hN hb ht hI h hC) (fun S1 g => fin S1 g.1 (fun _ => g.2.1) g.2.2))
  rw [if_neg z3, zer0, c_wd hN hb h (s := 5) (by omega) (by omega), bd_some, show skw 5 = 8 from rfl]
  by_cases z4 : kw (wdn b x.2) = 8
  · rw [if_pos z4, one0]
    have e : sBod b x c = sWet b x c := by unfold sBod; rw [if_neg z1, if_neg z2, if_neg z3, if_pos z4]
    exact Rn_bv (Rn_mono (e ▸ c_wet hN hb ht hI h hC) (fun S1 g => fin S1 g.1 (fun _ => g.2.1) g.2.2))
  rw [if_neg z4, zer0, c_wd hN hb h (s := 6) (by omega) (by omega), bd_some, show skw 6 = 13 from rfl]
  by_cases z5 : kw (wdn b x.2) = 13
  · rw [if_pos z5, one0]
    have e : sBod b x c = ((sRul b 0 5 (pth c) x).1, (c.1, c.2.1, ((sRul b 0 5 (pth c) x).2, pso c))) := by unfold sBod; rw [if_neg z1, if_neg z2, if_neg z3, if_neg z4, if_pos z5]
    refine Rn_bv (Rn_mono (c_rul (A := AT_) (lo := 0) (hi := 5) (o := pth c) hN hb (Or.inl ⟨rfl, rfl, rfl⟩) (fun k q1 q2 => ⟨by unfold AT_; omega, by omega⟩) ru12 (by omega) hR.1 h hC.2.2.2.2.1) (fun S1 g => fin S1 (by rw [e]; exact g.1) (fun q => ?_) (ew_pc (Or.inl rfl) g.2.2)))
    rw [e] at q ⊢
    have hs : ∀ k j, (t ≤ k ∧ k < t + 9) ∨ (t + 12 ≤ k ∧ k < t + 15) → sg S1 k j = sg S k j := fun k j hk => g.2.2.1 k j (by unfold eWk; omega)
    obtain ⟨⟨⟨a1, a2⟩, a3, a4⟩, ⟨a5, a6⟩, a7, ⟨a8, a9⟩, a10, a11⟩ := hC
    exact ⟨⟨⟨(hs _ _ (by omega)).trans a1, (hs _ _ (by omega)).trans a2⟩, (hs _ _ (by omega)).trans a3, (hs _ _ (by omega)).trans a4⟩, ⟨fun i hi => ⟨(hs _ _ (by omega)).trans (a5 i hi).1, (hs _ _ (by omega)).trans (a5 i hi).2⟩, fun i h1 h2 => (hs _ _ (by omega)).trans (a6 i h1 h2)⟩, fun i hi => ⟨(hs _ _ (by omega)).trans (a7 i hi).1, (hs _ _ (by omega)).trans (a7 i hi).2.1, (hs _ _ (by omega)).trans (a7 i hi).2.2⟩, ⟨fun i hi => (hs _ _ (by omega)).trans (a8 i hi), fun i hi => (hs _ _ (by omega)).trans (a9 i hi)⟩, g.2.1 q, RuC_s a11 (hs _ _ (by omega)) (fun j => hs _ _ (by omega))⟩
  rw [if_neg z5, zer0, c_wd hN hb h (s := 19) (by omega) (by omega), bd_some, show skw 19 = 14 from rfl]
  by_cases z6 : kw (wdn b x.2) = 14
  · rw [if_pos z6, one0]
    have e : sBod b x c = ((sRul b 4 8 (pso c) x).1, (c.1, c.2.1, (pth c, (sRul b 4 8 (pso c) x).2))) := by unfold sBod; rw [if_neg z1, if_neg z2, if_neg z3, if_neg z4, if_neg z5, if_pos z6]
    refine Rn_bv (Rn_mono (c_rul (A := AS_) (lo := 4) (hi := 8) (o := pso c) hN hb (Or.inr ⟨rfl, rfl, rfl⟩) (fun k q1 q2 => ⟨by unfold AS_; omega, by omega⟩) ru13 (by omega) hR.2 h hC.2.2.2.2.2) (fun S1 g => fin S1 (by rw [e]; exact g.1) (fun q => ?_) (ew_pc (Or.inr rfl) g.2.2)))
    rw [e] at q ⊢
    have hs : ∀ k j, (t ≤ k ∧ k < t + 12) → sg S1 k j = sg S k j := fun k j hk => g.2.2.1 k j (by unfold eWk; omega)
    obtain ⟨⟨⟨a1, a2⟩, a3, a4⟩, ⟨a5, a6⟩, a7, ⟨a8, a9⟩, a10, a11⟩ := hC
    exact ⟨⟨⟨(hs _ _ (by omega)).trans a1, (hs _ _ (by omega)).trans a2⟩, (hs _ _ (by omega)).trans a3, (hs _ _ (by omega)).trans a4⟩, ⟨fun i hi => ⟨(hs _ _ (by omega)).trans (a5 i hi).1, (hs _ _ (by omega)).trans (a5 i hi).2⟩, fun i h1 h2 => (hs _ _ (by omega)).trans (a6 i h1 h2)⟩, fun i hi => ⟨(hs _ _ (by omega)).trans (a7 i hi).1, (hs _ _ (by omega)).trans (a7 i hi).2.1, (hs _ _ (by omega)).trans (a7 i hi).2.2⟩, ⟨fun i hi => (hs _ _ (by omega)).trans (a8 i hi), fun i hi => (hs _ _ (by omega)).trans (a9 i hi)⟩, RuC_s a10 (hs _ _ (by omega)) (fun j => hs _ _ (by omega)), g.2.1 q⟩
  rw [if_neg z6, zer0]
  have e : sBod b x c = (aF 1 x, c) := by unfold sBod; rw [if_neg z1, if_neg z2, if_neg z3, if_neg z4, if_neg z5, if_neg z6]
  exact Rn_bv (Rn_mono (c_F (k := 1) (by omega) h) (fun S1 g => fin S1 (by rw [e]; exact g.1) (fun _ => by rw [e]; exact CT_6 ht hC g.2) (cw_pc g.2)))
end
