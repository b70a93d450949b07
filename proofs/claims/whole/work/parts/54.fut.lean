/-! days that are tried, on either side -/
def KC (S : am_S) (t : Nat) (c : Cy) (r : Rw) : Prop := HC S t ∧ CC S t c ∧ RC S 40 (72 + cnp c) r
def KM (S : am_S) (c : Cy) (r : Rw) : Prop := CM S c ∧ MO S ∧ RM S 0 (72 + cnp c) r
theorem KC_q {S S' : am_S} {t : Nat} {c : Cy} {r : Rw} (h : KC S t c r) (hf : Fm (qC t) S S') : KC S' t c r := by
  have ht := HC_t h.1
  refine ⟨HC_same h.1 (by rw [hf.2]), CC_same h.2.1 (fun a j h1 h2 h3 h4 => hf.1 a j (by unfold qC; omega)), RC_same h.2.2 (fun j => hf.1 _ j (by unfold qC; omega))⟩
theorem KM_q {S S' : am_S} {c : Cy} {r : Rw} (h : KM S c r) (hp : cnp c ≤ 8) (hf : Fm qM S S') : KM S' c r := by
  refine ⟨CM_same h.1 (fun a j ha => hf.1 a j (by unfold mC at ha; unfold qM; omega)), ⟨(hf.1 _ _ (by unfold qM; omega)).trans h.2.1.1, (hf.1 _ _ (by unfold qM; omega)).trans h.2.1.2⟩, RM_same h.2.2 (fun j hj => hf.1 _ _ (by unfold qM; omega))⟩
theorem q_dW {S S' : am_S} {t : Nat} (hf : Fr (dW t 42) S S') : Fm (qC t) S S' := Fm_wk (Fm_fr hf) (fun k j h => by unfold dW at h; unfold qC; omega)
theorem q_mW {S S' : am_S} (hf : Fm (mW 80) S S') : Fm qM S S' := Fm_wk hf (fun k j h => by unfold mW at h; unfold qM; omega)
theorem q_mR {S S' : am_S} (hf : Fm (mR 80) S S') : Fm qM S S' := Fm_wk hf (fun k j h => by unfold mR at h; unfold qM; omega)
theorem q_thr {S S' : am_S} {v : Int32} (hf : Fm qM S S') : Fm qM S (sp S' 78 0 v) := Fm_sp hf (Or.inl ⟨rfl, Or.inl rfl⟩)
section
variable {N t k k2 m : Nat} {c : Cy} {S : am_S} {r : Rw}
theorem c_copyFrom (hk : Sk k) (hk2 : Sk k2) (hm : m ≤ 80) (hR : RC S k2 m r) : Rn (f_X7_copyFrom N k k2 S) (fun S' => RC S' k m r ∧ Fr (fun a => a = k + 1) S S' ∧ ∀ j, j < 80 → sg S' (k + 1) j = sg S (k2 + 1) j) := by
  unfold f_X7_copyFrom
  rw [hk.1.1, hk.1.2, hk2.1.1, hk2.1.2, l0, l80, cpkT (by omega) (by omega) (by omega) (by omega), nIc (by omega), nIc (by omega)]
  have e : ∀ j, j < 80 → sg (scp S (k2 + 1) 0 (k + 1) 0 80) (k + 1) j = sg S (k2 + 1) j := fun j hj => by
    rw [sg_scp, if_pos ⟨rfl, by omega, by omega⟩]
    congr 1
    omega
  refine Rn_ret ⟨fun j hj => ?_, ⟨fun a j ha => ?_, rfl⟩, e⟩
  · rw [e _ (pm_lt (by omega))]
    exact hR j hj
  · rw [sg_scp, if_neg (fun z => ha z.1)]
theorem m_tries (hN : 10000 ≤ N) (hm : m ≤ 80) (hR : RM S 0 m r) : Rn (f_X10_tries N 78 S) (fun S' => RM S' 80 m r ∧ Fm (mR 80) S S') := by
  unfold f_X10_tries
  refine lp0 (fun n (s : am_S) i => b_X10_tries_2 N n 78 i s) (fun i s => (∀ j, j < i → sg s 96 (80 + j) = sg S 96 j) ∧ Fm (mR 80) S s) _ 80 ?_ ?_ N S (by omega) ⟨fun j hj => by omega, Fm_rf _ _⟩
  · intro n s hs
    show Rn (b_X10_tries_2 N (n + 1) 78 (nI 80) s) _
    unfold b_X10_tries_2
    rw [l80, leT (Nat.le_refl _) (by omega)]
    refine Rn_ret ⟨fun j hj => ?_, hs.2⟩
    rw [hs.1 j (by omega), ← hR j hj, Nat.zero_add]
  · intro n i s hi hs ih
    show Rn (b_X10_tries_2 N (n + 1) 78 (nI i) s) _
    unfold b_X10_tries_2
    rw [l80, leF (by omega) (by omega), nIa, r78_46, n96, inbT (by omega) (by decide), inbT (by omega) (by decide), nIc (by omega), nIc (by omega), nI1]
    refine ih _ ⟨fun j hj => ?_, Fm_sp hs.2 ⟨rfl, by omega, by omega⟩⟩
    by_cases q : j = i
    · subst q
      rw [sgp]
      exact hs.2.1 _ _ (by unfold mR; omega)
    · rw [sgj (by omega)]
      exact hs.1 j (by omega)
theorem m_daysGo {n d : Nat} (hN : 10000 ≤ N) (hI : CI c) (hC : CM S c) (hO : MO S) (hR : RM S 80 (72 + cnp c) r) (hRI : RI c r) (hd : r 0 = nI d) (hd2 : d + n < 4999) : Rn (f_X10_daysGo N 78 (nI n) S) (fun S' => RM S' 80 (72 + cnp c) (dys c d r n) ∧ Fm (mW 80) S S') := by
  unfold f_X10_daysGo
  refine lp0 (fun m (s : am_S) i => b_X10_daysGo_2 N m 78 (nI n) i s) (fun i s => RM s 80 (72 + cnp c) (dys c d r i) ∧ Fm (mW 80) S s) _ n ?_ ?_ N S (by omega) ⟨hR, Fm_rf _ _⟩
  · intro m s hs
    show Rn (b_X10_daysGo_2 N (m + 1) 78 (nI n) (nI n) s) _
    unfold b_X10_daysGo_2
    rw [leT (Nat.le_refl _) (by omega)]
    exact Rn_ret hs
  · intro m i s hi hs ih
    show Rn (b_X10_daysGo_2 N (m + 1) 78 (nI n) (nI i) s) _
    unfold b_X10_daysGo_2
    rw [leF (by omega) (by omega), nI1, l80]
    obtain ⟨i1, i2, -, -⟩ := dys_in hI hRI hd i (by omega)
    refine Rn_bv (Rn_mono (m_dayO hN (by omega) hI (CM_m hC hs.2) (MO_m hO hs.2) hs.1 i1 i2 (by omega)) (fun S' h => ?_))
    exact ih S' ⟨h.1, Fm_tr hs.2 h.2.1⟩
theorem CM_r {S S' : am_S} (h : CM S c) (hf : Fm (mR 80) S S') : CM S' c := CM_m h (Fm_wk hf mR_W)
theorem MO_r {S S' : am_S} (h : MO S) (hf : Fm (mR 80) S S') : MO S' := MO_m h (Fm_wk hf mR_W)
theorem m_goesTo {n d : Nat} (hN : 10000 ≤ N) (hI : CI c) (hK : KM S c r) (hRI : RI c r) (hd : r 0 = nI d) (hd2 : d + n < 4999) : Rn (f_X10_goesTo N 78 (nI n) S) (fun S' => RM S' 80 (72 + cnp c) (dys c d r n) ∧ Fm (mW 80) S S') := by
  have hnp := hI.1.2
  unfold f_X10_goesTo
  refine Rn_bv (Rn_mono (m_tries hN (by omega) hK.2.2) (fun S1 h1 => ?_))
  refine Rn_bv (Rn_mono (m_daysGo hN hI (CM_r hK.1 h1.2) (MO_r hK.2.1 h1.2) h1.1 hRI hd hd2) (fun S2 h2 => ?_))
  exact Rn_ret ⟨h2.1, Fm_tr (Fm_wk h1.2 mR_W) h2.2⟩
theorem c_ahead (hI : CI c) (hK : KC S t c r) : Rn (f_X7_copyFrom N 42 40 S) (fun S' => KC S' t c r ∧ RC S' 42 (72 + cnp c) r ∧ Fm (qC t) S S') := by
  have hnp := hI.1.2
  refine Rn_mono (c_copyFrom Sk42 Sk40 (by omega) hK.2.2) (fun S' h => ?_)
  have hf : Fm (qC t) S S' := Fm_wk (Fm_fr h.2.1) (fun k j hk => Or.inl hk)
  exact ⟨KC_q hK hf, h.1, hf⟩
/-- a day of the future -/
theorem c_fday {d : Nat} {f : Rw} (hN : 10000 ≤ N) (hI : CI c) (hK : KC S t c r) (hF : RC S 42 (72 + cnp c) f) (hRI : RI c f) (hd : f 0 = nI d) (hd2 : d < 4999) : Rn (f_X1_passDay N t 42 S) (fun q => q.1 = dayOF c d f ∧ KC q.2 t c r ∧ RC q.2 42 (72 + cnp c) (dayO c d f) ∧ Fm (qC t) S q.2) :=
  Rn_mono (c_passDay hN hK.1.2.1 Sk42 hI hK.2.1 hF hRI hd (by omega)) (fun q h => ⟨h.1, KC_q hK (q_dW h.2.2), h.2.1, q_dW h.2.2⟩)
def ftc (c : Cy) (d : Nat) (r : Rw) : Nat → Int32 := sI (fun i => dayOF c (d + i) (dys c d r i))
theorem c_lookAhead {n d : Nat} (hN : 10000 ≤ N) (hI : CI c) (hK : KC S t c r) (hRI : RI c r) (hd : r 0 = nI d) (hd2 : d + n < 4999) : Rn (f_X9_lookAhead N 0 (nI n) S) (fun q => q.1 = ftc c d r n ∧ KC q.2 t c r ∧ RC q.2 42 (72 + cnp c) (dys c d r n) ∧ Fm (qC t) S q.2) := by
  unfold f_X9_lookAhead
  rw [r0_7, r0_8]
  refine Rn_bv (Rn_mono (c_ahead hI hK) (fun S1 h1 => ?_))
  refine lp0 (fun m (s : Int32 × am_S) i => b_X9_lookAhead_15 N m 0 (nI n) s.1 i s.2) (fun i s => s.1 = ftc c d r i ∧ KC s.2 t c r ∧ RC s.2 42 (72 + cnp c) (dys c d r i) ∧ Fm (qC t) S s.2) _ n ?_ ?_ N (0, S1) (by omega) ⟨rfl, h1.1, h1.2.1, h1.2.2⟩
  · intro m s hs
    show Rn (b_X9_lookAhead_15 N (m + 1) 0 (nI n) s.1 (nI n) s.2) _
    unfold b_X9_lookAhead_15
    rw [leT (Nat.le_refl _) (by omega)]
    exact Rn_ret hs
  · intro m i s hi hs ih
    show Rn (b_X9_lookAhead_15 N (m + 1) 0 (nI n) s.1 (nI i) s.2) _
    unfold b_X9_lookAhead_15
    obtain ⟨g1, g2, g3, g4⟩ := hs
    obtain ⟨i1, i2, -, -⟩ := dys_in hI hRI hd i (by omega)
    rw [leF (by omega) (by omega), g_isC g2.1, g2.1.1, r0_8, nI1]
    refine Rn_bd (Rn_mono (c_fday hN hI g2 g3 i1 i2 (by omega)) (fun q h => ?_))
    refine ih (s.1 + q.1, q.2) ⟨?_, h.2.1, h.2.2.1, Fm_tr g4 h.2.2.2⟩
    show s.1 + q.1 = _
    rw [g1, h.1]
    rfl
end
/-- a question, answered on both sides -/
def mok (cd : Nat → Int32) (A : Int32 ⊕ Nat) (q : Int32 × am_S) : Prop := match A with
  | .inl v => q.1 = v ∧ sg q.2 78 0 = 0
  | .inr e => sg q.2 78 0 = cd e
def Jq (t : Nat) (c : Cy) (r : Rw) (fc : am_S → Option am_T) (fm : am_S → Option (Int32 × am_S)) (cd : Nat → Int32) : Prop := ∃ A : Int32 ⊕ Nat, (∀ S, KC S t c r → Rn (fc S) (fun q => q.1 = A ∧ Fm (qC t) S q.2)) ∧ (∀ S, KM S c r → Rn (fm S) (fun q => mok cd A q ∧ Fm qM S q.2))
theorem KM_0 {S : am_S} {c : Cy} {r : Rw} (h : KM S c r) (hp : cnp c ≤ 8) : KM (sp S 78 0 0) c r ∧ sg (sp S 78 0 0) 78 0 = 0 ∧ Fm qM S (sp S 78 0 0) := ⟨KM_q h hp (q_thr (Fm_rf _ _)), sgp _ _ _ _, q_thr (Fm_rf _ _)⟩
theorem q_0 {S S' : am_S} {P : Prop} (h : Fm qM (sp S 78 0 0) S') : Fm qM S S' := Fm_tr (q_thr (Fm_rf _ _)) h
section
variable {N t : Nat} {c : Cy} {r : Rw}
def cd2 : Nat → Int32 := fun e => nI (e + 1)
def cd1 : Nat → Int32 := fun _ => 1
theorem j_held {x p : Int32} (hI : CI c) : Jq t c r (f_X9_held N 0 x p) (f_X10_held N 78 x p) cd2 := by
  have hnb := hI.1.1
  have hnp := hI.1.2
  by_cases h1 : vB x (cnb c)
  · by_cases h2 : vB p (cnp c)
    · obtain ⟨i, hi, e1⟩ := vB_n h1 (by omega)
      obtain ⟨j, hj, e2⟩ := vB_n h2 (by omega)
      refine ⟨.inl (r (8 + 8 * i + j)), fun S hK => ?_, fun S hK => ?_⟩
      · unfold f_X9_held
        rw [(g_box hK.1 hK.2.1).1 h1, bt_inl, (g_person hK.1 hK.2.1).1 h2, bt_inl, e1, e2, r0_7, r_heldOf hI Sk40 hK.2.2 hi hj, bd_some]
        exact Rn_ret ⟨rfl, Fm_rf _ _⟩
      · obtain ⟨k1, k2, k3⟩ := KM_0 hK hnp
        unfold f_X10_held b_X10_held_38 b_X10_held_39
        rw [(h_box k2 k1.1.1.1).1 h1, bd_some, if_neg (by decide), (h_person k2 k1.1.1.2).1 h2, bd_some, if_neg (by decide), e1, e2]
        have e3 := RM_hd k1.2.2 (by omega) (x := i) (p := j) (by omega) (by omega)
        rw [Nat.zero_add] at e3
        rw [l8, nIm, nIa, nIa, r78_46, n96, inbT (by omega) (by decide), nIc (by omega), e3]
        exact Rn_ret ⟨⟨rfl, k2⟩, k3⟩
    · refine ⟨.inr 0, fun S hK => ?_, fun S hK => ?_⟩
      · unfold f_X9_held
        rw [(g_box hK.1 hK.2.1).1 h1, bt_inl, (g_person hK.1 hK.2.1).2 h2, bt_inr]
        exact Rn_ret ⟨rfl, Fm_rf _ _⟩
      · obtain ⟨k1, k2, k3⟩ := KM_0 hK hnp
        unfold f_X10_held b_X10_held_38 b_X10_held_39
        rw [(h_box k2 k1.1.1.1).1 h1, bd_some, if_neg (by decide), (h_person k2 k1.1.1.2).2 h2, bd_some, if_pos rfl]
        exact Rn_ret ⟨sgp _ _ _ _, q_thr k3⟩
  · refine ⟨.inr 0, fun S hK => ?_, fun S hK => ?_⟩
    · unfold f_X9_held
      rw [(g_box hK.1 hK.2.1).2 h1, bt_inr]
      exact Rn_ret ⟨rfl, Fm_rf _ _⟩
    · obtain ⟨k1, k2, k3⟩ := KM_0 hK hnp
      unfold f_X10_held b_X10_held_38 b_X10_held_39
      rw [(h_box k2 k1.1.1.1).2 h1, bd_some, if_pos rfl]
      exact Rn_ret ⟨sgp _ _ _ _, q_thr k3⟩
end
