/-! an order, both sides -/
def cut (c : Cy) (r : Rw) : Rw := fun j => if j < 72 + cnp c then r j else 0
theorem cut_lt {c : Cy} {r : Rw} {j : Nat} (h : j < 72 + cnp c) : cut c r j = r j := if_pos h
def qO (t : Nat) : Nat → Nat → Prop := fun k j => oC t 0 k j ∨ k = 63 ∨ (k = 58 ∧ j = 4)
def OCx (S : am_S) (c : Cy) : Prop := sg S 58 4 = 0 ∨ (sg S 58 4 = 1 ∧ ∃ ρ d, ρ = cut c ρ ∧ RC S 62 (72 + cnp c) ρ ∧ (ρ 0 = nI d ∧ d ≤ 999) ∧ sg S 58 3 = (bst c d ρ).1 ∧ ∀ i, i < cnb c → sg S 61 i = nI (gq (bst c d ρ).2 i))
theorem OCx_same {S S' : am_S} {c : Cy} (h : OCx S c) (hs : ∀ k j, k = 58 ∨ k = 61 ∨ k = 63 → sg S' k j = sg S k j) : OCx S' c := by
  rcases h with h | ⟨h1, ρ, d, h2, h3, h4, h5, h6⟩
  · exact Or.inl ((hs _ _ (by omega)).trans h)
  · exact Or.inr ⟨(hs _ _ (by omega)).trans h1, ρ, d, h2, RC_same h3 (fun j => hs _ _ (by omega)), h4, (hs _ _ (by omega)).trans h5, fun i hi => (hs _ _ (by omega)).trans (h6 i hi)⟩
section
variable {N t : Nat} {c : Cy} {S : am_S} {r : Rw}
theorem cut_RI (h : RI c r) (hI : CI c) : RI c (cut c r) := by
  have hnp := hI.1.2
  obtain ⟨⟨d, a0, a1⟩, a2, a3, a4, a5, a6⟩ := h
  refine ⟨⟨d, a0, ?_⟩, ?_, fun y hy => ?_, fun y q hy hq => ?_, fun q hq => ?_, fun q hq => ?_⟩
  · rw [cut_lt (by omega)]; exact a1
  · rw [cut_lt (by omega)]; exact a2
  · rw [cut_lt (by omega)]; exact a3 y hy
  · rw [cut_lt (by omega)]; exact a4 y q hy hq
  · rw [cut_lt (by omega), cut_lt (by omega)]; exact a5 q hq
  · rw [cut_lt (by omega)]; exact a6 q hq
theorem cut_cut : cut c (cut c r) = cut c r := by
  funext j
  unfold cut
  by_cases h : j < 72 + cnp c
  · rw [if_pos h]
  · rw [if_neg h, if_neg h]
theorem KC_cut (h : KC S t c r) : KC S t c (cut c r) := ⟨h.1, h.2.1, fun j hj => by rw [cut_lt hj]; exact h.2.2 j hj⟩
theorem KM_cut (h : KM S c r) : KM S c (cut c r) := ⟨h.1, h.2.1, fun j hj => by rw [cut_lt hj]; exact h.2.2 j hj⟩
theorem fold_nn {d : Nat} (hI : CI c) (hRI : RI c r) (hd0 : r 0 = nI d) (hd : d ≤ 999) : ∀ (L : List (List Nat)) (a : Int32 × List Nat), (∀ x, x ∈ L → okP (cnb c) x = true) → (¬ a.1 = -1 ∨ ¬ L = []) → ¬ (L.foldl (wgf c d r) a).1 = -1 := by
  intro L
  induction L with
  | nil =>
    intro a _ h
    rcases h with h | h
    · exact h
    · exact absurd rfl h
  | cons x L ih =>
    intro a hok _
    refine ih _ (fun y hy => hok y (List.mem_cons_of_mem _ hy)) (Or.inl ?_)
    obtain ⟨p1, p2, p3⟩ := hpr_in hI hRI hd0 hd (hok x List.mem_cons_self)
    intro z
    unfold wgf at z
    by_cases y : hpr c d r x ≤ a.1
    · rw [if_pos y] at z
      have := Int32.le_iff_toInt_le.mp y
      rw [z, tm1] at this
      omega
    · rw [if_neg y] at z
      have z2 : hpr c d r x = -1 := z
      rw [z2, tm1] at p2
      omega
theorem KC_qO {S S' : am_S} (h : KC S t c r) (hf : Fm (qO t) S S') : KC S' t c r := by
  have ht := HC_t h.1
  exact ⟨HC_same h.1 (by rw [hf.2]), CC_same h.2.1 (fun a j h1 h2 h3 h4 => hf.1 a j (by unfold qO oC; omega)), RC_same h.2.2 (fun j => hf.1 _ _ (by unfold qO oC; omega))⟩
/-- the search done anew -/
theorem c_srch {d : Nat} (hN : 10000 ≤ N) (hI : CI c) (hb0 : 0 < cnb c) (hK : KC S t c r) (hRI : RI c r) (hd0 : r 0 = nI d) (hd : d ≤ 999) : Rn (b_X4_search_21 N 58 t 40 S) (fun S' => Fm (qO t) S S' ∧ sg S' 58 4 = 1 ∧ RC S' 62 (72 + cnp c) r ∧ sg S' 58 3 = (bst c d r).1 ∧ ∀ i, i < cnb c → sg S' 61 i = nI (gq (bst c d r).2 i)) := by
  have hnb := hI.1.1
  have hnp := hI.1.2
  have ht := HC_t hK.1
  have hS0 : Sk 62 := SkL (i := 0) (by omega)
  unfold b_X4_search_21
  rw [r58_0, n59, inb0T (by decide) (by decide), c00]
  refine Rn_bv (Rn_mono (c_copyFrom hS0 Sk40 (by omega) hK.2.2) (fun S1 h1 => ?_))
  have f1 : Fm (qO t) S (sp (sp S1 58 3 (-1)) 58 4 1) := Fm_sp (Fm_sp (Fm_wk (Fm_fr h1.2.1) (fun k j hk => by unfold qO; omega)) (by unfold qO oC; omega)) (by unfold qO; omega)
  have hk1 := KC_qO hK f1
  have hR1 : RC (sp (sp S1 58 3 (-1)) 58 4 1) 62 (72 + cnp c) r := RC_o (RC_o h1.1 (by omega)) (by omega)
  have hB : Bst (sp (sp S1 58 3 (-1)) 58 4 1) c (-1, []) := ⟨by rw [sgj (by omega), sgp], Or.inl rfl⟩
  refine Rn_bv (Rn_mono (c_try hN hK.1.2.1 hI hRI hd0 hd (cnb c) 8 0 0 [] (-1, []) _ (by omega) (by omega) (by omega) rfl (fun j hj => by omega) hk1.2.1 hR1 (fun j hj => by omega) hB) (fun S2 h2 => ?_))
  have e : ((dfs (cnb c) (cnb c) 0).map (fun s => [] ++ s)) = prm (cnb c) := by
    unfold prm
    exact List.map_id' _
  rw [e] at h2
  have hb : ((prm (cnb c)).foldl (wgf c d r) (-1, [])) = bst c d r := rfl
  rw [hb] at h2
  have hne : ¬ (bst c d r).1 = -1 := by
    refine fold_nn hI hRI hd0 hd _ _ (fun x hx => List.all_eq_true.mp (prm_ok (cnb c) (by omega)) x hx) (Or.inr (fun z => ?_))
    have := prm_0 (cnb c) (by omega)
    rw [z] at this
    cases this
  refine Rn_ret ⟨Fm_tr f1 (Fm_wk h2.2 (fun k j hk => Or.inl hk)), (h2.2.1 _ _ (by unfold oC; omega)).trans (sgp _ _ _ _), RC_same hR1 (fun j => h2.2.1 _ _ (by unfold oC; omega)), h2.1.1, ?_⟩
  rcases h2.1.2 with z | z
  · exact absurd z hne
  · exact z
theorem c_like {k k2 : Nat} (hN : 10000 ≤ N) (hk : Sk k) (hk2 : Sk k2) : f_X7_isLike N k k2 S = some (bI (!(anyN (fun j => !(decide (sg S (k + 1) j = sg S (k2 + 1) j))) 80)), S) := by
  unfold f_X7_isLike
  have h := lp_any (fun n i => b_X7_isLike_2 N n k k2 i S) (fun j => !(decide (sg S (k + 1) j = sg S (k2 + 1) j))) 80 (some (0, S)) (some (1, S)) (fun n => by
    show b_X7_isLike_2 N (n + 1) k k2 (nI 80) S = _
    unfold b_X7_isLike_2
    rw [l80, leT (Nat.le_refl _) (by omega)]) (fun n i hi hh => by
    show b_X7_isLike_2 N (n + 1) k k2 (nI i) S = b_X7_isLike_2 N n k k2 (nI (i + 1)) S
    have hh2 : sg S (k + 1) i = sg S (k2 + 1) i := by simpa using hh
    rw [b_X7_isLike_2, l80, leF (by omega) (by omega), hk.1.1, hk.1.2, hk2.1.1, hk2.1.2, inbT (by omega) (by decide), inbT (by omega) (by decide), nIc (by omega), if_pos hh2, nI1]) (fun n i hi hh => by
    show b_X7_isLike_2 N (n + 1) k k2 (nI i) S = _
    have hh2 : ¬ sg S (k + 1) i = sg S (k2 + 1) i := by simpa using hh
    unfold b_X7_isLike_2
    rw [l80, leF (by omega) (by omega), hk.1.1, hk.1.2, hk2.1.1, hk2.1.2, inbT (by omega) (by decide), inbT (by omega) (by decide), nIc (by omega), if_neg hh2]) N (by omega)
  refine h.trans ?_
  cases anyN (fun j => !(decide (sg S (k + 1) j = sg S (k2 + 1) j))) 80 <;> rfl
theorem c_search {d : Nat} (hN : 10000 ≤ N) (hI : CI c) (hb0 : 0 < cnb c) (hK : KC S t c r) (hO : OCx S c) (hRI : RI c r) (hr : r = cut c r) (hd0 : r 0 = nI d) (hd : d ≤ 999) : Rn (f_X4_search N 58 t 40 S) (fun S' => Fm (qO t) S S' ∧ sg S' 58 4 = 1 ∧ RC S' 62 (72 + cnp c) r ∧ sg S' 58 3 = (bst c d r).1 ∧ ∀ i, i < cnb c → sg S' 61 i = nI (gq (bst c d r).2 i)) := by
  have hnp := hI.1.2
  have hS0 : Sk 62 := SkL (i := 0) (by omega)
  unfold f_X4_search
  rcases hO with h | ⟨h1, ρ, d', h2, h3, h4, h5, h6⟩
  · rw [if_pos h]
    exact c_srch hN hI hb0 hK hRI hd0 hd
  · rw [if_neg (by rw [h1]; decide), r58_0, n59, inb0T (by decide) (by decide), c00, c_like hN hS0 Sk40, bd_some]
    cases hl : anyN (fun j => !(decide (sg S (62 + 1) j = sg S (40 + 1) j))) 80 with
    | true =>
      rw [if_pos (by decide)]
      exact c_srch hN hI hb0 hK hRI hd0 hd
    | false =>
      rw [if_neg (by decide)]
      have hall : ∀ j, j < 80 → sg S 63 j = sg S 41 j := fun j hj => by
        by_cases z : sg S 63 j = sg S 41 j
        · exact z
        · exfalso
          have := anyN_of (hit := fun j => !(decide (sg S (62 + 1) j = sg S (40 + 1) j))) (i := j) (by show (!(decide (sg S 63 j = sg S 41 j))) = true; rw [decide_eq_false z]; rfl) 80 hj
          rw [hl] at this
          cases this
      have eρ : ρ = r := by
        rw [h2, hr]
        funext j
        unfold cut
        by_cases z : j < 72 + cnp c
        · rw [if_pos z, if_pos z, ← h3 j z, ← hK.2.2 j z]
          exact hall _ (pm_lt (by omega))
        · rw [if_neg z, if_neg z]
      have ed : d' = d := by
        obtain ⟨h7, h8⟩ := h4
        rw [eρ, hd0] at h7
        exact ((nIeq (by omega) (by omega)).mp h7).symm
      rw [eρ, ed] at h5 h6
      rw [eρ] at h3
      exact Rn_ret ⟨Fm_rf _ _, h1, h3, h5, h6⟩
theorem j_order {w : Int32} (hN : 10000 ≤ N) (hI : CI c) (hW : WR c r) : ∃ A : Int32 ⊕ Nat, (∀ S, KC S t c r → OCx S c → Rn (f_X9_order N 0 w S) (fun q => q.1 = A ∧ Fm (qO t) S q.2 ∧ OCx q.2 c)) ∧ (∀ S, KM S c r → Rn (f_X10_order N 78 w S) (fun q => mok cd2 A q ∧ Fm qM S q.2)) := by
  have hnb := hI.1.1
  have hnp := hI.1.2
  obtain ⟨hRI0, d, hd, hd00⟩ := hW
  have hRI := cut_RI hRI0 hI
  have hd0 : cut c r 0 = nI d := by rw [cut_lt (by omega)]; exact hd00
  have core : ∀ S, KC S t c r → OCx S c → 0 < cnb c → (w = -1 ∨ ∃ i, i < cnb c ∧ w = nI i) → Rn (b_X9_order_25 N 0 w S) (fun q => q.1 = .inl (ordV c (cut c r) (bst c d (cut c r)) w) ∧ Fm (qO t) S q.2 ∧ OCx q.2 c) := by
    intro S hK hO hb0 hw
    unfold b_X9_order_25 b_X9_order_63
    rw [g_isC hK.1, hK.1.1, r0_15, r0_7]
    refine Rn_bv (Rn_mono (c_search hN hI hb0 (KC_cut hK) hO hRI cut_cut.symm hd0 hd) (fun S1 h => ?_))
    obtain ⟨h1, h2, h3, h4, h5⟩ := h
    have hS0 : Sk 62 := SkL (i := 0) (by omega)
    have hO2 : OCx S1 c := Or.inr ⟨h2, cut c r, d, cut_cut.symm, h3, ⟨hd0, hd⟩, h4, h5⟩
    unfold ordV
    rcases hw with hw | ⟨i, hi, hw⟩
    · unfold f_X4_gained
      rw [if_pos hw, if_pos hw, r58_0, n59, inb0T (by decide) (by decide), c00, c_heardAll hN hS0 h3, bd_some, bd_some, h4]
      exact Rn_ret ⟨rfl, h1, hO2⟩
    · unfold f_X4_boxAt
      rw [hw, if_neg (nIn (by omega)), if_neg (nIn (by omega)), r58_2, n61, inbT (by omega) (by decide), nIc (by omega), bd_some, h5 i hi]
      exact Rn_ret ⟨rfl, h1, hO2⟩
  have mcore : ∀ S, KM S c r → 0 < cnb c → (w = -1 ∨ ∃ i, i < cnb c ∧ w = nI i) → Rn (f_X10_order N 78 w S) (fun q => mok cd2 (.inl (ordV c (cut c r) (bst c d (cut c r)) w)) q ∧ Fm qM S q.2) := by
    intro S hK hb0 hw
    obtain ⟨k1, k2, k3⟩ := KM_0 (KM_cut hK) hnp
    unfold f_X10_order b_X10_order_23 b_X10_order_24
    rw [k1.1.1.1]
    have g1 : ¬ w < -1 := by
      rcases hw with hw | ⟨i, hi, hw⟩
      · rw [hw]; decide
      · rw [hw]
        intro z
        have := Int32.lt_iff_toInt_lt.mp z
        rw [nIi (by omega), tm1] at this
        omega
    have g2 : ¬ nI (cnb c) ≤ w := by
      rcases hw with hw | ⟨i, hi, hw⟩
      · rw [hw]
        intro z
        have := Int32.le_iff_toInt_le.mp z
        rw [nIi (by omega), tm1] at this
        omega
      · rw [hw, nIle (by omega) (by omega)]
        omega
    rw [if_neg g1, if_neg g2, h_right k2, bd_some, if_neg (by decide), k1.1.1.1, eq0F hb0 (by omega)]
    exact Rn_mono (m_order hN hI hb0 k1 hRI hd0 hd hw) (fun q h => ⟨⟨h.1, h.2.2.trans k2⟩, Fm_tr k3 h.2.1⟩)
  by_cases h0 : cnb c = 0
  · have hv : ¬ vB w (cnb c) := fun h => by
      obtain ⟨i, hi, -⟩ := vB_n h (by omega)
      omega
    by_cases h1 : w = -1
    · refine ⟨.inl (-1), fun S hK hO => ?_, fun S hK => ?_⟩
      · unfold f_X9_order
        rw [if_pos h1, g_isC hK.1, hK.1.1, hK.2.1.1.1, h0, if_pos (by decide)]
        exact Rn_ret ⟨rfl, Fm_rf _ _, hO⟩
      · obtain ⟨k1, k2, k3⟩ := KM_0 hK hnp
        unfold f_X10_order b_X10_order_23 b_X10_order_24
        rw [k1.1.1.1, h0, h1, if_neg (by decide), if_neg (by decide), h_right k2, bd_some, if_neg (by decide), k1.1.1.1, h0, if_pos (by decide)]
        exact Rn_ret ⟨⟨rfl, k2⟩, k3⟩
    · refine ⟨.inr 0, fun S hK hO => ?_, fun S hK => ?_⟩
      · unfold f_X9_order
        rw [if_neg h1, (g_box hK.1 hK.2.1).2 hv, bt_inr]
        exact Rn_ret ⟨rfl, Fm_rf _ _, hO⟩
      · obtain ⟨k1, k2, k3⟩ := KM_0 hK hnp
        unfold f_X10_order b_X10_order_23 b_X10_order_24
        rw [k1.1.1.1, h0, h_wrong k2 (by decide), bd_some, if_pos rfl]
        by_cases y : w < -1
        · rw [if_pos y]
          exact Rn_ret ⟨sgp _ _ _ _, q_thr k3⟩
        · rw [if_neg y, if_pos (by
            have y1 : ¬ w.toInt < (-1 : Int32).toInt := fun z => y (Int32.lt_iff_toInt_lt.mpr z)
            have y2 : ¬ w.toInt = (-1 : Int32).toInt := fun z => h1 (Int32.toInt_inj.mp z)
            rw [tm1] at y1 y2
            rw [Int32.le_iff_toInt_le, nIi (by omega)]
            omega)]
          exact Rn_ret ⟨sgp _ _ _ _, q_thr k3⟩
  · by_cases h1 : w = -1
    · refine ⟨_, fun S hK hO => ?_, fun S hK => mcore S hK (by omega) (Or.inl h1)⟩
      unfold f_X9_order
      rw [if_pos h1, g_isC hK.1, hK.1.1, hK.2.1.1.1, eq0F (by omega) (by omega)]
      exact core S hK hO (by omega) (Or.inl h1)
    · by_cases h2 : vB w (cnb c)
      · obtain ⟨i, hi, ei⟩ := vB_n h2 (by omega)
        refine ⟨_, fun S hK hO => ?_, fun S hK => mcore S hK (by omega) (Or.inr ⟨i, hi, ei⟩)⟩
        unfold f_X9_order
        rw [if_neg h1, (g_box hK.1 hK.2.1).1 h2, bt_inl]
        exact core S hK hO (by omega) (Or.inr ⟨i, hi, ei⟩)
      · refine ⟨.inr 0, fun S hK hO => ?_, fun S hK => ?_⟩
        · unfold f_X9_order
          rw [if_neg h1, (g_box hK.1 hK.2.1).2 h2, bt_inr]
          exact Rn_ret ⟨rfl, Fm_rf _ _, hO⟩
        · obtain ⟨k1, k2, k3⟩ := KM_0 hK hnp
          unfold f_X10_order b_X10_order_23 b_X10_order_24
          rw [k1.1.1.1, h_wrong k2 (by decide), bd_some, if_pos rfl]
          by_cases y : w < -1
          · rw [if_pos y]
            exact Rn_ret ⟨sgp _ _ _ _, q_thr k3⟩
          · rw [if_neg y, if_pos (by
              have y1 : ¬ w.toInt < (-1 : Int32).toInt := fun z => y (Int32.lt_iff_toInt_lt.mpr z)
              have y2 : ¬ w.toInt = (-1 : Int32).toInt := fun z => h1 (Int32.toInt_inj.mp z)
              rw [tm1] at y1 y2
              exact le_of_nlt (fun z => h2 ⟨fun x => by
                have := Int32.lt_iff_toInt_lt.mp x
                rw [t0] at this
                omega, z⟩))]
            exact Rn_ret ⟨sgp _ _ _ _, q_thr k3⟩
end
