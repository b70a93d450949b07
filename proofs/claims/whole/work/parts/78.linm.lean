/-! boxes and people are read by the model -/
section
variable {N : Nat}
theorem sgx {S : am_S} {k j a i : Nat} {v : Int32} (h : ¬ (a = k ∧ i = j)) : sg (sp S k j v) a i = sg S a i := by
  by_cases z : a = k
  · subst z
    exact sgj (fun q => h ⟨rfl, q⟩)
  · exact sgn z
theorem CTM_g {S : am_S} {tp k j : Nat} {v : Int32} {c : Cp} (h : CTM S tp c) (hI : CpI c) (hg : (k = 87 ∧ pnb c ≤ j) ∨ ((k = 88 ∨ k = 89) ∧ pnp c ≤ j) ∨ (k = 92 ∧ 72 + pnp c ≤ j) ∨ (k = 90 ∧ pnr c ≤ j) ∨ (k = 91 ∧ pnw c ≤ j) ∨ k = 94 ∨ k = 95 ∨ (k = 93 ∧ tp ≤ j) ∨ (k = 78 ∧ 33 ≤ j)) : CTM (sp S k j v) tp c := by
  obtain ⟨⟨⟨a1, a2⟩, a3, a4, a12⟩, ⟨a5, a6, a13⟩, a7, ⟨a8, a9⟩, a10, a11⟩ := h
  obtain ⟨⟨i1, i2, i3, i4⟩, -⟩ := hI
  exact ⟨⟨⟨(sgx (by omega)).trans a1, (sgx (by omega)).trans a2⟩, (sgx (by omega)).trans a3, (sgx (by omega)).trans a4, (sgx (by omega)).trans a12⟩, ⟨fun i hi => ⟨(sgx (by omega)).trans (a5 i hi).1, (sgx (by omega)).trans (a5 i hi).2⟩, fun i h1 h2 => (sgx (by omega)).trans (a6 i h1 h2), fun i h1 => (sgx (by omega)).trans (a13 i h1)⟩, fun i hi => ⟨(sgx (by omega)).trans (a7 i hi).1, (sgx (by omega)).trans (a7 i hi).2.1, (sgx (by omega)).trans (a7 i hi).2.2⟩, ⟨fun i hi => (sgx (by omega)).trans (a8 i hi), fun i hi => (sgx (by omega)).trans (a9 i hi)⟩, mru_s a10 (Nat.le_refl _) (sgx (by omega)) (fun j _ => sgx (by omega)), mru_s a11 (Nat.le_refl _) (sgx (by omega)) (fun j _ => sgx (by omega))⟩
theorem m_adB {S : am_S} {tp v r : Nat} {c : Cp} (h : CTM S tp c) (hn : pnb c < 6) (h87 : sg S 87 (pnb c) = nI v) : CTM (sp (sp S 92 (2 + pnb c) (nI r)) 78 26 (nI (pnb c + 1))) tp (adB c v r) := by
  obtain ⟨⟨⟨a1, a2⟩, a3, a4, a12⟩, ⟨a5, a6, a13⟩, a7, ⟨a8, a9⟩, a10, a11⟩ := h
  refine ⟨⟨⟨sgp _ _ _ _, by simp (disch := omega) only [sgp, sgn, sgj]; exact a2⟩, by simp (disch := omega) only [sgp, sgn, sgj]; exact a3, by simp (disch := omega) only [sgp, sgn, sgj]; exact a4, by simp (disch := omega) only [sgp, sgn, sgj]; exact a12⟩, ⟨fun i hi => ?_, fun i h1 h2 => ?_, fun i h1 => by simp (disch := omega) only [sgp, sgn, sgj]; exact a13 i h1⟩, fun i hi => by simp (disch := omega) only [sgp, sgn, sgj]; exact a7 i hi, ⟨fun i hi => by simp (disch := omega) only [sgp, sgn, sgj]; exact a8 i hi, fun i hi => by simp (disch := omega) only [sgp, sgn, sgj]; exact a9 i hi⟩, mru_s a10 (Nat.le_refl _) (by simp (disch := omega) only [sgp, sgn, sgj]) (fun j _ => by simp (disch := omega) only [sgp, sgn, sgj]), mru_s a11 (Nat.le_refl _) (by simp (disch := omega) only [sgp, sgn, sgj]) (fun j _ => by simp (disch := omega) only [sgp, sgn, sgj])⟩
  · have hi' : i < pnb c + 1 := hi
    show _ = nI (upf (pba c) (pnb c) v i) ∧ _ = nI (upf (prd c) (pnb c) r i)
    by_cases z : i = pnb c
    · subst z
      rw [upf_e, upf_e]
      exact ⟨by simp (disch := omega) only [sgp, sgn, sgj]; exact h87, by simp (disch := omega) only [sgp, sgn, sgj]⟩
    · rw [upf_n z, upf_n z]
      exact ⟨by simp (disch := omega) only [sgp, sgn, sgj]; exact (a5 i (by omega)).1, by simp (disch := omega) only [sgp, sgn, sgj]; exact (a5 i (by omega)).2⟩
  · have h1' : pnb c + 1 ≤ i := h1
    simp (disch := omega) only [sgp, sgn, sgj]
    exact a6 i (by omega) h2
theorem m_adP {S : am_S} {tp v r : Nat} {w : Int32} {c : Cp} (h : CTM S tp c) (h88 : sg S 88 (pnp c) = nI v) (h89 : sg S 89 (pnp c) = nI r) (h92 : sg S 92 (72 + pnp c) = w) : CTM (sp S 78 27 (nI (pnp c + 1))) tp (adP c v r w) := by
  obtain ⟨⟨⟨a1, a2⟩, a3, a4, a12⟩, ⟨a5, a6, a13⟩, a7, ⟨a8, a9⟩, a10, a11⟩ := h
  refine ⟨⟨⟨by simp (disch := omega) only [sgp, sgn, sgj]; exact a1, sgp _ _ _ _⟩, by simp (disch := omega) only [sgp, sgn, sgj]; exact a3, by simp (disch := omega) only [sgp, sgn, sgj]; exact a4, by simp (disch := omega) only [sgp, sgn, sgj]; exact a12⟩, ⟨fun i hi => by simp (disch := omega) only [sgp, sgn, sgj]; exact a5 i hi, fun i h1 h2 => by simp (disch := omega) only [sgp, sgn, sgj]; exact a6 i h1 h2, fun i h1 => by simp (disch := omega) only [sgp, sgn, sgj]; exact a13 i h1⟩, fun i hi => ?_, ⟨fun i hi => by simp (disch := omega) only [sgp, sgn, sgj]; exact a8 i hi, fun i hi => by simp (disch := omega) only [sgp, sgn, sgj]; exact a9 i hi⟩, mru_s a10 (Nat.le_refl _) (by simp (disch := omega) only [sgp, sgn, sgj]) (fun j _ => by simp (disch := omega) only [sgp, sgn, sgj]), mru_s a11 (Nat.le_refl _) (by simp (disch := omega) only [sgp, sgn, sgj]) (fun j _ => by simp (disch := omega) only [sgp, sgn, sgj])⟩
  have hi' : i < pnp c + 1 := hi
  show _ = nI (upf (ppa c) (pnp c) v i) ∧ _ = nI (upf (ppe c) (pnp c) r i) ∧ _ = wr (pat c) (pnp c) w i
  by_cases z : i = pnp c
  · subst z
    rw [upf_e, upf_e, wr_eq]
    exact ⟨by simp (disch := omega) only [sgp, sgn, sgj]; exact h88, by simp (disch := omega) only [sgp, sgn, sgj]; exact h89, by simp (disch := omega) only [sgp, sgn, sgj]; exact h92⟩
  · rw [upf_n z, upf_n z, wr_ne z]
    exact ⟨by simp (disch := omega) only [sgp, sgn, sgj]; exact (a7 i (by omega)).1, by simp (disch := omega) only [sgp, sgn, sgj]; exact (a7 i (by omega)).2.1, by simp (disch := omega) only [sgp, sgn, sgj]; exact (a7 i (by omega)).2.2⟩
theorem aF_2 (k : Nat) (x : Ft) : (aF k x).2 = x.2 := by unfold aF; split <;> rfl
theorem m_beg {S : am_S} {b : Tx} {x : Ft} {u v : Nat} (hN : 10000 ≤ N) (hb : TxI b) (h : PMs S b x) (hu : u ≤ 1) (hv : v ≤ 1) : Rn (f_X10_begins N 78 (nI u) (nI v) S) (fun q => q.1 = (if (if v = 0 then (if u = 0 then x else aF 2 x) else aF 5 (if u = 0 then x else aF 2 x)).1 = 0 then 1 else 0) ∧ PMs q.2 b (aS b (if v = 0 then (if u = 0 then x else aF 2 x) else aF 5 (if u = 0 then x else aF 2 x))) ∧ Fl mw6 S q.2) := by
  have last : ∀ S1 y, PMs S1 b y → Fl mw6 S S1 → Rn (b_X10_begins_18 N 78 S1) (fun q => q.1 = (if y.1 = 0 then 1 else 0) ∧ PMs q.2 b (aS b y) ∧ Fl mw6 S q.2) := by
    intro S1 y h1 h2
    unfold b_X10_begins_18
    rw [m_good h1, bd_some]
    by_cases z : y.1 = 0
    · rw [if_pos z, one0]
      exact Rn_bv (Rn_mono (m_S hN hb h1 z) (fun S2 g => Rn_ret ⟨rfl, g.1, Fl_tr h2 g.2⟩))
    · rw [if_neg z, zer0, aSf z]
      exact Rn_ret ⟨rfl, h1, h2⟩
  have mid : ∀ S1 y, PMs S1 b y → Fl mw6 S S1 → Rn (b_X10_begins_9 N 78 (nI v) S1) (fun q => q.1 = (if (if v = 0 then y else aF 5 y).1 = 0 then 1 else 0) ∧ PMs q.2 b (aS b (if v = 0 then y else aF 5 y)) ∧ Fl mw6 S q.2) := by
    intro S1 y h1 h2
    unfold b_X10_begins_9
    by_cases z : v = 0
    · rw [eq0T z, if_pos z]
      exact last S1 y h1 h2
    · rw [eq0F (by omega) (by omega), if_neg z, l5]
      exact Rn_bv (Rn_mono (m_F (by omega) h1) (fun S2 g => last S2 _ g.1 (Fl_tr h2 g.2)))
  unfold f_X10_begins
  by_cases z : u = 0
  · rw [eq0T z, if_pos z]
    exact mid S x h (Fl_rf _ _)
  · rw [eq0F (by omega) (by omega), if_neg z, l2]
    exact Rn_bv (Rn_mono (m_F (by omega) h) (fun S2 g => mid S2 _ g.1 g.2))
theorem m_box {S : am_S} {b : Tx} {x : Ft} {c : Cp} {tp : Nat} {Q : am_S → Prop} (hN : 10000 ≤ N) (hb : TxI b) (hI : CpI c) (h : PMs S b x) (hC : CTM S tp c) (hQ : ∀ S', PMs S' b (sBox b x c).1 → ((sBox b x c).1.1 = 0 → CTM S' tp (sBox b x c).2) → Fl pmW S S' → Rn (b_X10_line_235 N 78 S') Q) : Rn (if (sg S 78 26) = 6 then b_X10_line_26 N 78 78 1 S else b_X10_line_26 N 78 78 0 S) Q := by
  have hnb := hI.1.1
  have go : ∀ u, u ≤ 1 → (if u = 0 then x else aF 2 x) = (if pnb c < 6 then x else aF 2 x) → Rn (b_X10_line_26 N 78 78 (nI u) S) Q := by
    intro u hu he
    unfold b_X10_line_26
    refine Rn_bd (Rn_mono (m_beg (v := 0) hN hb h hu (by omega)) (fun q g => ?_))
    rw [if_pos rfl, he] at g
    generalize hy : (if pnb c < 6 then x else aF 2 x) = y at g
    have hsB : sBox b x c = (aN b 99 (aN b 30 (aS b y)), if (aN b 99 (aN b 30 (aS b y))).1 = 0 then adB c (num b (aS b y).2) (num b (aN b 30 (aS b y)).2) else c) := by unfold sBox; rw [hy]
    rw [hsB] at hQ
    by_cases z : y.1 = 0
    · rw [if_pos z] at g
      rw [g.1, one0]
      have hlt : pnb c < 6 := Classical.byContradiction (fun q => by
        rw [if_neg q] at hy
        rw [← hy] at z
        by_cases w : x.1 = 0
        · rw [aF0 w] at z
          exact absurd z (by show ¬ (2 : Nat) = 0; omega)
        · rw [aFf w] at z
          exact w z)
      unfold f_X10_readsBox b_X10_readsBox_51
      have hC1 := CTM_6 hC g.2.2
      rw [hC1.1.1.1, r78_37, n87, l30, l99, l2]
      refine Rn_bv (Rn_bd (Rn_mono (m_N hN hb (by omega) g.2.1) (fun q2 g2 => ?_)))
      rw [inbT hlt (by omega), nIc (by omega)]
      have hC2 := CTM_6 hC1 g2.2.2
      have hC3 := CTM_g (v := q2.1) hC2 hI (k := 87) (j := pnb c) (by omega)
      have hP3 : PMs (sp q2.2 87 (pnb c) q2.1) b (aN b 30 (aS b y)) := PMs_o g2.2.1 (by omega)
      refine Rn_bd (Rn_mono (m_N hN hb (by omega) hP3) (fun q4 g4 => ?_))
      rw [hC3.1.1.1, nIa, r78_42, n92, inbT (by omega) (by omega), nIc (by omega)]
      have hC4 := CTM_6 hC3 g4.2.2
      have hP5 : PMs (sp q4.2 92 (2 + pnb c) q4.1) b (aN b 99 (aN b 30 (aS b y))) := PMs_o g4.2.1 (by omega)
      have hF : Fl pmW S (sp q4.2 92 (2 + pnb c) q4.1) := Fl_sp (Fl_tr (Fl_sp (Fl_tr (mw_pm g.2.2) (mw_pm g2.2.2)) (Or.inr (by omega))) (mw_pm g4.2.2)) (Or.inr (by omega))
      rw [m_good hP5, bd_some]
      by_cases w : (aN b 99 (aN b 30 (aS b y))).1 = 0
      · rw [if_pos w, one0]
        have h26 : sg (sp q4.2 92 (2 + pnb c) q4.1) 78 26 = nI (pnb c) := by rw [sgn (by omega)]; exact hC4.1.1.1
        rw [h26, nI1]
        refine Rn_ret (hQ _ (PMs_o hP5 (by omega)) (fun _ => ?_) (Fl_sp hF (Or.inl (by omega))))
        rw [if_pos w, g4.1 w]
        refine m_adB hC4 hlt ?_
        rw [g4.2.2.1 _ _ (by unfold mw6; omega), sgp, g2.1 (aN_0 w).1]
      · rw [if_neg w, zer0]
        exact Rn_ret (hQ _ hP5 (fun q => absurd q w) hF)
    · rw [if_neg z] at g
      rw [g.1, zer0]
      have e1 : aS b y = y := aSf z
      rw [e1, aNf z, aNf z] at hQ
      rw [e1] at g
      exact hQ q.2 g.2.1 (fun q => absurd q z) (mw_pm g.2.2)
  rw [hC.1.1.1, l6]
  by_cases z : pnb c = 6
  · rw [eqT z]
    exact go 1 (by omega) (by rw [if_neg (by omega), if_neg (by omega)])
  · rw [eqF z (by omega) (by omega)]
    exact go 0 (by omega) (by rw [if_pos rfl, if_pos (by omega)])
theorem kI_n {k n : Nat} (hk : k ≤ 18) (hn : n < 18) : kI k = nI n ↔ k = n := by
  unfold kI
  split
  · constructor
    · intro q
      exact absurd q.symm (nIn (by omega))
    · intro q
      omega
  · exact nIeq (by omega) (by omega)
theorem kIT {α : Type} {X Y : α} {k n : Nat} {i : Decidable (kI k = nI n)} (hk : k ≤ 18) (hn : n < 18) (h : k = n) : (@ite α (kI k = nI n) i X Y) = X := if_pos ((kI_n hk hn).mpr h)
theorem kIF {α : Type} {X Y : α} {k n : Nat} {i : Decidable (kI k = nI n)} (hk : k ≤ 18) (hn : n < 18) (h : ¬ k = n) : (@ite α (kI k = nI n) i X Y) = Y := if_neg (fun q => h ((kI_n hk hn).mp q))
theorem m_per {S : am_S} {b : Tx} {x : Ft} {c : Cp} {tp : Nat} {Q : am_S → Prop} (hN : 10000 ≤ N) (hb : TxI b) (hI : CpI c) (h : PMs S b x) (hC : CTM S tp c) (hQ : ∀ S', PMs S' b (sPer b x c).1 → ((sPer b x c).1.1 = 0 → CTM S' tp (sPer b x c).2) → Fl pmW S S' → Rn (b_X10_line_235 N 78 S') Q) : Rn (if (sg S 78 27) = 8 then b_X10_line_61 N 78 78 1 S else b_X10_line_61 N 78 78 0 S) Q := by
  have hnp := hI.1.2.1
  have fin : ∀ S1, PMs S1 b (y6 b x c) → ((y6 b x c).1 = 0 → CTM S1 tp c ∧ sg S1 88 (pnp c) = nI (num b (y2 b x c).2) ∧ sg S1 89 (pnp c) = nI (num b (aN b 30 (y2 b x c)).2) ∧ sg S1 92 (72 + pnp c) = yAt b x c) → Fl pmW S S1 → Rn (b_X10_readsPerson_106 N 78 S1) (fun S6 => Rn (b_X10_line_235 N 78 S6) Q) := by
    intro S1 h1 h2 h3
    unfold b_X10_readsPerson_106 b_X10_readsPerson_123
    rw [m_good h1, bd_some]
    unfold sPer at hQ
    by_cases z : (y6 b x c).1 = 0
    · obtain ⟨c1, c2, c3, c4⟩ := h2 z
      rw [if_pos z, one0, c1.1.1.2, nI1]
      refine Rn_ret (hQ _ (PMs_o h1 (by omega)) (fun _ => ?_) (Fl_sp h3 (Or.inl (by omega))))
      rw [if_pos z]
      exact m_adP c1 c2 c3 c4
    · rw [if_neg z, zer0]
      exact Rn_ret (hQ _ h1 (fun q => absurd q z) h3)
  have go : ∀ u, u ≤ 1 → (if u = 0 then x else aF 2 x) = (if pnp c < 8 then x else aF 2 x) → Rn (b_X10_line_61 N 78 78 (nI u) S) Q := by
    intro u hu he
    unfold b_X10_line_61
    refine Rn_bd (Rn_mono (m_beg (v := 0) hN hb h hu (by omega)) (fun q g => ?_))
    rw [if_pos rfl, he] at g
    by_cases z : (if pnp c < 8 then x else aF 2 x).1 = 0
    · rw [if_pos z] at g
      rw [g.1, one0]
      have hlt : pnp c < 8 := Classical.byContradiction (fun q => by
        rw [if_neg q] at z
        by_cases w : x.1 = 0
        · rw [aF0 w] at z
          exact absurd z (by show ¬ (2 : Nat) = 0; omega)
        · rw [aFf w] at z
          exact w z)
      unfold f_X10_readsPerson
      have hC1 := CTM_6 hC g.2.2
      rw [hC1.1.1.2, r78_38, n88, r78_39, n89, l30, l9, l72]
      refine Rn_bv (Rn_bd (Rn_mono (m_N hN hb (by omega) g.2.1) (fun q2 g2 => ?_)))
      rw [inbT hlt (by omega), nIc (by omega), nIa, r78_42, n92]
      have hC2 := CTM_6 hC1 g2.2.2
      have hC3 := CTM_g (v := q2.1) hC2 hI (k := 88) (j := pnp c) (by omega)
      have hP3 : PMs (sp q2.2 88 (pnp c) q2.1) b (aN b 30 (y2 b x c)) := PMs_o g2.2.1 (by omega)
      refine Rn_bd (Rn_mono (m_N hN hb (by omega) hP3) (fun q4 g4 => ?_))
      rw [inbT hlt (by omega), inbT (by omega) (by omega), nIc (by omega)]
      have hC4 := CTM_6 hC3 g4.2.2
      have hC5 := CTM_g (v := (-1 : Int32)) (CTM_g (v := q4.1) hC4 hI (k := 89) (j := pnp c) (by omega)) hI (k := 92) (j := 72 + pnp c) (by omega)
      have hP5 : PMs (sp (sp q4.2 89 (pnp c) q4.1) 92 (72 + pnp c) (-1)) b (y4 b x c) := PMs_o (PMs_o g4.2.1 (by omega)) (by omega)
      have hF : Fl pmW S (sp (sp q4.2 89 (pnp c) q4.1) 92 (72 + pnp c) (-1)) := Fl_sp (Fl_sp (Fl_tr (Fl_sp (Fl_tr (mw_pm g.2.2) (mw_pm g2.2.2)) (Or.inr (by omega))) (mw_pm g4.2.2)) (Or.inr (by omega))) (Or.inr (by omega))
      generalize hS5 : sp (sp q4.2 89 (pnp c) q4.1) 92 (72 + pnp c) (-1) = S5 at *
      have k88 : sg S5 88 (pnp c) = q2.1 := by
        rw [← hS5, sgn (by omega), sgn (by omega), g4.2.2.1 _ _ (by unfold mw6; omega), sgp]
      have k89 : sg S5 89 (pnp c) = q4.1 := by
        rw [← hS5, sgn (by omega), sgp]
      have k92 : sg S5 92 (72 + pnp c) = -1 := by
        rw [← hS5, sgp]
      have vals : (y4 b x c).1 = 0 → q2.1 = nI (num b (y2 b x c).2) ∧ q4.1 = nI (num b (aN b 30 (y2 b x c)).2) := fun w => ⟨g2.1 (aN_0 w).1, g4.1 w⟩
      rw [m_good hP5, bd_some]
      by_cases w : (y4 b x c).1 = 0
      · rw [if_pos w, one0, m_wd hN hb hP5, bd_some, l11]
        by_cases v : kw (wdn b (y4 b x c).2) = 11
        · have hA : isAt b (y4 b x c) := ⟨w, v⟩
          rw [kIT (kw_le _) (by omega) v]
          refine Rn_bv (Rn_mono (m_S hN hb hP5 w) (fun S6 g6 => ?_))
          have hC6 := CTM_6 hC5 g6.2
          have hF6 := Fl_tr hF (mw_pm g6.2)
          have fin2 : ∀ S7, PMs S7 b (y5 b (y4 b x c) (pnp c)) → Fl mw6 S5 S7 → Rn (b_X10_readsPerson_90 N 78 (nI (pnp c)) S7) (fun S' => Rn (b_X10_line_235 N 78 S') Q) := by
            intro S7 k1 k2
            unfold b_X10_readsPerson_90
            rw [l7, l72, nIa, r78_42, n92]
            refine Rn_bd (Rn_mono (m_N hN hb (by omega) k1) (fun q8 g8 => ?_))
            rw [inbT (by omega) (by omega), nIc (by omega)]
            have e6 : y6 b x c = aN b 7 (y5 b (y4 b x c) (pnp c)) := by unfold y6; rw [if_pos hA]
            have eA : yAt b x c = nI (num b (y5 b (y4 b x c) (pnp c)).2) := by unfold yAt; rw [if_pos hA]
            have hC8 := CTM_g (v := q8.1) (CTM_6 (CTM_6 hC5 k2) g8.2.2) hI (k := 92) (j := 72 + pnp c) (by omega)
            refine fin (sp q8.2 92 (72 + pnp c) q8.1) (by rw [e6]; exact PMs_o g8.2.1 (by omega)) (fun z6 => ⟨hC8, ?_, ?_, ?_⟩) (Fl_sp (Fl_tr (Fl_tr hF (mw_pm k2)) (mw_pm g8.2.2)) (Or.inr (by omega)))
            · rw [sgn (by omega), g8.2.2.1 _ _ (by unfold mw6; omega), k2.1 _ _ (by unfold mw6; omega), k88]
              exact (vals w).1
            · rw [sgn (by omega), g8.2.2.1 _ _ (by unfold mw6; omega), k2.1 _ _ (by unfold mw6; omega), k89]
              exact (vals w).2
            · rw [e6] at z6
              rw [sgp, eA]
              exact g8.1 z6
          have hms := ms_lt (aS b (y4 b x c)).2.2.2
          have htl := G_tln hb g6.1.1.1
          have hmv := mvl_lt g6.1.1.1
          rw [g6.1.2.1.2.2.1, l2, g6.1.2.1.2.2.2.2.1, g6.1.2.1.2.2.2.2.2.1, l4]
          have no : ¬ ((aS b (y4 b x c)).2.2.2 = 3 ∧ num b (aS b (y4 b x c)).2 = pnp c) → PMs S6 b (y5 b (y4 b x c) (pnp c)) := by
            intro q
            unfold y5
            rw [if_neg q]
            exact g6.1
          by_cases u1 : (aS b (y4 b x c)).2.2.2 = 3
          · rw [eqT (ms3.mpr u1)]
            by_cases u2 : tln (aS b (y4 b x c)).2 ≤ 4
            · rw [ltF u2 (by omega), mvl_num u1 u2] at *
              by_cases u3 : num b (aS b (y4 b x c)).2 = pnp c
              · rw [eqT u3]
                refine Rn_bv (Rn_mono (m_F (by omega) g6.1) (fun S7 g7 => ?_))
                refine fin2 S7 ?_ (Fl_tr g6.2 g7.2)
                unfold y5
                rw [if_pos ⟨u1, u3⟩]
                exact g7.1
              · rw [eqF u3 (by omega) (by omega)]
                exact fin2 S6 (no (fun q => u3 q.2)) g6.2
            · rw [ltT (by omega) (by omega)]
              exact fin2 S6 (no (fun q => by have := num_4 (b := b) u1 u2; omega)) g6.2
          · rw [eqF (fun q => u1 (ms3.mp q)) (by omega) (by omega)]
            exact fin2 S6 (no (fun q => u1 q.1)) g6.2
        · have hA : ¬ isAt b (y4 b x c) := fun q => v q.2
          rw [kIF (kw_le _) (by omega) v]
          have e6 : y6 b x c = y4 b x c := by unfold y6; rw [if_neg hA]
          have eA : yAt b x c = -1 := by unfold yAt; rw [if_neg hA]
          exact fin S5 (by rw [e6]; exact hP5) (fun _ => ⟨hC5, k88.trans (vals w).1, k89.trans (vals w).2, k92.trans eA.symm⟩) hF
      · have hA : ¬ isAt b (y4 b x c) := fun q => w q.1
        rw [if_neg w, zer0]
        have e6 : y6 b x c = y4 b x c := by unfold y6; rw [if_neg hA]
        exact fin S5 (by rw [e6]; exact hP5) (fun q => absurd (e6 ▸ q) w) hF
    · rw [if_neg z] at g
      rw [g.1, zer0]
      have e1 : aS b (if pnp c < 8 then x else aF 2 x) = (if pnp c < 8 then x else aF 2 x) := aSf z
      have e2 : y2 b x c = (if pnp c < 8 then x else aF 2 x) := e1
      have e4 : y4 b x c = (if pnp c < 8 then x else aF 2 x) := by unfold y4; rw [e2, aNf z, aNf z]
      have e6 : y6 b x c = (if pnp c < 8 then x else aF 2 x) := by
        unfold y6
        rw [if_neg (fun q => z (e4 ▸ q.1)), e4]
      rw [e1] at g
      unfold sPer at hQ
      refine hQ q.2 (by rw [e6]; exact g.2.1) (fun q => absurd (e6 ▸ q) z) (mw_pm g.2.2)
  rw [hC.1.1.2, l8]
  by_cases z : pnp c = 8
  · rw [eqT z]
    exact go 1 (by omega) (by rw [if_neg (by omega), if_neg (by omega)])
  · rw [eqF z (by omega) (by omega)]
    exact go 0 (by omega) (by rw [if_pos rfl, if_pos (by omega)])
end
