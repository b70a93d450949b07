/-! the steps of the class -/
section
variable {N : Nat}
def eWk (k : Nat) : Nat → Nat → Prop := fun c j => (c = 3 ∧ 2 ≤ j ∧ j ≤ 6) ∨ c = 5 ∨ c = 6 ∨ (c = k ∧ j = 1) ∨ c = k + 1
theorem ek_w {k : Nat} {S S' : am_S} (h : Fm (eRk k) S S') : Fm (eWk k) S S' := Fm_wk h (fun c j q => by unfold eRk at q; unfold eWk; omega)
theorem c6_w {k : Nat} {S S' : am_S} (h : Fm cw6 S S') : Fm (eWk k) S S' := Fm_wk h (fun c j q => by unfold cw6 at q; unfold eWk; omega)
theorem EI_b {A : Nat → Prop} {b : Tx} {p : Nat} {x : Ft} {s : List Nat} {r : List (List Nat)} {pg : Prg} {f : Nat × Nat × Nat} (hb : TxI b) (h : EI A b p (x, (s, r), pg, f)) : r.length ≤ 6 ∧ (flt s r).length ≤ 83 ∧ pg.length + (flt s r).length + p ≤ x.2.1 ∧ x.2.1 ≤ b.1 ∧ (¬ x.2.2.2 = 0 → x.2.1 < b.1) ∧ sgI s := by
  obtain ⟨hG, -, ⟨g1, g2⟩, -, -, k3⟩ := h
  have g1' : r.length ≤ 6 := g1
  have g2' : wok (s :: r) := g2
  have k3' : pg.length + wln (s :: r) + p ≤ x.2.1 + 1 := k3
  have h1 := (wok_b g2').1
  have h2 := flt_len r s
  have h1' : wln (s :: r) ≤ 12 * (r.length + 1) := h1
  have h3 : x.2.1 ≤ x.2.2.1 ∧ x.2.2.1 ≤ b.1 := G_hi hG
  refine ⟨g1', by omega, by omega, by omega, fun q => ?_, g2'.1.1⟩
  obtain ⟨e, he⟩ := hG
  have := (tNz he q).1
  have : x.2.1 < x.2.2.1 := this
  omega
theorem c_part {A : Nat → Prop} {S : am_S} {b : Tx} {k p lo hi : Nat} {th : Int32} {x : Ft} {s : List Nat} {r : List (List Nat)} {pg : Prg} {mn nt : Nat} (hN : 10000 ≤ N) (hb : TxI b) (hth : (th = 1 ∧ lo = 0 ∧ hi = 5) ∨ (th = 0 ∧ lo = 4 ∧ hi = 8)) (hk : Ru k) (hk2 : 10 < k) (hE : EI A b p (x, (s, r), pg, 1, mn, nt)) (hx : x.1 = 0) (h : PCs S b x) (hR : ER S k s r pg) (hF : EF S r (1, mn, nt)) : Rn (f_X6_readPart N 5 3 k th S) (fun S' => ∃ y, PCs S' b y ∧ aS b y = (eP b lo hi (x, (s, r), pg, 1, mn, nt)).1 ∧ ((eP b lo hi (x, (s, r), pg, 1, mn, nt)).1.1 = 0 → ER S' k (eP b lo hi (x, (s, r), pg, 1, mn, nt)).2.1.1 (eP b lo hi (x, (s, r), pg, 1, mn, nt)).2.1.2 (eP b lo hi (x, (s, r), pg, 1, mn, nt)).2.2.1 ∧ EF S' (eP b lo hi (x, (s, r), pg, 1, mn, nt)).2.1.2 (eP b lo hi (x, (s, r), pg, 1, mn, nt)).2.2.2) ∧ Fm (eWk k) S S') := by
  obtain ⟨b1, b2, b3, b4, b5, b6⟩ := EI_b hb hE
  have f2 : mn ≤ 1 := hE.2.1.2.1
  have f3 : nt ≤ 6 := hE.2.1.2.2
  have hkd := G_kd h.1.1
  have hnm := G_num h.1.1
  have hL := hb.1
  have aSF : ∀ m, ¬ m = 0 → aS b (aF m x) = aF m x := fun m hm => aSf (aF_n hm hx)
  generalize he : eP b lo hi (x, (s, r), pg, 1, mn, nt) = e'
  unfold eP at he
  -- a fault
  have bad : ∀ m, 0 < m ∧ m < 10 → e' = (aF m x, (s, r), pg, 1, mn, nt) → Rn (bv (f_X8_fail N 3 (nI m) S) (fun S5 => b_X6_readPart_182 N S5)) (fun S' => ∃ y, PCs S' b y ∧ aS b y = e'.1 ∧ (e'.1.1 = 0 → ER S' k e'.2.1.1 e'.2.1.2 e'.2.2.1 ∧ EF S' e'.2.1.2 e'.2.2.2) ∧ Fm (eWk k) S S') := by
    intro m hm hq
    subst hq
    refine Rn_bv (Rn_mono (c_F hm.2 h) (fun S1 g => Rn_ret ⟨_, g.1, aSF m (by omega), fun q => absurd q (aF_n (by omega) hx), c6_w g.2⟩))
  unfold f_X6_readPart b_X6_readPart_13 b_X6_readPart_29 b_X6_readPart_57
  rw [h.2.1.2.2.2.1, hF.1, h.2.1.2.2.2.2]
  have lit : ∀ m, m < 100 → (nI x.2.2.2 = nI m ↔ x.2.2.2 = m) := fun m hm => nIeq (by omega) (by omega)
  have k3 : (nI x.2.2.2 = (3 : Int32)) ↔ x.2.2.2 = 3 := lit 3 (by omega)
  have k40 : (nI x.2.2.2 = (40 : Int32)) ↔ x.2.2.2 = 40 := lit 40 (by omega)
  have k2 : (nI x.2.2.2 = (2 : Int32)) ↔ x.2.2.2 = 2 := lit 2 (by omega)
  have w6 : ((6 : Int32) ≤ nI r.length) ↔ 6 ≤ r.length := nIle (a := 6) (by omega) (by omega)
  have m9 : (nI (num b x.2) ≤ (9999 : Int32)) ↔ num b x.2 ≤ 9999 := nIle (b := 9999) (by omega) (by omega)
  have b81 : b_X6_readPart_81 N 3 S = bv (f_X8_fail N 3 (nI 2) S) (fun S5 => b_X6_readPart_182 N S5) := rfl
  by_cases z1 : ¬ (x.2.2.2 = 3 ∨ x.2.2.2 = 40 ∨ x.2.2.2 = 2)
  · rw [if_pos z1] at he
    rw [if_neg (fun q => z1 (Or.inl (k3.mp q))), if_neg (fun q => z1 (Or.inr (Or.inl (k40.mp q)))), zer0, zer0, if_neg (fun q => z1 (Or.inr (Or.inr (k2.mp q))))]
    exact bad 1 (by omega) he.symm
  rw [if_neg z1] at he
  by_cases z2 : 6 ≤ r.length ∨ (x.2.2.2 = 3 ∧ 9999 < num b x.2)
  · rw [if_pos z2] at he
    have hbad := bad 2 (by omega) he.symm
    rw [← b81] at hbad
    by_cases y3 : x.2.2.2 = 3
    · rw [if_pos (k3.mpr y3), if_neg (fun q => by have := k40.mp q; omega), one0]
      by_cases y6 : 6 ≤ r.length
      · rw [if_pos (w6.mpr y6)]
        exact hbad
      · rw [if_neg (fun q => y6 (w6.mp q)), one0, if_neg (fun q => by have := m9.mp q; omega)]
        exact hbad
    · have y6 : 6 ≤ r.length := by omega
      rw [if_neg (fun q => y3 (k3.mp q))]
      by_cases y40 : x.2.2.2 = 40
      · rw [if_pos (k40.mpr y40), zer0, one0, if_pos (w6.mpr y6)]
        exact hbad
      · rw [if_neg (fun q => y40 (k40.mp q)), zer0, zer0, if_pos (k2.mpr (by omega)), if_pos (w6.mpr y6)]
        exact hbad
  rw [if_neg z2] at he
  have y6 : ¬ 6 ≤ r.length := fun q => z2 (Or.inl q)
  unfold b_X6_readPart_89 b_X6_readPart_182
  by_cases z3 : x.2.2.2 = 40
  · rw [if_pos z3] at he
    rw [if_neg (fun q => by have := k3.mp q; omega), if_pos (k40.mpr z3), zer0, one0, if_neg (fun q => y6 (w6.mp q)), zer0, one0]
    subst he
    refine Rn_bv (Rn_mono (c_psh (a := 14) hk2 (by omega) hR) (fun S1 g => ?_))
    unfold f_X6_beginExpression
    refine Rn_bv (Rn_ret (Rn_ret ⟨x, ?_, rfl, fun _ => ⟨⟨?_, ?_, ?_, ?_⟩, ?_, ?_, ?_, ?_⟩, ?_⟩))
    · exact PCs_o (PCs_o (PCs_o (PCs_o (PCs_e hk2 h g.2) (by omega)) (by omega)) (by omega)) (by omega)
    · simp (disch := omega) only [sgp, sgn, sgj]
      exact g.1.1
    · exact stN_s g.1.2.1 (fun j _ => by simp (disch := omega) only [sgp, sgn, sgj])
    · simp (disch := omega) only [sgp, sgn, sgj]
      exact g.1.2.2.1
    · exact stepsAt_same (fun j => by simp (disch := omega) only [sgp, sgn, sgj]) g.1.2.2.2
    · simp (disch := omega) only [sgp, sgn, sgj]
      rw [g.2.1 _ _ (by unfold eRk; omega), hF.1, nI1]
      rfl
    · simp (disch := omega) only [sgp, sgn, sgj]
      rfl
    · simp (disch := omega) only [sgp, sgn, sgj]
      rfl
    · simp (disch := omega) only [sgp, sgn, sgj]
      rfl
    · exact Fm_sp (Fm_sp (Fm_sp (Fm_sp (ek_w g.2) (by unfold eWk; omega)) (by unfold eWk; omega)) (by unfold eWk; omega)) (by unfold eWk; omega)
  rw [if_neg z3] at he
  by_cases z4 : x.2.2.2 = 3
  · rw [if_pos z4] at he
    rw [if_pos (k3.mpr z4), if_neg (fun q => z3 (k40.mp q)), one0, if_neg (fun q => y6 (w6.mp q)), one0, if_pos (m9.mpr (by omega)), zer0, one0]
    subst he
    have e5 : nI (num b x.2) = nI (sc (1, num b x.2)) := rfl
    rw [h.2.1.2.2.2.2, e5]
    have hpl : pg.length < 700 := by have := b5 (by omega); omega
    refine Rn_bv (Rn_mono (c_add hk hk2 hpl hR) (fun S1 g => ?_))
    refine Rn_ret ⟨x, PCs_o (PCs_e hk2 h g.2) (by omega), rfl, fun _ => ⟨⟨?_, ?_, ?_, ?_⟩, ?_, ?_, ?_, ?_⟩, Fm_sp (ek_w g.2) (by unfold eWk; omega)⟩
    · simp (disch := omega) only [sgp, sgn, sgj]
      exact g.1.1
    · exact stN_s g.1.2.1 (fun j _ => by simp (disch := omega) only [sgp, sgn, sgj])
    · simp (disch := omega) only [sgp, sgn, sgj]
      exact g.1.2.2.1
    · exact stepsAt_same (fun j => by simp (disch := omega) only [sgp, sgn, sgj]) g.1.2.2.2
    · simp (disch := omega) only [sgp, sgn, sgj]
      exact (EF_e hk2 hF g.2).1
    · simp (disch := omega) only [sgp, sgn, sgj]
      exact (EF_e hk2 hF g.2).2.1
    · simp (disch := omega) only [sgp, sgn, sgj]
      rfl
    · simp (disch := omega) only [sgp, sgn, sgj]
      exact (EF_e hk2 hF g.2).2.2.2
  rw [if_neg z4] at he
  have zk : x.2.2.2 = 2 := by omega
  rw [if_neg (fun q => z4 (k3.mp q)), if_neg (fun q => z3 (k40.mp q)), zer0, zer0, if_pos (k2.mpr zk), if_neg (fun q => y6 (w6.mp q)), zer0, zer0, zer0, (show sg S 5 5 = nI mn from hF.2.2.2)]
  -- a value
  have val : (¬ (mn = 1 ∧ kw (wdn b x.2) = 17)) → Rn (b_X6_readPart_161 N 5 3 k th S) (fun S' => ∃ y, PCs S' b y ∧ aS b y = e'.1 ∧ (e'.1.1 = 0 → ER S' k e'.2.1.1 e'.2.1.2 e'.2.2.1 ∧ EF S' e'.2.1.2 e'.2.2.2) ∧ Fm (eWk k) S S') := by
    intro z5
    rw [if_neg z5] at he
    have go : Rn (b_X6_readPart_179 N 5 3 k (if lo ≤ kw (wdn b x.2) ∧ kw (wdn b x.2) ≤ hi then nI (cm (kw (wdn b x.2))) else -1) S) (fun S' => ∃ y, PCs S' b y ∧ aS b y = e'.1 ∧ (e'.1.1 = 0 → ER S' k e'.2.1.1 e'.2.1.2 e'.2.2.1 ∧ EF S' e'.2.1.2 e'.2.2.2) ∧ Fm (eWk k) S S') := by
      unfold b_X6_readPart_179 b_X6_readPart_182 f_X6_putValue b_X6_putValue_27
      by_cases z7 : lo ≤ kw (wdn b x.2) ∧ kw (wdn b x.2) ≤ hi
      · rw [if_pos z7] at he
        subst he
        have hcm : cm (kw (wdn b x.2)) < 6 := cm_lt (by omega)
        have e5 : nI (10000 + cm (kw (wdn b x.2))) = nI (sc (2, kw (wdn b x.2))) := rfl
        rw [if_pos z7, eqmF (by omega), l10000, nIa, e5]
        have hpl : pg.length < 700 := by have := b5 (by omega); omega
        refine Rn_bv (Rn_bv (Rn_mono (c_add hk hk2 hpl hR) (fun S1 g => Rn_ret (Rn_ret ?_))))
        refine ⟨x, PCs_o (PCs_e hk2 h g.2) (by omega), rfl, fun _ => ⟨⟨?_, ?_, ?_, ?_⟩, ?_, ?_, ?_, ?_⟩, Fm_sp (ek_w g.2) (by unfold eWk; omega)⟩
        · simp (disch := omega) only [sgp, sgn, sgj]
          exact g.1.1
        · exact stN_s g.1.2.1 (fun j _ => by simp (disch := omega) only [sgp, sgn, sgj])
        · simp (disch := omega) only [sgp, sgn, sgj]
          exact g.1.2.2.1
        · exact stepsAt_same (fun j => by simp (disch := omega) only [sgp, sgn, sgj]) g.1.2.2.2
        · simp (disch := omega) only [sgp, sgn, sgj]
          exact (EF_e hk2 hF g.2).1
        · simp (disch := omega) only [sgp, sgn, sgj]
          exact (EF_e hk2 hF g.2).2.1
        · simp (disch := omega) only [sgp, sgn, sgj]
          rfl
        · simp (disch := omega) only [sgp, sgn, sgj]
          exact (EF_e hk2 hF g.2).2.2.2
      · rw [if_neg z7] at he
        rw [if_neg z7, if_pos rfl]
        subst he
        exact Rn_bv (Rn_bv (Rn_mono (c_F (k := 3) (by omega) h) (fun S1 g => Rn_ret (Rn_ret ⟨_, g.1, aSF 3 (by omega), fun q => absurd q (aF_n (by omega) hx), c6_w g.2⟩))))
    unfold b_X6_readPart_161
    rcases hth with ⟨t1, t2, t3⟩ | ⟨t1, t2, t3⟩
    · subst t1 t2 t3
      rw [one0, c_vT hN hb h, bd_some]
      exact go
    · subst t1 t2 t3
      rw [zer0, c_vS hN hb h, bd_some]
      exact go
  by_cases y0 : mn = 0
  · rw [eq0T y0]
    exact val (by omega)
  · rw [eq0F (by omega) (by omega), c_wd hN hb h (s := 7) (by omega) (by omega), bd_some, show skw 7 = 17 from rfl]
    by_cases y17 : kw (wdn b x.2) = 17
    · rw [if_pos y17, one0]
      have z5 : mn = 1 ∧ kw (wdn b x.2) = 17 := ⟨by omega, y17⟩
      rw [if_pos z5] at he
      unfold f_X6_readNot b_X6_readNot_14
      rw [(show sg S 5 3 = nI nt from hF.2.1)]
      have l6' : (nI nt < (6 : Int32)) ↔ nt < 6 := nIlt (b := 6) (by omega) (by omega)
      have e3 : (3 : Int32) = nI (cwk 3) := rfl
      by_cases z6 : 6 ≤ nt
      · rw [if_pos z6] at he
        subst he
        rw [if_neg (fun q => by have := l6'.mp q; omega)]
        refine Rn_bv (Rn_bv (Rn_mono (c_F (k := 2) (by omega) h) (fun S1 g => ?_)))
        rw [e3]
        refine Rn_bv (Rn_mono (c_psh (a := 3) hk2 (by omega) (ER_6 hk2 hR g.2)) (fun S2 g2 => Rn_ret (Rn_ret ⟨_, PCs_o (PCs_e hk2 g.1 g2.2) (by omega), aSF 2 (by omega), fun q => absurd q (aF_n (by omega) hx), Fm_sp (Fm_tr (c6_w g.2) (ek_w g2.2)) (by unfold eWk; omega)⟩)))
      · rw [if_neg z6] at he
        subst he
        rw [if_pos (l6'.mpr (by omega)), e3]
        refine Rn_bv (Rn_bv (Rn_mono (c_psh (a := 3) hk2 (by omega) hR) (fun S2 g2 => Rn_ret (Rn_ret ⟨x, PCs_o (PCs_e hk2 h g2.2) (by omega), rfl, fun _ => ⟨⟨?_, ?_, ?_, ?_⟩, ?_, ?_, ?_, ?_⟩, Fm_sp (ek_w g2.2) (by unfold eWk; omega)⟩))))
        · show sg _ 5 1 = nI (flt (3 :: s) r).length
          rw [flt_c]
          simp (disch := omega) only [sgp, sgn, sgj]
          exact g2.1.1
        · show stN _ 6 cwk (flt (3 :: s) r)
          rw [flt_c]
          exact stN_s g2.1.2.1 (fun j _ => by simp (disch := omega) only [sgp, sgn, sgj])
        · simp (disch := omega) only [sgp, sgn, sgj]
          exact g2.1.2.2.1
        · exact stepsAt_same (fun j => by simp (disch := omega) only [sgp, sgn, sgj]) g2.1.2.2.2
        · simp (disch := omega) only [sgp, sgn, sgj]
          exact (EF_e hk2 hF g2.2).1
        · simp (disch := omega) only [sgp, sgn, sgj]
          rw [(EF_e hk2 hF g2.2).2.1, nI1]
        · simp (disch := omega) only [sgp, sgn, sgj]
          exact (EF_e hk2 hF g2.2).2.2.1
        · simp (disch := omega) only [sgp, sgn, sgj]
          exact (EF_e hk2 hF g2.2).2.2.2
    · rw [if_neg y17, zer0]
      exact val (fun q => y17 q.2)
end
