/-! the loop of an expression, by the model -/
section
variable {N : Nat}
/-- the end without a fault, or with the sign wanting -/
theorem m_340 {A : Nat → Prop} {S S0 : am_S} {b : Tx} {p lo hi tp0 : Nat} {x : Ft} {s : List Nat} {r : List (List Nat)} {pg : Prg} {mn nt : Nat} {ef : Es} (hN : 10000 ≤ N) (hb : TxI b) (hp : tp0 + 12 ≤ 2 * p) (hE : EI A b p (x, (s, r), pg, 0, mn, nt)) (hx : x.1 = 0) (h : PMs S b x) (hM : ME S tp0 lo hi s r pg) (he : ef = if eN (x, (s, r), pg, 0, mn, nt) then (x, (s, r), pg, 0, mn, nt) else (aF 1 x, (s, r), pg, 0, mn, nt)) (hF : Fl (exW tp0) S0 S) : Rn (b_X10_expression_340 N 78 S) (FR b tp0 ef S0) := by
  obtain ⟨m1, m2⟩ := EI_m hb hp hE
  obtain ⟨b1, b2, b3, b4, b5, b6⟩ := EI_b hb hE
  have hsl := flt_sl (s := s) (r := r)
  unfold b_X10_expression_340
  rw [m_good h, bd_some, if_pos hx, one0, hM.2.1]
  have l1' : (nI (r.length + 1) ≤ (1 : Int32)) ↔ r.length + 1 ≤ 1 := nIle (b := 1) (by omega) (by omega)
  by_cases z : r.length = 0
  · rw [if_pos (l1'.mpr (by omega))]
    unfold b_X10_expression_360 f_X10_drops
    refine Rn_bv (Rn_mono (m_rel (lv := 0) (rr := 1) (r := r) (Or.inr ⟨rfl, rfl⟩) (by omega) s N S pg b6 (by omega) (by omega) (by omega) hM.1) (fun S1 g => ?_))
    obtain ⟨g1, g2⟩ := g
    have hdq : dq A pg 0 (bns s + bnw r + 1) := hE.2.2.2.2.1
    obtain ⟨-, -, -, j4, -⟩ := rls_I (r := 1) b6 hdq
    have hcl : clen (rls 1 s pg).2 ≤ 2 * (rls 1 s pg).2.length := clen_le _
    have hL := hb.1
    have hlt : tp0 + clen (rls 1 s pg).2 < 1400 := by omega
    rw [m_put g1.2.2.1 hlt, bv_some]
    have hP := PMs_o (k := 78) (j := 32) (v := nI (tp0 + clen (rls 1 s pg).2 + 1)) (PMs_o (k := 93) (j := tp0 + clen (rls 1 s pg).2) (v := 0) (PMs_rl h g2) (by omega)) (by omega)
    have hFF : Fl (exW tp0) S0 (sp (sp S1 93 (tp0 + clen (rls 1 s pg).2) 0) 78 32 (nI (tp0 + clen (rls 1 s pg).2 + 1))) := Fl_sp (Fl_sp (Fl_tr hF (rf_w g2)) (by unfold exW; omega)) (by unfold exW; omega)
    refine Rn_ret ⟨x, hP, ?_, fun q => ?_, hFF⟩
    · by_cases y : eN (x, (s, r), pg, 0, mn, nt)
      · rw [he, if_pos y]
      · rw [he, if_neg y]
        have n59 : ¬ x.2.2.2 = 59 := fun q => y ⟨rfl, z, q⟩
        have hf1 : ¬ (aF 1 x).1 = 0 := aF_n (by omega) hx
        show sEnd b x = sEnd b (aF 1 x)
        rw [sEnd_f hf1]
        unfold sEnd
        rw [if_neg n59, aSf hf1]
    · by_cases y : eN (x, (s, r), pg, 0, mn, nt)
      · rw [if_pos y] at he
        subst he
        refine ⟨rfl, sgp _ _ _ _, ?_, ?_⟩
        · exact codeX_s (n := tp0 + clen (rls 1 s pg).2) (Nat.le_refl _) g1.2.2.2 (fun j hj => by simp (disch := omega) only [sgp, sgn, sgj])
        · show sg _ 93 (tp0 + clen (rls 1 s pg).2) = 0
          simp (disch := omega) only [sgp, sgn, sgj]
      · rw [he, if_neg y] at q
        exact absurd q (aF_n (by omega) hx)
  · rw [if_neg (fun q => by have := l1'.mp q; omega)]
    have n1 : ¬ eN (x, (s, r), pg, 0, mn, nt) := fun q => z q.2.1
    rw [if_neg n1] at he
    refine Rn_bv (Rn_mono (m_F (k := 1) (by omega) h) (fun S1 g => ?_))
    exact m_360f hN g.1 (aF_n (by omega) hx) (WK_6 (WK_of hM m1 m2) g.2) (by rw [he]) (Fl_tr hF (mw_ex g.2))
theorem ME_rl {S S' : am_S} {tp0 lo hi : Nat} {s s' : List Nat} {r : List (List Nat)} {pg pg' : Prg} (h : ME S tp0 lo hi s r pg) (hf : Fm (rW tp0) S S') (hW : MW S' tp0 s' r pg') (ht : tst s' = tst s) : ME S' tp0 lo hi s' r pg' := ⟨hW, (hf.1 _ _ (by omega)).trans h.2.1, ⟨by rw [ht]; exact (hf.1 _ _ (by omega)).trans h.2.2.1.1, TSr_s h.2.2.1.2 (fun j _ => hf.1 _ _ (by omega))⟩, (hf.1 _ _ (by omega)).trans h.2.2.2.1, (hf.1 _ _ (by omega)).trans h.2.2.2.2⟩
/-- an operator waits; its segment is told whether it is tested -/
theorem ME_op {S : am_S} {tp0 lo hi op q : Nat} {s : List Nat} {r : List (List Nat)} {pg : Prg} (hW : MW S tp0 s r pg) (h36 : sg S 78 36 = nI (r.length + 1)) (hT : TSr S r) (h33 : sg S 78 33 = nI lo) (h34 : sg S 78 34 = nI hi) (hq : q = tst (op :: s)) : ME (sp (sp (sp S 94 (flt s r).length (nI op)) 78 35 (nI ((flt s r).length + 1))) 95 (r.length + 1) (nI q)) tp0 lo hi (op :: s) r pg := by
  obtain ⟨h1, h2, h3, h4⟩ := hW
  refine ⟨⟨?_, ?_, ?_, ?_⟩, ?_, ⟨?_, ?_⟩, ?_, ?_⟩
  · rw [flt_c]
    simp (disch := omega) only [sgp, sgn, sgj]
    rfl
  · rw [flt_c]
    refine ⟨?_, stN_s h2 (fun j hj => ?_)⟩
    · simp (disch := omega) only [sgp, sgn, sgj]
    · simp (disch := omega) only [sgp, sgn, sgj]
  · simp (disch := omega) only [sgp, sgn, sgj]
    exact h3
  · exact codeX_s (n := tp0 + clen pg) (Nat.le_refl _) h4 (fun j hj => by simp (disch := omega) only [sgp, sgn, sgj])
  · simp (disch := omega) only [sgp, sgn, sgj]
    exact h36
  · rw [sgp, hq]
  · refine TSr_s hT (fun j hj => ?_)
    simp (disch := omega) only [sgp, sgn, sgj]
  · simp (disch := omega) only [sgp, sgn, sgj]
    exact h33
  · simp (disch := omega) only [sgp, sgn, sgj]
    exact h34
theorem ME_op2 {S : am_S} {tp0 lo hi op : Nat} {s : List Nat} {r : List (List Nat)} {pg : Prg} (hM : ME S tp0 lo hi s r pg) (hq : tst (op :: s) = tst s) : ME (sp (sp S 94 (flt s r).length (nI op)) 78 35 (nI ((flt s r).length + 1))) tp0 lo hi (op :: s) r pg := by
  obtain ⟨⟨h1, h2, h3, h4⟩, h36, ⟨hT0, hT⟩, h33, h34⟩ := hM
  refine ⟨⟨?_, ?_, ?_, ?_⟩, ?_, ⟨?_, ?_⟩, ?_, ?_⟩
  · rw [flt_c]
    simp (disch := omega) only [sgp, sgn, sgj]
    rfl
  · rw [flt_c]
    refine ⟨?_, stN_s h2 (fun j hj => ?_)⟩
    · simp (disch := omega) only [sgp, sgn, sgj]
    · simp (disch := omega) only [sgp, sgn, sgj]
  · simp (disch := omega) only [sgp, sgn, sgj]
    exact h3
  · exact codeX_s (n := tp0 + clen pg) (Nat.le_refl _) h4 (fun j hj => by simp (disch := omega) only [sgp, sgn, sgj])
  · simp (disch := omega) only [sgp, sgn, sgj]
    exact h36
  · rw [hq]
    simp (disch := omega) only [sgp, sgn, sgj]
    exact hT0
  · refine TSr_s hT (fun j hj => ?_)
    simp (disch := omega) only [sgp, sgn, sgj]
  · simp (disch := omega) only [sgp, sgn, sgj]
    exact h33
  · simp (disch := omega) only [sgp, sgn, sgj]
    exact h34
end
