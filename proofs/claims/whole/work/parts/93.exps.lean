/-! an expression, by the model -/
section
variable {N : Nat}
theorem m_exp {A : Nat → Prop} {b : Tx} {lo hi tp0 : Nat} {S : am_S} {x : Ft} (hN : 10000 ≤ N) (hb : TxI b) (hA : ∀ k, lo ≤ k → k ≤ hi → A k ∧ k ≤ 8) (hlh : lo ≤ 8 ∧ hi ≤ 8) (hp : tp0 + 12 ≤ 2 * x.2.1) (hx : x.1 = 0) (h : PMs S b x) (h32 : sg S 78 32 = nI tp0) : Rn (f_X10_expression N 78 (nI lo) (nI hi) S) (FR b tp0 (er b lo hi 800 (e00 x)) S) := by
  have hL := hb.1
  have hT : x.2.1 ≤ x.2.2.1 ∧ x.2.2.1 ≤ b.1 := G_hi h.1.1
  unfold f_X10_expression
  rw [m_good h, bd_some, if_pos hx, one0]
  unfold f_X10_deeper
  have e36 : sg (sp (sp (sp (sp S 78 33 (nI lo)) 78 34 (nI hi)) 78 35 0) 78 36 0) 78 36 = nI 0 := by
    rw [sgp]
    rfl
  have n6 : ¬ ((6 : Int32) ≤ nI 0) := by decide
  rw [e36, if_neg n6, nI1, sgp, r78_45, n95, inbT (by omega) (by omega), nIc (by omega), bv_some, bar0]
  have hP1 : PMs (sp (sp (sp (sp (sp (sp S 78 33 (nI lo)) 78 34 (nI hi)) 78 35 0) 78 36 0) 78 36 (nI (0 + 1))) 95 (0 + 1) 0) b x := PMs_o (PMs_o (PMs_o (PMs_o (PMs_o (PMs_o h (by omega)) (by omega)) (by omega)) (by omega)) (by omega)) (by omega)
  have hF1 : Fl (exW tp0) S (sp (sp (sp (sp (sp (sp S 78 33 (nI lo)) 78 34 (nI hi)) 78 35 0) 78 36 0) 78 36 (nI (0 + 1))) 95 (0 + 1) 0) := Fl_sp (Fl_sp (Fl_sp (Fl_sp (Fl_sp (Fl_sp (Fl_rf _ _) (by unfold exW; omega)) (by unfold exW; omega)) (by unfold exW; omega)) (by unfold exW; omega)) (by unfold exW; omega)) (by unfold exW; omega)
  have hM1 : ME (sp (sp (sp (sp (sp (sp S 78 33 (nI lo)) 78 34 (nI hi)) 78 35 0) 78 36 0) 78 36 (nI (0 + 1))) 95 (0 + 1) 0) tp0 lo hi [] [] [] := by
    refine ⟨⟨?_, trivial, ?_, trivial⟩, ?_, ⟨?_, trivial⟩, ?_, ?_⟩
    · simp (disch := omega) only [sgp, sgn, sgj]
      rfl
    · simp (disch := omega) only [sgp, sgn, sgj]
      exact h32
    · simp (disch := omega) only [sgp, sgn, sgj]
      rfl
    · show sg _ 95 (0 + 1) = nI 0
      rw [sgp]
      rfl
    · simp (disch := omega) only [sgp, sgn, sgj]
    · simp (disch := omega) only [sgp, sgn, sgj]
  obtain ⟨M, hM'⟩ : ∃ M, N = M + 1 := ⟨N - 1, by omega⟩
  unfold f_X10_operand
  rw [show b_X10_operand_4 N N = b_X10_operand_4 N (M + 1) by rw [← hM']]
  unfold b_X10_operand_4
  rw [one0, m_good hP1, bd_some, if_pos hx, one0]
  have hop := m_opd (A := A) (p := x.2.1) hN hb hA hlh hp 800 M N _ x [] [] [] 1 0 (by omega) (by omega) (by omega) (EI_0 h.1.1) hx (Nat.zero_le _) (by omega) hP1 hM1
  refine Rn_bv (Rn_mono hop (fun S9 g => ?_))
  obtain ⟨e', d', o1, o2, o3, o4, o5⟩ := g
  have o1' : er b lo hi 800 (e00 x) = er b lo hi d' e' := o1
  rw [o1']
  by_cases w : e'.1.1 = 0
  · obtain ⟨q1, q2, q3, q4, q5, q6⟩ := o3 w
    obtain ⟨x', ⟨s', r'⟩, pg', wp', mn', nt'⟩ := e'
    have q1' : wp' = 0 := q1
    subst q1'
    refine Rn_mono (m_exl hN hb hA hlh hp d' d' N S9 x' s' r' pg' mn' nt' (Nat.le_refl _) (by omega) (by omega) q2 w q4 q5 o2 q3) (fun S' g => ?_)
    obtain ⟨y, g1, g2, g3, g4⟩ := g
    exact ⟨y, g1, g2, g3, Fl_tr (Fl_tr hF1 o5) g4⟩
  · rw [er_f w]
    rw [show b_X10_expression_39 N N = b_X10_expression_39 N (M + 1) by rw [← hM']]
    unfold b_X10_expression_39 b_X10_expression_340
    rw [one0, m_good o2, bd_some, if_neg w, zer0, m_good o2, bd_some, if_neg w, zer0]
    exact m_360f hN o2 w (o4 w) rfl (Fl_tr hF1 o5)
/-- a known word has its length -/
theorem kw_len {b : Tx} {T : Tk} {s : Nat} (hG : TkG b T) (hs : s < 20) (hs1 : 1 ≤ s) (h : kw (wdn b T) = skw s) : T.2.2 = 2 ∧ tln T = strn s := by
  obtain ⟨e, hI⟩ := hG
  obtain ⟨c1, c2, c3, c4⟩ := str_ok s hs hs1
  rw [kw_iff c4] at h
  have hv0 : ¬ vw (skw s) = 0 := (by decide +kernel : ∀ k, k < 18 → ¬ vw k = 0) _ c4
  have t1 := tLe hI
  unfold wdn at h
  split at h
  · rename_i y
    have hw := tWd hI (Or.inl y.1)
    obtain ⟨p1, p2⟩ := pk_inj (b := b) (p := T.1) (s := s) (fun i hi => ⟨(c2 i hi).1, (c2 i hi).2.1⟩) (tln T) (strn s) (Nat.le_refl _) (fun i hi => kd2.mp ((hw (T.1 + i) (by omega) (by unfold tln at hi; omega)).trans y.1)) (h.trans c3.symm)
    exact ⟨y.1, p1⟩
  · exact absurd h.symm hv0
theorem strn6 : strn 6 = 6 ∧ strn 19 = 6 := by decide +kernel
/-- the token behind 'thinks' or 'sounds' stands 6 bytes on -/
theorem aS_6 {b : Tx} {x : Ft} (hG : TkG b x.2) (hx : x.1 = 0) (h : kw (wdn b x.2) = 13 ∨ kw (wdn b x.2) = 14) : x.2.1 + 6 ≤ (aS b x).2.1 := by
  have hl : tln x.2 = 6 := by
    rcases h with h | h
    · exact (kw_len hG (s := 6) (by omega) (by omega) h).2.trans strn6.1
    · exact (kw_len hG (s := 19) (by omega) (by omega) h).2.trans strn6.2
  rw [aS0 hx]
  have h1 := tLo (tk_I (b := b) (G_hi hG).2)
  have h2 := (G_hi hG).1
  unfold tln at hl
  show x.2.1 + 6 ≤ (tk b x.2.2.1).1
  omega
end
