/-! the two rules of a text, by the model -/
section
variable {N : Nat}
def setTh (c : Cp) (P : Prg) : Cp := (c.1, c.2.1, (some P, pso c))
def setSo (c : Cp) (P : Prg) : Cp := (c.1, c.2.1, (pth c, some P))
theorem ex_pm {tp0 : Nat} {S S' : am_S} (h : Fl (exW tp0) S S') : Fl pmW S S' := Fl_wk h (fun k j q => by unfold exW at q; unfold pmW; omega)
theorem CTM_thi {S S' : am_S} {tp : Nat} {c : Cp} {P : Prg} (h : CTM S tp c) (hf : Fl (exW tp) (sp S 78 30 (nI tp)) S') (h1 : sg S' 78 32 = nI (tp + clen P + 1)) (h2 : codeX S' tp P) (h3 : sg S' 93 (tp + clen P) = 0) : CTM S' (tp + clen P + 1) (setTh c P) := by
  have hs : ∀ k j, ¬ exW tp k j → ¬ (k = 78 ∧ j = 30) → sg S' k j = sg S k j := fun k j q1 q2 => (hf.1 k j q1).trans (sgx q2)
  obtain ⟨⟨⟨a1, a2⟩, a3, a4, a12⟩, ⟨a5, a6, a13⟩, a7, ⟨a8, a9⟩, a10, a11⟩ := h
  exact ⟨⟨⟨(hs _ _ (by unfold exW; omega) (by omega)).trans a1, (hs _ _ (by unfold exW; omega) (by omega)).trans a2⟩, (hs _ _ (by unfold exW; omega) (by omega)).trans a3, (hs _ _ (by unfold exW; omega) (by omega)).trans a4, h1⟩, ⟨fun i hi => ⟨(hs _ _ (by unfold exW; omega) (by omega)).trans (a5 i hi).1, (hs _ _ (by unfold exW; omega) (by omega)).trans (a5 i hi).2⟩, fun i h1 h2 => (hs _ _ (by unfold exW; omega) (by omega)).trans (a6 i h1 h2), fun i h1 => (hs _ _ (by unfold exW; omega) (by omega)).trans (a13 i h1)⟩, fun i hi => ⟨(hs _ _ (by unfold exW; omega) (by omega)).trans (a7 i hi).1, (hs _ _ (by unfold exW; omega) (by omega)).trans (a7 i hi).2.1, (hs _ _ (by unfold exW; omega) (by omega)).trans (a7 i hi).2.2⟩, ⟨fun i hi => (hs _ _ (by unfold exW; omega) (by omega)).trans (a8 i hi), fun i hi => (hs _ _ (by unfold exW; omega) (by omega)).trans (a9 i hi)⟩, ⟨tp, (hf.1 78 30 (by unfold exW; omega)).trans (sgp _ _ _ _), h2, h3, by omega⟩, mru_s a11 (by omega) (hs _ _ (by unfold exW; omega) (by omega)) (fun j hj => hs _ _ (by unfold exW; omega) (by omega))⟩
theorem m_thi {S : am_S} {b : Tx} {x : Ft} {c : Cp} {tp : Nat} {Q : am_S → Prop} (hN : 10000 ≤ N) (hb : TxI b) (h : PMs S b x) (hx : x.1 = 0) (hk : kw (wdn b x.2) = 13) (hC : CTM S tp c) (htp : tp ≤ 2 * x.2.1) (hQ : ∀ S' y, PMs S' b y → sEnd b y = sEnd b (sRul b 0 5 (pth c) x).1 → ((sRul b 0 5 (pth c) x).1.1 = 0 → y = (sRul b 0 5 (pth c) x).1 ∧ ∃ P, (sRul b 0 5 (pth c) x).2 = some P ∧ CTM S' (tp + clen P + 1) (setTh c P)) → Fl pmW S S' → Rn (b_X10_line_235 N 78 S') Q) : Rn (if (sg S 78 30) = (-1) then b_X10_line_162 N 78 78 0 0 S else b_X10_line_162 N 78 78 0 1 S) Q := by
  have hL := hb.1
  have hT : x.2.1 ≤ x.2.2.1 ∧ x.2.2.1 ≤ b.1 := G_hi h.1.1
  unfold b_X10_line_162
  have hrl := hC.2.2.2.2.1
  cases ho : pth c with
  | none =>
    rw [ho] at hrl hQ
    have hm : sg S 78 30 = -1 := hrl
    rw [if_pos hm]
    refine Rn_bd (Rn_mono (m_beg (u := 0) (v := 0) hN hb h (by omega) (by omega)) (fun q g => ?_))
    rw [if_pos rfl, if_pos rfl, if_pos hx] at g
    have hg : (aS b x).1 = 0 := by rw [aS0 hx]
    have h6 := aS_6 h.1.1 hx (by omega)
    have hC2 := CTM_6 hC g.2.2
    rw [g.1, one0, hC2.1.2.2.2]
    have hP : PMs (sp q.2 78 30 (nI tp)) b (aS b x) := PMs_o g.2.1 (by omega)
    refine Rn_bv (Rn_mono (m_exp (A := AT_) (lo := 0) (hi := 5) (tp0 := tp) hN hb (fun k q1 q2 => ⟨by unfold AT_; omega, by omega⟩) (by omega) (by omega) hg hP (by rw [sgj (by omega)]; exact hC2.1.2.2.2)) (fun S' gg => ?_))
    obtain ⟨y, g1, g2, g3, g4⟩ := gg
    have e1 : (sRul b 0 5 none x).1 = (er b 0 5 800 (e00 (aS b x))).1 := by
      unfold sRul
      rw [if_pos rfl]
    refine hQ S' y g1 (by rw [e1]; exact g2) (fun w => ?_) (Fl_tr (Fl_sp (mw_pm g.2.2) (by unfold pmW; omega)) (ex_pm g4))
    rw [e1] at w ⊢
    obtain ⟨k1, k2, k3, k4⟩ := g3 w
    refine ⟨k1, _, ?_, CTM_thi hC2 g4 k2 k3 k4⟩
    unfold sRul
    rw [if_pos rfl, if_pos w]
  | some P0 =>
    rw [ho] at hrl hQ
    obtain ⟨a, r1, r2, r3, r4⟩ := hrl
    rw [r1, eqmF (by omega)]
    refine Rn_bd (Rn_mono (m_beg (u := 0) (v := 1) hN hb h (by omega) (by omega)) (fun q g => ?_))
    have hf5 : ¬ (aF 5 x).1 = 0 := aF_n (by omega) hx
    rw [if_neg (by omega : ¬ (1 : Nat) = 0), if_pos (rfl : (0 : Nat) = 0), if_neg hf5, aSf hf5] at g
    rw [g.1, zer0]
    have e1 : (sRul b 0 5 (some P0) x).1 = aF 5 x := by
      unfold sRul
      rw [if_neg (Option.some_ne_none P0), aSf hf5, er_f (e := e00 (aF 5 x)) hf5]
      rfl
    exact hQ q.2 (aF 5 x) g.2.1 (by rw [e1]) (fun w => absurd (e1 ▸ w) hf5) (mw_pm g.2.2)
theorem CTM_sou {S S' : am_S} {tp : Nat} {c : Cp} {P : Prg} (h : CTM S tp c) (hf : Fl (exW tp) (sp S 78 31 (nI tp)) S') (h1 : sg S' 78 32 = nI (tp + clen P + 1)) (h2 : codeX S' tp P) (h3 : sg S' 93 (tp + clen P) = 0) : CTM S' (tp + clen P + 1) (setSo c P) := by
  have hs : ∀ k j, ¬ exW tp k j → ¬ (k = 78 ∧ j = 31) → sg S' k j = sg S k j := fun k j q1 q2 => (hf.1 k j q1).trans (sgx q2)
  obtain ⟨⟨⟨a1, a2⟩, a3, a4, a12⟩, ⟨a5, a6, a13⟩, a7, ⟨a8, a9⟩, a10, a11⟩ := h
  exact ⟨⟨⟨(hs _ _ (by unfold exW; omega) (by omega)).trans a1, (hs _ _ (by unfold exW; omega) (by omega)).trans a2⟩, (hs _ _ (by unfold exW; omega) (by omega)).trans a3, (hs _ _ (by unfold exW; omega) (by omega)).trans a4, h1⟩, ⟨fun i hi => ⟨(hs _ _ (by unfold exW; omega) (by omega)).trans (a5 i hi).1, (hs _ _ (by unfold exW; omega) (by omega)).trans (a5 i hi).2⟩, fun i h1 h2 => (hs _ _ (by unfold exW; omega) (by omega)).trans (a6 i h1 h2), fun i h1 => (hs _ _ (by unfold exW; omega) (by omega)).trans (a13 i h1)⟩, fun i hi => ⟨(hs _ _ (by unfold exW; omega) (by omega)).trans (a7 i hi).1, (hs _ _ (by unfold exW; omega) (by omega)).trans (a7 i hi).2.1, (hs _ _ (by unfold exW; omega) (by omega)).trans (a7 i hi).2.2⟩, ⟨fun i hi => (hs _ _ (by unfold exW; omega) (by omega)).trans (a8 i hi), fun i hi => (hs _ _ (by unfold exW; omega) (by omega)).trans (a9 i hi)⟩, mru_s a10 (by omega) (hs _ _ (by unfold exW; omega) (by omega)) (fun j hj => hs _ _ (by unfold exW; omega) (by omega)), ⟨tp, (hf.1 78 31 (by unfold exW; omega)).trans (sgp _ _ _ _), h2, h3, by omega⟩⟩
theorem m_sou {S : am_S} {b : Tx} {x : Ft} {c : Cp} {tp : Nat} {Q : am_S → Prop} (hN : 10000 ≤ N) (hb : TxI b) (h : PMs S b x) (hx : x.1 = 0) (hk : kw (wdn b x.2) = 14) (hC : CTM S tp c) (htp : tp ≤ 2 * x.2.1) (hQ : ∀ S' y, PMs S' b y → sEnd b y = sEnd b (sRul b 4 8 (pso c) x).1 → ((sRul b 4 8 (pso c) x).1.1 = 0 → y = (sRul b 4 8 (pso c) x).1 ∧ ∃ P, (sRul b 4 8 (pso c) x).2 = some P ∧ CTM S' (tp + clen P + 1) (setSo c P)) → Fl pmW S S' → Rn (b_X10_line_235 N 78 S') Q) : Rn (if (sg S 78 31) = (-1) then b_X10_line_206 N 78 78 0 0 S else b_X10_line_206 N 78 78 0 1 S) Q := by
  have hL := hb.1
  have hT : x.2.1 ≤ x.2.2.1 ∧ x.2.2.1 ≤ b.1 := G_hi h.1.1
  unfold b_X10_line_206
  have hrl := hC.2.2.2.2.2
  cases ho : pso c with
  | none =>
    rw [ho] at hrl hQ
    have hm : sg S 78 31 = -1 := hrl
    rw [if_pos hm]
    refine Rn_bd (Rn_mono (m_beg (u := 0) (v := 0) hN hb h (by omega) (by omega)) (fun q g => ?_))
    rw [if_pos rfl, if_pos rfl, if_pos hx] at g
    have hg : (aS b x).1 = 0 := by rw [aS0 hx]
    have h6 := aS_6 h.1.1 hx (by omega)
    have hC2 := CTM_6 hC g.2.2
    rw [g.1, one0, hC2.1.2.2.2]
    have hP : PMs (sp q.2 78 31 (nI tp)) b (aS b x) := PMs_o g.2.1 (by omega)
    refine Rn_bv (Rn_mono (m_exp (A := AS_) (lo := 4) (hi := 8) (tp0 := tp) hN hb (fun k q1 q2 => ⟨by unfold AS_; omega, by omega⟩) (by omega) (by omega) hg hP (by rw [sgj (by omega)]; exact hC2.1.2.2.2)) (fun S' gg => ?_))
    obtain ⟨y, g1, g2, g3, g4⟩ := gg
    have e1 : (sRul b 4 8 none x).1 = (er b 4 8 800 (e00 (aS b x))).1 := by
      unfold sRul
      rw [if_pos rfl]
    refine hQ S' y g1 (by rw [e1]; exact g2) (fun w => ?_) (Fl_tr (Fl_sp (mw_pm g.2.2) (by unfold pmW; omega)) (ex_pm g4))
    rw [e1] at w ⊢
    obtain ⟨k1, k2, k3, k4⟩ := g3 w
    refine ⟨k1, _, ?_, CTM_sou hC2 g4 k2 k3 k4⟩
    unfold sRul
    rw [if_pos rfl, if_pos w]
  | some P0 =>
    rw [ho] at hrl hQ
    obtain ⟨a, r1, r2, r3, r4⟩ := hrl
    rw [r1, eqmF (by omega)]
    refine Rn_bd (Rn_mono (m_beg (u := 0) (v := 1) hN hb h (by omega) (by omega)) (fun q g => ?_))
    have hf5 : ¬ (aF 5 x).1 = 0 := aF_n (by omega) hx
    rw [if_neg (by omega : ¬ (1 : Nat) = 0), if_pos (rfl : (0 : Nat) = 0), if_neg hf5, aSf hf5] at g
    rw [g.1, zer0]
    have e1 : (sRul b 4 8 (some P0) x).1 = aF 5 x := by
      unfold sRul
      rw [if_neg (Option.some_ne_none P0), aSf hf5, er_f (e := e00 (aF 5 x)) hf5]
      rfl
    exact hQ q.2 (aF 5 x) g.2.1 (by rw [e1]) (fun w => absurd (e1 ▸ w) hf5) (mw_pm g.2.2)
end
