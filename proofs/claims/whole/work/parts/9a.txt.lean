/-! all lines of a text, by both sides -/
section
variable {N : Nat}
def sTxt (b : Tx) : Nat → Ft → Cp → Nat → Ft × Cp × Nat
  | 0, x, c, tp => (x, c, tp)
  | n + 1, x, c, tp => if x.1 = 0 ∧ ¬ x.2.2.2 = 0 then sTxt b n (sLin b x c).1 (sLin b x c).2 (tpL b x c tp) else (x, c, tp)
theorem sTxt_e {b : Tx} {x : Ft} {c : Cp} {tp : Nat} (h : ¬ (x.1 = 0 ∧ ¬ x.2.2.2 = 0)) : ∀ n, sTxt b n x c tp = (x, c, tp) := by
  intro n
  cases n with
  | zero => rfl
  | succ n => unfold sTxt; rw [if_neg h]
theorem sTxt_s {b : Tx} {x : Ft} {c : Cp} {tp n : Nat} (h : x.1 = 0) (h' : ¬ x.2.2.2 = 0) : sTxt b (n + 1) x c tp = sTxt b n (sLin b x c).1 (sLin b x c).2 (tpL b x c tp) := by
  rw [sTxt, if_pos ⟨h, h'⟩]
theorem T_ok {b : Tx} (hb : TxI b) : ∀ n x c tp, (x.1 = 0 → LI b x c tp) → (x.1 = 0 → b.1 + 1 ≤ n + x.2.1) → (sTxt b n x c tp).1.1 = 0 → LI b (sTxt b n x c tp).1 (sTxt b n x c tp).2.1 (sTxt b n x c tp).2.2 ∧ (sTxt b n x c tp).1.2.2.2 = 0 := by
  intro n
  induction n with
  | zero =>
    intro x c tp h hf hz
    have hz' : x.1 = 0 := hz
    have := G_hi (h hz').1
    have := hf hz'
    omega
  | succ n ih =>
    intro x c tp h hf hz
    by_cases z : x.1 = 0 ∧ ¬ x.2.2.2 = 0
    · rw [sTxt_s z.1 z.2] at hz ⊢
      have hL := fun q => L_ok hb z.1 (h z.1) q
      have hF := hf z.1
      exact ih _ _ _ (fun q => (hL q).1) (fun q => by have := (hL q).2; omega) hz
    · rw [sTxt_e z] at hz ⊢
      have hz' : x.1 = 0 := hz
      exact ⟨h hz', Classical.byContradiction (fun q => z ⟨hz', q⟩)⟩
theorem c_text {S0 : am_S} {t : Nat} {b : Tx} {Q : Int32 × am_S → Prop} (hN : 10000 ≤ N) (hb : TxI b) (ht : Ci t) : ∀ n m i x c tp S, n + 1 ≤ m → i ≤ 701 → (x.1 = 0 → i ≤ x.2.1) → (x.1 = 0 → LI b x c tp) → (x.1 = 0 → b.1 + 1 ≤ n + x.2.1) → PCs S b x → (x.1 = 0 → CT S t c) → Fm (pcW t) S0 S → (∀ S', PCs S' b (sTxt b n x c tp).1 → ((sTxt b n x c tp).1.1 = 0 → CT S' t (sTxt b n x c tp).2.1) → Fm (pcW t) S0 S' → Rn (b_X2_read_53 N 2 t S') Q) → Rn (b_X2_read_16 N m 2 (nI b.1) t (nI i) S) Q := by
  intro n
  have hL := hb.1
  induction n with
  | zero =>
    intro m i x c tp S hm hi hix h hf hP hC hF hQ
    have hx : ¬ x.1 = 0 := fun z => by have := G_hi (h z).1; have := hf z; omega
    obtain ⟨m, rfl⟩ : ∃ k, m = k + 1 := ⟨m - 1, by omega⟩
    unfold b_X2_read_16
    rw [r2_0, c_fine hP, bd_some, if_neg hx, zer0]
    have g := hQ S hP hC hF
    split
    · exact g
    · exact g
  | succ n ih =>
    intro m i x c tp S hm hi hix h hf hP hC hF hQ
    obtain ⟨m, rfl⟩ : ∃ k, m = k + 1 := ⟨m - 1, by omega⟩
    unfold b_X2_read_16
    rw [r2_0, c_fine hP, bd_some]
    by_cases hx : x.1 = 0
    · have hi2 := hix hx
      have hh := G_hi (h hx).1
      rw [ltF (by omega) (by omega), if_pos hx, one0, hP.2.1.2.2.2.1]
      by_cases hk : x.2.2.2 = 0
      · rw [eq0T hk]
        rw [sTxt_e (fun q => q.2 hk)] at hQ
        exact hQ S hP hC hF
      · rw [eq0F (by omega) (by have := G_kd (h hx).1; omega)]
        obtain ⟨hG, hI, hR, htp⟩ := h hx
        refine Rn_bv (Rn_mono (c_line hN hb ht hI (RuA_R hR) hP (hC hx)) (fun S1 g => ?_))
        rw [nI1]
        have hL := fun q => L_ok hb hx (h hx) q
        have hF' := hf hx
        rw [sTxt_s hx hk] at hQ
        exact ih m (i + 1) _ _ (tpL b x c tp) S1 (by omega) (by omega) (fun q => by have := (hL q).2; omega) (fun q => (hL q).1) (fun q => by have := (hL q).2; omega) g.1 g.2.1 (Fm_tr hF g.2.2) hQ
    · rw [if_neg hx, zer0]
      rw [sTxt_e (fun q => hx q.1)] at hQ
      have g := hQ S hP hC hF
      split
      · exact g
      · exact g
theorem ms0 {k : Nat} : ms k = 0 ↔ k = 0 := by
  unfold ms
  repeat' split
  all_goals omega
theorem m_text {S0 : am_S} {b : Tx} {Q : Int32 × am_S → Prop} (hN : 10000 ≤ N) (hb : TxI b) : ∀ n m x c tp S, n + 1 ≤ m → (x.1 = 0 → LI b x c tp) → (x.1 = 0 → b.1 + 1 ≤ n + x.2.1) → PMs S b x → (x.1 = 0 → CTM S tp c) → Fl pmW S0 S → (∀ S', PMs S' b (sTxt b n x c tp).1 → ((sTxt b n x c tp).1.1 = 0 → CTM S' (sTxt b n x c tp).2.2 (sTxt b n x c tp).2.1) → Fl pmW S0 S' → Rn (b_X10_city_138 N 78 S') Q) → Rn (b_X10_city_117 N m 78 S) Q := by
  intro n
  have hL := hb.1
  induction n with
  | zero =>
    intro m x c tp S hm h hf hP hC hF hQ
    have hx : ¬ x.1 = 0 := fun z => by have := G_hi (h z).1; have := hf z; omega
    obtain ⟨m, rfl⟩ : ∃ k, m = k + 1 := ⟨m - 1, by omega⟩
    unfold b_X10_city_117
    rw [m_good hP, bd_some, if_neg hx, zer0]
    exact hQ S hP hC hF
  | succ n ih =>
    intro m x c tp S hm h hf hP hC hF hQ
    obtain ⟨m, rfl⟩ : ∃ k, m = k + 1 := ⟨m - 1, by omega⟩
    unfold b_X10_city_117
    rw [m_good hP, bd_some]
    by_cases hx : x.1 = 0
    · rw [if_pos hx, one0, hP.2.1.2.2.1]
      by_cases hk : x.2.2.2 = 0
      · rw [eq0T (ms0.mpr hk)]
        rw [sTxt_e (fun q => q.2 hk)] at hQ
        exact hQ S hP hC hF
      · rw [eq0F (by have : ¬ ms x.2.2.2 = 0 := fun q => hk (ms0.mp q); omega) (by have := ms_lt x.2.2.2; omega)]
        obtain ⟨hG, hI, hR, htp⟩ := h hx
        refine Rn_bv (Rn_mono (m_line hN hb hI hP hx (hC hx) htp) (fun S1 g => ?_))
        have hL := fun q => L_ok hb hx (h hx) q
        have hF' := hf hx
        rw [sTxt_s hx hk] at hQ
        exact ih m _ _ (tpL b x c tp) S1 (by omega) (fun q => (hL q).1) (fun q => by have := (hL q).2; omega) g.1 g.2.1 (Fl_tr hF g.2.2) hQ
    · rw [if_neg hx, zer0]
      rw [sTxt_e (fun q => hx q.1)] at hQ
      exact hQ S hP hC hF
end
