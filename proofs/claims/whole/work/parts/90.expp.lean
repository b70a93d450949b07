/-! the whole expression, by the model -/
section
variable {N : Nat}
def sEnd (b : Tx) (y : Ft) : Ft := aS b (if y.2.2.2 = 59 then y else aF 1 y)
def FR (b : Tx) (tp0 : Nat) (ef : Es) (S0 S' : am_S) : Prop := ∃ y : Ft, PMs S' b y ∧ sEnd b y = sEnd b ef.1 ∧ (ef.1.1 = 0 → y = ef.1 ∧ sg S' 78 32 = nI (tp0 + clen (rls 1 ef.2.1.1 ef.2.2.1).2 + 1) ∧ codeX S' tp0 (rls 1 ef.2.1.1 ef.2.2.1).2 ∧ sg S' 93 (tp0 + clen (rls 1 ef.2.1.1 ef.2.2.1).2) = 0) ∧ Fl (exW tp0) S0 S'
theorem sEnd_f {b : Tx} {y : Ft} (h : ¬ y.1 = 0) : sEnd b y = y := by
  unfold sEnd
  rw [aFf h, ite_self, aSf h]
theorem rls_45 : ∀ {s : List Nat} {P : Prg}, tst s = 0 → rls 4 s P = rls 5 s P := by
  intro s
  induction s with
  | nil => intro P _; rfl
  | cons a s ih =>
    intro P h
    have h' : (if rk a = 4 then 1 else tst s) = 0 := h
    have h4 : ¬ rk a = 4 := fun q => by rw [if_pos q] at h'; omega
    rw [if_neg h4] at h'
    by_cases z : 5 ≤ rk a
    · rw [show rls 4 (a :: s) P = rls 4 s (P ++ [(a, 0)]) from if_pos (by omega), show rls 5 (a :: s) P = rls 5 s (P ++ [(a, 0)]) from if_pos z]
      exact ih h'
    · rw [show rls 4 (a :: s) P = (a :: s, P) from if_neg (by omega), show rls 5 (a :: s) P = (a :: s, P) from if_neg z]
abbrev rW (tp0 : Nat) : Nat → Nat → Prop := fun k j => (k = 78 ∧ (j = 32 ∨ j = 35)) ∨ (k = 93 ∧ tp0 ≤ j)
theorem rf_w {tp0 : Nat} {S S' : am_S} (h : Fm (rW tp0) S S') : Fl (exW tp0) S S' := Fl_wk (Fl_m h) (fun k j q => by unfold exW; omega)
theorem PMs_rl {tp0 : Nat} {S S' : am_S} {b : Tx} {y : Ft} (h : PMs S b y) (hf : Fm (rW tp0) S S') : PMs S' b y := PMs_f h (by unfold lg; rw [hf.2]) (fun k j hk => hf.1 k j (by omega))
theorem m_opened {r : List (List Nat)} {S : am_S} : ∀ (s : List Nat) (n : Nat), sgI s → s.length + 1 < n → (flt s r).length ≤ 900 → stN S 94 (fun a => a) (flt s r) → b_X10_isOpened_7 N n 78 (nI (flt s r).length - 1) S = some (if r.length = 0 then 0 else 1, S) := by
  intro s
  induction s with
  | nil =>
    intro n _ hn hf h
    obtain ⟨m, rfl⟩ : ∃ m, n = m + 1 := ⟨n - 1, by omega⟩
    unfold b_X10_isOpened_7 b_X10_isOpened_29 b_X10_isOpened_38
    rw [isB0, isB1, ckT, ckT]
    cases r with
    | nil =>
      have e : nI (flt [] []).length - 1 < 0 := by decide
      rw [if_pos e, if_pos e]
      rfl
    | cons t r =>
      rw [flt_o] at h hf
      have hf' : (flt t r).length + 1 ≤ 900 := hf
      have h' : sg S 94 (flt t r).length = nI 14 := h.1
      rw [show nI (flt [] (t :: r)).length - 1 = nI (flt t r).length from by rw [show nI (flt [] (t :: r)).length = nI ((flt t r).length + 1) from rfl, l1, nIs (by omega)]; rfl]
      rw [lt0F (by omega), r78_44, n94, inbT (by omega) (by omega), nIc (by omega), h', m_opn, bd_some, if_neg (by decide : ¬ nI 14 < 14), one0, lt0F (by omega), ckT, if_neg (by show ¬ r.length + 1 = 0; omega : ¬ (t :: r).length = 0)]
  | cons a s ih =>
    intro n hI hn hf h
    obtain ⟨m, rfl⟩ : ∃ m, n = m + 1 := ⟨n - 1, by omega⟩
    rw [flt_c] at h hf
    have hf' : (flt s r).length + 1 ≤ 900 := hf
    have h' : sg S 94 (flt s r).length = nI a := h.1
    have a14 : nI a < 14 := (nIlt (b := 14) (by have := hI.1; omega) (by omega)).mpr (by have := hI.1; omega)
    rw [b_X10_isOpened_7]
    rw [show nI (flt (a :: s) r).length - 1 = nI (flt s r).length from by rw [flt_c, show nI (a :: flt s r).length = nI ((flt s r).length + 1) from rfl, l1, nIs (by omega)]; rfl]
    rw [lt0F (by omega), r78_44, n94, inbT (by omega) (by omega), nIc (by omega), h', m_opn, bd_some, if_pos a14, zer0]
    have := ih m hI.2.2 (by simp at hn; omega) (by omega) h.2
    rw [show nI (flt s r).length + (-1) = nI (flt s r).length - 1 from (Int32.sub_eq_add_neg ..).symm]
    exact this
/-- the end in a fault -/
theorem m_360f {S S0 : am_S} {b : Tx} {tp0 : Nat} {y : Ft} {ef : Es} (hN : 10000 ≤ N) (h : PMs S b y) (hy : ¬ y.1 = 0) (hW : WK S tp0) (he : ef.1 = y) (hF : Fl (exW tp0) S0 S) : Rn (b_X10_expression_360 N 78 S) (FR b tp0 ef S0) := by
  obtain ⟨tp, wl, ⟨h1, h2⟩, h3, h4, h5⟩ := hW
  unfold b_X10_expression_360 f_X10_drops
  refine Rn_bv (Rn_mono (m_dropf (tp0 := tp0) wl N tp S (by omega) h3 h4 h5 h1 h2) (fun S1 g => ?_))
  obtain ⟨⟨tp', k1, k2, k3⟩, k4⟩ := g
  rw [m_put k1 (by omega), bv_some]
  have hP : PMs S1 b y := PMs_rl h k4
  exact Rn_ret ⟨y, PMs_o (PMs_o hP (by omega)) (by omega), by rw [he], fun q => absurd (he ▸ q) hy, Fl_sp (Fl_sp (Fl_tr hF (rf_w k4)) (by unfold exW; omega)) (by unfold exW; omega)⟩
end
