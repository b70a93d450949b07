/-! an expression is read by the model -/
section
variable {N : Nat}
def exW (tp0 : Nat) : Nat → Nat → Prop := fun k j => (k = 78 ∧ ((15 ≤ j ∧ j ≤ 16) ∨ (19 ≤ j ∧ j ≤ 24) ∨ (32 ≤ j ∧ j ≤ 36))) ∨ (k = 93 ∧ tp0 ≤ j) ∨ k = 94 ∨ k = 95
theorem mw_ex {tp0 : Nat} {S S' : am_S} (h : Fl mw6 S S') : Fl (exW tp0) S S' := Fl_wk h (fun k j q => by unfold mw6 at q; unfold exW; omega)
theorem clen_ap (i : Nat × Nat) : ∀ P : Prg, clen (P ++ [i]) = clen P + (if i.1 = 1 ∨ i.1 = 2 then 2 else 1) := by
  intro P
  induction P with
  | nil => show (if i.1 = 1 ∨ i.1 = 2 then 2 else 1) + 0 = 0 + _; omega
  | cons x P ih =>
    show (if x.1 = 1 ∨ x.1 = 2 then 2 else 1) + clen (P ++ [i]) = (if x.1 = 1 ∨ x.1 = 2 then 2 else 1) + clen P + _
    rw [ih]
    omega
theorem clen_le : ∀ P : Prg, clen P ≤ 2 * P.length := by
  intro P
  induction P with
  | nil => exact Nat.zero_le _
  | cons x P ih =>
    show (if x.1 = 1 ∨ x.1 = 2 then 2 else 1) + clen P ≤ 2 * (P.length + 1)
    split <;> omega
theorem codeX_ap {S S' : am_S} {i : Nat × Nat} : ∀ {P : Prg} {a : Nat}, codeX S a P → (∀ j, j < a + clen P → sg S' 93 j = sg S 93 j) → sg S' 93 (a + clen P) = nI i.1 → (i.1 = 1 ∨ i.1 = 2 → sg S' 93 (a + clen P + 1) = nI i.2) → codeX S' a (P ++ [i]) := by
  intro P
  induction P with
  | nil => intro a _ _ h1 h2; exact ⟨h1, h2, trivial⟩
  | cons x P ih =>
    intro a h hs h1 h2
    obtain ⟨k1, k2, k3⟩ := h
    have e : clen (x :: P) = (if x.1 = 1 ∨ x.1 = 2 then 2 else 1) + clen P := rfl
    have hp : 1 ≤ (if x.1 = 1 ∨ x.1 = 2 then 2 else 1) := by split <;> omega
    rw [e, ← Nat.add_assoc] at hs h1 h2
    refine ⟨(hs _ (by omega)).trans k1, fun q => (hs _ ?_).trans (k2 q), ih k3 hs h1 h2⟩
    rw [if_pos q]
    omega
theorem m_put {S : am_S} {tp : Nat} {v : Int32} (h : sg S 78 32 = nI tp) (hl : tp < 1400) : f_X10_puts N 78 v S = some (sp (sp S 93 tp v) 78 32 (nI (tp + 1))) := by
  unfold f_X10_puts
  rw [r78_43, n93, h, inbT hl (by omega), nIc (by omega), sgn (by omega), h, nI1]
theorem m_wai {S : am_S} {wl : Nat} {v : Int32} (h : sg S 78 35 = nI wl) (hl : wl < 950) : f_X10_waitsFor N 78 v S = some (sp (sp S 94 wl v) 78 35 (nI (wl + 1))) := by
  unfold f_X10_waitsFor
  rw [r78_44, n94, h, inbT hl (by omega), nIc (by omega), sgn (by omega), h, nI1]
theorem m_str {a : Nat} {S : am_S} (h : 3 ≤ a ∧ a ≤ 11) : f_X10_strength N (nI a) S = some (nI (rk a), S) := by
  have q : a = 3 ∨ a = 4 ∨ a = 5 ∨ a = 6 ∨ a = 7 ∨ a = 8 ∨ a = 9 ∨ a = 10 ∨ a = 11 := by omega
  rcases q with q | q | q | q | q | q | q | q | q <;> subst q <;> rfl
theorem m_strx {v : Int32} {S : am_S} : ∃ w, f_X10_strength N v S = some (w, S) := by
  unfold f_X10_strength b_X10_strength_39 b_X10_strength_55 b_X10_strength_61
  simp only [it1]
  exact ⟨_, rfl⟩
theorem m_opn {v : Int32} {S : am_S} : f_X10_isOpen N v S = some (if v < 14 then 0 else 1, S) := by
  unfold f_X10_isOpen b_X10_isOpen_11
  rw [isB0, isB1, ckT, ckT, it1]
def MW (S : am_S) (tp0 : Nat) (s : List Nat) (r : List (List Nat)) (pg : Prg) : Prop := sg S 78 35 = nI (flt s r).length ∧ stN S 94 (fun a => a) (flt s r) ∧ sg S 78 32 = nI (tp0 + clen pg) ∧ codeX S tp0 pg
def WK (S : am_S) (tp0 : Nat) : Prop := ∃ tp wl, (sg S 78 35 = nI wl ∧ sg S 78 32 = nI tp) ∧ wl ≤ 900 ∧ tp + wl < 1396 ∧ tp0 ≤ tp
theorem m_dropf {tp0 : Nat} {l : Int32} : ∀ (wl n tp : Nat) (S : am_S), wl < n → wl ≤ 900 → tp + wl < 1396 → tp0 ≤ tp → sg S 78 35 = nI wl → sg S 78 32 = nI tp → Rn (b_X10_drops_0 N n 78 l S) (fun S' => (∃ tp', sg S' 78 32 = nI tp' ∧ tp0 ≤ tp' ∧ tp' < 1396) ∧ Fm (fun k j => (k = 78 ∧ (j = 32 ∨ j = 35)) ∨ (k = 93 ∧ tp0 ≤ j)) S S') := by
  intro wl
  induction wl with
  | zero =>
    intro n tp S hn h1 h2 h3 h4 h5
    obtain ⟨m, rfl⟩ : ∃ m, n = m + 1 := ⟨n - 1, by omega⟩
    unfold b_X10_drops_0 b_X10_drops_68
    have e : sg S 78 35 ≤ 0 := by rw [h4]; decide
    rw [if_pos e]
    exact Rn_ret ⟨⟨tp, h5, h3, by omega⟩, Fm_rf _ _⟩
  | succ wl ih =>
    intro n tp S hn h1 h2 h3 h4 h5
    obtain ⟨m, rfl⟩ : ∃ m, n = m + 1 := ⟨n - 1, by omega⟩
    unfold b_X10_drops_0 b_X10_drops_68
    rw [h4, le0F (by omega) (by omega), l1, nIs (by omega), show wl + 1 - 1 = wl by omega, r78_44, n94, inbT (by omega) (by omega), nIc (by omega), m_opn, bd_some]
    have stay : Rn (some S) (fun S' => (∃ tp', sg S' 78 32 = nI tp' ∧ tp0 ≤ tp' ∧ tp' < 1396) ∧ Fm (fun k j => (k = 78 ∧ (j = 32 ∨ j = 35)) ∨ (k = 93 ∧ tp0 ≤ j)) S S') := Rn_ret ⟨⟨tp, h5, h3, by omega⟩, Fm_rf _ _⟩
    by_cases z : sg S 94 wl < 14
    · rw [if_pos z, zer0, h4, nIs (by omega), show wl + 1 - 1 = wl by omega, inbT (by omega) (by omega), nIc (by omega)]
      obtain ⟨w, hw⟩ := m_strx (N := N) (v := sg S 94 wl) (S := S)
      rw [hw, bd_some]
      by_cases y : w < l
      · rw [if_pos y]
        exact stay
      · rw [if_neg y, h4, nIs (by omega), show wl + 1 - 1 = wl by omega, sgp, inbT (by omega) (by omega), nIc (by omega), sgn (by omega)]
        rw [m_put (tp := tp) (by rw [sgj (by omega)]; exact h5) (by omega), bv_some]
        refine Rn_mono (ih m (tp + 1) _ (by omega) (by omega) (by omega) (by omega) ?_ (sgp _ _ _ _)) (fun S2 g => ⟨g.1, Fm_tr (Fm_sp (Fm_sp (Fm_sp (Fm_rf _ _) (by omega)) (by omega)) (by omega)) g.2⟩)
        simp (disch := omega) only [sgp, sgn, sgj]
    · rw [if_neg z, one0]
      exact stay
theorem m_rel {tp0 lv rr : Nat} {r : List (List Nat)} (hlv : lv = rr ∨ (lv = 0 ∧ rr = 1)) (hrr : 1 ≤ rr ∧ rr ≤ 6) : ∀ (s : List Nat) (n : Nat) (S : am_S) (pg : Prg), sgI s → s.length < n → (flt s r).length ≤ 900 → tp0 + clen pg + (flt s r).length < 1396 → MW S tp0 s r pg → Rn (b_X10_drops_0 N n 78 (nI lv) S) (fun S' => MW S' tp0 (rls rr s pg).1 r (rls rr s pg).2 ∧ Fm (fun k j => (k = 78 ∧ (j = 32 ∨ j = 35)) ∨ (k = 93 ∧ tp0 ≤ j)) S S') := by
  intro s
  induction s with
  | nil =>
    intro n S pg _ hn hf hl h
    obtain ⟨m, rfl⟩ : ∃ m, n = m + 1 := ⟨n - 1, by simp at hn; omega⟩
    have h0 := h
    obtain ⟨h1, h2, -⟩ := h
    cases r with
    | nil =>
      unfold b_X10_drops_0 b_X10_drops_68
      have e : sg S 78 35 ≤ 0 := by rw [h1]; decide
      rw [if_pos e]
      exact Rn_ret ⟨h0, Fm_rf _ _⟩
    | cons t r =>
      rw [flt_o] at h2 hf
      have hf' : (flt t r).length + 1 ≤ 900 := hf
      have h2' : sg S 94 (flt t r).length = nI 14 := h2.1
      have h1' : sg S 78 35 = nI ((flt t r).length + 1) := h1
      unfold b_X10_drops_0 b_X10_drops_68
      rw [h1', le0F (by omega) (by omega), l1, nIs (by omega), show (flt t r).length + 1 - 1 = (flt t r).length by omega, r78_44, n94, inbT (by omega) (by omega), nIc (by omega), h2', m_opn, bd_some, if_neg (by decide : ¬ nI 14 < 14), one0]
      exact Rn_ret ⟨h0, Fm_rf _ _⟩
  | cons a s ih =>
    intro n S pg hI hn hf hl h
    obtain ⟨m, rfl⟩ : ∃ m, n = m + 1 := ⟨n - 1, by omega⟩
    have h0 := h
    obtain ⟨h1, h2, h3, h4⟩ := h
    obtain ⟨i1, -, i3⟩ := hI
    rw [flt_c] at h1 h2 hf hl
    have h1' : sg S 78 35 = nI ((flt s r).length + 1) := h1
    have hf' : (flt s r).length + 1 ≤ 900 := hf
    have hl' : tp0 + clen pg + ((flt s r).length + 1) < 1396 := hl
    have h2' : sg S 94 (flt s r).length = nI a := h2.1
    have hrb := rk_b (a := a)
    have a14 : nI a < 14 := (nIlt (b := 14) (by omega) (by omega)).mpr (by omega)
    unfold b_X10_drops_0 b_X10_drops_68
    rw [h1', le0F (by omega) (by omega), l1, nIs (by omega), show (flt s r).length + 1 - 1 = (flt s r).length by omega, r78_44, n94, inbT (by omega) (by omega), nIc (by omega), h2', m_opn, bd_some, if_pos a14, zer0, h1', nIs (by omega), show (flt s r).length + 1 - 1 = (flt s r).length by omega, inbT (by omega) (by omega), nIc (by omega), h2', m_str i1, bd_some]
    by_cases z : rr ≤ rk a
    · have e : rls rr (a :: s) pg = rls rr s (pg ++ [(a, 0)]) := if_pos z
      rw [ltF (by omega) (by omega), e, h1', nIs (by omega), show (flt s r).length + 1 - 1 = (flt s r).length by omega, sgp, inbT (by omega) (by omega), nIc (by omega), sgn (by omega), h2']
      rw [m_put (tp := tp0 + clen pg) (by rw [sgj (by omega)]; exact h3) (by omega), bv_some]
      have ha : ¬ (a = 1 ∨ a = 2) := by omega
      have hc : clen (pg ++ [(a, 0)]) = clen pg + 1 := by
        rw [clen_ap]
        show clen pg + (if a = 1 ∨ a = 2 then 2 else 1) = _
        rw [if_neg ha]
      refine Rn_mono (ih m _ (pg ++ [(a, 0)]) i3 (by simp at hn; omega) (by omega) (by omega) ⟨?_, ?_, ?_, ?_⟩) (fun S2 g => ⟨g.1, Fm_tr (Fm_sp (Fm_sp (Fm_sp (Fm_rf _ _) (by omega)) (by omega)) (by omega)) g.2⟩)
      · simp (disch := omega) only [sgp, sgn, sgj]
      · exact stN_s h2.2 (fun j _ => by simp (disch := omega) only [sgp, sgn, sgj])
      · rw [sgp, hc, Nat.add_assoc]
      · refine codeX_ap h4 (fun j hj => ?_) ?_ (fun q => absurd q ha)
        · simp (disch := omega) only [sgp, sgn, sgj]
        · simp (disch := omega) only [sgp, sgn, sgj]
    · have e : rls rr (a :: s) pg = (a :: s, pg) := if_neg z
      rw [ltT (by omega) (by omega), e]
      exact Rn_ret ⟨h0, Fm_rf _ _⟩
def TSr (S : am_S) : List (List Nat) → Prop
  | [] => True
  | s :: r => sg S 95 (r.length + 1) = nI (tst s) ∧ TSr S r
theorem TSr_s {S S' : am_S} : ∀ {w : List (List Nat)}, TSr S w → (∀ j, j ≤ w.length → sg S' 95 j = sg S 95 j) → TSr S' w := by
  intro w
  induction w with
  | nil => intro _ _; trivial
  | cons s r ih =>
    intro h hs
    exact ⟨(hs _ (Nat.le_refl _)).trans h.1, ih h.2 (fun j hj => hs j (Nat.le_succ_of_le hj))⟩
def ME (S : am_S) (tp0 lo hi : Nat) (s : List Nat) (r : List (List Nat)) (pg : Prg) : Prop := MW S tp0 s r pg ∧ sg S 78 36 = nI (r.length + 1) ∧ TSr S (s :: r) ∧ sg S 78 33 = nI lo ∧ sg S 78 34 = nI hi
theorem MW_6 {S S' : am_S} {tp0 : Nat} {s : List Nat} {r : List (List Nat)} {pg : Prg} (h : MW S tp0 s r pg) (hs : ∀ k j, (k = 78 ∧ (j = 32 ∨ j = 35)) ∨ k = 93 ∨ k = 94 → sg S' k j = sg S k j) : MW S' tp0 s r pg := ⟨(hs _ _ (by omega)).trans h.1, stN_s h.2.1 (fun j _ => hs _ _ (by omega)), (hs _ _ (by omega)).trans h.2.2.1, codeX_s (n := tp0 + clen pg) (Nat.le_refl _) h.2.2.2 (fun j _ => hs _ _ (by omega))⟩
theorem ME_6 {S S' : am_S} {tp0 lo hi : Nat} {s : List Nat} {r : List (List Nat)} {pg : Prg} (h : ME S tp0 lo hi s r pg) (hf : Fl mw6 S S') : ME S' tp0 lo hi s r pg := ⟨MW_6 h.1 (fun k j hk => hf.1 k j (by unfold mw6; omega)), (hf.1 _ _ (by unfold mw6; omega)).trans h.2.1, TSr_s h.2.2.1 (fun j _ => hf.1 _ _ (by unfold mw6; omega)), (hf.1 _ _ (by unfold mw6; omega)).trans h.2.2.2.1, (hf.1 _ _ (by unfold mw6; omega)).trans h.2.2.2.2⟩
theorem WK_6 {S S' : am_S} {tp0 : Nat} (h : WK S tp0) (hf : Fl mw6 S S') : WK S' tp0 := by
  obtain ⟨tp, wl, ⟨h1, h2⟩, h3⟩ := h
  exact ⟨tp, wl, ⟨(hf.1 _ _ (by unfold mw6; omega)).trans h1, (hf.1 _ _ (by unfold mw6; omega)).trans h2⟩, h3⟩
end
