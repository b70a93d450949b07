/-! the law's cases (written by gen9k.py) -/
section
variable {N sn i : Nat} {sx : Nat → Int32} {k23 : Int32 → am_S → Option am_S} {Q : am_S → Prop} {S : am_S}
theorem i_n {k : Nat} (h : i + 6 ≤ sn) (hs : sn ≤ 3072) (hk : k < 6) : (inb (nI i + nI k) sn = true) = True := by
  rw [nIa]
  exact eq_true (inbN (by omega) (by omega))
theorem E_0 : ∀ (e : Nat) (S1 : am_S), e = 0 → (if e = 0 then some ((1 : Int32), S1) else none) = some (cd2 e, S1) ∧ ¬ cd2 e = 0 := fun e S1 h => by
  subst h
  exact ⟨rfl, by decide⟩
theorem E_1 : ∀ (e : Nat) (S1 : am_S), e = 1 → (if e = 1 then some ((1 : Int32), S1) else none) = some (cd1 e, S1) ∧ ¬ cd1 e = 0 := fun e S1 h => by
  subst h
  exact ⟨rfl, by decide⟩
theorem E_01 : ∀ (e : Nat) (S1 : am_S), (e = 0 ∨ e = 1) → (if e = 0 then some ((1 : Int32), S1) else (if e = 1 then some (2, S1) else none)) = some (cd2 e, S1) ∧ ¬ cd2 e = 0 := fun e S1 h => by
  rcases h with h | h
  · subst h
    exact ⟨rfl, by decide⟩
  · subst h
    exact ⟨rfl, by decide⟩
theorem lc_0 (hN : 10000 ≤ N) (hi : i + 6 ≤ sn) (hs : sn ≤ 3072) (h : LSt S) (hK : ∀ S', LSt S' → Rn (k23 (nI i + 6) S') Q) : Rn (b_L_law_c0 N sn sx k23 (nI i) S) Q := by
  obtain ⟨t, a, hW, hX, hO, hM⟩ := h
  have hnp := WX_np hW
  have i1 : (inb (nI i + 1) sn = true) = True := i_n (k := 1) hi hs (by omega)
  have i2 : (inb (nI i + 2) sn = true) = True := i_n (k := 2) hi hs (by omega)
  have i3 : (inb (nI i + 3) sn = true) = True := i_n (k := 3) hi hs (by omega)
  have i4 : (inb (nI i + 4) sn = true) = True := i_n (k := 4) hi hs (by omega)
  have i5 : (inb (nI i + 5) sn = true) = True := i_n (k := 5) hi hs (by omega)
  unfold b_L_law_c0 b_L_law_2453
  simp only [i1, i2, i3, i4, i5, if_true]
  exact l_jp (x_feed hN hW) hX hO hM hnp hK
theorem lc_1 (hN : 10000 ≤ N) (hi : i + 6 ≤ sn) (hs : sn ≤ 3072) (h : LSt S) (hK : ∀ S', LSt S' → Rn (k23 (nI i + 6) S') Q) : Rn (b_L_law_c1 N sn sx k23 (nI i) S) Q := by
  obtain ⟨t, a, hW, hX, hO, hM⟩ := h
  have hnp := WX_np hW
  have i1 : (inb (nI i + 1) sn = true) = True := i_n (k := 1) hi hs (by omega)
  unfold b_L_law_c1 b_L_law_2453
  unfold f_L_city
  simp only [i1, if_true]
  exact l_jx (P := fun e => e = 1) (x_city hN hW) hX hO hM hnp (e_f_X9_city (P := fun e => e = 1) rfl _ _ _) E_1 hK
theorem lc_2 (hN : 10000 ≤ N) (hi : i + 6 ≤ sn) (hs : sn ≤ 3072) (h : LSt S) (hK : ∀ S', LSt S' → Rn (k23 (nI i + 6) S') Q) : Rn (b_L_law_c2 N sn sx k23 (nI i) S) Q := by
  obtain ⟨t, a, hW, hX, hO, hM⟩ := h
  have hnp := WX_np hW
  unfold b_L_law_c2 b_L_law_2453
  exact l_jp (x_fault hW) hX hO hM hnp hK
theorem lc_3 (hN : 10000 ≤ N) (hi : i + 6 ≤ sn) (hs : sn ≤ 3072) (h : LSt S) (hK : ∀ S', LSt S' → Rn (k23 (nI i + 6) S') Q) : Rn (b_L_law_c3 N sn sx k23 (nI i) S) Q := by
  obtain ⟨t, a, hW, hX, hO, hM⟩ := h
  have hnp := WX_np hW
  have i1 : (inb (nI i + 1) sn = true) = True := i_n (k := 1) hi hs (by omega)
  unfold b_L_law_c3 b_L_law_2453
  unfold f_L_count
  simp only [i1, if_true]
  exact l_jx (P := fun e => e = 0) (x_count hN hW) hX hO hM hnp (e_f_X9_count (P := fun e => e = 0) rfl _ _ _) E_0 hK
theorem lc_4 (hN : 10000 ≤ N) (hi : i + 6 ≤ sn) (hs : sn ≤ 3072) (h : LSt S) (hK : ∀ S', LSt S' → Rn (k23 (nI i + 6) S') Q) : Rn (b_L_law_c4 N sn sx k23 (nI i) S) Q := by
  obtain ⟨t, a, hW, hX, hO, hM⟩ := h
  have hnp := WX_np hW
  have i1 : (inb (nI i + 1) sn = true) = True := i_n (k := 1) hi hs (by omega)
  have i2 : (inb (nI i + 2) sn = true) = True := i_n (k := 2) hi hs (by omega)
  unfold b_L_law_c4 b_L_law_2453
  unfold f_L_box
  simp only [i1, i2, if_true]
  exact l_jx (P := fun e => e = 0) (Jx_q hW (j_box hN hW.1 hW.2.1.1)) hX hO hM hnp (e_f_X9_box (P := fun e => e = 0) rfl _ _ _ _) E_0 hK
theorem lc_5 (hN : 10000 ≤ N) (hi : i + 6 ≤ sn) (hs : sn ≤ 3072) (h : LSt S) (hK : ∀ S', LSt S' → Rn (k23 (nI i + 6) S') Q) : Rn (b_L_law_c5 N sn sx k23 (nI i) S) Q := by
  obtain ⟨t, a, hW, hX, hO, hM⟩ := h
  have hnp := WX_np hW
  have i1 : (inb (nI i + 1) sn = true) = True := i_n (k := 1) hi hs (by omega)
  have i2 : (inb (nI i + 2) sn = true) = True := i_n (k := 2) hi hs (by omega)
  unfold b_L_law_c5 b_L_law_2453
  unfold f_L_person
  simp only [i1, i2, if_true]
  exact l_jx (P := fun e => e = 0) (Jx_q hW (j_person hN hW.1 hW.2.1.1)) hX hO hM hnp (e_f_X9_person (P := fun e => e = 0) rfl _ _ _ _) E_0 hK
theorem lc_6 (hN : 10000 ≤ N) (hi : i + 6 ≤ sn) (hs : sn ≤ 3072) (h : LSt S) (hK : ∀ S', LSt S' → Rn (k23 (nI i + 6) S') Q) : Rn (b_L_law_c6 N sn sx k23 (nI i) S) Q := by
  obtain ⟨t, a, hW, hX, hO, hM⟩ := h
  have hnp := WX_np hW
  have i1 : (inb (nI i + 1) sn = true) = True := i_n (k := 1) hi hs (by omega)
  have i2 : (inb (nI i + 2) sn = true) = True := i_n (k := 2) hi hs (by omega)
  unfold b_L_law_c6 b_L_law_2453
  unfold f_L_held
  simp only [i1, i2, if_true]
  exact l_jx (P := fun e => e = 0) (Jx_q hW (j_held hW.1)) hX hO hM hnp (e_f_X9_held (P := fun e => e = 0) rfl _ _ _ _) E_0 hK
theorem lc_7 (hN : 10000 ≤ N) (hi : i + 6 ≤ sn) (hs : sn ≤ 3072) (h : LSt S) (hK : ∀ S', LSt S' → Rn (k23 (nI i + 6) S') Q) : Rn (b_L_law_c7 N sn sx k23 (nI i) S) Q := by
  obtain ⟨t, a, hW, hX, hO, hM⟩ := h
  have hnp := WX_np hW
  have i1 : (inb (nI i + 1) sn = true) = True := i_n (k := 1) hi hs (by omega)
  unfold b_L_law_c7 b_L_law_2453
  simp only [i1, if_true]
  exact l_jp (x_days hN hW) hX hO hM hnp hK
theorem lc_8 (hN : 10000 ≤ N) (hi : i + 6 ≤ sn) (hs : sn ≤ 3072) (h : LSt S) (hK : ∀ S', LSt S' → Rn (k23 (nI i + 6) S') Q) : Rn (b_L_law_c8 N sn sx k23 (nI i) S) Q := by
  obtain ⟨t, a, hW, hX, hO, hM⟩ := h
  have hnp := WX_np hW
  have i1 : (inb (nI i + 1) sn = true) = True := i_n (k := 1) hi hs (by omega)
  unfold b_L_law_c8 b_L_law_2453
  unfold f_L_write
  simp only [i1, if_true]
  exact l_jx (P := fun e => e = 0) (x_write hN hW) hX hO hM hnp (e_f_X9_write (P := fun e => e = 0) rfl _ _ _) E_0 hK
theorem lc_9 (hN : 10000 ≤ N) (hi : i + 6 ≤ sn) (hs : sn ≤ 3072) (h : LSt S) (hK : ∀ S', LSt S' → Rn (k23 (nI i + 6) S') Q) : Rn (b_L_law_c9 N sn sx k23 (nI i) S) Q := by
  obtain ⟨t, a, hW, hX, hO, hM⟩ := h
  have hnp := WX_np hW
  have i1 : (inb (nI i + 1) sn = true) = True := i_n (k := 1) hi hs (by omega)
  unfold b_L_law_c9 b_L_law_2453
  unfold f_L_paint
  simp only [i1, if_true]
  exact l_jx (P := fun e => e = 0) (x_paint hN hW) hX hO hM hnp (e_f_X9_paint (P := fun e => e = 0) rfl _ _ _) E_0 hK
theorem lc_10 (hN : 10000 ≤ N) (hi : i + 6 ≤ sn) (hs : sn ≤ 3072) (h : LSt S) (hK : ∀ S', LSt S' → Rn (k23 (nI i + 6) S') Q) : Rn (b_L_law_c10 N sn sx k23 (nI i) S) Q := by
  obtain ⟨t, a, hW, hX, hO, hM⟩ := h
  have hnp := WX_np hW
  have i1 : (inb (nI i + 1) sn = true) = True := i_n (k := 1) hi hs (by omega)
  have i2 : (inb (nI i + 2) sn = true) = True := i_n (k := 2) hi hs (by omega)
  unfold b_L_law_c10 b_L_law_2453
  unfold f_L_turn
  simp only [i1, i2, if_true]
  exact l_jx (P := fun e => e = 0) (x_turn hN hW) hX hO hM hnp (e_f_X9_turn (P := fun e => e = 0) rfl _ _ _ _) E_0 hK
theorem lc_11 (hN : 10000 ≤ N) (hi : i + 6 ≤ sn) (hs : sn ≤ 3072) (h : LSt S) (hK : ∀ S', LSt S' → Rn (k23 (nI i + 6) S') Q) : Rn (b_L_law_c11 N sn sx k23 (nI i) S) Q := by
  obtain ⟨t, a, hW, hX, hO, hM⟩ := h
  have hnp := WX_np hW
  have i1 : (inb (nI i + 1) sn = true) = True := i_n (k := 1) hi hs (by omega)
  unfold b_L_law_c11 b_L_law_2453
  by_cases z : sx (Int32.toNatClampNeg (nI i + 1)) = 0
  · have zT : (sx (Int32.toNatClampNeg (nI i + 1)) = 0) = True := eq_true z
    simp only [i1, zT, if_true]
    exact l_jp (x_strike (b := false) hN hW) hX hO hM hnp hK
  · have zF : (sx (Int32.toNatClampNeg (nI i + 1)) = 0) = False := eq_false z
    simp only [i1, zF, if_true, if_false]
    exact l_jp (x_strike (b := true) hN hW) hX hO hM hnp hK
theorem lc_12 (hN : 10000 ≤ N) (hi : i + 6 ≤ sn) (hs : sn ≤ 3072) (h : LSt S) (hK : ∀ S', LSt S' → Rn (k23 (nI i + 6) S') Q) : Rn (b_L_law_c12 N sn sx k23 (nI i) S) Q := by
  obtain ⟨t, a, hW, hX, hO, hM⟩ := h
  have hnp := WX_np hW
  unfold b_L_law_c12 b_L_law_2453
  exact l_jp (x_undo hN hW) hX hO hM hnp hK
theorem lc_13 (hN : 10000 ≤ N) (hi : i + 6 ≤ sn) (hs : sn ≤ 3072) (h : LSt S) (hK : ∀ S', LSt S' → Rn (k23 (nI i + 6) S') Q) : Rn (b_L_law_c13 N sn sx k23 (nI i) S) Q := by
  obtain ⟨t, a, hW, hX, hO, hM⟩ := h
  have hnp := WX_np hW
  have i1 : (inb (nI i + 1) sn = true) = True := i_n (k := 1) hi hs (by omega)
  have i2 : (inb (nI i + 2) sn = true) = True := i_n (k := 2) hi hs (by omega)
  have i3 : (inb (nI i + 3) sn = true) = True := i_n (k := 3) hi hs (by omega)
  unfold b_L_law_c13 b_L_law_2453
  unfold f_L_then
  simp only [i1, i2, i3, if_true]
  exact l_jx (P := fun e => e = 0 ∨ e = 1) (Jx_q hW (j_then hN hW.1 hW.2.1.1)) hX hO hM hnp (e_f_X9_then (P := fun e => e = 0 ∨ e = 1) (Or.inl rfl) (Or.inr rfl) _ _ _ _ _) E_01 hK
theorem lc_14 (hN : 10000 ≤ N) (hi : i + 6 ≤ sn) (hs : sn ≤ 3072) (h : LSt S) (hK : ∀ S', LSt S' → Rn (k23 (nI i + 6) S') Q) : Rn (b_L_law_c14 N sn sx k23 (nI i) S) Q := by
  obtain ⟨t, a, hW, hX, hO, hM⟩ := h
  have hnp := WX_np hW
  have i1 : (inb (nI i + 1) sn = true) = True := i_n (k := 1) hi hs (by omega)
  have i2 : (inb (nI i + 2) sn = true) = True := i_n (k := 2) hi hs (by omega)
  have i3 : (inb (nI i + 3) sn = true) = True := i_n (k := 3) hi hs (by omega)
  unfold b_L_law_c14 b_L_law_2453
  unfold f_L_later
  simp only [i1, i2, i3, if_true]
  exact l_jx (P := fun e => e = 0 ∨ e = 1) (Jx_q hW (j_later hN hW.1 hW.2.1.1)) hX hO hM hnp (e_f_X9_later (P := fun e => e = 0 ∨ e = 1) (Or.inl rfl) (Or.inr rfl) _ _ _ _ _) E_01 hK
theorem lc_15 (hN : 10000 ≤ N) (hi : i + 6 ≤ sn) (hs : sn ≤ 3072) (h : LSt S) (hK : ∀ S', LSt S' → Rn (k23 (nI i + 6) S') Q) : Rn (b_L_law_c15 N sn sx k23 (nI i) S) Q := by
  obtain ⟨t, a, hW, hX, hO, hM⟩ := h
  have hnp := WX_np hW
  have i1 : (inb (nI i + 1) sn = true) = True := i_n (k := 1) hi hs (by omega)
  unfold b_L_law_c15 b_L_law_2453
  unfold f_L_first
  simp only [i1, if_true]
  exact l_jx (P := fun e => e = 0) (Jx_q hW (j_first hN hW.1 hW.2.1.1)) hX hO hM hnp (e_f_X9_first (P := fun e => e = 0) rfl _ _ _) E_0 hK
theorem lc_16 (hN : 10000 ≤ N) (hi : i + 6 ≤ sn) (hs : sn ≤ 3072) (h : LSt S) (hK : ∀ S', LSt S' → Rn (k23 (nI i + 6) S') Q) : Rn (b_L_law_c16 N sn sx k23 (nI i) S) Q := by
  obtain ⟨t, a, hW, hX, hO, hM⟩ := h
  have hnp := WX_np hW
  have i1 : (inb (nI i + 1) sn = true) = True := i_n (k := 1) hi hs (by omega)
  have i2 : (inb (nI i + 2) sn = true) = True := i_n (k := 2) hi hs (by omega)
  unfold b_L_law_c16 b_L_law_2453
  unfold f_L_full
  simp only [i1, i2, if_true]
  exact l_jx (P := fun e => e = 0 ∨ e = 1) (Jx_q hW (j_full hN hW.1 hW.2.1.1)) hX hO hM hnp (e_f_X9_full (P := fun e => e = 0 ∨ e = 1) (Or.inl rfl) (Or.inr rfl) _ _ _ _) E_01 hK
theorem lc_17 (hN : 10000 ≤ N) (hi : i + 6 ≤ sn) (hs : sn ≤ 3072) (h : LSt S) (hK : ∀ S', LSt S' → Rn (k23 (nI i + 6) S') Q) : Rn (b_L_law_c17 N sn sx k23 (nI i) S) Q := by
  obtain ⟨t, a, hW, hX, hO, hM⟩ := h
  have hnp := WX_np hW
  have i1 : (inb (nI i + 1) sn = true) = True := i_n (k := 1) hi hs (by omega)
  have i2 : (inb (nI i + 2) sn = true) = True := i_n (k := 2) hi hs (by omega)
  unfold b_L_law_c17 b_L_law_2453
  unfold f_L_most
  simp only [i1, i2, if_true]
  exact l_jx (P := fun e => e = 0 ∨ e = 1) (Jx_q hW (j_most hN hW.1 hW.2.1.1)) hX hO hM hnp (e_f_X9_most (P := fun e => e = 0 ∨ e = 1) (Or.inl rfl) (Or.inr rfl) _ _ _ _) E_01 hK
theorem lc_18 (hN : 10000 ≤ N) (hi : i + 6 ≤ sn) (hs : sn ≤ 3072) (h : LSt S) (hK : ∀ S', LSt S' → Rn (k23 (nI i + 6) S') Q) : Rn (b_L_law_c18 N sn sx k23 (nI i) S) Q := by
  obtain ⟨t, a, hW, hX, hO, hM⟩ := h
  have hnp := WX_np hW
  have i1 : (inb (nI i + 1) sn = true) = True := i_n (k := 1) hi hs (by omega)
  unfold b_L_law_c18 b_L_law_2453
  unfold f_L_ring
  simp only [i1, if_true]
  exact l_jx (P := fun e => e = 0) (Jx_q hW (j_ring hN hW.1 hW.2.1.1)) hX hO hM hnp (e_f_X9_ring (P := fun e => e = 0) rfl _ _ _) E_0 hK
theorem lc_19 (hN : 10000 ≤ N) (hi : i + 6 ≤ sn) (hs : sn ≤ 3072) (h : LSt S) (hK : ∀ S', LSt S' → Rn (k23 (nI i + 6) S') Q) : Rn (b_L_law_c19 N sn sx k23 (nI i) S) Q := by
  obtain ⟨t, a, hW, hX, hO, hM⟩ := h
  have hnp := WX_np hW
  have i1 : (inb (nI i + 1) sn = true) = True := i_n (k := 1) hi hs (by omega)
  unfold b_L_law_c19 b_L_law_2453
  unfold f_L_comesTo
  simp only [i1, if_true]
  exact l_jx (P := fun e => e = 0) (Jx_q hW (j_comesTo hN hW.1 hW.2.1.1)) hX hO hM hnp (e_f_X9_comesTo (P := fun e => e = 0) rfl _ _ _) E_0 hK
theorem lc_20 (hN : 10000 ≤ N) (hi : i + 6 ≤ sn) (hs : sn ≤ 3072) (h : LSt S) (hK : ∀ S', LSt S' → Rn (k23 (nI i + 6) S') Q) : Rn (b_L_law_c20 N sn sx k23 (nI i) S) Q := by
  obtain ⟨t, a, hW, hX, hO, hM⟩ := h
  have hnp := WX_np hW
  have i1 : (inb (nI i + 1) sn = true) = True := i_n (k := 1) hi hs (by omega)
  unfold b_L_law_c20 b_L_law_2453
  unfold f_L_toCover
  simp only [i1, if_true]
  exact l_jx (P := fun e => e = 1) (Jx_q hW (j_toCover hN hW.1 hW.2.1.1)) hX hO hM hnp (e_f_X9_toCover (P := fun e => e = 1) rfl _ _ _) E_1 hK
theorem lc_21 (hN : 10000 ≤ N) (hi : i + 6 ≤ sn) (hs : sn ≤ 3072) (h : LSt S) (hK : ∀ S', LSt S' → Rn (k23 (nI i + 6) S') Q) : Rn (b_L_law_c21 N sn sx k23 (nI i) S) Q := by
  obtain ⟨t, a, hW, hX, hO, hM⟩ := h
  have hnp := WX_np hW
  have i1 : (inb (nI i + 1) sn = true) = True := i_n (k := 1) hi hs (by omega)
  unfold b_L_law_c21 b_L_law_2453
  unfold f_L_oneMore
  simp only [i1, if_true]
  exact l_jx (P := fun e => e = 0) (Jx_q hW (j_oneMore hN hW.1 hW.2.1.1)) hX hO hM hnp (e_f_X9_oneMore (P := fun e => e = 0) rfl _ _ _) E_0 hK
theorem lc_22 (hN : 10000 ≤ N) (hi : i + 6 ≤ sn) (hs : sn ≤ 3072) (h : LSt S) (hK : ∀ S', LSt S' → Rn (k23 (nI i + 6) S') Q) : Rn (b_L_law_c22 N sn sx k23 (nI i) S) Q := by
  obtain ⟨t, a, hW, hX, hO, hM⟩ := h
  have hnp := WX_np hW
  have i1 : (inb (nI i + 1) sn = true) = True := i_n (k := 1) hi hs (by omega)
  unfold b_L_law_c22 b_L_law_2453
  unfold f_L_order
  simp only [i1, if_true]
  exact l_jx (P := fun e => e = 0) (x_order hN hW) hX hO hM hnp (e_f_X9_order (P := fun e => e = 0) rfl _ _ _) E_0 hK
theorem lc_23 (hN : 10000 ≤ N) (hi : i + 6 ≤ sn) (hs : sn ≤ 3072) (h : LSt S) (hK : ∀ S', LSt S' → Rn (k23 (nI i + 6) S') Q) : Rn (b_L_law_c23 N sn sx k23 (nI i) S) Q := by
  obtain ⟨t, a, hW, hX, hO, hM⟩ := h
  have hnp := WX_np hW
  have i1 : (inb (nI i + 1) sn = true) = True := i_n (k := 1) hi hs (by omega)
  have i2 : (inb (nI i + 2) sn = true) = True := i_n (k := 2) hi hs (by omega)
  have i3 : (inb (nI i + 3) sn = true) = True := i_n (k := 3) hi hs (by omega)
  unfold b_L_law_c23 b_L_law_2453
  unfold f_L_note
  simp only [i1, i2, i3, if_true]
  exact l_jx (P := fun e => e = 0) (x_note hN hW) hX hO hM hnp (e_f_X9_note (P := fun e => e = 0) rfl _ _ _ _ _) E_0 hK
theorem lc_24 (hN : 10000 ≤ N) (hi : i + 6 ≤ sn) (hs : sn ≤ 3072) (h : LSt S) (hK : ∀ S', LSt S' → Rn (k23 (nI i + 6) S') Q) : Rn (b_L_law_c24 N sn sx k23 (nI i) S) Q := by
  obtain ⟨t, a, hW, hX, hO, hM⟩ := h
  have hnp := WX_np hW
  unfold b_L_law_c24 b_L_law_2453
  exact l_jv (x_forget hW) hX hO hM hnp hK
theorem lc_25 (hN : 10000 ≤ N) (hi : i + 6 ≤ sn) (hs : sn ≤ 3072) (h : LSt S) (hK : ∀ S', LSt S' → Rn (k23 (nI i + 6) S') Q) : Rn (b_L_law_c25 N sn sx k23 (nI i) S) Q := by
  obtain ⟨t, a, hW, hX, hO, hM⟩ := h
  have hnp := WX_np hW
  have i1 : (inb (nI i + 1) sn = true) = True := i_n (k := 1) hi hs (by omega)
  unfold b_L_law_c25 b_L_law_2453
  unfold f_L_thought
  simp only [i1, if_true]
  exact l_jx (P := fun e => e = 0) (Jx_n hW (j_thought hN hW.1 hW.2.1.1 (NW_of hW))) hX hO hM hnp (e_f_X9_thought (P := fun e => e = 0) rfl _ _ _) E_0 hK
theorem lc_26 (hN : 10000 ≤ N) (hi : i + 6 ≤ sn) (hs : sn ≤ 3072) (h : LSt S) (hK : ∀ S', LSt S' → Rn (k23 (nI i + 6) S') Q) : Rn (b_L_law_c26 N sn sx k23 (nI i) S) Q := by
  obtain ⟨t, a, hW, hX, hO, hM⟩ := h
  have hnp := WX_np hW
  have i1 : (inb (nI i + 1) sn = true) = True := i_n (k := 1) hi hs (by omega)
  unfold b_L_law_c26 b_L_law_2453
  unfold f_L_ask
  simp only [i1, if_true]
  exact l_jx (P := fun e => e = 0) (Jx_n6 hW (j_ask hN hW.1 hW.2.1.1 (NW_of hW))) hX hO hM hnp (e_f_X9_ask (P := fun e => e = 0) rfl _ _ _) E_0 hK
theorem lc_27 (hN : 10000 ≤ N) (hi : i + 6 ≤ sn) (hs : sn ≤ 3072) (h : LSt S) (hK : ∀ S', LSt S' → Rn (k23 (nI i + 6) S') Q) : Rn (b_L_law_c27 N sn sx k23 (nI i) S) Q := by
  obtain ⟨t, a, hW, hX, hO, hM⟩ := h
  have hnp := WX_np hW
  have i1 : (inb (nI i + 1) sn = true) = True := i_n (k := 1) hi hs (by omega)
  have i2 : (inb (nI i + 2) sn = true) = True := i_n (k := 2) hi hs (by omega)
  have i3 : (inb (nI i + 3) sn = true) = True := i_n (k := 3) hi hs (by omega)
  have i4 : (inb (nI i + 4) sn = true) = True := i_n (k := 4) hi hs (by omega)
  unfold b_L_law_c27 b_L_law_2453
  unfold f_L_wetNights
  simp only [i1, i2, i3, i4, if_true]
  exact l_jx (P := fun e => e = 0 ∨ e = 1) (Jx_q hW (j_wetNights hN hW.1 hW.2.1.1)) hX hO hM hnp (e_f_X9_wetNights (P := fun e => e = 0 ∨ e = 1) (Or.inl rfl) (Or.inr rfl) _ _ _ _ _ _) E_01 hK
theorem lc_28 (hN : 10000 ≤ N) (hi : i + 6 ≤ sn) (hs : sn ≤ 3072) (h : LSt S) (hK : ∀ S', LSt S' → Rn (k23 (nI i + 6) S') Q) : Rn (b_L_law_c28 N sn sx k23 (nI i) S) Q := by
  obtain ⟨t, a, hW, hX, hO, hM⟩ := h
  have hnp := WX_np hW
  have i1 : (inb (nI i + 1) sn = true) = True := i_n (k := 1) hi hs (by omega)
  have i2 : (inb (nI i + 2) sn = true) = True := i_n (k := 2) hi hs (by omega)
  have i3 : (inb (nI i + 3) sn = true) = True := i_n (k := 3) hi hs (by omega)
  unfold b_L_law_c28 b_L_law_2453
  unfold f_L_game
  simp only [i1, i2, i3, if_true]
  exact l_jx (P := fun e => e = 0 ∨ e = 1) (Jx_q hW (j_game hN hW.1 hW.2.1.1)) hX hO hM hnp (e_f_X9_game (P := fun e => e = 0 ∨ e = 1) (Or.inl rfl) (Or.inr rfl) _ _ _ _ _) E_01 hK
theorem lc_29 (hN : 10000 ≤ N) (hi : i + 6 ≤ sn) (hs : sn ≤ 3072) (h : LSt S) (hK : ∀ S', LSt S' → Rn (k23 (nI i + 6) S') Q) : Rn (b_L_law_c29 N sn sx k23 (nI i) S) Q := by
  obtain ⟨t, a, hW, hX, hO, hM⟩ := h
  have hnp := WX_np hW
  have i1 : (inb (nI i + 1) sn = true) = True := i_n (k := 1) hi hs (by omega)
  have i2 : (inb (nI i + 2) sn = true) = True := i_n (k := 2) hi hs (by omega)
  have i3 : (inb (nI i + 3) sn = true) = True := i_n (k := 3) hi hs (by omega)
  unfold b_L_law_c29 b_L_law_2453
  unfold f_L_years
  simp only [i1, i2, i3, if_true]
  exact l_jx (P := fun e => e = 0 ∨ e = 1) (Jx_q hW (j_years hN hW.1 hW.2.1.1)) hX hO hM hnp (e_f_X9_years (P := fun e => e = 0 ∨ e = 1) (Or.inl rfl) (Or.inr rfl) _ _ _ _ _) E_01 hK
theorem lc_30 (hN : 10000 ≤ N) (hi : i + 6 ≤ sn) (hs : sn ≤ 3072) (h : LSt S) (hK : ∀ S', LSt S' → Rn (k23 (nI i + 6) S') Q) : Rn (b_L_law_c30 N sn sx k23 (nI i) S) Q := by
  obtain ⟨t, a, hW, hX, hO, hM⟩ := h
  have hnp := WX_np hW
  have i1 : (inb (nI i + 1) sn = true) = True := i_n (k := 1) hi hs (by omega)
  have i2 : (inb (nI i + 2) sn = true) = True := i_n (k := 2) hi hs (by omega)
  unfold b_L_law_c30 b_L_law_2453
  unfold f_L_pale
  simp only [i1, i2, if_true]
  exact l_jx (P := fun e => e = 0 ∨ e = 1) (Jx_q hW (j_pale hN hW.1 hW.2.1.1)) hX hO hM hnp (e_f_X9_pale (P := fun e => e = 0 ∨ e = 1) (Or.inl rfl) (Or.inr rfl) _ _ _ _) E_01 hK
theorem lc_31 (hN : 10000 ≤ N) (hi : i + 6 ≤ sn) (hs : sn ≤ 3072) (h : LSt S) (hK : ∀ S', LSt S' → Rn (k23 (nI i + 6) S') Q) : Rn (b_L_law_c31 N sn sx k23 (nI i) S) Q := by
  obtain ⟨t, a, hW, hX, hO, hM⟩ := h
  have hnp := WX_np hW
  have i1 : (inb (nI i + 1) sn = true) = True := i_n (k := 1) hi hs (by omega)
  have i2 : (inb (nI i + 2) sn = true) = True := i_n (k := 2) hi hs (by omega)
  unfold b_L_law_c31 b_L_law_2453
  unfold f_L_visits
  simp only [i1, i2, if_true]
  exact l_jx (P := fun e => e = 0 ∨ e = 1) (Jx_q hW (j_visits hN hW.1 hW.2.1.1)) hX hO hM hnp (e_f_X9_visits (P := fun e => e = 0 ∨ e = 1) (Or.inl rfl) (Or.inr rfl) _ _ _ _) E_01 hK
theorem lc_32 (hN : 10000 ≤ N) (hi : i + 6 ≤ sn) (hs : sn ≤ 3072) (h : LSt S) (hK : ∀ S', LSt S' → Rn (k23 (nI i + 6) S') Q) : Rn (b_L_law_c32 N sn sx k23 (nI i) S) Q := by
  obtain ⟨t, a, hW, hX, hO, hM⟩ := h
  have hnp := WX_np hW
  have i1 : (inb (nI i + 1) sn = true) = True := i_n (k := 1) hi hs (by omega)
  have i2 : (inb (nI i + 2) sn = true) = True := i_n (k := 2) hi hs (by omega)
  unfold b_L_law_c32 b_L_law_2453
  unfold f_L_steps
  simp only [i1, i2, if_true]
  exact l_jx (P := fun e => e = 0) (Jx_q hW (j_steps hN hW.1 hW.2.1.1)) hX hO hM hnp (e_f_X9_steps (P := fun e => e = 0) rfl _ _ _ _) E_0 hK
theorem lc_33 (hN : 10000 ≤ N) (hi : i + 6 ≤ sn) (hs : sn ≤ 3072) (h : LSt S) (hK : ∀ S', LSt S' → Rn (k23 (nI i + 6) S') Q) : Rn (b_L_law_c33 N sn sx k23 (nI i) S) Q := by
  obtain ⟨t, a, hW, hX, hO, hM⟩ := h
  have hnp := WX_np hW
  have i1 : (inb (nI i + 1) sn = true) = True := i_n (k := 1) hi hs (by omega)
  have i2 : (inb (nI i + 2) sn = true) = True := i_n (k := 2) hi hs (by omega)
  unfold b_L_law_c33 b_L_law_2453
  unfold f_L_quiet
  simp only [i1, i2, if_true]
  exact l_jx (P := fun e => e = 0 ∨ e = 1) (Jx_q hW (j_quiet hN hW.1 hW.2.1.1)) hX hO hM hnp (e_f_X9_quiet (P := fun e => e = 0 ∨ e = 1) (Or.inl rfl) (Or.inr rfl) _ _ _ _) E_01 hK
theorem lc_34 (hN : 10000 ≤ N) (hi : i + 6 ≤ sn) (hs : sn ≤ 3072) (h : LSt S) (hK : ∀ S', LSt S' → Rn (k23 (nI i + 6) S') Q) : Rn (b_L_law_c34 N sn sx k23 (nI i) S) Q := by
  obtain ⟨t, a, hW, hX, hO, hM⟩ := h
  have hnp := WX_np hW
  unfold b_L_law_c34 b_L_law_2453
  exact l_jp (x_middle hN hW) hX hO hM hnp hK
theorem lc_35 (hN : 10000 ≤ N) (hi : i + 6 ≤ sn) (hs : sn ≤ 3072) (h : LSt S) (hK : ∀ S', LSt S' → Rn (k23 (nI i + 6) S') Q) : Rn (b_L_law_c35 N sn sx k23 (nI i) S) Q := by
  obtain ⟨t, a, hW, hX, hO, hM⟩ := h
  have hnp := WX_np hW
  have i1 : (inb (nI i + 1) sn = true) = True := i_n (k := 1) hi hs (by omega)
  have i2 : (inb (nI i + 2) sn = true) = True := i_n (k := 2) hi hs (by omega)
  unfold b_L_law_c35 b_L_law_2453
  unfold f_L_bestAt
  simp only [i1, i2, if_true]
  exact l_jx (P := fun e => e = 0 ∨ e = 1) (Jx_q hW (j_bestAt hN hW.1 hW.2.1.1)) hX hO hM hnp (e_f_X9_bestAt (P := fun e => e = 0 ∨ e = 1) (Or.inl rfl) (Or.inr rfl) _ _ _ _) E_01 hK
theorem lc_36 (hN : 10000 ≤ N) (hi : i + 6 ≤ sn) (hs : sn ≤ 3072) (h : LSt S) (hK : ∀ S', LSt S' → Rn (k23 (nI i + 6) S') Q) : Rn (b_L_law_c36 N sn sx k23 (nI i) S) Q := by
  obtain ⟨t, a, hW, hX, hO, hM⟩ := h
  have hnp := WX_np hW
  have i1 : (inb (nI i + 1) sn = true) = True := i_n (k := 1) hi hs (by omega)
  unfold b_L_law_c36 b_L_law_2453
  unfold f_L_reds
  simp only [i1, if_true]
  exact l_jx (P := fun e => e = 1) (Jx_q hW (j_reds hN hW.1 hW.2.1.1)) hX hO hM hnp (e_f_X9_reds (P := fun e => e = 1) rfl _ _ _) E_1 hK
theorem lc_37 (hN : 10000 ≤ N) (hi : i + 6 ≤ sn) (hs : sn ≤ 3072) (h : LSt S) (hK : ∀ S', LSt S' → Rn (k23 (nI i + 6) S') Q) : Rn (b_L_law_c37 N sn sx k23 (nI i) S) Q := by
  obtain ⟨t, a, hW, hX, hO, hM⟩ := h
  have hnp := WX_np hW
  have i1 : (inb (nI i + 1) sn = true) = True := i_n (k := 1) hi hs (by omega)
  unfold b_L_law_c37 b_L_law_2453
  unfold f_L_whose
  simp only [i1, if_true]
  exact l_jx (P := fun e => e = 0) (Jx_q hW (j_whose hN hW.1 hW.2.1.1)) hX hO hM hnp (e_f_X9_whose (P := fun e => e = 0) rfl _ _ _) E_0 hK
theorem lc_38 (hN : 10000 ≤ N) (hi : i + 6 ≤ sn) (hs : sn ≤ 3072) (h : LSt S) (hK : ∀ S', LSt S' → Rn (k23 (nI i + 6) S') Q) : Rn (b_L_law_c38 N sn sx k23 (nI i) S) Q := by
  obtain ⟨t, a, hW, hX, hO, hM⟩ := h
  have hnp := WX_np hW
  unfold b_L_law_c38 b_L_law_2453
  exact l_jv (x_image hN hW) hX hO hM hnp hK
theorem lc_39 (hN : 10000 ≤ N) (hi : i + 6 ≤ sn) (hs : sn ≤ 3072) (h : LSt S) (hK : ∀ S', LSt S' → Rn (k23 (nI i + 6) S') Q) : Rn (b_L_law_c39 N sn sx k23 (nI i) S) Q := by
  obtain ⟨t, a, hW, hX, hO, hM⟩ := h
  have hnp := WX_np hW
  unfold b_L_law_c39 b_L_law_2453
  exact l_jp (x_restore hN hW) hX hO hM hnp hK
end
