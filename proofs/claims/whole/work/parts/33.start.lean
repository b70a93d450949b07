def s0r (k : Nat) : Bool := Nat.beq k 41 || Nat.beq k 43 || Nat.beq k 51 || Nat.beq k 63 || Nat.beq k 65 || Nat.beq k 67 || Nat.beq k 69 || Nat.beq k 71 || Nat.beq k 73 || Nat.beq k 75
def s0f (k j : Nat) : Int32 := (bif (Nat.beq k 0 && Nat.beq j 3) then (-1) else (bif (Nat.beq k 5 && Nat.beq j 4) then 1 else (bif (Nat.beq k 5 && Nat.beq j 5) then 1 else (bif (Nat.beq k 58 && Nat.beq j 3) then (-1) else (bif (Nat.beq k 78 && Nat.beq j 5) then (-1) else (bif (Nat.beq k 78 && Nat.beq j 6) then (-1) else (bif (Nat.beq k 78 && Nat.beq j 16) then (-1) else (bif (Nat.beq k 78 && Nat.beq j 51) then (-1) else 0))))))))
def S0 : am_S := (fun k => bif s0r k then cx_f7 else s0f k, fun _ => 0, fun i => bif Nat.beq i 0 then 8 else bif Nat.beq i 1 then 24 else 4)
theorem hpL_get (Y : List am_Y) (S : am_S) (k : Nat) : (hpL Y S).1[k]? = (Y[k]?).map (am_cell S k) := by simp [hpL, List.getElem?_mapIdx]
theorem hpL_len (Y : List am_Y) (S : am_S) : (hpL Y S).1.length = Y.length := by simp [hpL]
def lvf : Nat → Option Nat := (va_up (va_up (va_up (va_up (va_up (va_up (va_up (fun _ => none) 0 (some 62)) 1 (some 64)) 2 (some 66)) 3 (some 68)) 4 (some 70)) 5 (some 72)) 6 (some 74))
theorem lvf_eq : ∀ j, j < 7 → lvf j = some (62 + 2 * j) := by decide
/-- what lies behind a row's end doesn't matter -/
theorem ev_lv {G : am_G} {R : Room} {Φ : List Frame → Array Value → State → State → Prop} {M : am_M} {cu su pc : Nat} {ls : List (Option Value)} {st : List Value} {h : am_H} {a n : Nat} {f g : Nat → Option Nat} (ha : h.1[a]? = some (.inl (3, n, .inr (.inr (.inr (.inr f)))))) (hfg : ∀ j, j < n → f j = g j) (k : Ev G R Φ M cu su pc ls st (am_up h a (.inl (3, n, .inr (.inr (.inr (.inr g))))))) : Ev G R Φ M cu su pc ls st h := by
  intro p e s m args below meth c H locs lsA hB hO hL hH hZ hS
  refine k p e s m args below meth c H locs lsA hB hO hL ?_ (by simpa [am_sz, am_up] using hZ) hS
  intro i q hq
  have hl := (List.getElem?_eq_some_iff.mp ha).1
  by_cases hi : a = i
  · subst hi
    have hq2 : (tw G (am_up h a (.inl (3, n, .inr (.inr (.inr (.inr g)))))).1)[a]? = some (gB G + a, te G (.inl (3, n, .inr (.inr (.inr (.inr g)))))) := tw_get (au_self ha)
    cases hq.symm.trans hq2
    have h1 := hH a _ (tw_get ha)
    show H[gB G + a]? = some (vp_cell (gY G 3) _)
    have h2 : H[gB G + a]? = some (vp_cell (gY G 3) (ta G (n, .inr (.inr (.inr (.inr f)))))) := h1
    rw [h2]
    simp only [vp_cell, ta, arrV]
    congr 2
    refine congrArg Array.ofFn (funext fun j => ?_)
    rw [hfg j.val j.isLt]
  · refine hH i q ?_
    rw [← hq]
    simp [tw, am_up, List.getElem?_mapIdx, List.getElem?_set_ne hi]
theorem S0_go : ∀ k, k < 109 → k ≠ 59 → (b0_X9 0 ++ (b0_X10 78 ++ [.inl (4, 1, .inr (.inl (fun _ => 0)))]))[k]? = (am_lay[k]?).map (am_cell S0 k) := by
  intro k hk hk9
  rcases Nat.lt_or_ge k 78 with h | h
  · rw [List.getElem?_append_left (by exact h)]
    match k, h with
    | 0, _ => rfl
    | 1, _ => rfl
    | 2, _ => rfl
    | 3, _ => rfl
    | 4, _ => rfl
    | 5, _ => rfl
    | 6, _ => rfl
    | 7, _ => rfl
    | 8, _ => rfl
    | 9, _ => rfl
    | 10, _ => rfl
    | 11, _ => rfl
    | 12, _ => rfl
    | 13, _ => rfl
    | 14, _ => rfl
    | 15, _ => rfl
    | 16, _ => rfl
    | 17, _ => rfl
    | 18, _ => rfl
    | 19, _ => rfl
    | 20, _ => rfl
    | 21, _ => rfl
    | 22, _ => rfl
    | 23, _ => rfl
    | 24, _ => rfl
    | 25, _ => rfl
    | 26, _ => rfl
    | 27, _ => rfl
    | 28, _ => rfl
    | 29, _ => rfl
    | 30, _ => rfl
    | 31, _ => rfl
    | 32, _ => rfl
    | 33, _ => rfl
    | 34, _ => rfl
    | 35, _ => rfl
    | 36, _ => rfl
    | 37, _ => rfl
    | 38, _ => rfl
    | 39, _ => rfl
    | 40, _ => rfl
    | 41, _ => rfl
    | 42, _ => rfl
    | 43, _ => rfl
    | 44, _ => rfl
    | 45, _ => rfl
    | 46, _ => rfl
    | 47, _ => rfl
    | 48, _ => rfl
    | 49, _ => rfl
    | 50, _ => rfl
    | 51, _ => rfl
    | 52, _ => rfl
    | 53, _ => rfl
    | 54, _ => rfl
    | 55, _ => rfl
    | 56, _ => rfl
    | 57, _ => rfl
    | 58, _ => rfl
    | 59, _ => exact absurd rfl hk9
    | 60, _ => rfl
    | 61, _ => rfl
    | 62, _ => rfl
    | 63, _ => rfl
    | 64, _ => rfl
    | 65, _ => rfl
    | 66, _ => rfl
    | 67, _ => rfl
    | 68, _ => rfl
    | 69, _ => rfl
    | 70, _ => rfl
    | 71, _ => rfl
    | 72, _ => rfl
    | 73, _ => rfl
    | 74, _ => rfl
    | 75, _ => rfl
    | 76, _ => rfl
    | 77, _ => rfl
    | k + 78, h => exact absurd h (by omega)
  · rw [List.getElem?_append_right (by exact h)]
    obtain ⟨j, rfl⟩ : ∃ j, k = 78 + j := ⟨k - 78, by omega⟩
    have hj : j < 31 := by omega
    rw [show 78 + j - (b0_X9 0).length = j from Nat.add_sub_cancel_left ..]
    match j, hj with
    | 0, _ => rfl
    | 1, _ => rfl
    | 2, _ => rfl
    | 3, _ => rfl
    | 4, _ => rfl
    | 5, _ => rfl
    | 6, _ => rfl
    | 7, _ => rfl
    | 8, _ => rfl
    | 9, _ => rfl
    | 10, _ => rfl
    | 11, _ => rfl
    | 12, _ => rfl
    | 13, _ => rfl
    | 14, _ => rfl
    | 15, _ => rfl
    | 16, _ => rfl
    | 17, _ => rfl
    | 18, _ => rfl
    | 19, _ => rfl
    | 20, _ => rfl
    | 21, _ => rfl
    | 22, _ => rfl
    | 23, _ => rfl
    | 24, _ => rfl
    | 25, _ => rfl
    | 26, _ => rfl
    | 27, _ => rfl
    | 28, _ => rfl
    | 29, _ => rfl
    | 30, _ => rfl
    | j + 31, h => exact absurd h (by omega)
theorem S0_59 : (b0_X9 0 ++ (b0_X10 78 ++ [.inl (4, 1, .inr (.inl (fun _ => 0)))]))[59]? = some (.inl (3, 7, .inr (.inr (.inr (.inr lvf))))) := by
  rw [List.getElem?_append_left (by decide)]
  rfl
theorem S0_hp : am_up (b0_X9 0 ++ (b0_X10 78 ++ [.inl (4, 1, .inr (.inl (fun _ => 0)))]), 1) 59 (.inl (3, 7, .inr (.inr (.inr (.inr (fun i => some (62 + 2 * i))))))) = hp S0 := by
  refine Prod.ext ?_ rfl
  show List.set _ 59 _ = (hpL am_lay S0).1
  refine List.ext_getElem? (fun k => ?_)
  rw [hpL_get]
  rcases Nat.lt_or_ge k 109 with h | h
  · by_cases hk : k = 59
    · subst hk
      rw [List.getElem?_set_self (by decide)]
      rfl
    · rw [List.getElem?_set_ne (fun e => hk e.symm)]
      exact S0_go k h hk
  · rw [List.getElem?_eq_none (by rw [List.length_set]; exact h), List.getElem?_eq_none (show am_lay.length ≤ k from h)]
    rfl
set_option maxRecDepth 4000 in
theorem law_go {G : am_G} {N : Nat} {out : am_S} (hB : b_L_law_23 N (gN G) (gX G) 600 0 S0 = some out) : Ev G room_1 (LZ G) m_law 0 0 0 (am_ls0 [.float 1001] 7) [] ([], 0) := by
  refine ev_sub (h' := (([] : List am_E) ++ [], 0)) rfl ?_
  refine cx_new (pre := ([] : List am_E)) (L := []) (n := 0) (k := 0) (fs := [.null, .int 0, .null, .int 0, .null, .null, .null, .null, .null, .null, .null, .int 0, .null, .null, .null, .null, .null, .null, .int 0]) (L' := [.inr (9, [.null, .int 0, .null, .int 0, .null, .null, .null, .null, .null, .null, .null, .int 0, .null, .null, .null, .null, .null, .null, .int 0])]) rfl rfl k_9 dL_law_0 w_29 w_30 w_1 (by intro j hj; rcases (show j = 0 ∨ j = 1 ∨ j = 2 ∨ j = 3 ∨ j = 4 ∨ j = 5 ∨ j = 6 ∨ j = 7 ∨ j = 8 ∨ j = 9 ∨ j = 10 ∨ j = 11 ∨ j = 12 ∨ j = 13 ∨ j = 14 ∨ j = 15 ∨ j = 16 ∨ j = 17 ∨ j = 18 by omega) with rfl | rfl | rfl | rfl | rfl | rfl | rfl | rfl | rfl | rfl | rfl | rfl | rfl | rfl | rfl | rfl | rfl | rfl | rfl <;> rfl) (Nat.le_of_ble_eq_true rfl) (Nat.le_of_ble_eq_true rfl) rfl ?_
  refine ev_dup dL_law_3 rfl ?_
  refine cx_call (pre := ([] : List am_E)) (L := []) (n := 0) (k := 0) (L2 := b0_X9 0) rfl rfl (by rw [List.append_nil]; exact cx_X9 ([] : List am_E) 0 rfl) dL_law_4 oX9_init (Or.inl w_31) (Nat.le_of_ble_eq_true rfl) (fitL (by decide)) ⟨Nat.le_of_ble_eq_true rfl, Nat.le_of_ble_eq_true rfl⟩ rfl rfl ?_
  refine ev_astore_n dL_law_7 (by decide) rfl ?_
  refine ev_sub (h' := (b0_X9 0 ++ [], 0)) (by rw [List.nil_append, List.append_nil]) ?_
  refine cx_new (pre := (b0_X9 0)) (L := []) (n := 78) (k := 0) (fs := [.int 0, .int 0, .int 0, .int 0, .int 0, .int 0, .int 0, .null, .null, .null, .null, .null, .null, .null, .int 0, .int 0, .int 0, .null, .int 0, .int 0, .int 0, .int 0, .int 0, .int 0, .int 0, .long 0, .int 0, .int 0, .int 0, .int 0, .int 0, .int 0, .int 0, .int 0, .int 0, .int 0, .int 0, .null, .null, .null, .null, .null, .null, .null, .null, .null, .null, .null, .int 0, .null, .null, .int 0, .int 0, .null, .int 0, .null, .int 0, .null, .null, .null, .int 0, .int 0, .int 0, .int 0, .null, .null, .null]) (L' := [.inr (10, [.int 0, .int 0, .int 0, .int 0, .int 0, .int 0, .int 0, .null, .null, .null, .null, .null, .null, .null, .int 0, .int 0, .int 0, .null, .int 0, .int 0, .int 0, .int 0, .int 0, .int 0, .int 0, .long 0, .int 0, .int 0, .int 0, .int 0, .int 0, .int 0, .int 0, .int 0, .int 0, .int 0, .int 0, .null, .null, .null, .null, .null, .null, .null, .null, .null, .null, .null, .int 0, .null, .null, .int 0, .int 0, .null, .int 0, .null, .int 0, .null, .null, .null, .int 0, .int 0, .int 0, .int 0, .null, .null, .null])]) rfl rfl k_10 dL_law_8 w_1519 w_1520 w_27 (by intro j hj; rcases (show j = 0 ∨ j = 1 ∨ j = 2 ∨ j = 3 ∨ j = 4 ∨ j = 5 ∨ j = 6 ∨ j = 7 ∨ j = 8 ∨ j = 9 ∨ j = 10 ∨ j = 11 ∨ j = 12 ∨ j = 13 ∨ j = 14 ∨ j = 15 ∨ j = 16 ∨ j = 17 ∨ j = 18 ∨ j = 19 ∨ j = 20 ∨ j = 21 ∨ j = 22 ∨ j = 23 ∨ j = 24 ∨ j = 25 ∨ j = 26 ∨ j = 27 ∨ j = 28 ∨ j = 29 ∨ j = 30 ∨ j = 31 ∨ j = 32 ∨ j = 33 ∨ j = 34 ∨ j = 35 ∨ j = 36 ∨ j = 37 ∨ j = 38 ∨ j = 39 ∨ j = 40 ∨ j = 41 ∨ j = 42 ∨ j = 43 ∨ j = 44 ∨ j = 45 ∨ j = 46 ∨ j = 47 ∨ j = 48 ∨ j = 49 ∨ j = 50 ∨ j = 51 ∨ j = 52 ∨ j = 53 ∨ j = 54 ∨ j = 55 ∨ j = 56 ∨ j = 57 ∨ j = 58 ∨ j = 59 ∨ j = 60 ∨ j = 61 ∨ j = 62 ∨ j = 63 ∨ j = 64 ∨ j = 65 ∨ j = 66 by omega) with rfl | rfl | rfl | rfl | rfl | rfl | rfl | rfl | rfl | rfl | rfl | rfl | rfl | rfl | rfl | rfl | rfl | rfl | rfl | rfl | rfl | rfl | rfl | rfl | rfl | rfl | rfl | rfl | rfl | rfl | rfl | rfl | rfl | rfl | rfl | rfl | rfl | rfl | rfl | rfl | rfl | rfl | rfl | rfl | rfl | rfl | rfl | rfl | rfl | rfl | rfl | rfl | rfl | rfl | rfl | rfl | rfl | rfl | rfl | rfl | rfl | rfl | rfl | rfl | rfl | rfl | rfl <;> rfl) (Nat.le_of_ble_eq_true rfl) (Nat.le_of_ble_eq_true rfl) rfl ?_
  refine ev_dup dL_law_11 rfl ?_
  refine cx_call (pre := (b0_X9 0)) (L := []) (n := 78) (k := 0) (L2 := b0_X10 78) rfl rfl (by rw [List.append_nil]; exact cx_X10 (b0_X9 0) 78 rfl) dL_law_12 oX10_init (Or.inl w_1521) (Nat.le_of_ble_eq_true rfl) (fitL (by decide)) ⟨Nat.le_of_ble_eq_true rfl, Nat.le_of_ble_eq_true rfl⟩ rfl rfl ?_
  refine ev_astore_n dL_law_15 (by decide) rfl ?_
  refine ev_iconst 1 dL_law_16 (by decide) ?_
  refine cx_newL (pre := b0_X9 0) (L := b0_X10 78) (n := 78) (k := 30) 1 rfl rfl dL_law_17 w_2202 (by decide) (by decide) (by decide) (Nat.le_of_ble_eq_true rfl) (Nat.le_of_ble_eq_true rfl) rfl ?_
  refine ev_astore_n dL_law_19 (by decide) rfl ?_
  refine ev_seal ?_
  refine ev_lv S0_59 lvf_eq ?_
  refine ev_sub S0_hp ?_
  refine ev_iconst 0 dL_law_20 (by decide) ?_
  refine ev_istore dL_law_21 (by decide) rfl ?_
  exact ev_ls (u_L_law_23 600 0 S0 _ _ ⟨Nat.le_of_ble_eq_true rfl, Nat.le_of_ble_eq_true rfl⟩ hB) (And.intro rfl (And.intro rfl (And.intro rfl (And.intro rfl (And.intro rfl trivial)))))
