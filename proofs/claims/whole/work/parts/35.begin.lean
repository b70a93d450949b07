theorem am_start {p : Program} {s : State} {m : MethodId} {meth : Method} {c : Code} (l : Launch) (hflags : l.flags = flags0) {b L : Nat} {xs : Nat → Int32} (hL : L ≤ 3072) (C0 : lw_At p s m meth c b L xs) : ∃ G : am_G, gL G = l ∧ gB G = s.heap.size ∧ gS G 1001 = b ∧ gN G = L ∧ gX G = xs ∧ am_O G s s.heap := by
  obtain ⟨hx, hb, hr, hml, hown, hts, hX, hbl, hlocks, hgv⟩ := id C0
  have hs : ∀ w ∈ am_nar, w.before #[Value.ref b] s = true := flat_of_before _ hgv
  have hA : ∀ a : Nat, a < s.heap.size → ¬ (fun q => s.heap.size ≤ q) a := fun a h => Nat.not_le.mpr h
  obtain ⟨cX0, iX0, hKX0⟩ := u_known (C := RX0) (T := TX0) (N := 3) (n := 3) hts (fun w h => (List.mem_filter.mp (k_0.1 w h)).1) (hts _ (am_m3 37 rfl))
  obtain ⟨cX1, iX1, hKX1⟩ := u_known (C := RX1) (T := TX1) (N := 15) (n := 15) hts (fun w h => (List.mem_filter.mp (k_1.1 w h)).1) (hts _ (am_m1 112 rfl))
  obtain ⟨cX2, iX2, hKX2⟩ := u_known (C := RX2) (T := TX2) (N := 2) (n := 2) hts (fun w h => (List.mem_filter.mp (k_2.1 w h)).1) (hts _ (am_m1 38 rfl))
  obtain ⟨cX3, iX3, hKX3⟩ := u_known (C := RX3) (T := TX3) (N := 4) (n := 4) hts (fun w h => (List.mem_filter.mp (k_3.1 w h)).1) (hts _ (am_m3 54 rfl))
  obtain ⟨cX4, iX4, hKX4⟩ := u_known (C := RX4) (T := TX4) (N := 5) (n := 5) hts (fun w h => (List.mem_filter.mp (k_4.1 w h)).1) (hts _ (am_m3 74 rfl))
  obtain ⟨cX5, iX5, hKX5⟩ := u_known (C := RX5) (T := TX5) (N := 3) (n := 3) hts (fun w h => (List.mem_filter.mp (k_5.1 w h)).1) (hts _ (am_m1 118 rfl))
  obtain ⟨cX6, iX6, hKX6⟩ := u_known (C := RX6) (T := TX6) (N := 6) (n := 6) hts (fun w h => (List.mem_filter.mp (k_6.1 w h)).1) (hts _ (am_m1 79 rfl))
  obtain ⟨cX7, iX7, hKX7⟩ := u_known (C := RX7) (T := TX7) (N := 1) (n := 1) hts (fun w h => (List.mem_filter.mp (k_7.1 w h)).1) (hts _ (am_m1 195 rfl))
  obtain ⟨cX8, iX8, hKX8⟩ := u_known (C := RX8) (T := TX8) (N := 7) (n := 7) hts (fun w h => (List.mem_filter.mp (k_8.1 w h)).1) (hts _ (am_m1 44 rfl))
  obtain ⟨cX9, iX9, hKX9⟩ := u_known (C := RX9) (T := TX9) (N := 19) (n := 19) hts (fun w h => (List.mem_filter.mp (k_9.1 w h)).1) (hts _ (am_m1 30 rfl))
  obtain ⟨cX10, iX10, hKX10⟩ := u_known (C := RX10) (T := TX10) (N := 67) (n := 67) hts (fun w h => (List.mem_filter.mp (k_10.1 w h)).1) (hts _ (am_m7 80 rfl))
  obtain ⟨y0, hy0⟩ := ar_p (ty := .byte) (fun C h => by cases h) (hts _ (am_m1 77 rfl))
  obtain ⟨y1, hy1⟩ := ar_p (ty := .int) (fun C h => by cases h) (hts _ (am_m1 103 rfl))
  obtain ⟨y2, hy2⟩ := ar_p (ty := .boolean) (fun C h => by cases h) (hts _ (am_m8 47 rfl))
  obtain ⟨y3, hy3⟩ := ar_q (C := RX7) (hts _ (am_m3 80 rfl))
  obtain ⟨y4, hy4⟩ := ar_p (ty := .long) (fun C h => by cases h) (hts _ (am_m10 42 rfl))
  have hstr := st_all (A := fun q => s.heap.size ≤ q) hts hs hA
  obtain ⟨sa, hsa⟩ : ∃ sa : Nat → Nat × Nat, ∀ (i : Nat) (t : String × Nat × String), am_strs[i]? = some t → vk_R t.1 t.2.1 t.2.2 (sa i).1 s ∧ va_O "java/lang/String" (sa i).1 (fun q => s.heap.size ≤ q) s s.heap ∧ va_OF "java/lang/String" "coder" "B" (.int 0) (sa i).1 (fun q => s.heap.size ≤ q) s s.heap ∧ va_OF "java/lang/String" "value" "[B" (.ref (sa i).2) (sa i).1 (fun q => s.heap.size ≤ q) s s.heap ∧ va_T .byte (sa i).2 t.2.2.length (fun j => .int ((am_tb t.2.2).getD j 0)) (fun q => s.heap.size ≤ q) s s.heap := by
    have h1 : ∀ i : Nat, ∃ z : Nat × Nat, ∀ t : String × Nat × String, am_strs[i]? = some t → vk_R t.1 t.2.1 t.2.2 z.1 s ∧ va_O "java/lang/String" z.1 (fun q => s.heap.size ≤ q) s s.heap ∧ va_OF "java/lang/String" "coder" "B" (.int 0) z.1 (fun q => s.heap.size ≤ q) s s.heap ∧ va_OF "java/lang/String" "value" "[B" (.ref z.2) z.1 (fun q => s.heap.size ≤ q) s s.heap ∧ va_T .byte z.2 t.2.2.length (fun j => .int ((am_tb t.2.2).getD j 0)) (fun q => s.heap.size ≤ q) s s.heap := by
      intro i
      cases hi : am_strs[i]? with
      | none => exact ⟨(0, 0), fun t h => by cases h⟩
      | some t =>
        obtain ⟨a, v, h⟩ := hstr i t hi
        exact ⟨(a, v), fun t2 h2 => by cases h2; exact h⟩
    exact ⟨fun i => Classical.choose (h1 i), fun i => Classical.choose_spec (h1 i)⟩
  obtain ⟨tR, hR1, hR2⟩ := va_Tof (tm := (Jvm.Term.static "SlotMat$RuleReader" "RANK" "[I")) (ty := .int) (N := 10) (f := fun j => .int (am_rank.getD j 0)) (A := fun q => s.heap.size ≤ q) (by decide) (hs _ z_216) (va_eqt (hs _ z_217)) (fun j hj => by
    match j, hj with
    | 0, _ => exact va_eqt (hs _ z_218)
    | 1, _ => exact va_eqt (hs _ z_219)
    | 2, _ => exact va_eqt (hs _ z_220)
    | 3, _ => exact va_eqt (hs _ z_221)
    | 4, _ => exact va_eqt (hs _ z_222)
    | 5, _ => exact va_eqt (hs _ z_223)
    | 6, _ => exact va_eqt (hs _ z_224)
    | 7, _ => exact va_eqt (hs _ z_225)
    | 8, _ => exact va_eqt (hs _ z_226)
    | 9, _ => exact va_eqt (hs _ z_227)
    | j + 10, h => exact absurd h (by omega)) hA
  have hRZ := va_Zref (hts _ (am_m5 67 rfl)) (hts _ (am_m1 4 rfl)) hR1 hA
  have hC := va_Zof (A := fun q => s.heap.size ≤ q) (hts _ (am_m2 16 rfl)) (hts _ (am_m1 15 rfl)) (va_eqi (hs _ z_4)) hA
  have hP := va_Zqof (A := fun q => s.heap.size ≤ q) (hts _ (am_m2 102 rfl)) (hts _ (am_m1 20 rfl)) (hs _ z_5) hA
  have hU := vx_Zqof (A := fun q => s.heap.size ≤ q) (hts _ (am_m1 233 rfl)) (hts _ (am_m1 9 rfl)) (hs _ z_2) hA
  have hV := vx_Zqof (A := fun q => s.heap.size ≤ q) (hts _ (am_m1 235 rfl)) (hts _ (am_m1 9 rfl)) (hs _ z_3) hA
  have hNc : va_Nc am_iae am_nse s := va_Nc.of (hs _ z_249)
  obtain ⟨tS, htS⟩ : ∃ t : Nat, va_Z am_pre0 "SIOOBE_FORMATTER" "Ljava/util/function/BiFunction;" .null (fun q => s.heap.size ≤ q) s s.heap ∨ va_Z am_pre0 "SIOOBE_FORMATTER" "Ljava/util/function/BiFunction;" (.ref t) (fun q => s.heap.size ≤ q) s s.heap := by
    rcases hP with h | ⟨t, h⟩
    · exact ⟨0, Or.inl h⟩
    · exact ⟨t, Or.inr h⟩
  let G : am_G := (l, fun k => if k = 0 then cX0 else if k = 1 then cX1 else if k = 2 then cX2 else if k = 3 then cX3 else if k = 4 then cX4 else if k = 5 then cX5 else if k = 6 then cX6 else if k = 7 then cX7 else if k = 8 then cX8 else if k = 9 then cX9 else cX10, fun k => if k = 0 then iX0 else if k = 1 then iX1 else if k = 2 then iX2 else if k = 3 then iX3 else if k = 4 then iX4 else if k = 5 then iX5 else if k = 6 then iX6 else if k = 7 then iX7 else if k = 8 then iX8 else if k = 9 then iX9 else iX10, fun t => if t = 0 then y0 else if t = 1 then y1 else if t = 2 then y2 else if t = 3 then y3 else y4, s.heap.size, fun i => if i < 100 then (sa i).1 else if i < 1000 then (sa (i - 100)).2 else if i = 1000 then tR else if i = 1001 then b else tS, fun _ => 0, L, xs)
  refine ⟨G, rfl, rfl, rfl, rfl, rfl, ?_⟩
  refine ⟨⟨?_, ?_⟩, ?_, ?_, ⟨?_, ?_, ?_, hNc⟩, ?_, hRZ, hR2, hC, hU, hV, ?_, htS⟩
  · intro k r hk
    match k, hk with
    | 0, hk => cases hk; exact hKX0
    | 1, hk => cases hk; exact hKX1
    | 2, hk => cases hk; exact hKX2
    | 3, hk => cases hk; exact hKX3
    | 4, hk => cases hk; exact hKX4
    | 5, hk => cases hk; exact hKX5
    | 6, hk => cases hk; exact hKX6
    | 7, hk => cases hk; exact hKX7
    | 8, hk => cases hk; exact hKX8
    | 9, hk => cases hk; exact hKX9
    | 10, hk => cases hk; exact hKX10
    | k + 11, hk => exact absurd hk (by simp [am_cl])
  · intro k r hk
    match k, hk with
    | 0, hk => cases hk; exact hy0
    | 1, hk => cases hk; exact hy1
    | 2, hk => cases hk; exact hy2
    | 3, hk => cases hk; exact hy3
    | 4, hk => cases hk; exact hy4
    | k + 5, hk => exact absurd hk (by simp [am_tys])
  · intro w hw
    have h1 := List.mem_filter.mp hw
    have h2 : w.onTables = true := by
      have h3 := h1.2
      cases w <;> first | rfl | cases h3
    exact va_Nw.of h2 (hts w h1.1)
  · intro i t ht
    have hi : i < 100 := Nat.lt_trans (List.getElem?_eq_some_iff.mp ht).1 (by decide)
    have h1 := (hsa i t ht).1
    show vk_R t.1 t.2.1 t.2.2 (if i < 100 then (sa i).1 else if i < 1000 then (sa (i - 100)).2 else if i = 1000 then tR else if i = 1001 then b else tS) s
    rw [if_pos hi]
    exact h1
  · show l.stackTraces = false
    unfold Launch.stackTraces
    rw [hflags]
    decide
  · exact va_AO.of (hts _ (am_m3 80 rfl))
  · intro w hw
    have h1 := List.mem_filter.mp hw
    have h2 := h1.2
    simp only [Bool.and_eq_true] at h2
    exact va_Nw.of h2.1 (hts w h1.1)
  · intro i t ht
    have hi : i < 100 := Nat.lt_trans (List.getElem?_eq_some_iff.mp ht).1 (by decide)
    obtain ⟨-, h1, h2, h3, h4⟩ := hsa i t ht
    have e1 : gS G i = (sa i).1 := if_pos hi
    have e2 : gS G (100 + i) = (sa i).2 := by
      show (if 100 + i < 100 then (sa (100 + i)).1 else if 100 + i < 1000 then (sa (100 + i - 100)).2 else if 100 + i = 1000 then tR else if 100 + i = 1001 then b else tS) = _
      rw [if_neg (by omega), if_pos (by omega), Nat.add_sub_cancel_left]
    rw [e1, e2]
    exact ⟨h1, h2, h3, h4⟩
  · obtain ⟨scr, g1, g2, g3, g4, g5⟩ := hX
    have hL2 : L < 2 ^ 31 := Nat.lt_of_le_of_lt hL (by decide)
    exact ⟨scr, g1, g2, g3, Nat.le_of_eq g4.symm, by rw [g4]; rfl, g5, Nat.not_le.mpr hbl⟩
/-- out of the pure law: for every script, some end -/
theorem start_of (hpure : ∀ (L : Nat) (xs : Nat → Int32), L ≤ 3072 → ∃ (N : Nat) (out : am_S), b_L_law_23 N L xs 600 0 S0 = some out) {p : Program} {e : Env} {s : State} {m : MethodId} {below : List Frame} {meth : Method} {c : Code} (l : Launch) (hflags : l.flags = flags0) {b L : Nat} {xs : Nat → Int32} (hL : L ≤ 3072) (C0 : lw_At p s m meth c b L xs) (hnm : meth.name = x.name) (htab : ∀ z ∈ c.exceptionTable.toList, False) : W p l e room_1 s m #[Value.ref b] below meth c s.heap [] 0 0 (lw_Z below #[Value.ref b] s) (entryFrame m ([Value.ref b] : List Value).toArray 7) := by
  obtain ⟨G, g1, g2, g3, g4, g5, hO⟩ := am_start l hflags hL C0
  obtain ⟨hx, hb, hr, hml, hown, hts, hX, hbl, hlocks, hgv⟩ := id C0
  obtain ⟨N, out, hB⟩ := hpure L xs hL
  rw [← g4, ← g5] at hB
  have hgo := law_go (G := G) hB
  have hl := lv_entry ([Value.ref b]) (n := 7) (Nat.le_of_ble_eq_true rfl)
  rw [lg_entry_eq]
  generalize (lg_sl ([Value.ref b]) ++ List.replicate (7 - (lg_sl ([Value.ref b])).length) Slot.unset).toArray = ls at hl ⊢
  have htv : ([Value.float 1001] : List Value).map (tv G) = [Value.ref b] := by
    show [Value.ref (gS G 1001)] = [Value.ref b]
    rw [g3]
  have hls : am_LS G ls 7 (am_ls0 [.float 1001] 7) := am_entry (as := [.float 1001]) rfl (by rw [htv]; exact hl)
  have hW := hgo p e s m #[Value.ref b] below meth c s.heap [] ls ⟨hx, hb, hr, hml, hown, fun w hw => hts w (List.mem_filter.mp hw).1, hlocks, hnm, (by cases hx : c.exceptionTable.toList with
    | nil => rfl
    | cons z t => exact (htab z (by rw [hx]; exact List.mem_cons_self)).elim)⟩ hO hls (fun k q h => by simp [tw] at h) ⟨Nat.le_of_eq g2, fun _ => by rw [g2]; simp⟩ va_S.rf
  rw [g1] at hW
  intro T hT X
  obtain ⟨t, a1, b1⟩ := hW T hT X
  exact ⟨t, a1, b1 (by rw [g3]) g2.symm⟩
