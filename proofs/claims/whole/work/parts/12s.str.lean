/-! string constants: text i at '.float i', its row of bytes at '.float (100 + i)' -/
def strt (i : Nat) : String := (am_strs.getD i ("", 0, "")).2.2
def strn (i : Nat) : Nat := (strt i).length
def strb (i j : Nat) : Int32 := (am_tb (strt i)).getD j 0
theorem str_at {i : Nat} (h : i < 25) : ∃ t, am_strs[i]? = some t ∧ t.2.2 = strt i := by
  have hl : i < am_strs.length := h
  refine ⟨am_strs[i], List.getElem?_eq_getElem hl, ?_⟩
  simp [strt, List.getD_eq_getElem?_getD, List.getElem?_eq_getElem hl]
theorem tv_fl {G : am_G} {i : Nat} (h : i < 1000000) : tv G (.float (UInt32.ofNat i)) = .ref (gS G i) := by
  show Value.ref (gS G (UInt32.ofNat i).toNat) = _
  have h1 : (UInt32.ofNat i).toNat = i := by
    first
      | exact UInt32.toNat_ofNat_of_lt (by simp [UInt32.size]; omega)
      | (simp [UInt32.toNat_ofNat']; omega)
      | (simp; omega)
  rw [h1]
def isCh (x : Int32) : Bool := decide (0 ≤ x.toInt ∧ x.toInt < 65536)
theorem isCh_nar {x : Int32} (h : isCh x = true) : narrow .char (.int x) = .int x := by
  simp only [isCh, decide_eq_true_eq] at h
  have h1 : ¬ x < 0 := by
    rw [Int32.lt_iff_toInt_lt]
    simp
    omega
  obtain ⟨j, hj, rfl⟩ := nI_of h1
  rw [nI_toInt hj] at h
  exact (pk_charN (by omega)).1
section EVS
variable {G : am_G} {R : Room} {Φ : List Frame → Array Value → State → State → Prop} {M : am_M} {cu su pc : Nat} {ls : List (Option Value)} {st : List Value} {h : am_H} {i idx : Nat}
theorem ev_sval (hi : i < 25) (hd : decode (mb M) pc = .ok (.getfield idx, 3)) (hw : Cond.fieldLink (mo M) idx "java/lang/String" "value" "[B" ∈ am_WT) (k : Ev G R Φ M cu su (pc + 3) ls (.float (UInt32.ofNat (100 + i)) :: st) h) : Ev G R Φ M cu su pc ls (.float (UInt32.ofNat i) :: st) h := by
  intro p e s m args below meth c H locs lsA hB hO hL hH hZ hS
  obtain ⟨t, h1, h2⟩ := str_at hi
  have hk := k p e s m args below meth c H locs lsA hB hO hL hH hZ hS
  rw [List.map_cons, tv_fl (by omega)] at hk ⊢
  exact vk_getf hB.1 hB.2.1 (hO.2.2.2.2.1 i t h1).2.2.1 hS hB.2.2.2.2.1 (hB.2.2.2.2.2.1 _ hw) (fun _ h9 => h9) hd hk
theorem ev_scod (hi : i < 25) (hd : decode (mb M) pc = .ok (.getfield idx, 3)) (hw : Cond.fieldLink (mo M) idx "java/lang/String" "coder" "B" ∈ am_WT) (k : Ev G R Φ M cu su (pc + 3) ls (.int 0 :: st) h) : Ev G R Φ M cu su pc ls (.float (UInt32.ofNat i) :: st) h := by
  intro p e s m args below meth c H locs lsA hB hO hL hH hZ hS
  obtain ⟨t, h1, h2⟩ := str_at hi
  have hk := k p e s m args below meth c H locs lsA hB hO hL hH hZ hS
  rw [List.map_cons, tv_fl (by omega)]
  exact vk_getf hB.1 hB.2.1 (hO.2.2.2.2.1 i t h1).2.1 hS hB.2.2.2.2.1 (hB.2.2.2.2.2.1 _ hw) (fun _ h9 => h9) hd hk
theorem ev_salen (hi : i < 25) (hd : decode (mb M) pc = .ok (.arraylength, 1)) (k : Ev G R Φ M cu su (pc + 1) ls (.int (nI (strn i)) :: st) h) : Ev G R Φ M cu su pc ls (.float (UInt32.ofNat (100 + i)) :: st) h := by
  intro p e s m args below meth c H locs lsA hB hO hL hH hZ hS
  obtain ⟨t, h1, h2⟩ := str_at hi
  have hk := k p e s m args below meth c H locs lsA hB hO hL hH hZ hS
  rw [List.map_cons, tv_fl (by omega)]
  exact va_tlen hB.1 hB.2.1 (hO.2.2.2.2.1 i t h1).2.2.2 hS (by rw [h2]; rfl) hd hk
theorem ev_sbald {j : Int32} (hi : i < 25) (hd : decode (mb M) pc = .ok (.baload, 1)) (hj : inb j (strn i) = true) (k : Ev G R Φ M cu su (pc + 1) ls (.int (strb i j.toNatClampNeg) :: st) h) : Ev G R Φ M cu su pc ls (.int j :: .float (UInt32.ofNat (100 + i)) :: st) h := by
  intro p e s m args below meth c H locs lsA hB hO hL hH hZ hS
  obtain ⟨t, h1, h2⟩ := str_at hi
  have hk := k p e s m args below meth c H locs lsA hB hO hL hH hZ hS
  rw [List.map_cons, List.map_cons, tv_fl (by omega)]
  refine va_tb hB.1 hB.2.1 (hO.2.2.2.2.1 i t h1).2.2.2 hS (by rw [h2]; exact inb_in hj) (v := .int (strb i j.toNatClampNeg)) (by rw [h2]; rfl) hd hk
theorem ev_comp (hd : decode (mb M) pc = .ok (.getstatic idx, 3)) (hw : Cond.fieldLink (mo M) idx "java/lang/String" "COMPACT_STRINGS" "Z" ∈ am_WT) (k : Ev G R Φ M cu su (pc + 3) ls (.int 1 :: st) h) : Ev G R Φ M cu su pc ls st h := by
  intro p e s m args below meth c H locs lsA hB hO hL hH hZ hS
  exact va_gets hB.1 hB.2.1 hO.2.2.2.2.2.2.2.1 hS hB.2.2.2.2.1 (hB.2.2.2.2.2.1 _ hw) (fun _ h9 => h9) hd (k p e s m args below meth c H locs lsA hB hO hL hH hZ hS)
theorem ev_sio (hd : decode (mb M) pc = .ok (.getstatic idx, 3)) (hw : Cond.fieldLink (mo M) idx am_pre0 "SIOOBE_FORMATTER" "Ljava/util/function/BiFunction;" ∈ am_WT) (k : ∀ v : Value, v.category = 1 → Ev G R Φ M cu su (pc + 3) ls (v :: st) h) : Ev G R Φ M cu su pc ls st h := by
  intro p e s m args below meth c H locs lsA hB hO hL hH hZ hS
  rcases hO.2.2.2.2.2.2.2.2.2.2.2 with hz | hz
  · exact va_gets hB.1 hB.2.1 hz hS hB.2.2.2.2.1 (hB.2.2.2.2.2.1 _ hw) (fun _ h9 => h9) hd (k .null rfl p e s m args below meth c H locs lsA hB hO hL hH hZ hS)
  · have hk := k (.float (UInt32.ofNat 1002)) rfl p e s m args below meth c H locs lsA hB hO hL hH hZ hS
    rw [List.map_cons, tv_fl (by omega)] at hk
    exact va_gets hB.1 hB.2.1 hz hS hB.2.2.2.2.1 (hB.2.2.2.2.2.1 _ hw) (fun _ h9 => h9) hd hk
theorem ev_i2c {x : Int32} (hd : decode (mb M) pc = .ok (.i2c, 1)) (k : Ev G R Φ M cu su (pc + 1) ls (.int (x.toUInt32 % 65536).toInt32 :: st) h) : Ev G R Φ M cu su pc ls (.int x :: st) h := by
  intro p e s m args below meth c H locs lsA hB hO hL hH hZ hS
  exact lv_i2c hB.1 hB.2.1 hd rfl (k p e s m args below meth c H locs lsA hB hO hL hH hZ hS)
/-- a call on a string constant -/
theorem ev_invVF {mc ms n d : Nat} {N : am_M} {As : List Value} {Qr : Option Value → am_H → Prop} {Qx : String → am_H → Prop} {st0 : List Value} (hi : i < 25) (hM : am_Met G d N mc ms (.float (UInt32.ofNat i) :: As) h Qr Qx) (hd : decode (mb M) pc = .ok (.invokevirtual idx, 3)) (ok : am_okV N n) (hw : Cond.methodLink (mo M) idx (my N) ∈ am_WT) (hn : As.length = n) (hr : (my N).cls = "java/lang/String") (hst : (st.map fun v => v.category).sum ≤ 8) (hst0 : st0 = As.reverse ++ .float (UInt32.ofNat i) :: st) (hf : am_fit R d) (hcs : cu + mc ≤ R.cells ∧ su + ms ≤ R.slots)
    (kr : ∀ (v : Option Value) (h' : am_H), Qr v h' → Ev G R Φ M (cu + mc) (su + ms) (pc + 3) ls (v.toList ++ st) h')
    (kx : ∀ (E : String) (h' : am_H), Qx E h' → ¬ h'.2 = 0 → EvX G R Φ M (cu + mc) (su + ms) pc ls E h') : Ev G R Φ M cu su pc ls st0 h := by
  subst hst0
  refine ev_run (a := (Value.ref (gS G i) :: As.map (tv G)).toArray) (fun p e s m args below meth c H locs lsA hB hO hL hH hZ hS hsz => ?_) kr kx
  have hpre := am_pre (as := .float (UInt32.ofNat i) :: As) hO hH hZ hS hsz
  rw [List.map_cons, tv_fl (by omega)] at hpre
  obtain ⟨t, h1, h2⟩ := str_at hi
  obtain ⟨cell, g1, g2, g3, -⟩ := ((hO.2.2.2.2.1 i t h1).1).kept hS.2.1
  refine vx_runV (own := mo M) (C := (my N).cls) (b := gS G i) (As := As.map (tv G)) ⟨hB.1, hB.2.1, hB.2.2.2.1, hB.2.2.2.2.1, hB.2.2.2.2.2.1⟩ hM
    (cwV n hB.2.2.2.2.2.1 (am_good (fun w hw9 => ?_)) rfl rfl rfl ⟨rfl, ok.1.2.2.1⟩ (hf.room ok.1.2.2.2)) ⟨hpre.1, ⟨cell, g1, g2, by rw [hr]; exact g3⟩, hpre.2⟩ rfl (by rw [List.length_map]; exact hn) hL.1 ?_ (by rw [tv_cats]; exact lv_room hst) hd hcs
  · simp only [wsV, List.mem_append, List.mem_cons, List.not_mem_nil, or_false] at hw9
    rcases hw9 with (rfl | rfl | rfl | rfl) | hw9
    · exact hw
    · exact ok.2.1
    · exact ok.2.2
    · exact ok.1.2.1
    · exact am_ws_in ok.1 w hw9
  · show ((As.reverse ++ .float (UInt32.ofNat i) :: st).map (tv G)) = _
    rw [List.map_append, List.map_cons, tv_fl (by omega), List.map_reverse]
theorem es_callVFi {n d : Nat} {K : am_M} {As : List Value} {st0 : List Value} {S S' : am_S} {r : Int32} (hi : i < 25) (hM : am_Met G d K 0 0 (.float (UInt32.ofNat i) :: As) (hp S) (q_i (r, S')) q_n) (hd : decode (mb M) pc = .ok (.invokevirtual idx, 3)) (ok : am_okV K n) (hw : Cond.methodLink (mo M) idx (my K) ∈ am_WT) (hn : As.length = n) (hr : (my K).cls = "java/lang/String") (hst : (st.map fun v => v.category).sum ≤ 8) (hst0 : st0 = As.reverse ++ .float (UInt32.ofNat i) :: st) (hf : am_fit R d) (hcs : cu ≤ R.cells ∧ su ≤ R.slots) (kk : Ev G R Φ M cu su (pc + 3) ls (.int r :: st) (hp S')) : Ev G R Φ M cu su pc ls st0 (hp S) := by
  refine ev_invVF hi hM hd ok hw hn hr hst hst0 hf hcs (fun v h' hq => ?_) (fun _ _ hF => hF.elim)
  obtain ⟨rfl, rfl⟩ := hq
  exact kk
end EVS
