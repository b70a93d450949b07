theorem W.sz {p : Program} {l : Launch} {e : Env} {R : Room} {s : State} {m : MethodId} {args : Array Value} {below : List Frame} {meth : Method} {c : Code} {H : Heap} {locs : List Loc} {cells slots : Nat} {Q : State → Prop} {g : JFrame} (k : H.size ≤ s.heap.size + cells → W p l e R s m args below meth c H locs cells slots Q g) : W p l e R s m args below meth c H locs cells slots Q g := by
  intro T hT X
  refine k ?_ T hT X
  have h1 := X.same.2.2.1
  rw [← hT]
  exact h1
theorem am_q {G : am_G} {h : List am_E} {q : Nat} {e : va_E} (hD : va_D (am_A G) (tw G h ++ [(q, e)])) (hlt : q < gB G + h.length + 1) : q = gB G + h.length := by
  have h1 : (tw G h ++ [(q, e)])[h.length]? = some (q, e) := by rw [← tw_len (G := G), List.getElem?_concat_length]
  have h2 : gB G ≤ q := hD.2 _ _ h1
  rcases Nat.lt_or_ge q (gB G + h.length) with h3 | h3
  · have h4 : q - gB G < h.length := by omega
    have h5 : h[q - gB G]? = some (h[q - gB G]'h4) := List.getElem?_eq_getElem h4
    have h6 : (tw G h ++ [(q, e)])[q - gB G]? = some (gB G + (q - gB G), te G (h[q - gB G]'h4)) := by
      rw [List.getElem?_append_left (by rw [tw_len]; exact h4)]
      exact tw_get h5
    have h7 := hD.1 _ _ _ _ h6 h1 (by show gB G + (q - gB G) = q; omega)
    omega
  · omega
def am_rv (r : Option Nat) : Value := va_rf r
theorem am_rv_tv (G : am_G) (r : Option Nat) : tv G (am_rv r) = va_rf (r.map (fun k => gB G + k)) := by cases r <;> rfl
theorem am_arr {G : am_G} {s : State} {t : Nat} {cA : ClassId} {ty : FieldType} (hK : va_K (gD G) am_cl (am_tys G) s) (ht : (am_tys G)[t]? = some (gY G t, ty)) (h : va_RA s cA ty) : cA = gY G t := by
  have h1 := (hK.2 t _ ht).2
  cases ty with
  | object C =>
    obtain ⟨-, -, -, -, -, h4⟩ := h
    obtain ⟨-, -, -, -, -, h5⟩ := h1
    exact Option.some.inj (h4.symm.trans h5)
  | _ => exact Option.some.inj (Eq.trans (Eq.symm (by exact h)) (by exact h1))
section EVB
variable {G : am_G} {R : Room} {Φ : List Frame → Array Value → State → State → Prop} {M : am_M} {cu su pc : Nat} {ls : List (Option Value)} {st : List Value} {h : am_H}
theorem ev_iaload {a n : Nat} {f : Nat → Int32} {i : Int32} (hd : decode (mb M) pc = .ok (.iaload, 1)) (ha : h.1[a]? = some (.inl (1, n, .inl f))) (hi : vp_in i n) (k : Ev G R Φ M cu su (pc + 1) ls (.int (f i.toNatClampNeg) :: st) h) : Ev G R Φ M cu su pc ls (.int i :: .ref a :: st) h := by
  intro p e s m args below meth c H locs lsA hB hO hL hH hZ hS
  exact va_iald hB.1 hB.2.1 hO.1 hH a 1 (tw_get ha) rfl hi hd (k p e s m args below meth c H locs lsA hB hO hL hH hZ hS)
theorem ev_baload {a n : Nat} {f : Nat → Int32} {i : Int32} (hd : decode (mb M) pc = .ok (.baload, 1)) (ha : h.1[a]? = some (.inl (0, n, .inl f))) (hi : vp_in i n) (k : Ev G R Φ M cu su (pc + 1) ls (.int (f i.toNatClampNeg) :: st) h) : Ev G R Φ M cu su pc ls (.int i :: .ref a :: st) h := by
  intro p e s m args below meth c H locs lsA hB hO hL hH hZ hS
  exact va_bald hB.1 hB.2.1 hO.1 hH a 0 (tw_get ha) rfl hi hd (k p e s m args below meth c H locs lsA hB hO hL hH hZ hS)
theorem ev_zaload {a n : Nat} {f : Nat → Int32} {i : Int32} (hd : decode (mb M) pc = .ok (.baload, 1)) (ha : h.1[a]? = some (.inl (2, n, .inl f))) (hi : vp_in i n) (k : Ev G R Φ M cu su (pc + 1) ls (.int (f i.toNatClampNeg) :: st) h) : Ev G R Φ M cu su pc ls (.int i :: .ref a :: st) h := by
  intro p e s m args below meth c H locs lsA hB hO hL hH hZ hS
  exact va_zald hB.1 hB.2.1 hO.1 hH a 2 (tw_get ha) rfl hi hd (k p e s m args below meth c H locs lsA hB hO hL hH hZ hS)
theorem ev_laload {a n : Nat} {f : Nat → Int64} {i : Int32} (hd : decode (mb M) pc = .ok (.laload, 1)) (ha : h.1[a]? = some (.inl (4, n, .inr (.inl f)))) (hi : vp_in i n) (k : Ev G R Φ M cu su (pc + 1) ls (.long (f i.toNatClampNeg) :: st) h) : Ev G R Φ M cu su pc ls (.int i :: .ref a :: st) h := by
  intro p e s m args below meth c H locs lsA hB hO hL hH hZ hS
  exact va_lald hB.1 hB.2.1 hO.1 hH a 4 (tw_get ha) rfl hi hd (k p e s m args below meth c H locs lsA hB hO hL hH hZ hS)
theorem ev_aaload {a n : Nat} {f : Nat → Option Nat} {i : Int32} {v : Nat} (hd : decode (mb M) pc = .ok (.aaload, 1)) (ha : h.1[a]? = some (.inl (3, n, .inr (.inr (.inr (.inr f)))))) (hi : vp_in i n) (hv : f i.toNatClampNeg = some v) (k : Ev G R Φ M cu su (pc + 1) ls (.ref v :: st) h) : Ev G R Φ M cu su pc ls (.int i :: .ref a :: st) h := by
  intro p e s m args below meth c H locs lsA hB hO hL hH hZ hS
  refine va_aldq hB.1 hB.2.1 hO.1 hH a 3 (tw_get ha) rfl hi hd ?_
  show W _ _ _ _ _ _ _ _ _ _ _ _ _ _ _ (F0 m (pc + 1) lsA (va_rf ((f i.toNatClampNeg).map (fun k => gB G + k)) :: _))
  rw [hv]
  exact k p e s m args below meth c H locs lsA hB hO hL hH hZ hS
theorem ev_faload {i : Int32} (hd : decode (mb M) pc = .ok (.iaload, 1)) (hi : vp_in i 10) (k : Ev G R Φ M cu su (pc + 1) ls (.int (am_rank.getD i.toNatClampNeg 0) :: st) h) : Ev G R Φ M cu su pc ls (.int i :: .float 1000 :: st) h := by
  intro p e s m args below meth c H locs lsA hB hO hL hH hZ hS
  exact va_ti hB.1 hB.2.1 hO.2.2.2.2.2.2.1 hS hi rfl hd (k p e s m args below meth c H locs lsA hB hO hL hH hZ hS)
theorem ev_saload {i : Int32} (hd : decode (mb M) pc = .ok (.iaload, 1)) (hi : vp_in i (gN G)) (k : Ev G R Φ M cu su (pc + 1) ls (.int (gX G i.toNatClampNeg) :: st) h) : Ev G R Φ M cu su pc ls (.int i :: .float 1001 :: st) h := by
  intro p e s m args below meth c H locs lsA hB hO hL hH hZ hS
  exact va_ti hB.1 hB.2.1 hO.2.2.2.2.2.2.2.2.2.2.1 hS hi rfl hd (k p e s m args below meth c H locs lsA hB hO hL hH hZ hS)
theorem ev_slen (hd : decode (mb M) pc = .ok (.arraylength, 1)) (k : Ev G R Φ M cu su (pc + 1) ls (.int (nI (gN G)) :: st) h) : Ev G R Φ M cu su pc ls (.float 1001 :: st) h := by
  intro p e s m args below meth c H locs lsA hB hO hL hH hZ hS
  exact va_tlen hB.1 hB.2.1 hO.2.2.2.2.2.2.2.2.2.2.1 hS rfl hd (k p e s m args below meth c H locs lsA hB hO hL hH hZ hS)
theorem ev_alen {a t : Nat} {x : vp_A} {ty : FieldType} (hd : decode (mb M) pc = .ok (.arraylength, 1)) (ha : h.1[a]? = some (.inl (t, x))) (ht : (am_tys G)[t]? = some (gY G t, ty)) (k : Ev G R Φ M cu su (pc + 1) ls (.int (nI x.1) :: st) h) : Ev G R Φ M cu su pc ls (.ref a :: st) h := by
  intro p e s m args below meth c H locs lsA hB hO hL hH hZ hS
  exact va_alen hB.1 hB.2.1 hO.1 hH a t (tw_get ha) ht rfl hd (k p e s m args below meth c H locs lsA hB hO hL hH hZ hS)
theorem ev_rank {idx : Nat} (hd : decode (mb M) pc = .ok (.getstatic idx, 3)) (hw : Cond.fieldLink (mo M) idx RX6 "RANK" "[I" ∈ am_WT) (k : Ev G R Φ M cu su (pc + 3) ls (.float 1000 :: st) h) : Ev G R Φ M cu su pc ls st h := by
  intro p e s m args below meth c H locs lsA hB hO hL hH hZ hS
  exact va_gets hB.1 hB.2.1 hO.2.2.2.2.2.1 hS hB.2.2.2.2.1 (hB.2.2.2.2.2.1 _ hw) (fun _ h9 => h9) hd (k p e s m args below meth c H locs lsA hB hO hL hH hZ hS)
theorem ev_ldcS {idx : Nat} {tx : String} (i : Nat) (hd : decode (mb M) pc = .ok (.ldc idx, 2)) (hs : am_strs[i]? = some (mo M, idx, tx)) (hi : (UInt32.ofNat i).toNat = i) (k : Ev G R Φ M cu su (pc + 2) ls (.float (UInt32.ofNat i) :: st) h) : Ev G R Φ M cu su pc ls st h := by
  intro p e s m args below meth c H locs lsA hB hO hL hH hZ hS
  refine va_ldcS hB.1 hB.2.1 hB.2.2.2.2.1 (hO.2.2.1 i _ hs) hd ?_
  have h1 := k p e s m args below meth c H locs lsA hB hO hL hH hZ hS
  rw [show (Value.float (UInt32.ofNat i) :: st).map (tv G) = Value.ref (gS G (UInt32.ofNat i).toNat) :: st.map (tv G) from rfl, hi] at h1
  exact h1
theorem ev_iastore {a n : Nat} {f : Nat → Int32} {i : Int32} {x : Int32} (hd : decode (mb M) pc = .ok (.iastore, 1)) (ha : h.1[a]? = some (.inl (1, n, .inl f))) (hi : vp_in i n) (k : Ev G R Φ M cu su (pc + 1) ls st (am_up h a (.inl (1, n, .inl (upd f i.toNatClampNeg x))))) : Ev G R Φ M cu su pc ls (.int x :: .int i :: .ref a :: st) h := by
  intro p e s m args below meth c H locs lsA hB hO hL hH hZ hS
  refine va_iast hB.1 hB.2.1 hO.1 hH (tw_D G h.1) hS a 1 (tw_get ha) rfl hi hd (fun H1 locs1 hP1 hD1 hS1 => ?_)
  rw [show (gB G + a, (Sum.inl (gY G 1, n, .inl (upd f i.toNatClampNeg x)) : va_E)) = (gB G + a, te G (.inl (1, n, .inl (upd f i.toNatClampNeg x)))) from rfl, tw_set] at hP1
  exact k p e s m args below meth c H1 locs1 lsA hB hO hL hP1 (by simpa [am_sz, am_up] using hZ) hS1
theorem ev_bastore {a n : Nat} {f : Nat → Int32} {i : Int32} {x : Int32} (hd : decode (mb M) pc = .ok (.bastore, 1)) (ha : h.1[a]? = some (.inl (0, n, .inl f))) (hi : vp_in i n) (k : Ev G R Φ M cu su (pc + 1) ls st (am_up h a (.inl (0, n, .inl (upd f i.toNatClampNeg (vp_nar .byte x)))))) : Ev G R Φ M cu su pc ls (.int x :: .int i :: .ref a :: st) h := by
  intro p e s m args below meth c H locs lsA hB hO hL hH hZ hS
  refine va_bast hB.1 hB.2.1 hO.1 hH (tw_D G h.1) hS a 0 (tw_get ha) rfl hi hd (fun H1 locs1 hP1 hD1 hS1 => ?_)
  rw [show (gB G + a, (Sum.inl (gY G 0, n, .inl (upd f i.toNatClampNeg (vp_nar .byte x))) : va_E)) = (gB G + a, te G (.inl (0, n, .inl (upd f i.toNatClampNeg (vp_nar .byte x))))) from rfl, tw_set] at hP1
  exact k p e s m args below meth c H1 locs1 lsA hB hO hL hP1 (by simpa [am_sz, am_up] using hZ) hS1
theorem ev_zastore {a n : Nat} {f : Nat → Int32} {i : Int32} {x : Int32} (hd : decode (mb M) pc = .ok (.bastore, 1)) (ha : h.1[a]? = some (.inl (2, n, .inl f))) (hi : vp_in i n) (k : Ev G R Φ M cu su (pc + 1) ls st (am_up h a (.inl (2, n, .inl (upd f i.toNatClampNeg (vp_nar .boolean x)))))) : Ev G R Φ M cu su pc ls (.int x :: .int i :: .ref a :: st) h := by
  intro p e s m args below meth c H locs lsA hB hO hL hH hZ hS
  refine va_zast hB.1 hB.2.1 hO.1 hH (tw_D G h.1) hS a 2 (tw_get ha) rfl hi hd (fun H1 locs1 hP1 hD1 hS1 => ?_)
  rw [show (gB G + a, (Sum.inl (gY G 2, n, .inl (upd f i.toNatClampNeg (vp_nar .boolean x))) : va_E)) = (gB G + a, te G (.inl (2, n, .inl (upd f i.toNatClampNeg (vp_nar .boolean x))))) from rfl, tw_set] at hP1
  exact k p e s m args below meth c H1 locs1 lsA hB hO hL hP1 (by simpa [am_sz, am_up] using hZ) hS1
theorem ev_lastore {a n : Nat} {f : Nat → Int64} {i : Int32} {x : Int64} (hd : decode (mb M) pc = .ok (.lastore, 1)) (ha : h.1[a]? = some (.inl (4, n, .inr (.inl f)))) (hi : vp_in i n) (k : Ev G R Φ M cu su (pc + 1) ls st (am_up h a (.inl (4, n, .inr (.inl (vp_updL f i.toNatClampNeg x)))))) : Ev G R Φ M cu su pc ls (.long x :: .int i :: .ref a :: st) h := by
  intro p e s m args below meth c H locs lsA hB hO hL hH hZ hS
  refine va_last hB.1 hB.2.1 hO.1 hH (tw_D G h.1) hS a 4 (tw_get ha) rfl hi hd (fun H1 locs1 hP1 hD1 hS1 => ?_)
  rw [show (gB G + a, (Sum.inl (gY G 4, n, .inr (.inl (vp_updL f i.toNatClampNeg x))) : va_E)) = (gB G + a, te G (.inl (4, n, .inr (.inl (vp_updL f i.toNatClampNeg x))))) from rfl, tw_set] at hP1
  exact k p e s m args below meth c H1 locs1 lsA hB hO hL hP1 (by simpa [am_sz, am_up] using hZ) hS1
theorem ev_aastore {a n ci v : Nat} {f : Nat → Option Nat} {i : Int32} {vs : List Value} {r : vw_C} (hd : decode (mb M) pc = .ok (.aastore, 1)) (ha : h.1[a]? = some (.inl (3, n, .inr (.inr (.inr (.inr f)))))) (hv : h.1[v]? = some (.inr (ci, vs))) (hc : am_cl[ci]? = some r) (hr : r.1 = RX7) (hi : vp_in i n) (k : Ev G R Φ M cu su (pc + 1) ls st (am_up h a (.inl (3, n, .inr (.inr (.inr (.inr (va_up f i.toNatClampNeg (some v))))))))) : Ev G R Φ M cu su pc ls (.ref v :: .int i :: .ref a :: st) h := by
  intro p e s m args below meth c H locs lsA hB hO hL hH hZ hS
  refine va_astq hB.1 hB.2.1 hO.1 hH (tw_D G h.1) hS a 3 v ci (tw_get ha) (by rw [hr]; rfl) (tw_get hv) hc hi hd (fun H1 locs1 hP1 hD1 hS1 => ?_)
  have e1 : (fun j => (va_up f i.toNatClampNeg (some v) j).map (fun k => gB G + k)) = va_up (fun j => (f j).map (fun k => gB G + k)) i.toNatClampNeg (some (gB G + v)) := by
    funext j
    by_cases hj : j = i.toNatClampNeg
    · subst hj; simp [va_up]
    · simp [va_up, hj]
  have e2 : (gB G + a, te G (.inl (3, n, .inr (.inr (.inr (.inr (va_up f i.toNatClampNeg (some v)))))))) = (gB G + a, (Sum.inl (gY G 3, n, .inr (.inr (.inr (.inr (va_up (fun j => (f j).map (fun k => gB G + k)) i.toNatClampNeg (some (gB G + v))))))) : va_E)) := by
    rw [← e1]; rfl
  rw [← e2, tw_set] at hP1
  exact k p e s m args below meth c H1 locs1 lsA hB hO hL hP1 (by simpa [am_sz, am_up] using hZ) hS1
theorem ev_new {idx : Nat} {C : String} {T : u_T} {ty : Nat → FieldType} {N ci : Nat} (fs : List Value) (hd : decode (mb M) pc = .ok (.new idx, 3)) (hin : ∀ w ∈ u_ws C T N, w ∈ am_WT) (hty : ∀ k, k < N → parseFieldDescriptor (T k).2.2.1 = some (ty k)) (hc : am_cl[ci]? = some (C, T, N)) (hw : Cond.classLink (mo M) idx C ∈ am_WT) (hw2 : Cond.instantiable C N ∈ am_WT) (hw3 : Cond.initialized C ∈ am_WT) (hfs : ∀ j, j < N → defaultValue (ty j) = vp_V (fs.map (tv G)) j) (hz : h.2 = 0) (hcells : cu + 1 ≤ R.cells) (hslots : su + N ≤ R.slots) (k : Ev G R Φ M (cu + 1) (su + N) (pc + 3) ls (.ref h.1.length :: st) (h.1 ++ [.inr (ci, fs)], h.2)) : Ev G R Φ M cu su pc ls st h := by
  intro p e s m args below meth c H locs lsA hB hO hL hH hZ hS
  refine va_new hB.1 hB.2.1 hB.2.2.2.2.2.1 hin ty hty hB.2.2.2.2.1 (hB.2.2.2.2.2.1 _ hw) (hB.2.2.2.2.2.1 _ hw2) (hB.2.2.2.2.2.1 _ hw3) hO.1 hH (tw_D G h.1) hS (fun q hq => Nat.le_trans hZ.1 hq) hc hfs hcells hslots hd (fun q H1 hP1 hD1 hS1 => ?_)
  refine W.sz (fun hsz => ?_)
  have hq1 : q < H1.size := (hP1 h.1.length (q, _) (by rw [← tw_len (G := G), List.getElem?_concat_length])).lt
  have hq : q = gB G + h.1.length := am_q hD1 (by have := hZ.2 hz; omega)
  subst hq
  rw [show (gB G + h.1.length, (Sum.inr (ci, fs.map (tv G)) : va_E)) = (gB G + h.1.length, te G (.inr (ci, fs))) from rfl, tw_push] at hP1
  exact k p e s m args below meth c H1 locs lsA hB hO hL hP1 ⟨hZ.1, fun z => by have := hZ.2 z; simp; omega⟩ hS1
theorem ev_newI {n : Int32} (N : Nat) (hd : decode (mb M) pc = .ok (.newarray .int, 2)) (hw : Cond.arrayClass .int ∈ am_WT) (hn : ¬ n < 0) (hN : n.toNatClampNeg = N) (hbytes : N * componentBytes .int ≤ 536870912) (hz : h.2 = 0) (hcells : cu + 1 ≤ R.cells) (hslots : su + N ≤ R.slots) (k : Ev G R Φ M (cu + 1) (su + N) (pc + 2) ls (.ref h.1.length :: st) (h.1 ++ [.inl (1, N, .inl (fun _ => 0))], h.2)) : Ev G R Φ M cu su pc ls (.int n :: st) h := by
  intro p e s m args below meth c H locs lsA hB hO hL hH hZ hS
  refine va_newa (atype := .int) (ty := .int) (a0 := (N, .inl (fun _ => 0))) hB.1 hB.2.1 (hB.2.2.2.2.2.1 _ hw) rfl hO.1 hH (tw_D G h.1) hS (fun q hq => Nat.le_trans hZ.1 hq) (fun cA => rfl) hn hN hbytes hcells hslots hd (fun q cA H1 hK1 hP1 hD1 hS1 => ?_)
  refine W.sz (fun hsz => ?_)
  have hcA : cA = gY G 1 := am_arr (t := 1) hO.1 rfl (hK1.2 5 (cA, .int) rfl).2
  subst hcA
  have hq1 : q < H1.size := (hP1 h.1.length (q, _) (by rw [← tw_len (G := G), List.getElem?_concat_length])).lt
  have hq : q = gB G + h.1.length := am_q hD1 (by have := hZ.2 hz; omega)
  subst hq
  rw [show (gB G + h.1.length, (Sum.inl (gY G 1, N, .inl (fun _ => 0)) : va_E)) = (gB G + h.1.length, te G (.inl (1, N, .inl (fun _ => 0)))) from rfl, tw_push] at hP1
  exact k p e s m args below meth c H1 locs lsA hB hO hL hP1 ⟨hZ.1, fun z => by have := hZ.2 z; simp; omega⟩ hS1
theorem ev_newB {n : Int32} (N : Nat) (hd : decode (mb M) pc = .ok (.newarray .byte, 2)) (hw : Cond.arrayClass .byte ∈ am_WT) (hn : ¬ n < 0) (hN : n.toNatClampNeg = N) (hbytes : N * componentBytes .byte ≤ 536870912) (hz : h.2 = 0) (hcells : cu + 1 ≤ R.cells) (hslots : su + N ≤ R.slots) (k : Ev G R Φ M (cu + 1) (su + N) (pc + 2) ls (.ref h.1.length :: st) (h.1 ++ [.inl (0, N, .inl (fun _ => 0))], h.2)) : Ev G R Φ M cu su pc ls (.int n :: st) h := by
  intro p e s m args below meth c H locs lsA hB hO hL hH hZ hS
  refine va_newa (atype := .byte) (ty := .byte) (a0 := (N, .inl (fun _ => 0))) hB.1 hB.2.1 (hB.2.2.2.2.2.1 _ hw) rfl hO.1 hH (tw_D G h.1) hS (fun q hq => Nat.le_trans hZ.1 hq) (fun cA => rfl) hn hN hbytes hcells hslots hd (fun q cA H1 hK1 hP1 hD1 hS1 => ?_)
  refine W.sz (fun hsz => ?_)
  have hcA : cA = gY G 0 := am_arr (t := 0) hO.1 rfl (hK1.2 5 (cA, .byte) rfl).2
  subst hcA
  have hq1 : q < H1.size := (hP1 h.1.length (q, _) (by rw [← tw_len (G := G), List.getElem?_concat_length])).lt
  have hq : q = gB G + h.1.length := am_q hD1 (by have := hZ.2 hz; omega)
  subst hq
  rw [show (gB G + h.1.length, (Sum.inl (gY G 0, N, .inl (fun _ => 0)) : va_E)) = (gB G + h.1.length, te G (.inl (0, N, .inl (fun _ => 0)))) from rfl, tw_push] at hP1
  exact k p e s m args below meth c H1 locs lsA hB hO hL hP1 ⟨hZ.1, fun z => by have := hZ.2 z; simp; omega⟩ hS1
theorem ev_newZ {n : Int32} (N : Nat) (hd : decode (mb M) pc = .ok (.newarray .boolean, 2)) (hw : Cond.arrayClass .boolean ∈ am_WT) (hn : ¬ n < 0) (hN : n.toNatClampNeg = N) (hbytes : N * componentBytes .boolean ≤ 536870912) (hz : h.2 = 0) (hcells : cu + 1 ≤ R.cells) (hslots : su + N ≤ R.slots) (k : Ev G R Φ M (cu + 1) (su + N) (pc + 2) ls (.ref h.1.length :: st) (h.1 ++ [.inl (2, N, .inl (fun _ => 0))], h.2)) : Ev G R Φ M cu su pc ls (.int n :: st) h := by
  intro p e s m args below meth c H locs lsA hB hO hL hH hZ hS
  refine va_newa (atype := .boolean) (ty := .boolean) (a0 := (N, .inl (fun _ => 0))) hB.1 hB.2.1 (hB.2.2.2.2.2.1 _ hw) rfl hO.1 hH (tw_D G h.1) hS (fun q hq => Nat.le_trans hZ.1 hq) (fun cA => rfl) hn hN hbytes hcells hslots hd (fun q cA H1 hK1 hP1 hD1 hS1 => ?_)
  refine W.sz (fun hsz => ?_)
  have hcA : cA = gY G 2 := am_arr (t := 2) hO.1 rfl (hK1.2 5 (cA, .boolean) rfl).2
  subst hcA
  have hq1 : q < H1.size := (hP1 h.1.length (q, _) (by rw [← tw_len (G := G), List.getElem?_concat_length])).lt
  have hq : q = gB G + h.1.length := am_q hD1 (by have := hZ.2 hz; omega)
  subst hq
  rw [show (gB G + h.1.length, (Sum.inl (gY G 2, N, .inl (fun _ => 0)) : va_E)) = (gB G + h.1.length, te G (.inl (2, N, .inl (fun _ => 0)))) from rfl, tw_push] at hP1
  exact k p e s m args below meth c H1 locs lsA hB hO hL hP1 ⟨hZ.1, fun z => by have := hZ.2 z; simp; omega⟩ hS1
theorem ev_newL {n : Int32} (N : Nat) (hd : decode (mb M) pc = .ok (.newarray .long, 2)) (hw : Cond.arrayClass .long ∈ am_WT) (hn : ¬ n < 0) (hN : n.toNatClampNeg = N) (hbytes : N * componentBytes .long ≤ 536870912) (hz : h.2 = 0) (hcells : cu + 1 ≤ R.cells) (hslots : su + N ≤ R.slots) (k : Ev G R Φ M (cu + 1) (su + N) (pc + 2) ls (.ref h.1.length :: st) (h.1 ++ [.inl (4, N, .inr (.inl (fun _ => 0)))], h.2)) : Ev G R Φ M cu su pc ls (.int n :: st) h := by
  intro p e s m args below meth c H locs lsA hB hO hL hH hZ hS
  refine va_newa (atype := .long) (ty := .long) (a0 := (N, .inr (.inl (fun _ => 0)))) hB.1 hB.2.1 (hB.2.2.2.2.2.1 _ hw) rfl hO.1 hH (tw_D G h.1) hS (fun q hq => Nat.le_trans hZ.1 hq) (fun cA => rfl) hn hN hbytes hcells hslots hd (fun q cA H1 hK1 hP1 hD1 hS1 => ?_)
  refine W.sz (fun hsz => ?_)
  have hcA : cA = gY G 4 := am_arr (t := 4) hO.1 rfl (hK1.2 5 (cA, .long) rfl).2
  subst hcA
  have hq1 : q < H1.size := (hP1 h.1.length (q, _) (by rw [← tw_len (G := G), List.getElem?_concat_length])).lt
  have hq : q = gB G + h.1.length := am_q hD1 (by have := hZ.2 hz; omega)
  subst hq
  rw [show (gB G + h.1.length, (Sum.inl (gY G 4, N, .inr (.inl (fun _ => 0))) : va_E)) = (gB G + h.1.length, te G (.inl (4, N, .inr (.inl (fun _ => 0))))) from rfl, tw_push] at hP1
  exact k p e s m args below meth c H1 locs lsA hB hO hL hP1 ⟨hZ.1, fun z => by have := hZ.2 z; simp; omega⟩ hS1
theorem ev_newQ {idx : Nat} {n : Int32} (N : Nat) (hd : decode (mb M) pc = .ok (.anewarray idx, 3)) (hw : Cond.classLink (mo M) idx RX7 ∈ am_WT) (hn : ¬ n < 0) (hN : n.toNatClampNeg = N) (hbytes : N * 4 ≤ 536870912) (hz : h.2 = 0) (hcells : cu + 1 ≤ R.cells) (hslots : su + N ≤ R.slots) (k : Ev G R Φ M (cu + 1) (su + N) (pc + 3) ls (.ref h.1.length :: st) (h.1 ++ [.inl (3, N, .inr (.inr (.inr (.inr (fun _ => none)))))], h.2)) : Ev G R Φ M cu su pc ls (.int n :: st) h := by
  intro p e s m args below meth c H locs lsA hB hO hL hH hZ hS
  refine va_newq hB.1 hB.2.1 hB.2.2.2.2.1 (hB.2.2.2.2.2.1 _ hw) hO.2.2.2.1.2.1 hO.1 hH (tw_D G h.1) hS (fun q hq => Nat.le_trans hZ.1 hq) hn hN hbytes hcells hslots hd (fun q cA H1 hK1 hP1 hD1 hS1 => ?_)
  refine W.sz (fun hsz => ?_)
  have hcA : cA = gY G 3 := am_arr (t := 3) hO.1 rfl (hK1.2 5 (cA, .object RX7) rfl).2
  subst hcA
  have hq1 : q < H1.size := (hP1 h.1.length (q, _) (by rw [← tw_len (G := G), List.getElem?_concat_length])).lt
  have hq : q = gB G + h.1.length := am_q hD1 (by have := hZ.2 hz; omega)
  subst hq
  rw [show (gB G + h.1.length, (Sum.inl (gY G 3, N, .inr (.inr (.inr (.inr (fun _ => none))))) : va_E)) = (gB G + h.1.length, te G (.inl (3, N, .inr (.inr (.inr (.inr (fun _ => none))))))) from rfl, tw_push] at hP1
  exact k p e s m args below meth c H1 locs lsA hB hO hL hP1 ⟨hZ.1, fun z => by have := hZ.2 z; simp; omega⟩ hS1
theorem ev_objInit {idx a : Nat} (hd : decode (mb M) pc = .ok (.invokespecial idx, 3)) (hw : Cond.methodLink (mo M) idx objectInit ∈ am_WT) (hw2 : Cond.instanceMethod objectInit ∈ am_WT) (hw3 : Cond.code objectInit ⟨#[0xb1]⟩ 1 none ∈ am_WT) (hst : (st.map fun v => v.category).sum ≤ 8) (hf : 1 ≤ R.frames) (hlo : 20 ≤ R.locals) (k : Ev G R Φ M cu su (pc + 3) ls st h) : Ev G R Φ M cu su pc ls (.ref a :: st) h := by
  intro p e s m args below meth c H locs lsA hB hO hL hH hZ hS
  exact W.objInit hB.1 hB.2.1 hB.2.2.2.2.1 (hB.2.2.2.2.2.1 _ hw) (hB.2.2.2.2.2.1 _ hw2) (hB.2.2.2.2.2.1 _ hw3) rfl (by rw [hB.2.2.2.1]; exact hL.1) rfl hd hf (by rw [tv_cats]; show 2 * 0 + _ + _ ≤ _; omega) (k p e s m args below meth c H locs lsA hB hO hL hH hZ hS)
theorem ev_sub {h' : am_H} (e : h = h') (k : Ev G R Φ M cu su pc ls st h') : Ev G R Φ M cu su pc ls st h := e ▸ k
theorem ev_widen {k n : Nat} (h1 : cu ≤ k) (h2 : su ≤ n) (hz : ¬ h.2 = 0) (kk : Ev G R Φ M k n pc ls st h) : Ev G R Φ M cu su pc ls st h := by
  intro p e s m args below meth c H locs lsA hB hO hL hH hZ hS
  exact W.widen h1 h2 (kk p e s m args below meth c H locs lsA hB hO hL hH ⟨hZ.1, fun z => absurd z hz⟩ hS)
/-- the heap sealed: nothing more is made in it -/
theorem ev_seal (kk : Ev G R Φ M cu su pc ls st (h.1, 1)) : Ev G R Φ M cu su pc ls st h := by
  intro p e s m args below meth c H locs lsA hB hO hL hH hZ hS
  exact kk p e s m args below meth c H locs lsA hB hO hL hH ⟨hZ.1, fun z => by cases z⟩ hS
end EVB
section EVR
variable {G : am_G} {R : Room} {M : am_M} {cu su pc mc ms : Nat} {ls : List (Option Value)} {st : List Value} {h h0 : am_H} {Qr : Option Value → am_H → Prop} {Qx : String → am_H → Prop}
theorem ev_iret {v : Int32} (hd : decode (mb M) pc = .ok (.ireturn, 1)) (hr : mr M = some .int) (hc : cu ≤ mc) (hs : su ≤ ms) (hz : h.2 = 0 → h0.2 = 0 ∧ cu = mc) (hq : Qr (some (.int v)) h) : Ev G R (am_Φ G h0 mc ms Qr Qx) M cu su pc ls [.int v] h := by
  intro p e s m args below meth c H locs lsA hB hO hL hH hZ hS
  exact W.widen hc hs (vx_ret (W.iret hB.1 hB.2.1 (hB.2.2.1.trans hr) (fun t ht hW => ⟨⟨some (.int v), h, rfl, hq, by rw [ht]; exact hH, fun z => ⟨(hz z).1, by have := hZ.2 z; have := (hz z).2; omega⟩⟩, hS.F ht⟩) hS.2.2 hd hB.2.2.2.2.2.2.1))
theorem ev_zret {v : Int32} {ty : FieldType} (hd : decode (mb M) pc = .ok (.ireturn, 1)) (hr : mr M = some ty) (hn : narrow ty (.int v) = .int v) (hc : cu ≤ mc) (hs : su ≤ ms) (hz : h.2 = 0 → h0.2 = 0 ∧ cu = mc) (hq : Qr (some (.int v)) h) : Ev G R (am_Φ G h0 mc ms Qr Qx) M cu su pc ls [.int v] h := by
  intro p e s m args below meth c H locs lsA hB hO hL hH hZ hS
  exact W.widen hc hs (vx_ret (W.zret hB.1 hB.2.1 (hB.2.2.1.trans hr) hn (fun t ht hW => ⟨⟨some (.int v), h, rfl, hq, by rw [ht]; exact hH, fun z => ⟨(hz z).1, by have := hZ.2 z; have := (hz z).2; omega⟩⟩, hS.F ht⟩) hS.2.2 hd hB.2.2.2.2.2.2.1))
theorem ev_lret {v : Int64} (hd : decode (mb M) pc = .ok (.lreturn, 1)) (hr : mr M = some .long) (hc : cu ≤ mc) (hs : su ≤ ms) (hz : h.2 = 0 → h0.2 = 0 ∧ cu = mc) (hq : Qr (some (.long v)) h) : Ev G R (am_Φ G h0 mc ms Qr Qx) M cu su pc ls [.long v] h := by
  intro p e s m args below meth c H locs lsA hB hO hL hH hZ hS
  exact W.widen hc hs (vx_ret (W.lret hB.1 hB.2.1 (hB.2.2.1.trans hr) (fun t ht hW => ⟨⟨some (.long v), h, rfl, hq, by rw [ht]; exact hH, fun z => ⟨(hz z).1, by have := hZ.2 z; have := (hz z).2; omega⟩⟩, hS.F ht⟩) hS.2.2 hd hB.2.2.2.2.2.2.1))
theorem ev_vret (hd : decode (mb M) pc = .ok (.return_, 1)) (hr : mr M = none) (hc : cu ≤ mc) (hs : su ≤ ms) (hz : h.2 = 0 → h0.2 = 0 ∧ cu = mc) (hq : Qr none h) : Ev G R (am_Φ G h0 mc ms Qr Qx) M cu su pc ls [] h := by
  intro p e s m args below meth c H locs lsA hB hO hL hH hZ hS
  exact W.widen hc hs (vx_ret (W.vret hB.1 hB.2.1 (hB.2.2.1.trans hr) (fun t ht hW => ⟨⟨none, h, rfl, hq, by rw [ht]; exact hH, fun z => ⟨(hz z).1, by have := hZ.2 z; have := (hz z).2; omega⟩⟩, hS.F ht⟩) hS.2.2 hd hB.2.2.2.2.2.2.1))
theorem evx_out {E : String} (hh : mh M = []) (hc : cu ≤ mc) (hs : su ≤ ms) (hz : ¬ h.2 = 0) (hq : Qx E h) : EvX G R (am_Φ G h0 mc ms Qr Qx) M cu su pc ls E h := by
  intro p e s m args below meth c H locs lsA rest q ce hB hO hL hH hZ hS hcell hv hcl
  refine vx_out (fun x hx => ?_) hB.2.2.2.2.2.2.1 hcell hv hcl (fun t ht hW => ⟨⟨h, hq, by rw [ht]; exact hH, hz⟩, hS.F ht⟩) hS.2.2 hc hs
  rw [hB.2.2.2.2.2.2.2.2, hh] at hx
  cases hx
end EVR
