section EVT
variable {G : am_G} {R : Room} {M : am_M} {cu su pc mc ms : Nat} {ls : List (Option Value)} {st : List Value} {h h0 : am_H} {Qr : Option Value → am_H → Prop} {Qx : String → am_H → Prop}
/-- 'throw new E("text")', uncaught here -/
theorem ev_throw {cls tx : String} {names : List String} {ik is ic ix : Nat} {rx : ByteArray} (i : Nat) (d0 : decode (mb M) pc = .ok (.new ik, 3)) (d3 : decode (mb M) (pc + 3) = .ok (.dup, 1)) (d4 : decode (mb M) (pc + 4) = .ok (.ldc is, 2)) (d6 : decode (mb M) (pc + 6) = .ok (.invokespecial ic, 3)) (d9 : decode (mb M) (pc + 9) = .ok (.athrow, 1))
    (x0 : decode rx 0 = .ok (.aload_n 0, 1)) (x1 : decode rx 1 = .ok (.aload_n 1, 1)) (x2 : decode rx 2 = .ok (.invokespecial ix, 3)) (x5 : decode rx 5 = .ok (.return_, 1)) (hcls : Bundle.fit cls = true) (hnames : ∀ n ∈ names, Bundle.fit n = true)
    (hk : Cond.classLink (mo M) ik cls ∈ am_WT) (hini : Cond.initialized cls ∈ am_WT) (hs : am_strs[i]? = some (mo M, is, tx)) (hat : ∀ w ∈ ax_at (mo M) ic cls ix rx names, w ∈ am_WT ∨ w ∈ am_ext) (hh : mh M = []) (hfr : names.length + 3 < R.frames) (hlo : 8 + (13 * (names.length + 1) + 43) ≤ R.locals) (hst : (st.map fun v => v.category).sum ≤ 8) (hce : cu + 1 ≤ R.cells) (hsl : su + 6 ≤ R.slots)
    (hq : Qx cls (h.1, 1)) (hc : cu + 1 ≤ mc) (hsm : su + 6 ≤ ms) : Ev G R (am_Φ G h0 mc ms Qr Qx) M cu su pc ls st h := by
  intro p e s m args below meth c H locs lsA hB hO hL hH hZ hS
  have hext : ∀ w ∈ am_ext, w.onTables = true := fun w hw => by
    have h2 := (List.mem_filter.mp hw).2
    simp only [Bool.and_eq_true] at h2
    exact h2.1
  refine ax_throw (A := am_A G) hB.1 hB.2.1 hO.2.2.2.1.1 x0 x1 x2 x5 hB.2.2.2.2.1 hcls hnames (hB.2.2.2.2.2.1 _ hk) (hB.2.2.2.2.2.1 _ hini) (hO.2.2.1 i _ hs) (fun w hw => ?_) (fun w hw => ?_) hO.2.2.2.2.2.2.2.2.1 hO.2.2.2.2.2.2.2.2.2.1 hS (by rw [hB.2.2.2.1]; exact hL.1) d0 d3 d4 d6 d9 (fun x hx => ?_) hfr (by rw [tv_cats]; omega) hce hsl hB.2.2.2.2.2.2.1 (fun t hvm hsz hk9 => ?_) hS.2.2 hc hsm
  · rcases hat w hw with h1 | h1
    · exact hB.2.2.2.2.2.1 _ h1
    · exact va_Nw.use (hext w h1) (hO.2.2.2.1.2.2.1 w h1)
  · rcases List.mem_cons.mp hw with rfl | hw
    · rfl
    · rcases List.mem_cons.mp hw with rfl | hw
      · rfl
      · rcases hat w hw with h1 | h1
        · simp [vx_ot, am_wg h1]
        · simp [vx_ot, hext w h1]
  · rw [hB.2.2.2.2.2.2.2.2, hh] at hx
    cases hx
  · refine ⟨⟨(h.1, 1), hq, ?_, fun z => by cases z⟩, Nat.le_trans hS.1 hsz, fun q h1 h2 => ?_⟩
    · exact va_P.kept hH (fun k q hk => hk9 _ (hH k q hk).lt)
    · rw [hk9 q (Nat.lt_of_lt_of_le h1 hS.1)]
      exact hS.2.1 q h1 h2
end EVT
section EVK
variable {G : am_G} {R : Room} {Φ : List Frame → Array Value → State → State → Prop} {M : am_M} {cu su pc : Nat} {ls : List (Option Value)} {h : am_H}
theorem evx_catch_n {E name : String} {i : Fin 4} (pre : List ExceptionTableEntry) (x : ExceptionTableEntry) (suf : List ExceptionTableEntry) (hsplit : tableOf (mh M) = pre ++ x :: suf) (hpass : ∀ z ∈ pre, covers z pc = false ∨ (z.catchType ≠ 0 ∧ E = am_iae ∧ Cond.classLink (mo M) z.catchType am_nse ∈ am_WT)) (hx : covers x pc = true) (h0 : x.catchType ≠ 0)
    (hlink : Cond.classLink (mo M) x.catchType name ∈ am_WT) (hcast : Cond.castable E name ∈ am_ext) (hd : decode (mb M) x.handlerPc = .ok (.astore_n i, 1)) (hn : (i : Nat) < mL M) (hw : am_nl ls i = true) (k : Ev G R Φ M cu su (x.handlerPc + 1) (ls.set i none) [] h) : EvX G R Φ M cu su pc ls E h := by
  intro p e s m args below meth c H locs lsA rest q ce hB hO hL hH hZ hS hcell hv hcl
  refine vx_catch hB.2.2.2.2.1 pre x suf (by rw [hB.2.2.2.2.2.2.2.2]; exact hsplit) (fun z hz => ?_) hx h0 (hB.2.2.2.2.2.1 _ hlink) (va_Nw.use rfl (hO.2.2.2.1.2.2.1 _ hcast)) hcell hv hcl ?_
  · rcases hpass z hz with h1 | ⟨h1, rfl, h2⟩
    · exact Or.inl h1
    · exact Or.inr ⟨h1, am_nse, hB.2.2.2.2.2.1 _ h2, hO.2.2.2.1.2.2.2⟩
  · exact lv_astore_n hB.1 hB.2.1 hd rfl hL.has hn rfl (fun ls' h' => k p e s m args below meth c H locs ls' hB hO (am_LS.un hw h') hH hZ hS)
theorem evx_catch {E name : String} {i : Nat} (pre : List ExceptionTableEntry) (x : ExceptionTableEntry) (suf : List ExceptionTableEntry) (hsplit : tableOf (mh M) = pre ++ x :: suf) (hpass : ∀ z ∈ pre, covers z pc = false ∨ (z.catchType ≠ 0 ∧ E = am_iae ∧ Cond.classLink (mo M) z.catchType am_nse ∈ am_WT)) (hx : covers x pc = true) (h0 : x.catchType ≠ 0)
    (hlink : Cond.classLink (mo M) x.catchType name ∈ am_WT) (hcast : Cond.castable E name ∈ am_ext) (hd : decode (mb M) x.handlerPc = .ok (.astore i, 2)) (hn : i < mL M) (hw : am_nl ls i = true) (k : Ev G R Φ M cu su (x.handlerPc + 2) (ls.set i none) [] h) : EvX G R Φ M cu su pc ls E h := by
  intro p e s m args below meth c H locs lsA rest q ce hB hO hL hH hZ hS hcell hv hcl
  refine vx_catch hB.2.2.2.2.1 pre x suf (by rw [hB.2.2.2.2.2.2.2.2]; exact hsplit) (fun z hz => ?_) hx h0 (hB.2.2.2.2.2.1 _ hlink) (va_Nw.use rfl (hO.2.2.2.1.2.2.1 _ hcast)) hcell hv hcl ?_
  · rcases hpass z hz with h1 | ⟨h1, rfl, h2⟩
    · exact Or.inl h1
    · exact Or.inr ⟨h1, am_nse, hB.2.2.2.2.2.1 _ h2, hO.2.2.2.1.2.2.2⟩
  · exact lv_astore hB.1 hB.2.1 hd hL.has hn rfl (fun ls' h' => k p e s m args below meth c H locs ls' hB hO (am_LS.un hw h') hH hZ hS)
end EVK
