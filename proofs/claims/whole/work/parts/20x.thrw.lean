section AXW
variable {p : Program} {l : Launch} {e : Env} {R : Room} {s : State} {m : MethodId} {args : Array Value} {below : List Frame} {meth : Method} {c : Code} {H : Heap} {locs : List Loc} {cells slots : Nat} {Q : State → Prop}
variable {free : Addr → Prop} {A0 A1 : Nat → Prop} {H0 : Heap} {a : Array Value} {ls : Array Slot} {st0 rest : List Value}
variable {Qc : Array Value → State → Outcome → State → Prop} {XC : String → State → State → Prop}
set_option maxHeartbeats 4000000 in
theorem ax_throwW {cc : ByteArray} {pc : Nat} (hexec : p.tables.exec = Jvm.exec) (hb : c.code = cc) (hl : l.stackTraces = false) {own cls text : String} {names : List String} {ik is ic ix mc ms sa : Nat} {rx : ByteArray} (x0 : decode rx 0 = .ok (.aload_n 0, 1)) (x1 : decode rx 1 = .ok (.aload_n 1, 1)) (x2 : decode rx 2 = .ok (.invokespecial ix, 3)) (x5 : decode rx 5 = .ok (.return_, 1)) {A : Nat → Prop}
    (hown : s.vm.findClass own = some m.cls) (hcls : Bundle.fit cls = true) (hnames : ∀ n ∈ names, Bundle.fit n = true)
    (hk : (Cond.classLink own ik cls).before args s = true) (hini : (Cond.initialized cls).before args s = true) (hstr : vk_R own is text sa s) (hat : ∀ w ∈ ax_at own ic cls ix rx names, w.before args s = true)
    (hgood : ∀ w ∈ Cond.classLink own ik cls :: Cond.initialized cls :: ax_at own ic cls ix rx names, vx_ot w = true)
    (hU : vx_Zq Bundle.tN "UNASSIGNED_STACK" Bundle.steD A s s.heap) (hN : vx_Zq Bundle.tN "SUPPRESSED_SENTINEL" Bundle.listD A s s.heap) (hS : va_S A s.heap H locs) (hsize : ls.size = c.maxLocals)
    (d0 : decode cc pc = .ok (.new ik, 3)) (d3 : decode cc (pc + 3) = .ok (.dup, 1)) (d4 : decode cc (pc + 4) = .ok (.ldc_w is, 3)) (d7 : decode cc (pc + 7) = .ok (.invokespecial ic, 3)) (d10 : decode cc (pc + 10) = .ok (.athrow, 1))
    (hout : ∀ x ∈ c.exceptionTable.toList, covers x (pc + 10) = false)
    (hRframes : names.length + 3 < R.frames) (hRlocals : (rest.map fun v => v.category).sum + (13 * (names.length + 1) + 43) ≤ R.locals) (hRcells : cells + 1 ≤ R.cells) (hRslots : slots + 6 ≤ R.slots) (hlocks : meth.locks = false)
    (hx : ∀ t : State, s.vm.Alike t.vm → H.size ≤ t.heap.size → (∀ q : Nat, q < H.size → t.heap[q]? = H[q]?) → XC cls s t)
    (hf : ∀ z ∈ locs, free z.base) (hc : cells + 1 ≤ mc) (hs : slots + 6 ≤ ms) :
    W p l e R s m args below meth c H locs cells slots (vx_MQ below Qc XC args s mc ms free) (F0 m pc ls rest) := by
  intro T hT X
  have htr : e.platform.stackTraces = false := (show e.platform.stackTraces = l.stackTraces by rw [X.admits.platform]).trans hl
  have Y := vx_rebase X (R' := { frames := R.frames, locals := R.locals, cells := 1, slots := 6 }) (Nat.le_refl _) (Nat.le_refl _) hRcells hRslots
  obtain ⟨s', hA⟩ : ∃ z, z = (T.setVm s.vm).setFrames (.invoking m args :: below) := ⟨_, rfl⟩
  rw [← hA] at Y
  have hvm : s'.vm = s.vm := by rw [hA]; rfl
  have hhp : s'.heap = H := by rw [hA]; exact hT
  have hW0 : s.WarmedH s'.vm := by rw [hvm]; exact State.WarmedH.refl s
  have hat' : ∀ w ∈ ax_at own ic cls ix rx names, w.before args s' = true := fun w hw => vx_ot_at hW0 hvm.symm (hgood w (List.mem_cons_of_mem _ (List.mem_cons_of_mem _ hw))) (hat w hw)
  have hk' : (Cond.classLink own ik cls).before args s' = true := vx_ot_at hW0 hvm.symm (hgood _ List.mem_cons_self) hk
  have hini' : (Cond.initialized cls).before args s' = true := vx_ot_at hW0 hvm.symm (hgood _ (List.mem_cons_of_mem _ List.mem_cons_self)) hini
  have hU' : vx_Zq Bundle.tN "UNASSIGNED_STACK" Bundle.steD A s' s'.heap := by rw [hhp]; exact vx_Zq.moved hW0.alike (hU.kept hS.2.1)
  have hN' : vx_Zq Bundle.tN "SUPPRESSED_SENTINEL" Bundle.listD A s' s'.heap := by rw [hhp]; exact vx_Zq.moved hW0.alike (hN.kept hS.2.1)
  have h : ∀ w ∈ Bundle.ownAtomsX own ic cls ix rx names, w.before args s' = true := vx_own hat' (vx_isRefq hU'.1) (vx_isRefq hN'.1) hU'.2.word hN'.2.word
  have hown' : s'.vm.findClass own = some m.cls := by rw [hvm]; exact hown
  have hins : (Cond.instantiable cls 6).before args s' = true := h _ (by simp [Bundle.ownAtomsX])
  obtain ⟨vm₁, cX, kX, hfX, hkX, -, -, X₁, st1⟩ := Y.newCold hexec (own := own) (C := cls) (index := ik) (n := 6) hown' hk' hins hini'
    (g := F0 m pc ls rest) rfl (by rw [hb]; exact d0) (Nat.le_refl _) (Nat.le_refl _)
  generalize hT1 : (T.setVm vm₁).pushCell { cls := cX, slots := kX.instanceTypes.map defaultValue, vm := .none } = T1 at X₁ st1
  have hcat : (Value.ref T.heap.size).category = 1 := rfl
  have hcellA : T1.heap[T.heap.size]? = some (freshCell cX kX) := by rw [← hT1]; exact State.heap_pushCell_size _ _
  have d3' : decode c.code (pc + 3) = .ok (.dup, 1) := by rw [hb]; exact d3
  have d4' : decode c.code (pc + 4) = .ok (.ldc_w is, 3) := by rw [hb]; exact d4
  have hstr' : vk_R own is text sa s' := vk_R.warm hW0 hstr
  obtain ⟨U, hsteps, hrun, hend, hW, hsame, ce, hce, hO⟩ := ax_ctor X₁ hexec htr x0 x1 x2 x5 (own := own) (cls := cls) (names := names) (ic := ic) hown' hcls hnames h (fun x hx => nomatch hx) hfX hkX hcellA (by rw [hhp, hT]; exact Nat.le_refl _) (msg := .ref sa) rfl
    (g := { method := m, pc := pc + 7, locals := ls, stack := .ref sa :: .ref T.heap.size :: .ref T.heap.size :: rest, locked := none }) rfl hsize rfl rfl (rest := rest) rfl
    (by rw [hb]; exact d7) (by rw [hb]; exact d10) hout hRframes (by simp only [List.map_cons, List.sum_cons, hcat]; omega) hlocks
  obtain ⟨f1, f2⟩ := vx_frame hsame
  rw [hhp] at f1 f2
  have hWs : s.WarmedH U.vm := State.WarmedH.trans hW0 hW
  have hcl : s.vm.findClass cls = some ce.cls := by
    have h9 := hO.cls
    rw [hvm] at h9
    exact h9
  have hall : s.sameButNew ({ U with vm := s.vm } : State) locs mc ms := by
    subst hA
    obtain ⟨e1, e2⟩ := hsame
    rw [State.setFrames_setFrames] at e1
    have h2 : (T.setVm s.vm).sameButNew ({ U with vm := s.vm } : State) [] (0 + 1) (0 + 6) := ⟨e1, e2⟩
    have h3 := X.same.trans h2
    rw [List.append_nil] at h3
    exact h3.mono hc hs
  refine ⟨U, ?_, .threw T.heap.size, hrun, hend, Or.inr ⟨T.heap.size, rfl, cls, ce, locs, hx U hWs.alike f1 (fun q hq => f2 q hq (fun z hz => nomatch hz)), hce, hO.vm, hcl, hWs, hall, hf⟩⟩
  refine st1 _ ?_
  show Steps p.tables e below (T1.setTop { method := m, pc := pc + 3, locals := ls, stack := .ref T.heap.size :: rest, locked := none }) _
  jvm_step X₁.here [X₁.here.top, hexec, d3', Value.category]
  exact X₁.ldcStringW hexec (own := own) (text := text) (index := is) (a := sa) hown' hstr'.1 hstr'.2
    (g := { method := m, pc := pc + 4, locals := ls, stack := .ref T.heap.size :: .ref T.heap.size :: rest, locked := none }) rfl d4' _ hsteps
end AXW
section EVTW
variable {G : am_G} {R : Room} {M : am_M} {cu su pc mc ms : Nat} {ls : List (Option Value)} {st : List Value} {h h0 : am_H} {Qr : Option Value → am_H → Prop} {Qx : String → am_H → Prop}
/-- 'throw new E("text")', uncaught here -/
theorem ev_throwW {cls tx : String} {names : List String} {ik is ic ix : Nat} {rx : ByteArray} (i : Nat) (d0 : decode (mb M) pc = .ok (.new ik, 3)) (d3 : decode (mb M) (pc + 3) = .ok (.dup, 1)) (d4 : decode (mb M) (pc + 4) = .ok (.ldc_w is, 3)) (d6 : decode (mb M) (pc + 7) = .ok (.invokespecial ic, 3)) (d9 : decode (mb M) (pc + 10) = .ok (.athrow, 1))
    (x0 : decode rx 0 = .ok (.aload_n 0, 1)) (x1 : decode rx 1 = .ok (.aload_n 1, 1)) (x2 : decode rx 2 = .ok (.invokespecial ix, 3)) (x5 : decode rx 5 = .ok (.return_, 1)) (hcls : Bundle.fit cls = true) (hnames : ∀ n ∈ names, Bundle.fit n = true)
    (hk : Cond.classLink (mo M) ik cls ∈ am_WT) (hini : Cond.initialized cls ∈ am_WT) (hs : am_strs[i]? = some (mo M, is, tx)) (hat : ∀ w ∈ ax_at (mo M) ic cls ix rx names, w ∈ am_WT ∨ w ∈ am_ext) (hh : mh M = []) (hfr : names.length + 3 < R.frames) (hlo : 8 + (13 * (names.length + 1) + 43) ≤ R.locals) (hst : (st.map fun v => v.category).sum ≤ 8) (hce : cu + 1 ≤ R.cells) (hsl : su + 6 ≤ R.slots)
    (hq : Qx cls (h.1, 1)) (hc : cu + 1 ≤ mc) (hsm : su + 6 ≤ ms) : Ev G R (am_Φ G h0 mc ms Qr Qx) M cu su pc ls st h := by
  intro p e s m args below meth c H locs lsA hB hO hL hH hZ hS
  have hext : ∀ w ∈ am_ext, w.onTables = true := fun w hw => by
    have h2 := (List.mem_filter.mp hw).2
    simp only [Bool.and_eq_true] at h2
    exact h2.1
  refine ax_throwW (A := am_A G) hB.1 hB.2.1 hO.2.2.2.1.1 x0 x1 x2 x5 hB.2.2.2.2.1 hcls hnames (hB.2.2.2.2.2.1 _ hk) (hB.2.2.2.2.2.1 _ hini) (hO.2.2.1 i _ hs) (fun w hw => ?_) (fun w hw => ?_) hO.2.2.2.2.2.2.2.2.1 hO.2.2.2.2.2.2.2.2.2.1 hS (by rw [hB.2.2.2.1]; exact hL.1) d0 d3 d4 d6 d9 (fun x hx => ?_) hfr (by rw [tv_cats]; omega) hce hsl hB.2.2.2.2.2.2.1 (fun t hvm hsz hk9 => ?_) hS.2.2 hc hsm
  · rcases hat w hw with h1 | h1
    · exact hB.2.2.2.2.2.1 _ h1
    · exact va_Nw.use (hext w h1) (hO.2.2.2.1.2.2.1 w h1)
  · rcases List.mem_cons.mp hw with rfl | hw
    · rfl
    · rcases List.mem_cons.mp hw with rfl | hw
      · rfl
      · rcases hat w hw with h1 | h1
        · simp [vx_ot, am_wg h1]
        · simp [vx_ot, hext w h1]
  · rw [hB.2.2.2.2.2.2.2.2, hh] at hx
    cases hx
  · refine ⟨⟨(h.1, 1), hq, ?_, fun z => by cases z⟩, Nat.le_trans hS.1 hsz, fun q h1 h2 => ?_⟩
    · exact va_P.kept hH (fun k q hk => hk9 _ (hH k q hk).lt)
    · rw [hk9 q (Nat.lt_of_lt_of_le h1 hS.1)]
      exact hS.2.1 q h1 h2
end EVTW
theorem es_thrW0 {G : am_G} {D : Nat} {M : am_M} {pc is : Nat} {ls : List (Option Value)} {st : List Value} {S : am_S} {h0 : am_H} {Qr : Option Value → am_H → Prop} {tx : String} (i : Nat) (d0 : decode (mb M) pc = .ok (.new 159, 3)) (d3 : decode (mb M) (pc + 3) = .ok (.dup, 1)) (d4 : decode (mb M) (pc + 4) = .ok (.ldc_w is, 3)) (d6 : decode (mb M) (pc + 7) = .ok (.invokespecial 163, 3)) (d9 : decode (mb M) (pc + 10) = .ok (.athrow, 1)) (hmo : mo M = RX9) (hs : am_strs[i]? = some (RX9, is, tx)) (hh : mh M = []) (hst : (st.map fun v => v.category).sum ≤ 8) (hD : 7 ≤ D) : Ev G (am_R D (t_c (.inr 0, S)) (t_s (.inr 0, S))) (am_Φ G h0 (t_c (.inr 0, S)) (t_s (.inr 0, S)) Qr (q_tx (.inr 0, S))) M 0 0 pc ls st (hp S) := by
  have hcl : Cond.classLink (mo M) 159 am_nse ∈ am_WT := by rw [hmo]; exact w_1101
  have hat : ∀ w ∈ ax_at (mo M) 163 am_nse 13 prog_34_method_4_code am_up2, w ∈ am_WT ∨ w ∈ am_ext := by rw [hmo]; exact x0_at
  have hst9 : am_strs[i]? = some (mo M, is, tx) := by rw [hmo]; exact hs
  have hfr : am_up2.length + 3 < (am_R D (t_c (.inr 0, S)) (t_s (.inr 0, S))).frames := by show 2 + 3 < D; omega
  have hlo : 8 + (13 * (am_up2.length + 1) + 43) ≤ (am_R D (t_c (.inr 0, S)) (t_s (.inr 0, S))).locals := by show 8 + (13 * (2 + 1) + 43) ≤ 64 * D; omega
  exact ev_throwW (cls := am_nse) (names := am_up2) (ik := 159) (ic := 163) (ix := 13) (rx := prog_34_method_4_code) i d0 d3 d4 d6 d9 x0_0 x0_1 x0_2 x0_5 x0_f xn_f hcl w_28 hst9 hat hh hfr hlo hst (Nat.le_refl 1) (Nat.le_refl 6) ⟨0, rfl, xe_0, hp_eta S⟩ (Nat.le_refl 1) (Nat.le_refl 6)
theorem es_thrW1 {G : am_G} {D : Nat} {M : am_M} {pc is : Nat} {ls : List (Option Value)} {st : List Value} {S : am_S} {h0 : am_H} {Qr : Option Value → am_H → Prop} {tx : String} (i : Nat) (d0 : decode (mb M) pc = .ok (.new 98, 3)) (d3 : decode (mb M) (pc + 3) = .ok (.dup, 1)) (d4 : decode (mb M) (pc + 4) = .ok (.ldc_w is, 3)) (d6 : decode (mb M) (pc + 7) = .ok (.invokespecial 102, 3)) (d9 : decode (mb M) (pc + 10) = .ok (.athrow, 1)) (hmo : mo M = RX9) (hs : am_strs[i]? = some (RX9, is, tx)) (hh : mh M = []) (hst : (st.map fun v => v.category).sum ≤ 8) (hD : 7 ≤ D) : Ev G (am_R D (t_c (.inr 1, S)) (t_s (.inr 1, S))) (am_Φ G h0 (t_c (.inr 1, S)) (t_s (.inr 1, S)) Qr (q_tx (.inr 1, S))) M 0 0 pc ls st (hp S) := by
  have hcl : Cond.classLink (mo M) 98 am_iae ∈ am_WT := by rw [hmo]; exact w_829
  have hat : ∀ w ∈ ax_at (mo M) 102 am_iae 7 prog_20_method_2_code am_up2, w ∈ am_WT ∨ w ∈ am_ext := by rw [hmo]; exact x1_at
  have hst9 : am_strs[i]? = some (mo M, is, tx) := by rw [hmo]; exact hs
  have hfr : am_up2.length + 3 < (am_R D (t_c (.inr 1, S)) (t_s (.inr 1, S))).frames := by show 2 + 3 < D; omega
  have hlo : 8 + (13 * (am_up2.length + 1) + 43) ≤ (am_R D (t_c (.inr 1, S)) (t_s (.inr 1, S))).locals := by show 8 + (13 * (2 + 1) + 43) ≤ 64 * D; omega
  exact ev_throwW (cls := am_iae) (names := am_up2) (ik := 98) (ic := 102) (ix := 7) (rx := prog_20_method_2_code) i d0 d3 d4 d6 d9 x1_0 x1_1 x1_2 x1_5 x1_f xn_f hcl w_12 hst9 hat hh hfr hlo hst (Nat.le_refl 1) (Nat.le_refl 6) ⟨1, rfl, xe_1, hp_eta S⟩ (Nat.le_refl 1) (Nat.le_refl 6)
