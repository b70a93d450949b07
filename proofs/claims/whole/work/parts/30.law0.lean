/-! THE CLAIM OUT OF ONE WALK OF THE LAW'S BODY. Your part is whole_start (and what it stands on); all else here is the same for every law, but numbers. -/
def R_law : String := "SlotMatLaw"
def lw_P (b : Addr) (xs : List Int32) (args : Array Value) (s : State) : Prop := args = #[.ref b] ∧ s.IntsAt b xs ∧ xs.length ≤ 3072 ∧ (Jvm.Cond.and given_1 narrow_1).before args s = true
def lw_Q (_ : Array Value) (s : State) (o : Outcome) (t : State) : Prop := o = .returned (some (.int 1)) ∧ Framed s o t [] 601024 7293033
def lw_Z (below : List Frame) (a : Array Value) (s : State) : State → Prop := fun t => ∃ o, t.status = .running ∧ Ended t below o ∧ lw_Q a s o t
/-- the law's own end, with 1 on the stack, nothing written that was there before, its room as the claim has it -/
theorem lw_ret {p : Program} {l : Launch} {e : Env} {s : State} {m : MethodId} {below : List Frame} {meth : Method} {c : Code} {b : Nat} (hx : p.tables.exec = Jvm.exec) (hb : c.code = code) (hr : meth.sig.returnType = ret) (hlocks : meth.locks = false) {pc : Nat} {H : Heap} {ls : Array Slot} (hdg : decode code pc = .ok (.ireturn, 1)) : W p l e room_1 s m #[Value.ref b] below meth c H [] 601024 7293033 (lw_Z below #[Value.ref b] s) (F0 m pc ls [.int 1]) := by
  intro T hT X
  obtain ⟨fs, hret, hrun, hended, hW, hframe⟩ := X.leave (v := some (.int 1)) (hlocks := hlocks) (fun h => by rw [hr] at h; cases h)
  have hmeth' : T.vm.method? m = some meth := X.method'
  refine ⟨T.setFrames fs, ?_, .returned (some (.int 1)), hrun, hended, rfl, ⟨_, rfl⟩, hW, hframe⟩
  jvm_step X.here [X.here.top, hx, hb, hdg, hmeth', hr, ret, narrow_b1]
  (try refine ⟨rfl, ?_⟩); (try refine ⟨rfl, ?_⟩)
  first | (intro acts; rw [hret _ acts rfl rfl rfl]) | rw [hret _ _ rfl rfl rfl]
  exact Steps.refl _
/-- what holds at the law's entry: the machine, the code, the tables' words (any of lw_tbl by 'hts w (by decide +kernel)'), the script of L ints xs at the cell b, what the Statement gives of the start (any of its parts by flat_of_before) -/
def lw_At (p : Program) (s : State) (m : MethodId) (meth : Method) (c : Code) (b L : Nat) (xs : Nat → Int32) : Prop :=
  p.tables.exec = Jvm.exec ∧ c.code = code ∧ meth.sig.returnType = ret ∧ c.maxLocals = 7 ∧ s.vm.findClass R_law = some m.cls ∧ (∀ w ∈ lw_tbl, w.before #[Value.ref b] s = true) ∧ va_X b L xs s s.heap ∧ b < s.heap.size ∧ meth.locks = false ∧ (Jvm.Cond.and given_1 narrow_1).before #[Value.ref b] s = true
def m_law : am_M := (RL, x, code, 7, ret, [])
/-- the law's end, where the base is the heap's size at its entry -/
def LZ (G : am_G) : List Frame → Array Value → State → State → Prop := fun below args s t => args = #[Value.ref (gS G 1001)] → s.heap.size = gB G → lw_Z below args s t
theorem ev_lawret {G : am_G} {cu su pc : Nat} {ls : List (Option Value)} {h : am_H} (hd : decode code pc = .ok (.ireturn, 1)) (hc : cu ≤ 601024) (hs : su ≤ 7293033) : Ev G room_1 (LZ G) m_law cu su pc ls [.int 1] h := by
  intro p e s m args below meth c H locs lsA hB hO hL hH hZ hS
  by_cases hA : args = #[Value.ref (gS G 1001)] ∧ s.heap.size = gB G
  · obtain ⟨rfl, hz⟩ := hA
    refine va_forget (fun q hq => by have := hS.2.2 q hq; rw [hz]; exact this) ?_
    refine W.widen hc hs ?_
    intro T hT X
    obtain ⟨t, a1, b1⟩ := lw_ret hB.1 hB.2.1 hB.2.2.1 hB.2.2.2.2.2.2.1 hd T hT X
    exact ⟨t, a1, fun _ _ => b1⟩
  · intro T hT X
    exact ⟨_, Steps.refl _, fun h1 h2 => absurd ⟨h1, h2⟩ hA⟩
theorem fitL {d : Nat} (h : d ≤ 100) : am_fit room_1 d := by
  refine ⟨?_, ?_⟩
  · show d + 1 ≤ 2048
    omega
  · show 64 * (d + 1) ≤ 84000
    omega
theorem q9_0 : isC 9 0 = true := by decide +kernel
theorem q10_78 : isC 10 78 = true := by decide +kernel
theorem qA_108 : isAr 4 108 = true := by decide +kernel
theorem es_callW {G : am_G} {R : Room} {Φ : List Frame → Array Value → State → State → Prop} {M : am_M} {cu su pc : Nat} {ls : List (Option Value)} {st st0 : List Value} {S S' : am_S} {K : am_M} {idx n d : Nat} {As : List Value} {r : Int32} (hM : am_MetW G d K 1 6 As (hp S) (q_i (r, S')) q_n) (hd : decode (mb M) pc = .ok (.invokestatic idx, 3)) (ok : am_okW K n) (hw : Cond.methodLink (mo M) idx (my K) ∈ am_WT) (hn : As.length = n) (hst : (st.map fun v => v.category).sum ≤ 8) (hst0 : st0 = As.reverse ++ st) (hf : am_fit R d) (hcs : cu + 1 ≤ R.cells ∧ su + 6 ≤ R.slots) (kk : Ev G R Φ M (cu + 1) (su + 6) (pc + 3) ls (.int r :: st) (hp S')) : Ev G R Φ M cu su pc ls st0 (hp S) := by
  refine ev_invSW hM hd ok hw hn hst hst0 hf hcs (fun v h' hq => ?_)
  obtain ⟨rfl, rfl⟩ := hq
  exact kk
