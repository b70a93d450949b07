/-- the string constants of the classes: class, entry, text -/
def am_strs : List (String × Nat × String) := [("SlotMat", 100, "the tape has not so many bytes"), ("SlotMat$CityReader", 55, "box"), ("SlotMat$CityReader", 64, "person"), ("SlotMat$CityReader", 116, "at"), ("SlotMat$CityReader", 69, "round"), ("SlotMat$CityReader", 74, "wet"), ("SlotMat$CityReader", 79, "thinks"), ("SlotMat$RuleReader", 81, "not"), ("SlotMat$RuleReader", 102, "pensive"), ("SlotMat$RuleReader", 104, "regret"), ("SlotMat$RuleReader", 106, "heard"), ("SlotMat$RuleReader", 108, "red"), ("SlotMat$RuleReader", 110, "held"), ("SlotMat$RuleReader", 112, "day"), ("SlotMat$RuleReader", 114, "much"), ("SlotMat$RuleReader", 116, "far"), ("SlotMat$RuleReader", 118, "wet"), ("SlotMat$RuleReader", 135, "or"), ("SlotMat$RuleReader", 137, "and"), ("SlotMat$CityReader", 88, "sounds"), ("SlotMat", 161, "no such what"), ("SlotMat", 363, "no such box"), ("SlotMat", 365, "no such person"), ("SlotMat", 367, "a number is out of its range"), ("SlotMat", 327, "both are one")]
/-! what is frozen below the base: classes, links of nest mates, string constants, static rows, the script -/
def am_isNest (w : Cond) : Bool := match w with
  | .fieldLinkNest _ _ _ _ _ _ => true
  | .methodLinkNest _ _ _ _ => true
  | _ => false
def am_nest : List Cond := lw_tbl.filter am_isNest
def am_ext : List Cond := lw_tbl.filter (fun w => w.onTables && w.keepsFace)
def am_pre0 : String := "jdk/internal/util/Preconditions"
def am_iae : String := "java/lang/IllegalArgumentException"
def am_nse : String := "java/util/NoSuchElementException"
def am_tb (t : String) : List Int32 := t.toList.map (fun c => nI c.toNat)
def am_rank : List Int32 := [0, 1, 2, 3, 4, 4, 5, 5, 6, 6]
def am_Z (G : am_G) (U : State) (H : Heap) : Prop :=
  (∀ (i : Nat) (t : String × Nat × String), am_strs[i]? = some t → va_O "java/lang/String" (gS G i) (am_A G) U H ∧ va_OF "java/lang/String" "coder" "B" (.int 0) (gS G i) (am_A G) U H ∧ va_OF "java/lang/String" "value" "[B" (.ref (gS G (100 + i))) (gS G i) (am_A G) U H ∧ va_T .byte (gS G (100 + i)) t.2.2.length (fun j => .int ((am_tb t.2.2).getD j 0)) (am_A G) U H) ∧
  va_Z RX6 "RANK" "[I" (.ref (gS G 1000)) (am_A G) U H ∧ va_T .int (gS G 1000) 10 (fun j => .int (am_rank.getD j 0)) (am_A G) U H ∧
  va_Z "java/lang/String" "COMPACT_STRINGS" "Z" (.int 1) (am_A G) U H ∧
  vx_Zq Bundle.tN "UNASSIGNED_STACK" Bundle.steD (am_A G) U H ∧ vx_Zq Bundle.tN "SUPPRESSED_SENTINEL" Bundle.listD (am_A G) U H ∧
  va_T .int (gS G 1001) (gN G) (fun j => .int (gX G j)) (am_A G) U H ∧
  (va_Z am_pre0 "SIOOBE_FORMATTER" "Ljava/util/function/BiFunction;" .null (am_A G) U H ∨ va_Z am_pre0 "SIOOBE_FORMATTER" "Ljava/util/function/BiFunction;" (.ref (gS G 1002)) (am_A G) U H)
def am_O (G : am_G) (U : State) (H : Heap) : Prop :=
  va_K (gD G) am_cl (am_tys G) U ∧ (∀ w ∈ am_nest, va_Nw w U) ∧ (∀ (i : Nat) (t : String × Nat × String), am_strs[i]? = some t → vk_R t.1 t.2.1 t.2.2 (gS G i) U) ∧ ((gL G).stackTraces = false ∧ va_AO RX7 U ∧ (∀ w ∈ am_ext, va_Nw w U) ∧ va_Nc am_iae am_nse U) ∧ am_Z G U H
theorem am_Z.moved {G : am_G} {u U : State} {H : Heap} (hvm : u.vm.Alike U.vm) (h : am_Z G u H) : am_Z G U H := by
  obtain ⟨h1, h2, h3, h4, h5, h6, h7, h8⟩ := h
  exact ⟨fun i t ht => ⟨(h1 i t ht).1.moved hvm, (h1 i t ht).2.1.moved hvm, (h1 i t ht).2.2.1.moved hvm, (h1 i t ht).2.2.2.moved hvm⟩, h2.moved hvm, h3.moved hvm, h4.moved hvm, h5.moved hvm, h6.moved hvm, h7.moved hvm, h8.elim (fun q => Or.inl (q.moved hvm)) (fun q => Or.inr (q.moved hvm))⟩
theorem am_Z.kept {G : am_G} {U : State} {H H1 : Heap} (h : am_Z G U H) (hq : ∀ a : Nat, a < H.size → ¬ am_A G a → H1[a]? = H[a]?) : am_Z G U H1 := by
  obtain ⟨h1, h2, h3, h4, h5, h6, h7, h8⟩ := h
  exact ⟨fun i t ht => ⟨(h1 i t ht).1.kept hq, (h1 i t ht).2.1.kept hq, (h1 i t ht).2.2.1.kept hq, (h1 i t ht).2.2.2.kept hq⟩, h2.kept hq, h3.kept hq, h4.kept hq, h5.kept hq, h6.kept hq, h7.kept hq, h8.elim (fun z => Or.inl (z.kept hq)) (fun z => Or.inr (z.kept hq))⟩
theorem am_nest_warm {s U : State} (hW : s.WarmedH U.vm) (h : ∀ w ∈ am_nest, va_Nw w s) : ∀ w ∈ am_nest, va_Nw w U := by
  intro w hw
  have h1 := h w hw
  have h2 := (List.mem_filter.mp hw).2
  cases w <;> first | exact va_Nw.warmF hW h1 | exact va_Nw.warmM hW h1 | cases h2
theorem am_nest_same {s U : State} (hv : s.vm = U.vm) (h : ∀ w ∈ am_nest, va_Nw w s) : ∀ w ∈ am_nest, va_Nw w U := by
  intro w hw
  have h1 := h w hw
  have h2 := (List.mem_filter.mp hw).2
  cases w <;> first | exact va_Nw.same rfl hv h1 | cases h2
theorem am_ext_warm {s U : State} (hW : s.WarmedH U.vm) (h : ∀ w ∈ am_ext, va_Nw w s) : ∀ w ∈ am_ext, va_Nw w U := by
  intro w hw
  have h2 := (List.mem_filter.mp hw).2
  simp only [Bool.and_eq_true] at h2
  exact va_tabs h2.1 (rfl : (s.setVm U.vm).vm = U.vm) (Cond.before_shiftedFace (State.Shifted.of_warmed hW) w h2.2 (h w hw))
theorem am_ext_same {s U : State} (hv : s.vm = U.vm) (h : ∀ w ∈ am_ext, va_Nw w s) : ∀ w ∈ am_ext, va_Nw w U := by
  intro w hw
  have h2 := (List.mem_filter.mp hw).2
  simp only [Bool.and_eq_true] at h2
  exact va_Nw.same h2.1 hv (h w hw)
theorem am_O.warm {G : am_G} {s U : State} {H : Heap} (hW : s.WarmedH U.vm) (h : am_O G s H) : am_O G U H :=
  ⟨h.1.moved hW.alike, am_nest_warm hW h.2.1, fun i t ht => (h.2.2.1 i t ht).warm hW, ⟨h.2.2.2.1.1, h.2.2.2.1.2.1.moved hW.alike, am_ext_warm hW h.2.2.2.1.2.2.1, h.2.2.2.1.2.2.2.moved hW.alike⟩, h.2.2.2.2.moved hW.alike⟩
theorem am_O.same {G : am_G} {s U : State} {H : Heap} (hv : U.vm = s.vm) (h : am_O G s H) : am_O G U H :=
  ⟨h.1.moved (by rw [hv]; exact Vm.Alike.refl _), am_nest_same hv.symm h.2.1, fun i t ht => (h.2.2.1 i t ht).same hv, ⟨h.2.2.2.1.1, h.2.2.2.1.2.1.moved (by rw [hv]; exact Vm.Alike.refl _), am_ext_same hv.symm h.2.2.2.1.2.2.1, h.2.2.2.1.2.2.2.moved (by rw [hv]; exact Vm.Alike.refl _)⟩, h.2.2.2.2.moved (by rw [hv]; exact Vm.Alike.refl _)⟩
theorem am_O.kept {G : am_G} {U : State} {H H1 : Heap} (h : am_O G U H) (hq : ∀ a : Nat, a < H.size → ¬ am_A G a → H1[a]? = H[a]?) : am_O G U H1 :=
  ⟨h.1, h.2.1, h.2.2.1, h.2.2.2.1, h.2.2.2.2.kept hq⟩
/-! words -/
def am_WT : List Cond := lw_tbl.filter goodWord
theorem am_wt {w : Cond} (h : w ∈ lw_tbl) (g : goodWord w = true) : w ∈ am_WT := List.mem_filter.mpr ⟨h, g⟩
theorem am_wg {w : Cond} (h : w ∈ am_WT) : goodWord w = true := (List.mem_filter.mp h).2
/-- a method: class, name, bytes, locals, answer, handlers -/
abbrev am_M : Type := String × MethodName × ByteArray × Nat × Option FieldType × List (Nat × Nat × Nat × Nat)
def mo (M : am_M) : String := M.1
def my (M : am_M) : MethodName := M.2.1
def mb (M : am_M) : ByteArray := M.2.2.1
def mL (M : am_M) : Nat := M.2.2.2.1
def mr (M : am_M) : Option FieldType := M.2.2.2.2.1
def mh (M : am_M) : List (Nat × Nat × Nat × Nat) := M.2.2.2.2.2
def am_ws (M : am_M) : List Cond := Cond.code (my M) (mb M) (mL M) (mr M) :: am_WT
def am_R (d mc ms : Nat) : Room := { frames := d, cells := mc, slots := ms, locals := 64 * d }
def am_B (M : am_M) (p : Program) (s : State) (m : MethodId) (args : Array Value) (meth : Method) (c : Code) : Prop :=
  p.tables.exec = Jvm.exec ∧ c.code = mb M ∧ meth.sig.returnType = mr M ∧ c.maxLocals = mL M ∧ s.vm.findClass (mo M) = some m.cls ∧ (∀ w ∈ am_WT, w.before args s = true) ∧ meth.locks = false ∧ meth.name = (my M).name ∧ c.exceptionTable.toList = tableOf (mh M)
/-- the judgement -/
def Ev (G : am_G) (R : Room) (Φ : List Frame → Array Value → State → State → Prop) (M : am_M) (cu su pc : Nat) (ls : List (Option Value)) (st : List Value) (h : am_H) : Prop :=
  ∀ (p : Program) (e : Env) (s : State) (m : MethodId) (args : Array Value) (below : List Frame) (meth : Method) (c : Code) (H : Heap) (locs : List Loc) (lsA : Array Slot),
    am_B M p s m args meth c → am_O G s s.heap → am_LS G lsA (mL M) ls → am_L G h H → am_sz G h s cu → va_S (am_A G) s.heap H locs →
    W p (gL G) e R s m args below meth c H locs cu su (Φ below args s) (F0 m pc lsA (st.map (tv G)))
/-- an exception of class E over the frame at pc -/
def EvX (G : am_G) (R : Room) (Φ : List Frame → Array Value → State → State → Prop) (M : am_M) (cu su pc : Nat) (ls : List (Option Value)) (E : String) (h : am_H) : Prop :=
  ∀ (p : Program) (e : Env) (s : State) (m : MethodId) (args : Array Value) (below : List Frame) (meth : Method) (c : Code) (H : Heap) (locs : List Loc) (lsA : Array Slot) (rest : List Value) (q : Addr) (ce : Cell),
    am_B M p s m args meth c → am_O G s s.heap → am_LS G lsA (mL M) ls → am_L G h H → am_sz G h s cu → va_S (am_A G) s.heap H locs → H[q]? = some ce → ce.vm = .none → s.vm.findClass E = some ce.cls →
    vx_W p (gL G) e R s m args below meth c H locs cu su (Φ below args s) (F0 m pc lsA rest) q
/-- a method's ends -/
def am_Qc (G : am_G) (h0 : am_H) (mc : Nat) (Qr : Option Value → am_H → Prop) : Array Value → State → Outcome → State → Prop := fun _ st o t =>
  (∃ (v : Option Value) (h : am_H), o = .returned (v.map (tv G)) ∧ Qr v h ∧ am_L G h t.heap ∧ (h.2 = 0 → h0.2 = 0 ∧ st.heap.size + mc = gB G + h.1.length)) ∧ va_F (am_A G) st t
def am_Xc (G : am_G) (Qx : String → am_H → Prop) : String → State → State → Prop := fun E st t =>
  (∃ h : am_H, Qx E h ∧ am_L G h t.heap ∧ ¬ h.2 = 0) ∧ va_F (am_A G) st t
def am_Pc (G : am_G) (as : List Value) (h : am_H) : Array Value → State → Prop := va_Pc (as.map (tv G)) (fun U => am_O G U U.heap ∧ am_L G h U.heap ∧ am_sz G h U 0)
def am_Φ (G : am_G) (h0 : am_H) (mc ms : Nat) (Qr : Option Value → am_H → Prop) (Qx : String → am_H → Prop) : List Frame → Array Value → State → State → Prop := fun below args s => vx_MQ below (am_Qc G h0 mc Qr) (am_Xc G Qx) args s mc ms (am_A G)
def am_Met (G : am_G) (d : Nat) (M : am_M) (mc ms : Nat) (as : List Value) (h : am_H) (Qr : Option Value → am_H → Prop) (Qx : String → am_H → Prop) : Prop :=
  vx_Met (gL G) (my M) (am_ws M) (am_R d mc ms) (am_Pc G as h) (am_Qc G h mc Qr) (am_Xc G Qx) mc ms (am_A G)
theorem am_Pc_blind {G : am_G} {as : List Value} {h : am_H} : FrameBlind (am_Pc G as h) := fun a U g mk q => ⟨q.1, am_O.same (s := U) rfl q.2.1, q.2.2⟩
section EVA
variable {G : am_G} {R : Room} {Φ : List Frame → Array Value → State → State → Prop} {M : am_M} {cu su pc : Nat} {ls : List (Option Value)} {st : List Value} {h : am_H}
theorem ev_iadd {x y : Int32} (hd : decode (mb M) pc = .ok (.iadd, 1)) (k : Ev G R Φ M cu su (pc + 1) ls (.int (x + y) :: st) h) : Ev G R Φ M cu su pc ls (.int y :: .int x :: st) h := by
  intro p e s m args below meth c H locs lsA hB hO hL hH hZ hS
  exact lv_iadd hB.1 hB.2.1 hd (k p e s m args below meth c H locs lsA hB hO hL hH hZ hS)
theorem ev_isub {x y : Int32} (hd : decode (mb M) pc = .ok (.isub, 1)) (k : Ev G R Φ M cu su (pc + 1) ls (.int (x - y) :: st) h) : Ev G R Φ M cu su pc ls (.int y :: .int x :: st) h := by
  intro p e s m args below meth c H locs lsA hB hO hL hH hZ hS
  exact lv_isub hB.1 hB.2.1 hd (k p e s m args below meth c H locs lsA hB hO hL hH hZ hS)
theorem ev_imul {x y : Int32} (hd : decode (mb M) pc = .ok (.imul, 1)) (k : Ev G R Φ M cu su (pc + 1) ls (.int (x * y) :: st) h) : Ev G R Φ M cu su pc ls (.int y :: .int x :: st) h := by
  intro p e s m args below meth c H locs lsA hB hO hL hH hZ hS
  exact lv_imul hB.1 hB.2.1 hd (k p e s m args below meth c H locs lsA hB hO hL hH hZ hS)
theorem ev_iand {x y : Int32} (hd : decode (mb M) pc = .ok (.iand, 1)) (k : Ev G R Φ M cu su (pc + 1) ls (.int (x &&& y) :: st) h) : Ev G R Φ M cu su pc ls (.int y :: .int x :: st) h := by
  intro p e s m args below meth c H locs lsA hB hO hL hH hZ hS
  exact lv_iand hB.1 hB.2.1 hd (k p e s m args below meth c H locs lsA hB hO hL hH hZ hS)
theorem ev_ior {x y : Int32} (hd : decode (mb M) pc = .ok (.ior, 1)) (k : Ev G R Φ M cu su (pc + 1) ls (.int (x ||| y) :: st) h) : Ev G R Φ M cu su pc ls (.int y :: .int x :: st) h := by
  intro p e s m args below meth c H locs lsA hB hO hL hH hZ hS
  exact lv_ior hB.1 hB.2.1 hd (k p e s m args below meth c H locs lsA hB hO hL hH hZ hS)
theorem ev_ixor {x y : Int32} (hd : decode (mb M) pc = .ok (.ixor, 1)) (k : Ev G R Φ M cu su (pc + 1) ls (.int (x ^^^ y) :: st) h) : Ev G R Φ M cu su pc ls (.int y :: .int x :: st) h := by
  intro p e s m args below meth c H locs lsA hB hO hL hH hZ hS
  exact lv_ixor hB.1 hB.2.1 hd (k p e s m args below meth c H locs lsA hB hO hL hH hZ hS)
theorem ev_ishl {x y : Int32} (hd : decode (mb M) pc = .ok (.ishl, 1)) (k : Ev G R Φ M cu su (pc + 1) ls (.int (x <<< (y &&& 31)) :: st) h) : Ev G R Φ M cu su pc ls (.int y :: .int x :: st) h := by
  intro p e s m args below meth c H locs lsA hB hO hL hH hZ hS
  exact lv_ishl hB.1 hB.2.1 hd (k p e s m args below meth c H locs lsA hB hO hL hH hZ hS)
theorem ev_ishr {x y : Int32} (hd : decode (mb M) pc = .ok (.ishr, 1)) (k : Ev G R Φ M cu su (pc + 1) ls (.int (x >>> (y &&& 31)) :: st) h) : Ev G R Φ M cu su pc ls (.int y :: .int x :: st) h := by
  intro p e s m args below meth c H locs lsA hB hO hL hH hZ hS
  exact lv_ishr hB.1 hB.2.1 hd (k p e s m args below meth c H locs lsA hB hO hL hH hZ hS)
theorem ev_idiv {x y : Int32} (hd : decode (mb M) pc = .ok (.idiv, 1)) (hne : ¬ y = 0) (k : Ev G R Φ M cu su (pc + 1) ls (.int (x / y) :: st) h) : Ev G R Φ M cu su pc ls (.int y :: .int x :: st) h := by
  intro p e s m args below meth c H locs lsA hB hO hL hH hZ hS
  exact lv_idiv hB.1 hB.2.1 hd hne (k p e s m args below meth c H locs lsA hB hO hL hH hZ hS)
theorem ev_irem {x y : Int32} (hd : decode (mb M) pc = .ok (.irem, 1)) (hne : ¬ y = 0) (k : Ev G R Φ M cu su (pc + 1) ls (.int (x - x / y * y) :: st) h) : Ev G R Φ M cu su pc ls (.int y :: .int x :: st) h := by
  intro p e s m args below meth c H locs lsA hB hO hL hH hZ hS
  exact lv_irem hB.1 hB.2.1 hd hne (k p e s m args below meth c H locs lsA hB hO hL hH hZ hS)
theorem ev_iushr {x y : Int32} (hd : decode (mb M) pc = .ok (.iushr, 1)) (k : Ev G R Φ M cu su (pc + 1) ls (.int ((x.toUInt32 >>> (y.toUInt32 &&& Int32.toUInt32 31)).toInt32) :: st) h) : Ev G R Φ M cu su pc ls (.int y :: .int x :: st) h := by
  intro p e s m args below meth c H locs lsA hB hO hL hH hZ hS
  exact lv_iushr hB.1 hB.2.1 hd rfl (k p e s m args below meth c H locs lsA hB hO hL hH hZ hS)
theorem ev_lsub {x y : Int64} (hd : decode (mb M) pc = .ok (.lsub, 1)) (k : Ev G R Φ M cu su (pc + 1) ls (.long (x - y) :: st) h) : Ev G R Φ M cu su pc ls (.long y :: .long x :: st) h := by
  intro p e s m args below meth c H locs lsA hB hO hL hH hZ hS
  exact lv_lsub hB.1 hB.2.1 hd (k p e s m args below meth c H locs lsA hB hO hL hH hZ hS)
theorem ev_lor {x y : Int64} (hd : decode (mb M) pc = .ok (.lor, 1)) (k : Ev G R Φ M cu su (pc + 1) ls (.long (x ||| y) :: st) h) : Ev G R Φ M cu su pc ls (.long y :: .long x :: st) h := by
  intro p e s m args below meth c H locs lsA hB hO hL hH hZ hS
  exact lv_lor hB.1 hB.2.1 hd (k p e s m args below meth c H locs lsA hB hO hL hH hZ hS)
theorem ev_lshl {x : Int64} {y : Int32} (hd : decode (mb M) pc = .ok (.lshl, 1)) (k : Ev G R Φ M cu su (pc + 1) ls (.long (x <<< (y.toInt64 &&& 63)) :: st) h) : Ev G R Φ M cu su pc ls (.int y :: .long x :: st) h := by
  intro p e s m args below meth c H locs lsA hB hO hL hH hZ hS
  exact lv_lshl hB.1 hB.2.1 hd rfl (k p e s m args below meth c H locs lsA hB hO hL hH hZ hS)
theorem ev_i2l {x : Int32} (hd : decode (mb M) pc = .ok (.i2l, 1)) (k : Ev G R Φ M cu su (pc + 1) ls (.long x.toInt64 :: st) h) : Ev G R Φ M cu su pc ls (.int x :: st) h := by
  intro p e s m args below meth c H locs lsA hB hO hL hH hZ hS
  exact lv_i2l hB.1 hB.2.1 hd rfl (k p e s m args below meth c H locs lsA hB hO hL hH hZ hS)
theorem ev_i2b {x : Int32} (hd : decode (mb M) pc = .ok (.i2b, 1)) (k : Ev G R Φ M cu su (pc + 1) ls (.int x.toInt8.toInt32 :: st) h) : Ev G R Φ M cu su pc ls (.int x :: st) h := by
  intro p e s m args below meth c H locs lsA hB hO hL hH hZ hS
  exact lv_i2b hB.1 hB.2.1 hd rfl (k p e s m args below meth c H locs lsA hB hO hL hH hZ hS)
theorem ev_lcmp {x y : Int64} (hd : decode (mb M) pc = .ok (.lcmp, 1)) (k : Ev G R Φ M cu su (pc + 1) ls (.int (lg_cmp x y) :: st) h) : Ev G R Φ M cu su pc ls (.long y :: .long x :: st) h := by
  intro p e s m args below meth c H locs lsA hB hO hL hH hZ hS
  exact W.lcmp hB.1 hB.2.1 hd (k p e s m args below meth c H locs lsA hB hO hL hH hZ hS)
theorem ev_iconst {n : Int} (v : Int32) (hd : decode (mb M) pc = .ok (.iconst n, 1)) (hv : Int32.ofInt n = v) (k : Ev G R Φ M cu su (pc + 1) ls (.int v :: st) h) : Ev G R Φ M cu su pc ls st h := by
  intro p e s m args below meth c H locs lsA hB hO hL hH hZ hS
  exact lv_iconst hB.1 hB.2.1 hd hv (k p e s m args below meth c H locs lsA hB hO hL hH hZ hS)
theorem ev_bipush {n : Int} (v : Int32) (hd : decode (mb M) pc = .ok (.bipush n, 2)) (hv : (Int8.ofInt n).toInt32 = v) (k : Ev G R Φ M cu su (pc + 2) ls (.int v :: st) h) : Ev G R Φ M cu su pc ls st h := by
  intro p e s m args below meth c H locs lsA hB hO hL hH hZ hS
  exact lv_bipush hB.1 hB.2.1 hd hv (k p e s m args below meth c H locs lsA hB hO hL hH hZ hS)
theorem ev_sipush {n : Int} (v : Int32) (hd : decode (mb M) pc = .ok (.sipush n, 3)) (hv : (Int16.ofInt n).toInt32 = v) (k : Ev G R Φ M cu su (pc + 3) ls (.int v :: st) h) : Ev G R Φ M cu su pc ls st h := by
  intro p e s m args below meth c H locs lsA hB hO hL hH hZ hS
  exact lv_sipush hB.1 hB.2.1 hd hv (k p e s m args below meth c H locs lsA hB hO hL hH hZ hS)
theorem ev_lconst {n : Fin 2} (v : Int64) (hd : decode (mb M) pc = .ok (.lconst n, 1)) (hv : Int64.ofNat (n : Nat) = v) (k : Ev G R Φ M cu su (pc + 1) ls (.long v :: st) h) : Ev G R Φ M cu su pc ls st h := by
  intro p e s m args below meth c H locs lsA hB hO hL hH hZ hS
  exact lv_lconst hB.1 hB.2.1 hd hv (k p e s m args below meth c H locs lsA hB hO hL hH hZ hS)
theorem ev_ldc {i : Nat} {v : Int32} (hd : decode (mb M) pc = .ok (.ldc i, 2)) (hw : Cond.constant (mo M) i v ∈ am_WT) (k : Ev G R Φ M cu su (pc + 2) ls (.int v :: st) h) : Ev G R Φ M cu su pc ls st h := by
  intro p e s m args below meth c H locs lsA hB hO hL hH hZ hS
  exact lv_ldc hB.1 hB.2.1 hB.2.2.2.2.1 (hB.2.2.2.2.2.1 _ hw) hd (k p e s m args below meth c H locs lsA hB hO hL hH hZ hS)
theorem ev_ldcw {i : Nat} {v : Int32} (hd : decode (mb M) pc = .ok (.ldc_w i, 3)) (hw : Cond.constant (mo M) i v ∈ am_WT) (k : Ev G R Φ M cu su (pc + 3) ls (.int v :: st) h) : Ev G R Φ M cu su pc ls st h := by
  intro p e s m args below meth c H locs lsA hB hO hL hH hZ hS
  exact lv_ldcw hB.1 hB.2.1 hB.2.2.2.2.1 (hB.2.2.2.2.2.1 _ hw) hd (k p e s m args below meth c H locs lsA hB hO hL hH hZ hS)
theorem ev_ldc2 {i : Nat} {v : Int64} (hd : decode (mb M) pc = .ok (.ldc2_w i, 3)) (hw : Cond.constantLong (mo M) i v ∈ am_WT) (k : Ev G R Φ M cu su (pc + 3) ls (.long v :: st) h) : Ev G R Φ M cu su pc ls st h := by
  intro p e s m args below meth c H locs lsA hB hO hL hH hZ hS
  exact lv_ldc2 hB.1 hB.2.1 hB.2.2.2.2.1 (hB.2.2.2.2.2.1 _ hw) hd (k p e s m args below meth c H locs lsA hB hO hL hH hZ hS)
theorem ev_iload_n {i : Fin 4} {x : Int32} (hd : decode (mb M) pc = .ok (.iload_n i, 1)) (hl : ls[(i : Nat)]? = some (some (.int x))) (k : Ev G R Φ M cu su (pc + 1) ls (.int x :: st) h) : Ev G R Φ M cu su pc ls st h := by
  intro p e s m args below meth c H locs lsA hB hO hL hH hZ hS
  exact lv_iload_n hB.1 hB.2.1 hd rfl (hL.2.2 _ _ hl) (k p e s m args below meth c H locs lsA hB hO hL hH hZ hS)
theorem ev_iload {i : Nat} {x : Int32} (hd : decode (mb M) pc = .ok (.iload i, 2)) (hl : ls[i]? = some (some (.int x))) (k : Ev G R Φ M cu su (pc + 2) ls (.int x :: st) h) : Ev G R Φ M cu su pc ls st h := by
  intro p e s m args below meth c H locs lsA hB hO hL hH hZ hS
  exact lv_iload hB.1 hB.2.1 hd (hL.2.2 _ _ hl) (k p e s m args below meth c H locs lsA hB hO hL hH hZ hS)
theorem ev_lload_n {i : Fin 4} {x : Int64} (hd : decode (mb M) pc = .ok (.lload_n i, 1)) (hl : ls[(i : Nat)]? = some (some (.long x))) (k : Ev G R Φ M cu su (pc + 1) ls (.long x :: st) h) : Ev G R Φ M cu su pc ls st h := by
  intro p e s m args below meth c H locs lsA hB hO hL hH hZ hS
  exact lv_lload_n hB.1 hB.2.1 hd rfl (hL.2.2 _ _ hl) (k p e s m args below meth c H locs lsA hB hO hL hH hZ hS)
theorem ev_lload {i : Nat} {x : Int64} (hd : decode (mb M) pc = .ok (.lload i, 2)) (hl : ls[i]? = some (some (.long x))) (k : Ev G R Φ M cu su (pc + 2) ls (.long x :: st) h) : Ev G R Φ M cu su pc ls st h := by
  intro p e s m args below meth c H locs lsA hB hO hL hH hZ hS
  exact lv_lload hB.1 hB.2.1 hd (hL.2.2 _ _ hl) (k p e s m args below meth c H locs lsA hB hO hL hH hZ hS)
theorem ev_aload_n {i : Fin 4} {x : Nat} (hd : decode (mb M) pc = .ok (.aload_n i, 1)) (hl : ls[(i : Nat)]? = some (some (.ref x))) (k : Ev G R Φ M cu su (pc + 1) ls (.ref x :: st) h) : Ev G R Φ M cu su pc ls st h := by
  intro p e s m args below meth c H locs lsA hB hO hL hH hZ hS
  exact lv_aload_n hB.1 hB.2.1 hd rfl (hL.2.2 _ _ hl) (k p e s m args below meth c H locs lsA hB hO hL hH hZ hS)
theorem ev_aload {i : Nat} {x : Nat} (hd : decode (mb M) pc = .ok (.aload i, 2)) (hl : ls[i]? = some (some (.ref x))) (k : Ev G R Φ M cu su (pc + 2) ls (.ref x :: st) h) : Ev G R Φ M cu su pc ls st h := by
  intro p e s m args below meth c H locs lsA hB hO hL hH hZ hS
  exact lv_aload hB.1 hB.2.1 hd (hL.2.2 _ _ hl) (k p e s m args below meth c H locs lsA hB hO hL hH hZ hS)
theorem ev_aload_nF {i : Fin 4} {x : UInt32} (hd : decode (mb M) pc = .ok (.aload_n i, 1)) (hl : ls[(i : Nat)]? = some (some (.float x))) (k : Ev G R Φ M cu su (pc + 1) ls (.float x :: st) h) : Ev G R Φ M cu su pc ls st h := by
  intro p e s m args below meth c H locs lsA hB hO hL hH hZ hS
  exact lv_aload_n hB.1 hB.2.1 hd rfl (hL.2.2 _ _ hl) (k p e s m args below meth c H locs lsA hB hO hL hH hZ hS)
theorem ev_istore_n {i : Fin 4} {x : Int32} (hd : decode (mb M) pc = .ok (.istore_n i, 1)) (hn : (i : Nat) < mL M) (hw : am_nl ls i = true) (k : Ev G R Φ M cu su (pc + 1) (ls.set i (some (.int x))) st h) : Ev G R Φ M cu su pc ls (.int x :: st) h := by
  intro p e s m args below meth c H locs lsA hB hO hL hH hZ hS
  exact lv_istore_n hB.1 hB.2.1 hd rfl hL.has hn rfl (fun ls' h' => k p e s m args below meth c H locs ls' hB hO (am_LS.st1 (v := .int x) hw h') hH hZ hS)
theorem ev_istore {i : Nat} {x : Int32} (hd : decode (mb M) pc = .ok (.istore i, 2)) (hn : i < mL M) (hw : am_nl ls i = true) (k : Ev G R Φ M cu su (pc + 2) (ls.set i (some (.int x))) st h) : Ev G R Φ M cu su pc ls (.int x :: st) h := by
  intro p e s m args below meth c H locs lsA hB hO hL hH hZ hS
  exact lv_istore hB.1 hB.2.1 hd hL.has hn rfl (fun ls' h' => k p e s m args below meth c H locs ls' hB hO (am_LS.st1 (v := .int x) hw h') hH hZ hS)
theorem ev_astore_n {i : Fin 4} {x : Nat} (hd : decode (mb M) pc = .ok (.astore_n i, 1)) (hn : (i : Nat) < mL M) (hw : am_nl ls i = true) (k : Ev G R Φ M cu su (pc + 1) (ls.set i (some (.ref x))) st h) : Ev G R Φ M cu su pc ls (.ref x :: st) h := by
  intro p e s m args below meth c H locs lsA hB hO hL hH hZ hS
  exact lv_astore_n hB.1 hB.2.1 hd rfl hL.has hn rfl (fun ls' h' => k p e s m args below meth c H locs ls' hB hO (am_LS.st1 (v := .ref x) hw h') hH hZ hS)
theorem ev_astore {i : Nat} {x : Nat} (hd : decode (mb M) pc = .ok (.astore i, 2)) (hn : i < mL M) (hw : am_nl ls i = true) (k : Ev G R Φ M cu su (pc + 2) (ls.set i (some (.ref x))) st h) : Ev G R Φ M cu su pc ls (.ref x :: st) h := by
  intro p e s m args below meth c H locs lsA hB hO hL hH hZ hS
  exact lv_astore hB.1 hB.2.1 hd hL.has hn rfl (fun ls' h' => k p e s m args below meth c H locs ls' hB hO (am_LS.st1 (v := .ref x) hw h') hH hZ hS)
theorem ev_lstore {i : Nat} {x : Int64} (hd : decode (mb M) pc = .ok (.lstore i, 2)) (hn : i + 1 < mL M) (hw : am_nl ls i = true) (k : Ev G R Φ M cu su (pc + 2) ((ls.set i (some (.long x))).set (i + 1) none) st h) : Ev G R Φ M cu su pc ls (.long x :: st) h := by
  intro p e s m args below meth c H locs lsA hB hO hL hH hZ hS
  exact lv_lstore hB.1 hB.2.1 hd hL.has hn rfl (fun ls' h' => k p e s m args below meth c H locs ls' hB hO (am_LS.st2 (v := .long x) hw h') hH hZ hS)
theorem ev_iinc {i : Nat} {n : Int} {x : Int32} (v : Int32) (hd : decode (mb M) pc = .ok (.iinc i n, 3)) (hl : ls[i]? = some (some (.int x))) (hn : i < mL M) (hv : x + Int32.ofInt n = v) (hw : am_nl ls i = true) (k : Ev G R Φ M cu su (pc + 3) (ls.set i (some (.int v))) st h) : Ev G R Φ M cu su pc ls st h := by
  intro p e s m args below meth c H locs lsA hB hO hL hH hZ hS
  obtain ⟨kk, hk⟩ := List.getElem?_of_mem (am_lv_mem (G := G) hl)
  exact lv_iinc hB.1 hB.2.1 hd hL.has (k := kk) hk hv hn rfl (fun ls' h' => k p e s m args below meth c H locs ls' hB hO (am_LS.st1 (v := .int v) hw h') hH hZ hS)
theorem ev_dup {v : Value} (hd : decode (mb M) pc = .ok (.dup, 1)) (hc : v.category = 1) (k : Ev G R Φ M cu su (pc + 1) ls (v :: v :: st) h) : Ev G R Φ M cu su pc ls (v :: st) h := by
  intro p e s m args below meth c H locs lsA hB hO hL hH hZ hS
  exact lv_dup hB.1 hB.2.1 hd ((tv_cat G v).trans hc) (k p e s m args below meth c H locs lsA hB hO hL hH hZ hS)
theorem ev_pop {v : Value} (hd : decode (mb M) pc = .ok (.pop, 1)) (hc : v.category = 1) (k : Ev G R Φ M cu su (pc + 1) ls st h) : Ev G R Φ M cu su pc ls (v :: st) h := by
  intro p e s m args below meth c H locs lsA hB hO hL hH hZ hS
  exact lv_pop hB.1 hB.2.1 hd ((tv_cat G v).trans hc) (k p e s m args below meth c H locs lsA hB hO hL hH hZ hS)
theorem ev_dup2 {v w : Value} (hd : decode (mb M) pc = .ok (.dup2, 1)) (hc : v.category = 1) (hc2 : w.category = 1) (k : Ev G R Φ M cu su (pc + 1) ls (v :: w :: v :: w :: st) h) : Ev G R Φ M cu su pc ls (v :: w :: st) h := by
  intro p e s m args below meth c H locs lsA hB hO hL hH hZ hS
  exact lv_dup2_11 hB.1 hB.2.1 hd ((tv_cat G v).trans hc) ((tv_cat G w).trans hc2) (k p e s m args below meth c H locs lsA hB hO hL hH hZ hS)
theorem ev_ifeq {x : Int32} {off : Int} (tgt : Nat) (hd : decode (mb M) pc = .ok (.ifCond .eq off, 3)) (ht : (pc : Int) + off = (tgt : Int)) (kt : x = 0 → Ev G R Φ M cu su tgt ls st h) (kf : ¬ x = 0 → Ev G R Φ M cu su (pc + 3) ls st h) : Ev G R Φ M cu su pc ls (.int x :: st) h := by
  intro p e s m args below meth c H locs lsA hB hO hL hH hZ hS
  exact lv_if_eq hB.1 hB.2.1 hd ht (fun q => kt q p e s m args below meth c H locs lsA hB hO hL hH hZ hS) (fun q => kf q p e s m args below meth c H locs lsA hB hO hL hH hZ hS)
theorem ev_icmpeq {x y : Int32} {off : Int} (tgt : Nat) (hd : decode (mb M) pc = .ok (.if_icmp .eq off, 3)) (ht : (pc : Int) + off = (tgt : Int)) (kt : x = y → Ev G R Φ M cu su tgt ls st h) (kf : ¬ x = y → Ev G R Φ M cu su (pc + 3) ls st h) : Ev G R Φ M cu su pc ls (.int y :: .int x :: st) h := by
  intro p e s m args below meth c H locs lsA hB hO hL hH hZ hS
  exact lv_icmp_eq hB.1 hB.2.1 hd ht (fun q => kt q p e s m args below meth c H locs lsA hB hO hL hH hZ hS) (fun q => kf q p e s m args below meth c H locs lsA hB hO hL hH hZ hS)
theorem ev_ifne {x : Int32} {off : Int} (tgt : Nat) (hd : decode (mb M) pc = .ok (.ifCond .ne off, 3)) (ht : (pc : Int) + off = (tgt : Int)) (kt : ¬ x = 0 → Ev G R Φ M cu su tgt ls st h) (kf : x = 0 → Ev G R Φ M cu su (pc + 3) ls st h) : Ev G R Φ M cu su pc ls (.int x :: st) h := by
  intro p e s m args below meth c H locs lsA hB hO hL hH hZ hS
  exact lv_if_ne hB.1 hB.2.1 hd ht (fun q => kt q p e s m args below meth c H locs lsA hB hO hL hH hZ hS) (fun q => kf q p e s m args below meth c H locs lsA hB hO hL hH hZ hS)
theorem ev_icmpne {x y : Int32} {off : Int} (tgt : Nat) (hd : decode (mb M) pc = .ok (.if_icmp .ne off, 3)) (ht : (pc : Int) + off = (tgt : Int)) (kt : ¬ x = y → Ev G R Φ M cu su tgt ls st h) (kf : x = y → Ev G R Φ M cu su (pc + 3) ls st h) : Ev G R Φ M cu su pc ls (.int y :: .int x :: st) h := by
  intro p e s m args below meth c H locs lsA hB hO hL hH hZ hS
  exact lv_icmp_ne hB.1 hB.2.1 hd ht (fun q => kt q p e s m args below meth c H locs lsA hB hO hL hH hZ hS) (fun q => kf q p e s m args below meth c H locs lsA hB hO hL hH hZ hS)
theorem ev_iflt {x : Int32} {off : Int} (tgt : Nat) (hd : decode (mb M) pc = .ok (.ifCond .lt off, 3)) (ht : (pc : Int) + off = (tgt : Int)) (kt : x < 0 → Ev G R Φ M cu su tgt ls st h) (kf : ¬ x < 0 → Ev G R Φ M cu su (pc + 3) ls st h) : Ev G R Φ M cu su pc ls (.int x :: st) h := by
  intro p e s m args below meth c H locs lsA hB hO hL hH hZ hS
  exact lv_if_lt hB.1 hB.2.1 hd ht (fun q => kt q p e s m args below meth c H locs lsA hB hO hL hH hZ hS) (fun q => kf q p e s m args below meth c H locs lsA hB hO hL hH hZ hS)
theorem ev_icmplt {x y : Int32} {off : Int} (tgt : Nat) (hd : decode (mb M) pc = .ok (.if_icmp .lt off, 3)) (ht : (pc : Int) + off = (tgt : Int)) (kt : x < y → Ev G R Φ M cu su tgt ls st h) (kf : ¬ x < y → Ev G R Φ M cu su (pc + 3) ls st h) : Ev G R Φ M cu su pc ls (.int y :: .int x :: st) h := by
  intro p e s m args below meth c H locs lsA hB hO hL hH hZ hS
  exact lv_icmp_lt hB.1 hB.2.1 hd ht (fun q => kt q p e s m args below meth c H locs lsA hB hO hL hH hZ hS) (fun q => kf q p e s m args below meth c H locs lsA hB hO hL hH hZ hS)
theorem ev_ifge {x : Int32} {off : Int} (tgt : Nat) (hd : decode (mb M) pc = .ok (.ifCond .ge off, 3)) (ht : (pc : Int) + off = (tgt : Int)) (kt : 0 ≤ x → Ev G R Φ M cu su tgt ls st h) (kf : ¬ 0 ≤ x → Ev G R Φ M cu su (pc + 3) ls st h) : Ev G R Φ M cu su pc ls (.int x :: st) h := by
  intro p e s m args below meth c H locs lsA hB hO hL hH hZ hS
  exact lv_if_ge hB.1 hB.2.1 hd ht (fun q => kt q p e s m args below meth c H locs lsA hB hO hL hH hZ hS) (fun q => kf q p e s m args below meth c H locs lsA hB hO hL hH hZ hS)
theorem ev_icmpge {x y : Int32} {off : Int} (tgt : Nat) (hd : decode (mb M) pc = .ok (.if_icmp .ge off, 3)) (ht : (pc : Int) + off = (tgt : Int)) (kt : y ≤ x → Ev G R Φ M cu su tgt ls st h) (kf : ¬ y ≤ x → Ev G R Φ M cu su (pc + 3) ls st h) : Ev G R Φ M cu su pc ls (.int y :: .int x :: st) h := by
  intro p e s m args below meth c H locs lsA hB hO hL hH hZ hS
  exact lv_icmp_ge hB.1 hB.2.1 hd ht (fun q => kt q p e s m args below meth c H locs lsA hB hO hL hH hZ hS) (fun q => kf q p e s m args below meth c H locs lsA hB hO hL hH hZ hS)
theorem ev_ifgt {x : Int32} {off : Int} (tgt : Nat) (hd : decode (mb M) pc = .ok (.ifCond .gt off, 3)) (ht : (pc : Int) + off = (tgt : Int)) (kt : 0 < x → Ev G R Φ M cu su tgt ls st h) (kf : ¬ 0 < x → Ev G R Φ M cu su (pc + 3) ls st h) : Ev G R Φ M cu su pc ls (.int x :: st) h := by
  intro p e s m args below meth c H locs lsA hB hO hL hH hZ hS
  exact lv_if_gt hB.1 hB.2.1 hd ht (fun q => kt q p e s m args below meth c H locs lsA hB hO hL hH hZ hS) (fun q => kf q p e s m args below meth c H locs lsA hB hO hL hH hZ hS)
theorem ev_icmpgt {x y : Int32} {off : Int} (tgt : Nat) (hd : decode (mb M) pc = .ok (.if_icmp .gt off, 3)) (ht : (pc : Int) + off = (tgt : Int)) (kt : y < x → Ev G R Φ M cu su tgt ls st h) (kf : ¬ y < x → Ev G R Φ M cu su (pc + 3) ls st h) : Ev G R Φ M cu su pc ls (.int y :: .int x :: st) h := by
  intro p e s m args below meth c H locs lsA hB hO hL hH hZ hS
  exact lv_icmp_gt hB.1 hB.2.1 hd ht (fun q => kt q p e s m args below meth c H locs lsA hB hO hL hH hZ hS) (fun q => kf q p e s m args below meth c H locs lsA hB hO hL hH hZ hS)
theorem ev_ifle {x : Int32} {off : Int} (tgt : Nat) (hd : decode (mb M) pc = .ok (.ifCond .le off, 3)) (ht : (pc : Int) + off = (tgt : Int)) (kt : x ≤ 0 → Ev G R Φ M cu su tgt ls st h) (kf : ¬ x ≤ 0 → Ev G R Φ M cu su (pc + 3) ls st h) : Ev G R Φ M cu su pc ls (.int x :: st) h := by
  intro p e s m args below meth c H locs lsA hB hO hL hH hZ hS
  exact lv_if_le hB.1 hB.2.1 hd ht (fun q => kt q p e s m args below meth c H locs lsA hB hO hL hH hZ hS) (fun q => kf q p e s m args below meth c H locs lsA hB hO hL hH hZ hS)
theorem ev_icmple {x y : Int32} {off : Int} (tgt : Nat) (hd : decode (mb M) pc = .ok (.if_icmp .le off, 3)) (ht : (pc : Int) + off = (tgt : Int)) (kt : x ≤ y → Ev G R Φ M cu su tgt ls st h) (kf : ¬ x ≤ y → Ev G R Φ M cu su (pc + 3) ls st h) : Ev G R Φ M cu su pc ls (.int y :: .int x :: st) h := by
  intro p e s m args below meth c H locs lsA hB hO hL hH hZ hS
  exact lv_icmp_le hB.1 hB.2.1 hd ht (fun q => kt q p e s m args below meth c H locs lsA hB hO hL hH hZ hS) (fun q => kf q p e s m args below meth c H locs lsA hB hO hL hH hZ hS)
theorem ev_goto {off : Int} (tgt : Nat) (hd : decode (mb M) pc = .ok (.goto off, 3)) (ht : (pc : Int) + off = (tgt : Int)) (k : Ev G R Φ M cu su tgt ls st h) : Ev G R Φ M cu su pc ls st h := by
  intro p e s m args below meth c H locs lsA hB hO hL hH hZ hS
  exact lv_goto hB.1 hB.2.1 hd ht (k p e s m args below meth c H locs lsA hB hO hL hH hZ hS)
theorem ev_tableIn {dflt lo hi : Int} {offs : Array Int} {len : Nat} {x : Int32} {off : Int} (tgt : Nat) (hd : decode (mb M) pc = .ok (.tableswitch dflt lo hi offs, len)) (h1 : ¬ x.toInt < lo) (h2 : ¬ hi < x.toInt) (ho : offs[(x.toInt - lo).toNat]? = some off) (ht : (pc : Int) + off = (tgt : Int)) (k : Ev G R Φ M cu su tgt ls st h) : Ev G R Φ M cu su pc ls (.int x :: st) h := by
  intro p e s m args below meth c H locs lsA hB hO hL hH hZ hS
  exact lv_tableIn hB.1 hB.2.1 hd h1 h2 ho ht (k p e s m args below meth c H locs lsA hB hO hL hH hZ hS)
theorem ev_tableOut {dflt lo hi : Int} {offs : Array Int} {len : Nat} {x : Int32} (tgt : Nat) (hd : decode (mb M) pc = .ok (.tableswitch dflt lo hi offs, len)) (h1 : x.toInt < lo ∨ hi < x.toInt) (ht : (pc : Int) + dflt = (tgt : Int)) (k : Ev G R Φ M cu su tgt ls st h) : Ev G R Φ M cu su pc ls (.int x :: st) h := by
  intro p e s m args below meth c H locs lsA hB hO hL hH hZ hS
  exact lv_tableOut hB.1 hB.2.1 hd h1 ht (k p e s m args below meth c H locs lsA hB hO hL hH hZ hS)
theorem ev_lookup {dflt : Int} {ps : Array (Int × Int)} {len : Nat} {x : Int32} {off : Int} (tgt : Nat) (hd : decode (mb M) pc = .ok (.lookupswitch dflt ps, len)) (hp : (ps.toList.zip (ps.toList.drop 1)).all (fun (a, next) => a.1 < next.1) = true) (ho : Op.lookupswitch.offset ps.toList dflt x.toInt = off) (ht : (pc : Int) + off = (tgt : Int)) (k : Ev G R Φ M cu su tgt ls st h) : Ev G R Φ M cu su pc ls (.int x :: st) h := by
  intro p e s m args below meth c H locs lsA hB hO hL hH hZ hS
  exact lv_lookup hB.1 hB.2.1 hd hp ho ht (k p e s m args below meth c H locs lsA hB hO hL hH hZ hS)
theorem ev_get {idx : Nat} {ref C : String} {T : u_T} {N ci a : Nat} {fs : List Value} {v : Value} (j : Nat) (hd : decode (mb M) pc = .ok (.getfield idx, 3)) (hin : ∀ w ∈ u_ws C T N, w ∈ am_WT) (hc : am_cl[ci]? = some (C, T, N)) (hj : j < N) (hr : ref = (T j).1) (hw : Cond.fieldLink (mo M) idx ref (T j).2.1 (T j).2.2.1 ∈ am_WT) (ha : h.1[a]? = some (.inr (ci, fs))) (hv : fs[j]? = some v) (k : Ev G R Φ M cu su (pc + 3) ls (v :: st) h) : Ev G R Φ M cu su pc ls (.ref a :: st) h := by
  intro p e s m args below meth c H locs lsA hB hO hL hH hZ hS
  exact va_get hB.1 hB.2.1 hB.2.2.2.2.2.1 hin hB.2.2.2.2.1 hO.1 hH a (tw_get ha) hc j hj (hB.2.2.2.2.2.1 _ hw) (fun _ h9 => by rw [hr]; exact h9) (by rw [List.getElem?_map, hv]; rfl) hd (k p e s m args below meth c H locs lsA hB hO hL hH hZ hS)
theorem ev_getN {idx : Nat} {ref C host : String} {T : u_T} {N ci a : Nat} {fs : List Value} {v : Value} (j : Nat) (hd : decode (mb M) pc = .ok (.getfield idx, 3)) (hin : ∀ w ∈ u_ws C T N, w ∈ am_WT) (hc : am_cl[ci]? = some (C, T, N)) (hj : j < N) (hr : ref = (T j).1) (hw : Cond.fieldLinkNest (mo M) idx ref (T j).2.1 (T j).2.2.1 host ∈ am_nest) (ha : h.1[a]? = some (.inr (ci, fs))) (hv : fs[j]? = some v) (k : Ev G R Φ M cu su (pc + 3) ls (v :: st) h) : Ev G R Φ M cu su pc ls (.ref a :: st) h := by
  intro p e s m args below meth c H locs lsA hB hO hL hH hZ hS
  exact va_getN hB.1 hB.2.1 hB.2.2.2.2.2.1 hin hB.2.2.2.2.1 hO.1 hH a (tw_get ha) hc j hj (va_Nw.use rfl (hO.2.1 _ hw)) (fun _ h9 => by rw [hr]; exact h9) (by rw [List.getElem?_map, hv]; rfl) hd (k p e s m args below meth c H locs lsA hB hO hL hH hZ hS)
theorem ev_put {idx : Nat} {ref C : String} {T : u_T} {ty0 : Nat → FieldType} {N ci a : Nat} {fs : List Value} {v : Value} (j : Nat) (hd : decode (mb M) pc = .ok (.putfield idx, 3)) (hin : ∀ w ∈ u_ws C T N, w ∈ am_WT) (hty : ∀ k, k < N → parseFieldDescriptor (T k).2.2.1 = some (ty0 k)) (hnm : ∀ a, a < N → ∀ b, b < N → a ≠ b → (T a).2.1 ≠ (T b).2.1) (hc : am_cl[ci]? = some (C, T, N)) (hj : j < N) (hr : ref = (T j).1) (hw : Cond.fieldLink (mo M) idx ref (T j).2.1 (T j).2.2.1 ∈ am_WT) (hf : (T j).2.2.2 = false) (hn : narrow (ty0 j) (tv G v) = tv G v) (hfit : fits (ty0 j) (tv G v) = true) (ha : h.1[a]? = some (.inr (ci, fs))) (hl : j < fs.length) (k : Ev G R Φ M cu su (pc + 3) ls st (am_up h a (.inr (ci, fs.set j v)))) : Ev G R Φ M cu su pc ls (v :: .ref a :: st) h := by
  intro p e s m args below meth c H locs lsA hB hO hL hH hZ hS
  refine va_put hB.1 hB.2.1 hB.2.2.2.2.2.1 hin ty0 hty hnm hB.2.2.2.2.1 hO.1 hH (tw_D G h.1) hS a (tw_get ha) hc j hj (hB.2.2.2.2.2.1 _ hw) (fun _ h9 => by rw [hr]; exact h9) hf (hty j hj) hn hfit (by rw [List.length_map]; exact hl) hd (fun H1 locs1 hP1 hD1 hS1 => ?_)
  have e1 : (tw G h.1).set a (gB G + a, .inr (ci, (fs.map (tv G)).set j (tv G v))) = tw G (h.1.set a (.inr (ci, fs.set j v))) := by
    rw [← tw_set]
    simp [te, List.map_set]
  rw [e1] at hP1
  exact k p e s m args below meth c H1 locs1 lsA hB hO hL hP1 (by simpa [am_sz, am_up] using hZ) hS1
theorem ev_putN {idx : Nat} {ref C host : String} {T : u_T} {ty0 : Nat → FieldType} {N ci a : Nat} {fs : List Value} {v : Value} (j : Nat) (hd : decode (mb M) pc = .ok (.putfield idx, 3)) (hin : ∀ w ∈ u_ws C T N, w ∈ am_WT) (hty : ∀ k, k < N → parseFieldDescriptor (T k).2.2.1 = some (ty0 k)) (hnm : ∀ a, a < N → ∀ b, b < N → a ≠ b → (T a).2.1 ≠ (T b).2.1) (hc : am_cl[ci]? = some (C, T, N)) (hj : j < N) (hr : ref = (T j).1) (hw : Cond.fieldLinkNest (mo M) idx ref (T j).2.1 (T j).2.2.1 host ∈ am_nest) (hf : (T j).2.2.2 = false) (hn : narrow (ty0 j) (tv G v) = tv G v) (hfit : fits (ty0 j) (tv G v) = true) (ha : h.1[a]? = some (.inr (ci, fs))) (hl : j < fs.length) (k : Ev G R Φ M cu su (pc + 3) ls st (am_up h a (.inr (ci, fs.set j v)))) : Ev G R Φ M cu su pc ls (v :: .ref a :: st) h := by
  intro p e s m args below meth c H locs lsA hB hO hL hH hZ hS
  refine va_putN hB.1 hB.2.1 hB.2.2.2.2.2.1 hin ty0 hty hnm hB.2.2.2.2.1 hO.1 hH (tw_D G h.1) hS a (tw_get ha) hc j hj (va_Nw.use rfl (hO.2.1 _ hw)) (fun _ h9 => by rw [hr]; exact h9) hf (hty j hj) hn hfit (by rw [List.length_map]; exact hl) hd (fun H1 locs1 hP1 hD1 hS1 => ?_)
  have e1 : (tw G h.1).set a (gB G + a, .inr (ci, (fs.map (tv G)).set j (tv G v))) = tw G (h.1.set a (.inr (ci, fs.set j v))) := by
    rw [← tw_set]
    simp [te, List.map_set]
  rw [e1] at hP1
  exact k p e s m args below meth c H1 locs1 lsA hB hO hL hP1 (by simpa [am_sz, am_up] using hZ) hS1
theorem ev_putF {idx : Nat} {ref C : String} {T : u_T} {ty0 : Nat → FieldType} {N ci a : Nat} {fs : List Value} {v : Value} (j : Nat) (hd : decode (mb M) pc = .ok (.putfield idx, 3)) (hin : ∀ w ∈ u_ws C T N, w ∈ am_WT) (hty : ∀ k, k < N → parseFieldDescriptor (T k).2.2.1 = some (ty0 k)) (hnm : ∀ a, a < N → ∀ b, b < N → a ≠ b → (T a).2.1 ≠ (T b).2.1) (hc : am_cl[ci]? = some (C, T, N)) (hj : j < N) (hr : ref = (T j).1) (hw : Cond.fieldLink (mo M) idx ref (T j).2.1 (T j).2.2.1 ∈ am_WT) (hf : (T j).2.2.2 = true) (hi2 : (my M).name = "<init>") (hdc : (T j).1 = mo M) (hn : narrow (ty0 j) (tv G v) = tv G v) (hfit : fits (ty0 j) (tv G v) = true) (ha : h.1[a]? = some (.inr (ci, fs))) (hl : j < fs.length) (k : Ev G R Φ M cu su (pc + 3) ls st (am_up h a (.inr (ci, fs.set j v)))) : Ev G R Φ M cu su pc ls (v :: .ref a :: st) h := by
  intro p e s m args below meth c H locs lsA hB hO hL hH hZ hS
  refine va_putF hB.1 hB.2.1 hB.2.2.2.2.2.1 hin ty0 hty hnm hB.2.2.2.2.1 hO.1 hH (tw_D G h.1) hS a (tw_get ha) hc j hj (hB.2.2.2.2.2.1 _ hw) (fun _ h9 => by rw [hr]; exact h9) hf (hB.2.2.2.2.2.2.2.1.trans hi2) hdc (hty j hj) hn hfit (by rw [List.length_map]; exact hl) hd (fun H1 locs1 hP1 hD1 hS1 => ?_)
  have e1 : (tw G h.1).set a (gB G + a, .inr (ci, (fs.map (tv G)).set j (tv G v))) = tw G (h.1.set a (.inr (ci, fs.set j v))) := by
    rw [← tw_set]
    simp [te, List.map_set]
  rw [e1] at hP1
  exact k p e s m args below meth c H1 locs1 lsA hB hO hL hP1 (by simpa [am_sz, am_up] using hZ) hS1
end EVA
