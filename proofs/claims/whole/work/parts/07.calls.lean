/-! calls -/
theorem am_good {ws : List Cond} (h : ∀ w ∈ ws, w ∈ am_WT) : GoodIn am_WT ws := fun w hw => ⟨h w hw, good_of_word (am_wg (h w hw))⟩
theorem am_Met.met {G : am_G} {d : Nat} {M : am_M} {mc ms : Nat} {as : List Value} {h : am_H} {Qr : Option Value → am_H → Prop} (hM : am_Met G d M mc ms as h Qr (fun _ _ => False)) : Met (gL G) (my M) (am_ws M) (am_R d mc ms) (am_Pc G as h) (am_Qc G h mc Qr) mc ms (am_A G) := by
  intro p e h1 h2 h3 s m args below h4 h5 h6 h7
  obtain ⟨n, o, a1, a2, a3, a4⟩ := hM p e h1 h2 h3 s m args below h4 h5 h6 h7
  refine ⟨n, o, a1, a2, a3, ?_⟩
  rcases a4 with a4 | ⟨q, -, E, ce, L, ⟨⟨h', hF, -⟩, -⟩, -⟩
  · exact a4
  · exact hF.elim
theorem am_runX {p : Program} {l : Launch} {e : Env} {R : Room} {s : State} {m : MethodId} {args : Array Value} {below : List Frame} {meth : Method} {c : Code} {H : Heap} {locs : List Loc} {cells slots mc ms : Nat} {g : JFrame} {rest : List Value} {Qa : State → Outcome → State → Prop} {XC : String → State → State → Prop} {free : Addr → Prop} (h : va_Run p l e R s m args below meth c H locs cells slots mc ms g rest Qa free) : vx_Run p l e R s m args below meth c H locs cells slots mc ms g rest Qa XC free := fun T hT X => Or.inl (h T hT X)
theorem am_mapl {G : am_G} (v : Option Value) (st : List Value) : (v.map (tv G)).toList ++ st.map (tv G) = (v.toList ++ st).map (tv G) := by cases v <;> rfl
section EVC
variable {G : am_G} {R : Room} {Φ : List Frame → Array Value → State → State → Prop} {M : am_M} {cu su pc : Nat} {ls : List (Option Value)} {st st0 : List Value} {h : am_H}
variable {mc ms : Nat} {Qr : Option Value → am_H → Prop} {Qx : String → am_H → Prop}
theorem ev_run {a : Array Value}
    (hr : ∀ (p : Program) (e : Env) (s : State) (m : MethodId) (args : Array Value) (below : List Frame) (meth : Method) (c : Code) (H : Heap) (locs : List Loc) (lsA : Array Slot), am_B M p s m args meth c → am_O G s s.heap → am_LS G lsA (mL M) ls → am_L G h H → am_sz G h s cu → va_S (am_A G) s.heap H locs → H.size ≤ s.heap.size + cu →
      vx_Run p (gL G) e R s m args below meth c H locs cu su mc ms (F0 m pc lsA (st0.map (tv G))) (st.map (tv G)) (am_Qc G h mc Qr a) (am_Xc G Qx) (am_A G))
    (kr : ∀ (v : Option Value) (h' : am_H), Qr v h' → Ev G R Φ M (cu + mc) (su + ms) (pc + 3) ls (v.toList ++ st) h')
    (kx : ∀ (E : String) (h' : am_H), Qx E h' → ¬ h'.2 = 0 → EvX G R Φ M (cu + mc) (su + ms) pc ls E h') : Ev G R Φ M cu su pc ls st0 h := by
  intro p e s m args below meth c H locs lsA hB hO hL hH hZ hS
  refine W.sz (fun hsz => ?_)
  intro T hT X
  have hSS : ∀ (t : State) (st₀ : State) (L : List Loc), st₀.heap = H → va_F (am_A G) st₀ t → (∀ q ∈ L, am_A G q.base) → va_S (am_A G) s.heap t.heap (locs ++ L) := by
    intro t st₀ L h0 hF hf
    obtain ⟨f1, f2⟩ := hF
    rw [h0] at f1 f2
    refine ⟨Nat.le_trans hS.1 f1, fun q h1 h2 => ?_, fun q hq => ?_⟩
    · rw [f2 q (Nat.lt_of_lt_of_le h1 hS.1) h2]
      exact hS.2.1 q h1 h2
    · rcases List.mem_append.mp hq with h | h
      · exact hS.2.2 q h
      · exact hf _ h
  rcases hr p e s m args below meth c H locs lsA hB hO hL hH hZ hS hsz T hT X with ⟨v, st₀, t, T', L, h0, X', hf, e1, e2, ⟨⟨v', h', hv, hq, hP, hz⟩, hF⟩, go⟩ | ⟨q, st₀, t, T', L, E, ce, h0, X', hf, e1, e2, ⟨⟨h', hq, hP, hz⟩, hF⟩, hce, hvm, hcl, go⟩
  · cases hv
    have hlb := am_L.lb hH hZ hS.1
    obtain ⟨t2, a1, b1⟩ := kr v' h' hq p e s m args below meth c T'.heap (locs ++ L) lsA hB hO hL (by rw [e1]; exact hP)
      ⟨hZ.1, fun z => by
        obtain ⟨z1, z2⟩ := hz z
        rw [h0] at z2
        have := hZ.2 z1
        omega⟩ (by rw [e1]; exact hSS t st₀ L h0 hF hf) T' rfl X'
    refine ⟨t2, go t2 ?_, b1⟩
    rw [← am_mapl] at a1
    exact a1
  · obtain ⟨t2, a1, b1⟩ := kx E h' hq hz p e s m args below meth c T'.heap (locs ++ L) lsA (st.map (tv G)) q ce hB hO hL (by rw [e1]; exact hP) ⟨hZ.1, fun z => absurd z hz⟩ (by rw [e1]; exact hSS t st₀ L h0 hF hf) (by rw [e1]; exact hce) hvm hcl T' rfl X'
    exact ⟨t2, go.trans a1, b1⟩
/-- what a call of N wants of the tables -/
def am_okB (N : am_M) (n : Nat) : Prop := Cond.code (my N) (mb N) (mL N) (mr N) ∈ am_WT ∧ Cond.initialized (my N).cls ∈ am_WT ∧ ((my N).cls ≠ "java/lang/invoke/MethodHandle" ∧ (my N).cls ≠ "java/lang/invoke/VarHandle" ∧ (parseMethodDescriptor (my N).desc).map (fun d => d.parameters.length) = some n) ∧ mL N ≤ 45
def am_okV (N : am_M) (n : Nat) : Prop := am_okB N n ∧ Cond.instanceMethod (my N) ∈ am_WT ∧ Cond.selects (my N).cls (my N) (my N) ∈ am_WT
def am_okS (N : am_M) (n : Nat) : Prop := am_okB N n ∧ Cond.static (my N) ∈ am_WT
def am_okI (N : am_M) (n : Nat) : Prop := am_okB N n ∧ Cond.instanceMethod (my N) ∈ am_WT ∧ (my N).name = "<init>" ∧ mr N = none
theorem am_ws_in {N : am_M} {n : Nat} (ok : am_okB N n) : ∀ w ∈ am_ws N, w ∈ am_WT := fun w hw => (List.mem_cons.mp hw).elim (fun e => e ▸ ok.1) id
theorem am_room {d d' mc ms mc' ms' L : Nat} (hd : d' + 1 ≤ d) (hL : L ≤ 45) : (am_R d' mc' ms').frames + 1 ≤ (am_R d mc ms).frames ∧ 8 + (L + 11) + (am_R d' mc' ms').locals ≤ (am_R d mc ms).locals := by
  refine ⟨hd, ?_⟩
  show 8 + (L + 11) + 64 * d' ≤ 64 * d
  omega
def am_fit (R : Room) (d : Nat) : Prop := d + 1 ≤ R.frames ∧ 64 * (d + 1) ≤ R.locals
theorem am_fit.room {R : Room} {d mc ms L : Nat} (hf : am_fit R d) (hL : L ≤ 45) : (am_R d mc ms).frames + 1 ≤ R.frames ∧ 8 + (L + 11) + (am_R d mc ms).locals ≤ R.locals := by
  refine ⟨hf.1, ?_⟩
  have := hf.2
  show 8 + (L + 11) + 64 * d ≤ _
  omega
theorem am_fit.of {d d' mc ms : Nat} (h : d' + 1 ≤ d) : am_fit (am_R d mc ms) d' := ⟨h, by show 64 * (d' + 1) ≤ 64 * d; omega⟩
theorem am_pre {G : am_G} {as : List Value} {h : am_H} {s : State} {H : Heap} {cu : Nat} {locs : List Loc} (hO : am_O G s s.heap) (hH : am_L G h H) (hZ : am_sz G h s cu) (hS : va_S (am_A G) s.heap H locs) (hsz : H.size ≤ s.heap.size + cu) : PreS s H (am_Pc G as h) (as.map (tv G)) := by
  refine ⟨am_Pc_blind, fun U hU hW => ⟨rfl, ?_, by rw [hU]; exact hH, ?_, fun z => ?_⟩⟩
  · rw [hU]
    exact (hO.kept hS.2.1).warm hW
  · rw [hU]
    exact Nat.le_trans hZ.1 hS.1
  · rw [hU]
    have := am_L.lb hH hZ hS.1
    have := hZ.2 z
    omega
theorem am_recv {G : am_G} {h : am_H} {s : State} {H : Heap} {a ci : Nat} {fs : List Value} {r : vw_C} (hK : va_K (gD G) am_cl (am_tys G) s) (hH : am_L G h H) (ha : h.1[a]? = some (.inr (ci, fs))) (hc : am_cl[ci]? = some r) : ∃ cellB : Cell, H[gB G + a]? = some cellB ∧ cellB.vm.isStatics = false ∧ s.vm.findClass r.1 = some cellB.cls := va_recv hK hH (q0 := a) hc (tw_get ha)
theorem ev_invV {N : am_M} {idx n d a ci : Nat} {As : List Value} {fs : List Value} {r : vw_C} (hM : am_Met G d N mc ms (.ref a :: As) h Qr Qx) (hd : decode (mb M) pc = .ok (.invokevirtual idx, 3)) (ok : am_okV N n) (hw : Cond.methodLink (mo M) idx (my N) ∈ am_WT) (hn : As.length = n) (ha : h.1[a]? = some (.inr (ci, fs))) (hc : am_cl[ci]? = some r) (hr : r.1 = (my N).cls) (hst : (st.map fun v => v.category).sum ≤ 8) (hst0 : st0 = As.reverse ++ .ref a :: st) (hf : am_fit R d) (hcs : cu + mc ≤ R.cells ∧ su + ms ≤ R.slots)
    (kr : ∀ (v : Option Value) (h' : am_H), Qr v h' → Ev G R Φ M (cu + mc) (su + ms) (pc + 3) ls (v.toList ++ st) h')
    (kx : ∀ (E : String) (h' : am_H), Qx E h' → ¬ h'.2 = 0 → EvX G R Φ M (cu + mc) (su + ms) pc ls E h') : Ev G R Φ M cu su pc ls st0 h := by
  subst hst0
  refine ev_run (a := (Value.ref (gB G + a) :: As.map (tv G)).toArray) (fun p e s m args below meth c H locs lsA hB hO hL hH hZ hS hsz => ?_) kr kx
  have hpre := am_pre (as := .ref a :: As) hO hH hZ hS hsz
  refine vx_runV (own := mo M) (C := (my N).cls) (b := gB G + a) (As := As.map (tv G)) ⟨hB.1, hB.2.1, hB.2.2.2.1, hB.2.2.2.2.1, hB.2.2.2.2.2.1⟩ hM
    (cwV n hB.2.2.2.2.2.1 (am_good (fun w hw9 => ?_)) rfl rfl rfl ⟨rfl, ok.1.2.2.1⟩ (hf.room ok.1.2.2.2)) ⟨hpre.1, by rw [← hr]; exact am_recv hO.1 hH ha hc, hpre.2⟩ rfl (by rw [List.length_map]; exact hn) hL.1 ?_ (by rw [tv_cats]; exact lv_room hst) hd hcs
  · simp only [wsV, List.mem_append, List.mem_cons, List.not_mem_nil, or_false] at hw9
    rcases hw9 with (rfl | rfl | rfl | rfl) | hw9
    · exact hw
    · exact ok.2.1
    · exact ok.2.2
    · exact ok.1.2.1
    · exact am_ws_in ok.1 w hw9
  · simp [tv]
theorem ev_invS {N : am_M} {idx n d : Nat} {As : List Value} (hM : am_Met G d N mc ms As h Qr Qx) (hd : decode (mb M) pc = .ok (.invokestatic idx, 3)) (ok : am_okS N n) (hw : Cond.methodLink (mo M) idx (my N) ∈ am_WT) (hn : As.length = n) (hst : (st.map fun v => v.category).sum ≤ 8) (hst0 : st0 = As.reverse ++ st) (hf : am_fit R d) (hcs : cu + mc ≤ R.cells ∧ su + ms ≤ R.slots)
    (kr : ∀ (v : Option Value) (h' : am_H), Qr v h' → Ev G R Φ M (cu + mc) (su + ms) (pc + 3) ls (v.toList ++ st) h')
    (kx : ∀ (E : String) (h' : am_H), Qx E h' → ¬ h'.2 = 0 → EvX G R Φ M (cu + mc) (su + ms) pc ls E h') : Ev G R Φ M cu su pc ls st0 h := by
  subst hst0
  refine ev_run (a := (As.map (tv G)).toArray) (fun p e s m args below meth c H locs lsA hB hO hL hH hZ hS hsz => ?_) kr kx
  refine vx_runS (own := mo M) (As := As.map (tv G)) ⟨hB.1, hB.2.1, hB.2.2.2.1, hB.2.2.2.2.1, hB.2.2.2.2.2.1⟩ hM
    (va_cwS n hB.2.2.2.2.2.1 (am_good (fun w hw9 => ?_)) rfl rfl rfl ok.1.2.2.1 (hf.room ok.1.2.2.2)) (am_pre hO hH hZ hS hsz) rfl (by rw [List.length_map]; exact hn) hL.1 (by simp) (by rw [tv_cats]; exact lv_room hst) hd hcs
  simp only [va_wsS, List.mem_append, List.mem_cons, List.not_mem_nil, or_false] at hw9
  rcases hw9 with (rfl | rfl | rfl) | hw9
  · exact hw
  · exact ok.2
  · exact ok.1.2.1
  · exact am_ws_in ok.1 w hw9
theorem ev_invSN {N : am_M} {idx n d : Nat} {host : String} {As : List Value} (hM : am_Met G d N mc ms As h Qr (fun _ _ => False)) (hd : decode (mb M) pc = .ok (.invokestatic idx, 3)) (ok : am_okS N n) (hw : Cond.methodLinkNest (mo M) idx (my N) host ∈ am_nest) (hn : As.length = n) (hst : (st.map fun v => v.category).sum ≤ 8) (hst0 : st0 = As.reverse ++ st) (hf : am_fit R d) (hcs : cu + mc ≤ R.cells ∧ su + ms ≤ R.slots)
    (kr : ∀ (v : Option Value) (h' : am_H), Qr v h' → Ev G R Φ M (cu + mc) (su + ms) (pc + 3) ls (v.toList ++ st) h') : Ev G R Φ M cu su pc ls st0 h := by
  subst hst0
  refine ev_run (Qx := fun _ _ => False) (a := (As.map (tv G)).toArray) (fun p e s m args below meth c H locs lsA hB hO hL hH hZ hS hsz => ?_) kr (fun _ _ hF => hF.elim)
  exact am_runX (va_runSN (own := mo M) (host := host) (As := As.map (tv G)) ⟨hB.1, hB.2.1, hB.2.2.2.1, hB.2.2.2.2.1, hB.2.2.2.2.2.1⟩ hM.met
    ⟨va_cnB n hB.2.2.2.2.2.1 (am_good (am_ws_in ok.1)) rfl rfl rfl (hO.2.1 _ hw) (hB.2.2.2.2.2.1 _ ok.1.2.1) ok.1.2.2.1 (hf.room ok.1.2.2.2), hB.2.2.2.2.2.1 _ ok.2, trivial⟩ (am_pre hO hH hZ hS hsz) rfl (by rw [List.length_map]; exact hn) hL.1 (by simp) (by rw [tv_cats]; exact lv_room hst) hd hcs)
theorem ev_invVN {N : am_M} {idx n d a ci : Nat} {host : String} {As : List Value} {fs : List Value} {r : vw_C} (hM : am_Met G d N mc ms (.ref a :: As) h Qr (fun _ _ => False)) (hd : decode (mb M) pc = .ok (.invokevirtual idx, 3)) (ok : am_okV N n) (hw : Cond.methodLinkNest (mo M) idx (my N) host ∈ am_nest) (hn : As.length = n) (ha : h.1[a]? = some (.inr (ci, fs))) (hc : am_cl[ci]? = some r) (hr : r.1 = (my N).cls) (hst : (st.map fun v => v.category).sum ≤ 8) (hst0 : st0 = As.reverse ++ .ref a :: st) (hf : am_fit R d) (hcs : cu + mc ≤ R.cells ∧ su + ms ≤ R.slots)
    (kr : ∀ (v : Option Value) (h' : am_H), Qr v h' → Ev G R Φ M (cu + mc) (su + ms) (pc + 3) ls (v.toList ++ st) h') : Ev G R Φ M cu su pc ls st0 h := by
  subst hst0
  refine ev_run (Qx := fun _ _ => False) (a := (Value.ref (gB G + a) :: As.map (tv G)).toArray) (fun p e s m args below meth c H locs lsA hB hO hL hH hZ hS hsz => ?_) kr (fun _ _ hF => hF.elim)
  have hpre := am_pre (as := .ref a :: As) hO hH hZ hS hsz
  exact am_runX (va_runVN (own := mo M) (C := (my N).cls) (host := host) (b := gB G + a) (As := As.map (tv G)) ⟨hB.1, hB.2.1, hB.2.2.2.1, hB.2.2.2.2.1, hB.2.2.2.2.2.1⟩ hM.met
    ⟨va_cnB n hB.2.2.2.2.2.1 (am_good (am_ws_in ok.1)) rfl rfl rfl (hO.2.1 _ hw) (hB.2.2.2.2.2.1 _ ok.1.2.1) ok.1.2.2.1 (hf.room ok.1.2.2.2), hB.2.2.2.2.2.1 _ ok.2.1, hB.2.2.2.2.2.1 _ ok.2.2⟩ ⟨hpre.1, by rw [← hr]; exact am_recv hO.1 hH ha hc, hpre.2⟩ rfl (by rw [List.length_map]; exact hn) hL.1 (by simp [tv]) (by rw [tv_cats]; exact lv_room hst) hd hcs)
theorem ev_invI {N : am_M} {idx n d a : Nat} {As : List Value} (hM : am_Met G d N mc ms (.ref a :: As) h Qr (fun _ _ => False)) (hd : decode (mb M) pc = .ok (.invokespecial idx, 3)) (ok : am_okI N n) (hw : Cond.methodLink (mo M) idx (my N) ∈ am_WT) (hn : As.length = n) (hst : (st.map fun v => v.category).sum ≤ 8) (hst0 : st0 = As.reverse ++ .ref a :: st) (hf : am_fit R d) (hcs : cu + mc ≤ R.cells ∧ su + ms ≤ R.slots)
    (kr : ∀ (v : Option Value) (h' : am_H), Qr v h' → Ev G R Φ M (cu + mc) (su + ms) (pc + 3) ls (v.toList ++ st) h') : Ev G R Φ M cu su pc ls st0 h := by
  subst hst0
  refine ev_run (Qx := fun _ _ => False) (a := (Value.ref (gB G + a) :: As.map (tv G)).toArray) (fun p e s m args below meth c H locs lsA hB hO hL hH hZ hS hsz => ?_) kr (fun _ _ hF => hF.elim)
  have hM2 := hM.met
  have hw2 : am_ws N = Cond.code (my N) (mb N) (mL N) none :: am_WT := by rw [am_ws, ok.2.2.2]
  exact am_runX (va_runI (own := mo M) (b := gB G + a) (As := As.map (tv G)) ⟨hB.1, hB.2.1, hB.2.2.2.1, hB.2.2.2.2.1, hB.2.2.2.2.2.1⟩ hM2
    (cwI n hB.2.2.2.2.2.1 (am_good (am_ws_in ok.1)) hw2 rfl rfl (hB.2.2.2.2.2.1 _ ok.1.2.1) (hB.2.2.2.2.2.1 _ hw) (hB.2.2.2.2.2.1 _ ok.2.1) ok.2.2.1 ok.1.2.2.1 (hf.room ok.1.2.2.2)) (am_pre (as := .ref a :: As) hO hH hZ hS hsz) rfl (by rw [List.length_map]; exact hn) hL.1 (by simp [tv]) (by rw [tv_cats]; exact lv_room hst) hd hcs)
theorem ev_invIN {N : am_M} {idx n d a : Nat} {host : String} {As : List Value} (hM : am_Met G d N mc ms (.ref a :: As) h Qr (fun _ _ => False)) (hd : decode (mb M) pc = .ok (.invokespecial idx, 3)) (ok : am_okI N n) (hw : Cond.methodLinkNest (mo M) idx (my N) host ∈ am_nest) (hn : As.length = n) (hst : (st.map fun v => v.category).sum ≤ 8) (hst0 : st0 = As.reverse ++ .ref a :: st) (hf : am_fit R d) (hcs : cu + mc ≤ R.cells ∧ su + ms ≤ R.slots)
    (kr : ∀ (v : Option Value) (h' : am_H), Qr v h' → Ev G R Φ M (cu + mc) (su + ms) (pc + 3) ls (v.toList ++ st) h') : Ev G R Φ M cu su pc ls st0 h := by
  subst hst0
  refine ev_run (Qx := fun _ _ => False) (a := (Value.ref (gB G + a) :: As.map (tv G)).toArray) (fun p e s m args below meth c H locs lsA hB hO hL hH hZ hS hsz => ?_) kr (fun _ _ hF => hF.elim)
  have hM2 := hM.met
  have hw2 : am_ws N = Cond.code (my N) (mb N) (mL N) none :: am_WT := by rw [am_ws, ok.2.2.2]
  exact am_runX (va_runIN (own := mo M) (host := host) (b := gB G + a) (As := As.map (tv G)) ⟨hB.1, hB.2.1, hB.2.2.2.1, hB.2.2.2.2.1, hB.2.2.2.2.2.1⟩ hM2
    ⟨va_cnB n hB.2.2.2.2.2.1 (am_good (am_ws_in ok.1)) hw2 rfl rfl (hO.2.1 _ hw) (hB.2.2.2.2.2.1 _ ok.1.2.1) ok.1.2.2.1 (hf.room ok.1.2.2.2), ok.2.2.1, hB.2.2.2.2.2.1 _ ok.2.1⟩ (am_pre (as := .ref a :: As) hO hH hZ hS hsz) rfl (by rw [List.length_map]; exact hn) hL.1 (by simp [tv]) (by rw [tv_cats]; exact lv_room hst) hd hcs)
end EVC
/-! a method's entry -/
theorem am_args {G : am_G} (as : List Value) (hc : as.all (fun v => v.category == 1) = true) : ∀ (i j : Nat) (v : Value), as[j]? = some v → (i + j, tv G v) ∈ lv_args i (as.map (tv G)) := by
  induction as with
  | nil => intro i j v h; simp at h
  | cons x t ih =>
    intro i j v h
    simp only [List.all_cons, Bool.and_eq_true, beq_iff_eq] at hc
    have hx : ¬ (tv G x).category = 2 := by rw [tv_cat]; omega
    cases j with
    | zero => simp at h; subst h; simp [lv_args]
    | succ j =>
      simp at h
      have := ih hc.2 (i + 1) j v h
      simp only [List.map_cons, lv_args, if_neg hx]
      rw [show i + (j + 1) = i + 1 + j by omega]
      exact List.mem_cons_of_mem _ this
theorem am_slen {G : am_G} (as : List Value) (hc : as.all (fun v => v.category == 1) = true) : (lg_sl (as.map (tv G))).length = as.length := by
  induction as with
  | nil => rfl
  | cons x t ih =>
    simp only [List.all_cons, Bool.and_eq_true, beq_iff_eq] at hc
    have hx : ¬ (tv G x).category = 2 := by rw [tv_cat]; omega
    have := ih hc.2
    simp only [lg_sl] at this
    simp [lg_sl, hx, this]
def am_ls0 (as : List Value) (n : Nat) : List (Option Value) := as.map some ++ List.replicate (n - as.length) none
theorem am_entry {G : am_G} {as : List Value} {n : Nat} {lsA : Array Slot} (hc : as.all (fun v => v.category == 1) = true) (h : lv_has lsA n (lv_args 0 (as.map (tv G)))) : am_LS G lsA n (am_ls0 as n) := by
  refine ⟨h.1, h.2.1, fun i v hi => ?_⟩
  have hlt : i < as.length := by
    rcases Nat.lt_or_ge i as.length with q | q
    · exact q
    · rw [am_ls0, List.getElem?_append_right (by simpa using q)] at hi
      simp [List.getElem?_replicate] at hi
  rw [am_ls0, List.getElem?_append_left (by simpa using hlt), List.getElem?_map] at hi
  have ha : as[i]? = some v := by
    cases hx : as[i]? with
    | none => simp [hx] at hi
    | some w => simp [hx] at hi; rw [hi]
  have := h.2.2 _ (am_args (G := G) as hc 0 i v ha)
  simpa using this
theorem am_of {G : am_G} {d mc ms : Nat} {M : am_M} {as : List Value} {h : am_H} {Qr : Option Value → am_H → Prop} {Qx : String → am_H → Prop} (hy : plainName (my M).cls = true) (ho : (my M).cls = mo M) (hh : mh M = []) (hc : as.all (fun v => v.category == 1) = true) (hn : as.length ≤ mL M)
    (body : Ev G (am_R d mc ms) (am_Φ G h mc ms Qr Qx) M 0 0 0 (am_ls0 as (mL M)) [] h) : am_Met G d M mc ms as h Qr Qx := by
  refine vx_ofW hy rfl ?_
  intro p e s m args below meth c s₁ B hml ht hP
  obtain ⟨rfl, hO, hH, hZ⟩ := hP
  have hts := atoms_spec (ws := am_ws M) B.pre
  have hl := lv_entry (as.map (tv G)) (n := mL M) (by rw [am_slen as hc]; exact hn)
  rw [lg_entry_eq]
  generalize (lg_sl (as.map (tv G)) ++ List.replicate (mL M - (lg_sl (as.map (tv G))).length) Slot.unset).toArray = ls at hl ⊢
  refine body p e s m _ below meth c s.heap [] ls ⟨B.exec, B.bytes, B.returns, hml, ?_, fun w hw => hts w (List.mem_cons_of_mem _ hw), B.notSynchronized, (name_of_methodNamed B.named B.method).1, ?_⟩ hO (am_entry hc hl) hH hZ va_S.rf
  · rw [← ho]
    exact findClass_of_methodNamed B.named
  · rw [hh]
    cases hx : c.exceptionTable.toList with
    | nil => rfl
    | cons x t => exact (ht x (by rw [hx]; exact List.mem_cons_self)).elim
/-! of a contract, more is taken as known; weaker ends -/
theorem am_Met.mono {G : am_G} {d mc ms : Nat} {M : am_M} {as : List Value} {h : am_H} {Qr Qr' : Option Value → am_H → Prop} {Qx Qx' : String → am_H → Prop} (hM : am_Met G d M mc ms as h Qr Qx) (h1 : ∀ v h', Qr v h' → Qr' v h') (h2 : ∀ E h', Qx E h' → Qx' E h') : am_Met G d M mc ms as h Qr' Qx' := by
  intro p e q1 q2 q3 s m args below q4 q5 q6 q7
  obtain ⟨n, o, a1, a2, a3, a4⟩ := hM p e q1 q2 q3 s m args below q4 q5 q6 q7
  refine ⟨n, o, a1, a2, a3, ?_⟩
  rcases a4 with ⟨⟨⟨v, h', r1, r2, r3, r4⟩, r5⟩, r6⟩ | ⟨q, e1, E, ce, L, ⟨⟨h', r1, r2⟩, r3⟩, r4⟩
  · exact Or.inl ⟨⟨⟨v, h', r1, h1 v h' r2, r3, r4⟩, r5⟩, r6⟩
  · exact Or.inr ⟨q, e1, E, ce, L, ⟨⟨h', h2 E h' r1, r2⟩, r3⟩, r4⟩
