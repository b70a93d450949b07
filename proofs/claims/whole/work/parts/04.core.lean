/-! THE THIN JUDGEMENT: Ev, over abstract cells: cell k stands at the address gB G + k; '.ref k' is relative, '.float i' a frozen reference (a string constant, a static row, the script) -/
abbrev am_G : Type := Launch × (Nat → ClassId) × (Nat → Nat → Nat) × (Nat → ClassId) × Nat × (Nat → Nat) × (Nat → Nat) × Nat × (Nat → Int32)
def gL (G : am_G) : Launch := G.1
def gD (G : am_G) : va_G := (G.2.1, G.2.2.1)
def gY (G : am_G) : Nat → ClassId := G.2.2.2.1
def gB (G : am_G) : Nat := G.2.2.2.2.1
def gS (G : am_G) : Nat → Nat := G.2.2.2.2.2.1
def gV (G : am_G) : Nat → Nat := G.2.2.2.2.2.2.1
def gN (G : am_G) : Nat := G.2.2.2.2.2.2.2.1
def gX (G : am_G) : Nat → Int32 := G.2.2.2.2.2.2.2.2
abbrev am_E : Type := (Nat × vp_A) ⊕ (Nat × List Value)
abbrev am_H : Type := List am_E × Nat
def tv (G : am_G) (v : Value) : Value := match v with
  | .ref k => .ref (gB G + k)
  | .float i => .ref (gS G i.toNat)
  | v => v
def ta (G : am_G) (a : vp_A) : vp_A := (a.1, match a.2 with
  | .inr (.inr (.inr (.inr f))) => .inr (.inr (.inr (.inr (fun j => (f j).map (fun k => gB G + k)))))
  | c => c)
def te (G : am_G) (e : am_E) : va_E := match e with
  | .inl a => .inl (gY G a.1, ta G a.2)
  | .inr o => .inr (o.1, o.2.map (tv G))
def tw (G : am_G) (h : List am_E) : va_W := h.mapIdx (fun k c => (gB G + k, te G c))
def am_A (G : am_G) : Nat → Prop := fun q => gB G ≤ q
abbrev am_cl : List vw_C := [(RX0, TX0, 3), (RX1, TX1, 15), (RX2, TX2, 2), (RX3, TX3, 4), (RX4, TX4, 5), (RX5, TX5, 3), (RX6, TX6, 6), (RX7, TX7, 1), (RX8, TX8, 7), (RX9, TX9, 19), (RX10, TX10, 67)]
def am_ty (t : Nat) : FieldType := match t with
  | 0 => .byte
  | 1 => .int
  | 2 => .boolean
  | 3 => .object RX7
  | _ => .long
def am_tys (G : am_G) : List (ClassId × FieldType) := [(gY G 0, .byte), (gY G 1, .int), (gY G 2, .boolean), (gY G 3, .object RX7), (gY G 4, .long)]
def am_L (G : am_G) (h : am_H) (H : Heap) : Prop := va_P (gD G) am_cl (tw G h.1) H
/-- cu cells were made since s; while the heap isn't sealed (h.2 = 0) they are the last of the list, all of them -/
def am_sz (G : am_G) (h : am_H) (s : State) (cu : Nat) : Prop := gB G ≤ s.heap.size ∧ (h.2 = 0 → s.heap.size + cu = gB G + h.1.length)
theorem am_L.lb {G : am_G} {h : am_H} {s : State} {H : Heap} {cu : Nat} (hP : am_L G h H) (hz : am_sz G h s cu) (hs : s.heap.size ≤ H.size) : gB G + h.1.length ≤ H.size := by
  cases hl : h.1.length with
  | zero => exact Nat.le_trans hz.1 hs
  | succ n =>
    have hn : h.1[n]? = some (h.1[n]'(by omega)) := List.getElem?_eq_getElem (by omega)
    have := (hP n _ (by simp [tw, List.getElem?_mapIdx, hn]; rfl)).lt
    simp at this
    omega
def am_up (h : am_H) (k : Nat) (c : am_E) : am_H := (h.1.set k c, h.2)
theorem tw_get {G : am_G} {h : List am_E} {k : Nat} {c : am_E} (hk : h[k]? = some c) : (tw G h)[k]? = some (gB G + k, te G c) := by
  simp [tw, List.getElem?_mapIdx, hk]
theorem tw_set {G : am_G} {h : List am_E} {k : Nat} {c : am_E} : (tw G h).set k (gB G + k, te G c) = tw G (h.set k c) := by
  simp [tw, List.mapIdx_set]
theorem tw_at {G : am_G} {h : List am_E} {k : Nat} {q : Nat × va_E} (hk : (tw G h)[k]? = some q) : q.1 = gB G + k := by
  simp only [tw, List.getElem?_mapIdx] at hk
  cases hc : h[k]? with
  | none => simp [hc] at hk
  | some c => simp [hc] at hk; rw [← hk]
theorem tw_D (G : am_G) (h : List am_E) : va_D (am_A G) (tw G h) := by
  refine ⟨fun i j p q hi hj he => ?_, fun k q hk => ?_⟩
  · rw [tw_at hi, tw_at hj] at he
    omega
  · show gB G ≤ q.1
    rw [tw_at hk]
    omega
theorem tw_push {G : am_G} {h : List am_E} {c : am_E} : tw G h ++ [(gB G + h.length, te G c)] = tw G (h ++ [c]) := by
  simp [tw, List.mapIdx_append]
theorem tw_len {G : am_G} {h : List am_E} : (tw G h).length = h.length := by simp [tw]
theorem tv_cat (G : am_G) (v : Value) : (tv G v).category = v.category := by cases v <;> rfl
theorem tv_cats (G : am_G) (st : List Value) : ((st.map (tv G)).map fun v => v.category) = st.map fun v => v.category := by
  simp [tv_cat, Function.comp_def]
/-- the locals -/
def am_LS (G : am_G) (lsA : Array Slot) (nL : Nat) (ls : List (Option Value)) : Prop := lsA.size = nL ∧ lv_wf lsA ∧ ∀ (i : Nat) (v : Value), ls[i]? = some (some v) → lsA[i]? = some (.val (tv G v))
def am_lv (G : am_G) (ls : List (Option Value)) : List (Nat × Value) := (List.range ls.length).filterMap (fun i => (ls.getD i none).map (fun v => (i, tv G v)))
theorem am_lv_mem {G : am_G} {ls : List (Option Value)} {i : Nat} {v : Value} (h : ls[i]? = some (some v)) : (i, tv G v) ∈ am_lv G ls := by
  have hlt : i < ls.length := (List.getElem?_eq_some_iff.mp h).1
  exact List.mem_filterMap.mpr ⟨i, List.mem_range.mpr hlt, by simp [List.getD_eq_getElem?_getD, h]⟩
theorem am_lv_of {G : am_G} {ls : List (Option Value)} {q : Nat × Value} (h : q ∈ am_lv G ls) : ∃ v, ls[q.1]? = some (some v) ∧ q.2 = tv G v := by
  obtain ⟨i, hi, hv⟩ := List.mem_filterMap.mp h
  have hlt := List.mem_range.mp hi
  rw [List.getD_eq_getElem?_getD] at hv
  cases hl : ls[i]? with
  | none => simp [hl] at hv
  | some o =>
    cases o with
    | none => simp [hl] at hv
    | some v => simp [hl] at hv; subst hv; exact ⟨v, hl, rfl⟩
theorem am_LS.has {G : am_G} {lsA : Array Slot} {nL : Nat} {ls : List (Option Value)} (h : am_LS G lsA nL ls) : lv_has lsA nL (am_lv G ls) := by
  refine ⟨h.1, h.2.1, fun q hq => ?_⟩
  obtain ⟨v, h1, h2⟩ := am_lv_of hq
  rw [h2]
  exact h.2.2 _ _ h1
/-- no value of two slots stands just ahead of i -/
def am_nl (ls : List (Option Value)) (i : Nat) : Bool := match ls[i - 1]? with
  | some (some (.long _)) => false
  | some (some (.double _)) => false
  | _ => true
theorem am_LS.st1 {G : am_G} {lsA' : Array Slot} {nL i : Nat} {ls : List (Option Value)} {v : Value} (hn : am_nl ls i = true) (h : lv_has lsA' nL ((i, tv G v) :: (am_lv G ls).filter (fun q => !(q.1 == i) && !(q.1 + 1 == i && q.2.category == 2)))) : am_LS G lsA' nL (ls.set i (some v)) := by
  refine ⟨h.1, h.2.1, fun j w hj => ?_⟩
  by_cases hji : i = j
  · subst hji
    rw [List.getElem?_set] at hj
    simp at hj
    obtain ⟨-, rfl⟩ := hj
    exact h.2.2 (i, tv G v) List.mem_cons_self
  · rw [List.getElem?_set_ne hji] at hj
    refine h.2.2 (j, tv G w) (List.mem_cons_of_mem _ (List.mem_filter.mpr ⟨am_lv_mem hj, ?_⟩))
    have h1 : ¬ j = i := fun e => hji e.symm
    by_cases h2 : j + 1 = i
    · subst h2
      simp only [am_nl, Nat.add_sub_cancel, hj] at hn
      cases w <;> simp_all [tv, Value.category]
    · simp [h1, h2]
theorem am_LS.st2 {G : am_G} {lsA' : Array Slot} {nL i : Nat} {ls : List (Option Value)} {v : Value} (hn : am_nl ls i = true) (h : lv_has lsA' nL ((i, tv G v) :: (am_lv G ls).filter (fun q => !(q.1 == i) && (!(q.1 == i + 1) && !(q.1 + 1 == i && q.2.category == 2))))) : am_LS G lsA' nL ((ls.set i (some v)).set (i + 1) none) := by
  refine ⟨h.1, h.2.1, fun j w hj => ?_⟩
  by_cases hj1 : i + 1 = j
  · subst hj1
    rw [List.getElem?_set] at hj
    simp at hj
  · rw [List.getElem?_set_ne hj1] at hj
    by_cases hji : i = j
    · subst hji
      rw [List.getElem?_set] at hj
      simp at hj
      obtain ⟨-, rfl⟩ := hj
      exact h.2.2 (i, tv G v) List.mem_cons_self
    · rw [List.getElem?_set_ne hji] at hj
      refine h.2.2 (j, tv G w) (List.mem_cons_of_mem _ (List.mem_filter.mpr ⟨am_lv_mem hj, ?_⟩))
      have h1 : ¬ j = i := fun e => hji e.symm
      have h3 : ¬ j = i + 1 := fun e => hj1 e.symm
      by_cases h2 : j + 1 = i
      · subst h2
        simp only [am_nl, Nat.add_sub_cancel, hj] at hn
        cases w <;> simp_all [tv, Value.category]
      · simp [h1, h2, h3]
/-- an unknown value over an old one -/
theorem am_LS.un {G : am_G} {lsA' : Array Slot} {nL i : Nat} {ls : List (Option Value)} {x : Value} (hn : am_nl ls i = true) (h : lv_has lsA' nL ((i, x) :: (am_lv G ls).filter (fun q => !(q.1 == i) && !(q.1 + 1 == i && q.2.category == 2)))) : am_LS G lsA' nL (ls.set i none) := by
  refine ⟨h.1, h.2.1, fun j w hj => ?_⟩
  by_cases hji : i = j
  · subst hji
    rw [List.getElem?_set] at hj
    simp at hj
  · rw [List.getElem?_set_ne hji] at hj
    refine h.2.2 (j, tv G w) (List.mem_cons_of_mem _ (List.mem_filter.mpr ⟨am_lv_mem hj, ?_⟩))
    have h1 : ¬ j = i := fun e => hji e.symm
    by_cases h2 : j + 1 = i
    · subst h2
      simp only [am_nl, Nat.add_sub_cancel, hj] at hn
      cases w <;> simp_all [tv, Value.category]
    · simp [h1, h2]
