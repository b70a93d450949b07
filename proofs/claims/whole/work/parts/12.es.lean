theorem hpL_la {Y : List am_Y} {S : am_S} {k n j : Nat} {x : Int64} (h : Y[k]? = some (.inl (4, n))) (hk : 0 < k) (hone : ∀ a m, Y[a]? = some (.inl (4, m)) → a = k) : am_up (hpL Y S) k (.inl (4, n, .inr (.inl (vp_updL (fun i => lg S (k + i)) j x)))) = hpL Y (lp S (k + j) x) := by
  refine Prod.ext ?_ rfl
  show (Y.mapIdx (am_cell S)).set k _ = Y.mapIdx (am_cell (lp S (k + j) x))
  refine List.ext_getElem? (fun i => ?_)
  by_cases hi : k = i
  · subst hi
    have hl := (List.getElem?_eq_some_iff.mp h).1
    rw [List.getElem?_set_self (by simpa using hl), List.getElem?_mapIdx, h]
    have e1 : vp_updL (fun i => lg S (k + i)) j x = fun i => lg (lp S (k + j) x) (k + i) := by
      funext i
      simp only [lg, lp, vp_updL]
      by_cases hij : i = j
      · subst hij; simp
      · simp [hij]
    rw [e1]
    rfl
  · rw [List.getElem?_set_ne hi, List.getElem?_mapIdx, List.getElem?_mapIdx]
    cases he : Y[i]? with
    | none => simp
    | some e =>
      simp only [Option.map_some]
      refine congrArg some ?_
      cases e with
      | inl y =>
        obtain ⟨t, m⟩ := y
        have ht : Nat.beq t 4 = false := by
          cases hb : Nat.beq t 4 with
          | false => rfl
          | true =>
            have := Nat.eq_of_beq_eq_true hb
            subst this
            exact absurd (hone i m he).symm hi
        simp [am_cell, ht, lp]
      | inr y =>
        obtain ⟨c, fs⟩ := y
        simp only [am_cell]
        refine congrArg (fun l => (Sum.inr (c, l) : am_E)) ?_
        refine congrArg (fun f => fs.mapIdx f) ?_
        funext a d
        cases d with
        | none => rfl
        | some r =>
          have h0 : lg (lp S (k + j) x) 0 = lg S 0 := by
            simp only [lg, lp, vp_updL]
            rw [if_neg (by omega)]
          simp only [am_fv, h0]
          simp [rg, lp]
theorem hpL_lf {Y : List am_Y} {S : am_S} {k ci j : Nat} {fds : List (Option Nat)} {v : Int64} (h : Y[k]? = some (.inr (ci, fds))) (hj : fds[j]? = some (some 1000)) (hone : ∀ a b : Nat, ∀ c fs, Y[a]? = some (.inr (c, fs)) → fs[b]? = some (some 1000) → a = k ∧ b = j) (hpos : ∀ a m, Y[a]? = some (.inl (4, m)) → 0 < a) : am_up (hpL Y S) k (.inr (ci, (fds.mapIdx (fun j d => am_fv S k j d)).set j (.long v))) = hpL Y (lp S 0 v) := by
  refine Prod.ext ?_ rfl
  show (Y.mapIdx (am_cell S)).set k _ = Y.mapIdx (am_cell (lp S 0 v))
  have hfv : ∀ (a b : Nat) (d : Option Nat), d ≠ some 1000 → am_fv S a b d = am_fv (lp S 0 v) a b d := by
    intro a b d hd
    cases d with
    | none => rfl
    | some r =>
      simp only [am_fv]
      cases h1 : Nat.blt r 1000 with
      | true => simp only [cond_true]
      | false =>
        cases h2 : Nat.beq r 1000 with
        | true => exact absurd (by rw [Nat.eq_of_beq_eq_true h2]) hd
        | false => simp only [cond_false, rg, lp]
  refine List.ext_getElem? (fun x => ?_)
  by_cases hi : k = x
  · subst hi
    have hl := (List.getElem?_eq_some_iff.mp h).1
    rw [List.getElem?_set_self (by simpa using hl), List.getElem?_mapIdx, h]
    simp only [Option.map_some, am_cell]
    refine congrArg (fun l => (some (Sum.inr (ci, l)) : Option am_E)) ?_
    refine List.ext_getElem? (fun a => ?_)
    by_cases ha : j = a
    · subst ha
      have hl2 := (List.getElem?_eq_some_iff.mp hj).1
      rw [List.getElem?_set_self (by simpa using hl2), List.getElem?_mapIdx, hj]
      rfl
    · rw [List.getElem?_set_ne ha, List.getElem?_mapIdx, List.getElem?_mapIdx]
      cases hd : fds[a]? with
      | none => simp
      | some d =>
        simp only [Option.map_some]
        rw [hfv k a d (fun q => ha (hone k a ci fds h (by rw [hd, q])).2.symm)]
  · rw [List.getElem?_set_ne hi, List.getElem?_mapIdx, List.getElem?_mapIdx]
    cases he : Y[x]? with
    | none => simp
    | some e =>
      simp only [Option.map_some]
      refine congrArg some ?_
      cases e with
      | inl y =>
        obtain ⟨t, m⟩ := y
        cases hb : Nat.beq t 4 with
        | false => simp [am_cell, hb, lp]
        | true =>
          have := Nat.eq_of_beq_eq_true hb
          subst this
          have hp := hpos x m he
          have : (fun i => lg S (x + i)) = fun i => lg (lp S 0 v) (x + i) := by
            funext i
            simp only [lg, lp, vp_updL]
            rw [if_neg (by omega)]
          simp only [am_cell, this]
          simp [lp]
      | inr y =>
        obtain ⟨c, fs⟩ := y
        simp only [am_cell]
        refine congrArg (fun l => (Sum.inr (c, l) : am_E)) ?_
        refine List.ext_getElem? (fun a => ?_)
        rw [List.getElem?_mapIdx, List.getElem?_mapIdx]
        cases hd : fs[a]? with
        | none => simp
        | some d =>
          simp only [Option.map_some]
          rw [hfv x a d (fun q => hi (hone x a c fs he (by rw [hd, q])).1.symm)]
/-- a descriptor stands at one place alone -/
def am_only (r k j : Nat) : Bool := (am_lay.zipIdx).all (fun q => match q.1 with
  | .inr (_, fs) => (fs.zipIdx).all (fun d => !(d.1 == some r) || (Nat.beq q.2 k && Nat.beq d.2 j))
  | _ => true)
theorem am_only_of {r k j : Nat} (h : am_only r k j = true) : ∀ a b : Nat, ∀ c fs, am_lay[a]? = some (.inr (c, fs)) → fs[b]? = some (some r) → a = k ∧ b = j := by
  intro a b c fs h1 h2
  have h3 := List.all_eq_true.mp h (.inr (c, fs), a) (List.mem_zipIdx_iff_getElem?.mpr h1)
  have h4 := List.all_eq_true.mp h3 (some r, b) (List.mem_zipIdx_iff_getElem?.mpr h2)
  simp at h4
  exact h4
def am_onlyL (k : Nat) : Bool := (am_lay.zipIdx).all (fun q => match q.1 with
  | .inl (t, _) => !(Nat.beq t 4) || Nat.beq q.2 k
  | _ => true)
theorem am_onlyL_of {k : Nat} (h : am_onlyL k = true) : ∀ a m, am_lay[a]? = some (.inl (4, m)) → a = k := by
  intro a m h1
  have h3 := List.all_eq_true.mp h (.inl (4, m), a) (List.mem_zipIdx_iff_getElem?.mpr h1)
  simp at h3
  exact h3
theorem am_kd0 {d : Option Nat} (h : am_kd d = 0) : d = none := by
  cases d with
  | none => rfl
  | some r =>
    simp only [am_kd] at h
    cases h1 : Nat.blt r 1000 with
    | true => rw [h1] at h; cases h
    | false =>
      rw [h1] at h
      have h3 : ¬ r < 1000 := fun q => by rw [show Nat.blt r 1000 = true from Nat.ble_eq.mpr q] at h1; cases h1
      simp at h
      omega
theorem am_kd1 {d : Option Nat} (h : am_kd d = 1) : ∃ r, d = some r ∧ Nat.blt r 1000 = true := by
  cases d with
  | none => cases h
  | some r =>
    simp only [am_kd] at h
    cases h1 : Nat.blt r 1000 with
    | true => exact ⟨r, rfl, h1⟩
    | false =>
      rw [h1] at h
      have h3 : ¬ r < 1000 := fun q => by rw [show Nat.blt r 1000 = true from Nat.ble_eq.mpr q] at h1; cases h1
      simp at h
      omega
theorem am_kd2 {d : Option Nat} {i : Nat} (h : am_kd d = i + 2) : d = some (1000 + i) := by
  cases d with
  | none => cases h
  | some r =>
    simp only [am_kd] at h
    cases h1 : Nat.blt r 1000 with
    | true => rw [h1] at h; simp at h
    | false =>
      rw [h1] at h
      have h3 : ¬ r < 1000 := fun q => by rw [show Nat.blt r 1000 = true from Nat.ble_eq.mpr q] at h1; cases h1
      simp at h
      rw [show r = 1000 + i by omega]
/-- what the tables say of a class -/
def am_ok (ci : Nat) (C : String) (T : u_T) (ty : Nat → FieldType) (N : Nat) : Prop := (∀ w ∈ u_ws C T N, w ∈ am_WT) ∧ (∀ k, k < N → parseFieldDescriptor (T k).2.2.1 = some (ty k)) ∧ (∀ a, a < N → ∀ b, b < N → a ≠ b → (T a).2.1 ≠ (T b).2.1) ∧ am_cl[ci]? = some (C, T, N)
def am_fl (M : am_M) (idx : Nat) (ref n d : String) : Prop := Cond.fieldLink (mo M) idx ref n d ∈ am_WT ∨ ∃ host, Cond.fieldLinkNest (mo M) idx ref n d host ∈ am_nest
/-- an index within n places -/
def inb (i : Int32) (n : Nat) : Bool := decide (¬ i < 0) && Nat.blt i.toNatClampNeg n
theorem inb_in {i : Int32} {n : Nat} (h : inb i n = true) : vp_in i n := by
  simp only [inb, Bool.and_eq_true, decide_eq_true_eq] at h
  have h2 : i.toNatClampNeg < n := Nat.ble_eq.mp h.2
  rintro (q | q)
  · exact h.1 q
  · omega
section ES
variable {G : am_G} {R : Room} {Φ : List Frame → Array Value → State → State → Prop} {M : am_M} {cu su pc : Nat} {ls : List (Option Value)} {st : List Value} {S : am_S} {ci N idx k : Nat} {C ref : String} {T : u_T} {ty : Nat → FieldType}
theorem es_get {v : Value} {fds : List (Option Nat)} {d : Option Nat} (K : am_ok ci C T ty N) (j : Nat) (hd : decode (mb M) pc = .ok (.getfield idx, 3)) (hj : j < N) (hr : ref = (T j).1) (hw : am_fl M idx ref (T j).2.1 (T j).2.2.1) (h1 : am_lay[k]? = some (.inr (ci, fds))) (h2 : fds[j]? = some d) (hv : am_fv S k j d = v) (kk : Ev G R Φ M cu su (pc + 3) ls (v :: st) (hp S)) : Ev G R Φ M cu su pc ls (.ref k :: st) (hp S) := by
  have hf : (fds.mapIdx (fun j d => am_fv S k j d))[j]? = some v := by rw [List.getElem?_mapIdx, h2, ← hv]; rfl
  rcases hw with hw | ⟨host, hw⟩
  · exact ev_get j hd K.1 K.2.2.2 hj hr hw (hp_get h1) hf kk
  · exact ev_getN j hd K.1 K.2.2.2 hj hr hw (hp_get h1) hf kk
theorem es_geti (K : am_ok ci C T ty N) (j : Nat) (hd : decode (mb M) pc = .ok (.getfield idx, 3)) (hj : j < N) (hr : ref = (T j).1) (hw : am_fl M idx ref (T j).2.1 (T j).2.2.1) (hc : isC ci k = true) (hk : (cfs ci)[j]? = some 0) (kk : Ev G R Φ M cu su (pc + 3) ls (.int (sg S k j) :: st) (hp S)) : Ev G R Φ M cu su pc ls (.ref k :: st) (hp S) := by
  obtain ⟨fds, d, h1, h2, h3⟩ := isC_fd hc hk
  cases am_kd0 h3
  exact es_get K j hd hj hr hw h1 h2 rfl kk
theorem es_getr (K : am_ok ci C T ty N) (j : Nat) (hd : decode (mb M) pc = .ok (.getfield idx, 3)) (hj : j < N) (hr : ref = (T j).1) (hw : am_fl M idx ref (T j).2.1 (T j).2.2.1) (hc : isC ci k = true) (hk : (cfs ci)[j]? = some 1) (kk : Ev G R Φ M cu su (pc + 3) ls (.ref (rf k j) :: st) (hp S)) : Ev G R Φ M cu su pc ls (.ref k :: st) (hp S) := by
  obtain ⟨fds, d, h1, h2, h3⟩ := isC_fd hc hk
  obtain ⟨r, rfl, h4⟩ := am_kd1 h3
  refine es_get K j hd hj hr hw h1 h2 (v := .ref (rf k j)) ?_ kk
  simp [am_fv, h4, rf, h1, List.getD_eq_getElem?_getD, h2]
theorem es_getd (i : Nat) (K : am_ok ci C T ty N) (j : Nat) (hd : decode (mb M) pc = .ok (.getfield idx, 3)) (hj : j < N) (hr : ref = (T j).1) (hw : am_fl M idx ref (T j).2.1 (T j).2.2.1) (hc : isC ci k = true) (hk : (cfs ci)[j]? = some (i + 3)) (kk : Ev G R Φ M cu su (pc + 3) ls (.ref (rg S i) :: st) (hp S)) : Ev G R Φ M cu su pc ls (.ref k :: st) (hp S) := by
  obtain ⟨fds, d, h1, h2, h3⟩ := isC_fd hc hk
  cases am_kd2 (i := i + 1) h3
  refine es_get K j hd hj hr hw h1 h2 (v := .ref (rg S i)) ?_ kk
  have e1 : Nat.blt (1000 + (i + 1)) 1000 = false := by
    cases hb : Nat.blt (1000 + (i + 1)) 1000 with
    | false => rfl
    | true => exact absurd (Nat.ble_eq.mp hb) (by omega)
  have e2 : Nat.beq (1000 + (i + 1)) 1000 = false := by
    cases hb : Nat.beq (1000 + (i + 1)) 1000 with
    | false => rfl
    | true => exact absurd (Nat.eq_of_beq_eq_true hb) (by omega)
  simp only [am_fv, e1, e2, cond_false]
  rw [show 1000 + (i + 1) - 1001 = i by omega]
theorem es_getl (K : am_ok ci C T ty N) (j : Nat) (hd : decode (mb M) pc = .ok (.getfield idx, 3)) (hj : j < N) (hr : ref = (T j).1) (hw : am_fl M idx ref (T j).2.1 (T j).2.2.1) (hc : isC ci k = true) (hk : (cfs ci)[j]? = some 2) (kk : Ev G R Φ M cu su (pc + 3) ls (.long (lg S 0) :: st) (hp S)) : Ev G R Φ M cu su pc ls (.ref k :: st) (hp S) := by
  obtain ⟨fds, d, h1, h2, h3⟩ := isC_fd hc hk
  cases am_kd2 (i := 0) h3
  exact es_get K j hd hj hr hw h1 h2 rfl kk
theorem es_put {v : Value} {fds : List (Option Nat)} {d : Option Nat} (K : am_ok ci C T ty N) (j : Nat) (hd : decode (mb M) pc = .ok (.putfield idx, 3)) (hj : j < N) (hr : ref = (T j).1) (hw : am_fl M idx ref (T j).2.1 (T j).2.2.1) (hf : (T j).2.2.2 = false) (hn : narrow (ty j) (tv G v) = tv G v) (hfit : fits (ty j) (tv G v) = true) (h1 : am_lay[k]? = some (.inr (ci, fds))) (h2 : fds[j]? = some d) (kk : Ev G R Φ M cu su (pc + 3) ls st (am_up (hp S) k (.inr (ci, (fds.mapIdx (fun j d => am_fv S k j d)).set j v)))) : Ev G R Φ M cu su pc ls (v :: .ref k :: st) (hp S) := by
  have hl : j < (fds.mapIdx (fun j d => am_fv S k j d)).length := by
    rw [List.length_mapIdx]
    exact (List.getElem?_eq_some_iff.mp h2).1
  rcases hw with hw | ⟨host, hw⟩
  · exact ev_put j hd K.1 K.2.1 K.2.2.1 K.2.2.2 hj hr hw hf hn hfit (hp_get h1) hl kk
  · exact ev_putN j hd K.1 K.2.1 K.2.2.1 K.2.2.2 hj hr hw hf hn hfit (hp_get h1) hl kk
theorem es_puti {x : Int32} (K : am_ok ci C T ty N) (j : Nat) (hd : decode (mb M) pc = .ok (.putfield idx, 3)) (hj : j < N) (hr : ref = (T j).1) (hw : am_fl M idx ref (T j).2.1 (T j).2.2.1) (hf : (T j).2.2.2 = false) (hty : ty j = .int) (hc : isC ci k = true) (hk : (cfs ci)[j]? = some 0) (kk : Ev G R Φ M cu su (pc + 3) ls st (hp (sp S k j x))) : Ev G R Φ M cu su pc ls (.int x :: .ref k :: st) (hp S) := by
  obtain ⟨fds, d, h1, h2, h3⟩ := isC_fd hc hk
  cases am_kd0 h3
  refine es_put K j hd hj hr hw hf (by rw [hty]; rfl) (by rw [hty]; rfl) h1 h2 ?_
  rw [show hp S = hpL am_lay S from rfl, hpL_sp h1 h2]
  exact kk
theorem es_putz {x : Int32} (K : am_ok ci C T ty N) (j : Nat) (hd : decode (mb M) pc = .ok (.putfield idx, 3)) (hj : j < N) (hr : ref = (T j).1) (hw : am_fl M idx ref (T j).2.1 (T j).2.2.1) (hf : (T j).2.2.2 = false) (hty : ty j = .boolean) (hx : x = 0 ∨ x = 1) (hc : isC ci k = true) (hk : (cfs ci)[j]? = some 0) (kk : Ev G R Φ M cu su (pc + 3) ls st (hp (sp S k j x))) : Ev G R Φ M cu su pc ls (.int x :: .ref k :: st) (hp S) := by
  obtain ⟨fds, d, h1, h2, h3⟩ := isC_fd hc hk
  cases am_kd0 h3
  refine es_put K j hd hj hr hw hf (by rw [hty]; rcases hx with rfl | rfl <;> rfl) (by rw [hty]; rcases hx with rfl | rfl <;> rfl) h1 h2 ?_
  rw [show hp S = hpL am_lay S from rfl, hpL_sp h1 h2]
  exact kk
theorem es_putl {x : Int64} (K : am_ok ci C T ty N) (j : Nat) (hd : decode (mb M) pc = .ok (.putfield idx, 3)) (hj : j < N) (hr : ref = (T j).1) (hw : am_fl M idx ref (T j).2.1 (T j).2.2.1) (hf : (T j).2.2.2 = false) (hty : ty j = .long) (hc : isC ci k = true) (hk : (cfs ci)[j]? = some 2) (ho : am_only 1000 k j = true) (hol : am_onlyL 108 = true) (kk : Ev G R Φ M cu su (pc + 3) ls st (hp (lp S 0 x))) : Ev G R Φ M cu su pc ls (.long x :: .ref k :: st) (hp S) := by
  obtain ⟨fds, d, h1, h2, h3⟩ := isC_fd hc hk
  cases am_kd2 (i := 0) h3
  refine es_put K j hd hj hr hw hf (by rw [hty]; rfl) (by rw [hty]; rfl) h1 h2 ?_
  rw [show hp S = hpL am_lay S from rfl, hpL_lf h1 h2 (am_only_of ho) (fun a m ha => by rw [am_onlyL_of hol a m ha]; decide)]
  exact kk
theorem es_putd {x : Nat} (i : Nat) (K : am_ok ci C T ty N) (j : Nat) (hd : decode (mb M) pc = .ok (.putfield idx, 3)) (hj : j < N) (hr : ref = (T j).1) (hw : am_fl M idx ref (T j).2.1 (T j).2.2.1) (hf : (T j).2.2.2 = false) (hn : narrow (ty j) (.ref (gB G + x)) = .ref (gB G + x)) (hfit : fits (ty j) (.ref (gB G + x)) = true) (hc : isC ci k = true) (hk : (cfs ci)[j]? = some (i + 3)) (ho : am_only (1001 + i) k j = true) (kk : Ev G R Φ M cu su (pc + 3) ls st (hp (rp S i x))) : Ev G R Φ M cu su pc ls (.ref x :: .ref k :: st) (hp S) := by
  obtain ⟨fds, d, h1, h2, h3⟩ := isC_fd hc hk
  have h4 := am_kd2 (i := i + 1) h3
  rw [show 1000 + (i + 1) = 1001 + i by omega] at h4
  subst h4
  refine es_put K j hd hj hr hw hf hn hfit h1 h2 ?_
  rw [show hp S = hpL am_lay S from rfl, hpL_rp h1 h2 (am_only_of ho)]
  exact kk
theorem am_arr_get {t : Nat} (h : isAr t k = true) (h3 : Nat.beq t 3 = false) (h4 : Nat.beq t 4 = false) : (hp S).1[k]? = some (.inl (t, ln k, .inl (S.1 k))) := by
  rw [hp_get (isAr_of h)]
  simp [am_cell, h3, h4]
theorem es_iald {i : Int32} (hd : decode (mb M) pc = .ok (.iaload, 1)) (ha : isAr 1 k = true) (hi : inb i (ln k) = true) (kk : Ev G R Φ M cu su (pc + 1) ls (.int (sg S k i.toNatClampNeg) :: st) (hp S)) : Ev G R Φ M cu su pc ls (.int i :: .ref k :: st) (hp S) := ev_iaload hd (am_arr_get ha rfl rfl) (inb_in hi) kk
theorem es_bald {i : Int32} (hd : decode (mb M) pc = .ok (.baload, 1)) (ha : isAr 0 k = true) (hi : inb i (ln k) = true) (kk : Ev G R Φ M cu su (pc + 1) ls (.int (sg S k i.toNatClampNeg) :: st) (hp S)) : Ev G R Φ M cu su pc ls (.int i :: .ref k :: st) (hp S) := ev_baload hd (am_arr_get ha rfl rfl) (inb_in hi) kk
theorem es_zald {i : Int32} (hd : decode (mb M) pc = .ok (.baload, 1)) (ha : isAr 2 k = true) (hi : inb i (ln k) = true) (kk : Ev G R Φ M cu su (pc + 1) ls (.int (sg S k i.toNatClampNeg) :: st) (hp S)) : Ev G R Φ M cu su pc ls (.int i :: .ref k :: st) (hp S) := ev_zaload hd (am_arr_get ha rfl rfl) (inb_in hi) kk
theorem es_iast {i x : Int32} (hd : decode (mb M) pc = .ok (.iastore, 1)) (ha : isAr 1 k = true) (hi : inb i (ln k) = true) (kk : Ev G R Φ M cu su (pc + 1) ls st (hp (sp S k i.toNatClampNeg x))) : Ev G R Φ M cu su pc ls (.int x :: .int i :: .ref k :: st) (hp S) := by
  refine ev_iastore hd (am_arr_get ha rfl rfl) (inb_in hi) ?_
  rw [show hp S = hpL am_lay S from rfl, hpL_sw (isAr_of ha) rfl rfl, sw_sp]
  exact kk
theorem es_bast {i x : Int32} (hd : decode (mb M) pc = .ok (.bastore, 1)) (ha : isAr 0 k = true) (hi : inb i (ln k) = true) (kk : Ev G R Φ M cu su (pc + 1) ls st (hp (sp S k i.toNatClampNeg (vp_nar .byte x)))) : Ev G R Φ M cu su pc ls (.int x :: .int i :: .ref k :: st) (hp S) := by
  refine ev_bastore hd (am_arr_get ha rfl rfl) (inb_in hi) ?_
  rw [show hp S = hpL am_lay S from rfl, hpL_sw (isAr_of ha) rfl rfl, sw_sp]
  exact kk
theorem es_zast {i x : Int32} (hd : decode (mb M) pc = .ok (.bastore, 1)) (ha : isAr 2 k = true) (hi : inb i (ln k) = true) (kk : Ev G R Φ M cu su (pc + 1) ls st (hp (sp S k i.toNatClampNeg (vp_nar .boolean x)))) : Ev G R Φ M cu su pc ls (.int x :: .int i :: .ref k :: st) (hp S) := by
  refine ev_zastore hd (am_arr_get ha rfl rfl) (inb_in hi) ?_
  rw [show hp S = hpL am_lay S from rfl, hpL_sw (isAr_of ha) rfl rfl, sw_sp]
  exact kk
theorem es_alen {t : Nat} {tt : FieldType} (hd : decode (mb M) pc = .ok (.arraylength, 1)) (ha : isAr t k = true) (ht : (am_tys G)[t]? = some (gY G t, tt)) (kk : Ev G R Φ M cu su (pc + 1) ls (.int (nI (ln k)) :: st) (hp S)) : Ev G R Φ M cu su pc ls (.ref k :: st) (hp S) := by
  have h1 : (hp S).1[k]? = some (.inl (t, ln k, _)) := hp_get (isAr_of ha)
  exact ev_alen hd h1 ht kk
theorem es_aald {i : Int32} (hd : decode (mb M) pc = .ok (.aaload, 1)) (ha : isAr 3 k = true) (hi : inb i (ln k) = true) (kk : Ev G R Φ M cu su (pc + 1) ls (.ref (62 + 2 * i.toNatClampNeg) :: st) (hp S)) : Ev G R Φ M cu su pc ls (.int i :: .ref k :: st) (hp S) := by
  have h1 : (hp S).1[k]? = some (.inl (3, ln k, .inr (.inr (.inr (.inr (fun i => some (62 + 2 * i))))))) := hp_get (isAr_of ha)
  exact ev_aaload hd h1 (inb_in hi) rfl kk
theorem es_lald {i : Int32} (hd : decode (mb M) pc = .ok (.laload, 1)) (ha : isAr 4 k = true) (hi : inb i (ln k) = true) (kk : Ev G R Φ M cu su (pc + 1) ls (.long (lg S (k + i.toNatClampNeg)) :: st) (hp S)) : Ev G R Φ M cu su pc ls (.int i :: .ref k :: st) (hp S) := by
  have h1 : (hp S).1[k]? = some (.inl (4, ln k, .inr (.inl (fun i => lg S (k + i))))) := hp_get (isAr_of ha)
  exact ev_laload hd h1 (inb_in hi) kk
theorem es_last {i : Int32} {x : Int64} (hd : decode (mb M) pc = .ok (.lastore, 1)) (ha : isAr 4 k = true) (hi : inb i (ln k) = true) (hk : 0 < k) (hol : am_onlyL k = true) (kk : Ev G R Φ M cu su (pc + 1) ls st (hp (lp S (k + i.toNatClampNeg) x))) : Ev G R Φ M cu su pc ls (.long x :: .int i :: .ref k :: st) (hp S) := by
  have h1 : (hp S).1[k]? = some (.inl (4, ln k, .inr (.inl (fun i => lg S (k + i))))) := hp_get (isAr_of ha)
  refine ev_lastore hd h1 (inb_in hi) ?_
  rw [show hp S = hpL am_lay S from rfl, hpL_la (isAr_of ha) hk (am_onlyL_of hol)]
  exact kk
/-- arraycopy over the memory -/
def scp (S : am_S) (a sp0 b dp n : Nat) : am_S := sw S b (va_cpy (S.1 a) (S.1 b) sp0 dp n)
theorem es_copy {a b : Nat} {s0 d0 n : Int32} (hd : decode (mb M) pc = .ok (.invokestatic idx, 3)) (hw : Cond.methodLink (mo M) idx arraycopyName ∈ am_WT) (hw1 : Cond.native arraycopyName ∈ am_WT) (hw2 : Cond.static arraycopyName ∈ am_WT) (hw3 : Cond.initialized "java/lang/System" ∈ am_WT) (ha : isAr 1 a = true) (hb : isAr 1 b = true) (hc : (decide (¬ s0 < 0) && decide (¬ d0 < 0) && decide (¬ n < 0) && Nat.ble (s0.toNatClampNeg + n.toNatClampNeg) (ln a) && Nat.ble (d0.toNatClampNeg + n.toNatClampNeg) (ln b)) = true) (hst : (st.map fun v => v.category).sum ≤ 8) (hf : am_fit R 0) (kk : Ev G R Φ M cu su (pc + 3) ls st (hp (scp S a s0.toNatClampNeg b d0.toNatClampNeg n.toNatClampNeg))) : Ev G R Φ M cu su pc ls (.int n :: .int d0 :: .ref b :: .int s0 :: .ref a :: st) (hp S) := by
  simp only [Bool.and_eq_true, decide_eq_true_eq, Nat.ble_eq] at hc
  obtain ⟨⟨⟨⟨h1, h2⟩, h3⟩, h4⟩, h5⟩ := hc
  refine ev_copy hd hw hw1 hw2 hw3 (am_arr_get ha rfl rfl) (am_arr_get hb rfl rfl) h1 h2 h3 h4 h5 hst hf ?_
  rw [show hp S = hpL am_lay S from rfl, hpL_sw (isAr_of hb) rfl rfl]
  exact kk
end ES
/-! pure steps -/
def bd {α β : Type} (o : Option (α × am_S)) (F : α → am_S → Option β) : Option β := match o with
  | none => none
  | some q => F q.1 q.2
def bv {β : Type} (o : Option am_S) (F : am_S → Option β) : Option β := match o with
  | none => none
  | some q => F q
abbrev am_T : Type := (Int32 ⊕ Nat) × am_S
def bt (o : Option am_T) (F : Int32 → am_S → Option am_T) : Option am_T := match o with
  | none => none
  | some (.inl r, S) => F r S
  | some (.inr e, S) => some (.inr e, S)
theorem bd_of {α β : Type} {o : Option (α × am_S)} {F : α → am_S → Option β} {out : β} (h : bd o F = some out) : ∃ r S, o = some (r, S) ∧ F r S = some out := by
  cases o with
  | none => cases h
  | some q => exact ⟨q.1, q.2, rfl, h⟩
theorem bv_of {β : Type} {o : Option am_S} {F : am_S → Option β} {out : β} (h : bv o F = some out) : ∃ S, o = some S ∧ F S = some out := by
  cases o with
  | none => cases h
  | some q => exact ⟨q, rfl, h⟩
theorem bt_of {o : Option am_T} {F : Int32 → am_S → Option am_T} {out : am_T} (h : bt o F = some out) : (∃ r S, o = some (.inl r, S) ∧ F r S = some out) ∨ ∃ e S, o = some (.inr e, S) ∧ out = (.inr e, S) := by
  cases o with
  | none => cases h
  | some q =>
    obtain ⟨v, S⟩ := q
    cases v with
    | inl r => exact Or.inl ⟨r, S, rfl, h⟩
    | inr e => exact Or.inr ⟨e, S, rfl, (Option.some.inj h).symm⟩
theorem ck_of {β : Type} {b : Bool} {X : Option β} {out : β} (h : (if b = true then X else none) = some out) : b = true ∧ X = some out := by
  cases b with
  | false => cases h
  | true => exact ⟨rfl, h⟩
theorem ckn_of {β : Type} {P : Prop} {i : Decidable P} {X : Option β} {out : β} (h : (@ite _ P i none X) = some out) : ¬ P ∧ X = some out := by
  by_cases c : P
  · rw [if_pos c] at h; cases h
  · rw [if_neg c] at h; exact ⟨c, h⟩
/-- ends of methods that don't throw, and of those that may -/
def q_i (o : Int32 × am_S) : Option Value → am_H → Prop := fun v h => v = some (.int o.1) ∧ h = hp o.2
def q_l (o : Int64 × am_S) : Option Value → am_H → Prop := fun v h => v = some (.long o.1) ∧ h = hp o.2
def q_v (o : am_S) : Option Value → am_H → Prop := fun v h => v = none ∧ h = hp o
def q_n : String → am_H → Prop := fun _ _ => False
def am_ex (e : Nat) : String := if e = 0 then am_nse else am_iae
def q_ti (o : am_T) : Option Value → am_H → Prop := fun v h => ∃ r, o.1 = .inl r ∧ v = some (.int r) ∧ h = hp o.2
def q_tv (o : am_T) : Option Value → am_H → Prop := fun v h => ∃ r, o.1 = .inl r ∧ v = none ∧ h = hp o.2
def q_tx (o : am_T) : String → am_H → Prop := fun E h => ∃ e, o.1 = .inr e ∧ E = am_ex e ∧ h = hp o.2
def t_c (o : am_T) : Nat := match o.1 with
  | .inl _ => 0
  | .inr _ => 1
def t_s (o : am_T) : Nat := match o.1 with
  | .inl _ => 0
  | .inr _ => 6
