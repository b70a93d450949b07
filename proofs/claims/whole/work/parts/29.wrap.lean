/-! methods with handlers (the law's wrappers) -/
def am_wsW (M : am_M) : List Cond := Cond.codeWith (my M) (mb M) (mL M) (mr M) (mh M) :: am_WT
def am_MetW (G : am_G) (d : Nat) (M : am_M) (mc ms : Nat) (as : List Value) (h : am_H) (Qr : Option Value → am_H → Prop) (Qx : String → am_H → Prop) : Prop :=
  vx_Met (gL G) (my M) (am_wsW M) (am_R d mc ms) (am_Pc G as h) (am_Qc G h mc Qr) (am_Xc G Qx) mc ms (am_A G)
theorem am_ofW {G : am_G} {d mc ms : Nat} {M : am_M} {as : List Value} {h : am_H} {Qr : Option Value → am_H → Prop} {Qx : String → am_H → Prop} (hy : plainName (my M).cls = true) (ho : (my M).cls = mo M) (hc : as.all (fun v => v.category == 1) = true) (hn : as.length ≤ mL M)
    (body : Ev G (am_R d mc ms) (am_Φ G h mc ms Qr Qx) M 0 0 0 (am_ls0 as (mL M)) [] h) : am_MetW G d M mc ms as h Qr Qx := by
  refine vx_ofWH hy rfl ?_
  intro p e s m args below meth c s₁ B hml hP
  obtain ⟨rfl, hO, hH, hZ⟩ := hP
  have hts := atoms_spec (ws := am_wsW M) B.pre
  have hl := lv_entry (as.map (tv G)) (n := mL M) (by rw [am_slen as hc]; exact hn)
  rw [lg_entry_eq]
  generalize (lg_sl (as.map (tv G)) ++ List.replicate (mL M - (lg_sl (as.map (tv G))).length) Slot.unset).toArray = ls at hl ⊢
  refine body p e s m _ below meth c s.heap [] ls ⟨B.exec, B.bytes, B.returns, hml, ?_, fun w hw => hts w (List.mem_cons_of_mem _ hw), B.notSynchronized, (name_of_methodNamed B.named B.method).1, ?_⟩ hO (am_entry hc hl) hH hZ va_S.rf
  · rw [← ho]
    exact findClass_of_methodNamed B.named
  · exact vx_table (x := my M) B (hts _ List.mem_cons_self)
theorem am_MetW.met {G : am_G} {d : Nat} {M : am_M} {mc ms : Nat} {as : List Value} {h : am_H} {Qr : Option Value → am_H → Prop} (hM : am_MetW G d M mc ms as h Qr q_n) : Met (gL G) (my M) (am_wsW M) (am_R d mc ms) (am_Pc G as h) (am_Qc G h mc Qr) mc ms (am_A G) := by
  intro p e h1 h2 h3 s m args below h4 h5 h6 h7
  obtain ⟨n, o, a1, a2, a3, a4⟩ := hM p e h1 h2 h3 s m args below h4 h5 h6 h7
  refine ⟨n, o, a1, a2, a3, ?_⟩
  rcases a4 with a4 | ⟨q, -, E, ce, L, ⟨⟨h', hF, -⟩, -⟩, -⟩
  · exact a4
  · exact hF.elim
def am_okW (N : am_M) (n : Nat) : Prop := Cond.codeWith (my N) (mb N) (mL N) (mr N) (mh N) ∈ am_WT ∧ Cond.initialized (my N).cls ∈ am_WT ∧ ((my N).cls ≠ "java/lang/invoke/MethodHandle" ∧ (my N).cls ≠ "java/lang/invoke/VarHandle" ∧ (parseMethodDescriptor (my N).desc).map (fun d => d.parameters.length) = some n) ∧ mL N ≤ 45 ∧ Cond.static (my N) ∈ am_WT
section EVW
variable {G : am_G} {R : Room} {Φ : List Frame → Array Value → State → State → Prop} {M : am_M} {cu su pc : Nat} {ls : List (Option Value)} {st st0 : List Value} {h : am_H} {mc ms : Nat} {Qr : Option Value → am_H → Prop}
theorem ev_invSW {N : am_M} {idx n d : Nat} {As : List Value} (hM : am_MetW G d N mc ms As h Qr q_n) (hd : decode (mb M) pc = .ok (.invokestatic idx, 3)) (ok : am_okW N n) (hw : Cond.methodLink (mo M) idx (my N) ∈ am_WT) (hn : As.length = n) (hst : (st.map fun v => v.category).sum ≤ 8) (hst0 : st0 = As.reverse ++ st) (hf : am_fit R d) (hcs : cu + mc ≤ R.cells ∧ su + ms ≤ R.slots)
    (kr : ∀ (v : Option Value) (h' : am_H), Qr v h' → Ev G R Φ M (cu + mc) (su + ms) (pc + 3) ls (v.toList ++ st) h') : Ev G R Φ M cu su pc ls st0 h := by
  subst hst0
  refine ev_run (Qx := q_n) (a := (As.map (tv G)).toArray) (fun p e s m args below meth c H locs lsA hB hO hL hH hZ hS hsz => ?_) kr (fun _ _ hF => hF.elim)
  refine am_runX (vx_runSW (own := mo M) (As := As.map (tv G)) ⟨hB.1, hB.2.1, hB.2.2.2.1, hB.2.2.2.2.1, hB.2.2.2.2.2.1⟩ hM.met
    (vx_cwSW n hB.2.2.2.2.2.1 (am_good (fun w hw9 => ?_)) rfl rfl rfl ok.2.2.1 (hf.room ok.2.2.2.1)) (am_pre hO hH hZ hS hsz) rfl (by rw [List.length_map]; exact hn) hL.1 (by simp) (by rw [tv_cats]; exact lv_room hst) hd hcs)
  simp only [va_wsS, List.mem_append, List.mem_cons, List.not_mem_nil, or_false] at hw9
  rcases hw9 with (rfl | rfl | rfl) | hw9
  · exact hw
  · exact ok.2.2.2.2
  · exact ok.2.1
  · exact (List.mem_cons.mp hw9).elim (fun e => e ▸ ok.1) id
end EVW
def bw {β : Type} (o : Option am_T) (F : Int32 → am_S → Option β) (E : Nat → am_S → Option β) : Option β := match o with
  | none => none
  | some (.inl r, S) => F r S
  | some (.inr e, S) => E e S
theorem bw_of {β : Type} {o : Option am_T} {F : Int32 → am_S → Option β} {E : Nat → am_S → Option β} {out : β} (h : bw o F E = some out) : (∃ r S, o = some (.inl r, S) ∧ F r S = some out) ∨ ∃ e S, o = some (.inr e, S) ∧ E e S = some out := by
  cases o with
  | none => cases h
  | some q =>
    obtain ⟨v, S⟩ := q
    cases v with
    | inl r => exact Or.inl ⟨r, S, rfl, h⟩
    | inr e => exact Or.inr ⟨e, S, rfl, h⟩
def f_L_city (N : Nat) (l0 : Nat) (l1 : Int32) (l2 : Nat) (S : am_S) : Option (Int32 × am_S) := bw (f_X9_city N l0 l1 S) (fun r S1 => if inb 0 (ln l2) = true then some (0, lp S1 (l2 + Int32.toNatClampNeg 0) (Int32.toInt64 r)) else none) (fun e S1 => (if e = 1 then some (1, S1) else none))
theorem t_L_city {G : am_G} {N : Nat} {l0 : Nat} {l1 : Int32} {l2 : Nat} {S : am_S} {out : Int32 × am_S} (hl0 : isC 9 l0 = true) (hl2 : isAr 4 l2 = true) (hB : f_L_city N l0 l1 l2 S = some out) : am_MetW G 18 mL_city 1 6 [.ref l0, .int l1, .ref l2] (hp S) (q_i out) q_n := by
  refine am_ofW (by decide +kernel) rfl rfl (Nat.le_of_ble_eq_true rfl) ?_
  unfold f_L_city at hB
  refine ev_aload_n dL_city_0 rfl ?_
  refine ev_iconst 0 dL_city_1 (by decide) ?_
  refine ev_aload_n dL_city_2 rfl ?_
  refine ev_iload_n dL_city_3 rfl ?_
  rcases bw_of hB with ⟨r, S1, e1, hB⟩ | ⟨x, S1, e1, hB⟩
  · refine es_callVti (As := [.int l1]) (t_X9_city hl0 e1) dL_city_4 oX9_city w_825 rfl hl0 rfl rfl (Nat.le_of_ble_eq_true rfl) rfl (am_fit.of (by decide)) ⟨Nat.zero_le _, Nat.zero_le _⟩ ?_
    refine ev_i2l dL_city_7 ?_
    obtain ⟨c1, hB⟩ := ck_of hB
    refine es_last dL_city_8 hl2 c1 (ol_pos hl2) (ol_one hl2) ?_
    refine ev_goto 15 dL_city_9 (by decide) ?_
    refine ev_iconst 0 dL_city_15 (by decide) ?_
    obtain rfl := Option.some.inj hB
    exact ev_iret dL_city_16 rfl (Nat.zero_le _) (Nat.zero_le _) (fun z => absurd z (hp_sealed _)) ⟨rfl, rfl⟩
  · obtain ⟨fds, h1, -⟩ := isC_of hl0
    refine ev_invV (As := [.int l1]) (t_X9_city hl0 e1) dL_city_4 oX9_city w_825 rfl (hp_get h1) rfl rfl (Nat.le_of_ble_eq_true rfl) rfl (am_fit.of (by decide)) ⟨Nat.le_refl _, Nat.le_refl _⟩ (fun v h2 hq => (nq_i v h2 hq).elim) (fun E h2 hq hz => ?_)
    obtain ⟨y, hy, rfl, rfl⟩ := hq
    cases hy
    by_cases q1 : x = 1
    · subst q1
      rw [if_pos rfl] at hB
      refine evx_catch_n [] _ _ rfl (fun z hz => nomatch hz) rfl (by decide) w_824 e_208 dL_city_12 (by decide) rfl ?_
      refine ev_iconst 1 dL_city_13 (by decide) ?_
      obtain rfl := Option.some.inj hB
      exact ev_iret dL_city_14 rfl (Nat.le_refl _) (Nat.le_refl _) (fun z => absurd z (hp_sealed _)) ⟨rfl, rfl⟩
    rw [if_neg q1] at hB
    cases hB
theorem oL_city : am_okW mL_city 3 := ⟨w_823, w_0, ⟨by decide, by decide, by decide +kernel⟩, by decide, w_822⟩
def f_L_count (N : Nat) (l0 : Nat) (l1 : Int32) (l2 : Nat) (S : am_S) : Option (Int32 × am_S) := bw (f_X9_count N l0 l1 S) (fun r S1 => if inb 0 (ln l2) = true then some (0, lp S1 (l2 + Int32.toNatClampNeg 0) (Int32.toInt64 r)) else none) (fun e S1 => (if e = 0 then some (1, S1) else none))
theorem t_L_count {G : am_G} {N : Nat} {l0 : Nat} {l1 : Int32} {l2 : Nat} {S : am_S} {out : Int32 × am_S} (hl0 : isC 9 l0 = true) (hl2 : isAr 4 l2 = true) (hB : f_L_count N l0 l1 l2 S = some out) : am_MetW G 8 mL_count 1 6 [.ref l0, .int l1, .ref l2] (hp S) (q_i out) q_n := by
  refine am_ofW (by decide +kernel) rfl rfl (Nat.le_of_ble_eq_true rfl) ?_
  unfold f_L_count at hB
  refine ev_aload_n dL_count_0 rfl ?_
  refine ev_iconst 0 dL_count_1 (by decide) ?_
  refine ev_aload_n dL_count_2 rfl ?_
  refine ev_iload_n dL_count_3 rfl ?_
  rcases bw_of hB with ⟨r, S1, e1, hB⟩ | ⟨x, S1, e1, hB⟩
  · refine es_callVti (As := [.int l1]) (t_X9_count hl0 e1) dL_count_4 oX9_count w_1075 rfl hl0 rfl rfl (Nat.le_of_ble_eq_true rfl) rfl (am_fit.of (by decide)) ⟨Nat.zero_le _, Nat.zero_le _⟩ ?_
    refine ev_i2l dL_count_7 ?_
    obtain ⟨c1, hB⟩ := ck_of hB
    refine es_last dL_count_8 hl2 c1 (ol_pos hl2) (ol_one hl2) ?_
    refine ev_goto 15 dL_count_9 (by decide) ?_
    refine ev_iconst 0 dL_count_15 (by decide) ?_
    obtain rfl := Option.some.inj hB
    exact ev_iret dL_count_16 rfl (Nat.zero_le _) (Nat.zero_le _) (fun z => absurd z (hp_sealed _)) ⟨rfl, rfl⟩
  · obtain ⟨fds, h1, -⟩ := isC_of hl0
    refine ev_invV (As := [.int l1]) (t_X9_count hl0 e1) dL_count_4 oX9_count w_1075 rfl (hp_get h1) rfl rfl (Nat.le_of_ble_eq_true rfl) rfl (am_fit.of (by decide)) ⟨Nat.le_refl _, Nat.le_refl _⟩ (fun v h2 hq => (nq_i v h2 hq).elim) (fun E h2 hq hz => ?_)
    obtain ⟨y, hy, rfl, rfl⟩ := hq
    cases hy
    by_cases q0 : x = 0
    · subst q0
      rw [if_pos rfl] at hB
      refine evx_catch_n [] _ _ rfl (fun z hz => nomatch hz) rfl (by decide) w_1074 e_1103 dL_count_12 (by decide) rfl ?_
      refine ev_iconst 1 dL_count_13 (by decide) ?_
      obtain rfl := Option.some.inj hB
      exact ev_iret dL_count_14 rfl (Nat.le_refl _) (Nat.le_refl _) (fun z => absurd z (hp_sealed _)) ⟨rfl, rfl⟩
    rw [if_neg q0] at hB
    cases hB
theorem oL_count : am_okW mL_count 3 := ⟨w_1073, w_0, ⟨by decide, by decide, by decide +kernel⟩, by decide, w_1072⟩
def f_L_box (N : Nat) (l0 : Nat) (l1 : Int32) (l2 : Int32) (l3 : Nat) (S : am_S) : Option (Int32 × am_S) := bw (f_X9_box N l0 l1 l2 S) (fun r S1 => if inb 0 (ln l3) = true then some (0, lp S1 (l3 + Int32.toNatClampNeg 0) (Int32.toInt64 r)) else none) (fun e S1 => (if e = 0 then some (1, S1) else none))
theorem t_L_box {G : am_G} {N : Nat} {l0 : Nat} {l1 : Int32} {l2 : Int32} {l3 : Nat} {S : am_S} {out : Int32 × am_S} (hl0 : isC 9 l0 = true) (hl3 : isAr 4 l3 = true) (hB : f_L_box N l0 l1 l2 l3 S = some out) : am_MetW G 9 mL_box 1 6 [.ref l0, .int l1, .int l2, .ref l3] (hp S) (q_i out) q_n := by
  refine am_ofW (by decide +kernel) rfl rfl (Nat.le_of_ble_eq_true rfl) ?_
  unfold f_L_box at hB
  refine ev_aload_n dL_box_0 rfl ?_
  refine ev_iconst 0 dL_box_1 (by decide) ?_
  refine ev_aload_n dL_box_2 rfl ?_
  refine ev_iload_n dL_box_3 rfl ?_
  refine ev_iload_n dL_box_4 rfl ?_
  rcases bw_of hB with ⟨r, S1, e1, hB⟩ | ⟨x, S1, e1, hB⟩
  · refine es_callVti (As := [.int l1, .int l2]) (t_X9_box hl0 e1) dL_box_5 oX9_box w_1120 rfl hl0 rfl rfl (Nat.le_of_ble_eq_true rfl) rfl (am_fit.of (by decide)) ⟨Nat.zero_le _, Nat.zero_le _⟩ ?_
    refine ev_i2l dL_box_8 ?_
    obtain ⟨c1, hB⟩ := ck_of hB
    refine es_last dL_box_9 hl3 c1 (ol_pos hl3) (ol_one hl3) ?_
    refine ev_goto 17 dL_box_10 (by decide) ?_
    refine ev_iconst 0 dL_box_17 (by decide) ?_
    obtain rfl := Option.some.inj hB
    exact ev_iret dL_box_18 rfl (Nat.zero_le _) (Nat.zero_le _) (fun z => absurd z (hp_sealed _)) ⟨rfl, rfl⟩
  · obtain ⟨fds, h1, -⟩ := isC_of hl0
    refine ev_invV (As := [.int l1, .int l2]) (t_X9_box hl0 e1) dL_box_5 oX9_box w_1120 rfl (hp_get h1) rfl rfl (Nat.le_of_ble_eq_true rfl) rfl (am_fit.of (by decide)) ⟨Nat.le_refl _, Nat.le_refl _⟩ (fun v h2 hq => (nq_i v h2 hq).elim) (fun E h2 hq hz => ?_)
    obtain ⟨y, hy, rfl, rfl⟩ := hq
    cases hy
    by_cases q0 : x = 0
    · subst q0
      rw [if_pos rfl] at hB
      refine evx_catch [] _ _ rfl (fun z hz => nomatch hz) rfl (by decide) w_1074 e_1103 dL_box_13 (by decide) rfl ?_
      refine ev_iconst 1 dL_box_15 (by decide) ?_
      obtain rfl := Option.some.inj hB
      exact ev_iret dL_box_16 rfl (Nat.le_refl _) (Nat.le_refl _) (fun z => absurd z (hp_sealed _)) ⟨rfl, rfl⟩
    rw [if_neg q0] at hB
    cases hB
theorem oL_box : am_okW mL_box 4 := ⟨w_1119, w_0, ⟨by decide, by decide, by decide +kernel⟩, by decide, w_1118⟩
def f_L_person (N : Nat) (l0 : Nat) (l1 : Int32) (l2 : Int32) (l3 : Nat) (S : am_S) : Option (Int32 × am_S) := bw (f_X9_person N l0 l1 l2 S) (fun r S1 => if inb 0 (ln l3) = true then some (0, lp S1 (l3 + Int32.toNatClampNeg 0) (Int32.toInt64 r)) else none) (fun e S1 => (if e = 0 then some (1, S1) else none))
theorem t_L_person {G : am_G} {N : Nat} {l0 : Nat} {l1 : Int32} {l2 : Int32} {l3 : Nat} {S : am_S} {out : Int32 × am_S} (hl0 : isC 9 l0 = true) (hl3 : isAr 4 l3 = true) (hB : f_L_person N l0 l1 l2 l3 S = some out) : am_MetW G 9 mL_person 1 6 [.ref l0, .int l1, .int l2, .ref l3] (hp S) (q_i out) q_n := by
  refine am_ofW (by decide +kernel) rfl rfl (Nat.le_of_ble_eq_true rfl) ?_
  unfold f_L_person at hB
  refine ev_aload_n dL_person_0 rfl ?_
  refine ev_iconst 0 dL_person_1 (by decide) ?_
  refine ev_aload_n dL_person_2 rfl ?_
  refine ev_iload_n dL_person_3 rfl ?_
  refine ev_iload_n dL_person_4 rfl ?_
  rcases bw_of hB with ⟨r, S1, e1, hB⟩ | ⟨x, S1, e1, hB⟩
  · refine es_callVti (As := [.int l1, .int l2]) (t_X9_person hl0 e1) dL_person_5 oX9_person w_1142 rfl hl0 rfl rfl (Nat.le_of_ble_eq_true rfl) rfl (am_fit.of (by decide)) ⟨Nat.zero_le _, Nat.zero_le _⟩ ?_
    refine ev_i2l dL_person_8 ?_
    obtain ⟨c1, hB⟩ := ck_of hB
    refine es_last dL_person_9 hl3 c1 (ol_pos hl3) (ol_one hl3) ?_
    refine ev_goto 17 dL_person_10 (by decide) ?_
    refine ev_iconst 0 dL_person_17 (by decide) ?_
    obtain rfl := Option.some.inj hB
    exact ev_iret dL_person_18 rfl (Nat.zero_le _) (Nat.zero_le _) (fun z => absurd z (hp_sealed _)) ⟨rfl, rfl⟩
  · obtain ⟨fds, h1, -⟩ := isC_of hl0
    refine ev_invV (As := [.int l1, .int l2]) (t_X9_person hl0 e1) dL_person_5 oX9_person w_1142 rfl (hp_get h1) rfl rfl (Nat.le_of_ble_eq_true rfl) rfl (am_fit.of (by decide)) ⟨Nat.le_refl _, Nat.le_refl _⟩ (fun v h2 hq => (nq_i v h2 hq).elim) (fun E h2 hq hz => ?_)
    obtain ⟨y, hy, rfl, rfl⟩ := hq
    cases hy
    by_cases q0 : x = 0
    · subst q0
      rw [if_pos rfl] at hB
      refine evx_catch [] _ _ rfl (fun z hz => nomatch hz) rfl (by decide) w_1074 e_1103 dL_person_13 (by decide) rfl ?_
      refine ev_iconst 1 dL_person_15 (by decide) ?_
      obtain rfl := Option.some.inj hB
      exact ev_iret dL_person_16 rfl (Nat.le_refl _) (Nat.le_refl _) (fun z => absurd z (hp_sealed _)) ⟨rfl, rfl⟩
    rw [if_neg q0] at hB
    cases hB
theorem oL_person : am_okW mL_person 4 := ⟨w_1141, w_0, ⟨by decide, by decide, by decide +kernel⟩, by decide, w_1140⟩
def f_L_held (N : Nat) (l0 : Nat) (l1 : Int32) (l2 : Int32) (l3 : Nat) (S : am_S) : Option (Int32 × am_S) := bw (f_X9_held N l0 l1 l2 S) (fun r S1 => if inb 0 (ln l3) = true then some (0, lp S1 (l3 + Int32.toNatClampNeg 0) (Int32.toInt64 r)) else none) (fun e S1 => (if e = 0 then some (1, S1) else none))
theorem t_L_held {G : am_G} {N : Nat} {l0 : Nat} {l1 : Int32} {l2 : Int32} {l3 : Nat} {S : am_S} {out : Int32 × am_S} (hl0 : isC 9 l0 = true) (hl3 : isAr 4 l3 = true) (hB : f_L_held N l0 l1 l2 l3 S = some out) : am_MetW G 9 mL_held 1 6 [.ref l0, .int l1, .int l2, .ref l3] (hp S) (q_i out) q_n := by
  refine am_ofW (by decide +kernel) rfl rfl (Nat.le_of_ble_eq_true rfl) ?_
  unfold f_L_held at hB
  refine ev_aload_n dL_held_0 rfl ?_
  refine ev_iconst 0 dL_held_1 (by decide) ?_
  refine ev_aload_n dL_held_2 rfl ?_
  refine ev_iload_n dL_held_3 rfl ?_
  refine ev_iload_n dL_held_4 rfl ?_
  rcases bw_of hB with ⟨r, S1, e1, hB⟩ | ⟨x, S1, e1, hB⟩
  · refine es_callVti (As := [.int l1, .int l2]) (t_X9_held hl0 e1) dL_held_5 oX9_held w_1163 rfl hl0 rfl rfl (Nat.le_of_ble_eq_true rfl) rfl (am_fit.of (by decide)) ⟨Nat.zero_le _, Nat.zero_le _⟩ ?_
    refine ev_i2l dL_held_8 ?_
    obtain ⟨c1, hB⟩ := ck_of hB
    refine es_last dL_held_9 hl3 c1 (ol_pos hl3) (ol_one hl3) ?_
    refine ev_goto 17 dL_held_10 (by decide) ?_
    refine ev_iconst 0 dL_held_17 (by decide) ?_
    obtain rfl := Option.some.inj hB
    exact ev_iret dL_held_18 rfl (Nat.zero_le _) (Nat.zero_le _) (fun z => absurd z (hp_sealed _)) ⟨rfl, rfl⟩
  · obtain ⟨fds, h1, -⟩ := isC_of hl0
    refine ev_invV (As := [.int l1, .int l2]) (t_X9_held hl0 e1) dL_held_5 oX9_held w_1163 rfl (hp_get h1) rfl rfl (Nat.le_of_ble_eq_true rfl) rfl (am_fit.of (by decide)) ⟨Nat.le_refl _, Nat.le_refl _⟩ (fun v h2 hq => (nq_i v h2 hq).elim) (fun E h2 hq hz => ?_)
    obtain ⟨y, hy, rfl, rfl⟩ := hq
    cases hy
    by_cases q0 : x = 0
    · subst q0
      rw [if_pos rfl] at hB
      refine evx_catch [] _ _ rfl (fun z hz => nomatch hz) rfl (by decide) w_1074 e_1103 dL_held_13 (by decide) rfl ?_
      refine ev_iconst 1 dL_held_15 (by decide) ?_
      obtain rfl := Option.some.inj hB
      exact ev_iret dL_held_16 rfl (Nat.le_refl _) (Nat.le_refl _) (fun z => absurd z (hp_sealed _)) ⟨rfl, rfl⟩
    rw [if_neg q0] at hB
    cases hB
theorem oL_held : am_okW mL_held 4 := ⟨w_1162, w_0, ⟨by decide, by decide, by decide +kernel⟩, by decide, w_1161⟩
def f_L_write (N : Nat) (l0 : Nat) (l1 : Int32) (l2 : Nat) (S : am_S) : Option (Int32 × am_S) := bw (f_X9_write N l0 l1 S) (fun r S1 => if inb 0 (ln l2) = true then some (0, lp S1 (l2 + Int32.toNatClampNeg 0) (Int32.toInt64 r)) else none) (fun e S1 => (if e = 0 then some (1, S1) else none))
theorem t_L_write {G : am_G} {N : Nat} {l0 : Nat} {l1 : Int32} {l2 : Nat} {S : am_S} {out : Int32 × am_S} (hl0 : isC 9 l0 = true) (hl2 : isAr 4 l2 = true) (hB : f_L_write N l0 l1 l2 S = some out) : am_MetW G 9 mL_write 1 6 [.ref l0, .int l1, .ref l2] (hp S) (q_i out) q_n := by
  refine am_ofW (by decide +kernel) rfl rfl (Nat.le_of_ble_eq_true rfl) ?_
  unfold f_L_write at hB
  refine ev_aload_n dL_write_0 rfl ?_
  refine ev_iconst 0 dL_write_1 (by decide) ?_
  refine ev_aload_n dL_write_2 rfl ?_
  refine ev_iload_n dL_write_3 rfl ?_
  rcases bw_of hB with ⟨r, S1, e1, hB⟩ | ⟨x, S1, e1, hB⟩
  · refine es_callVti (As := [.int l1]) (t_X9_write hl0 e1) dL_write_4 oX9_write w_1171 rfl hl0 rfl rfl (Nat.le_of_ble_eq_true rfl) rfl (am_fit.of (by decide)) ⟨Nat.zero_le _, Nat.zero_le _⟩ ?_
    refine ev_i2l dL_write_7 ?_
    obtain ⟨c1, hB⟩ := ck_of hB
    refine es_last dL_write_8 hl2 c1 (ol_pos hl2) (ol_one hl2) ?_
    refine ev_goto 15 dL_write_9 (by decide) ?_
    refine ev_iconst 0 dL_write_15 (by decide) ?_
    obtain rfl := Option.some.inj hB
    exact ev_iret dL_write_16 rfl (Nat.zero_le _) (Nat.zero_le _) (fun z => absurd z (hp_sealed _)) ⟨rfl, rfl⟩
  · obtain ⟨fds, h1, -⟩ := isC_of hl0
    refine ev_invV (As := [.int l1]) (t_X9_write hl0 e1) dL_write_4 oX9_write w_1171 rfl (hp_get h1) rfl rfl (Nat.le_of_ble_eq_true rfl) rfl (am_fit.of (by decide)) ⟨Nat.le_refl _, Nat.le_refl _⟩ (fun v h2 hq => (nq_i v h2 hq).elim) (fun E h2 hq hz => ?_)
    obtain ⟨y, hy, rfl, rfl⟩ := hq
    cases hy
    by_cases q0 : x = 0
    · subst q0
      rw [if_pos rfl] at hB
      refine evx_catch_n [] _ _ rfl (fun z hz => nomatch hz) rfl (by decide) w_1074 e_1103 dL_write_12 (by decide) rfl ?_
      refine ev_iconst 1 dL_write_13 (by decide) ?_
      obtain rfl := Option.some.inj hB
      exact ev_iret dL_write_14 rfl (Nat.le_refl _) (Nat.le_refl _) (fun z => absurd z (hp_sealed _)) ⟨rfl, rfl⟩
    rw [if_neg q0] at hB
    cases hB
theorem oL_write : am_okW mL_write 3 := ⟨w_1170, w_0, ⟨by decide, by decide, by decide +kernel⟩, by decide, w_1169⟩
def f_L_paint (N : Nat) (l0 : Nat) (l1 : Int32) (l2 : Nat) (S : am_S) : Option (Int32 × am_S) := bw (f_X9_paint N l0 l1 S) (fun r S1 => if inb 0 (ln l2) = true then some (0, lp S1 (l2 + Int32.toNatClampNeg 0) (Int32.toInt64 r)) else none) (fun e S1 => (if e = 0 then some (1, S1) else none))
theorem t_L_paint {G : am_G} {N : Nat} {l0 : Nat} {l1 : Int32} {l2 : Nat} {S : am_S} {out : Int32 × am_S} (hl0 : isC 9 l0 = true) (hl2 : isAr 4 l2 = true) (hB : f_L_paint N l0 l1 l2 S = some out) : am_MetW G 9 mL_paint 1 6 [.ref l0, .int l1, .ref l2] (hp S) (q_i out) q_n := by
  refine am_ofW (by decide +kernel) rfl rfl (Nat.le_of_ble_eq_true rfl) ?_
  unfold f_L_paint at hB
  refine ev_aload_n dL_paint_0 rfl ?_
  refine ev_iconst 0 dL_paint_1 (by decide) ?_
  refine ev_aload_n dL_paint_2 rfl ?_
  refine ev_iload_n dL_paint_3 rfl ?_
  rcases bw_of hB with ⟨r, S1, e1, hB⟩ | ⟨x, S1, e1, hB⟩
  · refine es_callVti (As := [.int l1]) (t_X9_paint hl0 e1) dL_paint_4 oX9_paint w_1185 rfl hl0 rfl rfl (Nat.le_of_ble_eq_true rfl) rfl (am_fit.of (by decide)) ⟨Nat.zero_le _, Nat.zero_le _⟩ ?_
    refine ev_i2l dL_paint_7 ?_
    obtain ⟨c1, hB⟩ := ck_of hB
    refine es_last dL_paint_8 hl2 c1 (ol_pos hl2) (ol_one hl2) ?_
    refine ev_goto 15 dL_paint_9 (by decide) ?_
    refine ev_iconst 0 dL_paint_15 (by decide) ?_
    obtain rfl := Option.some.inj hB
    exact ev_iret dL_paint_16 rfl (Nat.zero_le _) (Nat.zero_le _) (fun z => absurd z (hp_sealed _)) ⟨rfl, rfl⟩
  · obtain ⟨fds, h1, -⟩ := isC_of hl0
    refine ev_invV (As := [.int l1]) (t_X9_paint hl0 e1) dL_paint_4 oX9_paint w_1185 rfl (hp_get h1) rfl rfl (Nat.le_of_ble_eq_true rfl) rfl (am_fit.of (by decide)) ⟨Nat.le_refl _, Nat.le_refl _⟩ (fun v h2 hq => (nq_i v h2 hq).elim) (fun E h2 hq hz => ?_)
    obtain ⟨y, hy, rfl, rfl⟩ := hq
    cases hy
    by_cases q0 : x = 0
    · subst q0
      rw [if_pos rfl] at hB
      refine evx_catch_n [] _ _ rfl (fun z hz => nomatch hz) rfl (by decide) w_1074 e_1103 dL_paint_12 (by decide) rfl ?_
      refine ev_iconst 1 dL_paint_13 (by decide) ?_
      obtain rfl := Option.some.inj hB
      exact ev_iret dL_paint_14 rfl (Nat.le_refl _) (Nat.le_refl _) (fun z => absurd z (hp_sealed _)) ⟨rfl, rfl⟩
    rw [if_neg q0] at hB
    cases hB
theorem oL_paint : am_okW mL_paint 3 := ⟨w_1184, w_0, ⟨by decide, by decide, by decide +kernel⟩, by decide, w_1183⟩
def f_L_turn (N : Nat) (l0 : Nat) (l1 : Int32) (l2 : Int32) (l3 : Nat) (S : am_S) : Option (Int32 × am_S) := bw (f_X9_turn N l0 l1 l2 S) (fun r S1 => if inb 0 (ln l3) = true then some (0, lp S1 (l3 + Int32.toNatClampNeg 0) (Int32.toInt64 r)) else none) (fun e S1 => (if e = 0 then some (1, S1) else none))
theorem t_L_turn {G : am_G} {N : Nat} {l0 : Nat} {l1 : Int32} {l2 : Int32} {l3 : Nat} {S : am_S} {out : Int32 × am_S} (hl0 : isC 9 l0 = true) (hl3 : isAr 4 l3 = true) (hB : f_L_turn N l0 l1 l2 l3 S = some out) : am_MetW G 9 mL_turn 1 6 [.ref l0, .int l1, .int l2, .ref l3] (hp S) (q_i out) q_n := by
  refine am_ofW (by decide +kernel) rfl rfl (Nat.le_of_ble_eq_true rfl) ?_
  unfold f_L_turn at hB
  refine ev_aload_n dL_turn_0 rfl ?_
  refine ev_iconst 0 dL_turn_1 (by decide) ?_
  refine ev_aload_n dL_turn_2 rfl ?_
  refine ev_iload_n dL_turn_3 rfl ?_
  refine ev_iload_n dL_turn_4 rfl ?_
  rcases bw_of hB with ⟨r, S1, e1, hB⟩ | ⟨x, S1, e1, hB⟩
  · refine es_callVti (As := [.int l1, .int l2]) (t_X9_turn hl0 e1) dL_turn_5 oX9_turn w_1193 rfl hl0 rfl rfl (Nat.le_of_ble_eq_true rfl) rfl (am_fit.of (by decide)) ⟨Nat.zero_le _, Nat.zero_le _⟩ ?_
    refine ev_i2l dL_turn_8 ?_
    obtain ⟨c1, hB⟩ := ck_of hB
    refine es_last dL_turn_9 hl3 c1 (ol_pos hl3) (ol_one hl3) ?_
    refine ev_goto 17 dL_turn_10 (by decide) ?_
    refine ev_iconst 0 dL_turn_17 (by decide) ?_
    obtain rfl := Option.some.inj hB
    exact ev_iret dL_turn_18 rfl (Nat.zero_le _) (Nat.zero_le _) (fun z => absurd z (hp_sealed _)) ⟨rfl, rfl⟩
  · obtain ⟨fds, h1, -⟩ := isC_of hl0
    refine ev_invV (As := [.int l1, .int l2]) (t_X9_turn hl0 e1) dL_turn_5 oX9_turn w_1193 rfl (hp_get h1) rfl rfl (Nat.le_of_ble_eq_true rfl) rfl (am_fit.of (by decide)) ⟨Nat.le_refl _, Nat.le_refl _⟩ (fun v h2 hq => (nq_i v h2 hq).elim) (fun E h2 hq hz => ?_)
    obtain ⟨y, hy, rfl, rfl⟩ := hq
    cases hy
    by_cases q0 : x = 0
    · subst q0
      rw [if_pos rfl] at hB
      refine evx_catch [] _ _ rfl (fun z hz => nomatch hz) rfl (by decide) w_1074 e_1103 dL_turn_13 (by decide) rfl ?_
      refine ev_iconst 1 dL_turn_15 (by decide) ?_
      obtain rfl := Option.some.inj hB
      exact ev_iret dL_turn_16 rfl (Nat.le_refl _) (Nat.le_refl _) (fun z => absurd z (hp_sealed _)) ⟨rfl, rfl⟩
    rw [if_neg q0] at hB
    cases hB
theorem oL_turn : am_okW mL_turn 4 := ⟨w_1192, w_0, ⟨by decide, by decide, by decide +kernel⟩, by decide, w_1191⟩
def f_L_then (N : Nat) (l0 : Nat) (l1 : Int32) (l2 : Int32) (l3 : Int32) (l4 : Nat) (S : am_S) : Option (Int32 × am_S) := bw (f_X9_then N l0 l1 l2 l3 S) (fun r S1 => if inb 0 (ln l4) = true then some (0, lp S1 (l4 + Int32.toNatClampNeg 0) (Int32.toInt64 r)) else none) (fun e S1 => (if e = 0 then some (1, S1) else (if e = 1 then some (2, S1) else none)))
theorem t_L_then {G : am_G} {N : Nat} {l0 : Nat} {l1 : Int32} {l2 : Int32} {l3 : Int32} {l4 : Nat} {S : am_S} {out : Int32 × am_S} (hl0 : isC 9 l0 = true) (hl4 : isAr 4 l4 = true) (hB : f_L_then N l0 l1 l2 l3 l4 S = some out) : am_MetW G 9 mL_then 1 6 [.ref l0, .int l1, .int l2, .int l3, .ref l4] (hp S) (q_i out) q_n := by
  refine am_ofW (by decide +kernel) rfl rfl (Nat.le_of_ble_eq_true rfl) ?_
  unfold f_L_then at hB
  refine ev_aload dL_then_0 rfl ?_
  refine ev_iconst 0 dL_then_2 (by decide) ?_
  refine ev_aload_n dL_then_3 rfl ?_
  refine ev_iload_n dL_then_4 rfl ?_
  refine ev_iload_n dL_then_5 rfl ?_
  refine ev_iload_n dL_then_6 rfl ?_
  rcases bw_of hB with ⟨r, S1, e1, hB⟩ | ⟨x, S1, e1, hB⟩
  · refine es_callVti (As := [.int l1, .int l2, .int l3]) (t_X9_then hl0 e1) dL_then_7 oX9_then w_1204 rfl hl0 rfl rfl (Nat.le_of_ble_eq_true rfl) rfl (am_fit.of (by decide)) ⟨Nat.zero_le _, Nat.zero_le _⟩ ?_
    refine ev_i2l dL_then_10 ?_
    obtain ⟨c1, hB⟩ := ck_of hB
    refine es_last dL_then_11 hl4 c1 (ol_pos hl4) (ol_one hl4) ?_
    refine ev_goto 23 dL_then_12 (by decide) ?_
    refine ev_iconst 0 dL_then_23 (by decide) ?_
    obtain rfl := Option.some.inj hB
    exact ev_iret dL_then_24 rfl (Nat.zero_le _) (Nat.zero_le _) (fun z => absurd z (hp_sealed _)) ⟨rfl, rfl⟩
  · obtain ⟨fds, h1, -⟩ := isC_of hl0
    refine ev_invV (As := [.int l1, .int l2, .int l3]) (t_X9_then hl0 e1) dL_then_7 oX9_then w_1204 rfl (hp_get h1) rfl rfl (Nat.le_of_ble_eq_true rfl) rfl (am_fit.of (by decide)) ⟨Nat.le_refl _, Nat.le_refl _⟩ (fun v h2 hq => (nq_i v h2 hq).elim) (fun E h2 hq hz => ?_)
    obtain ⟨y, hy, rfl, rfl⟩ := hq
    cases hy
    by_cases q0 : x = 0
    · subst q0
      rw [if_pos rfl] at hB
      refine evx_catch [] _ _ rfl (fun z hz => nomatch hz) rfl (by decide) w_1074 e_1103 dL_then_15 (by decide) rfl ?_
      refine ev_iconst 1 dL_then_17 (by decide) ?_
      obtain rfl := Option.some.inj hB
      exact ev_iret dL_then_18 rfl (Nat.le_refl _) (Nat.le_refl _) (fun z => absurd z (hp_sealed _)) ⟨rfl, rfl⟩
    rw [if_neg q0] at hB
    by_cases q1 : x = 1
    · subst q1
      rw [if_pos rfl] at hB
      refine evx_catch [_] _ _ rfl (fun z hz => by rcases List.mem_singleton.mp hz with rfl; exact Or.inr ⟨by decide, rfl, w_1074⟩) rfl (by decide) w_824 e_208 dL_then_19 (by decide) rfl ?_
      refine ev_iconst 2 dL_then_21 (by decide) ?_
      obtain rfl := Option.some.inj hB
      exact ev_iret dL_then_22 rfl (Nat.le_refl _) (Nat.le_refl _) (fun z => absurd z (hp_sealed _)) ⟨rfl, rfl⟩
    rw [if_neg q1] at hB
    cases hB
theorem oL_then : am_okW mL_then 5 := ⟨w_1203, w_0, ⟨by decide, by decide, by decide +kernel⟩, by decide, w_1202⟩
def f_L_later (N : Nat) (l0 : Nat) (l1 : Int32) (l2 : Int32) (l3 : Int32) (l4 : Nat) (S : am_S) : Option (Int32 × am_S) := bw (f_X9_later N l0 l1 l2 l3 S) (fun r S1 => if inb 0 (ln l4) = true then some (0, lp S1 (l4 + Int32.toNatClampNeg 0) (Int32.toInt64 r)) else none) (fun e S1 => (if e = 0 then some (1, S1) else (if e = 1 then some (2, S1) else none)))
theorem t_L_later {G : am_G} {N : Nat} {l0 : Nat} {l1 : Int32} {l2 : Int32} {l3 : Int32} {l4 : Nat} {S : am_S} {out : Int32 × am_S} (hl0 : isC 9 l0 = true) (hl4 : isAr 4 l4 = true) (hB : f_L_later N l0 l1 l2 l3 l4 S = some out) : am_MetW G 9 mL_later 1 6 [.ref l0, .int l1, .int l2, .int l3, .ref l4] (hp S) (q_i out) q_n := by
  refine am_ofW (by decide +kernel) rfl rfl (Nat.le_of_ble_eq_true rfl) ?_
  unfold f_L_later at hB
  refine ev_aload dL_later_0 rfl ?_
  refine ev_iconst 0 dL_later_2 (by decide) ?_
  refine ev_aload_n dL_later_3 rfl ?_
  refine ev_iload_n dL_later_4 rfl ?_
  refine ev_iload_n dL_later_5 rfl ?_
  refine ev_iload_n dL_later_6 rfl ?_
  rcases bw_of hB with ⟨r, S1, e1, hB⟩ | ⟨x, S1, e1, hB⟩
  · refine es_callVti (As := [.int l1, .int l2, .int l3]) (t_X9_later hl0 e1) dL_later_7 oX9_later w_1222 rfl hl0 rfl rfl (Nat.le_of_ble_eq_true rfl) rfl (am_fit.of (by decide)) ⟨Nat.zero_le _, Nat.zero_le _⟩ ?_
    refine ev_i2l dL_later_10 ?_
    obtain ⟨c1, hB⟩ := ck_of hB
    refine es_last dL_later_11 hl4 c1 (ol_pos hl4) (ol_one hl4) ?_
    refine ev_goto 23 dL_later_12 (by decide) ?_
    refine ev_iconst 0 dL_later_23 (by decide) ?_
    obtain rfl := Option.some.inj hB
    exact ev_iret dL_later_24 rfl (Nat.zero_le _) (Nat.zero_le _) (fun z => absurd z (hp_sealed _)) ⟨rfl, rfl⟩
  · obtain ⟨fds, h1, -⟩ := isC_of hl0
    refine ev_invV (As := [.int l1, .int l2, .int l3]) (t_X9_later hl0 e1) dL_later_7 oX9_later w_1222 rfl (hp_get h1) rfl rfl (Nat.le_of_ble_eq_true rfl) rfl (am_fit.of (by decide)) ⟨Nat.le_refl _, Nat.le_refl _⟩ (fun v h2 hq => (nq_i v h2 hq).elim) (fun E h2 hq hz => ?_)
    obtain ⟨y, hy, rfl, rfl⟩ := hq
    cases hy
    by_cases q0 : x = 0
    · subst q0
      rw [if_pos rfl] at hB
      refine evx_catch [] _ _ rfl (fun z hz => nomatch hz) rfl (by decide) w_1074 e_1103 dL_later_15 (by decide) rfl ?_
      refine ev_iconst 1 dL_later_17 (by decide) ?_
      obtain rfl := Option.some.inj hB
      exact ev_iret dL_later_18 rfl (Nat.le_refl _) (Nat.le_refl _) (fun z => absurd z (hp_sealed _)) ⟨rfl, rfl⟩
    rw [if_neg q0] at hB
    by_cases q1 : x = 1
    · subst q1
      rw [if_pos rfl] at hB
      refine evx_catch [_] _ _ rfl (fun z hz => by rcases List.mem_singleton.mp hz with rfl; exact Or.inr ⟨by decide, rfl, w_1074⟩) rfl (by decide) w_824 e_208 dL_later_19 (by decide) rfl ?_
      refine ev_iconst 2 dL_later_21 (by decide) ?_
      obtain rfl := Option.some.inj hB
      exact ev_iret dL_later_22 rfl (Nat.le_refl _) (Nat.le_refl _) (fun z => absurd z (hp_sealed _)) ⟨rfl, rfl⟩
    rw [if_neg q1] at hB
    cases hB
theorem oL_later : am_okW mL_later 5 := ⟨w_1221, w_0, ⟨by decide, by decide, by decide +kernel⟩, by decide, w_1220⟩
def f_L_first (N : Nat) (l0 : Nat) (l1 : Int32) (l2 : Nat) (S : am_S) : Option (Int32 × am_S) := bw (f_X9_first N l0 l1 S) (fun r S1 => if inb 0 (ln l2) = true then some (0, lp S1 (l2 + Int32.toNatClampNeg 0) (Int32.toInt64 r)) else none) (fun e S1 => (if e = 0 then some (1, S1) else none))
theorem t_L_first {G : am_G} {N : Nat} {l0 : Nat} {l1 : Int32} {l2 : Nat} {S : am_S} {out : Int32 × am_S} (hl0 : isC 9 l0 = true) (hl2 : isAr 4 l2 = true) (hB : f_L_first N l0 l1 l2 S = some out) : am_MetW G 9 mL_first 1 6 [.ref l0, .int l1, .ref l2] (hp S) (q_i out) q_n := by
  refine am_ofW (by decide +kernel) rfl rfl (Nat.le_of_ble_eq_true rfl) ?_
  unfold f_L_first at hB
  refine ev_aload_n dL_first_0 rfl ?_
  refine ev_iconst 0 dL_first_1 (by decide) ?_
  refine ev_aload_n dL_first_2 rfl ?_
  refine ev_iload_n dL_first_3 rfl ?_
  rcases bw_of hB with ⟨r, S1, e1, hB⟩ | ⟨x, S1, e1, hB⟩
  · refine es_callVti (As := [.int l1]) (t_X9_first hl0 e1) dL_first_4 oX9_first w_1229 rfl hl0 rfl rfl (Nat.le_of_ble_eq_true rfl) rfl (am_fit.of (by decide)) ⟨Nat.zero_le _, Nat.zero_le _⟩ ?_
    refine ev_i2l dL_first_7 ?_
    obtain ⟨c1, hB⟩ := ck_of hB
    refine es_last dL_first_8 hl2 c1 (ol_pos hl2) (ol_one hl2) ?_
    refine ev_goto 15 dL_first_9 (by decide) ?_
    refine ev_iconst 0 dL_first_15 (by decide) ?_
    obtain rfl := Option.some.inj hB
    exact ev_iret dL_first_16 rfl (Nat.zero_le _) (Nat.zero_le _) (fun z => absurd z (hp_sealed _)) ⟨rfl, rfl⟩
  · obtain ⟨fds, h1, -⟩ := isC_of hl0
    refine ev_invV (As := [.int l1]) (t_X9_first hl0 e1) dL_first_4 oX9_first w_1229 rfl (hp_get h1) rfl rfl (Nat.le_of_ble_eq_true rfl) rfl (am_fit.of (by decide)) ⟨Nat.le_refl _, Nat.le_refl _⟩ (fun v h2 hq => (nq_i v h2 hq).elim) (fun E h2 hq hz => ?_)
    obtain ⟨y, hy, rfl, rfl⟩ := hq
    cases hy
    by_cases q0 : x = 0
    · subst q0
      rw [if_pos rfl] at hB
      refine evx_catch_n [] _ _ rfl (fun z hz => nomatch hz) rfl (by decide) w_1074 e_1103 dL_first_12 (by decide) rfl ?_
      refine ev_iconst 1 dL_first_13 (by decide) ?_
      obtain rfl := Option.some.inj hB
      exact ev_iret dL_first_14 rfl (Nat.le_refl _) (Nat.le_refl _) (fun z => absurd z (hp_sealed _)) ⟨rfl, rfl⟩
    rw [if_neg q0] at hB
    cases hB
theorem oL_first : am_okW mL_first 3 := ⟨w_1228, w_0, ⟨by decide, by decide, by decide +kernel⟩, by decide, w_1227⟩
def f_L_full (N : Nat) (l0 : Nat) (l1 : Int32) (l2 : Int32) (l3 : Nat) (S : am_S) : Option (Int32 × am_S) := bw (f_X9_full N l0 l1 l2 S) (fun r S1 => if inb 0 (ln l3) = true then some (0, lp S1 (l3 + Int32.toNatClampNeg 0) (Int32.toInt64 r)) else none) (fun e S1 => (if e = 0 then some (1, S1) else (if e = 1 then some (2, S1) else none)))
theorem t_L_full {G : am_G} {N : Nat} {l0 : Nat} {l1 : Int32} {l2 : Int32} {l3 : Nat} {S : am_S} {out : Int32 × am_S} (hl0 : isC 9 l0 = true) (hl3 : isAr 4 l3 = true) (hB : f_L_full N l0 l1 l2 l3 S = some out) : am_MetW G 9 mL_full 1 6 [.ref l0, .int l1, .int l2, .ref l3] (hp S) (q_i out) q_n := by
  refine am_ofW (by decide +kernel) rfl rfl (Nat.le_of_ble_eq_true rfl) ?_
  unfold f_L_full at hB
  refine ev_aload_n dL_full_0 rfl ?_
  refine ev_iconst 0 dL_full_1 (by decide) ?_
  refine ev_aload_n dL_full_2 rfl ?_
  refine ev_iload_n dL_full_3 rfl ?_
  refine ev_iload_n dL_full_4 rfl ?_
  rcases bw_of hB with ⟨r, S1, e1, hB⟩ | ⟨x, S1, e1, hB⟩
  · refine es_callVti (As := [.int l1, .int l2]) (t_X9_full hl0 e1) dL_full_5 oX9_full w_1236 rfl hl0 rfl rfl (Nat.le_of_ble_eq_true rfl) rfl (am_fit.of (by decide)) ⟨Nat.zero_le _, Nat.zero_le _⟩ ?_
    refine ev_i2l dL_full_8 ?_
    obtain ⟨c1, hB⟩ := ck_of hB
    refine es_last dL_full_9 hl3 c1 (ol_pos hl3) (ol_one hl3) ?_
    refine ev_goto 21 dL_full_10 (by decide) ?_
    refine ev_iconst 0 dL_full_21 (by decide) ?_
    obtain rfl := Option.some.inj hB
    exact ev_iret dL_full_22 rfl (Nat.zero_le _) (Nat.zero_le _) (fun z => absurd z (hp_sealed _)) ⟨rfl, rfl⟩
  · obtain ⟨fds, h1, -⟩ := isC_of hl0
    refine ev_invV (As := [.int l1, .int l2]) (t_X9_full hl0 e1) dL_full_5 oX9_full w_1236 rfl (hp_get h1) rfl rfl (Nat.le_of_ble_eq_true rfl) rfl (am_fit.of (by decide)) ⟨Nat.le_refl _, Nat.le_refl _⟩ (fun v h2 hq => (nq_i v h2 hq).elim) (fun E h2 hq hz => ?_)
    obtain ⟨y, hy, rfl, rfl⟩ := hq
    cases hy
    by_cases q0 : x = 0
    · subst q0
      rw [if_pos rfl] at hB
      refine evx_catch [] _ _ rfl (fun z hz => nomatch hz) rfl (by decide) w_1074 e_1103 dL_full_13 (by decide) rfl ?_
      refine ev_iconst 1 dL_full_15 (by decide) ?_
      obtain rfl := Option.some.inj hB
      exact ev_iret dL_full_16 rfl (Nat.le_refl _) (Nat.le_refl _) (fun z => absurd z (hp_sealed _)) ⟨rfl, rfl⟩
    rw [if_neg q0] at hB
    by_cases q1 : x = 1
    · subst q1
      rw [if_pos rfl] at hB
      refine evx_catch [_] _ _ rfl (fun z hz => by rcases List.mem_singleton.mp hz with rfl; exact Or.inr ⟨by decide, rfl, w_1074⟩) rfl (by decide) w_824 e_208 dL_full_17 (by decide) rfl ?_
      refine ev_iconst 2 dL_full_19 (by decide) ?_
      obtain rfl := Option.some.inj hB
      exact ev_iret dL_full_20 rfl (Nat.le_refl _) (Nat.le_refl _) (fun z => absurd z (hp_sealed _)) ⟨rfl, rfl⟩
    rw [if_neg q1] at hB
    cases hB
theorem oL_full : am_okW mL_full 4 := ⟨w_1235, w_0, ⟨by decide, by decide, by decide +kernel⟩, by decide, w_1234⟩
def f_L_most (N : Nat) (l0 : Nat) (l1 : Int32) (l2 : Int32) (l3 : Nat) (S : am_S) : Option (Int32 × am_S) := bw (f_X9_most N l0 l1 l2 S) (fun r S1 => if inb 0 (ln l3) = true then some (0, lp S1 (l3 + Int32.toNatClampNeg 0) (Int32.toInt64 r)) else none) (fun e S1 => (if e = 0 then some (1, S1) else (if e = 1 then some (2, S1) else none)))
theorem t_L_most {G : am_G} {N : Nat} {l0 : Nat} {l1 : Int32} {l2 : Int32} {l3 : Nat} {S : am_S} {out : Int32 × am_S} (hl0 : isC 9 l0 = true) (hl3 : isAr 4 l3 = true) (hB : f_L_most N l0 l1 l2 l3 S = some out) : am_MetW G 9 mL_most 1 6 [.ref l0, .int l1, .int l2, .ref l3] (hp S) (q_i out) q_n := by
  refine am_ofW (by decide +kernel) rfl rfl (Nat.le_of_ble_eq_true rfl) ?_
  unfold f_L_most at hB
  refine ev_aload_n dL_most_0 rfl ?_
  refine ev_iconst 0 dL_most_1 (by decide) ?_
  refine ev_aload_n dL_most_2 rfl ?_
  refine ev_iload_n dL_most_3 rfl ?_
  refine ev_iload_n dL_most_4 rfl ?_
  rcases bw_of hB with ⟨r, S1, e1, hB⟩ | ⟨x, S1, e1, hB⟩
  · refine es_callVti (As := [.int l1, .int l2]) (t_X9_most hl0 e1) dL_most_5 oX9_most w_1243 rfl hl0 rfl rfl (Nat.le_of_ble_eq_true rfl) rfl (am_fit.of (by decide)) ⟨Nat.zero_le _, Nat.zero_le _⟩ ?_
    refine ev_i2l dL_most_8 ?_
    obtain ⟨c1, hB⟩ := ck_of hB
    refine es_last dL_most_9 hl3 c1 (ol_pos hl3) (ol_one hl3) ?_
    refine ev_goto 21 dL_most_10 (by decide) ?_
    refine ev_iconst 0 dL_most_21 (by decide) ?_
    obtain rfl := Option.some.inj hB
    exact ev_iret dL_most_22 rfl (Nat.zero_le _) (Nat.zero_le _) (fun z => absurd z (hp_sealed _)) ⟨rfl, rfl⟩
  · obtain ⟨fds, h1, -⟩ := isC_of hl0
    refine ev_invV (As := [.int l1, .int l2]) (t_X9_most hl0 e1) dL_most_5 oX9_most w_1243 rfl (hp_get h1) rfl rfl (Nat.le_of_ble_eq_true rfl) rfl (am_fit.of (by decide)) ⟨Nat.le_refl _, Nat.le_refl _⟩ (fun v h2 hq => (nq_i v h2 hq).elim) (fun E h2 hq hz => ?_)
    obtain ⟨y, hy, rfl, rfl⟩ := hq
    cases hy
    by_cases q0 : x = 0
    · subst q0
      rw [if_pos rfl] at hB
      refine evx_catch [] _ _ rfl (fun z hz => nomatch hz) rfl (by decide) w_1074 e_1103 dL_most_13 (by decide) rfl ?_
      refine ev_iconst 1 dL_most_15 (by decide) ?_
      obtain rfl := Option.some.inj hB
      exact ev_iret dL_most_16 rfl (Nat.le_refl _) (Nat.le_refl _) (fun z => absurd z (hp_sealed _)) ⟨rfl, rfl⟩
    rw [if_neg q0] at hB
    by_cases q1 : x = 1
    · subst q1
      rw [if_pos rfl] at hB
      refine evx_catch [_] _ _ rfl (fun z hz => by rcases List.mem_singleton.mp hz with rfl; exact Or.inr ⟨by decide, rfl, w_1074⟩) rfl (by decide) w_824 e_208 dL_most_17 (by decide) rfl ?_
      refine ev_iconst 2 dL_most_19 (by decide) ?_
      obtain rfl := Option.some.inj hB
      exact ev_iret dL_most_20 rfl (Nat.le_refl _) (Nat.le_refl _) (fun z => absurd z (hp_sealed _)) ⟨rfl, rfl⟩
    rw [if_neg q1] at hB
    cases hB
theorem oL_most : am_okW mL_most 4 := ⟨w_1242, w_0, ⟨by decide, by decide, by decide +kernel⟩, by decide, w_1241⟩
def f_L_ring (N : Nat) (l0 : Nat) (l1 : Int32) (l2 : Nat) (S : am_S) : Option (Int32 × am_S) := bw (f_X9_ring N l0 l1 S) (fun r S1 => if inb 0 (ln l2) = true then some (0, lp S1 (l2 + Int32.toNatClampNeg 0) (Int32.toInt64 r)) else none) (fun e S1 => (if e = 0 then some (1, S1) else none))
theorem t_L_ring {G : am_G} {N : Nat} {l0 : Nat} {l1 : Int32} {l2 : Nat} {S : am_S} {out : Int32 × am_S} (hl0 : isC 9 l0 = true) (hl2 : isAr 4 l2 = true) (hB : f_L_ring N l0 l1 l2 S = some out) : am_MetW G 9 mL_ring 1 6 [.ref l0, .int l1, .ref l2] (hp S) (q_i out) q_n := by
  refine am_ofW (by decide +kernel) rfl rfl (Nat.le_of_ble_eq_true rfl) ?_
  unfold f_L_ring at hB
  refine ev_aload_n dL_ring_0 rfl ?_
  refine ev_iconst 0 dL_ring_1 (by decide) ?_
  refine ev_aload_n dL_ring_2 rfl ?_
  refine ev_iload_n dL_ring_3 rfl ?_
  rcases bw_of hB with ⟨r, S1, e1, hB⟩ | ⟨x, S1, e1, hB⟩
  · refine es_callVti (As := [.int l1]) (t_X9_ring hl0 e1) dL_ring_4 oX9_ring w_1266 rfl hl0 rfl rfl (Nat.le_of_ble_eq_true rfl) rfl (am_fit.of (by decide)) ⟨Nat.zero_le _, Nat.zero_le _⟩ ?_
    refine ev_i2l dL_ring_7 ?_
    obtain ⟨c1, hB⟩ := ck_of hB
    refine es_last dL_ring_8 hl2 c1 (ol_pos hl2) (ol_one hl2) ?_
    refine ev_goto 15 dL_ring_9 (by decide) ?_
    refine ev_iconst 0 dL_ring_15 (by decide) ?_
    obtain rfl := Option.some.inj hB
    exact ev_iret dL_ring_16 rfl (Nat.zero_le _) (Nat.zero_le _) (fun z => absurd z (hp_sealed _)) ⟨rfl, rfl⟩
  · obtain ⟨fds, h1, -⟩ := isC_of hl0
    refine ev_invV (As := [.int l1]) (t_X9_ring hl0 e1) dL_ring_4 oX9_ring w_1266 rfl (hp_get h1) rfl rfl (Nat.le_of_ble_eq_true rfl) rfl (am_fit.of (by decide)) ⟨Nat.le_refl _, Nat.le_refl _⟩ (fun v h2 hq => (nq_i v h2 hq).elim) (fun E h2 hq hz => ?_)
    obtain ⟨y, hy, rfl, rfl⟩ := hq
    cases hy
    by_cases q0 : x = 0
    · subst q0
      rw [if_pos rfl] at hB
      refine evx_catch_n [] _ _ rfl (fun z hz => nomatch hz) rfl (by decide) w_1074 e_1103 dL_ring_12 (by decide) rfl ?_
      refine ev_iconst 1 dL_ring_13 (by decide) ?_
      obtain rfl := Option.some.inj hB
      exact ev_iret dL_ring_14 rfl (Nat.le_refl _) (Nat.le_refl _) (fun z => absurd z (hp_sealed _)) ⟨rfl, rfl⟩
    rw [if_neg q0] at hB
    cases hB
theorem oL_ring : am_okW mL_ring 3 := ⟨w_1265, w_0, ⟨by decide, by decide, by decide +kernel⟩, by decide, w_1264⟩
def f_L_comesTo (N : Nat) (l0 : Nat) (l1 : Int32) (l2 : Nat) (S : am_S) : Option (Int32 × am_S) := bw (f_X9_comesTo N l0 l1 S) (fun r S1 => if inb 0 (ln l2) = true then some (0, lp S1 (l2 + Int32.toNatClampNeg 0) (Int32.toInt64 r)) else none) (fun e S1 => (if e = 0 then some (1, S1) else none))
theorem t_L_comesTo {G : am_G} {N : Nat} {l0 : Nat} {l1 : Int32} {l2 : Nat} {S : am_S} {out : Int32 × am_S} (hl0 : isC 9 l0 = true) (hl2 : isAr 4 l2 = true) (hB : f_L_comesTo N l0 l1 l2 S = some out) : am_MetW G 9 mL_comesTo 1 6 [.ref l0, .int l1, .ref l2] (hp S) (q_i out) q_n := by
  refine am_ofW (by decide +kernel) rfl rfl (Nat.le_of_ble_eq_true rfl) ?_
  unfold f_L_comesTo at hB
  refine ev_aload_n dL_comesTo_0 rfl ?_
  refine ev_iconst 0 dL_comesTo_1 (by decide) ?_
  refine ev_aload_n dL_comesTo_2 rfl ?_
  refine ev_iload_n dL_comesTo_3 rfl ?_
  rcases bw_of hB with ⟨r, S1, e1, hB⟩ | ⟨x, S1, e1, hB⟩
  · refine es_callVti (As := [.int l1]) (t_X9_comesTo hl0 e1) dL_comesTo_4 oX9_comesTo w_1277 rfl hl0 rfl rfl (Nat.le_of_ble_eq_true rfl) rfl (am_fit.of (by decide)) ⟨Nat.zero_le _, Nat.zero_le _⟩ ?_
    refine ev_i2l dL_comesTo_7 ?_
    obtain ⟨c1, hB⟩ := ck_of hB
    refine es_last dL_comesTo_8 hl2 c1 (ol_pos hl2) (ol_one hl2) ?_
    refine ev_goto 15 dL_comesTo_9 (by decide) ?_
    refine ev_iconst 0 dL_comesTo_15 (by decide) ?_
    obtain rfl := Option.some.inj hB
    exact ev_iret dL_comesTo_16 rfl (Nat.zero_le _) (Nat.zero_le _) (fun z => absurd z (hp_sealed _)) ⟨rfl, rfl⟩
  · obtain ⟨fds, h1, -⟩ := isC_of hl0
    refine ev_invV (As := [.int l1]) (t_X9_comesTo hl0 e1) dL_comesTo_4 oX9_comesTo w_1277 rfl (hp_get h1) rfl rfl (Nat.le_of_ble_eq_true rfl) rfl (am_fit.of (by decide)) ⟨Nat.le_refl _, Nat.le_refl _⟩ (fun v h2 hq => (nq_i v h2 hq).elim) (fun E h2 hq hz => ?_)
    obtain ⟨y, hy, rfl, rfl⟩ := hq
    cases hy
    by_cases q0 : x = 0
    · subst q0
      rw [if_pos rfl] at hB
      refine evx_catch_n [] _ _ rfl (fun z hz => nomatch hz) rfl (by decide) w_1074 e_1103 dL_comesTo_12 (by decide) rfl ?_
      refine ev_iconst 1 dL_comesTo_13 (by decide) ?_
      obtain rfl := Option.some.inj hB
      exact ev_iret dL_comesTo_14 rfl (Nat.le_refl _) (Nat.le_refl _) (fun z => absurd z (hp_sealed _)) ⟨rfl, rfl⟩
    rw [if_neg q0] at hB
    cases hB
theorem oL_comesTo : am_okW mL_comesTo 3 := ⟨w_1276, w_0, ⟨by decide, by decide, by decide +kernel⟩, by decide, w_1275⟩
def f_L_toCover (N : Nat) (l0 : Nat) (l1 : Int32) (l2 : Nat) (S : am_S) : Option (Int32 × am_S) := bw (f_X9_toCover N l0 l1 S) (fun r S1 => if inb 0 (ln l2) = true then some (0, lp S1 (l2 + Int32.toNatClampNeg 0) (Int32.toInt64 r)) else none) (fun e S1 => (if e = 1 then some (1, S1) else none))
theorem t_L_toCover {G : am_G} {N : Nat} {l0 : Nat} {l1 : Int32} {l2 : Nat} {S : am_S} {out : Int32 × am_S} (hl0 : isC 9 l0 = true) (hl2 : isAr 4 l2 = true) (hB : f_L_toCover N l0 l1 l2 S = some out) : am_MetW G 9 mL_toCover 1 6 [.ref l0, .int l1, .ref l2] (hp S) (q_i out) q_n := by
  refine am_ofW (by decide +kernel) rfl rfl (Nat.le_of_ble_eq_true rfl) ?_
  unfold f_L_toCover at hB
  refine ev_aload_n dL_toCover_0 rfl ?_
  refine ev_iconst 0 dL_toCover_1 (by decide) ?_
  refine ev_aload_n dL_toCover_2 rfl ?_
  refine ev_iload_n dL_toCover_3 rfl ?_
  rcases bw_of hB with ⟨r, S1, e1, hB⟩ | ⟨x, S1, e1, hB⟩
  · refine es_callVti (As := [.int l1]) (t_X9_toCover hl0 e1) dL_toCover_4 oX9_toCover w_1284 rfl hl0 rfl rfl (Nat.le_of_ble_eq_true rfl) rfl (am_fit.of (by decide)) ⟨Nat.zero_le _, Nat.zero_le _⟩ ?_
    refine ev_i2l dL_toCover_7 ?_
    obtain ⟨c1, hB⟩ := ck_of hB
    refine es_last dL_toCover_8 hl2 c1 (ol_pos hl2) (ol_one hl2) ?_
    refine ev_goto 15 dL_toCover_9 (by decide) ?_
    refine ev_iconst 0 dL_toCover_15 (by decide) ?_
    obtain rfl := Option.some.inj hB
    exact ev_iret dL_toCover_16 rfl (Nat.zero_le _) (Nat.zero_le _) (fun z => absurd z (hp_sealed _)) ⟨rfl, rfl⟩
  · obtain ⟨fds, h1, -⟩ := isC_of hl0
    refine ev_invV (As := [.int l1]) (t_X9_toCover hl0 e1) dL_toCover_4 oX9_toCover w_1284 rfl (hp_get h1) rfl rfl (Nat.le_of_ble_eq_true rfl) rfl (am_fit.of (by decide)) ⟨Nat.le_refl _, Nat.le_refl _⟩ (fun v h2 hq => (nq_i v h2 hq).elim) (fun E h2 hq hz => ?_)
    obtain ⟨y, hy, rfl, rfl⟩ := hq
    cases hy
    by_cases q1 : x = 1
    · subst q1
      rw [if_pos rfl] at hB
      refine evx_catch_n [] _ _ rfl (fun z hz => nomatch hz) rfl (by decide) w_824 e_208 dL_toCover_12 (by decide) rfl ?_
      refine ev_iconst 1 dL_toCover_13 (by decide) ?_
      obtain rfl := Option.some.inj hB
      exact ev_iret dL_toCover_14 rfl (Nat.le_refl _) (Nat.le_refl _) (fun z => absurd z (hp_sealed _)) ⟨rfl, rfl⟩
    rw [if_neg q1] at hB
    cases hB
theorem oL_toCover : am_okW mL_toCover 3 := ⟨w_1283, w_0, ⟨by decide, by decide, by decide +kernel⟩, by decide, w_1282⟩
def f_L_oneMore (N : Nat) (l0 : Nat) (l1 : Int32) (l2 : Nat) (S : am_S) : Option (Int32 × am_S) := bw (f_X9_oneMore N l0 l1 S) (fun r S1 => if inb 0 (ln l2) = true then some (0, lp S1 (l2 + Int32.toNatClampNeg 0) (Int32.toInt64 r)) else none) (fun e S1 => (if e = 0 then some (1, S1) else none))
theorem t_L_oneMore {G : am_G} {N : Nat} {l0 : Nat} {l1 : Int32} {l2 : Nat} {S : am_S} {out : Int32 × am_S} (hl0 : isC 9 l0 = true) (hl2 : isAr 4 l2 = true) (hB : f_L_oneMore N l0 l1 l2 S = some out) : am_MetW G 9 mL_oneMore 1 6 [.ref l0, .int l1, .ref l2] (hp S) (q_i out) q_n := by
  refine am_ofW (by decide +kernel) rfl rfl (Nat.le_of_ble_eq_true rfl) ?_
  unfold f_L_oneMore at hB
  refine ev_aload_n dL_oneMore_0 rfl ?_
  refine ev_iconst 0 dL_oneMore_1 (by decide) ?_
  refine ev_aload_n dL_oneMore_2 rfl ?_
  refine ev_iload_n dL_oneMore_3 rfl ?_
  rcases bw_of hB with ⟨r, S1, e1, hB⟩ | ⟨x, S1, e1, hB⟩
  · refine es_callVti (As := [.int l1]) (t_X9_oneMore hl0 e1) dL_oneMore_4 oX9_oneMore w_1309 rfl hl0 rfl rfl (Nat.le_of_ble_eq_true rfl) rfl (am_fit.of (by decide)) ⟨Nat.zero_le _, Nat.zero_le _⟩ ?_
    refine ev_i2l dL_oneMore_7 ?_
    obtain ⟨c1, hB⟩ := ck_of hB
    refine es_last dL_oneMore_8 hl2 c1 (ol_pos hl2) (ol_one hl2) ?_
    refine ev_goto 15 dL_oneMore_9 (by decide) ?_
    refine ev_iconst 0 dL_oneMore_15 (by decide) ?_
    obtain rfl := Option.some.inj hB
    exact ev_iret dL_oneMore_16 rfl (Nat.zero_le _) (Nat.zero_le _) (fun z => absurd z (hp_sealed _)) ⟨rfl, rfl⟩
  · obtain ⟨fds, h1, -⟩ := isC_of hl0
    refine ev_invV (As := [.int l1]) (t_X9_oneMore hl0 e1) dL_oneMore_4 oX9_oneMore w_1309 rfl (hp_get h1) rfl rfl (Nat.le_of_ble_eq_true rfl) rfl (am_fit.of (by decide)) ⟨Nat.le_refl _, Nat.le_refl _⟩ (fun v h2 hq => (nq_i v h2 hq).elim) (fun E h2 hq hz => ?_)
    obtain ⟨y, hy, rfl, rfl⟩ := hq
    cases hy
    by_cases q0 : x = 0
    · subst q0
      rw [if_pos rfl] at hB
      refine evx_catch_n [] _ _ rfl (fun z hz => nomatch hz) rfl (by decide) w_1074 e_1103 dL_oneMore_12 (by decide) rfl ?_
      refine ev_iconst 1 dL_oneMore_13 (by decide) ?_
      obtain rfl := Option.some.inj hB
      exact ev_iret dL_oneMore_14 rfl (Nat.le_refl _) (Nat.le_refl _) (fun z => absurd z (hp_sealed _)) ⟨rfl, rfl⟩
    rw [if_neg q0] at hB
    cases hB
theorem oL_oneMore : am_okW mL_oneMore 3 := ⟨w_1308, w_0, ⟨by decide, by decide, by decide +kernel⟩, by decide, w_1307⟩
def f_L_order (N : Nat) (l0 : Nat) (l1 : Int32) (l2 : Nat) (S : am_S) : Option (Int32 × am_S) := bw (f_X9_order N l0 l1 S) (fun r S1 => if inb 0 (ln l2) = true then some (0, lp S1 (l2 + Int32.toNatClampNeg 0) (Int32.toInt64 r)) else none) (fun e S1 => (if e = 0 then some (1, S1) else none))
theorem t_L_order {G : am_G} {N : Nat} {l0 : Nat} {l1 : Int32} {l2 : Nat} {S : am_S} {out : Int32 × am_S} (hl0 : isC 9 l0 = true) (hl2 : isAr 4 l2 = true) (hB : f_L_order N l0 l1 l2 S = some out) : am_MetW G 16 mL_order 1 6 [.ref l0, .int l1, .ref l2] (hp S) (q_i out) q_n := by
  refine am_ofW (by decide +kernel) rfl rfl (Nat.le_of_ble_eq_true rfl) ?_
  unfold f_L_order at hB
  refine ev_aload_n dL_order_0 rfl ?_
  refine ev_iconst 0 dL_order_1 (by decide) ?_
  refine ev_aload_n dL_order_2 rfl ?_
  refine ev_iload_n dL_order_3 rfl ?_
  rcases bw_of hB with ⟨r, S1, e1, hB⟩ | ⟨x, S1, e1, hB⟩
  · refine es_callVti (As := [.int l1]) (t_X9_order hl0 e1) dL_order_4 oX9_order w_1317 rfl hl0 rfl rfl (Nat.le_of_ble_eq_true rfl) rfl (am_fit.of (by decide)) ⟨Nat.zero_le _, Nat.zero_le _⟩ ?_
    refine ev_i2l dL_order_7 ?_
    obtain ⟨c1, hB⟩ := ck_of hB
    refine es_last dL_order_8 hl2 c1 (ol_pos hl2) (ol_one hl2) ?_
    refine ev_goto 15 dL_order_9 (by decide) ?_
    refine ev_iconst 0 dL_order_15 (by decide) ?_
    obtain rfl := Option.some.inj hB
    exact ev_iret dL_order_16 rfl (Nat.zero_le _) (Nat.zero_le _) (fun z => absurd z (hp_sealed _)) ⟨rfl, rfl⟩
  · obtain ⟨fds, h1, -⟩ := isC_of hl0
    refine ev_invV (As := [.int l1]) (t_X9_order hl0 e1) dL_order_4 oX9_order w_1317 rfl (hp_get h1) rfl rfl (Nat.le_of_ble_eq_true rfl) rfl (am_fit.of (by decide)) ⟨Nat.le_refl _, Nat.le_refl _⟩ (fun v h2 hq => (nq_i v h2 hq).elim) (fun E h2 hq hz => ?_)
    obtain ⟨y, hy, rfl, rfl⟩ := hq
    cases hy
    by_cases q0 : x = 0
    · subst q0
      rw [if_pos rfl] at hB
      refine evx_catch_n [] _ _ rfl (fun z hz => nomatch hz) rfl (by decide) w_1074 e_1103 dL_order_12 (by decide) rfl ?_
      refine ev_iconst 1 dL_order_13 (by decide) ?_
      obtain rfl := Option.some.inj hB
      exact ev_iret dL_order_14 rfl (Nat.le_refl _) (Nat.le_refl _) (fun z => absurd z (hp_sealed _)) ⟨rfl, rfl⟩
    rw [if_neg q0] at hB
    cases hB
theorem oL_order : am_okW mL_order 3 := ⟨w_1316, w_0, ⟨by decide, by decide, by decide +kernel⟩, by decide, w_1315⟩
def f_L_note (N : Nat) (l0 : Nat) (l1 : Int32) (l2 : Int32) (l3 : Int32) (l4 : Nat) (S : am_S) : Option (Int32 × am_S) := bw (f_X9_note N l0 l1 l2 l3 S) (fun r S1 => if inb 0 (ln l4) = true then some (0, lp S1 (l4 + Int32.toNatClampNeg 0) (Int32.toInt64 r)) else none) (fun e S1 => (if e = 0 then some (1, S1) else none))
theorem t_L_note {G : am_G} {N : Nat} {l0 : Nat} {l1 : Int32} {l2 : Int32} {l3 : Int32} {l4 : Nat} {S : am_S} {out : Int32 × am_S} (hl0 : isC 9 l0 = true) (hl4 : isAr 4 l4 = true) (hB : f_L_note N l0 l1 l2 l3 l4 S = some out) : am_MetW G 9 mL_note 1 6 [.ref l0, .int l1, .int l2, .int l3, .ref l4] (hp S) (q_i out) q_n := by
  refine am_ofW (by decide +kernel) rfl rfl (Nat.le_of_ble_eq_true rfl) ?_
  unfold f_L_note at hB
  refine ev_aload dL_note_0 rfl ?_
  refine ev_iconst 0 dL_note_2 (by decide) ?_
  refine ev_aload_n dL_note_3 rfl ?_
  refine ev_iload_n dL_note_4 rfl ?_
  refine ev_iload_n dL_note_5 rfl ?_
  refine ev_iload_n dL_note_6 rfl ?_
  rcases bw_of hB with ⟨r, S1, e1, hB⟩ | ⟨x, S1, e1, hB⟩
  · refine es_callVti (As := [.int l1, .int l2, .int l3]) (t_X9_note hl0 e1) dL_note_7 oX9_note w_1354 rfl hl0 rfl rfl (Nat.le_of_ble_eq_true rfl) rfl (am_fit.of (by decide)) ⟨Nat.zero_le _, Nat.zero_le _⟩ ?_
    refine ev_i2l dL_note_10 ?_
    obtain ⟨c1, hB⟩ := ck_of hB
    refine es_last dL_note_11 hl4 c1 (ol_pos hl4) (ol_one hl4) ?_
    refine ev_goto 19 dL_note_12 (by decide) ?_
    refine ev_iconst 0 dL_note_19 (by decide) ?_
    obtain rfl := Option.some.inj hB
    exact ev_iret dL_note_20 rfl (Nat.zero_le _) (Nat.zero_le _) (fun z => absurd z (hp_sealed _)) ⟨rfl, rfl⟩
  · obtain ⟨fds, h1, -⟩ := isC_of hl0
    refine ev_invV (As := [.int l1, .int l2, .int l3]) (t_X9_note hl0 e1) dL_note_7 oX9_note w_1354 rfl (hp_get h1) rfl rfl (Nat.le_of_ble_eq_true rfl) rfl (am_fit.of (by decide)) ⟨Nat.le_refl _, Nat.le_refl _⟩ (fun v h2 hq => (nq_i v h2 hq).elim) (fun E h2 hq hz => ?_)
    obtain ⟨y, hy, rfl, rfl⟩ := hq
    cases hy
    by_cases q0 : x = 0
    · subst q0
      rw [if_pos rfl] at hB
      refine evx_catch [] _ _ rfl (fun z hz => nomatch hz) rfl (by decide) w_1074 e_1103 dL_note_15 (by decide) rfl ?_
      refine ev_iconst 1 dL_note_17 (by decide) ?_
      obtain rfl := Option.some.inj hB
      exact ev_iret dL_note_18 rfl (Nat.le_refl _) (Nat.le_refl _) (fun z => absurd z (hp_sealed _)) ⟨rfl, rfl⟩
    rw [if_neg q0] at hB
    cases hB
theorem oL_note : am_okW mL_note 5 := ⟨w_1353, w_0, ⟨by decide, by decide, by decide +kernel⟩, by decide, w_1352⟩
def f_L_thought (N : Nat) (l0 : Nat) (l1 : Int32) (l2 : Nat) (S : am_S) : Option (Int32 × am_S) := bw (f_X9_thought N l0 l1 S) (fun r S1 => if inb 0 (ln l2) = true then some (0, lp S1 (l2 + Int32.toNatClampNeg 0) (Int32.toInt64 r)) else none) (fun e S1 => (if e = 0 then some (1, S1) else none))
theorem t_L_thought {G : am_G} {N : Nat} {l0 : Nat} {l1 : Int32} {l2 : Nat} {S : am_S} {out : Int32 × am_S} (hl0 : isC 9 l0 = true) (hl2 : isAr 4 l2 = true) (hB : f_L_thought N l0 l1 l2 S = some out) : am_MetW G 9 mL_thought 1 6 [.ref l0, .int l1, .ref l2] (hp S) (q_i out) q_n := by
  refine am_ofW (by decide +kernel) rfl rfl (Nat.le_of_ble_eq_true rfl) ?_
  unfold f_L_thought at hB
  refine ev_aload_n dL_thought_0 rfl ?_
  refine ev_iconst 0 dL_thought_1 (by decide) ?_
  refine ev_aload_n dL_thought_2 rfl ?_
  refine ev_iload_n dL_thought_3 rfl ?_
  rcases bw_of hB with ⟨r, S1, e1, hB⟩ | ⟨x, S1, e1, hB⟩
  · refine es_callVti (As := [.int l1]) (t_X9_thought hl0 e1) dL_thought_4 oX9_thought w_1365 rfl hl0 rfl rfl (Nat.le_of_ble_eq_true rfl) rfl (am_fit.of (by decide)) ⟨Nat.zero_le _, Nat.zero_le _⟩ ?_
    refine ev_i2l dL_thought_7 ?_
    obtain ⟨c1, hB⟩ := ck_of hB
    refine es_last dL_thought_8 hl2 c1 (ol_pos hl2) (ol_one hl2) ?_
    refine ev_goto 15 dL_thought_9 (by decide) ?_
    refine ev_iconst 0 dL_thought_15 (by decide) ?_
    obtain rfl := Option.some.inj hB
    exact ev_iret dL_thought_16 rfl (Nat.zero_le _) (Nat.zero_le _) (fun z => absurd z (hp_sealed _)) ⟨rfl, rfl⟩
  · obtain ⟨fds, h1, -⟩ := isC_of hl0
    refine ev_invV (As := [.int l1]) (t_X9_thought hl0 e1) dL_thought_4 oX9_thought w_1365 rfl (hp_get h1) rfl rfl (Nat.le_of_ble_eq_true rfl) rfl (am_fit.of (by decide)) ⟨Nat.le_refl _, Nat.le_refl _⟩ (fun v h2 hq => (nq_i v h2 hq).elim) (fun E h2 hq hz => ?_)
    obtain ⟨y, hy, rfl, rfl⟩ := hq
    cases hy
    by_cases q0 : x = 0
    · subst q0
      rw [if_pos rfl] at hB
      refine evx_catch_n [] _ _ rfl (fun z hz => nomatch hz) rfl (by decide) w_1074 e_1103 dL_thought_12 (by decide) rfl ?_
      refine ev_iconst 1 dL_thought_13 (by decide) ?_
      obtain rfl := Option.some.inj hB
      exact ev_iret dL_thought_14 rfl (Nat.le_refl _) (Nat.le_refl _) (fun z => absurd z (hp_sealed _)) ⟨rfl, rfl⟩
    rw [if_neg q0] at hB
    cases hB
theorem oL_thought : am_okW mL_thought 3 := ⟨w_1364, w_0, ⟨by decide, by decide, by decide +kernel⟩, by decide, w_1363⟩
def f_L_ask (N : Nat) (l0 : Nat) (l1 : Int32) (l2 : Nat) (S : am_S) : Option (Int32 × am_S) := bw (f_X9_ask N l0 l1 S) (fun r S1 => if inb 0 (ln l2) = true then some (0, lp S1 (l2 + Int32.toNatClampNeg 0) (Int32.toInt64 r)) else none) (fun e S1 => (if e = 0 then some (1, S1) else none))
theorem t_L_ask {G : am_G} {N : Nat} {l0 : Nat} {l1 : Int32} {l2 : Nat} {S : am_S} {out : Int32 × am_S} (hl0 : isC 9 l0 = true) (hl2 : isAr 4 l2 = true) (hB : f_L_ask N l0 l1 l2 S = some out) : am_MetW G 9 mL_ask 1 6 [.ref l0, .int l1, .ref l2] (hp S) (q_i out) q_n := by
  refine am_ofW (by decide +kernel) rfl rfl (Nat.le_of_ble_eq_true rfl) ?_
  unfold f_L_ask at hB
  refine ev_aload_n dL_ask_0 rfl ?_
  refine ev_iconst 0 dL_ask_1 (by decide) ?_
  refine ev_aload_n dL_ask_2 rfl ?_
  refine ev_iload_n dL_ask_3 rfl ?_
  rcases bw_of hB with ⟨r, S1, e1, hB⟩ | ⟨x, S1, e1, hB⟩
  · refine es_callVti (As := [.int l1]) (t_X9_ask hl0 e1) dL_ask_4 oX9_ask w_1390 rfl hl0 rfl rfl (Nat.le_of_ble_eq_true rfl) rfl (am_fit.of (by decide)) ⟨Nat.zero_le _, Nat.zero_le _⟩ ?_
    refine ev_i2l dL_ask_7 ?_
    obtain ⟨c1, hB⟩ := ck_of hB
    refine es_last dL_ask_8 hl2 c1 (ol_pos hl2) (ol_one hl2) ?_
    refine ev_goto 15 dL_ask_9 (by decide) ?_
    refine ev_iconst 0 dL_ask_15 (by decide) ?_
    obtain rfl := Option.some.inj hB
    exact ev_iret dL_ask_16 rfl (Nat.zero_le _) (Nat.zero_le _) (fun z => absurd z (hp_sealed _)) ⟨rfl, rfl⟩
  · obtain ⟨fds, h1, -⟩ := isC_of hl0
    refine ev_invV (As := [.int l1]) (t_X9_ask hl0 e1) dL_ask_4 oX9_ask w_1390 rfl (hp_get h1) rfl rfl (Nat.le_of_ble_eq_true rfl) rfl (am_fit.of (by decide)) ⟨Nat.le_refl _, Nat.le_refl _⟩ (fun v h2 hq => (nq_i v h2 hq).elim) (fun E h2 hq hz => ?_)
    obtain ⟨y, hy, rfl, rfl⟩ := hq
    cases hy
    by_cases q0 : x = 0
    · subst q0
      rw [if_pos rfl] at hB
      refine evx_catch_n [] _ _ rfl (fun z hz => nomatch hz) rfl (by decide) w_1074 e_1103 dL_ask_12 (by decide) rfl ?_
      refine ev_iconst 1 dL_ask_13 (by decide) ?_
      obtain rfl := Option.some.inj hB
      exact ev_iret dL_ask_14 rfl (Nat.le_refl _) (Nat.le_refl _) (fun z => absurd z (hp_sealed _)) ⟨rfl, rfl⟩
    rw [if_neg q0] at hB
    cases hB
theorem oL_ask : am_okW mL_ask 3 := ⟨w_1389, w_0, ⟨by decide, by decide, by decide +kernel⟩, by decide, w_1388⟩
def f_L_wetNights (N : Nat) (l0 : Nat) (l1 : Int32) (l2 : Int32) (l3 : Int32) (l4 : Int32) (l5 : Nat) (S : am_S) : Option (Int32 × am_S) := bw (f_X9_wetNights N l0 l1 l2 l3 l4 S) (fun r S1 => if inb 0 (ln l5) = true then some (0, lp S1 (l5 + Int32.toNatClampNeg 0) (Int32.toInt64 r)) else none) (fun e S1 => (if e = 0 then some (1, S1) else (if e = 1 then some (2, S1) else none)))
theorem t_L_wetNights {G : am_G} {N : Nat} {l0 : Nat} {l1 : Int32} {l2 : Int32} {l3 : Int32} {l4 : Int32} {l5 : Nat} {S : am_S} {out : Int32 × am_S} (hl0 : isC 9 l0 = true) (hl5 : isAr 4 l5 = true) (hB : f_L_wetNights N l0 l1 l2 l3 l4 l5 S = some out) : am_MetW G 9 mL_wetNights 1 6 [.ref l0, .int l1, .int l2, .int l3, .int l4, .ref l5] (hp S) (q_i out) q_n := by
  refine am_ofW (by decide +kernel) rfl rfl (Nat.le_of_ble_eq_true rfl) ?_
  unfold f_L_wetNights at hB
  refine ev_aload dL_wetNights_0 rfl ?_
  refine ev_iconst 0 dL_wetNights_2 (by decide) ?_
  refine ev_aload_n dL_wetNights_3 rfl ?_
  refine ev_iload_n dL_wetNights_4 rfl ?_
  refine ev_iload_n dL_wetNights_5 rfl ?_
  refine ev_iload_n dL_wetNights_6 rfl ?_
  refine ev_iload dL_wetNights_7 rfl ?_
  rcases bw_of hB with ⟨r, S1, e1, hB⟩ | ⟨x, S1, e1, hB⟩
  · refine es_callVti (As := [.int l1, .int l2, .int l3, .int l4]) (t_X9_wetNights hl0 e1) dL_wetNights_9 oX9_wetNights w_1413 rfl hl0 rfl rfl (Nat.le_of_ble_eq_true rfl) rfl (am_fit.of (by decide)) ⟨Nat.zero_le _, Nat.zero_le _⟩ ?_
    refine ev_i2l dL_wetNights_12 ?_
    obtain ⟨c1, hB⟩ := ck_of hB
    refine es_last dL_wetNights_13 hl5 c1 (ol_pos hl5) (ol_one hl5) ?_
    refine ev_goto 25 dL_wetNights_14 (by decide) ?_
    refine ev_iconst 0 dL_wetNights_25 (by decide) ?_
    obtain rfl := Option.some.inj hB
    exact ev_iret dL_wetNights_26 rfl (Nat.zero_le _) (Nat.zero_le _) (fun z => absurd z (hp_sealed _)) ⟨rfl, rfl⟩
  · obtain ⟨fds, h1, -⟩ := isC_of hl0
    refine ev_invV (As := [.int l1, .int l2, .int l3, .int l4]) (t_X9_wetNights hl0 e1) dL_wetNights_9 oX9_wetNights w_1413 rfl (hp_get h1) rfl rfl (Nat.le_of_ble_eq_true rfl) rfl (am_fit.of (by decide)) ⟨Nat.le_refl _, Nat.le_refl _⟩ (fun v h2 hq => (nq_i v h2 hq).elim) (fun E h2 hq hz => ?_)
    obtain ⟨y, hy, rfl, rfl⟩ := hq
    cases hy
    by_cases q0 : x = 0
    · subst q0
      rw [if_pos rfl] at hB
      refine evx_catch [] _ _ rfl (fun z hz => nomatch hz) rfl (by decide) w_1074 e_1103 dL_wetNights_17 (by decide) rfl ?_
      refine ev_iconst 1 dL_wetNights_19 (by decide) ?_
      obtain rfl := Option.some.inj hB
      exact ev_iret dL_wetNights_20 rfl (Nat.le_refl _) (Nat.le_refl _) (fun z => absurd z (hp_sealed _)) ⟨rfl, rfl⟩
    rw [if_neg q0] at hB
    by_cases q1 : x = 1
    · subst q1
      rw [if_pos rfl] at hB
      refine evx_catch [_] _ _ rfl (fun z hz => by rcases List.mem_singleton.mp hz with rfl; exact Or.inr ⟨by decide, rfl, w_1074⟩) rfl (by decide) w_824 e_208 dL_wetNights_21 (by decide) rfl ?_
      refine ev_iconst 2 dL_wetNights_23 (by decide) ?_
      obtain rfl := Option.some.inj hB
      exact ev_iret dL_wetNights_24 rfl (Nat.le_refl _) (Nat.le_refl _) (fun z => absurd z (hp_sealed _)) ⟨rfl, rfl⟩
    rw [if_neg q1] at hB
    cases hB
theorem oL_wetNights : am_okW mL_wetNights 6 := ⟨w_1412, w_0, ⟨by decide, by decide, by decide +kernel⟩, by decide, w_1411⟩
def f_L_game (N : Nat) (l0 : Nat) (l1 : Int32) (l2 : Int32) (l3 : Int32) (l4 : Nat) (S : am_S) : Option (Int32 × am_S) := bw (f_X9_game N l0 l1 l2 l3 S) (fun r S1 => if inb 0 (ln l4) = true then some (0, lp S1 (l4 + Int32.toNatClampNeg 0) (Int32.toInt64 r)) else none) (fun e S1 => (if e = 0 then some (1, S1) else (if e = 1 then some (2, S1) else none)))
theorem t_L_game {G : am_G} {N : Nat} {l0 : Nat} {l1 : Int32} {l2 : Int32} {l3 : Int32} {l4 : Nat} {S : am_S} {out : Int32 × am_S} (hl0 : isC 9 l0 = true) (hl4 : isAr 4 l4 = true) (hB : f_L_game N l0 l1 l2 l3 l4 S = some out) : am_MetW G 9 mL_game 1 6 [.ref l0, .int l1, .int l2, .int l3, .ref l4] (hp S) (q_i out) q_n := by
  refine am_ofW (by decide +kernel) rfl rfl (Nat.le_of_ble_eq_true rfl) ?_
  unfold f_L_game at hB
  refine ev_aload dL_game_0 rfl ?_
  refine ev_iconst 0 dL_game_2 (by decide) ?_
  refine ev_aload_n dL_game_3 rfl ?_
  refine ev_iload_n dL_game_4 rfl ?_
  refine ev_iload_n dL_game_5 rfl ?_
  refine ev_iload_n dL_game_6 rfl ?_
  rcases bw_of hB with ⟨r, S1, e1, hB⟩ | ⟨x, S1, e1, hB⟩
  · refine es_callVti (As := [.int l1, .int l2, .int l3]) (t_X9_game hl0 e1) dL_game_7 oX9_game w_1428 rfl hl0 rfl rfl (Nat.le_of_ble_eq_true rfl) rfl (am_fit.of (by decide)) ⟨Nat.zero_le _, Nat.zero_le _⟩ ?_
    refine ev_i2l dL_game_10 ?_
    obtain ⟨c1, hB⟩ := ck_of hB
    refine es_last dL_game_11 hl4 c1 (ol_pos hl4) (ol_one hl4) ?_
    refine ev_goto 23 dL_game_12 (by decide) ?_
    refine ev_iconst 0 dL_game_23 (by decide) ?_
    obtain rfl := Option.some.inj hB
    exact ev_iret dL_game_24 rfl (Nat.zero_le _) (Nat.zero_le _) (fun z => absurd z (hp_sealed _)) ⟨rfl, rfl⟩
  · obtain ⟨fds, h1, -⟩ := isC_of hl0
    refine ev_invV (As := [.int l1, .int l2, .int l3]) (t_X9_game hl0 e1) dL_game_7 oX9_game w_1428 rfl (hp_get h1) rfl rfl (Nat.le_of_ble_eq_true rfl) rfl (am_fit.of (by decide)) ⟨Nat.le_refl _, Nat.le_refl _⟩ (fun v h2 hq => (nq_i v h2 hq).elim) (fun E h2 hq hz => ?_)
    obtain ⟨y, hy, rfl, rfl⟩ := hq
    cases hy
    by_cases q0 : x = 0
    · subst q0
      rw [if_pos rfl] at hB
      refine evx_catch [] _ _ rfl (fun z hz => nomatch hz) rfl (by decide) w_1074 e_1103 dL_game_15 (by decide) rfl ?_
      refine ev_iconst 1 dL_game_17 (by decide) ?_
      obtain rfl := Option.some.inj hB
      exact ev_iret dL_game_18 rfl (Nat.le_refl _) (Nat.le_refl _) (fun z => absurd z (hp_sealed _)) ⟨rfl, rfl⟩
    rw [if_neg q0] at hB
    by_cases q1 : x = 1
    · subst q1
      rw [if_pos rfl] at hB
      refine evx_catch [_] _ _ rfl (fun z hz => by rcases List.mem_singleton.mp hz with rfl; exact Or.inr ⟨by decide, rfl, w_1074⟩) rfl (by decide) w_824 e_208 dL_game_19 (by decide) rfl ?_
      refine ev_iconst 2 dL_game_21 (by decide) ?_
      obtain rfl := Option.some.inj hB
      exact ev_iret dL_game_22 rfl (Nat.le_refl _) (Nat.le_refl _) (fun z => absurd z (hp_sealed _)) ⟨rfl, rfl⟩
    rw [if_neg q1] at hB
    cases hB
theorem oL_game : am_okW mL_game 5 := ⟨w_1427, w_0, ⟨by decide, by decide, by decide +kernel⟩, by decide, w_1426⟩
def f_L_years (N : Nat) (l0 : Nat) (l1 : Int32) (l2 : Int32) (l3 : Int32) (l4 : Nat) (S : am_S) : Option (Int32 × am_S) := bw (f_X9_years N l0 l1 l2 l3 S) (fun r S1 => if inb 0 (ln l4) = true then some (0, lp S1 (l4 + Int32.toNatClampNeg 0) (Int32.toInt64 r)) else none) (fun e S1 => (if e = 0 then some (1, S1) else (if e = 1 then some (2, S1) else none)))
theorem t_L_years {G : am_G} {N : Nat} {l0 : Nat} {l1 : Int32} {l2 : Int32} {l3 : Int32} {l4 : Nat} {S : am_S} {out : Int32 × am_S} (hl0 : isC 9 l0 = true) (hl4 : isAr 4 l4 = true) (hB : f_L_years N l0 l1 l2 l3 l4 S = some out) : am_MetW G 9 mL_years 1 6 [.ref l0, .int l1, .int l2, .int l3, .ref l4] (hp S) (q_i out) q_n := by
  refine am_ofW (by decide +kernel) rfl rfl (Nat.le_of_ble_eq_true rfl) ?_
  unfold f_L_years at hB
  refine ev_aload dL_years_0 rfl ?_
  refine ev_iconst 0 dL_years_2 (by decide) ?_
  refine ev_aload_n dL_years_3 rfl ?_
  refine ev_iload_n dL_years_4 rfl ?_
  refine ev_iload_n dL_years_5 rfl ?_
  refine ev_iload_n dL_years_6 rfl ?_
  rcases bw_of hB with ⟨r, S1, e1, hB⟩ | ⟨x, S1, e1, hB⟩
  · refine es_callVti (As := [.int l1, .int l2, .int l3]) (t_X9_years hl0 e1) dL_years_7 oX9_years w_1448 rfl hl0 rfl rfl (Nat.le_of_ble_eq_true rfl) rfl (am_fit.of (by decide)) ⟨Nat.zero_le _, Nat.zero_le _⟩ ?_
    refine ev_i2l dL_years_10 ?_
    obtain ⟨c1, hB⟩ := ck_of hB
    refine es_last dL_years_11 hl4 c1 (ol_pos hl4) (ol_one hl4) ?_
    refine ev_goto 23 dL_years_12 (by decide) ?_
    refine ev_iconst 0 dL_years_23 (by decide) ?_
    obtain rfl := Option.some.inj hB
    exact ev_iret dL_years_24 rfl (Nat.zero_le _) (Nat.zero_le _) (fun z => absurd z (hp_sealed _)) ⟨rfl, rfl⟩
  · obtain ⟨fds, h1, -⟩ := isC_of hl0
    refine ev_invV (As := [.int l1, .int l2, .int l3]) (t_X9_years hl0 e1) dL_years_7 oX9_years w_1448 rfl (hp_get h1) rfl rfl (Nat.le_of_ble_eq_true rfl) rfl (am_fit.of (by decide)) ⟨Nat.le_refl _, Nat.le_refl _⟩ (fun v h2 hq => (nq_i v h2 hq).elim) (fun E h2 hq hz => ?_)
    obtain ⟨y, hy, rfl, rfl⟩ := hq
    cases hy
    by_cases q0 : x = 0
    · subst q0
      rw [if_pos rfl] at hB
      refine evx_catch [] _ _ rfl (fun z hz => nomatch hz) rfl (by decide) w_1074 e_1103 dL_years_15 (by decide) rfl ?_
      refine ev_iconst 1 dL_years_17 (by decide) ?_
      obtain rfl := Option.some.inj hB
      exact ev_iret dL_years_18 rfl (Nat.le_refl _) (Nat.le_refl _) (fun z => absurd z (hp_sealed _)) ⟨rfl, rfl⟩
    rw [if_neg q0] at hB
    by_cases q1 : x = 1
    · subst q1
      rw [if_pos rfl] at hB
      refine evx_catch [_] _ _ rfl (fun z hz => by rcases List.mem_singleton.mp hz with rfl; exact Or.inr ⟨by decide, rfl, w_1074⟩) rfl (by decide) w_824 e_208 dL_years_19 (by decide) rfl ?_
      refine ev_iconst 2 dL_years_21 (by decide) ?_
      obtain rfl := Option.some.inj hB
      exact ev_iret dL_years_22 rfl (Nat.le_refl _) (Nat.le_refl _) (fun z => absurd z (hp_sealed _)) ⟨rfl, rfl⟩
    rw [if_neg q1] at hB
    cases hB
theorem oL_years : am_okW mL_years 5 := ⟨w_1447, w_0, ⟨by decide, by decide, by decide +kernel⟩, by decide, w_1446⟩
def f_L_pale (N : Nat) (l0 : Nat) (l1 : Int32) (l2 : Int32) (l3 : Nat) (S : am_S) : Option (Int32 × am_S) := bw (f_X9_pale N l0 l1 l2 S) (fun r S1 => if inb 0 (ln l3) = true then some (0, lp S1 (l3 + Int32.toNatClampNeg 0) (Int32.toInt64 r)) else none) (fun e S1 => (if e = 0 then some (1, S1) else (if e = 1 then some (2, S1) else none)))
theorem t_L_pale {G : am_G} {N : Nat} {l0 : Nat} {l1 : Int32} {l2 : Int32} {l3 : Nat} {S : am_S} {out : Int32 × am_S} (hl0 : isC 9 l0 = true) (hl3 : isAr 4 l3 = true) (hB : f_L_pale N l0 l1 l2 l3 S = some out) : am_MetW G 9 mL_pale 1 6 [.ref l0, .int l1, .int l2, .ref l3] (hp S) (q_i out) q_n := by
  refine am_ofW (by decide +kernel) rfl rfl (Nat.le_of_ble_eq_true rfl) ?_
  unfold f_L_pale at hB
  refine ev_aload_n dL_pale_0 rfl ?_
  refine ev_iconst 0 dL_pale_1 (by decide) ?_
  refine ev_aload_n dL_pale_2 rfl ?_
  refine ev_iload_n dL_pale_3 rfl ?_
  refine ev_iload_n dL_pale_4 rfl ?_
  rcases bw_of hB with ⟨r, S1, e1, hB⟩ | ⟨x, S1, e1, hB⟩
  · refine es_callVti (As := [.int l1, .int l2]) (t_X9_pale hl0 e1) dL_pale_5 oX9_pale w_1468 rfl hl0 rfl rfl (Nat.le_of_ble_eq_true rfl) rfl (am_fit.of (by decide)) ⟨Nat.zero_le _, Nat.zero_le _⟩ ?_
    refine ev_i2l dL_pale_8 ?_
    obtain ⟨c1, hB⟩ := ck_of hB
    refine es_last dL_pale_9 hl3 c1 (ol_pos hl3) (ol_one hl3) ?_
    refine ev_goto 21 dL_pale_10 (by decide) ?_
    refine ev_iconst 0 dL_pale_21 (by decide) ?_
    obtain rfl := Option.some.inj hB
    exact ev_iret dL_pale_22 rfl (Nat.zero_le _) (Nat.zero_le _) (fun z => absurd z (hp_sealed _)) ⟨rfl, rfl⟩
  · obtain ⟨fds, h1, -⟩ := isC_of hl0
    refine ev_invV (As := [.int l1, .int l2]) (t_X9_pale hl0 e1) dL_pale_5 oX9_pale w_1468 rfl (hp_get h1) rfl rfl (Nat.le_of_ble_eq_true rfl) rfl (am_fit.of (by decide)) ⟨Nat.le_refl _, Nat.le_refl _⟩ (fun v h2 hq => (nq_i v h2 hq).elim) (fun E h2 hq hz => ?_)
    obtain ⟨y, hy, rfl, rfl⟩ := hq
    cases hy
    by_cases q0 : x = 0
    · subst q0
      rw [if_pos rfl] at hB
      refine evx_catch [] _ _ rfl (fun z hz => nomatch hz) rfl (by decide) w_1074 e_1103 dL_pale_13 (by decide) rfl ?_
      refine ev_iconst 1 dL_pale_15 (by decide) ?_
      obtain rfl := Option.some.inj hB
      exact ev_iret dL_pale_16 rfl (Nat.le_refl _) (Nat.le_refl _) (fun z => absurd z (hp_sealed _)) ⟨rfl, rfl⟩
    rw [if_neg q0] at hB
    by_cases q1 : x = 1
    · subst q1
      rw [if_pos rfl] at hB
      refine evx_catch [_] _ _ rfl (fun z hz => by rcases List.mem_singleton.mp hz with rfl; exact Or.inr ⟨by decide, rfl, w_1074⟩) rfl (by decide) w_824 e_208 dL_pale_17 (by decide) rfl ?_
      refine ev_iconst 2 dL_pale_19 (by decide) ?_
      obtain rfl := Option.some.inj hB
      exact ev_iret dL_pale_20 rfl (Nat.le_refl _) (Nat.le_refl _) (fun z => absurd z (hp_sealed _)) ⟨rfl, rfl⟩
    rw [if_neg q1] at hB
    cases hB
theorem oL_pale : am_okW mL_pale 4 := ⟨w_1467, w_0, ⟨by decide, by decide, by decide +kernel⟩, by decide, w_1466⟩
def f_L_visits (N : Nat) (l0 : Nat) (l1 : Int32) (l2 : Int32) (l3 : Nat) (S : am_S) : Option (Int32 × am_S) := bw (f_X9_visits N l0 l1 l2 S) (fun r S1 => if inb 0 (ln l3) = true then some (0, lp S1 (l3 + Int32.toNatClampNeg 0) (Int32.toInt64 r)) else none) (fun e S1 => (if e = 0 then some (1, S1) else (if e = 1 then some (2, S1) else none)))
theorem t_L_visits {G : am_G} {N : Nat} {l0 : Nat} {l1 : Int32} {l2 : Int32} {l3 : Nat} {S : am_S} {out : Int32 × am_S} (hl0 : isC 9 l0 = true) (hl3 : isAr 4 l3 = true) (hB : f_L_visits N l0 l1 l2 l3 S = some out) : am_MetW G 9 mL_visits 1 6 [.ref l0, .int l1, .int l2, .ref l3] (hp S) (q_i out) q_n := by
  refine am_ofW (by decide +kernel) rfl rfl (Nat.le_of_ble_eq_true rfl) ?_
  unfold f_L_visits at hB
  refine ev_aload_n dL_visits_0 rfl ?_
  refine ev_iconst 0 dL_visits_1 (by decide) ?_
  refine ev_aload_n dL_visits_2 rfl ?_
  refine ev_iload_n dL_visits_3 rfl ?_
  refine ev_iload_n dL_visits_4 rfl ?_
  rcases bw_of hB with ⟨r, S1, e1, hB⟩ | ⟨x, S1, e1, hB⟩
  · refine es_callVti (As := [.int l1, .int l2]) (t_X9_visits hl0 e1) dL_visits_5 oX9_visits w_1475 rfl hl0 rfl rfl (Nat.le_of_ble_eq_true rfl) rfl (am_fit.of (by decide)) ⟨Nat.zero_le _, Nat.zero_le _⟩ ?_
    refine ev_i2l dL_visits_8 ?_
    obtain ⟨c1, hB⟩ := ck_of hB
    refine es_last dL_visits_9 hl3 c1 (ol_pos hl3) (ol_one hl3) ?_
    refine ev_goto 21 dL_visits_10 (by decide) ?_
    refine ev_iconst 0 dL_visits_21 (by decide) ?_
    obtain rfl := Option.some.inj hB
    exact ev_iret dL_visits_22 rfl (Nat.zero_le _) (Nat.zero_le _) (fun z => absurd z (hp_sealed _)) ⟨rfl, rfl⟩
  · obtain ⟨fds, h1, -⟩ := isC_of hl0
    refine ev_invV (As := [.int l1, .int l2]) (t_X9_visits hl0 e1) dL_visits_5 oX9_visits w_1475 rfl (hp_get h1) rfl rfl (Nat.le_of_ble_eq_true rfl) rfl (am_fit.of (by decide)) ⟨Nat.le_refl _, Nat.le_refl _⟩ (fun v h2 hq => (nq_i v h2 hq).elim) (fun E h2 hq hz => ?_)
    obtain ⟨y, hy, rfl, rfl⟩ := hq
    cases hy
    by_cases q0 : x = 0
    · subst q0
      rw [if_pos rfl] at hB
      refine evx_catch [] _ _ rfl (fun z hz => nomatch hz) rfl (by decide) w_1074 e_1103 dL_visits_13 (by decide) rfl ?_
      refine ev_iconst 1 dL_visits_15 (by decide) ?_
      obtain rfl := Option.some.inj hB
      exact ev_iret dL_visits_16 rfl (Nat.le_refl _) (Nat.le_refl _) (fun z => absurd z (hp_sealed _)) ⟨rfl, rfl⟩
    rw [if_neg q0] at hB
    by_cases q1 : x = 1
    · subst q1
      rw [if_pos rfl] at hB
      refine evx_catch [_] _ _ rfl (fun z hz => by rcases List.mem_singleton.mp hz with rfl; exact Or.inr ⟨by decide, rfl, w_1074⟩) rfl (by decide) w_824 e_208 dL_visits_17 (by decide) rfl ?_
      refine ev_iconst 2 dL_visits_19 (by decide) ?_
      obtain rfl := Option.some.inj hB
      exact ev_iret dL_visits_20 rfl (Nat.le_refl _) (Nat.le_refl _) (fun z => absurd z (hp_sealed _)) ⟨rfl, rfl⟩
    rw [if_neg q1] at hB
    cases hB
theorem oL_visits : am_okW mL_visits 4 := ⟨w_1474, w_0, ⟨by decide, by decide, by decide +kernel⟩, by decide, w_1473⟩
def f_L_steps (N : Nat) (l0 : Nat) (l1 : Int32) (l2 : Int32) (l3 : Nat) (S : am_S) : Option (Int32 × am_S) := bw (f_X9_steps N l0 l1 l2 S) (fun r S1 => if inb 0 (ln l3) = true then some (0, lp S1 (l3 + Int32.toNatClampNeg 0) (Int32.toInt64 r)) else none) (fun e S1 => (if e = 0 then some (1, S1) else none))
theorem t_L_steps {G : am_G} {N : Nat} {l0 : Nat} {l1 : Int32} {l2 : Int32} {l3 : Nat} {S : am_S} {out : Int32 × am_S} (hl0 : isC 9 l0 = true) (hl3 : isAr 4 l3 = true) (hB : f_L_steps N l0 l1 l2 l3 S = some out) : am_MetW G 9 mL_steps 1 6 [.ref l0, .int l1, .int l2, .ref l3] (hp S) (q_i out) q_n := by
  refine am_ofW (by decide +kernel) rfl rfl (Nat.le_of_ble_eq_true rfl) ?_
  unfold f_L_steps at hB
  refine ev_aload_n dL_steps_0 rfl ?_
  refine ev_iconst 0 dL_steps_1 (by decide) ?_
  refine ev_aload_n dL_steps_2 rfl ?_
  refine ev_iload_n dL_steps_3 rfl ?_
  refine ev_iload_n dL_steps_4 rfl ?_
  rcases bw_of hB with ⟨r, S1, e1, hB⟩ | ⟨x, S1, e1, hB⟩
  · refine es_callVti (As := [.int l1, .int l2]) (t_X9_steps hl0 e1) dL_steps_5 oX9_steps w_1482 rfl hl0 rfl rfl (Nat.le_of_ble_eq_true rfl) rfl (am_fit.of (by decide)) ⟨Nat.zero_le _, Nat.zero_le _⟩ ?_
    refine ev_i2l dL_steps_8 ?_
    obtain ⟨c1, hB⟩ := ck_of hB
    refine es_last dL_steps_9 hl3 c1 (ol_pos hl3) (ol_one hl3) ?_
    refine ev_goto 17 dL_steps_10 (by decide) ?_
    refine ev_iconst 0 dL_steps_17 (by decide) ?_
    obtain rfl := Option.some.inj hB
    exact ev_iret dL_steps_18 rfl (Nat.zero_le _) (Nat.zero_le _) (fun z => absurd z (hp_sealed _)) ⟨rfl, rfl⟩
  · obtain ⟨fds, h1, -⟩ := isC_of hl0
    refine ev_invV (As := [.int l1, .int l2]) (t_X9_steps hl0 e1) dL_steps_5 oX9_steps w_1482 rfl (hp_get h1) rfl rfl (Nat.le_of_ble_eq_true rfl) rfl (am_fit.of (by decide)) ⟨Nat.le_refl _, Nat.le_refl _⟩ (fun v h2 hq => (nq_i v h2 hq).elim) (fun E h2 hq hz => ?_)
    obtain ⟨y, hy, rfl, rfl⟩ := hq
    cases hy
    by_cases q0 : x = 0
    · subst q0
      rw [if_pos rfl] at hB
      refine evx_catch [] _ _ rfl (fun z hz => nomatch hz) rfl (by decide) w_1074 e_1103 dL_steps_13 (by decide) rfl ?_
      refine ev_iconst 1 dL_steps_15 (by decide) ?_
      obtain rfl := Option.some.inj hB
      exact ev_iret dL_steps_16 rfl (Nat.le_refl _) (Nat.le_refl _) (fun z => absurd z (hp_sealed _)) ⟨rfl, rfl⟩
    rw [if_neg q0] at hB
    cases hB
theorem oL_steps : am_okW mL_steps 4 := ⟨w_1481, w_0, ⟨by decide, by decide, by decide +kernel⟩, by decide, w_1480⟩
def f_L_quiet (N : Nat) (l0 : Nat) (l1 : Int32) (l2 : Int32) (l3 : Nat) (S : am_S) : Option (Int32 × am_S) := bw (f_X9_quiet N l0 l1 l2 S) (fun r S1 => if inb 0 (ln l3) = true then some (0, lp S1 (l3 + Int32.toNatClampNeg 0) (Int32.toInt64 r)) else none) (fun e S1 => (if e = 0 then some (1, S1) else (if e = 1 then some (2, S1) else none)))
theorem t_L_quiet {G : am_G} {N : Nat} {l0 : Nat} {l1 : Int32} {l2 : Int32} {l3 : Nat} {S : am_S} {out : Int32 × am_S} (hl0 : isC 9 l0 = true) (hl3 : isAr 4 l3 = true) (hB : f_L_quiet N l0 l1 l2 l3 S = some out) : am_MetW G 9 mL_quiet 1 6 [.ref l0, .int l1, .int l2, .ref l3] (hp S) (q_i out) q_n := by
  refine am_ofW (by decide +kernel) rfl rfl (Nat.le_of_ble_eq_true rfl) ?_
  unfold f_L_quiet at hB
  refine ev_aload_n dL_quiet_0 rfl ?_
  refine ev_iconst 0 dL_quiet_1 (by decide) ?_
  refine ev_aload_n dL_quiet_2 rfl ?_
  refine ev_iload_n dL_quiet_3 rfl ?_
  refine ev_iload_n dL_quiet_4 rfl ?_
  rcases bw_of hB with ⟨r, S1, e1, hB⟩ | ⟨x, S1, e1, hB⟩
  · refine es_callVti (As := [.int l1, .int l2]) (t_X9_quiet hl0 e1) dL_quiet_5 oX9_quiet w_1489 rfl hl0 rfl rfl (Nat.le_of_ble_eq_true rfl) rfl (am_fit.of (by decide)) ⟨Nat.zero_le _, Nat.zero_le _⟩ ?_
    refine ev_i2l dL_quiet_8 ?_
    obtain ⟨c1, hB⟩ := ck_of hB
    refine es_last dL_quiet_9 hl3 c1 (ol_pos hl3) (ol_one hl3) ?_
    refine ev_goto 21 dL_quiet_10 (by decide) ?_
    refine ev_iconst 0 dL_quiet_21 (by decide) ?_
    obtain rfl := Option.some.inj hB
    exact ev_iret dL_quiet_22 rfl (Nat.zero_le _) (Nat.zero_le _) (fun z => absurd z (hp_sealed _)) ⟨rfl, rfl⟩
  · obtain ⟨fds, h1, -⟩ := isC_of hl0
    refine ev_invV (As := [.int l1, .int l2]) (t_X9_quiet hl0 e1) dL_quiet_5 oX9_quiet w_1489 rfl (hp_get h1) rfl rfl (Nat.le_of_ble_eq_true rfl) rfl (am_fit.of (by decide)) ⟨Nat.le_refl _, Nat.le_refl _⟩ (fun v h2 hq => (nq_i v h2 hq).elim) (fun E h2 hq hz => ?_)
    obtain ⟨y, hy, rfl, rfl⟩ := hq
    cases hy
    by_cases q0 : x = 0
    · subst q0
      rw [if_pos rfl] at hB
      refine evx_catch [] _ _ rfl (fun z hz => nomatch hz) rfl (by decide) w_1074 e_1103 dL_quiet_13 (by decide) rfl ?_
      refine ev_iconst 1 dL_quiet_15 (by decide) ?_
      obtain rfl := Option.some.inj hB
      exact ev_iret dL_quiet_16 rfl (Nat.le_refl _) (Nat.le_refl _) (fun z => absurd z (hp_sealed _)) ⟨rfl, rfl⟩
    rw [if_neg q0] at hB
    by_cases q1 : x = 1
    · subst q1
      rw [if_pos rfl] at hB
      refine evx_catch [_] _ _ rfl (fun z hz => by rcases List.mem_singleton.mp hz with rfl; exact Or.inr ⟨by decide, rfl, w_1074⟩) rfl (by decide) w_824 e_208 dL_quiet_17 (by decide) rfl ?_
      refine ev_iconst 2 dL_quiet_19 (by decide) ?_
      obtain rfl := Option.some.inj hB
      exact ev_iret dL_quiet_20 rfl (Nat.le_refl _) (Nat.le_refl _) (fun z => absurd z (hp_sealed _)) ⟨rfl, rfl⟩
    rw [if_neg q1] at hB
    cases hB
theorem oL_quiet : am_okW mL_quiet 4 := ⟨w_1488, w_0, ⟨by decide, by decide, by decide +kernel⟩, by decide, w_1487⟩
def f_L_bestAt (N : Nat) (l0 : Nat) (l1 : Int32) (l2 : Int32) (l3 : Nat) (S : am_S) : Option (Int32 × am_S) := bw (f_X9_bestAt N l0 l1 l2 S) (fun r S1 => if inb 0 (ln l3) = true then some (0, lp S1 (l3 + Int32.toNatClampNeg 0) (Int32.toInt64 r)) else none) (fun e S1 => (if e = 0 then some (1, S1) else (if e = 1 then some (2, S1) else none)))
theorem t_L_bestAt {G : am_G} {N : Nat} {l0 : Nat} {l1 : Int32} {l2 : Int32} {l3 : Nat} {S : am_S} {out : Int32 × am_S} (hl0 : isC 9 l0 = true) (hl3 : isAr 4 l3 = true) (hB : f_L_bestAt N l0 l1 l2 l3 S = some out) : am_MetW G 9 mL_bestAt 1 6 [.ref l0, .int l1, .int l2, .ref l3] (hp S) (q_i out) q_n := by
  refine am_ofW (by decide +kernel) rfl rfl (Nat.le_of_ble_eq_true rfl) ?_
  unfold f_L_bestAt at hB
  refine ev_aload_n dL_bestAt_0 rfl ?_
  refine ev_iconst 0 dL_bestAt_1 (by decide) ?_
  refine ev_aload_n dL_bestAt_2 rfl ?_
  refine ev_iload_n dL_bestAt_3 rfl ?_
  refine ev_iload_n dL_bestAt_4 rfl ?_
  rcases bw_of hB with ⟨r, S1, e1, hB⟩ | ⟨x, S1, e1, hB⟩
  · refine es_callVti (As := [.int l1, .int l2]) (t_X9_bestAt hl0 e1) dL_bestAt_5 oX9_bestAt w_1497 rfl hl0 rfl rfl (Nat.le_of_ble_eq_true rfl) rfl (am_fit.of (by decide)) ⟨Nat.zero_le _, Nat.zero_le _⟩ ?_
    refine ev_i2l dL_bestAt_8 ?_
    obtain ⟨c1, hB⟩ := ck_of hB
    refine es_last dL_bestAt_9 hl3 c1 (ol_pos hl3) (ol_one hl3) ?_
    refine ev_goto 21 dL_bestAt_10 (by decide) ?_
    refine ev_iconst 0 dL_bestAt_21 (by decide) ?_
    obtain rfl := Option.some.inj hB
    exact ev_iret dL_bestAt_22 rfl (Nat.zero_le _) (Nat.zero_le _) (fun z => absurd z (hp_sealed _)) ⟨rfl, rfl⟩
  · obtain ⟨fds, h1, -⟩ := isC_of hl0
    refine ev_invV (As := [.int l1, .int l2]) (t_X9_bestAt hl0 e1) dL_bestAt_5 oX9_bestAt w_1497 rfl (hp_get h1) rfl rfl (Nat.le_of_ble_eq_true rfl) rfl (am_fit.of (by decide)) ⟨Nat.le_refl _, Nat.le_refl _⟩ (fun v h2 hq => (nq_i v h2 hq).elim) (fun E h2 hq hz => ?_)
    obtain ⟨y, hy, rfl, rfl⟩ := hq
    cases hy
    by_cases q0 : x = 0
    · subst q0
      rw [if_pos rfl] at hB
      refine evx_catch [] _ _ rfl (fun z hz => nomatch hz) rfl (by decide) w_1074 e_1103 dL_bestAt_13 (by decide) rfl ?_
      refine ev_iconst 1 dL_bestAt_15 (by decide) ?_
      obtain rfl := Option.some.inj hB
      exact ev_iret dL_bestAt_16 rfl (Nat.le_refl _) (Nat.le_refl _) (fun z => absurd z (hp_sealed _)) ⟨rfl, rfl⟩
    rw [if_neg q0] at hB
    by_cases q1 : x = 1
    · subst q1
      rw [if_pos rfl] at hB
      refine evx_catch [_] _ _ rfl (fun z hz => by rcases List.mem_singleton.mp hz with rfl; exact Or.inr ⟨by decide, rfl, w_1074⟩) rfl (by decide) w_824 e_208 dL_bestAt_17 (by decide) rfl ?_
      refine ev_iconst 2 dL_bestAt_19 (by decide) ?_
      obtain rfl := Option.some.inj hB
      exact ev_iret dL_bestAt_20 rfl (Nat.le_refl _) (Nat.le_refl _) (fun z => absurd z (hp_sealed _)) ⟨rfl, rfl⟩
    rw [if_neg q1] at hB
    cases hB
theorem oL_bestAt : am_okW mL_bestAt 4 := ⟨w_1496, w_0, ⟨by decide, by decide, by decide +kernel⟩, by decide, w_1495⟩
def f_L_reds (N : Nat) (l0 : Nat) (l1 : Int32) (l2 : Nat) (S : am_S) : Option (Int32 × am_S) := bw (f_X9_reds N l0 l1 S) (fun r S1 => if inb 0 (ln l2) = true then some (0, lp S1 (l2 + Int32.toNatClampNeg 0) (Int32.toInt64 r)) else none) (fun e S1 => (if e = 1 then some (1, S1) else none))
theorem t_L_reds {G : am_G} {N : Nat} {l0 : Nat} {l1 : Int32} {l2 : Nat} {S : am_S} {out : Int32 × am_S} (hl0 : isC 9 l0 = true) (hl2 : isAr 4 l2 = true) (hB : f_L_reds N l0 l1 l2 S = some out) : am_MetW G 9 mL_reds 1 6 [.ref l0, .int l1, .ref l2] (hp S) (q_i out) q_n := by
  refine am_ofW (by decide +kernel) rfl rfl (Nat.le_of_ble_eq_true rfl) ?_
  unfold f_L_reds at hB
  refine ev_aload_n dL_reds_0 rfl ?_
  refine ev_iconst 0 dL_reds_1 (by decide) ?_
  refine ev_aload_n dL_reds_2 rfl ?_
  refine ev_iload_n dL_reds_3 rfl ?_
  rcases bw_of hB with ⟨r, S1, e1, hB⟩ | ⟨x, S1, e1, hB⟩
  · refine es_callVti (As := [.int l1]) (t_X9_reds hl0 e1) dL_reds_4 oX9_reds w_1504 rfl hl0 rfl rfl (Nat.le_of_ble_eq_true rfl) rfl (am_fit.of (by decide)) ⟨Nat.zero_le _, Nat.zero_le _⟩ ?_
    refine ev_i2l dL_reds_7 ?_
    obtain ⟨c1, hB⟩ := ck_of hB
    refine es_last dL_reds_8 hl2 c1 (ol_pos hl2) (ol_one hl2) ?_
    refine ev_goto 15 dL_reds_9 (by decide) ?_
    refine ev_iconst 0 dL_reds_15 (by decide) ?_
    obtain rfl := Option.some.inj hB
    exact ev_iret dL_reds_16 rfl (Nat.zero_le _) (Nat.zero_le _) (fun z => absurd z (hp_sealed _)) ⟨rfl, rfl⟩
  · obtain ⟨fds, h1, -⟩ := isC_of hl0
    refine ev_invV (As := [.int l1]) (t_X9_reds hl0 e1) dL_reds_4 oX9_reds w_1504 rfl (hp_get h1) rfl rfl (Nat.le_of_ble_eq_true rfl) rfl (am_fit.of (by decide)) ⟨Nat.le_refl _, Nat.le_refl _⟩ (fun v h2 hq => (nq_i v h2 hq).elim) (fun E h2 hq hz => ?_)
    obtain ⟨y, hy, rfl, rfl⟩ := hq
    cases hy
    by_cases q1 : x = 1
    · subst q1
      rw [if_pos rfl] at hB
      refine evx_catch_n [] _ _ rfl (fun z hz => nomatch hz) rfl (by decide) w_824 e_208 dL_reds_12 (by decide) rfl ?_
      refine ev_iconst 1 dL_reds_13 (by decide) ?_
      obtain rfl := Option.some.inj hB
      exact ev_iret dL_reds_14 rfl (Nat.le_refl _) (Nat.le_refl _) (fun z => absurd z (hp_sealed _)) ⟨rfl, rfl⟩
    rw [if_neg q1] at hB
    cases hB
theorem oL_reds : am_okW mL_reds 3 := ⟨w_1503, w_0, ⟨by decide, by decide, by decide +kernel⟩, by decide, w_1502⟩
def f_L_whose (N : Nat) (l0 : Nat) (l1 : Int32) (l2 : Nat) (S : am_S) : Option (Int32 × am_S) := bw (f_X9_whose N l0 l1 S) (fun r S1 => if inb 0 (ln l2) = true then some (0, lp S1 (l2 + Int32.toNatClampNeg 0) (Int32.toInt64 r)) else none) (fun e S1 => (if e = 0 then some (1, S1) else none))
theorem t_L_whose {G : am_G} {N : Nat} {l0 : Nat} {l1 : Int32} {l2 : Nat} {S : am_S} {out : Int32 × am_S} (hl0 : isC 9 l0 = true) (hl2 : isAr 4 l2 = true) (hB : f_L_whose N l0 l1 l2 S = some out) : am_MetW G 9 mL_whose 1 6 [.ref l0, .int l1, .ref l2] (hp S) (q_i out) q_n := by
  refine am_ofW (by decide +kernel) rfl rfl (Nat.le_of_ble_eq_true rfl) ?_
  unfold f_L_whose at hB
  refine ev_aload_n dL_whose_0 rfl ?_
  refine ev_iconst 0 dL_whose_1 (by decide) ?_
  refine ev_aload_n dL_whose_2 rfl ?_
  refine ev_iload_n dL_whose_3 rfl ?_
  rcases bw_of hB with ⟨r, S1, e1, hB⟩ | ⟨x, S1, e1, hB⟩
  · refine es_callVti (As := [.int l1]) (t_X9_whose hl0 e1) dL_whose_4 oX9_whose w_1515 rfl hl0 rfl rfl (Nat.le_of_ble_eq_true rfl) rfl (am_fit.of (by decide)) ⟨Nat.zero_le _, Nat.zero_le _⟩ ?_
    refine ev_i2l dL_whose_7 ?_
    obtain ⟨c1, hB⟩ := ck_of hB
    refine es_last dL_whose_8 hl2 c1 (ol_pos hl2) (ol_one hl2) ?_
    refine ev_goto 15 dL_whose_9 (by decide) ?_
    refine ev_iconst 0 dL_whose_15 (by decide) ?_
    obtain rfl := Option.some.inj hB
    exact ev_iret dL_whose_16 rfl (Nat.zero_le _) (Nat.zero_le _) (fun z => absurd z (hp_sealed _)) ⟨rfl, rfl⟩
  · obtain ⟨fds, h1, -⟩ := isC_of hl0
    refine ev_invV (As := [.int l1]) (t_X9_whose hl0 e1) dL_whose_4 oX9_whose w_1515 rfl (hp_get h1) rfl rfl (Nat.le_of_ble_eq_true rfl) rfl (am_fit.of (by decide)) ⟨Nat.le_refl _, Nat.le_refl _⟩ (fun v h2 hq => (nq_i v h2 hq).elim) (fun E h2 hq hz => ?_)
    obtain ⟨y, hy, rfl, rfl⟩ := hq
    cases hy
    by_cases q0 : x = 0
    · subst q0
      rw [if_pos rfl] at hB
      refine evx_catch_n [] _ _ rfl (fun z hz => nomatch hz) rfl (by decide) w_1074 e_1103 dL_whose_12 (by decide) rfl ?_
      refine ev_iconst 1 dL_whose_13 (by decide) ?_
      obtain rfl := Option.some.inj hB
      exact ev_iret dL_whose_14 rfl (Nat.le_refl _) (Nat.le_refl _) (fun z => absurd z (hp_sealed _)) ⟨rfl, rfl⟩
    rw [if_neg q0] at hB
    cases hB
theorem oL_whose : am_okW mL_whose 3 := ⟨w_1514, w_0, ⟨by decide, by decide, by decide +kernel⟩, by decide, w_1513⟩
