def f_J7_rangeCheck_23922 (N : Nat) (l0 : Int32) (l1 : Int32) (l2 : Int32) (S : am_S) : Option (am_S) := (if l1 ≤ l2 then (if 0 ≤ l1 then (if l2 ≤ l0 then some S else none) else none) else none)
theorem t_J7_rangeCheck_23922 {G : am_G} {N : Nat} {l0 : Int32} {l1 : Int32} {l2 : Int32} {S : am_S} {out : am_S} (hB : f_J7_rangeCheck_23922 N l0 l1 l2 S = some out) : am_Met G 7 mJ7_rangeCheck_23922 0 0 [.int l0, .int l1, .int l2] (hp S) (q_v out) q_n := by
  refine am_of (by decide +kernel) rfl rfl rfl (Nat.le_of_ble_eq_true rfl) ?_
  unfold f_J7_rangeCheck_23922 at hB
  refine ev_iload_n dJ7_rangeCheck_23922_0 rfl ?_
  refine ev_iload_n dJ7_rangeCheck_23922_1 rfl ?_
  refine ev_icmple 46 dJ7_rangeCheck_23922_2 (by decide) (fun q1 => ?_) (fun q1 => ?_)
  · rw [if_pos q1] at hB
    refine ev_iload_n dJ7_rangeCheck_23922_46 rfl ?_
    refine ev_ifge 59 dJ7_rangeCheck_23922_47 (by decide) (fun q2 => ?_) (fun q2 => ?_)
    · rw [if_pos q2] at hB
      refine ev_iload_n dJ7_rangeCheck_23922_59 rfl ?_
      refine ev_iload_n dJ7_rangeCheck_23922_60 rfl ?_
      refine ev_icmple 73 dJ7_rangeCheck_23922_61 (by decide) (fun q3 => ?_) (fun q3 => ?_)
      · rw [if_pos q3] at hB
        obtain rfl := Option.some.inj hB
        exact ev_vret dJ7_rangeCheck_23922_73 rfl (Nat.zero_le _) (Nat.zero_le _) (fun z => absurd z (hp_sealed _)) ⟨rfl, rfl⟩
      · rw [if_neg q3] at hB
        cases hB
    · rw [if_neg q2] at hB
      cases hB
  · rw [if_neg q1] at hB
    cases hB
def b_J7_fill_fda19_10 (N : Nat) : Nat → Nat → Int32 → Int32 → Int32 → am_S → Option (am_S)
  | 0, _, _, _, _, _ => none
  | n + 1, l0, l2, l3, l4, S => (if l2 ≤ l4 then some S else (if inb l4 (ln l0) = true then b_J7_fill_fda19_10 N n l0 l2 l3 (l4 + 1) (sp S l0 (Int32.toNatClampNeg l4) l3) else none))
def f_J7_fill_fda19 (N : Nat) (l0 : Nat) (l1 : Int32) (l2 : Int32) (l3 : Int32) (S : am_S) : Option (am_S) := (bv (f_J7_rangeCheck_23922 N (nI (ln l0)) l1 l2 S) (fun S2 => b_J7_fill_fda19_10 N N l0 l2 l3 l1 S2))
theorem u_J7_fill_fda19_10 {G : am_G} {N : Nat} {h0 : am_H} {out : am_S} : ∀ (n : Nat) (l0 : Nat) (l2 : Int32) (l3 : Int32) (l4 : Int32) (S : am_S), isAr 1 l0 = true → b_J7_fill_fda19_10 N n l0 l2 l3 l4 S = some out → Ev G (am_R 8 0 0) (am_Φ G h0 0 0 (q_v out) q_n) mJ7_fill_fda19 0 0 10 [some (.ref l0), none, some (.int l2), some (.int l3), some (.int l4)] [] (hp S) := by
  intro n
  induction n with
  | zero =>
    intro l0 l2 l3 l4 S hl0 hB
    exact absurd (show none = some out from hB) (fun q => by cases q)
  | succ n ih =>
    intro l0 l2 l3 l4 S hl0 hB
    unfold b_J7_fill_fda19_10 at hB
    refine ev_iload dJ7_fill_fda19_10 rfl ?_
    refine ev_iload_n dJ7_fill_fda19_12 rfl ?_
    refine ev_icmpge 27 dJ7_fill_fda19_13 (by decide) (fun q1 => ?_) (fun q1 => ?_)
    · rw [if_pos q1] at hB
      obtain rfl := Option.some.inj hB
      exact ev_vret dJ7_fill_fda19_27 rfl (Nat.zero_le _) (Nat.zero_le _) (fun z => absurd z (hp_sealed _)) ⟨rfl, rfl⟩
    · rw [if_neg q1] at hB
      refine ev_aload_n dJ7_fill_fda19_16 rfl ?_
      refine ev_iload dJ7_fill_fda19_17 rfl ?_
      refine ev_iload_n dJ7_fill_fda19_19 rfl ?_
      obtain ⟨c2, hB⟩ := ck_of hB
      refine es_iast dJ7_fill_fda19_20 hl0 c2 ?_
      refine es_iinc 1 dJ7_fill_fda19_21 rfl (by decide) (by decide) rfl ?_
      refine ev_goto 10 dJ7_fill_fda19_24 (by decide) ?_
      exact ev_ls (ih l0 l2 l3 (l4 + 1) (sp S l0 (Int32.toNatClampNeg l4) l3) hl0 hB) (And.intro rfl (And.intro rfl (And.intro rfl (And.intro rfl trivial))))
theorem t_J7_fill_fda19 {G : am_G} {N : Nat} {l0 : Nat} {l1 : Int32} {l2 : Int32} {l3 : Int32} {S : am_S} {out : am_S} (hl0 : isAr 1 l0 = true) (hB : f_J7_fill_fda19 N l0 l1 l2 l3 S = some out) : am_Met G 8 mJ7_fill_fda19 0 0 [.ref l0, .int l1, .int l2, .int l3] (hp S) (q_v out) q_n := by
  refine am_of (by decide +kernel) rfl rfl rfl (Nat.le_of_ble_eq_true rfl) ?_
  unfold f_J7_fill_fda19 at hB
  refine ev_aload_n dJ7_fill_fda19_0 rfl ?_
  refine es_alen dJ7_fill_fda19_1 hl0 rfl ?_
  refine ev_iload_n dJ7_fill_fda19_2 rfl ?_
  refine ev_iload_n dJ7_fill_fda19_3 rfl ?_
  obtain ⟨S2, e3, hB⟩ := bv_of hB
  refine es_callSv (As := [.int (nI (ln l0)), .int l1, .int l2]) (t_J7_rangeCheck_23922 e3) dJ7_fill_fda19_4 oJ7_rangeCheck_23922 w_203 rfl (Nat.le_of_ble_eq_true rfl) rfl (am_fit.of (by decide)) ⟨Nat.zero_le _, Nat.zero_le _⟩ ?_
  refine ev_iload_n dJ7_fill_fda19_7 rfl ?_
  refine ev_istore dJ7_fill_fda19_8 (by decide) rfl ?_
  exact ev_ls (u_J7_fill_fda19_10 N l0 l2 l3 l1 S2 hl0 hB) (And.intro rfl (And.intro rfl (And.intro rfl (And.intro rfl trivial))))
def b_J7_fill_53178_5 (N : Nat) : Nat → Nat → Int32 → Int32 → Int32 → am_S → Option (am_S)
  | 0, _, _, _, _, _ => none
  | n + 1, l0, l1, l2, l3, S => (if l3 ≤ l2 then some S else (if inb l2 (ln l0) = true then b_J7_fill_53178_5 N n l0 l1 (l2 + 1) l3 (sp S l0 (Int32.toNatClampNeg l2) l1) else none))
def f_J7_fill_53178 (N : Nat) (l0 : Nat) (l1 : Int32) (S : am_S) : Option (am_S) := b_J7_fill_53178_5 N N l0 l1 0 (nI (ln l0)) S
theorem u_J7_fill_53178_5 {G : am_G} {N : Nat} {h0 : am_H} {out : am_S} : ∀ (n : Nat) (l0 : Nat) (l1 : Int32) (l2 : Int32) (l3 : Int32) (S : am_S), isAr 1 l0 = true → b_J7_fill_53178_5 N n l0 l1 l2 l3 S = some out → Ev G (am_R 1 0 0) (am_Φ G h0 0 0 (q_v out) q_n) mJ7_fill_53178 0 0 5 [some (.ref l0), some (.int l1), some (.int l2), some (.int l3)] [] (hp S) := by
  intro n
  induction n with
  | zero =>
    intro l0 l1 l2 l3 S hl0 hB
    exact absurd (show none = some out from hB) (fun q => by cases q)
  | succ n ih =>
    intro l0 l1 l2 l3 S hl0 hB
    unfold b_J7_fill_53178_5 at hB
    refine ev_iload_n dJ7_fill_53178_5 rfl ?_
    refine ev_iload_n dJ7_fill_53178_6 rfl ?_
    refine ev_icmpge 20 dJ7_fill_53178_7 (by decide) (fun q1 => ?_) (fun q1 => ?_)
    · rw [if_pos q1] at hB
      obtain rfl := Option.some.inj hB
      exact ev_vret dJ7_fill_53178_20 rfl (Nat.zero_le _) (Nat.zero_le _) (fun z => absurd z (hp_sealed _)) ⟨rfl, rfl⟩
    · rw [if_neg q1] at hB
      refine ev_aload_n dJ7_fill_53178_10 rfl ?_
      refine ev_iload_n dJ7_fill_53178_11 rfl ?_
      refine ev_iload_n dJ7_fill_53178_12 rfl ?_
      obtain ⟨c2, hB⟩ := ck_of hB
      refine es_iast dJ7_fill_53178_13 hl0 c2 ?_
      refine es_iinc 1 dJ7_fill_53178_14 rfl (by decide) (by decide) rfl ?_
      refine ev_goto 5 dJ7_fill_53178_17 (by decide) ?_
      exact ev_ls (ih l0 l1 (l2 + 1) l3 (sp S l0 (Int32.toNatClampNeg l2) l1) hl0 hB) (And.intro rfl (And.intro rfl (And.intro rfl (And.intro rfl trivial))))
theorem t_J7_fill_53178 {G : am_G} {N : Nat} {l0 : Nat} {l1 : Int32} {S : am_S} {out : am_S} (hl0 : isAr 1 l0 = true) (hB : f_J7_fill_53178 N l0 l1 S = some out) : am_Met G 1 mJ7_fill_53178 0 0 [.ref l0, .int l1] (hp S) (q_v out) q_n := by
  refine am_of (by decide +kernel) rfl rfl rfl (Nat.le_of_ble_eq_true rfl) ?_
  unfold f_J7_fill_53178 at hB
  refine ev_iconst 0 dJ7_fill_53178_0 (by decide) ?_
  refine ev_istore_n dJ7_fill_53178_1 (by decide) rfl ?_
  refine ev_aload_n dJ7_fill_53178_2 rfl ?_
  refine es_alen dJ7_fill_53178_3 hl0 rfl ?_
  refine ev_istore_n dJ7_fill_53178_4 (by decide) rfl ?_
  exact ev_ls (u_J7_fill_53178_5 N l0 l1 0 (nI (ln l0)) S hl0 hB) (And.intro rfl (And.intro rfl (And.intro rfl (And.intro rfl trivial))))
def b_J0_coder_7d493_14 (N : Nat) (z0 : Int32) (S : am_S) : Option (Int32 × am_S) := (if isB z0 = true then some (z0, S) else none)
def f_J0_coder_7d493 (N : Nat) (l0 : Nat) (S : am_S) : Option (Int32 × am_S) := (if (1 : Int32) = 0 then b_J0_coder_7d493_14 N 1 S else b_J0_coder_7d493_14 N 0 S)
theorem u_J0_coder_7d493_14 {G : am_G} {N : Nat} {h0 : am_H} {out : Int32 × am_S} (z0 : Int32) (S : am_S) (hB : b_J0_coder_7d493_14 N z0 S = some out) : Ev G (am_R 1 0 0) (am_Φ G h0 0 0 (q_i out) q_n) mJ0_coder_7d493 0 0 14 [none] [.int z0] (hp S) := by
  unfold b_J0_coder_7d493_14 at hB
  obtain ⟨c1, hB⟩ := ck_of hB
  obtain rfl := Option.some.inj hB
  exact ev_zret dJ0_coder_7d493_14 rfl (isB_by c1) (Nat.zero_le _) (Nat.zero_le _) (fun z => absurd z (hp_sealed _)) ⟨rfl, rfl⟩
theorem t_J0_coder_7d493 {G : am_G} {N : Nat} {l0 : Nat} {S : am_S} {out : Int32 × am_S} (hl0 : l0 < 25) (hB : f_J0_coder_7d493 N l0 S = some out) : am_Met G 1 mJ0_coder_7d493 0 0 [.float (UInt32.ofNat l0)] (hp S) (q_i out) q_n := by
  refine am_ofF (by decide +kernel) rfl rfl rfl (Nat.le_of_ble_eq_true rfl) ?_
  unfold f_J0_coder_7d493 at hB
  refine ev_comp dJ0_coder_7d493_0 w_363 ?_
  refine ev_ifeq 13 dJ0_coder_7d493_3 (by decide) (fun q1 => ?_) (fun q1 => ?_)
  · rw [if_pos q1] at hB
    refine ev_iconst 1 dJ0_coder_7d493_13 (by decide) ?_
    exact ev_ls (u_J0_coder_7d493_14 1 S hB) trivial
  · rw [if_neg q1] at hB
    refine ev_aload_nF dJ0_coder_7d493_6 rfl ?_
    refine ev_scod hl0 dJ0_coder_7d493_7 w_501 ?_
    refine ev_goto 14 dJ0_coder_7d493_10 (by decide) ?_
    exact ev_ls (u_J0_coder_7d493_14 0 S hB) trivial
def f_J0_length_8abf5 (N : Nat) (l0 : Nat) (S : am_S) : Option (Int32 × am_S) := (bd (f_J0_coder_7d493 N l0 S) (fun r1 S2 => some (((nI (strn l0)) >>> (r1 &&& (31 : Int32))), S2)))
theorem t_J0_length_8abf5 {G : am_G} {N : Nat} {l0 : Nat} {S : am_S} {out : Int32 × am_S} (hl0 : l0 < 25) (hB : f_J0_length_8abf5 N l0 S = some out) : am_Met G 2 mJ0_length_8abf5 0 0 [.float (UInt32.ofNat l0)] (hp S) (q_i out) q_n := by
  refine am_ofF (by decide +kernel) rfl rfl rfl (Nat.le_of_ble_eq_true rfl) ?_
  unfold f_J0_length_8abf5 at hB
  refine ev_aload_nF dJ0_length_8abf5_0 rfl ?_
  refine ev_sval hl0 dJ0_length_8abf5_1 w_500 ?_
  refine ev_salen hl0 dJ0_length_8abf5_4 ?_
  refine ev_aload_nF dJ0_length_8abf5_5 rfl ?_
  obtain ⟨r1, S2, e3, hB⟩ := bd_of hB
  refine es_callVFi (As := []) hl0 (t_J0_coder_7d493 hl0 e3) dJ0_length_8abf5_6 oJ0_coder_7d493 w_359 rfl rfl (Nat.le_of_ble_eq_true rfl) rfl (am_fit.of (by decide)) ⟨Nat.zero_le _, Nat.zero_le _⟩ ?_
  refine ev_ishr dJ0_length_8abf5_9 ?_
  obtain rfl := Option.some.inj hB
  exact ev_iret dJ0_length_8abf5_10 rfl (Nat.zero_le _) (Nat.zero_le _) (fun z => absurd z (hp_sealed _)) ⟨rfl, rfl⟩
def b_J0_isLatin1_aae02_18 (N : Nat) (z0 : Int32) (S : am_S) : Option (Int32 × am_S) := (if isB z0 = true then some (z0, S) else none)
def b_J0_isLatin1_aae02_17 (N : Nat)  (S : am_S) : Option (Int32 × am_S) := b_J0_isLatin1_aae02_18 N 0 S
def f_J0_isLatin1_aae02 (N : Nat) (l0 : Nat) (S : am_S) : Option (Int32 × am_S) := (if (1 : Int32) = 0 then b_J0_isLatin1_aae02_17 N S else (if (0 : Int32) = 0 then b_J0_isLatin1_aae02_18 N 1 S else b_J0_isLatin1_aae02_17 N S))
theorem u_J0_isLatin1_aae02_18 {G : am_G} {N : Nat} {h0 : am_H} {out : Int32 × am_S} (z0 : Int32) (S : am_S) (hB : b_J0_isLatin1_aae02_18 N z0 S = some out) : Ev G (am_R 1 0 0) (am_Φ G h0 0 0 (q_i out) q_n) mJ0_isLatin1_aae02 0 0 18 [none] [.int z0] (hp S) := by
  unfold b_J0_isLatin1_aae02_18 at hB
  obtain ⟨c1, hB⟩ := ck_of hB
  obtain rfl := Option.some.inj hB
  exact ev_zret dJ0_isLatin1_aae02_18 rfl (isB_nar c1) (Nat.zero_le _) (Nat.zero_le _) (fun z => absurd z (hp_sealed _)) ⟨rfl, rfl⟩
theorem u_J0_isLatin1_aae02_17 {G : am_G} {N : Nat} {h0 : am_H} {out : Int32 × am_S}  (S : am_S) (hB : b_J0_isLatin1_aae02_17 N  S = some out) : Ev G (am_R 1 0 0) (am_Φ G h0 0 0 (q_i out) q_n) mJ0_isLatin1_aae02 0 0 17 [none] [] (hp S) := by
  unfold b_J0_isLatin1_aae02_17 at hB
  refine ev_iconst 0 dJ0_isLatin1_aae02_17 (by decide) ?_
  exact ev_ls (u_J0_isLatin1_aae02_18 0 S hB) trivial
theorem t_J0_isLatin1_aae02 {G : am_G} {N : Nat} {l0 : Nat} {S : am_S} {out : Int32 × am_S} (hl0 : l0 < 25) (hB : f_J0_isLatin1_aae02 N l0 S = some out) : am_Met G 1 mJ0_isLatin1_aae02 0 0 [.float (UInt32.ofNat l0)] (hp S) (q_i out) q_n := by
  refine am_ofF (by decide +kernel) rfl rfl rfl (Nat.le_of_ble_eq_true rfl) ?_
  unfold f_J0_isLatin1_aae02 at hB
  refine ev_comp dJ0_isLatin1_aae02_0 w_363 ?_
  refine ev_ifeq 17 dJ0_isLatin1_aae02_3 (by decide) (fun q1 => ?_) (fun q1 => ?_)
  · rw [if_pos q1] at hB
    exact ev_ls (u_J0_isLatin1_aae02_17 S hB) trivial
  · rw [if_neg q1] at hB
    refine ev_aload_nF dJ0_isLatin1_aae02_6 rfl ?_
    refine ev_scod hl0 dJ0_isLatin1_aae02_7 w_501 ?_
    refine ev_ifne 17 dJ0_isLatin1_aae02_10 (by decide) (fun q2 => ?_) (fun q2 => ?_)
    · rw [if_neg q2] at hB
      exact ev_ls (u_J0_isLatin1_aae02_17 S hB) trivial
    · rw [if_pos q2] at hB
      refine ev_iconst 1 dJ0_isLatin1_aae02_13 (by decide) ?_
      refine ev_goto 18 dJ0_isLatin1_aae02_14 (by decide) ?_
      exact ev_ls (u_J0_isLatin1_aae02_18 1 S hB) trivial
def f_J3_checkIndex_8e157 (N : Nat) (l0 : Int32) (l1 : Int32) (S : am_S) : Option (Int32 × am_S) := (if l0 < 0 then none else (if l0 < l1 then some (l0, S) else none))
theorem t_J3_checkIndex_8e157 {G : am_G} {N : Nat} {l0 : Int32} {l1 : Int32} {l2 : Value} {S : am_S} {out : Int32 × am_S} (hl2 : Value.category l2 = 1) (hB : f_J3_checkIndex_8e157 N l0 l1 S = some out) : am_Met G 7 mJ3_checkIndex_8e157 0 0 [.int l0, .int l1, l2] (hp S) (q_i out) q_n := by
  refine am_ofF (by decide +kernel) rfl rfl (by show (1 == 1 && (1 == 1 && (Value.category l2 == 1 && true))) = true; rw [hl2]; rfl) (Nat.le_of_ble_eq_true rfl) ?_
  unfold f_J3_checkIndex_8e157 at hB
  refine ev_iload_n dJ3_checkIndex_8e157_0 rfl ?_
  refine ev_iflt 9 dJ3_checkIndex_8e157_1 (by decide) (fun q1 => ?_) (fun q1 => ?_)
  · rw [if_pos q1] at hB
    cases hB
  · rw [if_neg q1] at hB
    refine ev_iload_n dJ3_checkIndex_8e157_4 rfl ?_
    refine ev_iload_n dJ3_checkIndex_8e157_5 rfl ?_
    refine ev_icmplt 16 dJ3_checkIndex_8e157_6 (by decide) (fun q2 => ?_) (fun q2 => ?_)
    · rw [if_pos q2] at hB
      refine ev_iload_n dJ3_checkIndex_8e157_16 rfl ?_
      obtain rfl := Option.some.inj hB
      exact ev_iret dJ3_checkIndex_8e157_17 rfl (Nat.zero_le _) (Nat.zero_le _) (fun z => absurd z (hp_sealed _)) ⟨rfl, rfl⟩
    · rw [if_neg q2] at hB
      cases hB
def f_J0_checkIndex_df160 (N : Nat) (l0 : Int32) (l1 : Int32) (S : am_S) : Option (am_S) := (bd (f_J3_checkIndex_8e157 N l0 l1 S) (fun r2 S3 => some S3))
theorem t_J0_checkIndex_df160 {G : am_G} {N : Nat} {l0 : Int32} {l1 : Int32} {S : am_S} {out : am_S} (hB : f_J0_checkIndex_df160 N l0 l1 S = some out) : am_Met G 8 mJ0_checkIndex_df160 0 0 [.int l0, .int l1] (hp S) (q_v out) q_n := by
  refine am_ofF (by decide +kernel) rfl rfl rfl (Nat.le_of_ble_eq_true rfl) ?_
  unfold f_J0_checkIndex_df160 at hB
  refine ev_iload_n dJ0_checkIndex_df160_0 rfl ?_
  refine ev_iload_n dJ0_checkIndex_df160_1 rfl ?_
  refine ev_sio dJ0_checkIndex_df160_2 w_341 (fun v1 hv1 => ?_)
  obtain ⟨r2, S3, e4, hB⟩ := bd_of hB
  refine es_callSi (As := [.int l0, .int l1, v1]) (t_J3_checkIndex_8e157 hv1 e4) dJ0_checkIndex_df160_5 oJ3_checkIndex_8e157 w_891 rfl (Nat.le_of_ble_eq_true rfl) rfl (am_fit.of (by decide)) ⟨Nat.zero_le _, Nat.zero_le _⟩ ?_
  refine ev_pop dJ0_checkIndex_df160_8 rfl ?_
  obtain rfl := Option.some.inj hB
  exact ev_vret dJ0_checkIndex_df160_9 rfl (Nat.zero_le _) (Nat.zero_le _) (fun z => absurd z (hp_sealed _)) ⟨rfl, rfl⟩
def f_J1_charAt_3b067 (N : Nat) (l0 : Nat) (l1 : Int32) (S : am_S) : Option (Int32 × am_S) := (bv (f_J0_checkIndex_df160 N l1 (nI (strn l0)) S) (fun S2 => (if inb l1 (strn l0) = true then (if isCh (UInt32.toInt32 (Int32.toUInt32 ((strb l0 (Int32.toNatClampNeg l1)) &&& 255) % 65536)) = true then some ((UInt32.toInt32 (Int32.toUInt32 ((strb l0 (Int32.toNatClampNeg l1)) &&& 255) % 65536)), S2) else none) else none)))
theorem t_J1_charAt_3b067 {G : am_G} {N : Nat} {l0 : Nat} {l1 : Int32} {S : am_S} {out : Int32 × am_S} (hl0 : l0 < 25) (hB : f_J1_charAt_3b067 N l0 l1 S = some out) : am_Met G 9 mJ1_charAt_3b067 0 0 [.float (UInt32.ofNat (100 + l0)), .int l1] (hp S) (q_i out) q_n := by
  refine am_ofF (by decide +kernel) rfl rfl rfl (Nat.le_of_ble_eq_true rfl) ?_
  unfold f_J1_charAt_3b067 at hB
  refine ev_iload_n dJ1_charAt_3b067_0 rfl ?_
  refine ev_aload_nF dJ1_charAt_3b067_1 rfl ?_
  refine ev_salen hl0 dJ1_charAt_3b067_2 ?_
  obtain ⟨S2, e3, hB⟩ := bv_of hB
  refine es_callSv (As := [.int l1, .int (nI (strn l0))]) (t_J0_checkIndex_df160 e3) dJ1_charAt_3b067_3 oJ0_checkIndex_df160 w_888 rfl (Nat.le_of_ble_eq_true rfl) rfl (am_fit.of (by decide)) ⟨Nat.zero_le _, Nat.zero_le _⟩ ?_
  refine ev_aload_nF dJ1_charAt_3b067_6 rfl ?_
  refine ev_iload_n dJ1_charAt_3b067_7 rfl ?_
  obtain ⟨c4, hB⟩ := ck_of hB
  refine ev_sbald hl0 dJ1_charAt_3b067_8 c4 ?_
  refine ev_sipush 255 dJ1_charAt_3b067_9 (by decide) ?_
  refine ev_iand dJ1_charAt_3b067_12 ?_
  refine ev_i2c dJ1_charAt_3b067_13 ?_
  obtain ⟨c5, hB⟩ := ck_of hB
  obtain rfl := Option.some.inj hB
  exact ev_zret dJ1_charAt_3b067_14 rfl (isCh_nar c5) (Nat.zero_le _) (Nat.zero_le _) (fun z => absurd z (hp_sealed _)) ⟨rfl, rfl⟩
def f_J0_charAt_5068e (N : Nat) (l0 : Nat) (l1 : Int32) (S : am_S) : Option (Int32 × am_S) := (bd (f_J0_isLatin1_aae02 N l0 S) (fun r1 S2 => (if r1 = 0 then none else (bd (f_J1_charAt_3b067 N l0 l1 S2) (fun r5 S6 => (if isCh r5 = true then some (r5, S6) else none))))))
theorem t_J0_charAt_5068e {G : am_G} {N : Nat} {l0 : Nat} {l1 : Int32} {S : am_S} {out : Int32 × am_S} (hl0 : l0 < 25) (hB : f_J0_charAt_5068e N l0 l1 S = some out) : am_Met G 10 mJ0_charAt_5068e 0 0 [.float (UInt32.ofNat l0), .int l1] (hp S) (q_i out) q_n := by
  refine am_ofF (by decide +kernel) rfl rfl rfl (Nat.le_of_ble_eq_true rfl) ?_
  unfold f_J0_charAt_5068e at hB
  refine ev_aload_nF dJ0_charAt_5068e_0 rfl ?_
  obtain ⟨r1, S2, e3, hB⟩ := bd_of hB
  refine es_callVFi (As := []) hl0 (t_J0_isLatin1_aae02 hl0 e3) dJ0_charAt_5068e_1 oJ0_isLatin1_aae02 w_881 rfl rfl (Nat.le_of_ble_eq_true rfl) rfl (am_fit.of (by decide)) ⟨Nat.zero_le _, Nat.zero_le _⟩ ?_
  refine ev_ifeq 16 dJ0_charAt_5068e_4 (by decide) (fun q4 => ?_) (fun q4 => ?_)
  · rw [if_pos q4] at hB
    refine ev_aload_nF dJ0_charAt_5068e_16 rfl ?_
    refine ev_sval hl0 dJ0_charAt_5068e_17 w_500 ?_
    refine ev_iload_n dJ0_charAt_5068e_20 rfl ?_
    cases hB
  · rw [if_neg q4] at hB
    refine ev_aload_nF dJ0_charAt_5068e_7 rfl ?_
    refine ev_sval hl0 dJ0_charAt_5068e_8 w_500 ?_
    refine ev_iload_n dJ0_charAt_5068e_11 rfl ?_
    obtain ⟨r5, S6, e7, hB⟩ := bd_of hB
    refine es_callSi (As := [.float (UInt32.ofNat (100 + l0)), .int l1]) (t_J1_charAt_3b067 hl0 e7) dJ0_charAt_5068e_12 oJ1_charAt_3b067 w_885 rfl (Nat.le_of_ble_eq_true rfl) rfl (am_fit.of (by decide)) ⟨Nat.zero_le _, Nat.zero_le _⟩ ?_
    obtain ⟨c8, hB⟩ := ck_of hB
    obtain rfl := Option.some.inj hB
    exact ev_zret dJ0_charAt_5068e_15 rfl (isCh_nar c8) (Nat.zero_le _) (Nat.zero_le _) (fun z => absurd z (hp_sealed _)) ⟨rfl, rfl⟩
def f_X7_begin (N : Nat) (l0 : Nat) (l1 : Nat) (S : am_S) : Option (am_S) := (bv (f_J7_fill_53178 N (rf l0 0) 0 S) (fun S2 => (if cpk 0 2 6 (ln (rf l1 2)) (ln (rf l0 0)) = true then (if cpk 0 24 8 (ln (rf l1 6)) (ln (rf l0 0)) = true then some (scp (scp S2 (rf l1 2) (Int32.toNatClampNeg 0) (rf l0 0) (Int32.toNatClampNeg 2) (Int32.toNatClampNeg 6)) (rf l1 6) (Int32.toNatClampNeg 0) (rf l0 0) (Int32.toNatClampNeg 24) (Int32.toNatClampNeg 8)) else none) else none)))
theorem t_X7_begin {G : am_G} {N : Nat} {l0 : Nat} {l1 : Nat} {S : am_S} {out : am_S} (hl0 : isC 7 l0 = true) (hl1 : isC 1 l1 = true) (hB : f_X7_begin N l0 l1 S = some out) : am_Met G 2 mX7_begin 0 0 [.ref l0, .ref l1] (hp S) (q_v out) q_n := by
  refine am_of (by decide +kernel) rfl rfl rfl (Nat.le_of_ble_eq_true rfl) ?_
  unfold f_X7_begin at hB
  refine ev_aload_n dX7_begin_0 rfl ?_
  refine es_getr k_7 0 dX7_begin_1 (by decide) rfl (Or.inl w_511) hl0 rfl ?_
  refine ev_iconst 0 dX7_begin_4 (by decide) ?_
  obtain ⟨S2, e3, hB⟩ := bv_of hB
  refine es_callSv (As := [.ref (rf l0 0), .int 0]) (t_J7_fill_53178 (tr_7_0 hl0) e3) dX7_begin_5 oJ7_fill_53178 w_1062 rfl (Nat.le_of_ble_eq_true rfl) rfl (am_fit.of (by decide)) ⟨Nat.zero_le _, Nat.zero_le _⟩ ?_
  refine ev_aload_n dX7_begin_8 rfl ?_
  refine es_getr k_1 2 dX7_begin_9 (by decide) rfl (Or.inr ⟨_, n_140⟩) hl1 rfl ?_
  refine ev_iconst 0 dX7_begin_12 (by decide) ?_
  refine ev_aload_n dX7_begin_13 rfl ?_
  refine es_getr k_7 0 dX7_begin_14 (by decide) rfl (Or.inl w_511) hl0 rfl ?_
  refine ev_iconst 2 dX7_begin_17 (by decide) ?_
  refine ev_bipush 6 dX7_begin_18 (by decide) ?_
  obtain ⟨c4, hB⟩ := ck_of hB
  refine es_copy dX7_begin_20 w_807 j_nat j_sta j_ini (tr_1_2 hl1) (tr_7_0 hl0) c4 (Nat.le_of_ble_eq_true rfl) (am_fit.of (by decide)) ?_
  refine ev_aload_n dX7_begin_23 rfl ?_
  refine es_getr k_1 6 dX7_begin_24 (by decide) rfl (Or.inr ⟨_, n_149⟩) hl1 rfl ?_
  refine ev_iconst 0 dX7_begin_27 (by decide) ?_
  refine ev_aload_n dX7_begin_28 rfl ?_
  refine es_getr k_7 0 dX7_begin_29 (by decide) rfl (Or.inl w_511) hl0 rfl ?_
  refine ev_bipush 24 dX7_begin_32 (by decide) ?_
  refine ev_bipush 8 dX7_begin_34 (by decide) ?_
  obtain ⟨c5, hB⟩ := ck_of hB
  refine es_copy dX7_begin_36 w_807 j_nat j_sta j_ini (tr_1_6 hl1) (tr_7_0 hl0) c5 (Nat.le_of_ble_eq_true rfl) (am_fit.of (by decide)) ?_
  obtain rfl := Option.some.inj hB
  exact ev_vret dX7_begin_39 rfl (Nat.zero_le _) (Nat.zero_le _) (fun z => absurd z (hp_sealed _)) ⟨rfl, rfl⟩
def f_X7_dayNow (N : Nat) (l0 : Nat) (S : am_S) : Option (Int32 × am_S) := (if inb 0 (ln (rf l0 0)) = true then some ((sg S (rf l0 0) (Int32.toNatClampNeg 0)), S) else none)
theorem t_X7_dayNow {G : am_G} {N : Nat} {l0 : Nat} {S : am_S} {out : Int32 × am_S} (hl0 : isC 7 l0 = true) (hB : f_X7_dayNow N l0 S = some out) : am_Met G 1 mX7_dayNow 0 0 [.ref l0] (hp S) (q_i out) q_n := by
  refine am_of (by decide +kernel) rfl rfl rfl (Nat.le_of_ble_eq_true rfl) ?_
  unfold f_X7_dayNow at hB
  refine ev_aload_n dX7_dayNow_0 rfl ?_
  refine es_getr k_7 0 dX7_dayNow_1 (by decide) rfl (Or.inl w_511) hl0 rfl ?_
  refine ev_iconst 0 dX7_dayNow_4 (by decide) ?_
  obtain ⟨c1, hB⟩ := ck_of hB
  refine es_iald dX7_dayNow_5 (tr_7_0 hl0) c1 ?_
  obtain rfl := Option.some.inj hB
  exact ev_iret dX7_dayNow_6 rfl (Nat.zero_le _) (Nat.zero_le _) (fun z => absurd z (hp_sealed _)) ⟨rfl, rfl⟩
def b_J9_floorMod_7cf53_18 (N : Nat) (l2 : Int32) (S : am_S) : Option (Int32 × am_S) := some (l2, S)
def f_J9_floorMod_7cf53 (N : Nat) (l0 : Int32) (l1 : Int32) (S : am_S) : Option (Int32 × am_S) := (if l1 = 0 then none else (if 0 ≤ (l0 ^^^ l1) then b_J9_floorMod_7cf53_18 N (l0 - l0 / l1 * l1) S else (if (l0 - l0 / l1 * l1) = 0 then b_J9_floorMod_7cf53_18 N (l0 - l0 / l1 * l1) S else some (((l0 - l0 / l1 * l1) + l1), S))))
theorem u_J9_floorMod_7cf53_18 {G : am_G} {N : Nat} {h0 : am_H} {out : Int32 × am_S} (l2 : Int32) (S : am_S) (hB : b_J9_floorMod_7cf53_18 N l2 S = some out) : Ev G (am_R 1 0 0) (am_Φ G h0 0 0 (q_i out) q_n) mJ9_floorMod_7cf53 0 0 18 [none, none, some (.int l2)] [] (hp S) := by
  unfold b_J9_floorMod_7cf53_18 at hB
  refine ev_iload_n dJ9_floorMod_7cf53_18 rfl ?_
  obtain rfl := Option.some.inj hB
  exact ev_iret dJ9_floorMod_7cf53_19 rfl (Nat.zero_le _) (Nat.zero_le _) (fun z => absurd z (hp_sealed _)) ⟨rfl, rfl⟩
theorem t_J9_floorMod_7cf53 {G : am_G} {N : Nat} {l0 : Int32} {l1 : Int32} {S : am_S} {out : Int32 × am_S} (hB : f_J9_floorMod_7cf53 N l0 l1 S = some out) : am_Met G 1 mJ9_floorMod_7cf53 0 0 [.int l0, .int l1] (hp S) (q_i out) q_n := by
  refine am_ofF (by decide +kernel) rfl rfl rfl (Nat.le_of_ble_eq_true rfl) ?_
  unfold f_J9_floorMod_7cf53 at hB
  refine ev_iload_n dJ9_floorMod_7cf53_0 rfl ?_
  refine ev_iload_n dJ9_floorMod_7cf53_1 rfl ?_
  obtain ⟨c1, hB⟩ := ckn_of hB
  refine ev_irem dJ9_floorMod_7cf53_2 c1 ?_
  refine ev_istore_n dJ9_floorMod_7cf53_3 (by decide) rfl ?_
  refine ev_iload_n dJ9_floorMod_7cf53_4 rfl ?_
  refine ev_iload_n dJ9_floorMod_7cf53_5 rfl ?_
  refine ev_ixor dJ9_floorMod_7cf53_6 ?_
  refine ev_ifge 18 dJ9_floorMod_7cf53_7 (by decide) (fun q2 => ?_) (fun q2 => ?_)
  · rw [if_pos q2] at hB
    exact ev_ls (u_J9_floorMod_7cf53_18 (l0 - l0 / l1 * l1) S hB) (And.intro rfl trivial)
  · rw [if_neg q2] at hB
    refine ev_iload_n dJ9_floorMod_7cf53_10 rfl ?_
    refine ev_ifeq 18 dJ9_floorMod_7cf53_11 (by decide) (fun q3 => ?_) (fun q3 => ?_)
    · rw [if_pos q3] at hB
      exact ev_ls (u_J9_floorMod_7cf53_18 (l0 - l0 / l1 * l1) S hB) (And.intro rfl trivial)
    · rw [if_neg q3] at hB
      refine ev_iload_n dJ9_floorMod_7cf53_14 rfl ?_
      refine ev_iload_n dJ9_floorMod_7cf53_15 rfl ?_
      refine ev_iadd dJ9_floorMod_7cf53_16 ?_
      obtain rfl := Option.some.inj hB
      exact ev_iret dJ9_floorMod_7cf53_17 rfl (Nat.zero_le _) (Nat.zero_le _) (fun z => absurd z (hp_sealed _)) ⟨rfl, rfl⟩
def b_X7_onStrike_15 (N : Nat) (z0 : Int32) (S : am_S) : Option (Int32 × am_S) := (if isB z0 = true then some (z0, S) else none)
def f_X7_onStrike (N : Nat) (l0 : Nat) (S : am_S) : Option (Int32 × am_S) := (if inb 1 (ln (rf l0 0)) = true then (if (sg S (rf l0 0) (Int32.toNatClampNeg 1)) = 1 then b_X7_onStrike_15 N 1 S else b_X7_onStrike_15 N 0 S) else none)
theorem u_X7_onStrike_15 {G : am_G} {N : Nat} {h0 : am_H} {out : Int32 × am_S} (z0 : Int32) (S : am_S) (hB : b_X7_onStrike_15 N z0 S = some out) : Ev G (am_R 1 0 0) (am_Φ G h0 0 0 (q_i out) q_n) mX7_onStrike 0 0 15 [none] [.int z0] (hp S) := by
  unfold b_X7_onStrike_15 at hB
  obtain ⟨c1, hB⟩ := ck_of hB
  obtain rfl := Option.some.inj hB
  exact ev_zret dX7_onStrike_15 rfl (isB_nar c1) (Nat.zero_le _) (Nat.zero_le _) (fun z => absurd z (hp_sealed _)) ⟨rfl, rfl⟩
theorem t_X7_onStrike {G : am_G} {N : Nat} {l0 : Nat} {S : am_S} {out : Int32 × am_S} (hl0 : isC 7 l0 = true) (hB : f_X7_onStrike N l0 S = some out) : am_Met G 1 mX7_onStrike 0 0 [.ref l0] (hp S) (q_i out) q_n := by
  refine am_of (by decide +kernel) rfl rfl rfl (Nat.le_of_ble_eq_true rfl) ?_
  unfold f_X7_onStrike at hB
  refine ev_aload_n dX7_onStrike_0 rfl ?_
  refine es_getr k_7 0 dX7_onStrike_1 (by decide) rfl (Or.inl w_511) hl0 rfl ?_
  refine ev_iconst 1 dX7_onStrike_4 (by decide) ?_
  obtain ⟨c1, hB⟩ := ck_of hB
  refine es_iald dX7_onStrike_5 (tr_7_0 hl0) c1 ?_
  refine ev_iconst 1 dX7_onStrike_6 (by decide) ?_
  refine ev_icmpne 14 dX7_onStrike_7 (by decide) (fun q2 => ?_) (fun q2 => ?_)
  · rw [if_neg q2] at hB
    refine ev_iconst 0 dX7_onStrike_14 (by decide) ?_
    exact ev_ls (u_X7_onStrike_15 0 S hB) trivial
  · rw [if_pos q2] at hB
    refine ev_iconst 1 dX7_onStrike_10 (by decide) ?_
    refine ev_goto 15 dX7_onStrike_11 (by decide) ?_
    exact ev_ls (u_X7_onStrike_15 1 S hB) trivial
def b_X7_sumOf_5 (N : Nat) : Nat → Nat → Int32 → Int32 → Int32 → Int32 → am_S → Option (Int32 × am_S)
  | 0, _, _, _, _, _, _ => none
  | n + 1, l0, l1, l2, l3, l4, S => (if (l1 + l2) ≤ l4 then some (l3, S) else (if inb l4 (ln (rf l0 0)) = true then b_X7_sumOf_5 N n l0 l1 l2 (l3 + (sg S (rf l0 0) (Int32.toNatClampNeg l4))) (l4 + 1) S else none))
def f_X7_sumOf (N : Nat) (l0 : Nat) (l1 : Int32) (l2 : Int32) (S : am_S) : Option (Int32 × am_S) := b_X7_sumOf_5 N N l0 l1 l2 0 l1 S
theorem u_X7_sumOf_5 {G : am_G} {N : Nat} {h0 : am_H} {out : Int32 × am_S} : ∀ (n : Nat) (l0 : Nat) (l1 : Int32) (l2 : Int32) (l3 : Int32) (l4 : Int32) (S : am_S), isC 7 l0 = true → b_X7_sumOf_5 N n l0 l1 l2 l3 l4 S = some out → Ev G (am_R 1 0 0) (am_Φ G h0 0 0 (q_i out) q_n) mX7_sumOf 0 0 5 [some (.ref l0), some (.int l1), some (.int l2), some (.int l3), some (.int l4)] [] (hp S) := by
  intro n
  induction n with
  | zero =>
    intro l0 l1 l2 l3 l4 S hl0 hB
    exact absurd (show none = some out from hB) (fun q => by cases q)
  | succ n ih =>
    intro l0 l1 l2 l3 l4 S hl0 hB
    unfold b_X7_sumOf_5 at hB
    refine ev_iload dX7_sumOf_5 rfl ?_
    refine ev_iload_n dX7_sumOf_7 rfl ?_
    refine ev_iload_n dX7_sumOf_8 rfl ?_
    refine ev_iadd dX7_sumOf_9 ?_
    refine ev_icmpge 29 dX7_sumOf_10 (by decide) (fun q1 => ?_) (fun q1 => ?_)
    · rw [if_pos q1] at hB
      refine ev_iload_n dX7_sumOf_29 rfl ?_
      obtain rfl := Option.some.inj hB
      exact ev_iret dX7_sumOf_30 rfl (Nat.zero_le _) (Nat.zero_le _) (fun z => absurd z (hp_sealed _)) ⟨rfl, rfl⟩
    · rw [if_neg q1] at hB
      refine ev_iload_n dX7_sumOf_13 rfl ?_
      refine ev_aload_n dX7_sumOf_14 rfl ?_
      refine es_getr k_7 0 dX7_sumOf_15 (by decide) rfl (Or.inl w_511) hl0 rfl ?_
      refine ev_iload dX7_sumOf_18 rfl ?_
      obtain ⟨c2, hB⟩ := ck_of hB
      refine es_iald dX7_sumOf_20 (tr_7_0 hl0) c2 ?_
      refine ev_iadd dX7_sumOf_21 ?_
      refine ev_istore_n dX7_sumOf_22 (by decide) rfl ?_
      refine es_iinc 1 dX7_sumOf_23 rfl (by decide) (by decide) rfl ?_
      refine ev_goto 5 dX7_sumOf_26 (by decide) ?_
      exact ev_ls (ih l0 l1 l2 (l3 + (sg S (rf l0 0) (Int32.toNatClampNeg l4))) (l4 + 1) S hl0 hB) (And.intro rfl (And.intro rfl (And.intro rfl (And.intro rfl (And.intro rfl trivial)))))
theorem t_X7_sumOf {G : am_G} {N : Nat} {l0 : Nat} {l1 : Int32} {l2 : Int32} {S : am_S} {out : Int32 × am_S} (hl0 : isC 7 l0 = true) (hB : f_X7_sumOf N l0 l1 l2 S = some out) : am_Met G 1 mX7_sumOf 0 0 [.ref l0, .int l1, .int l2] (hp S) (q_i out) q_n := by
  refine am_of (by decide +kernel) rfl rfl rfl (Nat.le_of_ble_eq_true rfl) ?_
  unfold f_X7_sumOf at hB
  refine ev_iconst 0 dX7_sumOf_0 (by decide) ?_
  refine ev_istore_n dX7_sumOf_1 (by decide) rfl ?_
  refine ev_iload_n dX7_sumOf_2 rfl ?_
  refine ev_istore dX7_sumOf_3 (by decide) rfl ?_
  exact ev_ls (u_X7_sumOf_5 N l0 l1 l2 0 l1 S hl0 hB) (And.intro rfl (And.intro rfl (And.intro rfl (And.intro rfl (And.intro rfl trivial)))))
def f_X7_heldInAll (N : Nat) (l0 : Nat) (S : am_S) : Option (Int32 × am_S) := (bd (f_X7_sumOf N l0 32 48 S) (fun r1 S2 => some (r1, S2)))
theorem t_X7_heldInAll {G : am_G} {N : Nat} {l0 : Nat} {S : am_S} {out : Int32 × am_S} (hl0 : isC 7 l0 = true) (hB : f_X7_heldInAll N l0 S = some out) : am_Met G 2 mX7_heldInAll 0 0 [.ref l0] (hp S) (q_i out) q_n := by
  refine am_of (by decide +kernel) rfl rfl rfl (Nat.le_of_ble_eq_true rfl) ?_
  unfold f_X7_heldInAll at hB
  refine ev_aload_n dX7_heldInAll_0 rfl ?_
  refine ev_bipush 32 dX7_heldInAll_1 (by decide) ?_
  refine ev_bipush 48 dX7_heldInAll_3 (by decide) ?_
  obtain ⟨r1, S2, e3, hB⟩ := bd_of hB
  refine es_callVi (As := [.int 32, .int 48]) (t_X7_sumOf hl0 e3) dX7_heldInAll_5 oX7_sumOf w_706 rfl hl0 rfl rfl (Nat.le_of_ble_eq_true rfl) rfl (am_fit.of (by decide)) ⟨Nat.zero_le _, Nat.zero_le _⟩ ?_
  obtain rfl := Option.some.inj hB
  exact ev_iret dX7_heldInAll_8 rfl (Nat.zero_le _) (Nat.zero_le _) (fun z => absurd z (hp_sealed _)) ⟨rfl, rfl⟩
def f_X7_heardByAll (N : Nat) (l0 : Nat) (S : am_S) : Option (Int32 × am_S) := (bd (f_X7_sumOf N l0 16 8 S) (fun r1 S2 => some (r1, S2)))
theorem t_X7_heardByAll {G : am_G} {N : Nat} {l0 : Nat} {S : am_S} {out : Int32 × am_S} (hl0 : isC 7 l0 = true) (hB : f_X7_heardByAll N l0 S = some out) : am_Met G 2 mX7_heardByAll 0 0 [.ref l0] (hp S) (q_i out) q_n := by
  refine am_of (by decide +kernel) rfl rfl rfl (Nat.le_of_ble_eq_true rfl) ?_
  unfold f_X7_heardByAll at hB
  refine ev_aload_n dX7_heardByAll_0 rfl ?_
  refine ev_bipush 16 dX7_heardByAll_1 (by decide) ?_
  refine ev_bipush 8 dX7_heardByAll_3 (by decide) ?_
  obtain ⟨r1, S2, e3, hB⟩ := bd_of hB
  refine es_callVi (As := [.int 16, .int 8]) (t_X7_sumOf hl0 e3) dX7_heardByAll_5 oX7_sumOf w_706 rfl hl0 rfl rfl (Nat.le_of_ble_eq_true rfl) rfl (am_fit.of (by decide)) ⟨Nat.zero_le _, Nat.zero_le _⟩ ?_
  obtain rfl := Option.some.inj hB
  exact ev_iret dX7_heardByAll_8 rfl (Nat.zero_le _) (Nat.zero_le _) (fun z => absurd z (hp_sealed _)) ⟨rfl, rfl⟩
def f_X7_atOf (N : Nat) (l0 : Nat) (l1 : Int32) (S : am_S) : Option (Int32 × am_S) := (if inb (24 + l1) (ln (rf l0 0)) = true then some ((sg S (rf l0 0) (Int32.toNatClampNeg (24 + l1))), S) else none)
theorem t_X7_atOf {G : am_G} {N : Nat} {l0 : Nat} {l1 : Int32} {S : am_S} {out : Int32 × am_S} (hl0 : isC 7 l0 = true) (hB : f_X7_atOf N l0 l1 S = some out) : am_Met G 1 mX7_atOf 0 0 [.ref l0, .int l1] (hp S) (q_i out) q_n := by
  refine am_of (by decide +kernel) rfl rfl rfl (Nat.le_of_ble_eq_true rfl) ?_
  unfold f_X7_atOf at hB
  refine ev_aload_n dX7_atOf_0 rfl ?_
  refine es_getr k_7 0 dX7_atOf_1 (by decide) rfl (Or.inl w_511) hl0 rfl ?_
  refine ev_bipush 24 dX7_atOf_4 (by decide) ?_
  refine ev_iload_n dX7_atOf_6 rfl ?_
  refine ev_iadd dX7_atOf_7 ?_
  obtain ⟨c1, hB⟩ := ck_of hB
  refine es_iald dX7_atOf_8 (tr_7_0 hl0) c1 ?_
  obtain rfl := Option.some.inj hB
  exact ev_iret dX7_atOf_9 rfl (Nat.zero_le _) (Nat.zero_le _) (fun z => absurd z (hp_sealed _)) ⟨rfl, rfl⟩
def f_X7_redOf (N : Nat) (l0 : Nat) (l1 : Int32) (S : am_S) : Option (Int32 × am_S) := (if inb (2 + l1) (ln (rf l0 0)) = true then some ((sg S (rf l0 0) (Int32.toNatClampNeg (2 + l1))), S) else none)
theorem t_X7_redOf {G : am_G} {N : Nat} {l0 : Nat} {l1 : Int32} {S : am_S} {out : Int32 × am_S} (hl0 : isC 7 l0 = true) (hB : f_X7_redOf N l0 l1 S = some out) : am_Met G 1 mX7_redOf 0 0 [.ref l0, .int l1] (hp S) (q_i out) q_n := by
  refine am_of (by decide +kernel) rfl rfl rfl (Nat.le_of_ble_eq_true rfl) ?_
  unfold f_X7_redOf at hB
  refine ev_aload_n dX7_redOf_0 rfl ?_
  refine es_getr k_7 0 dX7_redOf_1 (by decide) rfl (Or.inl w_511) hl0 rfl ?_
  refine ev_iconst 2 dX7_redOf_4 (by decide) ?_
  refine ev_iload_n dX7_redOf_5 rfl ?_
  refine ev_iadd dX7_redOf_6 ?_
  obtain ⟨c1, hB⟩ := ck_of hB
  refine es_iald dX7_redOf_7 (tr_7_0 hl0) c1 ?_
  obtain rfl := Option.some.inj hB
  exact ev_iret dX7_redOf_8 rfl (Nat.zero_le _) (Nat.zero_le _) (fun z => absurd z (hp_sealed _)) ⟨rfl, rfl⟩
def f_X7_heldIn (N : Nat) (l0 : Nat) (l1 : Int32) (S : am_S) : Option (Int32 × am_S) := (bd (f_X7_sumOf N l0 (32 + (l1 * 8)) 8 S) (fun r1 S2 => some (r1, S2)))
theorem t_X7_heldIn {G : am_G} {N : Nat} {l0 : Nat} {l1 : Int32} {S : am_S} {out : Int32 × am_S} (hl0 : isC 7 l0 = true) (hB : f_X7_heldIn N l0 l1 S = some out) : am_Met G 2 mX7_heldIn 0 0 [.ref l0, .int l1] (hp S) (q_i out) q_n := by
  refine am_of (by decide +kernel) rfl rfl rfl (Nat.le_of_ble_eq_true rfl) ?_
  unfold f_X7_heldIn at hB
  refine ev_aload_n dX7_heldIn_0 rfl ?_
  refine ev_bipush 32 dX7_heldIn_1 (by decide) ?_
  refine ev_iload_n dX7_heldIn_3 rfl ?_
  refine ev_bipush 8 dX7_heldIn_4 (by decide) ?_
  refine ev_imul dX7_heldIn_6 ?_
  refine ev_iadd dX7_heldIn_7 ?_
  refine ev_bipush 8 dX7_heldIn_8 (by decide) ?_
  obtain ⟨r1, S2, e3, hB⟩ := bd_of hB
  refine es_callVi (As := [.int (32 + (l1 * 8)), .int 8]) (t_X7_sumOf hl0 e3) dX7_heldIn_10 oX7_sumOf w_706 rfl hl0 rfl rfl (Nat.le_of_ble_eq_true rfl) rfl (am_fit.of (by decide)) ⟨Nat.zero_le _, Nat.zero_le _⟩ ?_
  obtain rfl := Option.some.inj hB
  exact ev_iret dX7_heldIn_13 rfl (Nat.zero_le _) (Nat.zero_le _) (fun z => absurd z (hp_sealed _)) ⟨rfl, rfl⟩
def f_X7_regretOf (N : Nat) (l0 : Nat) (l1 : Int32) (S : am_S) : Option (Int32 × am_S) := (if inb (8 + l1) (ln (rf l0 0)) = true then some ((sg S (rf l0 0) (Int32.toNatClampNeg (8 + l1))), S) else none)
theorem t_X7_regretOf {G : am_G} {N : Nat} {l0 : Nat} {l1 : Int32} {S : am_S} {out : Int32 × am_S} (hl0 : isC 7 l0 = true) (hB : f_X7_regretOf N l0 l1 S = some out) : am_Met G 1 mX7_regretOf 0 0 [.ref l0, .int l1] (hp S) (q_i out) q_n := by
  refine am_of (by decide +kernel) rfl rfl rfl (Nat.le_of_ble_eq_true rfl) ?_
  unfold f_X7_regretOf at hB
  refine ev_aload_n dX7_regretOf_0 rfl ?_
  refine es_getr k_7 0 dX7_regretOf_1 (by decide) rfl (Or.inl w_511) hl0 rfl ?_
  refine ev_bipush 8 dX7_regretOf_4 (by decide) ?_
  refine ev_iload_n dX7_regretOf_6 rfl ?_
  refine ev_iadd dX7_regretOf_7 ?_
  obtain ⟨c1, hB⟩ := ck_of hB
  refine es_iald dX7_regretOf_8 (tr_7_0 hl0) c1 ?_
  obtain rfl := Option.some.inj hB
  exact ev_iret dX7_regretOf_9 rfl (Nat.zero_le _) (Nat.zero_le _) (fun z => absurd z (hp_sealed _)) ⟨rfl, rfl⟩
def f_X7_heardBy (N : Nat) (l0 : Nat) (l1 : Int32) (S : am_S) : Option (Int32 × am_S) := (if inb (16 + l1) (ln (rf l0 0)) = true then some ((sg S (rf l0 0) (Int32.toNatClampNeg (16 + l1))), S) else none)
theorem t_X7_heardBy {G : am_G} {N : Nat} {l0 : Nat} {l1 : Int32} {S : am_S} {out : Int32 × am_S} (hl0 : isC 7 l0 = true) (hB : f_X7_heardBy N l0 l1 S = some out) : am_Met G 1 mX7_heardBy 0 0 [.ref l0, .int l1] (hp S) (q_i out) q_n := by
  refine am_of (by decide +kernel) rfl rfl rfl (Nat.le_of_ble_eq_true rfl) ?_
  unfold f_X7_heardBy at hB
  refine ev_aload_n dX7_heardBy_0 rfl ?_
  refine es_getr k_7 0 dX7_heardBy_1 (by decide) rfl (Or.inl w_511) hl0 rfl ?_
  refine ev_bipush 16 dX7_heardBy_4 (by decide) ?_
  refine ev_iload_n dX7_heardBy_6 rfl ?_
  refine ev_iadd dX7_heardBy_7 ?_
  obtain ⟨c1, hB⟩ := ck_of hB
  refine es_iald dX7_heardBy_8 (tr_7_0 hl0) c1 ?_
  obtain rfl := Option.some.inj hB
  exact ev_iret dX7_heardBy_9 rfl (Nat.zero_le _) (Nat.zero_le _) (fun z => absurd z (hp_sealed _)) ⟨rfl, rfl⟩
def f_X7_heldOf (N : Nat) (l0 : Nat) (l1 : Int32) (l2 : Int32) (S : am_S) : Option (Int32 × am_S) := (if inb ((32 + (l1 * 8)) + l2) (ln (rf l0 0)) = true then some ((sg S (rf l0 0) (Int32.toNatClampNeg ((32 + (l1 * 8)) + l2))), S) else none)
theorem t_X7_heldOf {G : am_G} {N : Nat} {l0 : Nat} {l1 : Int32} {l2 : Int32} {S : am_S} {out : Int32 × am_S} (hl0 : isC 7 l0 = true) (hB : f_X7_heldOf N l0 l1 l2 S = some out) : am_Met G 1 mX7_heldOf 0 0 [.ref l0, .int l1, .int l2] (hp S) (q_i out) q_n := by
  refine am_of (by decide +kernel) rfl rfl rfl (Nat.le_of_ble_eq_true rfl) ?_
  unfold f_X7_heldOf at hB
  refine ev_aload_n dX7_heldOf_0 rfl ?_
  refine es_getr k_7 0 dX7_heldOf_1 (by decide) rfl (Or.inl w_511) hl0 rfl ?_
  refine ev_bipush 32 dX7_heldOf_4 (by decide) ?_
  refine ev_iload_n dX7_heldOf_6 rfl ?_
  refine ev_bipush 8 dX7_heldOf_7 (by decide) ?_
  refine ev_imul dX7_heldOf_9 ?_
  refine ev_iadd dX7_heldOf_10 ?_
  refine ev_iload_n dX7_heldOf_11 rfl ?_
  refine ev_iadd dX7_heldOf_12 ?_
  obtain ⟨c1, hB⟩ := ck_of hB
  refine es_iald dX7_heldOf_13 (tr_7_0 hl0) c1 ?_
  obtain rfl := Option.some.inj hB
  exact ev_iret dX7_heldOf_14 rfl (Nat.zero_le _) (Nat.zero_le _) (fun z => absurd z (hp_sealed _)) ⟨rfl, rfl⟩
def f_X7_think (N : Nat) (l0 : Nat) (l1 : Int32) (l2 : Int32) (l3 : Int32) (S : am_S) : Option (am_S) := (if inb ((32 + (l1 * 8)) + l2) (ln (rf l0 0)) = true then (if inb ((32 + (l1 * 8)) + l2) (ln (rf l0 0)) = true then (if inb (8 + l2) (ln (rf l0 0)) = true then (if inb (8 + l2) (ln (rf l0 0)) = true then some (sp (sp S (rf l0 0) (Int32.toNatClampNeg ((32 + (l1 * 8)) + l2)) (jmin 99 ((sg S (rf l0 0) (Int32.toNatClampNeg ((32 + (l1 * 8)) + l2))) + l3))) (rf l0 0) (Int32.toNatClampNeg (8 + l2)) (jmin 999 ((sg (sp S (rf l0 0) (Int32.toNatClampNeg ((32 + (l1 * 8)) + l2)) (jmin 99 ((sg S (rf l0 0) (Int32.toNatClampNeg ((32 + (l1 * 8)) + l2))) + l3))) (rf l0 0) (Int32.toNatClampNeg (8 + l2))) + l3))) else none) else none) else none) else none)
theorem t_X7_think {G : am_G} {N : Nat} {l0 : Nat} {l1 : Int32} {l2 : Int32} {l3 : Int32} {S : am_S} {out : am_S} (hl0 : isC 7 l0 = true) (hB : f_X7_think N l0 l1 l2 l3 S = some out) : am_Met G 1 mX7_think 0 0 [.ref l0, .int l1, .int l2, .int l3] (hp S) (q_v out) q_n := by
  refine am_of (by decide +kernel) rfl rfl rfl (Nat.le_of_ble_eq_true rfl) ?_
  unfold f_X7_think at hB
  refine ev_bipush 32 dX7_think_0 (by decide) ?_
  refine ev_iload_n dX7_think_2 rfl ?_
  refine ev_bipush 8 dX7_think_3 (by decide) ?_
  refine ev_imul dX7_think_5 ?_
  refine ev_iadd dX7_think_6 ?_
  refine ev_iload_n dX7_think_7 rfl ?_
  refine ev_iadd dX7_think_8 ?_
  refine ev_istore dX7_think_9 (by decide) rfl ?_
  refine ev_aload_n dX7_think_11 rfl ?_
  refine es_getr k_7 0 dX7_think_12 (by decide) rfl (Or.inl w_511) hl0 rfl ?_
  refine ev_iload dX7_think_15 rfl ?_
  refine ev_bipush 99 dX7_think_17 (by decide) ?_
  refine ev_aload_n dX7_think_19 rfl ?_
  refine es_getr k_7 0 dX7_think_20 (by decide) rfl (Or.inl w_511) hl0 rfl ?_
  refine ev_iload dX7_think_23 rfl ?_
  obtain ⟨c1, hB⟩ := ck_of hB
  refine es_iald dX7_think_25 (tr_7_0 hl0) c1 ?_
  refine ev_iload_n dX7_think_26 rfl ?_
  refine ev_iadd dX7_think_27 ?_
  refine es_min dX7_think_28 w_724 (Nat.le_of_ble_eq_true rfl) (am_fit.of (by decide)) ⟨Nat.zero_le _, Nat.zero_le _⟩ ?_
  obtain ⟨c2, hB⟩ := ck_of hB
  refine es_iast dX7_think_31 (tr_7_0 hl0) c2 ?_
  refine ev_aload_n dX7_think_32 rfl ?_
  refine es_getr k_7 0 dX7_think_33 (by decide) rfl (Or.inl w_511) hl0 rfl ?_
  refine ev_bipush 8 dX7_think_36 (by decide) ?_
  refine ev_iload_n dX7_think_38 rfl ?_
  refine ev_iadd dX7_think_39 ?_
  refine ev_sipush 999 dX7_think_40 (by decide) ?_
  refine ev_aload_n dX7_think_43 rfl ?_
  refine es_getr k_7 0 dX7_think_44 (by decide) rfl (Or.inl w_511) hl0 rfl ?_
  refine ev_bipush 8 dX7_think_47 (by decide) ?_
  refine ev_iload_n dX7_think_49 rfl ?_
  refine ev_iadd dX7_think_50 ?_
  obtain ⟨c3, hB⟩ := ck_of hB
  refine es_iald dX7_think_51 (tr_7_0 hl0) c3 ?_
  refine ev_iload_n dX7_think_52 rfl ?_
  refine ev_iadd dX7_think_53 ?_
  refine es_min dX7_think_54 w_724 (Nat.le_of_ble_eq_true rfl) (am_fit.of (by decide)) ⟨Nat.zero_le _, Nat.zero_le _⟩ ?_
  obtain ⟨c4, hB⟩ := ck_of hB
  refine es_iast dX7_think_57 (tr_7_0 hl0) c4 ?_
  obtain rfl := Option.some.inj hB
  exact ev_vret dX7_think_58 rfl (Nat.zero_le _) (Nat.zero_le _) (fun z => absurd z (hp_sealed _)) ⟨rfl, rfl⟩
def f_X7_hear (N : Nat) (l0 : Nat) (l1 : Int32) (l2 : Int32) (S : am_S) : Option (am_S) := (if inb (16 + l1) (ln (rf l0 0)) = true then (if inb (16 + l1) (ln (rf l0 0)) = true then some (sp S (rf l0 0) (Int32.toNatClampNeg (16 + l1)) (jmin 9999 ((sg S (rf l0 0) (Int32.toNatClampNeg (16 + l1))) + l2))) else none) else none)
theorem t_X7_hear {G : am_G} {N : Nat} {l0 : Nat} {l1 : Int32} {l2 : Int32} {S : am_S} {out : am_S} (hl0 : isC 7 l0 = true) (hB : f_X7_hear N l0 l1 l2 S = some out) : am_Met G 1 mX7_hear 0 0 [.ref l0, .int l1, .int l2] (hp S) (q_v out) q_n := by
  refine am_of (by decide +kernel) rfl rfl rfl (Nat.le_of_ble_eq_true rfl) ?_
  unfold f_X7_hear at hB
  refine ev_aload_n dX7_hear_0 rfl ?_
  refine es_getr k_7 0 dX7_hear_1 (by decide) rfl (Or.inl w_511) hl0 rfl ?_
  refine ev_bipush 16 dX7_hear_4 (by decide) ?_
  refine ev_iload_n dX7_hear_6 rfl ?_
  refine ev_iadd dX7_hear_7 ?_
  refine ev_sipush 9999 dX7_hear_8 (by decide) ?_
  refine ev_aload_n dX7_hear_11 rfl ?_
  refine es_getr k_7 0 dX7_hear_12 (by decide) rfl (Or.inl w_511) hl0 rfl ?_
  refine ev_bipush 16 dX7_hear_15 (by decide) ?_
  refine ev_iload_n dX7_hear_17 rfl ?_
  refine ev_iadd dX7_hear_18 ?_
  obtain ⟨c1, hB⟩ := ck_of hB
  refine es_iald dX7_hear_19 (tr_7_0 hl0) c1 ?_
  refine ev_iload_n dX7_hear_20 rfl ?_
  refine ev_iadd dX7_hear_21 ?_
  refine es_min dX7_hear_22 w_724 (Nat.le_of_ble_eq_true rfl) (am_fit.of (by decide)) ⟨Nat.zero_le _, Nat.zero_le _⟩ ?_
  obtain ⟨c2, hB⟩ := ck_of hB
  refine es_iast dX7_hear_25 (tr_7_0 hl0) c2 ?_
  obtain rfl := Option.some.inj hB
  exact ev_vret dX7_hear_26 rfl (Nat.zero_le _) (Nat.zero_le _) (fun z => absurd z (hp_sealed _)) ⟨rfl, rfl⟩
def f_X7_letGo (N : Nat) (l0 : Nat) (l1 : Int32) (l2 : Int32) (S : am_S) : Option (am_S) := (if inb (8 + l2) (ln (rf l0 0)) = true then (if inb ((32 + (l1 * 8)) + l2) (ln (rf l0 0)) = true then (if inb (8 + l2) (ln (rf l0 0)) = true then (if inb ((32 + (l1 * 8)) + l2) (ln (rf l0 0)) = true then some (sp (sp S (rf l0 0) (Int32.toNatClampNeg (8 + l2)) (jmax 0 ((sg S (rf l0 0) (Int32.toNatClampNeg (8 + l2))) - (sg S (rf l0 0) (Int32.toNatClampNeg ((32 + (l1 * 8)) + l2)))))) (rf l0 0) (Int32.toNatClampNeg ((32 + (l1 * 8)) + l2)) 0) else none) else none) else none) else none)
theorem t_X7_letGo {G : am_G} {N : Nat} {l0 : Nat} {l1 : Int32} {l2 : Int32} {S : am_S} {out : am_S} (hl0 : isC 7 l0 = true) (hB : f_X7_letGo N l0 l1 l2 S = some out) : am_Met G 1 mX7_letGo 0 0 [.ref l0, .int l1, .int l2] (hp S) (q_v out) q_n := by
  refine am_of (by decide +kernel) rfl rfl rfl (Nat.le_of_ble_eq_true rfl) ?_
  unfold f_X7_letGo at hB
  refine ev_bipush 32 dX7_letGo_0 (by decide) ?_
  refine ev_iload_n dX7_letGo_2 rfl ?_
  refine ev_bipush 8 dX7_letGo_3 (by decide) ?_
  refine ev_imul dX7_letGo_5 ?_
  refine ev_iadd dX7_letGo_6 ?_
  refine ev_iload_n dX7_letGo_7 rfl ?_
  refine ev_iadd dX7_letGo_8 ?_
  refine ev_istore_n dX7_letGo_9 (by decide) rfl ?_
  refine ev_aload_n dX7_letGo_10 rfl ?_
  refine es_getr k_7 0 dX7_letGo_11 (by decide) rfl (Or.inl w_511) hl0 rfl ?_
  refine ev_bipush 8 dX7_letGo_14 (by decide) ?_
  refine ev_iload_n dX7_letGo_16 rfl ?_
  refine ev_iadd dX7_letGo_17 ?_
  refine ev_iconst 0 dX7_letGo_18 (by decide) ?_
  refine ev_aload_n dX7_letGo_19 rfl ?_
  refine es_getr k_7 0 dX7_letGo_20 (by decide) rfl (Or.inl w_511) hl0 rfl ?_
  refine ev_bipush 8 dX7_letGo_23 (by decide) ?_
  refine ev_iload_n dX7_letGo_25 rfl ?_
  refine ev_iadd dX7_letGo_26 ?_
  obtain ⟨c1, hB⟩ := ck_of hB
  refine es_iald dX7_letGo_27 (tr_7_0 hl0) c1 ?_
  refine ev_aload_n dX7_letGo_28 rfl ?_
  refine es_getr k_7 0 dX7_letGo_29 (by decide) rfl (Or.inl w_511) hl0 rfl ?_
  refine ev_iload_n dX7_letGo_32 rfl ?_
  obtain ⟨c2, hB⟩ := ck_of hB
  refine es_iald dX7_letGo_33 (tr_7_0 hl0) c2 ?_
  refine ev_isub dX7_letGo_34 ?_
  refine es_max dX7_letGo_35 w_752 (Nat.le_of_ble_eq_true rfl) (am_fit.of (by decide)) ⟨Nat.zero_le _, Nat.zero_le _⟩ ?_
  obtain ⟨c3, hB⟩ := ck_of hB
  refine es_iast dX7_letGo_38 (tr_7_0 hl0) c3 ?_
  refine ev_aload_n dX7_letGo_39 rfl ?_
  refine es_getr k_7 0 dX7_letGo_40 (by decide) rfl (Or.inl w_511) hl0 rfl ?_
  refine ev_iload_n dX7_letGo_43 rfl ?_
  refine ev_iconst 0 dX7_letGo_44 (by decide) ?_
  obtain ⟨c4, hB⟩ := ck_of hB
  refine es_iast dX7_letGo_45 (tr_7_0 hl0) c4 ?_
  obtain rfl := Option.some.inj hB
  exact ev_vret dX7_letGo_46 rfl (Nat.zero_le _) (Nat.zero_le _) (fun z => absurd z (hp_sealed _)) ⟨rfl, rfl⟩
def f_X7_setRed (N : Nat) (l0 : Nat) (l1 : Int32) (l2 : Int32) (S : am_S) : Option (am_S) := (if inb (2 + l1) (ln (rf l0 0)) = true then some (sp S (rf l0 0) (Int32.toNatClampNeg (2 + l1)) l2) else none)
theorem t_X7_setRed {G : am_G} {N : Nat} {l0 : Nat} {l1 : Int32} {l2 : Int32} {S : am_S} {out : am_S} (hl0 : isC 7 l0 = true) (hB : f_X7_setRed N l0 l1 l2 S = some out) : am_Met G 1 mX7_setRed 0 0 [.ref l0, .int l1, .int l2] (hp S) (q_v out) q_n := by
  refine am_of (by decide +kernel) rfl rfl rfl (Nat.le_of_ble_eq_true rfl) ?_
  unfold f_X7_setRed at hB
  refine ev_aload_n dX7_setRed_0 rfl ?_
  refine es_getr k_7 0 dX7_setRed_1 (by decide) rfl (Or.inl w_511) hl0 rfl ?_
  refine ev_iconst 2 dX7_setRed_4 (by decide) ?_
  refine ev_iload_n dX7_setRed_5 rfl ?_
  refine ev_iadd dX7_setRed_6 ?_
  refine ev_iload_n dX7_setRed_7 rfl ?_
  obtain ⟨c1, hB⟩ := ck_of hB
  refine es_iast dX7_setRed_8 (tr_7_0 hl0) c1 ?_
  obtain rfl := Option.some.inj hB
  exact ev_vret dX7_setRed_9 rfl (Nat.zero_le _) (Nat.zero_le _) (fun z => absurd z (hp_sealed _)) ⟨rfl, rfl⟩
def f_X7_nextDay (N : Nat) (l0 : Nat) (S : am_S) : Option (am_S) := (if inb 0 (ln (rf l0 0)) = true then (if inb 0 (ln (rf l0 0)) = true then some (sp S (rf l0 0) (Int32.toNatClampNeg 0) ((sg S (rf l0 0) (Int32.toNatClampNeg 0)) + 1)) else none) else none)
theorem t_X7_nextDay {G : am_G} {N : Nat} {l0 : Nat} {S : am_S} {out : am_S} (hl0 : isC 7 l0 = true) (hB : f_X7_nextDay N l0 S = some out) : am_Met G 1 mX7_nextDay 0 0 [.ref l0] (hp S) (q_v out) q_n := by
  refine am_of (by decide +kernel) rfl rfl rfl (Nat.le_of_ble_eq_true rfl) ?_
  unfold f_X7_nextDay at hB
  refine ev_aload_n dX7_nextDay_0 rfl ?_
  refine es_getr k_7 0 dX7_nextDay_1 (by decide) rfl (Or.inl w_511) hl0 rfl ?_
  refine ev_iconst 0 dX7_nextDay_4 (by decide) ?_
  refine ev_dup2 dX7_nextDay_5 rfl rfl ?_
  obtain ⟨c1, hB⟩ := ck_of hB
  refine es_iald dX7_nextDay_6 (tr_7_0 hl0) c1 ?_
  refine ev_iconst 1 dX7_nextDay_7 (by decide) ?_
  refine ev_iadd dX7_nextDay_8 ?_
  obtain ⟨c2, hB⟩ := ck_of hB
  refine es_iast dX7_nextDay_9 (tr_7_0 hl0) c2 ?_
  obtain rfl := Option.some.inj hB
  exact ev_vret dX7_nextDay_10 rfl (Nat.zero_le _) (Nat.zero_le _) (fun z => absurd z (hp_sealed _)) ⟨rfl, rfl⟩
def b_X7_sendLetter_17 (N : Nat) : Nat → Nat → Int32 → Int32 → Int32 → Int32 → am_S → Option (am_S)
  | 0, _, _, _, _, _, _ => none
  | n + 1, l0, l1, l2, l3, l4, S => (if 6 ≤ l4 then (bv (f_X7_hear N l0 l2 (9 + l3) S) (fun S3 => (if inb (8 + l1) (ln (rf l0 0)) = true then some (sp S3 (rf l0 0) (Int32.toNatClampNeg (8 + l1)) 0) else none))) else (bd (f_X7_heldOf N l0 l4 l1 S) (fun r6 S7 => (if inb ((32 + (l4 * 8)) + l1) (ln (rf l0 0)) = true then b_X7_sendLetter_17 N n l0 l1 l2 (l3 + r6) (l4 + 1) (sp S7 (rf l0 0) (Int32.toNatClampNeg ((32 + (l4 * 8)) + l1)) 0) else none))))
def f_X7_sendLetter (N : Nat) (l0 : Nat) (l1 : Int32) (S : am_S) : Option (am_S) := (bd (f_X7_atOf N l0 l1 S) (fun r1 S2 => (if r1 = (-1) then some S2 else b_X7_sendLetter_17 N N l0 l1 r1 0 0 S2)))
theorem u_X7_sendLetter_17 {G : am_G} {N : Nat} {h0 : am_H} {out : am_S} : ∀ (n : Nat) (l0 : Nat) (l1 : Int32) (l2 : Int32) (l3 : Int32) (l4 : Int32) (S : am_S), isC 7 l0 = true → b_X7_sendLetter_17 N n l0 l1 l2 l3 l4 S = some out → Ev G (am_R 2 0 0) (am_Φ G h0 0 0 (q_v out) q_n) mX7_sendLetter 0 0 17 [some (.ref l0), some (.int l1), some (.int l2), some (.int l3), some (.int l4)] [] (hp S) := by
  intro n
  induction n with
  | zero =>
    intro l0 l1 l2 l3 l4 S hl0 hB
    exact absurd (show none = some out from hB) (fun q => by cases q)
  | succ n ih =>
    intro l0 l1 l2 l3 l4 S hl0 hB
    unfold b_X7_sendLetter_17 at hB
    refine ev_iload dX7_sendLetter_17 rfl ?_
    refine ev_bipush 6 dX7_sendLetter_19 (by decide) ?_
    refine ev_icmpge 56 dX7_sendLetter_21 (by decide) (fun q1 => ?_) (fun q1 => ?_)
    · rw [if_pos q1] at hB
      refine ev_aload_n dX7_sendLetter_56 rfl ?_
      refine ev_iload_n dX7_sendLetter_57 rfl ?_
      refine ev_bipush 9 dX7_sendLetter_58 (by decide) ?_
      refine ev_iload_n dX7_sendLetter_60 rfl ?_
      refine ev_iadd dX7_sendLetter_61 ?_
      obtain ⟨S3, e4, hB⟩ := bv_of hB
      refine es_callVv (As := [.int l2, .int (9 + l3)]) (t_X7_hear hl0 e4) dX7_sendLetter_62 oX7_hear w_1181 rfl hl0 rfl rfl (Nat.le_of_ble_eq_true rfl) rfl (am_fit.of (by decide)) ⟨Nat.zero_le _, Nat.zero_le _⟩ ?_
      refine ev_aload_n dX7_sendLetter_65 rfl ?_
      refine es_getr k_7 0 dX7_sendLetter_66 (by decide) rfl (Or.inl w_511) hl0 rfl ?_
      refine ev_bipush 8 dX7_sendLetter_69 (by decide) ?_
      refine ev_iload_n dX7_sendLetter_71 rfl ?_
      refine ev_iadd dX7_sendLetter_72 ?_
      refine ev_iconst 0 dX7_sendLetter_73 (by decide) ?_
      obtain ⟨c5, hB⟩ := ck_of hB
      refine es_iast dX7_sendLetter_74 (tr_7_0 hl0) c5 ?_
      obtain rfl := Option.some.inj hB
      exact ev_vret dX7_sendLetter_75 rfl (Nat.zero_le _) (Nat.zero_le _) (fun z => absurd z (hp_sealed _)) ⟨rfl, rfl⟩
    · rw [if_neg q1] at hB
      refine ev_iload_n dX7_sendLetter_24 rfl ?_
      refine ev_aload_n dX7_sendLetter_25 rfl ?_
      refine ev_iload dX7_sendLetter_26 rfl ?_
      refine ev_iload_n dX7_sendLetter_28 rfl ?_
      obtain ⟨r6, S7, e8, hB⟩ := bd_of hB
      refine es_callVi (As := [.int l4, .int l1]) (t_X7_heldOf hl0 e8) dX7_sendLetter_29 oX7_heldOf w_1180 rfl hl0 rfl rfl (Nat.le_of_ble_eq_true rfl) rfl (am_fit.of (by decide)) ⟨Nat.zero_le _, Nat.zero_le _⟩ ?_
      refine ev_iadd dX7_sendLetter_32 ?_
      refine ev_istore_n dX7_sendLetter_33 (by decide) rfl ?_
      refine ev_aload_n dX7_sendLetter_34 rfl ?_
      refine es_getr k_7 0 dX7_sendLetter_35 (by decide) rfl (Or.inl w_511) hl0 rfl ?_
      refine ev_bipush 32 dX7_sendLetter_38 (by decide) ?_
      refine ev_iload dX7_sendLetter_40 rfl ?_
      refine ev_bipush 8 dX7_sendLetter_42 (by decide) ?_
      refine ev_imul dX7_sendLetter_44 ?_
      refine ev_iadd dX7_sendLetter_45 ?_
      refine ev_iload_n dX7_sendLetter_46 rfl ?_
      refine ev_iadd dX7_sendLetter_47 ?_
      refine ev_iconst 0 dX7_sendLetter_48 (by decide) ?_
      obtain ⟨c9, hB⟩ := ck_of hB
      refine es_iast dX7_sendLetter_49 (tr_7_0 hl0) c9 ?_
      refine es_iinc 1 dX7_sendLetter_50 rfl (by decide) (by decide) rfl ?_
      refine ev_goto 17 dX7_sendLetter_53 (by decide) ?_
      exact ev_ls (ih l0 l1 l2 (l3 + r6) (l4 + 1) (sp S7 (rf l0 0) (Int32.toNatClampNeg ((32 + (l4 * 8)) + l1)) 0) hl0 hB) (And.intro rfl (And.intro rfl (And.intro rfl (And.intro rfl (And.intro rfl trivial)))))
theorem t_X7_sendLetter {G : am_G} {N : Nat} {l0 : Nat} {l1 : Int32} {S : am_S} {out : am_S} (hl0 : isC 7 l0 = true) (hB : f_X7_sendLetter N l0 l1 S = some out) : am_Met G 2 mX7_sendLetter 0 0 [.ref l0, .int l1] (hp S) (q_v out) q_n := by
  refine am_of (by decide +kernel) rfl rfl rfl (Nat.le_of_ble_eq_true rfl) ?_
  unfold f_X7_sendLetter at hB
  refine ev_aload_n dX7_sendLetter_0 rfl ?_
  refine ev_iload_n dX7_sendLetter_1 rfl ?_
  obtain ⟨r1, S2, e3, hB⟩ := bd_of hB
  refine es_callVi (As := [.int l1]) (t_X7_atOf hl0 e3) dX7_sendLetter_2 oX7_atOf w_1179 rfl hl0 rfl rfl (Nat.le_of_ble_eq_true rfl) rfl (am_fit.of (by decide)) ⟨Nat.zero_le _, Nat.zero_le _⟩ ?_
  refine ev_istore_n dX7_sendLetter_5 (by decide) rfl ?_
  refine ev_iload_n dX7_sendLetter_6 rfl ?_
  refine ev_iconst (-1) dX7_sendLetter_7 (by decide) ?_
  refine ev_icmpne 12 dX7_sendLetter_8 (by decide) (fun q4 => ?_) (fun q4 => ?_)
  · rw [if_neg q4] at hB
    refine ev_iconst 0 dX7_sendLetter_12 (by decide) ?_
    refine ev_istore_n dX7_sendLetter_13 (by decide) rfl ?_
    refine ev_iconst 0 dX7_sendLetter_14 (by decide) ?_
    refine ev_istore dX7_sendLetter_15 (by decide) rfl ?_
    exact ev_ls (u_X7_sendLetter_17 N l0 l1 r1 0 0 S2 hl0 hB) (And.intro rfl (And.intro rfl (And.intro rfl (And.intro rfl (And.intro rfl trivial)))))
  · rw [if_pos q4] at hB
    obtain rfl := Option.some.inj hB
    exact ev_vret dX7_sendLetter_11 rfl (Nat.zero_le _) (Nat.zero_le _) (fun z => absurd z (hp_sealed _)) ⟨rfl, rfl⟩
def f_X7_turnTo (N : Nat) (l0 : Nat) (l1 : Int32) (l2 : Int32) (S : am_S) : Option (am_S) := (if inb (24 + l1) (ln (rf l0 0)) = true then some (sp S (rf l0 0) (Int32.toNatClampNeg (24 + l1)) l2) else none)
theorem t_X7_turnTo {G : am_G} {N : Nat} {l0 : Nat} {l1 : Int32} {l2 : Int32} {S : am_S} {out : am_S} (hl0 : isC 7 l0 = true) (hB : f_X7_turnTo N l0 l1 l2 S = some out) : am_Met G 1 mX7_turnTo 0 0 [.ref l0, .int l1, .int l2] (hp S) (q_v out) q_n := by
  refine am_of (by decide +kernel) rfl rfl rfl (Nat.le_of_ble_eq_true rfl) ?_
  unfold f_X7_turnTo at hB
  refine ev_aload_n dX7_turnTo_0 rfl ?_
  refine es_getr k_7 0 dX7_turnTo_1 (by decide) rfl (Or.inl w_511) hl0 rfl ?_
  refine ev_bipush 24 dX7_turnTo_4 (by decide) ?_
  refine ev_iload_n dX7_turnTo_6 rfl ?_
  refine ev_iadd dX7_turnTo_7 ?_
  refine ev_iload_n dX7_turnTo_8 rfl ?_
  obtain ⟨c1, hB⟩ := ck_of hB
  refine es_iast dX7_turnTo_9 (tr_7_0 hl0) c1 ?_
  obtain rfl := Option.some.inj hB
  exact ev_vret dX7_turnTo_10 rfl (Nat.zero_le _) (Nat.zero_le _) (fun z => absurd z (hp_sealed _)) ⟨rfl, rfl⟩
def b_X7_setStrike_14 (N : Nat) (z0 : Nat) (z1 : Int32) (z2 : Int32) (S : am_S) : Option (am_S) := (if inb z1 (ln z0) = true then some (sp S z0 (Int32.toNatClampNeg z1) z2) else none)
def f_X7_setStrike (N : Nat) (l0 : Nat) (l1 : Int32) (S : am_S) : Option (am_S) := (if l1 = 0 then b_X7_setStrike_14 N (rf l0 0) 1 0 S else b_X7_setStrike_14 N (rf l0 0) 1 1 S)
theorem u_X7_setStrike_14 {G : am_G} {N : Nat} {h0 : am_H} {out : am_S} (z0 : Nat) (z1 : Int32) (z2 : Int32) (S : am_S) (hz0 : isAr 1 z0 = true) (hB : b_X7_setStrike_14 N z0 z1 z2 S = some out) : Ev G (am_R 1 0 0) (am_Φ G h0 0 0 (q_v out) q_n) mX7_setStrike 0 0 14 [none, none] [.int z2, .int z1, .ref z0] (hp S) := by
  unfold b_X7_setStrike_14 at hB
  obtain ⟨c1, hB⟩ := ck_of hB
  refine es_iast dX7_setStrike_14 hz0 c1 ?_
  obtain rfl := Option.some.inj hB
  exact ev_vret dX7_setStrike_15 rfl (Nat.zero_le _) (Nat.zero_le _) (fun z => absurd z (hp_sealed _)) ⟨rfl, rfl⟩
theorem t_X7_setStrike {G : am_G} {N : Nat} {l0 : Nat} {l1 : Int32} {S : am_S} {out : am_S} (hl0 : isC 7 l0 = true) (hB : f_X7_setStrike N l0 l1 S = some out) : am_Met G 1 mX7_setStrike 0 0 [.ref l0, .int l1] (hp S) (q_v out) q_n := by
  refine am_of (by decide +kernel) rfl rfl rfl (Nat.le_of_ble_eq_true rfl) ?_
  unfold f_X7_setStrike at hB
  refine ev_aload_n dX7_setStrike_0 rfl ?_
  refine es_getr k_7 0 dX7_setStrike_1 (by decide) rfl (Or.inl w_511) hl0 rfl ?_
  refine ev_iconst 1 dX7_setStrike_4 (by decide) ?_
  refine ev_iload_n dX7_setStrike_5 rfl ?_
  refine ev_ifeq 13 dX7_setStrike_6 (by decide) (fun q1 => ?_) (fun q1 => ?_)
  · rw [if_pos q1] at hB
    refine ev_iconst 0 dX7_setStrike_13 (by decide) ?_
    exact ev_ls (u_X7_setStrike_14 (rf l0 0) 1 0 S (tr_7_0 hl0) hB) trivial
  · rw [if_neg q1] at hB
    refine ev_iconst 1 dX7_setStrike_9 (by decide) ?_
    refine ev_goto 14 dX7_setStrike_10 (by decide) ?_
    exact ev_ls (u_X7_setStrike_14 (rf l0 0) 1 1 S (tr_7_0 hl0) hB) trivial
def f_X7_copyFrom (N : Nat) (l0 : Nat) (l1 : Nat) (S : am_S) : Option (am_S) := (if cpk 0 0 80 (ln (rf l1 0)) (ln (rf l0 0)) = true then some (scp S (rf l1 0) (Int32.toNatClampNeg 0) (rf l0 0) (Int32.toNatClampNeg 0) (Int32.toNatClampNeg 80)) else none)
theorem t_X7_copyFrom {G : am_G} {N : Nat} {l0 : Nat} {l1 : Nat} {S : am_S} {out : am_S} (hl0 : isC 7 l0 = true) (hl1 : isC 7 l1 = true) (hB : f_X7_copyFrom N l0 l1 S = some out) : am_Met G 1 mX7_copyFrom 0 0 [.ref l0, .ref l1] (hp S) (q_v out) q_n := by
  refine am_of (by decide +kernel) rfl rfl rfl (Nat.le_of_ble_eq_true rfl) ?_
  unfold f_X7_copyFrom at hB
  refine ev_aload_n dX7_copyFrom_0 rfl ?_
  refine es_getr k_7 0 dX7_copyFrom_1 (by decide) rfl (Or.inl w_511) hl1 rfl ?_
  refine ev_iconst 0 dX7_copyFrom_4 (by decide) ?_
  refine ev_aload_n dX7_copyFrom_5 rfl ?_
  refine es_getr k_7 0 dX7_copyFrom_6 (by decide) rfl (Or.inl w_511) hl0 rfl ?_
  refine ev_iconst 0 dX7_copyFrom_9 (by decide) ?_
  refine ev_bipush 80 dX7_copyFrom_10 (by decide) ?_
  obtain ⟨c1, hB⟩ := ck_of hB
  refine es_copy dX7_copyFrom_12 w_807 j_nat j_sta j_ini (tr_7_0 hl1) (tr_7_0 hl0) c1 (Nat.le_of_ble_eq_true rfl) (am_fit.of (by decide)) ?_
  obtain rfl := Option.some.inj hB
  exact ev_vret dX7_copyFrom_15 rfl (Nat.zero_le _) (Nat.zero_le _) (fun z => absurd z (hp_sealed _)) ⟨rfl, rfl⟩
def f_J6_bitCount_0f7a4 (N : Nat) (l0 : Int32) (S : am_S) : Option (Int32 × am_S) := some (((((((((l0 - ((jushr l0 1) &&& 1431655765)) &&& 858993459) + ((jushr (l0 - ((jushr l0 1) &&& 1431655765)) 2) &&& 858993459)) + (jushr (((l0 - ((jushr l0 1) &&& 1431655765)) &&& 858993459) + ((jushr (l0 - ((jushr l0 1) &&& 1431655765)) 2) &&& 858993459)) 4)) &&& 252645135) + (jushr (((((l0 - ((jushr l0 1) &&& 1431655765)) &&& 858993459) + ((jushr (l0 - ((jushr l0 1) &&& 1431655765)) 2) &&& 858993459)) + (jushr (((l0 - ((jushr l0 1) &&& 1431655765)) &&& 858993459) + ((jushr (l0 - ((jushr l0 1) &&& 1431655765)) 2) &&& 858993459)) 4)) &&& 252645135) 8)) + (jushr ((((((l0 - ((jushr l0 1) &&& 1431655765)) &&& 858993459) + ((jushr (l0 - ((jushr l0 1) &&& 1431655765)) 2) &&& 858993459)) + (jushr (((l0 - ((jushr l0 1) &&& 1431655765)) &&& 858993459) + ((jushr (l0 - ((jushr l0 1) &&& 1431655765)) 2) &&& 858993459)) 4)) &&& 252645135) + (jushr (((((l0 - ((jushr l0 1) &&& 1431655765)) &&& 858993459) + ((jushr (l0 - ((jushr l0 1) &&& 1431655765)) 2) &&& 858993459)) + (jushr (((l0 - ((jushr l0 1) &&& 1431655765)) &&& 858993459) + ((jushr (l0 - ((jushr l0 1) &&& 1431655765)) 2) &&& 858993459)) 4)) &&& 252645135) 8)) 16)) &&& 63), S)
theorem t_J6_bitCount_0f7a4 {G : am_G} {N : Nat} {l0 : Int32} {S : am_S} {out : Int32 × am_S} (hB : f_J6_bitCount_0f7a4 N l0 S = some out) : am_Met G 1 mJ6_bitCount_0f7a4 0 0 [.int l0] (hp S) (q_i out) q_n := by
  refine am_ofF (by decide +kernel) rfl rfl rfl (Nat.le_of_ble_eq_true rfl) ?_
  unfold f_J6_bitCount_0f7a4 at hB
  refine ev_iload_n dJ6_bitCount_0f7a4_0 rfl ?_
  refine ev_iload_n dJ6_bitCount_0f7a4_1 rfl ?_
  refine ev_iconst 1 dJ6_bitCount_0f7a4_2 (by decide) ?_
  refine ev_iushr dJ6_bitCount_0f7a4_3 ?_
  refine ev_ldcw (v := 1431655765) dJ6_bitCount_0f7a4_4 w_1295 ?_
  refine ev_iand dJ6_bitCount_0f7a4_7 ?_
  refine ev_isub dJ6_bitCount_0f7a4_8 ?_
  refine ev_istore_n dJ6_bitCount_0f7a4_9 (by decide) rfl ?_
  refine ev_iload_n dJ6_bitCount_0f7a4_10 rfl ?_
  refine ev_ldcw (v := 858993459) dJ6_bitCount_0f7a4_11 w_1296 ?_
  refine ev_iand dJ6_bitCount_0f7a4_14 ?_
  refine ev_iload_n dJ6_bitCount_0f7a4_15 rfl ?_
  refine ev_iconst 2 dJ6_bitCount_0f7a4_16 (by decide) ?_
  refine ev_iushr dJ6_bitCount_0f7a4_17 ?_
  refine ev_ldcw (v := 858993459) dJ6_bitCount_0f7a4_18 w_1296 ?_
  refine ev_iand dJ6_bitCount_0f7a4_21 ?_
  refine ev_iadd dJ6_bitCount_0f7a4_22 ?_
  refine ev_istore_n dJ6_bitCount_0f7a4_23 (by decide) rfl ?_
  refine ev_iload_n dJ6_bitCount_0f7a4_24 rfl ?_
  refine ev_iload_n dJ6_bitCount_0f7a4_25 rfl ?_
  refine ev_iconst 4 dJ6_bitCount_0f7a4_26 (by decide) ?_
  refine ev_iushr dJ6_bitCount_0f7a4_27 ?_
  refine ev_iadd dJ6_bitCount_0f7a4_28 ?_
  refine ev_ldcw (v := 252645135) dJ6_bitCount_0f7a4_29 w_1297 ?_
  refine ev_iand dJ6_bitCount_0f7a4_32 ?_
  refine ev_istore_n dJ6_bitCount_0f7a4_33 (by decide) rfl ?_
  refine ev_iload_n dJ6_bitCount_0f7a4_34 rfl ?_
  refine ev_iload_n dJ6_bitCount_0f7a4_35 rfl ?_
  refine ev_bipush 8 dJ6_bitCount_0f7a4_36 (by decide) ?_
  refine ev_iushr dJ6_bitCount_0f7a4_38 ?_
  refine ev_iadd dJ6_bitCount_0f7a4_39 ?_
  refine ev_istore_n dJ6_bitCount_0f7a4_40 (by decide) rfl ?_
  refine ev_iload_n dJ6_bitCount_0f7a4_41 rfl ?_
  refine ev_iload_n dJ6_bitCount_0f7a4_42 rfl ?_
  refine ev_bipush 16 dJ6_bitCount_0f7a4_43 (by decide) ?_
  refine ev_iushr dJ6_bitCount_0f7a4_45 ?_
  refine ev_iadd dJ6_bitCount_0f7a4_46 ?_
  refine ev_istore_n dJ6_bitCount_0f7a4_47 (by decide) rfl ?_
  refine ev_iload_n dJ6_bitCount_0f7a4_48 rfl ?_
  refine ev_bipush 63 dJ6_bitCount_0f7a4_49 (by decide) ?_
  refine ev_iand dJ6_bitCount_0f7a4_51 ?_
  obtain rfl := Option.some.inj hB
  exact ev_iret dJ6_bitCount_0f7a4_52 rfl (Nat.zero_le _) (Nat.zero_le _) (fun z => absurd z (hp_sealed _)) ⟨rfl, rfl⟩
def b_X7_isLike_2 (N : Nat) : Nat → Nat → Nat → Int32 → am_S → Option (Int32 × am_S)
  | 0, _, _, _, _ => none
  | n + 1, l0, l1, l2, S => (if 80 ≤ l2 then some (1, S) else (if inb l2 (ln (rf l0 0)) = true then (if inb l2 (ln (rf l1 0)) = true then (if (sg S (rf l0 0) (Int32.toNatClampNeg l2)) = (sg S (rf l1 0) (Int32.toNatClampNeg l2)) then b_X7_isLike_2 N n l0 l1 (l2 + 1) S else some (0, S)) else none) else none))
def f_X7_isLike (N : Nat) (l0 : Nat) (l1 : Nat) (S : am_S) : Option (Int32 × am_S) := b_X7_isLike_2 N N l0 l1 0 S
theorem u_X7_isLike_2 {G : am_G} {N : Nat} {h0 : am_H} {out : Int32 × am_S} : ∀ (n : Nat) (l0 : Nat) (l1 : Nat) (l2 : Int32) (S : am_S), isC 7 l0 = true → isC 7 l1 = true → b_X7_isLike_2 N n l0 l1 l2 S = some out → Ev G (am_R 1 0 0) (am_Φ G h0 0 0 (q_i out) q_n) mX7_isLike 0 0 2 [some (.ref l0), some (.ref l1), some (.int l2)] [] (hp S) := by
  intro n
  induction n with
  | zero =>
    intro l0 l1 l2 S hl0 hl1 hB
    exact absurd (show none = some out from hB) (fun q => by cases q)
  | succ n ih =>
    intro l0 l1 l2 S hl0 hl1 hB
    unfold b_X7_isLike_2 at hB
    refine ev_iload_n dX7_isLike_2 rfl ?_
    refine ev_bipush 80 dX7_isLike_3 (by decide) ?_
    refine ev_icmpge 31 dX7_isLike_5 (by decide) (fun q1 => ?_) (fun q1 => ?_)
    · rw [if_pos q1] at hB
      refine ev_iconst 1 dX7_isLike_31 (by decide) ?_
      obtain rfl := Option.some.inj hB
      exact ev_zret dX7_isLike_32 rfl (by rfl) (Nat.zero_le _) (Nat.zero_le _) (fun z => absurd z (hp_sealed _)) ⟨rfl, rfl⟩
    · rw [if_neg q1] at hB
      refine ev_aload_n dX7_isLike_8 rfl ?_
      refine es_getr k_7 0 dX7_isLike_9 (by decide) rfl (Or.inl w_511) hl0 rfl ?_
      refine ev_iload_n dX7_isLike_12 rfl ?_
      obtain ⟨c2, hB⟩ := ck_of hB
      refine es_iald dX7_isLike_13 (tr_7_0 hl0) c2 ?_
      refine ev_aload_n dX7_isLike_14 rfl ?_
      refine es_getr k_7 0 dX7_isLike_15 (by decide) rfl (Or.inl w_511) hl1 rfl ?_
      refine ev_iload_n dX7_isLike_18 rfl ?_
      obtain ⟨c3, hB⟩ := ck_of hB
      refine es_iald dX7_isLike_19 (tr_7_0 hl1) c3 ?_
      refine ev_icmpeq 25 dX7_isLike_20 (by decide) (fun q4 => ?_) (fun q4 => ?_)
      · rw [if_pos q4] at hB
        refine es_iinc 1 dX7_isLike_25 rfl (by decide) (by decide) rfl ?_
        refine ev_goto 2 dX7_isLike_28 (by decide) ?_
        exact ev_ls (ih l0 l1 (l2 + 1) S hl0 hl1 hB) (And.intro rfl (And.intro rfl (And.intro rfl trivial)))
      · rw [if_neg q4] at hB
        refine ev_iconst 0 dX7_isLike_23 (by decide) ?_
        obtain rfl := Option.some.inj hB
        exact ev_zret dX7_isLike_24 rfl (by rfl) (Nat.zero_le _) (Nat.zero_le _) (fun z => absurd z (hp_sealed _)) ⟨rfl, rfl⟩
theorem t_X7_isLike {G : am_G} {N : Nat} {l0 : Nat} {l1 : Nat} {S : am_S} {out : Int32 × am_S} (hl0 : isC 7 l0 = true) (hl1 : isC 7 l1 = true) (hB : f_X7_isLike N l0 l1 S = some out) : am_Met G 1 mX7_isLike 0 0 [.ref l0, .ref l1] (hp S) (q_i out) q_n := by
  refine am_of (by decide +kernel) rfl rfl rfl (Nat.le_of_ble_eq_true rfl) ?_
  unfold f_X7_isLike at hB
  refine ev_iconst 0 dX7_isLike_0 (by decide) ?_
  refine ev_istore_n dX7_isLike_1 (by decide) rfl ?_
  exact ev_ls (u_X7_isLike_2 N l0 l1 0 S hl0 hl1 hB) (And.intro rfl (And.intro rfl (And.intro rfl trivial)))
def f_X7_regretOfAll (N : Nat) (l0 : Nat) (S : am_S) : Option (Int32 × am_S) := (bd (f_X7_sumOf N l0 8 8 S) (fun r1 S2 => some (r1, S2)))
theorem t_X7_regretOfAll {G : am_G} {N : Nat} {l0 : Nat} {S : am_S} {out : Int32 × am_S} (hl0 : isC 7 l0 = true) (hB : f_X7_regretOfAll N l0 S = some out) : am_Met G 2 mX7_regretOfAll 0 0 [.ref l0] (hp S) (q_i out) q_n := by
  refine am_of (by decide +kernel) rfl rfl rfl (Nat.le_of_ble_eq_true rfl) ?_
  unfold f_X7_regretOfAll at hB
  refine ev_aload_n dX7_regretOfAll_0 rfl ?_
  refine ev_bipush 8 dX7_regretOfAll_1 (by decide) ?_
  refine ev_bipush 8 dX7_regretOfAll_3 (by decide) ?_
  obtain ⟨r1, S2, e3, hB⟩ := bd_of hB
  refine es_callVi (As := [.int 8, .int 8]) (t_X7_sumOf hl0 e3) dX7_regretOfAll_5 oX7_sumOf w_706 rfl hl0 rfl rfl (Nat.le_of_ble_eq_true rfl) rfl (am_fit.of (by decide)) ⟨Nat.zero_le _, Nat.zero_le _⟩ ?_
  obtain rfl := Option.some.inj hB
  exact ev_iret dX7_regretOfAll_8 rfl (Nat.zero_le _) (Nat.zero_le _) (fun z => absurd z (hp_sealed _)) ⟨rfl, rfl⟩
def f_X7_redOfAll (N : Nat) (l0 : Nat) (S : am_S) : Option (Int32 × am_S) := (bd (f_X7_sumOf N l0 2 6 S) (fun r1 S2 => some (r1, S2)))
theorem t_X7_redOfAll {G : am_G} {N : Nat} {l0 : Nat} {S : am_S} {out : Int32 × am_S} (hl0 : isC 7 l0 = true) (hB : f_X7_redOfAll N l0 S = some out) : am_Met G 2 mX7_redOfAll 0 0 [.ref l0] (hp S) (q_i out) q_n := by
  refine am_of (by decide +kernel) rfl rfl rfl (Nat.le_of_ble_eq_true rfl) ?_
  unfold f_X7_redOfAll at hB
  refine ev_aload_n dX7_redOfAll_0 rfl ?_
  refine ev_iconst 2 dX7_redOfAll_1 (by decide) ?_
  refine ev_bipush 6 dX7_redOfAll_2 (by decide) ?_
  obtain ⟨r1, S2, e3, hB⟩ := bd_of hB
  refine es_callVi (As := [.int 2, .int 6]) (t_X7_sumOf hl0 e3) dX7_redOfAll_4 oX7_sumOf w_706 rfl hl0 rfl rfl (Nat.le_of_ble_eq_true rfl) rfl (am_fit.of (by decide)) ⟨Nat.zero_le _, Nat.zero_le _⟩ ?_
  obtain rfl := Option.some.inj hB
  exact ev_iret dX7_redOfAll_7 rfl (Nat.zero_le _) (Nat.zero_le _) (fun z => absurd z (hp_sealed _)) ⟨rfl, rfl⟩
