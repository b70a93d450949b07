def f_X1_clearAll (N : Nat) (l0 : Nat) (S : am_S) : Option (am_S) := (bv (f_J7_fill_53178 N (rf l0 2) 0 (sp (sp (sp (sp S l0 0 0) l0 3 0) l0 8 0) l0 10 0)) (fun S2 => (bv (f_J7_fill_53178 N (rf l0 6) (-1) S2) (fun S5 => (bv (f_X5_clearAll N (rf l0 12) S5) (fun S8 => (bv (f_X5_clearAll N (rf l0 13) S8) (fun S11 => some S11))))))))
theorem t_X1_clearAll {G : am_G} {N : Nat} {l0 : Nat} {S : am_S} {out : am_S} (hl0 : isC 1 l0 = true) (hB : f_X1_clearAll N l0 S = some out) : am_Met G 2 mX1_clearAll 0 0 [.ref l0] (hp S) (q_v out) q_n := by
  refine am_of (by decide +kernel) rfl rfl rfl (Nat.le_of_ble_eq_true rfl) ?_
  unfold f_X1_clearAll at hB
  refine ev_aload_n dX1_clearAll_0 rfl ?_
  refine ev_iconst 0 dX1_clearAll_1 (by decide) ?_
  refine es_puti k_1 0 dX1_clearAll_2 (by decide) rfl (Or.inl w_133) rfl rfl hl0 rfl ?_
  refine ev_aload_n dX1_clearAll_5 rfl ?_
  refine ev_iconst 0 dX1_clearAll_6 (by decide) ?_
  refine es_puti k_1 3 dX1_clearAll_7 (by decide) rfl (Or.inl w_141) rfl rfl hl0 rfl ?_
  refine ev_aload_n dX1_clearAll_10 rfl ?_
  refine ev_iconst 0 dX1_clearAll_11 (by decide) ?_
  refine es_puti k_1 8 dX1_clearAll_12 (by decide) rfl (Or.inl w_152) rfl rfl hl0 rfl ?_
  refine ev_aload_n dX1_clearAll_15 rfl ?_
  refine ev_iconst 0 dX1_clearAll_16 (by decide) ?_
  refine es_puti k_1 10 dX1_clearAll_17 (by decide) rfl (Or.inl w_155) rfl rfl hl0 rfl ?_
  refine ev_aload_n dX1_clearAll_20 rfl ?_
  refine es_getr k_1 2 dX1_clearAll_21 (by decide) rfl (Or.inl w_139) hl0 rfl ?_
  refine ev_iconst 0 dX1_clearAll_24 (by decide) ?_
  obtain ⟨S2, e3, hB⟩ := bv_of hB
  refine es_callSv (As := [.ref (rf l0 2), .int 0]) (t_J7_fill_53178 (tr_1_2 hl0) e3) dX1_clearAll_25 oJ7_fill_53178 w_840 rfl (Nat.le_of_ble_eq_true rfl) rfl (am_fit.of (by decide)) ⟨Nat.zero_le _, Nat.zero_le _⟩ ?_
  refine ev_aload_n dX1_clearAll_28 rfl ?_
  refine es_getr k_1 6 dX1_clearAll_29 (by decide) rfl (Or.inl w_148) hl0 rfl ?_
  refine ev_iconst (-1) dX1_clearAll_32 (by decide) ?_
  obtain ⟨S5, e6, hB⟩ := bv_of hB
  refine es_callSv (As := [.ref (rf l0 6), .int (-1)]) (t_J7_fill_53178 (tr_1_6 hl0) e6) dX1_clearAll_33 oJ7_fill_53178 w_840 rfl (Nat.le_of_ble_eq_true rfl) rfl (am_fit.of (by decide)) ⟨Nat.zero_le _, Nat.zero_le _⟩ ?_
  refine ev_aload_n dX1_clearAll_36 rfl ?_
  refine es_getr k_1 12 dX1_clearAll_37 (by decide) rfl (Or.inl w_158) hl0 rfl ?_
  obtain ⟨S8, e9, hB⟩ := bv_of hB
  refine es_callVv (As := []) (t_X5_clearAll (tr_1_12 hl0) e9) dX1_clearAll_40 oX5_clearAll w_843 rfl (tr_1_12 hl0) rfl rfl (Nat.le_of_ble_eq_true rfl) rfl (am_fit.of (by decide)) ⟨Nat.zero_le _, Nat.zero_le _⟩ ?_
  refine ev_aload_n dX1_clearAll_43 rfl ?_
  refine es_getr k_1 13 dX1_clearAll_44 (by decide) rfl (Or.inl w_160) hl0 rfl ?_
  obtain ⟨S11, e12, hB⟩ := bv_of hB
  refine es_callVv (As := []) (t_X5_clearAll (tr_1_13 hl0) e12) dX1_clearAll_47 oX5_clearAll w_843 rfl (tr_1_13 hl0) rfl rfl (Nat.le_of_ble_eq_true rfl) rfl (am_fit.of (by decide)) ⟨Nat.zero_le _, Nat.zero_le _⟩ ?_
  obtain rfl := Option.some.inj hB
  exact ev_vret dX1_clearAll_50 rfl (Nat.zero_le _) (Nat.zero_le _) (fun z => absurd z (hp_sealed _)) ⟨rfl, rfl⟩
def b_X1_addBox_39 (N : Nat)  (S : am_S) : Option (am_S) := some S
def f_X1_addBox (N : Nat) (l0 : Nat) (l1 : Int32) (l2 : Int32) (S : am_S) : Option (am_S) := (if 6 ≤ (sg S l0 0) then b_X1_addBox_39 N S else (if inb (sg S l0 0) (ln (rf l0 1)) = true then (if inb (sg (sp S (rf l0 1) (Int32.toNatClampNeg (sg S l0 0)) l1) l0 0) (ln (rf l0 2)) = true then b_X1_addBox_39 N (sp (sp (sp S (rf l0 1) (Int32.toNatClampNeg (sg S l0 0)) l1) (rf l0 2) (Int32.toNatClampNeg (sg (sp S (rf l0 1) (Int32.toNatClampNeg (sg S l0 0)) l1) l0 0)) l2) l0 0 ((sg (sp (sp S (rf l0 1) (Int32.toNatClampNeg (sg S l0 0)) l1) (rf l0 2) (Int32.toNatClampNeg (sg (sp S (rf l0 1) (Int32.toNatClampNeg (sg S l0 0)) l1) l0 0)) l2) l0 0) + 1)) else none) else none))
theorem u_X1_addBox_39 {G : am_G} {N : Nat} {h0 : am_H} {out : am_S}  (S : am_S) (hB : b_X1_addBox_39 N  S = some out) : Ev G (am_R 1 0 0) (am_Φ G h0 0 0 (q_v out) q_n) mX1_addBox 0 0 39 [none, none, none] [] (hp S) := by
  unfold b_X1_addBox_39 at hB
  obtain rfl := Option.some.inj hB
  exact ev_vret dX1_addBox_39 rfl (Nat.zero_le _) (Nat.zero_le _) (fun z => absurd z (hp_sealed _)) ⟨rfl, rfl⟩
theorem t_X1_addBox {G : am_G} {N : Nat} {l0 : Nat} {l1 : Int32} {l2 : Int32} {S : am_S} {out : am_S} (hl0 : isC 1 l0 = true) (hB : f_X1_addBox N l0 l1 l2 S = some out) : am_Met G 1 mX1_addBox 0 0 [.ref l0, .int l1, .int l2] (hp S) (q_v out) q_n := by
  refine am_of (by decide +kernel) rfl rfl rfl (Nat.le_of_ble_eq_true rfl) ?_
  unfold f_X1_addBox at hB
  refine ev_aload_n dX1_addBox_0 rfl ?_
  refine es_geti k_1 0 dX1_addBox_1 (by decide) rfl (Or.inl w_133) hl0 rfl ?_
  refine ev_bipush 6 dX1_addBox_4 (by decide) ?_
  refine ev_icmpge 39 dX1_addBox_6 (by decide) (fun q1 => ?_) (fun q1 => ?_)
  · rw [if_pos q1] at hB
    exact ev_ls (u_X1_addBox_39 S hB) trivial
  · rw [if_neg q1] at hB
    refine ev_aload_n dX1_addBox_9 rfl ?_
    refine es_getr k_1 1 dX1_addBox_10 (by decide) rfl (Or.inl w_137) hl0 rfl ?_
    refine ev_aload_n dX1_addBox_13 rfl ?_
    refine es_geti k_1 0 dX1_addBox_14 (by decide) rfl (Or.inl w_133) hl0 rfl ?_
    refine ev_iload_n dX1_addBox_17 rfl ?_
    obtain ⟨c2, hB⟩ := ck_of hB
    refine es_iast dX1_addBox_18 (tr_1_1 hl0) c2 ?_
    refine ev_aload_n dX1_addBox_19 rfl ?_
    refine es_getr k_1 2 dX1_addBox_20 (by decide) rfl (Or.inl w_139) hl0 rfl ?_
    refine ev_aload_n dX1_addBox_23 rfl ?_
    refine es_geti k_1 0 dX1_addBox_24 (by decide) rfl (Or.inl w_133) hl0 rfl ?_
    refine ev_iload_n dX1_addBox_27 rfl ?_
    obtain ⟨c3, hB⟩ := ck_of hB
    refine es_iast dX1_addBox_28 (tr_1_2 hl0) c3 ?_
    refine ev_aload_n dX1_addBox_29 rfl ?_
    refine ev_dup dX1_addBox_30 rfl ?_
    refine es_geti k_1 0 dX1_addBox_31 (by decide) rfl (Or.inl w_133) hl0 rfl ?_
    refine ev_iconst 1 dX1_addBox_34 (by decide) ?_
    refine ev_iadd dX1_addBox_35 ?_
    refine es_puti k_1 0 dX1_addBox_36 (by decide) rfl (Or.inl w_133) rfl rfl hl0 rfl ?_
    exact ev_ls (u_X1_addBox_39 (sp (sp (sp S (rf l0 1) (Int32.toNatClampNeg (sg S l0 0)) l1) (rf l0 2) (Int32.toNatClampNeg (sg (sp S (rf l0 1) (Int32.toNatClampNeg (sg S l0 0)) l1) l0 0)) l2) l0 0 ((sg (sp (sp S (rf l0 1) (Int32.toNatClampNeg (sg S l0 0)) l1) (rf l0 2) (Int32.toNatClampNeg (sg (sp S (rf l0 1) (Int32.toNatClampNeg (sg S l0 0)) l1) l0 0)) l2) l0 0) + 1)) hB) trivial
def b_X2_readBox_60 (N : Nat)  (S : am_S) : Option (am_S) := some S
def b_X2_readBox_17 (N : Nat) (l0 : Nat) (l1 : Nat) (S : am_S) : Option (am_S) := (bv (f_X8_step N (rf l0 0) S) (fun S2 => (bd (f_X8_takeNumber N (rf l0 0) 30 S2) (fun r4 S5 => (bd (f_X8_takeNumber N (rf l0 0) 99 S5) (fun r7 S8 => (bd (f_X8_isFine N (rf l0 0) S8) (fun r10 S11 => (if r10 = 0 then b_X2_readBox_60 N S11 else (bv (f_X1_addBox N l1 r4 r7 S11) (fun S15 => b_X2_readBox_60 N S15)))))))))))
def f_X2_readBox (N : Nat) (l0 : Nat) (l1 : Nat) (S : am_S) : Option (am_S) := (if (sg S l1 0) < 6 then b_X2_readBox_17 N l0 l1 S else (bv (f_X8_fail N (rf l0 0) 2 S) (fun S3 => b_X2_readBox_17 N l0 l1 S3)))
theorem u_X2_readBox_60 {G : am_G} {N : Nat} {h0 : am_H} {out : am_S}  (S : am_S) (hB : b_X2_readBox_60 N  S = some out) : Ev G (am_R 4 0 0) (am_Φ G h0 0 0 (q_v out) q_n) mX2_readBox 0 0 60 [none, none, none, none] [] (hp S) := by
  unfold b_X2_readBox_60 at hB
  obtain rfl := Option.some.inj hB
  exact ev_vret dX2_readBox_60 rfl (Nat.zero_le _) (Nat.zero_le _) (fun z => absurd z (hp_sealed _)) ⟨rfl, rfl⟩
theorem u_X2_readBox_17 {G : am_G} {N : Nat} {h0 : am_H} {out : am_S} (l0 : Nat) (l1 : Nat) (S : am_S) (hl0 : isC 2 l0 = true) (hl1 : isC 1 l1 = true) (hB : b_X2_readBox_17 N l0 l1 S = some out) : Ev G (am_R 4 0 0) (am_Φ G h0 0 0 (q_v out) q_n) mX2_readBox 0 0 17 [some (.ref l0), some (.ref l1), none, none] [] (hp S) := by
  unfold b_X2_readBox_17 at hB
  refine ev_aload_n dX2_readBox_17 rfl ?_
  refine es_getr k_2 0 dX2_readBox_18 (by decide) rfl (Or.inl w_104) hl0 rfl ?_
  obtain ⟨S2, e3, hB⟩ := bv_of hB
  refine es_callVv (As := []) (t_X8_step (tr_2_0 hl0) e3) dX2_readBox_21 oX8_step w_909 rfl (tr_2_0 hl0) rfl rfl (Nat.le_of_ble_eq_true rfl) rfl (am_fit.of (by decide)) ⟨Nat.zero_le _, Nat.zero_le _⟩ ?_
  refine ev_aload_n dX2_readBox_24 rfl ?_
  refine es_getr k_2 0 dX2_readBox_25 (by decide) rfl (Or.inl w_104) hl0 rfl ?_
  refine ev_bipush 30 dX2_readBox_28 (by decide) ?_
  obtain ⟨r4, S5, e6, hB⟩ := bd_of hB
  refine es_callVi (As := [.int 30]) (t_X8_takeNumber (tr_2_0 hl0) e6) dX2_readBox_30 oX8_takeNumber w_910 rfl (tr_2_0 hl0) rfl rfl (Nat.le_of_ble_eq_true rfl) rfl (am_fit.of (by decide)) ⟨Nat.zero_le _, Nat.zero_le _⟩ ?_
  refine ev_istore_n dX2_readBox_33 (by decide) rfl ?_
  refine ev_aload_n dX2_readBox_34 rfl ?_
  refine es_getr k_2 0 dX2_readBox_35 (by decide) rfl (Or.inl w_104) hl0 rfl ?_
  refine ev_bipush 99 dX2_readBox_38 (by decide) ?_
  obtain ⟨r7, S8, e9, hB⟩ := bd_of hB
  refine es_callVi (As := [.int 99]) (t_X8_takeNumber (tr_2_0 hl0) e9) dX2_readBox_40 oX8_takeNumber w_910 rfl (tr_2_0 hl0) rfl rfl (Nat.le_of_ble_eq_true rfl) rfl (am_fit.of (by decide)) ⟨Nat.zero_le _, Nat.zero_le _⟩ ?_
  refine ev_istore_n dX2_readBox_43 (by decide) rfl ?_
  refine ev_aload_n dX2_readBox_44 rfl ?_
  refine es_getr k_2 0 dX2_readBox_45 (by decide) rfl (Or.inl w_104) hl0 rfl ?_
  obtain ⟨r10, S11, e12, hB⟩ := bd_of hB
  refine es_callVi (As := []) (t_X8_isFine (tr_2_0 hl0) e12) dX2_readBox_48 oX8_isFine w_863 rfl (tr_2_0 hl0) rfl rfl (Nat.le_of_ble_eq_true rfl) rfl (am_fit.of (by decide)) ⟨Nat.zero_le _, Nat.zero_le _⟩ ?_
  refine ev_ifeq 60 dX2_readBox_51 (by decide) (fun q13 => ?_) (fun q13 => ?_)
  · rw [if_pos q13] at hB
    exact ev_ls (u_X2_readBox_60 S11 hB) trivial
  · rw [if_neg q13] at hB
    refine ev_aload_n dX2_readBox_54 rfl ?_
    refine ev_iload_n dX2_readBox_55 rfl ?_
    refine ev_iload_n dX2_readBox_56 rfl ?_
    obtain ⟨S15, e16, hB⟩ := bv_of hB
    refine es_callVv (As := [.int r4, .int r7]) (t_X1_addBox hl1 e16) dX2_readBox_57 oX1_addBox w_915 rfl hl1 rfl rfl (Nat.le_of_ble_eq_true rfl) rfl (am_fit.of (by decide)) ⟨Nat.zero_le _, Nat.zero_le _⟩ ?_
    exact ev_ls (u_X2_readBox_60 S15 hB) trivial
theorem t_X2_readBox {G : am_G} {N : Nat} {l0 : Nat} {l1 : Nat} {S : am_S} {out : am_S} (hl0 : isC 2 l0 = true) (hl1 : isC 1 l1 = true) (hB : f_X2_readBox N l0 l1 S = some out) : am_Met G 4 mX2_readBox 0 0 [.ref l0, .ref l1] (hp S) (q_v out) q_n := by
  refine am_of (by decide +kernel) rfl rfl rfl (Nat.le_of_ble_eq_true rfl) ?_
  unfold f_X2_readBox at hB
  refine ev_aload_n dX2_readBox_0 rfl ?_
  refine es_geti k_1 0 dX2_readBox_1 (by decide) rfl (Or.inr ⟨_, n_134⟩) hl1 rfl ?_
  refine ev_bipush 6 dX2_readBox_4 (by decide) ?_
  refine ev_icmplt 17 dX2_readBox_6 (by decide) (fun q1 => ?_) (fun q1 => ?_)
  · rw [if_pos q1] at hB
    exact ev_ls (u_X2_readBox_17 l0 l1 S hl0 hl1 hB) (And.intro rfl (And.intro rfl trivial))
  · rw [if_neg q1] at hB
    refine ev_aload_n dX2_readBox_9 rfl ?_
    refine es_getr k_2 0 dX2_readBox_10 (by decide) rfl (Or.inl w_104) hl0 rfl ?_
    refine ev_iconst 2 dX2_readBox_13 (by decide) ?_
    obtain ⟨S3, e4, hB⟩ := bv_of hB
    refine es_callVv (As := [.int 2]) (t_X8_fail (tr_2_0 hl0) e4) dX2_readBox_14 oX8_fail w_905 rfl (tr_2_0 hl0) rfl rfl (Nat.le_of_ble_eq_true rfl) rfl (am_fit.of (by decide)) ⟨Nat.zero_le _, Nat.zero_le _⟩ ?_
    exact ev_ls (u_X2_readBox_17 l0 l1 S3 hl0 hl1 hB) (And.intro rfl (And.intro rfl trivial))
def b_X2_readAt_37 (N : Nat) (l0 : Nat) (S : am_S) : Option (Int32 × am_S) := (bd (f_X8_takeNumber N (rf l0 0) 7 S) (fun r1 S2 => some (r1, S2)))
def f_X2_readAt (N : Nat) (l0 : Nat) (l1 : Int32) (S : am_S) : Option (Int32 × am_S) := (bv (f_X8_step N (rf l0 0) S) (fun S2 => (if (sg S2 (rf l0 0) 4) = 3 then (if (sg S2 (rf l0 0) 5) = l1 then (bv (f_X8_fail N (rf l0 0) 4 S2) (fun S7 => b_X2_readAt_37 N l0 S7)) else b_X2_readAt_37 N l0 S2) else b_X2_readAt_37 N l0 S2)))
theorem u_X2_readAt_37 {G : am_G} {N : Nat} {h0 : am_H} {out : Int32 × am_S} (l0 : Nat) (S : am_S) (hl0 : isC 2 l0 = true) (hB : b_X2_readAt_37 N l0 S = some out) : Ev G (am_R 4 0 0) (am_Φ G h0 0 0 (q_i out) q_n) mX2_readAt 0 0 37 [some (.ref l0), none] [] (hp S) := by
  unfold b_X2_readAt_37 at hB
  refine ev_aload_n dX2_readAt_37 rfl ?_
  refine es_getr k_2 0 dX2_readAt_38 (by decide) rfl (Or.inl w_104) hl0 rfl ?_
  refine ev_bipush 7 dX2_readAt_41 (by decide) ?_
  obtain ⟨r1, S2, e3, hB⟩ := bd_of hB
  refine es_callVi (As := [.int 7]) (t_X8_takeNumber (tr_2_0 hl0) e3) dX2_readAt_43 oX8_takeNumber w_910 rfl (tr_2_0 hl0) rfl rfl (Nat.le_of_ble_eq_true rfl) rfl (am_fit.of (by decide)) ⟨Nat.zero_le _, Nat.zero_le _⟩ ?_
  obtain rfl := Option.some.inj hB
  exact ev_iret dX2_readAt_46 rfl (Nat.zero_le _) (Nat.zero_le _) (fun z => absurd z (hp_sealed _)) ⟨rfl, rfl⟩
theorem t_X2_readAt {G : am_G} {N : Nat} {l0 : Nat} {l1 : Int32} {S : am_S} {out : Int32 × am_S} (hl0 : isC 2 l0 = true) (hB : f_X2_readAt N l0 l1 S = some out) : am_Met G 4 mX2_readAt 0 0 [.ref l0, .int l1] (hp S) (q_i out) q_n := by
  refine am_of (by decide +kernel) rfl rfl rfl (Nat.le_of_ble_eq_true rfl) ?_
  unfold f_X2_readAt at hB
  refine ev_aload_n dX2_readAt_0 rfl ?_
  refine es_getr k_2 0 dX2_readAt_1 (by decide) rfl (Or.inl w_104) hl0 rfl ?_
  obtain ⟨S2, e3, hB⟩ := bv_of hB
  refine es_callVv (As := []) (t_X8_step (tr_2_0 hl0) e3) dX2_readAt_4 oX8_step w_909 rfl (tr_2_0 hl0) rfl rfl (Nat.le_of_ble_eq_true rfl) rfl (am_fit.of (by decide)) ⟨Nat.zero_le _, Nat.zero_le _⟩ ?_
  refine ev_aload_n dX2_readAt_7 rfl ?_
  refine es_getr k_2 0 dX2_readAt_8 (by decide) rfl (Or.inl w_104) hl0 rfl ?_
  refine es_geti k_8 4 dX2_readAt_11 (by decide) rfl (Or.inr ⟨_, n_55⟩) (tr_2_0 hl0) rfl ?_
  refine ev_iconst 3 dX2_readAt_14 (by decide) ?_
  refine ev_icmpne 37 dX2_readAt_15 (by decide) (fun q4 => ?_) (fun q4 => ?_)
  · rw [if_neg q4] at hB
    exact ev_ls (u_X2_readAt_37 l0 S2 hl0 hB) (And.intro rfl trivial)
  · rw [if_pos q4] at hB
    refine ev_aload_n dX2_readAt_18 rfl ?_
    refine es_getr k_2 0 dX2_readAt_19 (by decide) rfl (Or.inl w_104) hl0 rfl ?_
    refine es_geti k_8 5 dX2_readAt_22 (by decide) rfl (Or.inr ⟨_, n_59⟩) (tr_2_0 hl0) rfl ?_
    refine ev_iload_n dX2_readAt_25 rfl ?_
    refine ev_icmpne 37 dX2_readAt_26 (by decide) (fun q5 => ?_) (fun q5 => ?_)
    · rw [if_neg q5] at hB
      exact ev_ls (u_X2_readAt_37 l0 S2 hl0 hB) (And.intro rfl trivial)
    · rw [if_pos q5] at hB
      refine ev_aload_n dX2_readAt_29 rfl ?_
      refine es_getr k_2 0 dX2_readAt_30 (by decide) rfl (Or.inl w_104) hl0 rfl ?_
      refine ev_iconst 4 dX2_readAt_33 (by decide) ?_
      obtain ⟨S7, e8, hB⟩ := bv_of hB
      refine es_callVv (As := [.int 4]) (t_X8_fail (tr_2_0 hl0) e8) dX2_readAt_34 oX8_fail w_905 rfl (tr_2_0 hl0) rfl rfl (Nat.le_of_ble_eq_true rfl) rfl (am_fit.of (by decide)) ⟨Nat.zero_le _, Nat.zero_le _⟩ ?_
      exact ev_ls (u_X2_readAt_37 l0 S7 hl0 hB) (And.intro rfl trivial)
def b_X1_addPerson_49 (N : Nat)  (S : am_S) : Option (am_S) := some S
def f_X1_addPerson (N : Nat) (l0 : Nat) (l1 : Int32) (l2 : Int32) (l3 : Int32) (S : am_S) : Option (am_S) := (if 8 ≤ (sg S l0 3) then b_X1_addPerson_49 N S else (if inb (sg S l0 3) (ln (rf l0 4)) = true then (if inb (sg (sp S (rf l0 4) (Int32.toNatClampNeg (sg S l0 3)) l1) l0 3) (ln (rf l0 5)) = true then (if inb (sg (sp (sp S (rf l0 4) (Int32.toNatClampNeg (sg S l0 3)) l1) (rf l0 5) (Int32.toNatClampNeg (sg (sp S (rf l0 4) (Int32.toNatClampNeg (sg S l0 3)) l1) l0 3)) l2) l0 3) (ln (rf l0 6)) = true then b_X1_addPerson_49 N (sp (sp (sp (sp S (rf l0 4) (Int32.toNatClampNeg (sg S l0 3)) l1) (rf l0 5) (Int32.toNatClampNeg (sg (sp S (rf l0 4) (Int32.toNatClampNeg (sg S l0 3)) l1) l0 3)) l2) (rf l0 6) (Int32.toNatClampNeg (sg (sp (sp S (rf l0 4) (Int32.toNatClampNeg (sg S l0 3)) l1) (rf l0 5) (Int32.toNatClampNeg (sg (sp S (rf l0 4) (Int32.toNatClampNeg (sg S l0 3)) l1) l0 3)) l2) l0 3)) l3) l0 3 ((sg (sp (sp (sp S (rf l0 4) (Int32.toNatClampNeg (sg S l0 3)) l1) (rf l0 5) (Int32.toNatClampNeg (sg (sp S (rf l0 4) (Int32.toNatClampNeg (sg S l0 3)) l1) l0 3)) l2) (rf l0 6) (Int32.toNatClampNeg (sg (sp (sp S (rf l0 4) (Int32.toNatClampNeg (sg S l0 3)) l1) (rf l0 5) (Int32.toNatClampNeg (sg (sp S (rf l0 4) (Int32.toNatClampNeg (sg S l0 3)) l1) l0 3)) l2) l0 3)) l3) l0 3) + 1)) else none) else none) else none))
theorem u_X1_addPerson_49 {G : am_G} {N : Nat} {h0 : am_H} {out : am_S}  (S : am_S) (hB : b_X1_addPerson_49 N  S = some out) : Ev G (am_R 1 0 0) (am_Φ G h0 0 0 (q_v out) q_n) mX1_addPerson 0 0 49 [none, none, none, none] [] (hp S) := by
  unfold b_X1_addPerson_49 at hB
  obtain rfl := Option.some.inj hB
  exact ev_vret dX1_addPerson_49 rfl (Nat.zero_le _) (Nat.zero_le _) (fun z => absurd z (hp_sealed _)) ⟨rfl, rfl⟩
theorem t_X1_addPerson {G : am_G} {N : Nat} {l0 : Nat} {l1 : Int32} {l2 : Int32} {l3 : Int32} {S : am_S} {out : am_S} (hl0 : isC 1 l0 = true) (hB : f_X1_addPerson N l0 l1 l2 l3 S = some out) : am_Met G 1 mX1_addPerson 0 0 [.ref l0, .int l1, .int l2, .int l3] (hp S) (q_v out) q_n := by
  refine am_of (by decide +kernel) rfl rfl rfl (Nat.le_of_ble_eq_true rfl) ?_
  unfold f_X1_addPerson at hB
  refine ev_aload_n dX1_addPerson_0 rfl ?_
  refine es_geti k_1 3 dX1_addPerson_1 (by decide) rfl (Or.inl w_141) hl0 rfl ?_
  refine ev_bipush 8 dX1_addPerson_4 (by decide) ?_
  refine ev_icmpge 49 dX1_addPerson_6 (by decide) (fun q1 => ?_) (fun q1 => ?_)
  · rw [if_pos q1] at hB
    exact ev_ls (u_X1_addPerson_49 S hB) trivial
  · rw [if_neg q1] at hB
    refine ev_aload_n dX1_addPerson_9 rfl ?_
    refine es_getr k_1 4 dX1_addPerson_10 (by decide) rfl (Or.inl w_144) hl0 rfl ?_
    refine ev_aload_n dX1_addPerson_13 rfl ?_
    refine es_geti k_1 3 dX1_addPerson_14 (by decide) rfl (Or.inl w_141) hl0 rfl ?_
    refine ev_iload_n dX1_addPerson_17 rfl ?_
    obtain ⟨c2, hB⟩ := ck_of hB
    refine es_iast dX1_addPerson_18 (tr_1_4 hl0) c2 ?_
    refine ev_aload_n dX1_addPerson_19 rfl ?_
    refine es_getr k_1 5 dX1_addPerson_20 (by decide) rfl (Or.inl w_146) hl0 rfl ?_
    refine ev_aload_n dX1_addPerson_23 rfl ?_
    refine es_geti k_1 3 dX1_addPerson_24 (by decide) rfl (Or.inl w_141) hl0 rfl ?_
    refine ev_iload_n dX1_addPerson_27 rfl ?_
    obtain ⟨c3, hB⟩ := ck_of hB
    refine es_iast dX1_addPerson_28 (tr_1_5 hl0) c3 ?_
    refine ev_aload_n dX1_addPerson_29 rfl ?_
    refine es_getr k_1 6 dX1_addPerson_30 (by decide) rfl (Or.inl w_148) hl0 rfl ?_
    refine ev_aload_n dX1_addPerson_33 rfl ?_
    refine es_geti k_1 3 dX1_addPerson_34 (by decide) rfl (Or.inl w_141) hl0 rfl ?_
    refine ev_iload_n dX1_addPerson_37 rfl ?_
    obtain ⟨c4, hB⟩ := ck_of hB
    refine es_iast dX1_addPerson_38 (tr_1_6 hl0) c4 ?_
    refine ev_aload_n dX1_addPerson_39 rfl ?_
    refine ev_dup dX1_addPerson_40 rfl ?_
    refine es_geti k_1 3 dX1_addPerson_41 (by decide) rfl (Or.inl w_141) hl0 rfl ?_
    refine ev_iconst 1 dX1_addPerson_44 (by decide) ?_
    refine ev_iadd dX1_addPerson_45 ?_
    refine es_puti k_1 3 dX1_addPerson_46 (by decide) rfl (Or.inl w_141) rfl rfl hl0 rfl ?_
    exact ev_ls (u_X1_addPerson_49 (sp (sp (sp (sp S (rf l0 4) (Int32.toNatClampNeg (sg S l0 3)) l1) (rf l0 5) (Int32.toNatClampNeg (sg (sp S (rf l0 4) (Int32.toNatClampNeg (sg S l0 3)) l1) l0 3)) l2) (rf l0 6) (Int32.toNatClampNeg (sg (sp (sp S (rf l0 4) (Int32.toNatClampNeg (sg S l0 3)) l1) (rf l0 5) (Int32.toNatClampNeg (sg (sp S (rf l0 4) (Int32.toNatClampNeg (sg S l0 3)) l1) l0 3)) l2) l0 3)) l3) l0 3 ((sg (sp (sp (sp S (rf l0 4) (Int32.toNatClampNeg (sg S l0 3)) l1) (rf l0 5) (Int32.toNatClampNeg (sg (sp S (rf l0 4) (Int32.toNatClampNeg (sg S l0 3)) l1) l0 3)) l2) (rf l0 6) (Int32.toNatClampNeg (sg (sp (sp S (rf l0 4) (Int32.toNatClampNeg (sg S l0 3)) l1) (rf l0 5) (Int32.toNatClampNeg (sg (sp S (rf l0 4) (Int32.toNatClampNeg (sg S l0 3)) l1) l0 3)) l2) l0 3)) l3) l0 3) + 1)) hB) trivial
def b_X2_readPerson_98 (N : Nat)  (S : am_S) : Option (am_S) := some S
def b_X2_readPerson_78 (N : Nat) (l0 : Nat) (l1 : Nat) (l2 : Int32) (l3 : Int32) (z0 : Int32) (S : am_S) : Option (am_S) := (bd (f_X8_isFine N (rf l0 0) S) (fun r1 S2 => (if r1 = 0 then b_X2_readPerson_98 N S2 else (bv (f_X1_addPerson N l1 l2 l3 z0 S2) (fun S6 => b_X2_readPerson_98 N S6)))))
def b_X2_readPerson_77 (N : Nat) (l0 : Nat) (l1 : Nat) (l2 : Int32) (l3 : Int32) (S : am_S) : Option (am_S) := b_X2_readPerson_78 N l0 l1 l2 l3 (-1) S
def b_X2_readPerson_17 (N : Nat) (l0 : Nat) (l1 : Nat) (S : am_S) : Option (am_S) := (bv (f_X8_step N (rf l0 0) S) (fun S2 => (bd (f_X8_takeNumber N (rf l0 0) 30 S2) (fun r4 S5 => (bd (f_X8_takeNumber N (rf l0 0) 9 S5) (fun r7 S8 => (bd (f_X8_isFine N (rf l0 0) S8) (fun r10 S11 => (if r10 = 0 then b_X2_readPerson_77 N l0 l1 r4 r7 S11 else (bd (f_X8_isWord N (rf l0 0) 3 S11) (fun r14 S15 => (if r14 = 0 then b_X2_readPerson_77 N l0 l1 r4 r7 S15 else (bd (f_X2_readAt N l0 (sg S15 l1 3) S15) (fun r18 S19 => b_X2_readPerson_78 N l0 l1 r4 r7 r18 S19))))))))))))))
def f_X2_readPerson (N : Nat) (l0 : Nat) (l1 : Nat) (S : am_S) : Option (am_S) := (if (sg S l1 3) < 8 then b_X2_readPerson_17 N l0 l1 S else (bv (f_X8_fail N (rf l0 0) 2 S) (fun S3 => b_X2_readPerson_17 N l0 l1 S3)))
theorem u_X2_readPerson_98 {G : am_G} {N : Nat} {h0 : am_H} {out : am_S}  (S : am_S) (hB : b_X2_readPerson_98 N  S = some out) : Ev G (am_R 12 0 0) (am_Φ G h0 0 0 (q_v out) q_n) mX2_readPerson 0 0 98 [none, none, none, none, none] [] (hp S) := by
  unfold b_X2_readPerson_98 at hB
  obtain rfl := Option.some.inj hB
  exact ev_vret dX2_readPerson_98 rfl (Nat.zero_le _) (Nat.zero_le _) (fun z => absurd z (hp_sealed _)) ⟨rfl, rfl⟩
theorem u_X2_readPerson_78 {G : am_G} {N : Nat} {h0 : am_H} {out : am_S} (l0 : Nat) (l1 : Nat) (l2 : Int32) (l3 : Int32) (z0 : Int32) (S : am_S) (hl0 : isC 2 l0 = true) (hl1 : isC 1 l1 = true) (hB : b_X2_readPerson_78 N l0 l1 l2 l3 z0 S = some out) : Ev G (am_R 12 0 0) (am_Φ G h0 0 0 (q_v out) q_n) mX2_readPerson 0 0 78 [some (.ref l0), some (.ref l1), some (.int l2), some (.int l3), none] [.int z0] (hp S) := by
  unfold b_X2_readPerson_78 at hB
  refine ev_istore dX2_readPerson_78 (by decide) rfl ?_
  refine ev_aload_n dX2_readPerson_80 rfl ?_
  refine es_getr k_2 0 dX2_readPerson_81 (by decide) rfl (Or.inl w_104) hl0 rfl ?_
  obtain ⟨r1, S2, e3, hB⟩ := bd_of hB
  refine es_callVi (As := []) (t_X8_isFine (tr_2_0 hl0) e3) dX2_readPerson_84 oX8_isFine w_863 rfl (tr_2_0 hl0) rfl rfl (Nat.le_of_ble_eq_true rfl) rfl (am_fit.of (by decide)) ⟨Nat.zero_le _, Nat.zero_le _⟩ ?_
  refine ev_ifeq 98 dX2_readPerson_87 (by decide) (fun q4 => ?_) (fun q4 => ?_)
  · rw [if_pos q4] at hB
    exact ev_ls (u_X2_readPerson_98 S2 hB) trivial
  · rw [if_neg q4] at hB
    refine ev_aload_n dX2_readPerson_90 rfl ?_
    refine ev_iload_n dX2_readPerson_91 rfl ?_
    refine ev_iload_n dX2_readPerson_92 rfl ?_
    refine ev_iload dX2_readPerson_93 rfl ?_
    obtain ⟨S6, e7, hB⟩ := bv_of hB
    refine es_callVv (As := [.int l2, .int l3, .int z0]) (t_X1_addPerson hl1 e7) dX2_readPerson_95 oX1_addPerson w_929 rfl hl1 rfl rfl (Nat.le_of_ble_eq_true rfl) rfl (am_fit.of (by decide)) ⟨Nat.zero_le _, Nat.zero_le _⟩ ?_
    exact ev_ls (u_X2_readPerson_98 S6 hB) trivial
theorem u_X2_readPerson_77 {G : am_G} {N : Nat} {h0 : am_H} {out : am_S} (l0 : Nat) (l1 : Nat) (l2 : Int32) (l3 : Int32) (S : am_S) (hl0 : isC 2 l0 = true) (hl1 : isC 1 l1 = true) (hB : b_X2_readPerson_77 N l0 l1 l2 l3 S = some out) : Ev G (am_R 12 0 0) (am_Φ G h0 0 0 (q_v out) q_n) mX2_readPerson 0 0 77 [some (.ref l0), some (.ref l1), some (.int l2), some (.int l3), none] [] (hp S) := by
  unfold b_X2_readPerson_77 at hB
  refine ev_iconst (-1) dX2_readPerson_77 (by decide) ?_
  exact ev_ls (u_X2_readPerson_78 l0 l1 l2 l3 (-1) S hl0 hl1 hB) (And.intro rfl (And.intro rfl (And.intro rfl (And.intro rfl trivial))))
theorem u_X2_readPerson_17 {G : am_G} {N : Nat} {h0 : am_H} {out : am_S} (l0 : Nat) (l1 : Nat) (S : am_S) (hl0 : isC 2 l0 = true) (hl1 : isC 1 l1 = true) (hB : b_X2_readPerson_17 N l0 l1 S = some out) : Ev G (am_R 12 0 0) (am_Φ G h0 0 0 (q_v out) q_n) mX2_readPerson 0 0 17 [some (.ref l0), some (.ref l1), none, none, none] [] (hp S) := by
  unfold b_X2_readPerson_17 at hB
  refine ev_aload_n dX2_readPerson_17 rfl ?_
  refine es_getr k_2 0 dX2_readPerson_18 (by decide) rfl (Or.inl w_104) hl0 rfl ?_
  obtain ⟨S2, e3, hB⟩ := bv_of hB
  refine es_callVv (As := []) (t_X8_step (tr_2_0 hl0) e3) dX2_readPerson_21 oX8_step w_909 rfl (tr_2_0 hl0) rfl rfl (Nat.le_of_ble_eq_true rfl) rfl (am_fit.of (by decide)) ⟨Nat.zero_le _, Nat.zero_le _⟩ ?_
  refine ev_aload_n dX2_readPerson_24 rfl ?_
  refine es_getr k_2 0 dX2_readPerson_25 (by decide) rfl (Or.inl w_104) hl0 rfl ?_
  refine ev_bipush 30 dX2_readPerson_28 (by decide) ?_
  obtain ⟨r4, S5, e6, hB⟩ := bd_of hB
  refine es_callVi (As := [.int 30]) (t_X8_takeNumber (tr_2_0 hl0) e6) dX2_readPerson_30 oX8_takeNumber w_910 rfl (tr_2_0 hl0) rfl rfl (Nat.le_of_ble_eq_true rfl) rfl (am_fit.of (by decide)) ⟨Nat.zero_le _, Nat.zero_le _⟩ ?_
  refine ev_istore_n dX2_readPerson_33 (by decide) rfl ?_
  refine ev_aload_n dX2_readPerson_34 rfl ?_
  refine es_getr k_2 0 dX2_readPerson_35 (by decide) rfl (Or.inl w_104) hl0 rfl ?_
  refine ev_bipush 9 dX2_readPerson_38 (by decide) ?_
  obtain ⟨r7, S8, e9, hB⟩ := bd_of hB
  refine es_callVi (As := [.int 9]) (t_X8_takeNumber (tr_2_0 hl0) e9) dX2_readPerson_40 oX8_takeNumber w_910 rfl (tr_2_0 hl0) rfl rfl (Nat.le_of_ble_eq_true rfl) rfl (am_fit.of (by decide)) ⟨Nat.zero_le _, Nat.zero_le _⟩ ?_
  refine ev_istore_n dX2_readPerson_43 (by decide) rfl ?_
  refine ev_aload_n dX2_readPerson_44 rfl ?_
  refine es_getr k_2 0 dX2_readPerson_45 (by decide) rfl (Or.inl w_104) hl0 rfl ?_
  obtain ⟨r10, S11, e12, hB⟩ := bd_of hB
  refine es_callVi (As := []) (t_X8_isFine (tr_2_0 hl0) e12) dX2_readPerson_48 oX8_isFine w_863 rfl (tr_2_0 hl0) rfl rfl (Nat.le_of_ble_eq_true rfl) rfl (am_fit.of (by decide)) ⟨Nat.zero_le _, Nat.zero_le _⟩ ?_
  refine ev_ifeq 77 dX2_readPerson_51 (by decide) (fun q13 => ?_) (fun q13 => ?_)
  · rw [if_pos q13] at hB
    exact ev_ls (u_X2_readPerson_77 l0 l1 r4 r7 S11 hl0 hl1 hB) (And.intro rfl (And.intro rfl (And.intro rfl (And.intro rfl trivial))))
  · rw [if_neg q13] at hB
    refine ev_aload_n dX2_readPerson_54 rfl ?_
    refine es_getr k_2 0 dX2_readPerson_55 (by decide) rfl (Or.inl w_104) hl0 rfl ?_
    refine ev_ldcS 3 dX2_readPerson_58 rfl rfl ?_
    obtain ⟨r14, S15, e16, hB⟩ := bd_of hB
    refine es_callVi (As := [.float (UInt32.ofNat 3)]) (t_X8_isWord (tr_2_0 hl0) (by decide) e16) dX2_readPerson_60 oX8_isWord w_872 rfl (tr_2_0 hl0) rfl rfl (Nat.le_of_ble_eq_true rfl) rfl (am_fit.of (by decide)) ⟨Nat.zero_le _, Nat.zero_le _⟩ ?_
    refine ev_ifeq 77 dX2_readPerson_63 (by decide) (fun q17 => ?_) (fun q17 => ?_)
    · rw [if_pos q17] at hB
      exact ev_ls (u_X2_readPerson_77 l0 l1 r4 r7 S15 hl0 hl1 hB) (And.intro rfl (And.intro rfl (And.intro rfl (And.intro rfl trivial))))
    · rw [if_neg q17] at hB
      refine ev_aload_n dX2_readPerson_66 rfl ?_
      refine ev_aload_n dX2_readPerson_67 rfl ?_
      refine es_geti k_1 3 dX2_readPerson_68 (by decide) rfl (Or.inr ⟨_, n_142⟩) hl1 rfl ?_
      obtain ⟨r18, S19, e20, hB⟩ := bd_of hB
      refine es_callVi (As := [.int (sg S15 l1 3)]) (t_X2_readAt hl0 e20) dX2_readPerson_71 oX2_readAt w_925 rfl hl0 rfl rfl (Nat.le_of_ble_eq_true rfl) rfl (am_fit.of (by decide)) ⟨Nat.zero_le _, Nat.zero_le _⟩ ?_
      refine ev_goto 78 dX2_readPerson_74 (by decide) ?_
      exact ev_ls (u_X2_readPerson_78 l0 l1 r4 r7 r18 S19 hl0 hl1 hB) (And.intro rfl (And.intro rfl (And.intro rfl (And.intro rfl trivial))))
theorem t_X2_readPerson {G : am_G} {N : Nat} {l0 : Nat} {l1 : Nat} {S : am_S} {out : am_S} (hl0 : isC 2 l0 = true) (hl1 : isC 1 l1 = true) (hB : f_X2_readPerson N l0 l1 S = some out) : am_Met G 12 mX2_readPerson 0 0 [.ref l0, .ref l1] (hp S) (q_v out) q_n := by
  refine am_of (by decide +kernel) rfl rfl rfl (Nat.le_of_ble_eq_true rfl) ?_
  unfold f_X2_readPerson at hB
  refine ev_aload_n dX2_readPerson_0 rfl ?_
  refine es_geti k_1 3 dX2_readPerson_1 (by decide) rfl (Or.inr ⟨_, n_142⟩) hl1 rfl ?_
  refine ev_bipush 8 dX2_readPerson_4 (by decide) ?_
  refine ev_icmplt 17 dX2_readPerson_6 (by decide) (fun q1 => ?_) (fun q1 => ?_)
  · rw [if_pos q1] at hB
    exact ev_ls (u_X2_readPerson_17 l0 l1 S hl0 hl1 hB) (And.intro rfl (And.intro rfl trivial))
  · rw [if_neg q1] at hB
    refine ev_aload_n dX2_readPerson_9 rfl ?_
    refine es_getr k_2 0 dX2_readPerson_10 (by decide) rfl (Or.inl w_104) hl0 rfl ?_
    refine ev_iconst 2 dX2_readPerson_13 (by decide) ?_
    obtain ⟨S3, e4, hB⟩ := bv_of hB
    refine es_callVv (As := [.int 2]) (t_X8_fail (tr_2_0 hl0) e4) dX2_readPerson_14 oX8_fail w_905 rfl (tr_2_0 hl0) rfl rfl (Nat.le_of_ble_eq_true rfl) rfl (am_fit.of (by decide)) ⟨Nat.zero_le _, Nat.zero_le _⟩ ?_
    exact ev_ls (u_X2_readPerson_17 l0 l1 S3 hl0 hl1 hB) (And.intro rfl (And.intro rfl trivial))
def b_X2_moreNumbers_30 (N : Nat) (z0 : Int32) (S : am_S) : Option (Int32 × am_S) := (if isB z0 = true then some (z0, S) else none)
def b_X2_moreNumbers_25 (N : Nat)  (S : am_S) : Option (Int32 × am_S) := b_X2_moreNumbers_30 N 1 S
def b_X2_moreNumbers_29 (N : Nat)  (S : am_S) : Option (Int32 × am_S) := b_X2_moreNumbers_30 N 0 S
def f_X2_moreNumbers (N : Nat) (l0 : Nat) (l1 : Int32) (S : am_S) : Option (Int32 × am_S) := (bd (f_X8_isFine N (rf l0 0) S) (fun r1 S2 => (if r1 = 0 then b_X2_moreNumbers_29 N S2 else (if l1 = 0 then b_X2_moreNumbers_25 N S2 else (if (sg S2 (rf l0 0) 4) = 3 then b_X2_moreNumbers_25 N S2 else b_X2_moreNumbers_29 N S2)))))
theorem u_X2_moreNumbers_30 {G : am_G} {N : Nat} {h0 : am_H} {out : Int32 × am_S} (z0 : Int32) (S : am_S) (hB : b_X2_moreNumbers_30 N z0 S = some out) : Ev G (am_R 2 0 0) (am_Φ G h0 0 0 (q_i out) q_n) mX2_moreNumbers 0 0 30 [none, none] [.int z0] (hp S) := by
  unfold b_X2_moreNumbers_30 at hB
  obtain ⟨c1, hB⟩ := ck_of hB
  obtain rfl := Option.some.inj hB
  exact ev_zret dX2_moreNumbers_30 rfl (isB_nar c1) (Nat.zero_le _) (Nat.zero_le _) (fun z => absurd z (hp_sealed _)) ⟨rfl, rfl⟩
theorem u_X2_moreNumbers_25 {G : am_G} {N : Nat} {h0 : am_H} {out : Int32 × am_S}  (S : am_S) (hB : b_X2_moreNumbers_25 N  S = some out) : Ev G (am_R 2 0 0) (am_Φ G h0 0 0 (q_i out) q_n) mX2_moreNumbers 0 0 25 [none, none] [] (hp S) := by
  unfold b_X2_moreNumbers_25 at hB
  refine ev_iconst 1 dX2_moreNumbers_25 (by decide) ?_
  refine ev_goto 30 dX2_moreNumbers_26 (by decide) ?_
  exact ev_ls (u_X2_moreNumbers_30 1 S hB) trivial
theorem u_X2_moreNumbers_29 {G : am_G} {N : Nat} {h0 : am_H} {out : Int32 × am_S}  (S : am_S) (hB : b_X2_moreNumbers_29 N  S = some out) : Ev G (am_R 2 0 0) (am_Φ G h0 0 0 (q_i out) q_n) mX2_moreNumbers 0 0 29 [none, none] [] (hp S) := by
  unfold b_X2_moreNumbers_29 at hB
  refine ev_iconst 0 dX2_moreNumbers_29 (by decide) ?_
  exact ev_ls (u_X2_moreNumbers_30 0 S hB) trivial
theorem t_X2_moreNumbers {G : am_G} {N : Nat} {l0 : Nat} {l1 : Int32} {S : am_S} {out : Int32 × am_S} (hl0 : isC 2 l0 = true) (hB : f_X2_moreNumbers N l0 l1 S = some out) : am_Met G 2 mX2_moreNumbers 0 0 [.ref l0, .int l1] (hp S) (q_i out) q_n := by
  refine am_of (by decide +kernel) rfl rfl rfl (Nat.le_of_ble_eq_true rfl) ?_
  unfold f_X2_moreNumbers at hB
  refine ev_aload_n dX2_moreNumbers_0 rfl ?_
  refine es_getr k_2 0 dX2_moreNumbers_1 (by decide) rfl (Or.inl w_104) hl0 rfl ?_
  obtain ⟨r1, S2, e3, hB⟩ := bd_of hB
  refine es_callVi (As := []) (t_X8_isFine (tr_2_0 hl0) e3) dX2_moreNumbers_4 oX8_isFine w_863 rfl (tr_2_0 hl0) rfl rfl (Nat.le_of_ble_eq_true rfl) rfl (am_fit.of (by decide)) ⟨Nat.zero_le _, Nat.zero_le _⟩ ?_
  refine ev_ifeq 29 dX2_moreNumbers_7 (by decide) (fun q4 => ?_) (fun q4 => ?_)
  · rw [if_pos q4] at hB
    exact ev_ls (u_X2_moreNumbers_29 S2 hB) trivial
  · rw [if_neg q4] at hB
    refine ev_iload_n dX2_moreNumbers_10 rfl ?_
    refine ev_ifeq 25 dX2_moreNumbers_11 (by decide) (fun q5 => ?_) (fun q5 => ?_)
    · rw [if_pos q5] at hB
      exact ev_ls (u_X2_moreNumbers_25 S2 hB) trivial
    · rw [if_neg q5] at hB
      refine ev_aload_n dX2_moreNumbers_14 rfl ?_
      refine es_getr k_2 0 dX2_moreNumbers_15 (by decide) rfl (Or.inl w_104) hl0 rfl ?_
      refine es_geti k_8 4 dX2_moreNumbers_18 (by decide) rfl (Or.inr ⟨_, n_55⟩) (tr_2_0 hl0) rfl ?_
      refine ev_iconst 3 dX2_moreNumbers_21 (by decide) ?_
      refine ev_icmpne 29 dX2_moreNumbers_22 (by decide) (fun q6 => ?_) (fun q6 => ?_)
      · rw [if_neg q6] at hB
        exact ev_ls (u_X2_moreNumbers_29 S2 hB) trivial
      · rw [if_pos q6] at hB
        exact ev_ls (u_X2_moreNumbers_25 S2 hB) trivial
def b_X2_readInRow_69 (N : Nat) (l0 : Nat) (l3 : Int32) (S : am_S) : Option (Int32 × am_S) := (bd (f_X8_takeNumber N (rf l0 0) l3 S) (fun r1 S2 => some (r1, S2)))
def b_X2_readInRow_27 (N : Nat) (l0 : Nat) (l3 : Int32) (l4 : Int32) (S : am_S) : Option (Int32 × am_S) := (if (sg S (rf l0 0) 4) = 3 then (if l3 < (sg S (rf l0 0) 5) then b_X2_readInRow_69 N l0 l3 S else (if (sg S (rf l0 0) 5) < l4 then b_X2_readInRow_69 N l0 l3 S else (bv (f_X8_fail N (rf l0 0) 3 S) (fun S5 => b_X2_readInRow_69 N l0 l3 S5)))) else b_X2_readInRow_69 N l0 l3 S)
def f_X2_readInRow (N : Nat) (l0 : Nat) (l1 : Int32) (l2 : Int32) (l3 : Int32) (l4 : Int32) (S : am_S) : Option (Int32 × am_S) := (if (sg S (rf l0 0) 4) = 3 then (if l1 < l2 then b_X2_readInRow_27 N l0 l3 l4 S else (bv (f_X8_fail N (rf l0 0) 2 S) (fun S4 => b_X2_readInRow_69 N l0 l3 S4))) else b_X2_readInRow_27 N l0 l3 l4 S)
theorem u_X2_readInRow_69 {G : am_G} {N : Nat} {h0 : am_H} {out : Int32 × am_S} (l0 : Nat) (l3 : Int32) (S : am_S) (hl0 : isC 2 l0 = true) (hB : b_X2_readInRow_69 N l0 l3 S = some out) : Ev G (am_R 4 0 0) (am_Φ G h0 0 0 (q_i out) q_n) mX2_readInRow 0 0 69 [some (.ref l0), none, none, some (.int l3), none] [] (hp S) := by
  unfold b_X2_readInRow_69 at hB
  refine ev_aload_n dX2_readInRow_69 rfl ?_
  refine es_getr k_2 0 dX2_readInRow_70 (by decide) rfl (Or.inl w_104) hl0 rfl ?_
  refine ev_iload_n dX2_readInRow_73 rfl ?_
  obtain ⟨r1, S2, e3, hB⟩ := bd_of hB
  refine es_callVi (As := [.int l3]) (t_X8_takeNumber (tr_2_0 hl0) e3) dX2_readInRow_74 oX8_takeNumber w_910 rfl (tr_2_0 hl0) rfl rfl (Nat.le_of_ble_eq_true rfl) rfl (am_fit.of (by decide)) ⟨Nat.zero_le _, Nat.zero_le _⟩ ?_
  obtain rfl := Option.some.inj hB
  exact ev_iret dX2_readInRow_77 rfl (Nat.zero_le _) (Nat.zero_le _) (fun z => absurd z (hp_sealed _)) ⟨rfl, rfl⟩
theorem u_X2_readInRow_27 {G : am_G} {N : Nat} {h0 : am_H} {out : Int32 × am_S} (l0 : Nat) (l3 : Int32) (l4 : Int32) (S : am_S) (hl0 : isC 2 l0 = true) (hB : b_X2_readInRow_27 N l0 l3 l4 S = some out) : Ev G (am_R 4 0 0) (am_Φ G h0 0 0 (q_i out) q_n) mX2_readInRow 0 0 27 [some (.ref l0), none, none, some (.int l3), some (.int l4)] [] (hp S) := by
  unfold b_X2_readInRow_27 at hB
  refine ev_aload_n dX2_readInRow_27 rfl ?_
  refine es_getr k_2 0 dX2_readInRow_28 (by decide) rfl (Or.inl w_104) hl0 rfl ?_
  refine es_geti k_8 4 dX2_readInRow_31 (by decide) rfl (Or.inr ⟨_, n_55⟩) (tr_2_0 hl0) rfl ?_
  refine ev_iconst 3 dX2_readInRow_34 (by decide) ?_
  refine ev_icmpne 69 dX2_readInRow_35 (by decide) (fun q1 => ?_) (fun q1 => ?_)
  · rw [if_neg q1] at hB
    exact ev_ls (u_X2_readInRow_69 l0 l3 S hl0 hB) (And.intro rfl (And.intro rfl trivial))
  · rw [if_pos q1] at hB
    refine ev_aload_n dX2_readInRow_38 rfl ?_
    refine es_getr k_2 0 dX2_readInRow_39 (by decide) rfl (Or.inl w_104) hl0 rfl ?_
    refine es_geti k_8 5 dX2_readInRow_42 (by decide) rfl (Or.inr ⟨_, n_59⟩) (tr_2_0 hl0) rfl ?_
    refine ev_iload_n dX2_readInRow_45 rfl ?_
    refine ev_icmpgt 69 dX2_readInRow_46 (by decide) (fun q2 => ?_) (fun q2 => ?_)
    · rw [if_pos q2] at hB
      exact ev_ls (u_X2_readInRow_69 l0 l3 S hl0 hB) (And.intro rfl (And.intro rfl trivial))
    · rw [if_neg q2] at hB
      refine ev_aload_n dX2_readInRow_49 rfl ?_
      refine es_getr k_2 0 dX2_readInRow_50 (by decide) rfl (Or.inl w_104) hl0 rfl ?_
      refine es_geti k_8 5 dX2_readInRow_53 (by decide) rfl (Or.inr ⟨_, n_59⟩) (tr_2_0 hl0) rfl ?_
      refine ev_iload dX2_readInRow_56 rfl ?_
      refine ev_icmplt 69 dX2_readInRow_58 (by decide) (fun q3 => ?_) (fun q3 => ?_)
      · rw [if_pos q3] at hB
        exact ev_ls (u_X2_readInRow_69 l0 l3 S hl0 hB) (And.intro rfl (And.intro rfl trivial))
      · rw [if_neg q3] at hB
        refine ev_aload_n dX2_readInRow_61 rfl ?_
        refine es_getr k_2 0 dX2_readInRow_62 (by decide) rfl (Or.inl w_104) hl0 rfl ?_
        refine ev_iconst 3 dX2_readInRow_65 (by decide) ?_
        obtain ⟨S5, e6, hB⟩ := bv_of hB
        refine es_callVv (As := [.int 3]) (t_X8_fail (tr_2_0 hl0) e6) dX2_readInRow_66 oX8_fail w_905 rfl (tr_2_0 hl0) rfl rfl (Nat.le_of_ble_eq_true rfl) rfl (am_fit.of (by decide)) ⟨Nat.zero_le _, Nat.zero_le _⟩ ?_
        exact ev_ls (u_X2_readInRow_69 l0 l3 S5 hl0 hB) (And.intro rfl (And.intro rfl trivial))
theorem t_X2_readInRow {G : am_G} {N : Nat} {l0 : Nat} {l1 : Int32} {l2 : Int32} {l3 : Int32} {l4 : Int32} {S : am_S} {out : Int32 × am_S} (hl0 : isC 2 l0 = true) (hB : f_X2_readInRow N l0 l1 l2 l3 l4 S = some out) : am_Met G 4 mX2_readInRow 0 0 [.ref l0, .int l1, .int l2, .int l3, .int l4] (hp S) (q_i out) q_n := by
  refine am_of (by decide +kernel) rfl rfl rfl (Nat.le_of_ble_eq_true rfl) ?_
  unfold f_X2_readInRow at hB
  refine ev_aload_n dX2_readInRow_0 rfl ?_
  refine es_getr k_2 0 dX2_readInRow_1 (by decide) rfl (Or.inl w_104) hl0 rfl ?_
  refine es_geti k_8 4 dX2_readInRow_4 (by decide) rfl (Or.inr ⟨_, n_55⟩) (tr_2_0 hl0) rfl ?_
  refine ev_iconst 3 dX2_readInRow_7 (by decide) ?_
  refine ev_icmpne 27 dX2_readInRow_8 (by decide) (fun q1 => ?_) (fun q1 => ?_)
  · rw [if_neg q1] at hB
    exact ev_ls (u_X2_readInRow_27 l0 l3 l4 S hl0 hB) (And.intro rfl (And.intro rfl (And.intro rfl trivial)))
  · rw [if_pos q1] at hB
    refine ev_iload_n dX2_readInRow_11 rfl ?_
    refine ev_iload_n dX2_readInRow_12 rfl ?_
    refine ev_icmplt 27 dX2_readInRow_13 (by decide) (fun q2 => ?_) (fun q2 => ?_)
    · rw [if_pos q2] at hB
      exact ev_ls (u_X2_readInRow_27 l0 l3 l4 S hl0 hB) (And.intro rfl (And.intro rfl (And.intro rfl trivial)))
    · rw [if_neg q2] at hB
      refine ev_aload_n dX2_readInRow_16 rfl ?_
      refine es_getr k_2 0 dX2_readInRow_17 (by decide) rfl (Or.inl w_104) hl0 rfl ?_
      refine ev_iconst 2 dX2_readInRow_20 (by decide) ?_
      obtain ⟨S4, e5, hB⟩ := bv_of hB
      refine es_callVv (As := [.int 2]) (t_X8_fail (tr_2_0 hl0) e5) dX2_readInRow_21 oX8_fail w_905 rfl (tr_2_0 hl0) rfl rfl (Nat.le_of_ble_eq_true rfl) rfl (am_fit.of (by decide)) ⟨Nat.zero_le _, Nat.zero_le _⟩ ?_
      refine ev_goto 69 dX2_readInRow_24 (by decide) ?_
      exact ev_ls (u_X2_readInRow_69 l0 l3 S4 hl0 hB) (And.intro rfl (And.intro rfl trivial))
def b_X1_addRound_29 (N : Nat)  (S : am_S) : Option (am_S) := some S
def f_X1_addRound (N : Nat) (l0 : Nat) (l1 : Int32) (S : am_S) : Option (am_S) := (if 8 ≤ (sg S l0 8) then b_X1_addRound_29 N S else (if inb (sg S l0 8) (ln (rf l0 9)) = true then b_X1_addRound_29 N (sp (sp S (rf l0 9) (Int32.toNatClampNeg (sg S l0 8)) l1) l0 8 ((sg (sp S (rf l0 9) (Int32.toNatClampNeg (sg S l0 8)) l1) l0 8) + 1)) else none))
theorem u_X1_addRound_29 {G : am_G} {N : Nat} {h0 : am_H} {out : am_S}  (S : am_S) (hB : b_X1_addRound_29 N  S = some out) : Ev G (am_R 1 0 0) (am_Φ G h0 0 0 (q_v out) q_n) mX1_addRound 0 0 29 [none, none] [] (hp S) := by
  unfold b_X1_addRound_29 at hB
  obtain rfl := Option.some.inj hB
  exact ev_vret dX1_addRound_29 rfl (Nat.zero_le _) (Nat.zero_le _) (fun z => absurd z (hp_sealed _)) ⟨rfl, rfl⟩
theorem t_X1_addRound {G : am_G} {N : Nat} {l0 : Nat} {l1 : Int32} {S : am_S} {out : am_S} (hl0 : isC 1 l0 = true) (hB : f_X1_addRound N l0 l1 S = some out) : am_Met G 1 mX1_addRound 0 0 [.ref l0, .int l1] (hp S) (q_v out) q_n := by
  refine am_of (by decide +kernel) rfl rfl rfl (Nat.le_of_ble_eq_true rfl) ?_
  unfold f_X1_addRound at hB
  refine ev_aload_n dX1_addRound_0 rfl ?_
  refine es_geti k_1 8 dX1_addRound_1 (by decide) rfl (Or.inl w_152) hl0 rfl ?_
  refine ev_bipush 8 dX1_addRound_4 (by decide) ?_
  refine ev_icmpge 29 dX1_addRound_6 (by decide) (fun q1 => ?_) (fun q1 => ?_)
  · rw [if_pos q1] at hB
    exact ev_ls (u_X1_addRound_29 S hB) trivial
  · rw [if_neg q1] at hB
    refine ev_aload_n dX1_addRound_9 rfl ?_
    refine es_getr k_1 9 dX1_addRound_10 (by decide) rfl (Or.inl w_154) hl0 rfl ?_
    refine ev_aload_n dX1_addRound_13 rfl ?_
    refine es_geti k_1 8 dX1_addRound_14 (by decide) rfl (Or.inl w_152) hl0 rfl ?_
    refine ev_iload_n dX1_addRound_17 rfl ?_
    obtain ⟨c2, hB⟩ := ck_of hB
    refine es_iast dX1_addRound_18 (tr_1_9 hl0) c2 ?_
    refine ev_aload_n dX1_addRound_19 rfl ?_
    refine ev_dup dX1_addRound_20 rfl ?_
    refine es_geti k_1 8 dX1_addRound_21 (by decide) rfl (Or.inl w_152) hl0 rfl ?_
    refine ev_iconst 1 dX1_addRound_24 (by decide) ?_
    refine ev_iadd dX1_addRound_25 ?_
    refine es_puti k_1 8 dX1_addRound_26 (by decide) rfl (Or.inl w_152) rfl rfl hl0 rfl ?_
    exact ev_ls (u_X1_addRound_29 (sp (sp S (rf l0 9) (Int32.toNatClampNeg (sg S l0 8)) l1) l0 8 ((sg (sp S (rf l0 9) (Int32.toNatClampNeg (sg S l0 8)) l1) l0 8) + 1)) hB) trivial
def b_X2_readRound_68 (N : Nat) (k24 : Nat → Nat → Int32 → am_S → Option (am_S)) (l0 : Nat) (l1 : Nat) (l2 : Int32) (S : am_S) : Option (am_S) := k24 l0 l1 (l2 + 1) S
def b_X2_readRound_74 (N : Nat)  (S : am_S) : Option (am_S) := some S
def b_X2_readRound_24 (N : Nat) : Nat → Nat → Nat → Int32 → am_S → Option (am_S)
  | 0, _, _, _, _ => none
  | n + 1, l0, l1, l2, S => (if 8 < l2 then b_X2_readRound_74 N S else (bd (f_X2_moreNumbers N l0 l2 S) (fun r2 S3 => (if r2 = 0 then b_X2_readRound_74 N S3 else (bd (f_X2_readInRow N l0 l2 8 9999 (sg S3 l1 0) S3) (fun r6 S7 => (bd (f_X8_isFine N (rf l0 0) S7) (fun r9 S10 => (if r9 = 0 then b_X2_readRound_68 N (b_X2_readRound_24 N n) l0 l1 l2 S10 else (bv (f_X1_addRound N l1 r6 S10) (fun S14 => b_X2_readRound_68 N (b_X2_readRound_24 N n) l0 l1 l2 S14)))))))))))
def b_X2_readRound_15 (N : Nat) (l0 : Nat) (l1 : Nat) (S : am_S) : Option (am_S) := (bv (f_X8_step N (rf l0 0) S) (fun S2 => b_X2_readRound_24 N N l0 l1 0 S2))
def f_X2_readRound (N : Nat) (l0 : Nat) (l1 : Nat) (S : am_S) : Option (am_S) := (if (sg S l1 8) ≤ 0 then b_X2_readRound_15 N l0 l1 S else (bv (f_X8_fail N (rf l0 0) 5 S) (fun S3 => b_X2_readRound_15 N l0 l1 S3)))
theorem u_X2_readRound_68 {G : am_G} {N : Nat} {h0 : am_H} {out : am_S} {k24 : Nat → Nat → Int32 → am_S → Option (am_S)} (hk24 : ∀ (l0 : Nat) (l1 : Nat) (l2 : Int32) (S : am_S), isC 2 l0 = true → isC 1 l1 = true → k24 l0 l1 l2 S = some out → Ev G (am_R 5 0 0) (am_Φ G h0 0 0 (q_v out) q_n) mX2_readRound 0 0 24 [some (.ref l0), some (.ref l1), some (.int l2), none] [] (hp S)) (l0 : Nat) (l1 : Nat) (l2 : Int32) (S : am_S) (hl0 : isC 2 l0 = true) (hl1 : isC 1 l1 = true) (hB : b_X2_readRound_68 N k24 l0 l1 l2 S = some out) : Ev G (am_R 5 0 0) (am_Φ G h0 0 0 (q_v out) q_n) mX2_readRound 0 0 68 [some (.ref l0), some (.ref l1), some (.int l2), none] [] (hp S) := by
  unfold b_X2_readRound_68 at hB
  refine es_iinc 1 dX2_readRound_68 rfl (by decide) (by decide) rfl ?_
  refine ev_goto 24 dX2_readRound_71 (by decide) ?_
  exact ev_ls (hk24 l0 l1 (l2 + 1) S hl0 hl1 hB) (And.intro rfl (And.intro rfl (And.intro rfl trivial)))
theorem u_X2_readRound_74 {G : am_G} {N : Nat} {h0 : am_H} {out : am_S}  (S : am_S) (hB : b_X2_readRound_74 N  S = some out) : Ev G (am_R 5 0 0) (am_Φ G h0 0 0 (q_v out) q_n) mX2_readRound 0 0 74 [none, none, none, none] [] (hp S) := by
  unfold b_X2_readRound_74 at hB
  obtain rfl := Option.some.inj hB
  exact ev_vret dX2_readRound_74 rfl (Nat.zero_le _) (Nat.zero_le _) (fun z => absurd z (hp_sealed _)) ⟨rfl, rfl⟩
theorem u_X2_readRound_24 {G : am_G} {N : Nat} {h0 : am_H} {out : am_S} : ∀ (n : Nat) (l0 : Nat) (l1 : Nat) (l2 : Int32) (S : am_S), isC 2 l0 = true → isC 1 l1 = true → b_X2_readRound_24 N n l0 l1 l2 S = some out → Ev G (am_R 5 0 0) (am_Φ G h0 0 0 (q_v out) q_n) mX2_readRound 0 0 24 [some (.ref l0), some (.ref l1), some (.int l2), none] [] (hp S) := by
  intro n
  induction n with
  | zero =>
    intro l0 l1 l2 S hl0 hl1 hB
    exact absurd (show none = some out from hB) (fun q => by cases q)
  | succ n ih =>
    intro l0 l1 l2 S hl0 hl1 hB
    unfold b_X2_readRound_24 at hB
    refine ev_iload_n dX2_readRound_24 rfl ?_
    refine ev_bipush 8 dX2_readRound_25 (by decide) ?_
    refine ev_icmpgt 74 dX2_readRound_27 (by decide) (fun q1 => ?_) (fun q1 => ?_)
    · rw [if_pos q1] at hB
      exact ev_ls (u_X2_readRound_74 S hB) trivial
    · rw [if_neg q1] at hB
      refine ev_aload_n dX2_readRound_30 rfl ?_
      refine ev_iload_n dX2_readRound_31 rfl ?_
      obtain ⟨r2, S3, e4, hB⟩ := bd_of hB
      refine es_callVi (As := [.int l2]) (t_X2_moreNumbers hl0 e4) dX2_readRound_32 oX2_moreNumbers w_938 rfl hl0 rfl rfl (Nat.le_of_ble_eq_true rfl) rfl (am_fit.of (by decide)) ⟨Nat.zero_le _, Nat.zero_le _⟩ ?_
      refine ev_ifeq 74 dX2_readRound_35 (by decide) (fun q5 => ?_) (fun q5 => ?_)
      · rw [if_pos q5] at hB
        exact ev_ls (u_X2_readRound_74 S3 hB) trivial
      · rw [if_neg q5] at hB
        refine ev_aload_n dX2_readRound_38 rfl ?_
        refine ev_iload_n dX2_readRound_39 rfl ?_
        refine ev_bipush 8 dX2_readRound_40 (by decide) ?_
        refine ev_sipush 9999 dX2_readRound_42 (by decide) ?_
        refine ev_aload_n dX2_readRound_45 rfl ?_
        refine es_geti k_1 0 dX2_readRound_46 (by decide) rfl (Or.inr ⟨_, n_134⟩) hl1 rfl ?_
        obtain ⟨r6, S7, e8, hB⟩ := bd_of hB
        refine es_callVi (As := [.int l2, .int 8, .int 9999, .int (sg S3 l1 0)]) (t_X2_readInRow hl0 e8) dX2_readRound_49 oX2_readInRow w_942 rfl hl0 rfl rfl (Nat.le_of_ble_eq_true rfl) rfl (am_fit.of (by decide)) ⟨Nat.zero_le _, Nat.zero_le _⟩ ?_
        refine ev_istore_n dX2_readRound_52 (by decide) rfl ?_
        refine ev_aload_n dX2_readRound_53 rfl ?_
        refine es_getr k_2 0 dX2_readRound_54 (by decide) rfl (Or.inl w_104) hl0 rfl ?_
        obtain ⟨r9, S10, e11, hB⟩ := bd_of hB
        refine es_callVi (As := []) (t_X8_isFine (tr_2_0 hl0) e11) dX2_readRound_57 oX8_isFine w_863 rfl (tr_2_0 hl0) rfl rfl (Nat.le_of_ble_eq_true rfl) rfl (am_fit.of (by decide)) ⟨Nat.zero_le _, Nat.zero_le _⟩ ?_
        refine ev_ifeq 68 dX2_readRound_60 (by decide) (fun q12 => ?_) (fun q12 => ?_)
        · rw [if_pos q12] at hB
          exact ev_ls (u_X2_readRound_68 ih l0 l1 l2 S10 hl0 hl1 hB) (And.intro rfl (And.intro rfl (And.intro rfl trivial)))
        · rw [if_neg q12] at hB
          refine ev_aload_n dX2_readRound_63 rfl ?_
          refine ev_iload_n dX2_readRound_64 rfl ?_
          obtain ⟨S14, e15, hB⟩ := bv_of hB
          refine es_callVv (As := [.int r6]) (t_X1_addRound hl1 e15) dX2_readRound_65 oX1_addRound w_946 rfl hl1 rfl rfl (Nat.le_of_ble_eq_true rfl) rfl (am_fit.of (by decide)) ⟨Nat.zero_le _, Nat.zero_le _⟩ ?_
          exact ev_ls (u_X2_readRound_68 ih l0 l1 l2 S14 hl0 hl1 hB) (And.intro rfl (And.intro rfl (And.intro rfl trivial)))
theorem u_X2_readRound_15 {G : am_G} {N : Nat} {h0 : am_H} {out : am_S} (l0 : Nat) (l1 : Nat) (S : am_S) (hl0 : isC 2 l0 = true) (hl1 : isC 1 l1 = true) (hB : b_X2_readRound_15 N l0 l1 S = some out) : Ev G (am_R 5 0 0) (am_Φ G h0 0 0 (q_v out) q_n) mX2_readRound 0 0 15 [some (.ref l0), some (.ref l1), none, none] [] (hp S) := by
  unfold b_X2_readRound_15 at hB
  refine ev_aload_n dX2_readRound_15 rfl ?_
  refine es_getr k_2 0 dX2_readRound_16 (by decide) rfl (Or.inl w_104) hl0 rfl ?_
  obtain ⟨S2, e3, hB⟩ := bv_of hB
  refine es_callVv (As := []) (t_X8_step (tr_2_0 hl0) e3) dX2_readRound_19 oX8_step w_909 rfl (tr_2_0 hl0) rfl rfl (Nat.le_of_ble_eq_true rfl) rfl (am_fit.of (by decide)) ⟨Nat.zero_le _, Nat.zero_le _⟩ ?_
  refine ev_iconst 0 dX2_readRound_22 (by decide) ?_
  refine ev_istore_n dX2_readRound_23 (by decide) rfl ?_
  exact ev_ls (u_X2_readRound_24 N l0 l1 0 S2 hl0 hl1 hB) (And.intro rfl (And.intro rfl (And.intro rfl trivial)))
theorem t_X2_readRound {G : am_G} {N : Nat} {l0 : Nat} {l1 : Nat} {S : am_S} {out : am_S} (hl0 : isC 2 l0 = true) (hl1 : isC 1 l1 = true) (hB : f_X2_readRound N l0 l1 S = some out) : am_Met G 5 mX2_readRound 0 0 [.ref l0, .ref l1] (hp S) (q_v out) q_n := by
  refine am_of (by decide +kernel) rfl rfl rfl (Nat.le_of_ble_eq_true rfl) ?_
  unfold f_X2_readRound at hB
  refine ev_aload_n dX2_readRound_0 rfl ?_
  refine es_geti k_1 8 dX2_readRound_1 (by decide) rfl (Or.inr ⟨_, n_153⟩) hl1 rfl ?_
  refine ev_ifle 15 dX2_readRound_4 (by decide) (fun q1 => ?_) (fun q1 => ?_)
  · rw [if_pos q1] at hB
    exact ev_ls (u_X2_readRound_15 l0 l1 S hl0 hl1 hB) (And.intro rfl (And.intro rfl trivial))
  · rw [if_neg q1] at hB
    refine ev_aload_n dX2_readRound_7 rfl ?_
    refine es_getr k_2 0 dX2_readRound_8 (by decide) rfl (Or.inl w_104) hl0 rfl ?_
    refine ev_iconst 5 dX2_readRound_11 (by decide) ?_
    obtain ⟨S3, e4, hB⟩ := bv_of hB
    refine es_callVv (As := [.int 5]) (t_X8_fail (tr_2_0 hl0) e4) dX2_readRound_12 oX8_fail w_905 rfl (tr_2_0 hl0) rfl rfl (Nat.le_of_ble_eq_true rfl) rfl (am_fit.of (by decide)) ⟨Nat.zero_le _, Nat.zero_le _⟩ ?_
    exact ev_ls (u_X2_readRound_15 l0 l1 S3 hl0 hl1 hB) (And.intro rfl (And.intro rfl trivial))
def b_X1_addWet_29 (N : Nat)  (S : am_S) : Option (am_S) := some S
def f_X1_addWet (N : Nat) (l0 : Nat) (l1 : Int32) (S : am_S) : Option (am_S) := (if 8 ≤ (sg S l0 10) then b_X1_addWet_29 N S else (if inb (sg S l0 10) (ln (rf l0 11)) = true then b_X1_addWet_29 N (sp (sp S (rf l0 11) (Int32.toNatClampNeg (sg S l0 10)) l1) l0 10 ((sg (sp S (rf l0 11) (Int32.toNatClampNeg (sg S l0 10)) l1) l0 10) + 1)) else none))
theorem u_X1_addWet_29 {G : am_G} {N : Nat} {h0 : am_H} {out : am_S}  (S : am_S) (hB : b_X1_addWet_29 N  S = some out) : Ev G (am_R 1 0 0) (am_Φ G h0 0 0 (q_v out) q_n) mX1_addWet 0 0 29 [none, none] [] (hp S) := by
  unfold b_X1_addWet_29 at hB
  obtain rfl := Option.some.inj hB
  exact ev_vret dX1_addWet_29 rfl (Nat.zero_le _) (Nat.zero_le _) (fun z => absurd z (hp_sealed _)) ⟨rfl, rfl⟩
theorem t_X1_addWet {G : am_G} {N : Nat} {l0 : Nat} {l1 : Int32} {S : am_S} {out : am_S} (hl0 : isC 1 l0 = true) (hB : f_X1_addWet N l0 l1 S = some out) : am_Met G 1 mX1_addWet 0 0 [.ref l0, .int l1] (hp S) (q_v out) q_n := by
  refine am_of (by decide +kernel) rfl rfl rfl (Nat.le_of_ble_eq_true rfl) ?_
  unfold f_X1_addWet at hB
  refine ev_aload_n dX1_addWet_0 rfl ?_
  refine es_geti k_1 10 dX1_addWet_1 (by decide) rfl (Or.inl w_155) hl0 rfl ?_
  refine ev_bipush 8 dX1_addWet_4 (by decide) ?_
  refine ev_icmpge 29 dX1_addWet_6 (by decide) (fun q1 => ?_) (fun q1 => ?_)
  · rw [if_pos q1] at hB
    exact ev_ls (u_X1_addWet_29 S hB) trivial
  · rw [if_neg q1] at hB
    refine ev_aload_n dX1_addWet_9 rfl ?_
    refine es_getr k_1 11 dX1_addWet_10 (by decide) rfl (Or.inl w_157) hl0 rfl ?_
    refine ev_aload_n dX1_addWet_13 rfl ?_
    refine es_geti k_1 10 dX1_addWet_14 (by decide) rfl (Or.inl w_155) hl0 rfl ?_
    refine ev_iload_n dX1_addWet_17 rfl ?_
    obtain ⟨c2, hB⟩ := ck_of hB
    refine es_iast dX1_addWet_18 (tr_1_11 hl0) c2 ?_
    refine ev_aload_n dX1_addWet_19 rfl ?_
    refine ev_dup dX1_addWet_20 rfl ?_
    refine es_geti k_1 10 dX1_addWet_21 (by decide) rfl (Or.inl w_155) hl0 rfl ?_
    refine ev_iconst 1 dX1_addWet_24 (by decide) ?_
    refine ev_iadd dX1_addWet_25 ?_
    refine es_puti k_1 10 dX1_addWet_26 (by decide) rfl (Or.inl w_155) rfl rfl hl0 rfl ?_
    exact ev_ls (u_X1_addWet_29 (sp (sp S (rf l0 11) (Int32.toNatClampNeg (sg S l0 10)) l1) l0 10 ((sg (sp S (rf l0 11) (Int32.toNatClampNeg (sg S l0 10)) l1) l0 10) + 1)) hB) trivial
def b_X2_readWet_66 (N : Nat) (k24 : Nat → Nat → Int32 → am_S → Option (am_S)) (l0 : Nat) (l1 : Nat) (l2 : Int32) (S : am_S) : Option (am_S) := k24 l0 l1 (l2 + 1) S
def b_X2_readWet_72 (N : Nat)  (S : am_S) : Option (am_S) := some S
def b_X2_readWet_24 (N : Nat) : Nat → Nat → Nat → Int32 → am_S → Option (am_S)
  | 0, _, _, _, _ => none
  | n + 1, l0, l1, l2, S => (if 8 < l2 then b_X2_readWet_72 N S else (bd (f_X2_moreNumbers N l0 l2 S) (fun r2 S3 => (if r2 = 0 then b_X2_readWet_72 N S3 else (bd (f_X2_readInRow N l0 l2 8 9 9999 S3) (fun r6 S7 => (bd (f_X8_isFine N (rf l0 0) S7) (fun r9 S10 => (if r9 = 0 then b_X2_readWet_66 N (b_X2_readWet_24 N n) l0 l1 l2 S10 else (bv (f_X1_addWet N l1 r6 S10) (fun S14 => b_X2_readWet_66 N (b_X2_readWet_24 N n) l0 l1 l2 S14)))))))))))
def b_X2_readWet_15 (N : Nat) (l0 : Nat) (l1 : Nat) (S : am_S) : Option (am_S) := (bv (f_X8_step N (rf l0 0) S) (fun S2 => b_X2_readWet_24 N N l0 l1 0 S2))
def f_X2_readWet (N : Nat) (l0 : Nat) (l1 : Nat) (S : am_S) : Option (am_S) := (if (sg S l1 10) ≤ 0 then b_X2_readWet_15 N l0 l1 S else (bv (f_X8_fail N (rf l0 0) 5 S) (fun S3 => b_X2_readWet_15 N l0 l1 S3)))
theorem u_X2_readWet_66 {G : am_G} {N : Nat} {h0 : am_H} {out : am_S} {k24 : Nat → Nat → Int32 → am_S → Option (am_S)} (hk24 : ∀ (l0 : Nat) (l1 : Nat) (l2 : Int32) (S : am_S), isC 2 l0 = true → isC 1 l1 = true → k24 l0 l1 l2 S = some out → Ev G (am_R 5 0 0) (am_Φ G h0 0 0 (q_v out) q_n) mX2_readWet 0 0 24 [some (.ref l0), some (.ref l1), some (.int l2), none] [] (hp S)) (l0 : Nat) (l1 : Nat) (l2 : Int32) (S : am_S) (hl0 : isC 2 l0 = true) (hl1 : isC 1 l1 = true) (hB : b_X2_readWet_66 N k24 l0 l1 l2 S = some out) : Ev G (am_R 5 0 0) (am_Φ G h0 0 0 (q_v out) q_n) mX2_readWet 0 0 66 [some (.ref l0), some (.ref l1), some (.int l2), none] [] (hp S) := by
  unfold b_X2_readWet_66 at hB
  refine es_iinc 1 dX2_readWet_66 rfl (by decide) (by decide) rfl ?_
  refine ev_goto 24 dX2_readWet_69 (by decide) ?_
  exact ev_ls (hk24 l0 l1 (l2 + 1) S hl0 hl1 hB) (And.intro rfl (And.intro rfl (And.intro rfl trivial)))
theorem u_X2_readWet_72 {G : am_G} {N : Nat} {h0 : am_H} {out : am_S}  (S : am_S) (hB : b_X2_readWet_72 N  S = some out) : Ev G (am_R 5 0 0) (am_Φ G h0 0 0 (q_v out) q_n) mX2_readWet 0 0 72 [none, none, none, none] [] (hp S) := by
  unfold b_X2_readWet_72 at hB
  obtain rfl := Option.some.inj hB
  exact ev_vret dX2_readWet_72 rfl (Nat.zero_le _) (Nat.zero_le _) (fun z => absurd z (hp_sealed _)) ⟨rfl, rfl⟩
theorem u_X2_readWet_24 {G : am_G} {N : Nat} {h0 : am_H} {out : am_S} : ∀ (n : Nat) (l0 : Nat) (l1 : Nat) (l2 : Int32) (S : am_S), isC 2 l0 = true → isC 1 l1 = true → b_X2_readWet_24 N n l0 l1 l2 S = some out → Ev G (am_R 5 0 0) (am_Φ G h0 0 0 (q_v out) q_n) mX2_readWet 0 0 24 [some (.ref l0), some (.ref l1), some (.int l2), none] [] (hp S) := by
  intro n
  induction n with
  | zero =>
    intro l0 l1 l2 S hl0 hl1 hB
    exact absurd (show none = some out from hB) (fun q => by cases q)
  | succ n ih =>
    intro l0 l1 l2 S hl0 hl1 hB
    unfold b_X2_readWet_24 at hB
    refine ev_iload_n dX2_readWet_24 rfl ?_
    refine ev_bipush 8 dX2_readWet_25 (by decide) ?_
    refine ev_icmpgt 72 dX2_readWet_27 (by decide) (fun q1 => ?_) (fun q1 => ?_)
    · rw [if_pos q1] at hB
      exact ev_ls (u_X2_readWet_72 S hB) trivial
    · rw [if_neg q1] at hB
      refine ev_aload_n dX2_readWet_30 rfl ?_
      refine ev_iload_n dX2_readWet_31 rfl ?_
      obtain ⟨r2, S3, e4, hB⟩ := bd_of hB
      refine es_callVi (As := [.int l2]) (t_X2_moreNumbers hl0 e4) dX2_readWet_32 oX2_moreNumbers w_938 rfl hl0 rfl rfl (Nat.le_of_ble_eq_true rfl) rfl (am_fit.of (by decide)) ⟨Nat.zero_le _, Nat.zero_le _⟩ ?_
      refine ev_ifeq 72 dX2_readWet_35 (by decide) (fun q5 => ?_) (fun q5 => ?_)
      · rw [if_pos q5] at hB
        exact ev_ls (u_X2_readWet_72 S3 hB) trivial
      · rw [if_neg q5] at hB
        refine ev_aload_n dX2_readWet_38 rfl ?_
        refine ev_iload_n dX2_readWet_39 rfl ?_
        refine ev_bipush 8 dX2_readWet_40 (by decide) ?_
        refine ev_bipush 9 dX2_readWet_42 (by decide) ?_
        refine ev_sipush 9999 dX2_readWet_44 (by decide) ?_
        obtain ⟨r6, S7, e8, hB⟩ := bd_of hB
        refine es_callVi (As := [.int l2, .int 8, .int 9, .int 9999]) (t_X2_readInRow hl0 e8) dX2_readWet_47 oX2_readInRow w_942 rfl hl0 rfl rfl (Nat.le_of_ble_eq_true rfl) rfl (am_fit.of (by decide)) ⟨Nat.zero_le _, Nat.zero_le _⟩ ?_
        refine ev_istore_n dX2_readWet_50 (by decide) rfl ?_
        refine ev_aload_n dX2_readWet_51 rfl ?_
        refine es_getr k_2 0 dX2_readWet_52 (by decide) rfl (Or.inl w_104) hl0 rfl ?_
        obtain ⟨r9, S10, e11, hB⟩ := bd_of hB
        refine es_callVi (As := []) (t_X8_isFine (tr_2_0 hl0) e11) dX2_readWet_55 oX8_isFine w_863 rfl (tr_2_0 hl0) rfl rfl (Nat.le_of_ble_eq_true rfl) rfl (am_fit.of (by decide)) ⟨Nat.zero_le _, Nat.zero_le _⟩ ?_
        refine ev_ifeq 66 dX2_readWet_58 (by decide) (fun q12 => ?_) (fun q12 => ?_)
        · rw [if_pos q12] at hB
          exact ev_ls (u_X2_readWet_66 ih l0 l1 l2 S10 hl0 hl1 hB) (And.intro rfl (And.intro rfl (And.intro rfl trivial)))
        · rw [if_neg q12] at hB
          refine ev_aload_n dX2_readWet_61 rfl ?_
          refine ev_iload_n dX2_readWet_62 rfl ?_
          obtain ⟨S14, e15, hB⟩ := bv_of hB
          refine es_callVv (As := [.int r6]) (t_X1_addWet hl1 e15) dX2_readWet_63 oX1_addWet w_955 rfl hl1 rfl rfl (Nat.le_of_ble_eq_true rfl) rfl (am_fit.of (by decide)) ⟨Nat.zero_le _, Nat.zero_le _⟩ ?_
          exact ev_ls (u_X2_readWet_66 ih l0 l1 l2 S14 hl0 hl1 hB) (And.intro rfl (And.intro rfl (And.intro rfl trivial)))
theorem u_X2_readWet_15 {G : am_G} {N : Nat} {h0 : am_H} {out : am_S} (l0 : Nat) (l1 : Nat) (S : am_S) (hl0 : isC 2 l0 = true) (hl1 : isC 1 l1 = true) (hB : b_X2_readWet_15 N l0 l1 S = some out) : Ev G (am_R 5 0 0) (am_Φ G h0 0 0 (q_v out) q_n) mX2_readWet 0 0 15 [some (.ref l0), some (.ref l1), none, none] [] (hp S) := by
  unfold b_X2_readWet_15 at hB
  refine ev_aload_n dX2_readWet_15 rfl ?_
  refine es_getr k_2 0 dX2_readWet_16 (by decide) rfl (Or.inl w_104) hl0 rfl ?_
  obtain ⟨S2, e3, hB⟩ := bv_of hB
  refine es_callVv (As := []) (t_X8_step (tr_2_0 hl0) e3) dX2_readWet_19 oX8_step w_909 rfl (tr_2_0 hl0) rfl rfl (Nat.le_of_ble_eq_true rfl) rfl (am_fit.of (by decide)) ⟨Nat.zero_le _, Nat.zero_le _⟩ ?_
  refine ev_iconst 0 dX2_readWet_22 (by decide) ?_
  refine ev_istore_n dX2_readWet_23 (by decide) rfl ?_
  exact ev_ls (u_X2_readWet_24 N l0 l1 0 S2 hl0 hl1 hB) (And.intro rfl (And.intro rfl (And.intro rfl trivial)))
theorem t_X2_readWet {G : am_G} {N : Nat} {l0 : Nat} {l1 : Nat} {S : am_S} {out : am_S} (hl0 : isC 2 l0 = true) (hl1 : isC 1 l1 = true) (hB : f_X2_readWet N l0 l1 S = some out) : am_Met G 5 mX2_readWet 0 0 [.ref l0, .ref l1] (hp S) (q_v out) q_n := by
  refine am_of (by decide +kernel) rfl rfl rfl (Nat.le_of_ble_eq_true rfl) ?_
  unfold f_X2_readWet at hB
  refine ev_aload_n dX2_readWet_0 rfl ?_
  refine es_geti k_1 10 dX2_readWet_1 (by decide) rfl (Or.inr ⟨_, n_156⟩) hl1 rfl ?_
  refine ev_ifle 15 dX2_readWet_4 (by decide) (fun q1 => ?_) (fun q1 => ?_)
  · rw [if_pos q1] at hB
    exact ev_ls (u_X2_readWet_15 l0 l1 S hl0 hl1 hB) (And.intro rfl (And.intro rfl trivial))
  · rw [if_neg q1] at hB
    refine ev_aload_n dX2_readWet_7 rfl ?_
    refine es_getr k_2 0 dX2_readWet_8 (by decide) rfl (Or.inl w_104) hl0 rfl ?_
    refine ev_iconst 5 dX2_readWet_11 (by decide) ?_
    obtain ⟨S3, e4, hB⟩ := bv_of hB
    refine es_callVv (As := [.int 5]) (t_X8_fail (tr_2_0 hl0) e4) dX2_readWet_12 oX8_fail w_905 rfl (tr_2_0 hl0) rfl rfl (Nat.le_of_ble_eq_true rfl) rfl (am_fit.of (by decide)) ⟨Nat.zero_le _, Nat.zero_le _⟩ ?_
    exact ev_ls (u_X2_readWet_15 l0 l1 S3 hl0 hl1 hB) (And.intro rfl (And.intro rfl trivial))
def b_X2_readLine_150 (N : Nat) (l0 : Nat) (S : am_S) : Option (am_S) := (bv (f_X8_takeSign N (rf l0 0) 59 S) (fun S2 => some S2))
def f_X2_readLine (N : Nat) (l0 : Nat) (l1 : Nat) (S : am_S) : Option (am_S) := (bd (f_X8_isWord N (rf l0 0) 1 S) (fun r1 S2 => (if r1 = 0 then (bd (f_X8_isWord N (rf l0 0) 2 S2) (fun r5 S6 => (if r5 = 0 then (bd (f_X8_isWord N (rf l0 0) 4 S6) (fun r9 S10 => (if r9 = 0 then (bd (f_X8_isWord N (rf l0 0) 5 S10) (fun r13 S14 => (if r13 = 0 then (bd (f_X8_isWord N (rf l0 0) 6 S14) (fun r17 S18 => (if r17 = 0 then (bd (f_X8_isWord N (rf l0 0) 19 S18) (fun r21 S22 => (if r21 = 0 then (bv (f_X8_fail N (rf l0 0) 1 S22) (fun S26 => b_X2_readLine_150 N l0 S26)) else (bv (f_X6_read N (rf l0 1) (rf l0 0) (rf l1 13) 0 S22) (fun S29 => b_X2_readLine_150 N l0 S29))))) else (bv (f_X6_read N (rf l0 1) (rf l0 0) (rf l1 12) 1 S18) (fun S32 => b_X2_readLine_150 N l0 S32))))) else (bv (f_X2_readWet N l0 l1 S14) (fun S35 => b_X2_readLine_150 N l0 S35))))) else (bv (f_X2_readRound N l0 l1 S10) (fun S38 => b_X2_readLine_150 N l0 S38))))) else (bv (f_X2_readPerson N l0 l1 S6) (fun S41 => b_X2_readLine_150 N l0 S41))))) else (bv (f_X2_readBox N l0 l1 S2) (fun S44 => b_X2_readLine_150 N l0 S44)))))
theorem u_X2_readLine_150 {G : am_G} {N : Nat} {h0 : am_H} {out : am_S} (l0 : Nat) (S : am_S) (hl0 : isC 2 l0 = true) (hB : b_X2_readLine_150 N l0 S = some out) : Ev G (am_R 15 0 0) (am_Φ G h0 0 0 (q_v out) q_n) mX2_readLine 0 0 150 [some (.ref l0), none] [] (hp S) := by
  unfold b_X2_readLine_150 at hB
  refine ev_aload_n dX2_readLine_150 rfl ?_
  refine es_getr k_2 0 dX2_readLine_151 (by decide) rfl (Or.inl w_104) hl0 rfl ?_
  refine ev_bipush 59 dX2_readLine_154 (by decide) ?_
  obtain ⟨S2, e3, hB⟩ := bv_of hB
  refine es_callVv (As := [.int 59]) (t_X8_takeSign (tr_2_0 hl0) e3) dX2_readLine_156 oX8_takeSign w_1041 rfl (tr_2_0 hl0) rfl rfl (Nat.le_of_ble_eq_true rfl) rfl (am_fit.of (by decide)) ⟨Nat.zero_le _, Nat.zero_le _⟩ ?_
  obtain rfl := Option.some.inj hB
  exact ev_vret dX2_readLine_159 rfl (Nat.zero_le _) (Nat.zero_le _) (fun z => absurd z (hp_sealed _)) ⟨rfl, rfl⟩
theorem t_X2_readLine {G : am_G} {N : Nat} {l0 : Nat} {l1 : Nat} {S : am_S} {out : am_S} (hl0 : isC 2 l0 = true) (hl1 : isC 1 l1 = true) (hB : f_X2_readLine N l0 l1 S = some out) : am_Met G 15 mX2_readLine 0 0 [.ref l0, .ref l1] (hp S) (q_v out) q_n := by
  refine am_of (by decide +kernel) rfl rfl rfl (Nat.le_of_ble_eq_true rfl) ?_
  unfold f_X2_readLine at hB
  refine ev_aload_n dX2_readLine_0 rfl ?_
  refine es_getr k_2 0 dX2_readLine_1 (by decide) rfl (Or.inl w_104) hl0 rfl ?_
  refine ev_ldcS 1 dX2_readLine_4 rfl rfl ?_
  obtain ⟨r1, S2, e3, hB⟩ := bd_of hB
  refine es_callVi (As := [.float (UInt32.ofNat 1)]) (t_X8_isWord (tr_2_0 hl0) (by decide) e3) dX2_readLine_6 oX8_isWord w_872 rfl (tr_2_0 hl0) rfl rfl (Nat.le_of_ble_eq_true rfl) rfl (am_fit.of (by decide)) ⟨Nat.zero_le _, Nat.zero_le _⟩ ?_
  refine ev_ifeq 20 dX2_readLine_9 (by decide) (fun q4 => ?_) (fun q4 => ?_)
  · rw [if_pos q4] at hB
    refine ev_aload_n dX2_readLine_20 rfl ?_
    refine es_getr k_2 0 dX2_readLine_21 (by decide) rfl (Or.inl w_104) hl0 rfl ?_
    refine ev_ldcS 2 dX2_readLine_24 rfl rfl ?_
    obtain ⟨r5, S6, e7, hB⟩ := bd_of hB
    refine es_callVi (As := [.float (UInt32.ofNat 2)]) (t_X8_isWord (tr_2_0 hl0) (by decide) e7) dX2_readLine_26 oX8_isWord w_872 rfl (tr_2_0 hl0) rfl rfl (Nat.le_of_ble_eq_true rfl) rfl (am_fit.of (by decide)) ⟨Nat.zero_le _, Nat.zero_le _⟩ ?_
    refine ev_ifeq 40 dX2_readLine_29 (by decide) (fun q8 => ?_) (fun q8 => ?_)
    · rw [if_pos q8] at hB
      refine ev_aload_n dX2_readLine_40 rfl ?_
      refine es_getr k_2 0 dX2_readLine_41 (by decide) rfl (Or.inl w_104) hl0 rfl ?_
      refine ev_ldcS 4 dX2_readLine_44 rfl rfl ?_
      obtain ⟨r9, S10, e11, hB⟩ := bd_of hB
      refine es_callVi (As := [.float (UInt32.ofNat 4)]) (t_X8_isWord (tr_2_0 hl0) (by decide) e11) dX2_readLine_46 oX8_isWord w_872 rfl (tr_2_0 hl0) rfl rfl (Nat.le_of_ble_eq_true rfl) rfl (am_fit.of (by decide)) ⟨Nat.zero_le _, Nat.zero_le _⟩ ?_
      refine ev_ifeq 60 dX2_readLine_49 (by decide) (fun q12 => ?_) (fun q12 => ?_)
      · rw [if_pos q12] at hB
        refine ev_aload_n dX2_readLine_60 rfl ?_
        refine es_getr k_2 0 dX2_readLine_61 (by decide) rfl (Or.inl w_104) hl0 rfl ?_
        refine ev_ldcS 5 dX2_readLine_64 rfl rfl ?_
        obtain ⟨r13, S14, e15, hB⟩ := bd_of hB
        refine es_callVi (As := [.float (UInt32.ofNat 5)]) (t_X8_isWord (tr_2_0 hl0) (by decide) e15) dX2_readLine_66 oX8_isWord w_872 rfl (tr_2_0 hl0) rfl rfl (Nat.le_of_ble_eq_true rfl) rfl (am_fit.of (by decide)) ⟨Nat.zero_le _, Nat.zero_le _⟩ ?_
        refine ev_ifeq 80 dX2_readLine_69 (by decide) (fun q16 => ?_) (fun q16 => ?_)
        · rw [if_pos q16] at hB
          refine ev_aload_n dX2_readLine_80 rfl ?_
          refine es_getr k_2 0 dX2_readLine_81 (by decide) rfl (Or.inl w_104) hl0 rfl ?_
          refine ev_ldcS 6 dX2_readLine_84 rfl rfl ?_
          obtain ⟨r17, S18, e19, hB⟩ := bd_of hB
          refine es_callVi (As := [.float (UInt32.ofNat 6)]) (t_X8_isWord (tr_2_0 hl0) (by decide) e19) dX2_readLine_86 oX8_isWord w_872 rfl (tr_2_0 hl0) rfl rfl (Nat.le_of_ble_eq_true rfl) rfl (am_fit.of (by decide)) ⟨Nat.zero_le _, Nat.zero_le _⟩ ?_
          refine ev_ifeq 111 dX2_readLine_89 (by decide) (fun q20 => ?_) (fun q20 => ?_)
          · rw [if_pos q20] at hB
            refine ev_aload_n dX2_readLine_111 rfl ?_
            refine es_getr k_2 0 dX2_readLine_112 (by decide) rfl (Or.inl w_104) hl0 rfl ?_
            refine ev_ldcS 19 dX2_readLine_115 rfl rfl ?_
            obtain ⟨r21, S22, e23, hB⟩ := bd_of hB
            refine es_callVi (As := [.float (UInt32.ofNat 19)]) (t_X8_isWord (tr_2_0 hl0) (by decide) e23) dX2_readLine_117 oX8_isWord w_872 rfl (tr_2_0 hl0) rfl rfl (Nat.le_of_ble_eq_true rfl) rfl (am_fit.of (by decide)) ⟨Nat.zero_le _, Nat.zero_le _⟩ ?_
            refine ev_ifeq 142 dX2_readLine_120 (by decide) (fun q24 => ?_) (fun q24 => ?_)
            · rw [if_pos q24] at hB
              refine ev_aload_n dX2_readLine_142 rfl ?_
              refine es_getr k_2 0 dX2_readLine_143 (by decide) rfl (Or.inl w_104) hl0 rfl ?_
              refine ev_iconst 1 dX2_readLine_146 (by decide) ?_
              obtain ⟨S26, e27, hB⟩ := bv_of hB
              refine es_callVv (As := [.int 1]) (t_X8_fail (tr_2_0 hl0) e27) dX2_readLine_147 oX8_fail w_905 rfl (tr_2_0 hl0) rfl rfl (Nat.le_of_ble_eq_true rfl) rfl (am_fit.of (by decide)) ⟨Nat.zero_le _, Nat.zero_le _⟩ ?_
              exact ev_ls (u_X2_readLine_150 l0 S26 hl0 hB) (And.intro rfl trivial)
            · rw [if_neg q24] at hB
              refine ev_aload_n dX2_readLine_123 rfl ?_
              refine es_getr k_2 1 dX2_readLine_124 (by decide) rfl (Or.inl w_105) hl0 rfl ?_
              refine ev_aload_n dX2_readLine_127 rfl ?_
              refine es_getr k_2 0 dX2_readLine_128 (by decide) rfl (Or.inl w_104) hl0 rfl ?_
              refine ev_aload_n dX2_readLine_131 rfl ?_
              refine es_getr k_1 13 dX2_readLine_132 (by decide) rfl (Or.inr ⟨_, n_161⟩) hl1 rfl ?_
              refine ev_iconst 0 dX2_readLine_135 (by decide) ?_
              obtain ⟨S29, e30, hB⟩ := bv_of hB
              refine es_callVv (As := [.ref (rf l0 0), .ref (rf l1 13), .int 0]) (t_X6_read (tr_2_1 hl0) (tr_2_0 hl0) (tr_1_13 hl1) e30) dX2_readLine_136 oX6_read w_960 rfl (tr_2_1 hl0) rfl rfl (Nat.le_of_ble_eq_true rfl) rfl (am_fit.of (by decide)) ⟨Nat.zero_le _, Nat.zero_le _⟩ ?_
              refine ev_goto 150 dX2_readLine_139 (by decide) ?_
              exact ev_ls (u_X2_readLine_150 l0 S29 hl0 hB) (And.intro rfl trivial)
          · rw [if_neg q20] at hB
            refine ev_aload_n dX2_readLine_92 rfl ?_
            refine es_getr k_2 1 dX2_readLine_93 (by decide) rfl (Or.inl w_105) hl0 rfl ?_
            refine ev_aload_n dX2_readLine_96 rfl ?_
            refine es_getr k_2 0 dX2_readLine_97 (by decide) rfl (Or.inl w_104) hl0 rfl ?_
            refine ev_aload_n dX2_readLine_100 rfl ?_
            refine es_getr k_1 12 dX2_readLine_101 (by decide) rfl (Or.inr ⟨_, n_159⟩) hl1 rfl ?_
            refine ev_iconst 1 dX2_readLine_104 (by decide) ?_
            obtain ⟨S32, e33, hB⟩ := bv_of hB
            refine es_callVv (As := [.ref (rf l0 0), .ref (rf l1 12), .int 1]) (t_X6_read (tr_2_1 hl0) (tr_2_0 hl0) (tr_1_12 hl1) e33) dX2_readLine_105 oX6_read w_960 rfl (tr_2_1 hl0) rfl rfl (Nat.le_of_ble_eq_true rfl) rfl (am_fit.of (by decide)) ⟨Nat.zero_le _, Nat.zero_le _⟩ ?_
            refine ev_goto 150 dX2_readLine_108 (by decide) ?_
            exact ev_ls (u_X2_readLine_150 l0 S32 hl0 hB) (And.intro rfl trivial)
        · rw [if_neg q16] at hB
          refine ev_aload_n dX2_readLine_72 rfl ?_
          refine ev_aload_n dX2_readLine_73 rfl ?_
          obtain ⟨S35, e36, hB⟩ := bv_of hB
          refine es_callVv (As := [.ref l1]) (t_X2_readWet hl0 hl1 e36) dX2_readLine_74 oX2_readWet w_951 rfl hl0 rfl rfl (Nat.le_of_ble_eq_true rfl) rfl (am_fit.of (by decide)) ⟨Nat.zero_le _, Nat.zero_le _⟩ ?_
          refine ev_goto 150 dX2_readLine_77 (by decide) ?_
          exact ev_ls (u_X2_readLine_150 l0 S35 hl0 hB) (And.intro rfl trivial)
      · rw [if_neg q12] at hB
        refine ev_aload_n dX2_readLine_52 rfl ?_
        refine ev_aload_n dX2_readLine_53 rfl ?_
        obtain ⟨S38, e39, hB⟩ := bv_of hB
        refine es_callVv (As := [.ref l1]) (t_X2_readRound hl0 hl1 e39) dX2_readLine_54 oX2_readRound w_934 rfl hl0 rfl rfl (Nat.le_of_ble_eq_true rfl) rfl (am_fit.of (by decide)) ⟨Nat.zero_le _, Nat.zero_le _⟩ ?_
        refine ev_goto 150 dX2_readLine_57 (by decide) ?_
        exact ev_ls (u_X2_readLine_150 l0 S38 hl0 hB) (And.intro rfl trivial)
    · rw [if_neg q8] at hB
      refine ev_aload_n dX2_readLine_32 rfl ?_
      refine ev_aload_n dX2_readLine_33 rfl ?_
      obtain ⟨S41, e42, hB⟩ := bv_of hB
      refine es_callVv (As := [.ref l1]) (t_X2_readPerson hl0 hl1 e42) dX2_readLine_34 oX2_readPerson w_920 rfl hl0 rfl rfl (Nat.le_of_ble_eq_true rfl) rfl (am_fit.of (by decide)) ⟨Nat.zero_le _, Nat.zero_le _⟩ ?_
      refine ev_goto 150 dX2_readLine_37 (by decide) ?_
      exact ev_ls (u_X2_readLine_150 l0 S41 hl0 hB) (And.intro rfl trivial)
  · rw [if_neg q4] at hB
    refine ev_aload_n dX2_readLine_12 rfl ?_
    refine ev_aload_n dX2_readLine_13 rfl ?_
    obtain ⟨S44, e45, hB⟩ := bv_of hB
    refine es_callVv (As := [.ref l1]) (t_X2_readBox hl0 hl1 e45) dX2_readLine_14 oX2_readBox w_901 rfl hl0 rfl rfl (Nat.le_of_ble_eq_true rfl) rfl (am_fit.of (by decide)) ⟨Nat.zero_le _, Nat.zero_le _⟩ ?_
    refine ev_goto 150 dX2_readLine_17 (by decide) ?_
    exact ev_ls (u_X2_readLine_150 l0 S44 hl0 hB) (And.intro rfl trivial)
def b_X1_nearestTo_43 (N : Nat) (k8 : Nat → Int32 → Int32 → Int32 → Int32 → am_S → Option (Int32 × am_S)) (l0 : Nat) (l1 : Int32) (l2 : Int32) (l3 : Int32) (l4 : Int32) (S : am_S) : Option (Int32 × am_S) := k8 l0 l1 l2 l3 (l4 + 1) S
def b_X1_nearestTo_8 (N : Nat) : Nat → Nat → Int32 → Int32 → Int32 → Int32 → am_S → Option (Int32 × am_S)
  | 0, _, _, _, _, _, _ => none
  | n + 1, l0, l1, l2, l3, l4, S => (if (sg S l0 0) ≤ l4 then some (l2, S) else (if inb l4 (ln (rf l0 1)) = true then (if l3 ≤ (jabs ((sg S (rf l0 1) (Int32.toNatClampNeg l4)) - l1)) then b_X1_nearestTo_43 N (b_X1_nearestTo_8 N n) l0 l1 l2 l3 l4 S else b_X1_nearestTo_43 N (b_X1_nearestTo_8 N n) l0 l1 l4 (jabs ((sg S (rf l0 1) (Int32.toNatClampNeg l4)) - l1)) l4 S) else none))
def f_X1_nearestTo (N : Nat) (l0 : Nat) (l1 : Int32) (S : am_S) : Option (Int32 × am_S) := b_X1_nearestTo_8 N N l0 l1 (-1) 31 0 S
theorem u_X1_nearestTo_43 {G : am_G} {N : Nat} {h0 : am_H} {out : Int32 × am_S} {k8 : Nat → Int32 → Int32 → Int32 → Int32 → am_S → Option (Int32 × am_S)} (hk8 : ∀ (l0 : Nat) (l1 : Int32) (l2 : Int32) (l3 : Int32) (l4 : Int32) (S : am_S), isC 1 l0 = true → k8 l0 l1 l2 l3 l4 S = some out → Ev G (am_R 1 0 0) (am_Φ G h0 0 0 (q_i out) q_n) mX1_nearestTo 0 0 8 [some (.ref l0), some (.int l1), some (.int l2), some (.int l3), some (.int l4), none] [] (hp S)) (l0 : Nat) (l1 : Int32) (l2 : Int32) (l3 : Int32) (l4 : Int32) (S : am_S) (hl0 : isC 1 l0 = true) (hB : b_X1_nearestTo_43 N k8 l0 l1 l2 l3 l4 S = some out) : Ev G (am_R 1 0 0) (am_Φ G h0 0 0 (q_i out) q_n) mX1_nearestTo 0 0 43 [some (.ref l0), some (.int l1), some (.int l2), some (.int l3), some (.int l4), none] [] (hp S) := by
  unfold b_X1_nearestTo_43 at hB
  refine es_iinc 1 dX1_nearestTo_43 rfl (by decide) (by decide) rfl ?_
  refine ev_goto 8 dX1_nearestTo_46 (by decide) ?_
  exact ev_ls (hk8 l0 l1 l2 l3 (l4 + 1) S hl0 hB) (And.intro rfl (And.intro rfl (And.intro rfl (And.intro rfl (And.intro rfl trivial)))))
theorem u_X1_nearestTo_8 {G : am_G} {N : Nat} {h0 : am_H} {out : Int32 × am_S} : ∀ (n : Nat) (l0 : Nat) (l1 : Int32) (l2 : Int32) (l3 : Int32) (l4 : Int32) (S : am_S), isC 1 l0 = true → b_X1_nearestTo_8 N n l0 l1 l2 l3 l4 S = some out → Ev G (am_R 1 0 0) (am_Φ G h0 0 0 (q_i out) q_n) mX1_nearestTo 0 0 8 [some (.ref l0), some (.int l1), some (.int l2), some (.int l3), some (.int l4), none] [] (hp S) := by
  intro n
  induction n with
  | zero =>
    intro l0 l1 l2 l3 l4 S hl0 hB
    exact absurd (show none = some out from hB) (fun q => by cases q)
  | succ n ih =>
    intro l0 l1 l2 l3 l4 S hl0 hB
    unfold b_X1_nearestTo_8 at hB
    refine ev_iload dX1_nearestTo_8 rfl ?_
    refine ev_aload_n dX1_nearestTo_10 rfl ?_
    refine es_geti k_1 0 dX1_nearestTo_11 (by decide) rfl (Or.inl w_133) hl0 rfl ?_
    refine ev_icmpge 49 dX1_nearestTo_14 (by decide) (fun q1 => ?_) (fun q1 => ?_)
    · rw [if_pos q1] at hB
      refine ev_iload_n dX1_nearestTo_49 rfl ?_
      obtain rfl := Option.some.inj hB
      exact ev_iret dX1_nearestTo_50 rfl (Nat.zero_le _) (Nat.zero_le _) (fun z => absurd z (hp_sealed _)) ⟨rfl, rfl⟩
    · rw [if_neg q1] at hB
      refine ev_aload_n dX1_nearestTo_17 rfl ?_
      refine es_getr k_1 1 dX1_nearestTo_18 (by decide) rfl (Or.inl w_137) hl0 rfl ?_
      refine ev_iload dX1_nearestTo_21 rfl ?_
      obtain ⟨c2, hB⟩ := ck_of hB
      refine es_iald dX1_nearestTo_23 (tr_1_1 hl0) c2 ?_
      refine ev_iload_n dX1_nearestTo_24 rfl ?_
      refine ev_isub dX1_nearestTo_25 ?_
      refine es_abs dX1_nearestTo_26 w_741 (Nat.le_of_ble_eq_true rfl) (am_fit.of (by decide)) ⟨Nat.zero_le _, Nat.zero_le _⟩ ?_
      refine ev_istore dX1_nearestTo_29 (by decide) rfl ?_
      refine ev_iload dX1_nearestTo_31 rfl ?_
      refine ev_iload_n dX1_nearestTo_33 rfl ?_
      refine ev_icmpge 43 dX1_nearestTo_34 (by decide) (fun q3 => ?_) (fun q3 => ?_)
      · rw [if_pos q3] at hB
        exact ev_ls (u_X1_nearestTo_43 ih l0 l1 l2 l3 l4 S hl0 hB) (And.intro rfl (And.intro rfl (And.intro rfl (And.intro rfl (And.intro rfl trivial)))))
      · rw [if_neg q3] at hB
        refine ev_iload dX1_nearestTo_37 rfl ?_
        refine ev_istore_n dX1_nearestTo_39 (by decide) rfl ?_
        refine ev_iload dX1_nearestTo_40 rfl ?_
        refine ev_istore_n dX1_nearestTo_42 (by decide) rfl ?_
        exact ev_ls (u_X1_nearestTo_43 ih l0 l1 l4 (jabs ((sg S (rf l0 1) (Int32.toNatClampNeg l4)) - l1)) l4 S hl0 hB) (And.intro rfl (And.intro rfl (And.intro rfl (And.intro rfl (And.intro rfl trivial)))))
theorem t_X1_nearestTo {G : am_G} {N : Nat} {l0 : Nat} {l1 : Int32} {S : am_S} {out : Int32 × am_S} (hl0 : isC 1 l0 = true) (hB : f_X1_nearestTo N l0 l1 S = some out) : am_Met G 1 mX1_nearestTo 0 0 [.ref l0, .int l1] (hp S) (q_i out) q_n := by
  refine am_of (by decide +kernel) rfl rfl rfl (Nat.le_of_ble_eq_true rfl) ?_
  unfold f_X1_nearestTo at hB
  refine ev_iconst (-1) dX1_nearestTo_0 (by decide) ?_
  refine ev_istore_n dX1_nearestTo_1 (by decide) rfl ?_
  refine ev_bipush 31 dX1_nearestTo_2 (by decide) ?_
  refine ev_istore_n dX1_nearestTo_4 (by decide) rfl ?_
  refine ev_iconst 0 dX1_nearestTo_5 (by decide) ?_
  refine ev_istore dX1_nearestTo_6 (by decide) rfl ?_
  exact ev_ls (u_X1_nearestTo_8 N l0 l1 (-1) 31 0 S hl0 hB) (And.intro rfl (And.intro rfl (And.intro rfl (And.intro rfl (And.intro rfl trivial)))))
def b_X1_settle_30 (N : Nat) (k2 : Nat → Int32 → am_S → Option (am_S)) (l0 : Nat) (l1 : Int32) (S : am_S) : Option (am_S) := (if inb l1 (ln (rf l0 4)) = true then (bd (f_X1_nearestTo N l0 (sg S (rf l0 4) (Int32.toNatClampNeg l1)) S) (fun r2 S3 => (if inb l1 (ln (rf l0 7)) = true then k2 l0 (l1 + 1) (sp S3 (rf l0 7) (Int32.toNatClampNeg l1) r2) else none))) else none)
def b_X1_settle_80 (N : Nat)  (S : am_S) : Option (am_S) := some S
def b_X1_settle_61 (N : Nat) : Nat → Nat → Int32 → am_S → Option (am_S)
  | 0, _, _, _ => none
  | n + 1, l0, l1, S => (if (sg S l0 0) ≤ l1 then b_X1_settle_80 N S else (bv (f_X1_addRound N l0 l1 S) (fun S3 => b_X1_settle_61 N n l0 (l1 + 1) S3)))
def b_X1_settle_2 (N : Nat) : Nat → Nat → Int32 → am_S → Option (am_S)
  | 0, _, _, _ => none
  | n + 1, l0, l1, S => (if (sg S l0 3) ≤ l1 then (if (sg S l0 8) = 0 then b_X1_settle_61 N N l0 0 S else b_X1_settle_80 N S) else (if inb l1 (ln (rf l0 6)) = true then (if (sg S (rf l0 6) (Int32.toNatClampNeg l1)) < (sg S l0 3) then b_X1_settle_30 N (b_X1_settle_2 N n) l0 l1 S else (if inb l1 (ln (rf l0 6)) = true then b_X1_settle_30 N (b_X1_settle_2 N n) l0 l1 (sp S (rf l0 6) (Int32.toNatClampNeg l1) (-1)) else none)) else none))
def f_X1_settle (N : Nat) (l0 : Nat) (S : am_S) : Option (am_S) := b_X1_settle_2 N N l0 0 S
theorem u_X1_settle_30 {G : am_G} {N : Nat} {h0 : am_H} {out : am_S} {k2 : Nat → Int32 → am_S → Option (am_S)} (hk2 : ∀ (l0 : Nat) (l1 : Int32) (S : am_S), isC 1 l0 = true → k2 l0 l1 S = some out → Ev G (am_R 2 0 0) (am_Φ G h0 0 0 (q_v out) q_n) mX1_settle 0 0 2 [some (.ref l0), some (.int l1)] [] (hp S)) (l0 : Nat) (l1 : Int32) (S : am_S) (hl0 : isC 1 l0 = true) (hB : b_X1_settle_30 N k2 l0 l1 S = some out) : Ev G (am_R 2 0 0) (am_Φ G h0 0 0 (q_v out) q_n) mX1_settle 0 0 30 [some (.ref l0), some (.int l1)] [] (hp S) := by
  unfold b_X1_settle_30 at hB
  refine ev_aload_n dX1_settle_30 rfl ?_
  refine es_getr k_1 7 dX1_settle_31 (by decide) rfl (Or.inl w_150) hl0 rfl ?_
  refine ev_iload_n dX1_settle_34 rfl ?_
  refine ev_aload_n dX1_settle_35 rfl ?_
  refine ev_aload_n dX1_settle_36 rfl ?_
  refine es_getr k_1 4 dX1_settle_37 (by decide) rfl (Or.inl w_144) hl0 rfl ?_
  refine ev_iload_n dX1_settle_40 rfl ?_
  obtain ⟨c1, hB⟩ := ck_of hB
  refine es_iald dX1_settle_41 (tr_1_4 hl0) c1 ?_
  obtain ⟨r2, S3, e4, hB⟩ := bd_of hB
  refine es_callVi (As := [.int (sg S (rf l0 4) (Int32.toNatClampNeg l1))]) (t_X1_nearestTo hl0 e4) dX1_settle_42 oX1_nearestTo w_1049 rfl hl0 rfl rfl (Nat.le_of_ble_eq_true rfl) rfl (am_fit.of (by decide)) ⟨Nat.zero_le _, Nat.zero_le _⟩ ?_
  obtain ⟨c5, hB⟩ := ck_of hB
  refine es_iast dX1_settle_45 (tr_1_7 hl0) c5 ?_
  refine es_iinc 1 dX1_settle_46 rfl (by decide) (by decide) rfl ?_
  refine ev_goto 2 dX1_settle_49 (by decide) ?_
  exact ev_ls (hk2 l0 (l1 + 1) (sp S3 (rf l0 7) (Int32.toNatClampNeg l1) r2) hl0 hB) (And.intro rfl (And.intro rfl trivial))
theorem u_X1_settle_80 {G : am_G} {N : Nat} {h0 : am_H} {out : am_S}  (S : am_S) (hB : b_X1_settle_80 N  S = some out) : Ev G (am_R 2 0 0) (am_Φ G h0 0 0 (q_v out) q_n) mX1_settle 0 0 80 [none, none] [] (hp S) := by
  unfold b_X1_settle_80 at hB
  obtain rfl := Option.some.inj hB
  exact ev_vret dX1_settle_80 rfl (Nat.zero_le _) (Nat.zero_le _) (fun z => absurd z (hp_sealed _)) ⟨rfl, rfl⟩
theorem u_X1_settle_61 {G : am_G} {N : Nat} {h0 : am_H} {out : am_S} : ∀ (n : Nat) (l0 : Nat) (l1 : Int32) (S : am_S), isC 1 l0 = true → b_X1_settle_61 N n l0 l1 S = some out → Ev G (am_R 2 0 0) (am_Φ G h0 0 0 (q_v out) q_n) mX1_settle 0 0 61 [some (.ref l0), some (.int l1)] [] (hp S) := by
  intro n
  induction n with
  | zero =>
    intro l0 l1 S hl0 hB
    exact absurd (show none = some out from hB) (fun q => by cases q)
  | succ n ih =>
    intro l0 l1 S hl0 hB
    unfold b_X1_settle_61 at hB
    refine ev_iload_n dX1_settle_61 rfl ?_
    refine ev_aload_n dX1_settle_62 rfl ?_
    refine es_geti k_1 0 dX1_settle_63 (by decide) rfl (Or.inl w_133) hl0 rfl ?_
    refine ev_icmpge 80 dX1_settle_66 (by decide) (fun q1 => ?_) (fun q1 => ?_)
    · rw [if_pos q1] at hB
      exact ev_ls (u_X1_settle_80 S hB) trivial
    · rw [if_neg q1] at hB
      refine ev_aload_n dX1_settle_69 rfl ?_
      refine ev_iload_n dX1_settle_70 rfl ?_
      obtain ⟨S3, e4, hB⟩ := bv_of hB
      refine es_callVv (As := [.int l1]) (t_X1_addRound hl0 e4) dX1_settle_71 oX1_addRound w_1053 rfl hl0 rfl rfl (Nat.le_of_ble_eq_true rfl) rfl (am_fit.of (by decide)) ⟨Nat.zero_le _, Nat.zero_le _⟩ ?_
      refine es_iinc 1 dX1_settle_74 rfl (by decide) (by decide) rfl ?_
      refine ev_goto 61 dX1_settle_77 (by decide) ?_
      exact ev_ls (ih l0 (l1 + 1) S3 hl0 hB) (And.intro rfl (And.intro rfl trivial))
theorem u_X1_settle_2 {G : am_G} {N : Nat} {h0 : am_H} {out : am_S} : ∀ (n : Nat) (l0 : Nat) (l1 : Int32) (S : am_S), isC 1 l0 = true → b_X1_settle_2 N n l0 l1 S = some out → Ev G (am_R 2 0 0) (am_Φ G h0 0 0 (q_v out) q_n) mX1_settle 0 0 2 [some (.ref l0), some (.int l1)] [] (hp S) := by
  intro n
  induction n with
  | zero =>
    intro l0 l1 S hl0 hB
    exact absurd (show none = some out from hB) (fun q => by cases q)
  | succ n ih =>
    intro l0 l1 S hl0 hB
    unfold b_X1_settle_2 at hB
    refine ev_iload_n dX1_settle_2 rfl ?_
    refine ev_aload_n dX1_settle_3 rfl ?_
    refine es_geti k_1 3 dX1_settle_4 (by decide) rfl (Or.inl w_141) hl0 rfl ?_
    refine ev_icmpge 52 dX1_settle_7 (by decide) (fun q1 => ?_) (fun q1 => ?_)
    · rw [if_pos q1] at hB
      refine ev_aload_n dX1_settle_52 rfl ?_
      refine es_geti k_1 8 dX1_settle_53 (by decide) rfl (Or.inl w_152) hl0 rfl ?_
      refine ev_ifne 80 dX1_settle_56 (by decide) (fun q2 => ?_) (fun q2 => ?_)
      · rw [if_neg q2] at hB
        exact ev_ls (u_X1_settle_80 S hB) trivial
      · rw [if_pos q2] at hB
        refine ev_iconst 0 dX1_settle_59 (by decide) ?_
        refine ev_istore_n dX1_settle_60 (by decide) rfl ?_
        exact ev_ls (u_X1_settle_61 N l0 0 S hl0 hB) (And.intro rfl (And.intro rfl trivial))
    · rw [if_neg q1] at hB
      refine ev_aload_n dX1_settle_10 rfl ?_
      refine es_getr k_1 6 dX1_settle_11 (by decide) rfl (Or.inl w_148) hl0 rfl ?_
      refine ev_iload_n dX1_settle_14 rfl ?_
      obtain ⟨c3, hB⟩ := ck_of hB
      refine es_iald dX1_settle_15 (tr_1_6 hl0) c3 ?_
      refine ev_aload_n dX1_settle_16 rfl ?_
      refine es_geti k_1 3 dX1_settle_17 (by decide) rfl (Or.inl w_141) hl0 rfl ?_
      refine ev_icmplt 30 dX1_settle_20 (by decide) (fun q4 => ?_) (fun q4 => ?_)
      · rw [if_pos q4] at hB
        exact ev_ls (u_X1_settle_30 ih l0 l1 S hl0 hB) (And.intro rfl (And.intro rfl trivial))
      · rw [if_neg q4] at hB
        refine ev_aload_n dX1_settle_23 rfl ?_
        refine es_getr k_1 6 dX1_settle_24 (by decide) rfl (Or.inl w_148) hl0 rfl ?_
        refine ev_iload_n dX1_settle_27 rfl ?_
        refine ev_iconst (-1) dX1_settle_28 (by decide) ?_
        obtain ⟨c5, hB⟩ := ck_of hB
        refine es_iast dX1_settle_29 (tr_1_6 hl0) c5 ?_
        exact ev_ls (u_X1_settle_30 ih l0 l1 (sp S (rf l0 6) (Int32.toNatClampNeg l1) (-1)) hl0 hB) (And.intro rfl (And.intro rfl trivial))
theorem t_X1_settle {G : am_G} {N : Nat} {l0 : Nat} {S : am_S} {out : am_S} (hl0 : isC 1 l0 = true) (hB : f_X1_settle N l0 S = some out) : am_Met G 2 mX1_settle 0 0 [.ref l0] (hp S) (q_v out) q_n := by
  refine am_of (by decide +kernel) rfl rfl rfl (Nat.le_of_ble_eq_true rfl) ?_
  unfold f_X1_settle at hB
  refine ev_iconst 0 dX1_settle_0 (by decide) ?_
  refine ev_istore_n dX1_settle_1 (by decide) rfl ?_
  exact ev_ls (u_X1_settle_2 N l0 0 S hl0 hB) (And.intro rfl (And.intro rfl trivial))
def b_X2_read_67 (N : Nat) (l0 : Nat) (S : am_S) : Option (Int32 × am_S) := some ((sg S (rf l0 0) 6), S)
def b_X2_read_53 (N : Nat) (l0 : Nat) (l3 : Nat) (S : am_S) : Option (Int32 × am_S) := (bd (f_X8_isFine N (rf l0 0) S) (fun r1 S2 => (if r1 = 0 then b_X2_read_67 N l0 S2 else (bv (f_X1_settle N l3 S2) (fun S6 => b_X2_read_67 N l0 S6)))))
def b_X2_read_16 (N : Nat) : Nat → Nat → Int32 → Nat → Int32 → am_S → Option (Int32 × am_S)
  | 0, _, _, _, _, _ => none
  | n + 1, l0, l2, l3, l4, S => (if l2 < l4 then b_X2_read_53 N l0 l3 S else (bd (f_X8_isFine N (rf l0 0) S) (fun r2 S3 => (if r2 = 0 then b_X2_read_53 N l0 l3 S3 else (if (sg S3 (rf l0 0) 4) = 0 then b_X2_read_53 N l0 l3 S3 else (bv (f_X2_readLine N l0 l3 S3) (fun S8 => b_X2_read_16 N n l0 l2 l3 (l4 + 1) S8)))))))
def f_X2_read (N : Nat) (l0 : Nat) (l1 : Nat) (l2 : Int32) (l3 : Nat) (S : am_S) : Option (Int32 × am_S) := (bv (f_X1_clearAll N l3 S) (fun S2 => (bv (f_X8_start N (rf l0 0) l1 l2 S2) (fun S5 => b_X2_read_16 N N l0 l2 l3 0 S5))))
theorem u_X2_read_67 {G : am_G} {N : Nat} {h0 : am_H} {out : Int32 × am_S} (l0 : Nat) (S : am_S) (hl0 : isC 2 l0 = true) (hB : b_X2_read_67 N l0 S = some out) : Ev G (am_R 16 0 0) (am_Φ G h0 0 0 (q_i out) q_n) mX2_read 0 0 67 [some (.ref l0), none, none, none, none] [] (hp S) := by
  unfold b_X2_read_67 at hB
  refine ev_aload_n dX2_read_67 rfl ?_
  refine es_getr k_2 0 dX2_read_68 (by decide) rfl (Or.inl w_104) hl0 rfl ?_
  refine es_geti k_8 6 dX2_read_71 (by decide) rfl (Or.inr ⟨_, n_61⟩) (tr_2_0 hl0) rfl ?_
  obtain rfl := Option.some.inj hB
  exact ev_iret dX2_read_74 rfl (Nat.zero_le _) (Nat.zero_le _) (fun z => absurd z (hp_sealed _)) ⟨rfl, rfl⟩
theorem u_X2_read_53 {G : am_G} {N : Nat} {h0 : am_H} {out : Int32 × am_S} (l0 : Nat) (l3 : Nat) (S : am_S) (hl0 : isC 2 l0 = true) (hl3 : isC 1 l3 = true) (hB : b_X2_read_53 N l0 l3 S = some out) : Ev G (am_R 16 0 0) (am_Φ G h0 0 0 (q_i out) q_n) mX2_read 0 0 53 [some (.ref l0), none, none, some (.ref l3), none] [] (hp S) := by
  unfold b_X2_read_53 at hB
  refine ev_aload_n dX2_read_53 rfl ?_
  refine es_getr k_2 0 dX2_read_54 (by decide) rfl (Or.inl w_104) hl0 rfl ?_
  obtain ⟨r1, S2, e3, hB⟩ := bd_of hB
  refine es_callVi (As := []) (t_X8_isFine (tr_2_0 hl0) e3) dX2_read_57 oX8_isFine w_863 rfl (tr_2_0 hl0) rfl rfl (Nat.le_of_ble_eq_true rfl) rfl (am_fit.of (by decide)) ⟨Nat.zero_le _, Nat.zero_le _⟩ ?_
  refine ev_ifeq 67 dX2_read_60 (by decide) (fun q4 => ?_) (fun q4 => ?_)
  · rw [if_pos q4] at hB
    exact ev_ls (u_X2_read_67 l0 S2 hl0 hB) (And.intro rfl trivial)
  · rw [if_neg q4] at hB
    refine ev_aload_n dX2_read_63 rfl ?_
    obtain ⟨S6, e7, hB⟩ := bv_of hB
    refine es_callVv (As := []) (t_X1_settle hl3 e7) dX2_read_64 oX1_settle w_1045 rfl hl3 rfl rfl (Nat.le_of_ble_eq_true rfl) rfl (am_fit.of (by decide)) ⟨Nat.zero_le _, Nat.zero_le _⟩ ?_
    exact ev_ls (u_X2_read_67 l0 S6 hl0 hB) (And.intro rfl trivial)
theorem u_X2_read_16 {G : am_G} {N : Nat} {h0 : am_H} {out : Int32 × am_S} : ∀ (n : Nat) (l0 : Nat) (l2 : Int32) (l3 : Nat) (l4 : Int32) (S : am_S), isC 2 l0 = true → isC 1 l3 = true → b_X2_read_16 N n l0 l2 l3 l4 S = some out → Ev G (am_R 16 0 0) (am_Φ G h0 0 0 (q_i out) q_n) mX2_read 0 0 16 [some (.ref l0), none, some (.int l2), some (.ref l3), some (.int l4)] [] (hp S) := by
  intro n
  induction n with
  | zero =>
    intro l0 l2 l3 l4 S hl0 hl3 hB
    exact absurd (show none = some out from hB) (fun q => by cases q)
  | succ n ih =>
    intro l0 l2 l3 l4 S hl0 hl3 hB
    unfold b_X2_read_16 at hB
    refine ev_iload dX2_read_16 rfl ?_
    refine ev_iload_n dX2_read_18 rfl ?_
    refine ev_icmpgt 53 dX2_read_19 (by decide) (fun q1 => ?_) (fun q1 => ?_)
    · rw [if_pos q1] at hB
      exact ev_ls (u_X2_read_53 l0 l3 S hl0 hl3 hB) (And.intro rfl (And.intro rfl trivial))
    · rw [if_neg q1] at hB
      refine ev_aload_n dX2_read_22 rfl ?_
      refine es_getr k_2 0 dX2_read_23 (by decide) rfl (Or.inl w_104) hl0 rfl ?_
      obtain ⟨r2, S3, e4, hB⟩ := bd_of hB
      refine es_callVi (As := []) (t_X8_isFine (tr_2_0 hl0) e4) dX2_read_26 oX8_isFine w_863 rfl (tr_2_0 hl0) rfl rfl (Nat.le_of_ble_eq_true rfl) rfl (am_fit.of (by decide)) ⟨Nat.zero_le _, Nat.zero_le _⟩ ?_
      refine ev_ifeq 53 dX2_read_29 (by decide) (fun q5 => ?_) (fun q5 => ?_)
      · rw [if_pos q5] at hB
        exact ev_ls (u_X2_read_53 l0 l3 S3 hl0 hl3 hB) (And.intro rfl (And.intro rfl trivial))
      · rw [if_neg q5] at hB
        refine ev_aload_n dX2_read_32 rfl ?_
        refine es_getr k_2 0 dX2_read_33 (by decide) rfl (Or.inl w_104) hl0 rfl ?_
        refine es_geti k_8 4 dX2_read_36 (by decide) rfl (Or.inr ⟨_, n_55⟩) (tr_2_0 hl0) rfl ?_
        refine ev_ifeq 53 dX2_read_39 (by decide) (fun q6 => ?_) (fun q6 => ?_)
        · rw [if_pos q6] at hB
          exact ev_ls (u_X2_read_53 l0 l3 S3 hl0 hl3 hB) (And.intro rfl (And.intro rfl trivial))
        · rw [if_neg q6] at hB
          refine ev_aload_n dX2_read_42 rfl ?_
          refine ev_aload_n dX2_read_43 rfl ?_
          obtain ⟨S8, e9, hB⟩ := bv_of hB
          refine es_callVv (As := [.ref l3]) (t_X2_readLine hl0 hl3 e9) dX2_read_44 oX2_readLine w_867 rfl hl0 rfl rfl (Nat.le_of_ble_eq_true rfl) rfl (am_fit.of (by decide)) ⟨Nat.zero_le _, Nat.zero_le _⟩ ?_
          refine es_iinc 1 dX2_read_47 rfl (by decide) (by decide) rfl ?_
          refine ev_goto 16 dX2_read_50 (by decide) ?_
          exact ev_ls (ih l0 l2 l3 (l4 + 1) S8 hl0 hl3 hB) (And.intro rfl (And.intro rfl (And.intro rfl (And.intro rfl trivial))))
theorem t_X2_read {G : am_G} {N : Nat} {l0 : Nat} {l1 : Nat} {l2 : Int32} {l3 : Nat} {S : am_S} {out : Int32 × am_S} (hl0 : isC 2 l0 = true) (hl1 : isAr 0 l1 = true) (hl3 : isC 1 l3 = true) (hB : f_X2_read N l0 l1 l2 l3 S = some out) : am_Met G 16 mX2_read 0 0 [.ref l0, .ref l1, .int l2, .ref l3] (hp S) (q_i out) q_n := by
  refine am_of (by decide +kernel) rfl rfl rfl (Nat.le_of_ble_eq_true rfl) ?_
  unfold f_X2_read at hB
  refine ev_aload_n dX2_read_0 rfl ?_
  obtain ⟨S2, e3, hB⟩ := bv_of hB
  refine es_callVv (As := []) (t_X1_clearAll hl3 e3) dX2_read_1 oX1_clearAll w_836 rfl hl3 rfl rfl (Nat.le_of_ble_eq_true rfl) rfl (am_fit.of (by decide)) ⟨Nat.zero_le _, Nat.zero_le _⟩ ?_
  refine ev_aload_n dX2_read_4 rfl ?_
  refine es_getr k_2 0 dX2_read_5 (by decide) rfl (Or.inl w_104) hl0 rfl ?_
  refine ev_aload_n dX2_read_8 rfl ?_
  refine ev_iload_n dX2_read_9 rfl ?_
  obtain ⟨S5, e6, hB⟩ := bv_of hB
  refine es_callVv (As := [.ref l1, .int l2]) (t_X8_start (tr_2_0 hl0) hl1 e6) dX2_read_10 oX8_start w_847 rfl (tr_2_0 hl0) rfl rfl (Nat.le_of_ble_eq_true rfl) rfl (am_fit.of (by decide)) ⟨Nat.zero_le _, Nat.zero_le _⟩ ?_
  refine ev_iconst 0 dX2_read_13 (by decide) ?_
  refine ev_istore dX2_read_14 (by decide) rfl ?_
  exact ev_ls (u_X2_read_16 N l0 l2 l3 0 S5 hl0 hl3 hB) (And.intro rfl (And.intro rfl (And.intro rfl (And.intro rfl trivial))))
def b_X2_placeOfFault_21 (N : Nat) (z0 : Int32) (S : am_S) : Option (Int32 × am_S) := some (z0, S)
def f_X2_placeOfFault (N : Nat) (l0 : Nat) (S : am_S) : Option (Int32 × am_S) := (bd (f_X8_isFine N (rf l0 0) S) (fun r1 S2 => (if r1 = 0 then b_X2_placeOfFault_21 N (sg S2 (rf l0 0) 2) S2 else b_X2_placeOfFault_21 N (-1) S2)))
theorem u_X2_placeOfFault_21 {G : am_G} {N : Nat} {h0 : am_H} {out : Int32 × am_S} (z0 : Int32) (S : am_S) (hB : b_X2_placeOfFault_21 N z0 S = some out) : Ev G (am_R 2 0 0) (am_Φ G h0 0 0 (q_i out) q_n) mX2_placeOfFault 0 0 21 [none] [.int z0] (hp S) := by
  unfold b_X2_placeOfFault_21 at hB
  obtain rfl := Option.some.inj hB
  exact ev_iret dX2_placeOfFault_21 rfl (Nat.zero_le _) (Nat.zero_le _) (fun z => absurd z (hp_sealed _)) ⟨rfl, rfl⟩
theorem t_X2_placeOfFault {G : am_G} {N : Nat} {l0 : Nat} {S : am_S} {out : Int32 × am_S} (hl0 : isC 2 l0 = true) (hB : f_X2_placeOfFault N l0 S = some out) : am_Met G 2 mX2_placeOfFault 0 0 [.ref l0] (hp S) (q_i out) q_n := by
  refine am_of (by decide +kernel) rfl rfl rfl (Nat.le_of_ble_eq_true rfl) ?_
  unfold f_X2_placeOfFault at hB
  refine ev_aload_n dX2_placeOfFault_0 rfl ?_
  refine es_getr k_2 0 dX2_placeOfFault_1 (by decide) rfl (Or.inl w_104) hl0 rfl ?_
  obtain ⟨r1, S2, e3, hB⟩ := bd_of hB
  refine es_callVi (As := []) (t_X8_isFine (tr_2_0 hl0) e3) dX2_placeOfFault_4 oX8_isFine w_863 rfl (tr_2_0 hl0) rfl rfl (Nat.le_of_ble_eq_true rfl) rfl (am_fit.of (by decide)) ⟨Nat.zero_le _, Nat.zero_le _⟩ ?_
  refine ev_ifeq 14 dX2_placeOfFault_7 (by decide) (fun q4 => ?_) (fun q4 => ?_)
  · rw [if_pos q4] at hB
    refine ev_aload_n dX2_placeOfFault_14 rfl ?_
    refine es_getr k_2 0 dX2_placeOfFault_15 (by decide) rfl (Or.inl w_104) hl0 rfl ?_
    refine es_geti k_8 2 dX2_placeOfFault_18 (by decide) rfl (Or.inr ⟨_, n_52⟩) (tr_2_0 hl0) rfl ?_
    exact ev_ls (u_X2_placeOfFault_21 (sg S2 (rf l0 0) 2) S2 hB) trivial
  · rw [if_neg q4] at hB
    refine ev_iconst (-1) dX2_placeOfFault_10 (by decide) ?_
    refine ev_goto 21 dX2_placeOfFault_11 (by decide) ?_
    exact ev_ls (u_X2_placeOfFault_21 (-1) S2 hB) trivial
def b_X1_wetOn_25 (N : Nat) (z0 : Int32) (S : am_S) : Option (Int32 × am_S) := some (z0, S)
def f_X1_wetOn (N : Nat) (l0 : Nat) (l1 : Int32) (S : am_S) : Option (Int32 × am_S) := (if 1 ≤ (sg S l0 10) then (bd (f_J9_floorMod_7cf53 N l1 (sg S l0 10) S) (fun r2 S3 => (if inb r2 (ln (rf l0 11)) = true then b_X1_wetOn_25 N (sg S3 (rf l0 11) (Int32.toNatClampNeg r2)) S3 else none))) else b_X1_wetOn_25 N 2 S)
theorem u_X1_wetOn_25 {G : am_G} {N : Nat} {h0 : am_H} {out : Int32 × am_S} (z0 : Int32) (S : am_S) (hB : b_X1_wetOn_25 N z0 S = some out) : Ev G (am_R 2 0 0) (am_Φ G h0 0 0 (q_i out) q_n) mX1_wetOn 0 0 25 [none, none] [.int z0] (hp S) := by
  unfold b_X1_wetOn_25 at hB
  obtain rfl := Option.some.inj hB
  exact ev_iret dX1_wetOn_25 rfl (Nat.zero_le _) (Nat.zero_le _) (fun z => absurd z (hp_sealed _)) ⟨rfl, rfl⟩
theorem t_X1_wetOn {G : am_G} {N : Nat} {l0 : Nat} {l1 : Int32} {S : am_S} {out : Int32 × am_S} (hl0 : isC 1 l0 = true) (hB : f_X1_wetOn N l0 l1 S = some out) : am_Met G 2 mX1_wetOn 0 0 [.ref l0, .int l1] (hp S) (q_i out) q_n := by
  refine am_of (by decide +kernel) rfl rfl rfl (Nat.le_of_ble_eq_true rfl) ?_
  unfold f_X1_wetOn at hB
  refine ev_aload_n dX1_wetOn_0 rfl ?_
  refine es_geti k_1 10 dX1_wetOn_1 (by decide) rfl (Or.inl w_155) hl0 rfl ?_
  refine ev_iconst 1 dX1_wetOn_4 (by decide) ?_
  refine ev_icmpge 12 dX1_wetOn_5 (by decide) (fun q1 => ?_) (fun q1 => ?_)
  · rw [if_pos q1] at hB
    refine ev_aload_n dX1_wetOn_12 rfl ?_
    refine es_getr k_1 11 dX1_wetOn_13 (by decide) rfl (Or.inl w_157) hl0 rfl ?_
    refine ev_iload_n dX1_wetOn_16 rfl ?_
    refine ev_aload_n dX1_wetOn_17 rfl ?_
    refine es_geti k_1 10 dX1_wetOn_18 (by decide) rfl (Or.inl w_155) hl0 rfl ?_
    obtain ⟨r2, S3, e4, hB⟩ := bd_of hB
    refine es_callSi (As := [.int l1, .int (sg S l0 10)]) (t_J9_floorMod_7cf53 e4) dX1_wetOn_21 oJ9_floorMod_7cf53 w_671 rfl (Nat.le_of_ble_eq_true rfl) rfl (am_fit.of (by decide)) ⟨Nat.zero_le _, Nat.zero_le _⟩ ?_
    obtain ⟨c5, hB⟩ := ck_of hB
    refine es_iald dX1_wetOn_24 (tr_1_11 hl0) c5 ?_
    exact ev_ls (u_X1_wetOn_25 (sg S3 (rf l0 11) (Int32.toNatClampNeg r2)) S3 hB) trivial
  · rw [if_neg q1] at hB
    refine ev_iconst 2 dX1_wetOn_8 (by decide) ?_
    refine ev_goto 25 dX1_wetOn_9 (by decide) ?_
    exact ev_ls (u_X1_wetOn_25 2 S hB) trivial
def b_X1_boxOn_25 (N : Nat) (z0 : Int32) (S : am_S) : Option (Int32 × am_S) := some (z0, S)
def f_X1_boxOn (N : Nat) (l0 : Nat) (l1 : Int32) (S : am_S) : Option (Int32 × am_S) := (if 1 ≤ (sg S l0 8) then (bd (f_J9_floorMod_7cf53 N l1 (sg S l0 8) S) (fun r2 S3 => (if inb r2 (ln (rf l0 9)) = true then b_X1_boxOn_25 N (sg S3 (rf l0 9) (Int32.toNatClampNeg r2)) S3 else none))) else b_X1_boxOn_25 N (-1) S)
theorem u_X1_boxOn_25 {G : am_G} {N : Nat} {h0 : am_H} {out : Int32 × am_S} (z0 : Int32) (S : am_S) (hB : b_X1_boxOn_25 N z0 S = some out) : Ev G (am_R 2 0 0) (am_Φ G h0 0 0 (q_i out) q_n) mX1_boxOn 0 0 25 [none, none] [.int z0] (hp S) := by
  unfold b_X1_boxOn_25 at hB
  obtain rfl := Option.some.inj hB
  exact ev_iret dX1_boxOn_25 rfl (Nat.zero_le _) (Nat.zero_le _) (fun z => absurd z (hp_sealed _)) ⟨rfl, rfl⟩
theorem t_X1_boxOn {G : am_G} {N : Nat} {l0 : Nat} {l1 : Int32} {S : am_S} {out : Int32 × am_S} (hl0 : isC 1 l0 = true) (hB : f_X1_boxOn N l0 l1 S = some out) : am_Met G 2 mX1_boxOn 0 0 [.ref l0, .int l1] (hp S) (q_i out) q_n := by
  refine am_of (by decide +kernel) rfl rfl rfl (Nat.le_of_ble_eq_true rfl) ?_
  unfold f_X1_boxOn at hB
  refine ev_aload_n dX1_boxOn_0 rfl ?_
  refine es_geti k_1 8 dX1_boxOn_1 (by decide) rfl (Or.inl w_152) hl0 rfl ?_
  refine ev_iconst 1 dX1_boxOn_4 (by decide) ?_
  refine ev_icmpge 12 dX1_boxOn_5 (by decide) (fun q1 => ?_) (fun q1 => ?_)
  · rw [if_pos q1] at hB
    refine ev_aload_n dX1_boxOn_12 rfl ?_
    refine es_getr k_1 9 dX1_boxOn_13 (by decide) rfl (Or.inl w_154) hl0 rfl ?_
    refine ev_iload_n dX1_boxOn_16 rfl ?_
    refine ev_aload_n dX1_boxOn_17 rfl ?_
    refine es_geti k_1 8 dX1_boxOn_18 (by decide) rfl (Or.inl w_152) hl0 rfl ?_
    obtain ⟨r2, S3, e4, hB⟩ := bd_of hB
    refine es_callSi (As := [.int l1, .int (sg S l0 8)]) (t_J9_floorMod_7cf53 e4) dX1_boxOn_21 oJ9_floorMod_7cf53 w_671 rfl (Nat.le_of_ble_eq_true rfl) rfl (am_fit.of (by decide)) ⟨Nat.zero_le _, Nat.zero_le _⟩ ?_
    obtain ⟨c5, hB⟩ := ck_of hB
    refine es_iald dX1_boxOn_24 (tr_1_9 hl0) c5 ?_
    exact ev_ls (u_X1_boxOn_25 (sg S3 (rf l0 9) (Int32.toNatClampNeg r2)) S3 hB) trivial
  · rw [if_neg q1] at hB
    refine ev_iconst (-1) dX1_boxOn_8 (by decide) ?_
    refine ev_goto 25 dX1_boxOn_9 (by decide) ?_
    exact ev_ls (u_X1_boxOn_25 (-1) S hB) trivial
def b_X1_mutualCouples_38 (N : Nat) (k4 : Nat → Nat → Int32 → Int32 → am_S → Option (Int32 × am_S)) (l0 : Nat) (l1 : Nat) (l2 : Int32) (l3 : Int32) (S : am_S) : Option (Int32 × am_S) := k4 l0 l1 l2 (l3 + 1) S
def b_X1_mutualCouples_4 (N : Nat) : Nat → Nat → Nat → Int32 → Int32 → am_S → Option (Int32 × am_S)
  | 0, _, _, _, _, _ => none
  | n + 1, l0, l1, l2, l3, S => (if (sg S l0 3) ≤ l3 then some (l2, S) else (bd (f_X7_atOf N l1 l3 S) (fun r2 S3 => (if r2 ≤ l3 then b_X1_mutualCouples_38 N (b_X1_mutualCouples_4 N n) l0 l1 l2 l3 S3 else (bd (f_X7_atOf N l1 r2 S3) (fun r6 S7 => (if r6 = l3 then b_X1_mutualCouples_38 N (b_X1_mutualCouples_4 N n) l0 l1 (l2 + 1) l3 S7 else b_X1_mutualCouples_38 N (b_X1_mutualCouples_4 N n) l0 l1 l2 l3 S7)))))))
def f_X1_mutualCouples (N : Nat) (l0 : Nat) (l1 : Nat) (S : am_S) : Option (Int32 × am_S) := b_X1_mutualCouples_4 N N l0 l1 0 0 S
theorem u_X1_mutualCouples_38 {G : am_G} {N : Nat} {h0 : am_H} {out : Int32 × am_S} {k4 : Nat → Nat → Int32 → Int32 → am_S → Option (Int32 × am_S)} (hk4 : ∀ (l0 : Nat) (l1 : Nat) (l2 : Int32) (l3 : Int32) (S : am_S), isC 1 l0 = true → isC 7 l1 = true → k4 l0 l1 l2 l3 S = some out → Ev G (am_R 2 0 0) (am_Φ G h0 0 0 (q_i out) q_n) mX1_mutualCouples 0 0 4 [some (.ref l0), some (.ref l1), some (.int l2), some (.int l3), none] [] (hp S)) (l0 : Nat) (l1 : Nat) (l2 : Int32) (l3 : Int32) (S : am_S) (hl0 : isC 1 l0 = true) (hl1 : isC 7 l1 = true) (hB : b_X1_mutualCouples_38 N k4 l0 l1 l2 l3 S = some out) : Ev G (am_R 2 0 0) (am_Φ G h0 0 0 (q_i out) q_n) mX1_mutualCouples 0 0 38 [some (.ref l0), some (.ref l1), some (.int l2), some (.int l3), none] [] (hp S) := by
  unfold b_X1_mutualCouples_38 at hB
  refine es_iinc 1 dX1_mutualCouples_38 rfl (by decide) (by decide) rfl ?_
  refine ev_goto 4 dX1_mutualCouples_41 (by decide) ?_
  exact ev_ls (hk4 l0 l1 l2 (l3 + 1) S hl0 hl1 hB) (And.intro rfl (And.intro rfl (And.intro rfl (And.intro rfl trivial))))
theorem u_X1_mutualCouples_4 {G : am_G} {N : Nat} {h0 : am_H} {out : Int32 × am_S} : ∀ (n : Nat) (l0 : Nat) (l1 : Nat) (l2 : Int32) (l3 : Int32) (S : am_S), isC 1 l0 = true → isC 7 l1 = true → b_X1_mutualCouples_4 N n l0 l1 l2 l3 S = some out → Ev G (am_R 2 0 0) (am_Φ G h0 0 0 (q_i out) q_n) mX1_mutualCouples 0 0 4 [some (.ref l0), some (.ref l1), some (.int l2), some (.int l3), none] [] (hp S) := by
  intro n
  induction n with
  | zero =>
    intro l0 l1 l2 l3 S hl0 hl1 hB
    exact absurd (show none = some out from hB) (fun q => by cases q)
  | succ n ih =>
    intro l0 l1 l2 l3 S hl0 hl1 hB
    unfold b_X1_mutualCouples_4 at hB
    refine ev_iload_n dX1_mutualCouples_4 rfl ?_
    refine ev_aload_n dX1_mutualCouples_5 rfl ?_
    refine es_geti k_1 3 dX1_mutualCouples_6 (by decide) rfl (Or.inl w_141) hl0 rfl ?_
    refine ev_icmpge 44 dX1_mutualCouples_9 (by decide) (fun q1 => ?_) (fun q1 => ?_)
    · rw [if_pos q1] at hB
      refine ev_iload_n dX1_mutualCouples_44 rfl ?_
      obtain rfl := Option.some.inj hB
      exact ev_iret dX1_mutualCouples_45 rfl (Nat.zero_le _) (Nat.zero_le _) (fun z => absurd z (hp_sealed _)) ⟨rfl, rfl⟩
    · rw [if_neg q1] at hB
      refine ev_aload_n dX1_mutualCouples_12 rfl ?_
      refine ev_iload_n dX1_mutualCouples_13 rfl ?_
      obtain ⟨r2, S3, e4, hB⟩ := bd_of hB
      refine es_callVi (As := [.int l3]) (t_X7_atOf hl1 e4) dX1_mutualCouples_14 oX7_atOf w_737 rfl hl1 rfl rfl (Nat.le_of_ble_eq_true rfl) rfl (am_fit.of (by decide)) ⟨Nat.zero_le _, Nat.zero_le _⟩ ?_
      refine ev_istore dX1_mutualCouples_17 (by decide) rfl ?_
      refine ev_iload dX1_mutualCouples_19 rfl ?_
      refine ev_iload_n dX1_mutualCouples_21 rfl ?_
      refine ev_icmple 38 dX1_mutualCouples_22 (by decide) (fun q5 => ?_) (fun q5 => ?_)
      · rw [if_pos q5] at hB
        exact ev_ls (u_X1_mutualCouples_38 ih l0 l1 l2 l3 S3 hl0 hl1 hB) (And.intro rfl (And.intro rfl (And.intro rfl (And.intro rfl trivial))))
      · rw [if_neg q5] at hB
        refine ev_aload_n dX1_mutualCouples_25 rfl ?_
        refine ev_iload dX1_mutualCouples_26 rfl ?_
        obtain ⟨r6, S7, e8, hB⟩ := bd_of hB
        refine es_callVi (As := [.int r2]) (t_X7_atOf hl1 e8) dX1_mutualCouples_28 oX7_atOf w_737 rfl hl1 rfl rfl (Nat.le_of_ble_eq_true rfl) rfl (am_fit.of (by decide)) ⟨Nat.zero_le _, Nat.zero_le _⟩ ?_
        refine ev_iload_n dX1_mutualCouples_31 rfl ?_
        refine ev_icmpne 38 dX1_mutualCouples_32 (by decide) (fun q9 => ?_) (fun q9 => ?_)
        · rw [if_neg q9] at hB
          exact ev_ls (u_X1_mutualCouples_38 ih l0 l1 l2 l3 S7 hl0 hl1 hB) (And.intro rfl (And.intro rfl (And.intro rfl (And.intro rfl trivial))))
        · rw [if_pos q9] at hB
          refine es_iinc 1 dX1_mutualCouples_35 rfl (by decide) (by decide) rfl ?_
          exact ev_ls (u_X1_mutualCouples_38 ih l0 l1 (l2 + 1) l3 S7 hl0 hl1 hB) (And.intro rfl (And.intro rfl (And.intro rfl (And.intro rfl trivial))))
theorem t_X1_mutualCouples {G : am_G} {N : Nat} {l0 : Nat} {l1 : Nat} {S : am_S} {out : Int32 × am_S} (hl0 : isC 1 l0 = true) (hl1 : isC 7 l1 = true) (hB : f_X1_mutualCouples N l0 l1 S = some out) : am_Met G 2 mX1_mutualCouples 0 0 [.ref l0, .ref l1] (hp S) (q_i out) q_n := by
  refine am_of (by decide +kernel) rfl rfl rfl (Nat.le_of_ble_eq_true rfl) ?_
  unfold f_X1_mutualCouples at hB
  refine ev_iconst 0 dX1_mutualCouples_0 (by decide) ?_
  refine ev_istore_n dX1_mutualCouples_1 (by decide) rfl ?_
  refine ev_iconst 0 dX1_mutualCouples_2 (by decide) ?_
  refine ev_istore_n dX1_mutualCouples_3 (by decide) rfl ?_
  exact ev_ls (u_X1_mutualCouples_4 N l0 l1 0 0 S hl0 hl1 hB) (And.intro rfl (And.intro rfl (And.intro rfl (And.intro rfl trivial))))
def b_X1_fanBits_31 (N : Nat) (k5 : Nat → Nat → Int32 → Int32 → Int32 → am_S → Option (Int32 × am_S)) (l0 : Nat) (l1 : Nat) (l2 : Int32) (l3 : Int32) (l4 : Int32) (S : am_S) : Option (Int32 × am_S) := k5 l0 l1 l2 l3 (l4 + 1) S
def b_X1_fanBits_5 (N : Nat) : Nat → Nat → Nat → Int32 → Int32 → Int32 → am_S → Option (Int32 × am_S)
  | 0, _, _, _, _, _, _ => none
  | n + 1, l0, l1, l2, l3, l4, S => (if (sg S l0 3) ≤ l4 then some (l3, S) else (bd (f_X7_atOf N l1 l4 S) (fun r2 S3 => (if r2 = l2 then b_X1_fanBits_31 N (b_X1_fanBits_5 N n) l0 l1 l2 (l3 ||| ((1 : Int32) <<< (l4 &&& (31 : Int32)))) l4 S3 else b_X1_fanBits_31 N (b_X1_fanBits_5 N n) l0 l1 l2 l3 l4 S3))))
def f_X1_fanBits (N : Nat) (l0 : Nat) (l1 : Nat) (l2 : Int32) (S : am_S) : Option (Int32 × am_S) := b_X1_fanBits_5 N N l0 l1 l2 0 0 S
theorem u_X1_fanBits_31 {G : am_G} {N : Nat} {h0 : am_H} {out : Int32 × am_S} {k5 : Nat → Nat → Int32 → Int32 → Int32 → am_S → Option (Int32 × am_S)} (hk5 : ∀ (l0 : Nat) (l1 : Nat) (l2 : Int32) (l3 : Int32) (l4 : Int32) (S : am_S), isC 1 l0 = true → isC 7 l1 = true → k5 l0 l1 l2 l3 l4 S = some out → Ev G (am_R 2 0 0) (am_Φ G h0 0 0 (q_i out) q_n) mX1_fanBits 0 0 5 [some (.ref l0), some (.ref l1), some (.int l2), some (.int l3), some (.int l4)] [] (hp S)) (l0 : Nat) (l1 : Nat) (l2 : Int32) (l3 : Int32) (l4 : Int32) (S : am_S) (hl0 : isC 1 l0 = true) (hl1 : isC 7 l1 = true) (hB : b_X1_fanBits_31 N k5 l0 l1 l2 l3 l4 S = some out) : Ev G (am_R 2 0 0) (am_Φ G h0 0 0 (q_i out) q_n) mX1_fanBits 0 0 31 [some (.ref l0), some (.ref l1), some (.int l2), some (.int l3), some (.int l4)] [] (hp S) := by
  unfold b_X1_fanBits_31 at hB
  refine es_iinc 1 dX1_fanBits_31 rfl (by decide) (by decide) rfl ?_
  refine ev_goto 5 dX1_fanBits_34 (by decide) ?_
  exact ev_ls (hk5 l0 l1 l2 l3 (l4 + 1) S hl0 hl1 hB) (And.intro rfl (And.intro rfl (And.intro rfl (And.intro rfl (And.intro rfl trivial)))))
theorem u_X1_fanBits_5 {G : am_G} {N : Nat} {h0 : am_H} {out : Int32 × am_S} : ∀ (n : Nat) (l0 : Nat) (l1 : Nat) (l2 : Int32) (l3 : Int32) (l4 : Int32) (S : am_S), isC 1 l0 = true → isC 7 l1 = true → b_X1_fanBits_5 N n l0 l1 l2 l3 l4 S = some out → Ev G (am_R 2 0 0) (am_Φ G h0 0 0 (q_i out) q_n) mX1_fanBits 0 0 5 [some (.ref l0), some (.ref l1), some (.int l2), some (.int l3), some (.int l4)] [] (hp S) := by
  intro n
  induction n with
  | zero =>
    intro l0 l1 l2 l3 l4 S hl0 hl1 hB
    exact absurd (show none = some out from hB) (fun q => by cases q)
  | succ n ih =>
    intro l0 l1 l2 l3 l4 S hl0 hl1 hB
    unfold b_X1_fanBits_5 at hB
    refine ev_iload dX1_fanBits_5 rfl ?_
    refine ev_aload_n dX1_fanBits_7 rfl ?_
    refine es_geti k_1 3 dX1_fanBits_8 (by decide) rfl (Or.inl w_141) hl0 rfl ?_
    refine ev_icmpge 37 dX1_fanBits_11 (by decide) (fun q1 => ?_) (fun q1 => ?_)
    · rw [if_pos q1] at hB
      refine ev_iload_n dX1_fanBits_37 rfl ?_
      obtain rfl := Option.some.inj hB
      exact ev_iret dX1_fanBits_38 rfl (Nat.zero_le _) (Nat.zero_le _) (fun z => absurd z (hp_sealed _)) ⟨rfl, rfl⟩
    · rw [if_neg q1] at hB
      refine ev_aload_n dX1_fanBits_14 rfl ?_
      refine ev_iload dX1_fanBits_15 rfl ?_
      obtain ⟨r2, S3, e4, hB⟩ := bd_of hB
      refine es_callVi (As := [.int l4]) (t_X7_atOf hl1 e4) dX1_fanBits_17 oX7_atOf w_737 rfl hl1 rfl rfl (Nat.le_of_ble_eq_true rfl) rfl (am_fit.of (by decide)) ⟨Nat.zero_le _, Nat.zero_le _⟩ ?_
      refine ev_iload_n dX1_fanBits_20 rfl ?_
      refine ev_icmpne 31 dX1_fanBits_21 (by decide) (fun q5 => ?_) (fun q5 => ?_)
      · rw [if_neg q5] at hB
        exact ev_ls (u_X1_fanBits_31 ih l0 l1 l2 l3 l4 S3 hl0 hl1 hB) (And.intro rfl (And.intro rfl (And.intro rfl (And.intro rfl (And.intro rfl trivial)))))
      · rw [if_pos q5] at hB
        refine ev_iload_n dX1_fanBits_24 rfl ?_
        refine ev_iconst 1 dX1_fanBits_25 (by decide) ?_
        refine ev_iload dX1_fanBits_26 rfl ?_
        refine ev_ishl dX1_fanBits_28 ?_
        refine ev_ior dX1_fanBits_29 ?_
        refine ev_istore_n dX1_fanBits_30 (by decide) rfl ?_
        exact ev_ls (u_X1_fanBits_31 ih l0 l1 l2 (l3 ||| ((1 : Int32) <<< (l4 &&& (31 : Int32)))) l4 S3 hl0 hl1 hB) (And.intro rfl (And.intro rfl (And.intro rfl (And.intro rfl (And.intro rfl trivial)))))
theorem t_X1_fanBits {G : am_G} {N : Nat} {l0 : Nat} {l1 : Nat} {l2 : Int32} {S : am_S} {out : Int32 × am_S} (hl0 : isC 1 l0 = true) (hl1 : isC 7 l1 = true) (hB : f_X1_fanBits N l0 l1 l2 S = some out) : am_Met G 2 mX1_fanBits 0 0 [.ref l0, .ref l1, .int l2] (hp S) (q_i out) q_n := by
  refine am_of (by decide +kernel) rfl rfl rfl (Nat.le_of_ble_eq_true rfl) ?_
  unfold f_X1_fanBits at hB
  refine ev_iconst 0 dX1_fanBits_0 (by decide) ?_
  refine ev_istore_n dX1_fanBits_1 (by decide) rfl ?_
  refine ev_iconst 0 dX1_fanBits_2 (by decide) ?_
  refine ev_istore dX1_fanBits_3 (by decide) rfl ?_
  exact ev_ls (u_X1_fanBits_5 N l0 l1 l2 0 0 S hl0 hl1 hB) (And.intro rfl (And.intro rfl (And.intro rfl (And.intro rfl (And.intro rfl trivial)))))
def b_X1_unthoughtBits_27 (N : Nat) (k4 : Nat → Nat → Int32 → Int32 → am_S → Option (Int32 × am_S)) (l0 : Nat) (l1 : Nat) (l2 : Int32) (l3 : Int32) (S : am_S) : Option (Int32 × am_S) := k4 l0 l1 l2 (l3 + 1) S
def b_X1_unthoughtBits_4 (N : Nat) : Nat → Nat → Nat → Int32 → Int32 → am_S → Option (Int32 × am_S)
  | 0, _, _, _, _, _ => none
  | n + 1, l0, l1, l2, l3, S => (if (sg S l0 3) ≤ l3 then some (l2, S) else (bd (f_X1_fanBits N l0 l1 l3 S) (fun r2 S3 => (if r2 = 0 then b_X1_unthoughtBits_27 N (b_X1_unthoughtBits_4 N n) l0 l1 (l2 ||| ((1 : Int32) <<< (l3 &&& (31 : Int32)))) l3 S3 else b_X1_unthoughtBits_27 N (b_X1_unthoughtBits_4 N n) l0 l1 l2 l3 S3))))
def f_X1_unthoughtBits (N : Nat) (l0 : Nat) (l1 : Nat) (S : am_S) : Option (Int32 × am_S) := b_X1_unthoughtBits_4 N N l0 l1 0 0 S
theorem u_X1_unthoughtBits_27 {G : am_G} {N : Nat} {h0 : am_H} {out : Int32 × am_S} {k4 : Nat → Nat → Int32 → Int32 → am_S → Option (Int32 × am_S)} (hk4 : ∀ (l0 : Nat) (l1 : Nat) (l2 : Int32) (l3 : Int32) (S : am_S), isC 1 l0 = true → isC 7 l1 = true → k4 l0 l1 l2 l3 S = some out → Ev G (am_R 3 0 0) (am_Φ G h0 0 0 (q_i out) q_n) mX1_unthoughtBits 0 0 4 [some (.ref l0), some (.ref l1), some (.int l2), some (.int l3)] [] (hp S)) (l0 : Nat) (l1 : Nat) (l2 : Int32) (l3 : Int32) (S : am_S) (hl0 : isC 1 l0 = true) (hl1 : isC 7 l1 = true) (hB : b_X1_unthoughtBits_27 N k4 l0 l1 l2 l3 S = some out) : Ev G (am_R 3 0 0) (am_Φ G h0 0 0 (q_i out) q_n) mX1_unthoughtBits 0 0 27 [some (.ref l0), some (.ref l1), some (.int l2), some (.int l3)] [] (hp S) := by
  unfold b_X1_unthoughtBits_27 at hB
  refine es_iinc 1 dX1_unthoughtBits_27 rfl (by decide) (by decide) rfl ?_
  refine ev_goto 4 dX1_unthoughtBits_30 (by decide) ?_
  exact ev_ls (hk4 l0 l1 l2 (l3 + 1) S hl0 hl1 hB) (And.intro rfl (And.intro rfl (And.intro rfl (And.intro rfl trivial))))
theorem u_X1_unthoughtBits_4 {G : am_G} {N : Nat} {h0 : am_H} {out : Int32 × am_S} : ∀ (n : Nat) (l0 : Nat) (l1 : Nat) (l2 : Int32) (l3 : Int32) (S : am_S), isC 1 l0 = true → isC 7 l1 = true → b_X1_unthoughtBits_4 N n l0 l1 l2 l3 S = some out → Ev G (am_R 3 0 0) (am_Φ G h0 0 0 (q_i out) q_n) mX1_unthoughtBits 0 0 4 [some (.ref l0), some (.ref l1), some (.int l2), some (.int l3)] [] (hp S) := by
  intro n
  induction n with
  | zero =>
    intro l0 l1 l2 l3 S hl0 hl1 hB
    exact absurd (show none = some out from hB) (fun q => by cases q)
  | succ n ih =>
    intro l0 l1 l2 l3 S hl0 hl1 hB
    unfold b_X1_unthoughtBits_4 at hB
    refine ev_iload_n dX1_unthoughtBits_4 rfl ?_
    refine ev_aload_n dX1_unthoughtBits_5 rfl ?_
    refine es_geti k_1 3 dX1_unthoughtBits_6 (by decide) rfl (Or.inl w_141) hl0 rfl ?_
    refine ev_icmpge 33 dX1_unthoughtBits_9 (by decide) (fun q1 => ?_) (fun q1 => ?_)
    · rw [if_pos q1] at hB
      refine ev_iload_n dX1_unthoughtBits_33 rfl ?_
      obtain rfl := Option.some.inj hB
      exact ev_iret dX1_unthoughtBits_34 rfl (Nat.zero_le _) (Nat.zero_le _) (fun z => absurd z (hp_sealed _)) ⟨rfl, rfl⟩
    · rw [if_neg q1] at hB
      refine ev_aload_n dX1_unthoughtBits_12 rfl ?_
      refine ev_aload_n dX1_unthoughtBits_13 rfl ?_
      refine ev_iload_n dX1_unthoughtBits_14 rfl ?_
      obtain ⟨r2, S3, e4, hB⟩ := bd_of hB
      refine es_callVi (As := [.ref l1, .int l3]) (t_X1_fanBits hl0 hl1 e4) dX1_unthoughtBits_15 oX1_fanBits w_1097 rfl hl0 rfl rfl (Nat.le_of_ble_eq_true rfl) rfl (am_fit.of (by decide)) ⟨Nat.zero_le _, Nat.zero_le _⟩ ?_
      refine ev_ifne 27 dX1_unthoughtBits_18 (by decide) (fun q5 => ?_) (fun q5 => ?_)
      · rw [if_neg q5] at hB
        exact ev_ls (u_X1_unthoughtBits_27 ih l0 l1 l2 l3 S3 hl0 hl1 hB) (And.intro rfl (And.intro rfl (And.intro rfl (And.intro rfl trivial))))
      · rw [if_pos q5] at hB
        refine ev_iload_n dX1_unthoughtBits_21 rfl ?_
        refine ev_iconst 1 dX1_unthoughtBits_22 (by decide) ?_
        refine ev_iload_n dX1_unthoughtBits_23 rfl ?_
        refine ev_ishl dX1_unthoughtBits_24 ?_
        refine ev_ior dX1_unthoughtBits_25 ?_
        refine ev_istore_n dX1_unthoughtBits_26 (by decide) rfl ?_
        exact ev_ls (u_X1_unthoughtBits_27 ih l0 l1 (l2 ||| ((1 : Int32) <<< (l3 &&& (31 : Int32)))) l3 S3 hl0 hl1 hB) (And.intro rfl (And.intro rfl (And.intro rfl (And.intro rfl trivial))))
theorem t_X1_unthoughtBits {G : am_G} {N : Nat} {l0 : Nat} {l1 : Nat} {S : am_S} {out : Int32 × am_S} (hl0 : isC 1 l0 = true) (hl1 : isC 7 l1 = true) (hB : f_X1_unthoughtBits N l0 l1 S = some out) : am_Met G 3 mX1_unthoughtBits 0 0 [.ref l0, .ref l1] (hp S) (q_i out) q_n := by
  refine am_of (by decide +kernel) rfl rfl rfl (Nat.le_of_ble_eq_true rfl) ?_
  unfold f_X1_unthoughtBits at hB
  refine ev_iconst 0 dX1_unthoughtBits_0 (by decide) ?_
  refine ev_istore_n dX1_unthoughtBits_1 (by decide) rfl ?_
  refine ev_iconst 0 dX1_unthoughtBits_2 (by decide) ?_
  refine ev_istore_n dX1_unthoughtBits_3 (by decide) rfl ?_
  exact ev_ls (u_X1_unthoughtBits_4 N l0 l1 0 0 S hl0 hl1 hB) (And.intro rfl (And.intro rfl (And.intro rfl (And.intro rfl trivial))))
def b_X1_nearBits_28 (N : Nat) (k4 : Nat → Int32 → Int32 → Int32 → am_S → Option (Int32 × am_S)) (l0 : Nat) (l1 : Int32) (l2 : Int32) (l3 : Int32) (S : am_S) : Option (Int32 × am_S) := k4 l0 l1 l2 (l3 + 1) S
def b_X1_nearBits_4 (N : Nat) : Nat → Nat → Int32 → Int32 → Int32 → am_S → Option (Int32 × am_S)
  | 0, _, _, _, _, _ => none
  | n + 1, l0, l1, l2, l3, S => (if (sg S l0 3) ≤ l3 then some (l2, S) else (if inb l3 (ln (rf l0 7)) = true then (if (sg S (rf l0 7) (Int32.toNatClampNeg l3)) = l1 then b_X1_nearBits_28 N (b_X1_nearBits_4 N n) l0 l1 (l2 ||| ((1 : Int32) <<< (l3 &&& (31 : Int32)))) l3 S else b_X1_nearBits_28 N (b_X1_nearBits_4 N n) l0 l1 l2 l3 S) else none))
def f_X1_nearBits (N : Nat) (l0 : Nat) (l1 : Int32) (S : am_S) : Option (Int32 × am_S) := b_X1_nearBits_4 N N l0 l1 0 0 S
theorem u_X1_nearBits_28 {G : am_G} {N : Nat} {h0 : am_H} {out : Int32 × am_S} {k4 : Nat → Int32 → Int32 → Int32 → am_S → Option (Int32 × am_S)} (hk4 : ∀ (l0 : Nat) (l1 : Int32) (l2 : Int32) (l3 : Int32) (S : am_S), isC 1 l0 = true → k4 l0 l1 l2 l3 S = some out → Ev G (am_R 1 0 0) (am_Φ G h0 0 0 (q_i out) q_n) mX1_nearBits 0 0 4 [some (.ref l0), some (.int l1), some (.int l2), some (.int l3)] [] (hp S)) (l0 : Nat) (l1 : Int32) (l2 : Int32) (l3 : Int32) (S : am_S) (hl0 : isC 1 l0 = true) (hB : b_X1_nearBits_28 N k4 l0 l1 l2 l3 S = some out) : Ev G (am_R 1 0 0) (am_Φ G h0 0 0 (q_i out) q_n) mX1_nearBits 0 0 28 [some (.ref l0), some (.int l1), some (.int l2), some (.int l3)] [] (hp S) := by
  unfold b_X1_nearBits_28 at hB
  refine es_iinc 1 dX1_nearBits_28 rfl (by decide) (by decide) rfl ?_
  refine ev_goto 4 dX1_nearBits_31 (by decide) ?_
  exact ev_ls (hk4 l0 l1 l2 (l3 + 1) S hl0 hB) (And.intro rfl (And.intro rfl (And.intro rfl (And.intro rfl trivial))))
theorem u_X1_nearBits_4 {G : am_G} {N : Nat} {h0 : am_H} {out : Int32 × am_S} : ∀ (n : Nat) (l0 : Nat) (l1 : Int32) (l2 : Int32) (l3 : Int32) (S : am_S), isC 1 l0 = true → b_X1_nearBits_4 N n l0 l1 l2 l3 S = some out → Ev G (am_R 1 0 0) (am_Φ G h0 0 0 (q_i out) q_n) mX1_nearBits 0 0 4 [some (.ref l0), some (.int l1), some (.int l2), some (.int l3)] [] (hp S) := by
  intro n
  induction n with
  | zero =>
    intro l0 l1 l2 l3 S hl0 hB
    exact absurd (show none = some out from hB) (fun q => by cases q)
  | succ n ih =>
    intro l0 l1 l2 l3 S hl0 hB
    unfold b_X1_nearBits_4 at hB
    refine ev_iload_n dX1_nearBits_4 rfl ?_
    refine ev_aload_n dX1_nearBits_5 rfl ?_
    refine es_geti k_1 3 dX1_nearBits_6 (by decide) rfl (Or.inl w_141) hl0 rfl ?_
    refine ev_icmpge 34 dX1_nearBits_9 (by decide) (fun q1 => ?_) (fun q1 => ?_)
    · rw [if_pos q1] at hB
      refine ev_iload_n dX1_nearBits_34 rfl ?_
      obtain rfl := Option.some.inj hB
      exact ev_iret dX1_nearBits_35 rfl (Nat.zero_le _) (Nat.zero_le _) (fun z => absurd z (hp_sealed _)) ⟨rfl, rfl⟩
    · rw [if_neg q1] at hB
      refine ev_aload_n dX1_nearBits_12 rfl ?_
      refine es_getr k_1 7 dX1_nearBits_13 (by decide) rfl (Or.inl w_150) hl0 rfl ?_
      refine ev_iload_n dX1_nearBits_16 rfl ?_
      obtain ⟨c2, hB⟩ := ck_of hB
      refine es_iald dX1_nearBits_17 (tr_1_7 hl0) c2 ?_
      refine ev_iload_n dX1_nearBits_18 rfl ?_
      refine ev_icmpne 28 dX1_nearBits_19 (by decide) (fun q3 => ?_) (fun q3 => ?_)
      · rw [if_neg q3] at hB
        exact ev_ls (u_X1_nearBits_28 ih l0 l1 l2 l3 S hl0 hB) (And.intro rfl (And.intro rfl (And.intro rfl (And.intro rfl trivial))))
      · rw [if_pos q3] at hB
        refine ev_iload_n dX1_nearBits_22 rfl ?_
        refine ev_iconst 1 dX1_nearBits_23 (by decide) ?_
        refine ev_iload_n dX1_nearBits_24 rfl ?_
        refine ev_ishl dX1_nearBits_25 ?_
        refine ev_ior dX1_nearBits_26 ?_
        refine ev_istore_n dX1_nearBits_27 (by decide) rfl ?_
        exact ev_ls (u_X1_nearBits_28 ih l0 l1 (l2 ||| ((1 : Int32) <<< (l3 &&& (31 : Int32)))) l3 S hl0 hB) (And.intro rfl (And.intro rfl (And.intro rfl (And.intro rfl trivial))))
theorem t_X1_nearBits {G : am_G} {N : Nat} {l0 : Nat} {l1 : Int32} {S : am_S} {out : Int32 × am_S} (hl0 : isC 1 l0 = true) (hB : f_X1_nearBits N l0 l1 S = some out) : am_Met G 1 mX1_nearBits 0 0 [.ref l0, .int l1] (hp S) (q_i out) q_n := by
  refine am_of (by decide +kernel) rfl rfl rfl (Nat.le_of_ble_eq_true rfl) ?_
  unfold f_X1_nearBits at hB
  refine ev_iconst 0 dX1_nearBits_0 (by decide) ?_
  refine ev_istore_n dX1_nearBits_1 (by decide) rfl ?_
  refine ev_iconst 0 dX1_nearBits_2 (by decide) ?_
  refine ev_istore_n dX1_nearBits_3 (by decide) rfl ?_
  exact ev_ls (u_X1_nearBits_4 N l0 l1 0 0 S hl0 hB) (And.intro rfl (And.intro rfl (And.intro rfl (And.intro rfl trivial))))
def b_X1_farthestFrom_58 (N : Nat) (k7 : Nat → Int32 → Int32 → Int32 → Int32 → am_S → Option (Int32 × am_S)) (l0 : Nat) (l1 : Int32) (l2 : Int32) (l3 : Int32) (l4 : Int32) (S : am_S) : Option (Int32 × am_S) := k7 l0 l1 l2 l3 (l4 + 1) S
def b_X1_farthestFrom_7 (N : Nat) : Nat → Nat → Int32 → Int32 → Int32 → Int32 → am_S → Option (Int32 × am_S)
  | 0, _, _, _, _, _, _ => none
  | n + 1, l0, l1, l2, l3, l4, S => (if (sg S l0 3) ≤ l4 then some (l2, S) else (if inb l1 (ln (rf l0 1)) = true then (if inb l4 (ln (rf l0 4)) = true then (if inb l4 (ln (rf l0 7)) = true then (if (sg S (rf l0 7) (Int32.toNatClampNeg l4)) = l1 then (if (jabs ((sg S (rf l0 1) (Int32.toNatClampNeg l1)) - (sg S (rf l0 4) (Int32.toNatClampNeg l4)))) ≤ l3 then b_X1_farthestFrom_58 N (b_X1_farthestFrom_7 N n) l0 l1 l2 l3 l4 S else b_X1_farthestFrom_58 N (b_X1_farthestFrom_7 N n) l0 l1 l4 (jabs ((sg S (rf l0 1) (Int32.toNatClampNeg l1)) - (sg S (rf l0 4) (Int32.toNatClampNeg l4)))) l4 S) else b_X1_farthestFrom_58 N (b_X1_farthestFrom_7 N n) l0 l1 l2 l3 l4 S) else none) else none) else none))
def f_X1_farthestFrom (N : Nat) (l0 : Nat) (l1 : Int32) (S : am_S) : Option (Int32 × am_S) := b_X1_farthestFrom_7 N N l0 l1 (-1) (-1) 0 S
theorem u_X1_farthestFrom_58 {G : am_G} {N : Nat} {h0 : am_H} {out : Int32 × am_S} {k7 : Nat → Int32 → Int32 → Int32 → Int32 → am_S → Option (Int32 × am_S)} (hk7 : ∀ (l0 : Nat) (l1 : Int32) (l2 : Int32) (l3 : Int32) (l4 : Int32) (S : am_S), isC 1 l0 = true → k7 l0 l1 l2 l3 l4 S = some out → Ev G (am_R 1 0 0) (am_Φ G h0 0 0 (q_i out) q_n) mX1_farthestFrom 0 0 7 [some (.ref l0), some (.int l1), some (.int l2), some (.int l3), some (.int l4), none] [] (hp S)) (l0 : Nat) (l1 : Int32) (l2 : Int32) (l3 : Int32) (l4 : Int32) (S : am_S) (hl0 : isC 1 l0 = true) (hB : b_X1_farthestFrom_58 N k7 l0 l1 l2 l3 l4 S = some out) : Ev G (am_R 1 0 0) (am_Φ G h0 0 0 (q_i out) q_n) mX1_farthestFrom 0 0 58 [some (.ref l0), some (.int l1), some (.int l2), some (.int l3), some (.int l4), none] [] (hp S) := by
  unfold b_X1_farthestFrom_58 at hB
  refine es_iinc 1 dX1_farthestFrom_58 rfl (by decide) (by decide) rfl ?_
  refine ev_goto 7 dX1_farthestFrom_61 (by decide) ?_
  exact ev_ls (hk7 l0 l1 l2 l3 (l4 + 1) S hl0 hB) (And.intro rfl (And.intro rfl (And.intro rfl (And.intro rfl (And.intro rfl trivial)))))
theorem u_X1_farthestFrom_7 {G : am_G} {N : Nat} {h0 : am_H} {out : Int32 × am_S} : ∀ (n : Nat) (l0 : Nat) (l1 : Int32) (l2 : Int32) (l3 : Int32) (l4 : Int32) (S : am_S), isC 1 l0 = true → b_X1_farthestFrom_7 N n l0 l1 l2 l3 l4 S = some out → Ev G (am_R 1 0 0) (am_Φ G h0 0 0 (q_i out) q_n) mX1_farthestFrom 0 0 7 [some (.ref l0), some (.int l1), some (.int l2), some (.int l3), some (.int l4), none] [] (hp S) := by
  intro n
  induction n with
  | zero =>
    intro l0 l1 l2 l3 l4 S hl0 hB
    exact absurd (show none = some out from hB) (fun q => by cases q)
  | succ n ih =>
    intro l0 l1 l2 l3 l4 S hl0 hB
    unfold b_X1_farthestFrom_7 at hB
    refine ev_iload dX1_farthestFrom_7 rfl ?_
    refine ev_aload_n dX1_farthestFrom_9 rfl ?_
    refine es_geti k_1 3 dX1_farthestFrom_10 (by decide) rfl (Or.inl w_141) hl0 rfl ?_
    refine ev_icmpge 64 dX1_farthestFrom_13 (by decide) (fun q1 => ?_) (fun q1 => ?_)
    · rw [if_pos q1] at hB
      refine ev_iload_n dX1_farthestFrom_64 rfl ?_
      obtain rfl := Option.some.inj hB
      exact ev_iret dX1_farthestFrom_65 rfl (Nat.zero_le _) (Nat.zero_le _) (fun z => absurd z (hp_sealed _)) ⟨rfl, rfl⟩
    · rw [if_neg q1] at hB
      refine ev_aload_n dX1_farthestFrom_16 rfl ?_
      refine es_getr k_1 1 dX1_farthestFrom_17 (by decide) rfl (Or.inl w_137) hl0 rfl ?_
      refine ev_iload_n dX1_farthestFrom_20 rfl ?_
      obtain ⟨c2, hB⟩ := ck_of hB
      refine es_iald dX1_farthestFrom_21 (tr_1_1 hl0) c2 ?_
      refine ev_aload_n dX1_farthestFrom_22 rfl ?_
      refine es_getr k_1 4 dX1_farthestFrom_23 (by decide) rfl (Or.inl w_144) hl0 rfl ?_
      refine ev_iload dX1_farthestFrom_26 rfl ?_
      obtain ⟨c3, hB⟩ := ck_of hB
      refine es_iald dX1_farthestFrom_28 (tr_1_4 hl0) c3 ?_
      refine ev_isub dX1_farthestFrom_29 ?_
      refine es_abs dX1_farthestFrom_30 w_741 (Nat.le_of_ble_eq_true rfl) (am_fit.of (by decide)) ⟨Nat.zero_le _, Nat.zero_le _⟩ ?_
      refine ev_istore dX1_farthestFrom_33 (by decide) rfl ?_
      refine ev_aload_n dX1_farthestFrom_35 rfl ?_
      refine es_getr k_1 7 dX1_farthestFrom_36 (by decide) rfl (Or.inl w_150) hl0 rfl ?_
      refine ev_iload dX1_farthestFrom_39 rfl ?_
      obtain ⟨c4, hB⟩ := ck_of hB
      refine es_iald dX1_farthestFrom_41 (tr_1_7 hl0) c4 ?_
      refine ev_iload_n dX1_farthestFrom_42 rfl ?_
      refine ev_icmpne 58 dX1_farthestFrom_43 (by decide) (fun q5 => ?_) (fun q5 => ?_)
      · rw [if_neg q5] at hB
        exact ev_ls (u_X1_farthestFrom_58 ih l0 l1 l2 l3 l4 S hl0 hB) (And.intro rfl (And.intro rfl (And.intro rfl (And.intro rfl (And.intro rfl trivial)))))
      · rw [if_pos q5] at hB
        refine ev_iload dX1_farthestFrom_46 rfl ?_
        refine ev_iload_n dX1_farthestFrom_48 rfl ?_
        refine ev_icmple 58 dX1_farthestFrom_49 (by decide) (fun q6 => ?_) (fun q6 => ?_)
        · rw [if_pos q6] at hB
          exact ev_ls (u_X1_farthestFrom_58 ih l0 l1 l2 l3 l4 S hl0 hB) (And.intro rfl (And.intro rfl (And.intro rfl (And.intro rfl (And.intro rfl trivial)))))
        · rw [if_neg q6] at hB
          refine ev_iload dX1_farthestFrom_52 rfl ?_
          refine ev_istore_n dX1_farthestFrom_54 (by decide) rfl ?_
          refine ev_iload dX1_farthestFrom_55 rfl ?_
          refine ev_istore_n dX1_farthestFrom_57 (by decide) rfl ?_
          exact ev_ls (u_X1_farthestFrom_58 ih l0 l1 l4 (jabs ((sg S (rf l0 1) (Int32.toNatClampNeg l1)) - (sg S (rf l0 4) (Int32.toNatClampNeg l4)))) l4 S hl0 hB) (And.intro rfl (And.intro rfl (And.intro rfl (And.intro rfl (And.intro rfl trivial)))))
theorem t_X1_farthestFrom {G : am_G} {N : Nat} {l0 : Nat} {l1 : Int32} {S : am_S} {out : Int32 × am_S} (hl0 : isC 1 l0 = true) (hB : f_X1_farthestFrom N l0 l1 S = some out) : am_Met G 1 mX1_farthestFrom 0 0 [.ref l0, .int l1] (hp S) (q_i out) q_n := by
  refine am_of (by decide +kernel) rfl rfl rfl (Nat.le_of_ble_eq_true rfl) ?_
  unfold f_X1_farthestFrom at hB
  refine ev_iconst (-1) dX1_farthestFrom_0 (by decide) ?_
  refine ev_istore_n dX1_farthestFrom_1 (by decide) rfl ?_
  refine ev_iconst (-1) dX1_farthestFrom_2 (by decide) ?_
  refine ev_istore_n dX1_farthestFrom_3 (by decide) rfl ?_
  refine ev_iconst 0 dX1_farthestFrom_4 (by decide) ?_
  refine ev_istore dX1_farthestFrom_5 (by decide) rfl ?_
  exact ev_ls (u_X1_farthestFrom_7 N l0 l1 (-1) (-1) 0 S hl0 hB) (And.intro rfl (And.intro rfl (And.intro rfl (And.intro rfl (And.intro rfl trivial)))))
def b_X1_neighbourBits_27 (N : Nat) (z0 : Int32) (S : am_S) : Option (Int32 × am_S) := some (z0, S)
def f_X1_neighbourBits (N : Nat) (l0 : Nat) (l1 : Int32) (S : am_S) : Option (Int32 × am_S) := (if inb l1 (ln (rf l0 7)) = true then (if (sg S (rf l0 7) (Int32.toNatClampNeg l1)) = (-1) then b_X1_neighbourBits_27 N 0 S else (bd (f_X1_nearBits N l0 (sg S (rf l0 7) (Int32.toNatClampNeg l1)) S) (fun r3 S4 => b_X1_neighbourBits_27 N (r3 &&& (((1 : Int32) <<< (l1 &&& (31 : Int32))) ^^^ (-1))) S4))) else none)
theorem u_X1_neighbourBits_27 {G : am_G} {N : Nat} {h0 : am_H} {out : Int32 × am_S} (z0 : Int32) (S : am_S) (hB : b_X1_neighbourBits_27 N z0 S = some out) : Ev G (am_R 2 0 0) (am_Φ G h0 0 0 (q_i out) q_n) mX1_neighbourBits 0 0 27 [none, none, none] [.int z0] (hp S) := by
  unfold b_X1_neighbourBits_27 at hB
  obtain rfl := Option.some.inj hB
  exact ev_iret dX1_neighbourBits_27 rfl (Nat.zero_le _) (Nat.zero_le _) (fun z => absurd z (hp_sealed _)) ⟨rfl, rfl⟩
theorem t_X1_neighbourBits {G : am_G} {N : Nat} {l0 : Nat} {l1 : Int32} {S : am_S} {out : Int32 × am_S} (hl0 : isC 1 l0 = true) (hB : f_X1_neighbourBits N l0 l1 S = some out) : am_Met G 2 mX1_neighbourBits 0 0 [.ref l0, .int l1] (hp S) (q_i out) q_n := by
  refine am_of (by decide +kernel) rfl rfl rfl (Nat.le_of_ble_eq_true rfl) ?_
  unfold f_X1_neighbourBits at hB
  refine ev_aload_n dX1_neighbourBits_0 rfl ?_
  refine es_getr k_1 7 dX1_neighbourBits_1 (by decide) rfl (Or.inl w_150) hl0 rfl ?_
  refine ev_iload_n dX1_neighbourBits_4 rfl ?_
  obtain ⟨c1, hB⟩ := ck_of hB
  refine es_iald dX1_neighbourBits_5 (tr_1_7 hl0) c1 ?_
  refine ev_istore_n dX1_neighbourBits_6 (by decide) rfl ?_
  refine ev_iload_n dX1_neighbourBits_7 rfl ?_
  refine ev_iconst (-1) dX1_neighbourBits_8 (by decide) ?_
  refine ev_icmpne 16 dX1_neighbourBits_9 (by decide) (fun q2 => ?_) (fun q2 => ?_)
  · rw [if_neg q2] at hB
    refine ev_aload_n dX1_neighbourBits_16 rfl ?_
    refine ev_iload_n dX1_neighbourBits_17 rfl ?_
    obtain ⟨r3, S4, e5, hB⟩ := bd_of hB
    refine es_callVi (As := [.int (sg S (rf l0 7) (Int32.toNatClampNeg l1))]) (t_X1_nearBits hl0 e5) dX1_neighbourBits_18 oX1_nearBits w_1159 rfl hl0 rfl rfl (Nat.le_of_ble_eq_true rfl) rfl (am_fit.of (by decide)) ⟨Nat.zero_le _, Nat.zero_le _⟩ ?_
    refine ev_iconst 1 dX1_neighbourBits_21 (by decide) ?_
    refine ev_iload_n dX1_neighbourBits_22 rfl ?_
    refine ev_ishl dX1_neighbourBits_23 ?_
    refine ev_iconst (-1) dX1_neighbourBits_24 (by decide) ?_
    refine ev_ixor dX1_neighbourBits_25 ?_
    refine ev_iand dX1_neighbourBits_26 ?_
    exact ev_ls (u_X1_neighbourBits_27 (r3 &&& (((1 : Int32) <<< (l1 &&& (31 : Int32))) ^^^ (-1))) S4 hB) trivial
  · rw [if_pos q2] at hB
    refine ev_iconst 0 dX1_neighbourBits_12 (by decide) ?_
    refine ev_goto 27 dX1_neighbourBits_13 (by decide) ?_
    exact ev_ls (u_X1_neighbourBits_27 0 S hB) trivial
def f_X1_thoughtsOf (N : Nat) (l0 : Nat) (l1 : Nat) (l2 : Int32) (l3 : Int32) (S : am_S) : Option (Int32 × am_S) := (bd (f_X5_isUntold N (rf l0 12) S) (fun r1 S2 => (if r1 = 0 then (if inb l2 (ln (rf l0 5)) = true then (if inb 0 (ln (rf l0 14)) = true then (bd (f_X7_regretOf N l1 l2 (sp S2 (rf l0 14) (Int32.toNatClampNeg 0) (sg S2 (rf l0 5) (Int32.toNatClampNeg l2)))) (fun r7 S8 => (if inb 1 (ln (rf l0 14)) = true then (bd (f_X7_heardBy N l1 l2 (sp S8 (rf l0 14) (Int32.toNatClampNeg 1) r7)) (fun r11 S12 => (if inb 2 (ln (rf l0 14)) = true then (bd (f_X7_redOf N l1 l3 (sp S12 (rf l0 14) (Int32.toNatClampNeg 2) r11)) (fun r15 S16 => (if inb 3 (ln (rf l0 14)) = true then (bd (f_X7_heldIn N l1 l3 (sp S16 (rf l0 14) (Int32.toNatClampNeg 3) r15)) (fun r19 S20 => (if inb 4 (ln (rf l0 14)) = true then (bd (f_X7_dayNow N l1 (sp S20 (rf l0 14) (Int32.toNatClampNeg 4) r19)) (fun r23 S24 => (if inb 5 (ln (rf l0 14)) = true then (bd (f_X5_worth N (rf l0 12) (rf l0 14) (sp S24 (rf l0 14) (Int32.toNatClampNeg 5) r23)) (fun r27 S28 => (bd (f_X9_keptWithin N r27 0 9 S28) (fun r30 S31 => some (r30, S31))))) else none))) else none))) else none))) else none))) else none))) else none) else none) else (if inb l2 (ln (rf l0 5)) = true then some ((sg S2 (rf l0 5) (Int32.toNatClampNeg l2)), S2) else none))))
theorem t_X1_thoughtsOf {G : am_G} {N : Nat} {l0 : Nat} {l1 : Nat} {l2 : Int32} {l3 : Int32} {S : am_S} {out : Int32 × am_S} (hl0 : isC 1 l0 = true) (hl1 : isC 7 l1 = true) (hB : f_X1_thoughtsOf N l0 l1 l2 l3 S = some out) : am_Met G 3 mX1_thoughtsOf 0 0 [.ref l0, .ref l1, .int l2, .int l3] (hp S) (q_i out) q_n := by
  refine am_of (by decide +kernel) rfl rfl rfl (Nat.le_of_ble_eq_true rfl) ?_
  unfold f_X1_thoughtsOf at hB
  refine ev_aload_n dX1_thoughtsOf_0 rfl ?_
  refine es_getr k_1 12 dX1_thoughtsOf_1 (by decide) rfl (Or.inl w_158) hl0 rfl ?_
  obtain ⟨r1, S2, e3, hB⟩ := bd_of hB
  refine es_callVi (As := []) (t_X5_isUntold (tr_1_12 hl0) e3) dX1_thoughtsOf_4 oX5_isUntold w_686 rfl (tr_1_12 hl0) rfl rfl (Nat.le_of_ble_eq_true rfl) rfl (am_fit.of (by decide)) ⟨Nat.zero_le _, Nat.zero_le _⟩ ?_
  refine ev_ifeq 17 dX1_thoughtsOf_7 (by decide) (fun q4 => ?_) (fun q4 => ?_)
  · rw [if_pos q4] at hB
    refine ev_aload_n dX1_thoughtsOf_17 rfl ?_
    refine es_getr k_1 14 dX1_thoughtsOf_18 (by decide) rfl (Or.inl w_162) hl0 rfl ?_
    refine ev_iconst 0 dX1_thoughtsOf_21 (by decide) ?_
    refine ev_aload_n dX1_thoughtsOf_22 rfl ?_
    refine es_getr k_1 5 dX1_thoughtsOf_23 (by decide) rfl (Or.inl w_146) hl0 rfl ?_
    refine ev_iload_n dX1_thoughtsOf_26 rfl ?_
    obtain ⟨c5, hB⟩ := ck_of hB
    refine es_iald dX1_thoughtsOf_27 (tr_1_5 hl0) c5 ?_
    obtain ⟨c6, hB⟩ := ck_of hB
    refine es_iast dX1_thoughtsOf_28 (tr_1_14 hl0) c6 ?_
    refine ev_aload_n dX1_thoughtsOf_29 rfl ?_
    refine es_getr k_1 14 dX1_thoughtsOf_30 (by decide) rfl (Or.inl w_162) hl0 rfl ?_
    refine ev_iconst 1 dX1_thoughtsOf_33 (by decide) ?_
    refine ev_aload_n dX1_thoughtsOf_34 rfl ?_
    refine ev_iload_n dX1_thoughtsOf_35 rfl ?_
    obtain ⟨r7, S8, e9, hB⟩ := bd_of hB
    refine es_callVi (As := [.int l2]) (t_X7_regretOf hl1 e9) dX1_thoughtsOf_36 oX7_regretOf w_690 rfl hl1 rfl rfl (Nat.le_of_ble_eq_true rfl) rfl (am_fit.of (by decide)) ⟨Nat.zero_le _, Nat.zero_le _⟩ ?_
    obtain ⟨c10, hB⟩ := ck_of hB
    refine es_iast dX1_thoughtsOf_39 (tr_1_14 hl0) c10 ?_
    refine ev_aload_n dX1_thoughtsOf_40 rfl ?_
    refine es_getr k_1 14 dX1_thoughtsOf_41 (by decide) rfl (Or.inl w_162) hl0 rfl ?_
    refine ev_iconst 2 dX1_thoughtsOf_44 (by decide) ?_
    refine ev_aload_n dX1_thoughtsOf_45 rfl ?_
    refine ev_iload_n dX1_thoughtsOf_46 rfl ?_
    obtain ⟨r11, S12, e13, hB⟩ := bd_of hB
    refine es_callVi (As := [.int l2]) (t_X7_heardBy hl1 e13) dX1_thoughtsOf_47 oX7_heardBy w_694 rfl hl1 rfl rfl (Nat.le_of_ble_eq_true rfl) rfl (am_fit.of (by decide)) ⟨Nat.zero_le _, Nat.zero_le _⟩ ?_
    obtain ⟨c14, hB⟩ := ck_of hB
    refine es_iast dX1_thoughtsOf_50 (tr_1_14 hl0) c14 ?_
    refine ev_aload_n dX1_thoughtsOf_51 rfl ?_
    refine es_getr k_1 14 dX1_thoughtsOf_52 (by decide) rfl (Or.inl w_162) hl0 rfl ?_
    refine ev_iconst 3 dX1_thoughtsOf_55 (by decide) ?_
    refine ev_aload_n dX1_thoughtsOf_56 rfl ?_
    refine ev_iload_n dX1_thoughtsOf_57 rfl ?_
    obtain ⟨r15, S16, e17, hB⟩ := bd_of hB
    refine es_callVi (As := [.int l3]) (t_X7_redOf hl1 e17) dX1_thoughtsOf_58 oX7_redOf w_698 rfl hl1 rfl rfl (Nat.le_of_ble_eq_true rfl) rfl (am_fit.of (by decide)) ⟨Nat.zero_le _, Nat.zero_le _⟩ ?_
    obtain ⟨c18, hB⟩ := ck_of hB
    refine es_iast dX1_thoughtsOf_61 (tr_1_14 hl0) c18 ?_
    refine ev_aload_n dX1_thoughtsOf_62 rfl ?_
    refine es_getr k_1 14 dX1_thoughtsOf_63 (by decide) rfl (Or.inl w_162) hl0 rfl ?_
    refine ev_iconst 4 dX1_thoughtsOf_66 (by decide) ?_
    refine ev_aload_n dX1_thoughtsOf_67 rfl ?_
    refine ev_iload_n dX1_thoughtsOf_68 rfl ?_
    obtain ⟨r19, S20, e21, hB⟩ := bd_of hB
    refine es_callVi (As := [.int l3]) (t_X7_heldIn hl1 e21) dX1_thoughtsOf_69 oX7_heldIn w_702 rfl hl1 rfl rfl (Nat.le_of_ble_eq_true rfl) rfl (am_fit.of (by decide)) ⟨Nat.zero_le _, Nat.zero_le _⟩ ?_
    obtain ⟨c22, hB⟩ := ck_of hB
    refine es_iast dX1_thoughtsOf_72 (tr_1_14 hl0) c22 ?_
    refine ev_aload_n dX1_thoughtsOf_73 rfl ?_
    refine es_getr k_1 14 dX1_thoughtsOf_74 (by decide) rfl (Or.inl w_162) hl0 rfl ?_
    refine ev_iconst 5 dX1_thoughtsOf_77 (by decide) ?_
    refine ev_aload_n dX1_thoughtsOf_78 rfl ?_
    obtain ⟨r23, S24, e25, hB⟩ := bd_of hB
    refine es_callVi (As := []) (t_X7_dayNow hl1 e25) dX1_thoughtsOf_79 oX7_dayNow w_666 rfl hl1 rfl rfl (Nat.le_of_ble_eq_true rfl) rfl (am_fit.of (by decide)) ⟨Nat.zero_le _, Nat.zero_le _⟩ ?_
    obtain ⟨c26, hB⟩ := ck_of hB
    refine es_iast dX1_thoughtsOf_82 (tr_1_14 hl0) c26 ?_
    refine ev_aload_n dX1_thoughtsOf_83 rfl ?_
    refine es_getr k_1 12 dX1_thoughtsOf_84 (by decide) rfl (Or.inl w_158) hl0 rfl ?_
    refine ev_aload_n dX1_thoughtsOf_87 rfl ?_
    refine es_getr k_1 14 dX1_thoughtsOf_88 (by decide) rfl (Or.inl w_162) hl0 rfl ?_
    obtain ⟨r27, S28, e29, hB⟩ := bd_of hB
    refine es_callVi (As := [.ref (rf l0 14)]) (t_X5_worth (tr_1_12 hl0) (tr_1_14 hl0) e29) dX1_thoughtsOf_91 oX5_worth w_710 rfl (tr_1_12 hl0) rfl rfl (Nat.le_of_ble_eq_true rfl) rfl (am_fit.of (by decide)) ⟨Nat.zero_le _, Nat.zero_le _⟩ ?_
    refine ev_iconst 0 dX1_thoughtsOf_94 (by decide) ?_
    refine ev_bipush 9 dX1_thoughtsOf_95 (by decide) ?_
    obtain ⟨r30, S31, e32, hB⟩ := bd_of hB
    refine es_callSNi (As := [.int r27, .int 0, .int 9]) (t_X9_keptWithin e32) dX1_thoughtsOf_97 oX9_keptWithin n_717 rfl (Nat.le_of_ble_eq_true rfl) rfl (am_fit.of (by decide)) ⟨Nat.zero_le _, Nat.zero_le _⟩ ?_
    obtain rfl := Option.some.inj hB
    exact ev_iret dX1_thoughtsOf_100 rfl (Nat.zero_le _) (Nat.zero_le _) (fun z => absurd z (hp_sealed _)) ⟨rfl, rfl⟩
  · rw [if_neg q4] at hB
    refine ev_aload_n dX1_thoughtsOf_10 rfl ?_
    refine es_getr k_1 5 dX1_thoughtsOf_11 (by decide) rfl (Or.inl w_146) hl0 rfl ?_
    refine ev_iload_n dX1_thoughtsOf_14 rfl ?_
    obtain ⟨c33, hB⟩ := ck_of hB
    refine es_iald dX1_thoughtsOf_15 (tr_1_5 hl0) c33 ?_
    obtain rfl := Option.some.inj hB
    exact ev_iret dX1_thoughtsOf_16 rfl (Nat.zero_le _) (Nat.zero_le _) (fun z => absurd z (hp_sealed _)) ⟨rfl, rfl⟩
def b_X1_fetchAll_158 (N : Nat) (k6 : Nat → Nat → Int32 → Int32 → Int32 → Int32 → am_S → Option (Int32 × am_S)) (l0 : Nat) (l1 : Nat) (l2 : Int32) (l3 : Int32) (l4 : Int32) (l5 : Int32) (l6 : Int32) (S : am_S) : Option (Int32 × am_S) := (bv (f_X7_letGo N l1 l3 l5 S) (fun S2 => k6 l0 l1 l2 l3 (l4 + l6) (l5 + 1) S2))
def b_X1_fetchAll_142 (N : Nat) (k6 : Nat → Nat → Int32 → Int32 → Int32 → Int32 → am_S → Option (Int32 × am_S)) (l0 : Nat) (l1 : Nat) (l2 : Int32) (l3 : Int32) (l4 : Int32) (l5 : Int32) (l6 : Int32) (l7 : Int32) (z0 : Int32) (S : am_S) : Option (Int32 × am_S) := (bd (f_X9_keptWithin N z0 0 99 S) (fun r1 S2 => (bv (f_X7_hear N l1 l7 r1 S2) (fun S5 => b_X1_fetchAll_158 N (k6) l0 l1 l2 l3 l4 l5 l6 S5))))
def b_X1_fetchAll_6 (N : Nat) : Nat → Nat → Nat → Int32 → Int32 → Int32 → Int32 → am_S → Option (Int32 × am_S)
  | 0, _, _, _, _, _, _, _ => none
  | n + 1, l0, l1, l2, l3, l4, l5, S => (if (sg S l0 3) ≤ l5 then some (l4, S) else (bd (f_X7_heldOf N l1 l3 l5 S) (fun r2 S3 => (bd (f_X7_atOf N l1 l5 S3) (fun r5 S6 => (if r2 ≤ 0 then b_X1_fetchAll_158 N (b_X1_fetchAll_6 N n) l0 l1 l2 l3 l4 l5 r2 S6 else (if r5 = (-1) then b_X1_fetchAll_158 N (b_X1_fetchAll_6 N n) l0 l1 l2 l3 l4 l5 r2 S6 else (if inb l3 (ln (rf l0 1)) = true then (if inb r5 (ln (rf l0 4)) = true then (if inb 0 (ln (rf l0 14)) = true then (if inb 1 (ln (rf l0 14)) = true then (bd (f_X7_heardBy N l1 r5 (sp (sp S6 (rf l0 14) (Int32.toNatClampNeg 0) r2) (rf l0 14) (Int32.toNatClampNeg 1) (jabs ((sg S6 (rf l0 1) (Int32.toNatClampNeg l3)) - (sg S6 (rf l0 4) (Int32.toNatClampNeg r5)))))) (fun r14 S15 => (if inb 2 (ln (rf l0 14)) = true then (if inb 3 (ln (rf l0 14)) = true then (bd (f_X7_dayNow N l1 (sp (sp S15 (rf l0 14) (Int32.toNatClampNeg 2) r14) (rf l0 14) (Int32.toNatClampNeg 3) l2)) (fun r19 S20 => (if inb 5 (ln (rf l0 14)) = true then (bd (f_X5_isUntold N (rf l0 13) (sp S20 (rf l0 14) (Int32.toNatClampNeg 5) r19)) (fun r23 S24 => (if r23 = 0 then (bd (f_X5_worth N (rf l0 13) (rf l0 14) S24) (fun r27 S28 => b_X1_fetchAll_142 N (b_X1_fetchAll_6 N n) l0 l1 l2 l3 l4 l5 r2 r5 r27 S28)) else b_X1_fetchAll_142 N (b_X1_fetchAll_6 N n) l0 l1 l2 l3 l4 l5 r2 r5 (((r2 / 2) + l2) - ((jabs ((sg S6 (rf l0 1) (Int32.toNatClampNeg l3)) - (sg S6 (rf l0 4) (Int32.toNatClampNeg r5)))) / 3)) S24))) else none))) else none) else none))) else none) else none) else none) else none))))))))
def f_X1_fetchAll (N : Nat) (l0 : Nat) (l1 : Nat) (l2 : Int32) (l3 : Int32) (S : am_S) : Option (Int32 × am_S) := b_X1_fetchAll_6 N N l0 l1 l2 l3 0 0 S
theorem u_X1_fetchAll_158 {G : am_G} {N : Nat} {h0 : am_H} {out : Int32 × am_S} {k6 : Nat → Nat → Int32 → Int32 → Int32 → Int32 → am_S → Option (Int32 × am_S)} (hk6 : ∀ (l0 : Nat) (l1 : Nat) (l2 : Int32) (l3 : Int32) (l4 : Int32) (l5 : Int32) (S : am_S), isC 1 l0 = true → isC 7 l1 = true → k6 l0 l1 l2 l3 l4 l5 S = some out → Ev G (am_R 3 0 0) (am_Φ G h0 0 0 (q_i out) q_n) mX1_fetchAll 0 0 6 [some (.ref l0), some (.ref l1), some (.int l2), some (.int l3), some (.int l4), some (.int l5), none, none, none, none] [] (hp S)) (l0 : Nat) (l1 : Nat) (l2 : Int32) (l3 : Int32) (l4 : Int32) (l5 : Int32) (l6 : Int32) (S : am_S) (hl0 : isC 1 l0 = true) (hl1 : isC 7 l1 = true) (hB : b_X1_fetchAll_158 N k6 l0 l1 l2 l3 l4 l5 l6 S = some out) : Ev G (am_R 3 0 0) (am_Φ G h0 0 0 (q_i out) q_n) mX1_fetchAll 0 0 158 [some (.ref l0), some (.ref l1), some (.int l2), some (.int l3), some (.int l4), some (.int l5), some (.int l6), none, none, none] [] (hp S) := by
  unfold b_X1_fetchAll_158 at hB
  refine ev_aload_n dX1_fetchAll_158 rfl ?_
  refine ev_iload_n dX1_fetchAll_159 rfl ?_
  refine ev_iload dX1_fetchAll_160 rfl ?_
  obtain ⟨S2, e3, hB⟩ := bv_of hB
  refine es_callVv (As := [.int l3, .int l5]) (t_X7_letGo hl1 e3) dX1_fetchAll_162 oX7_letGo w_748 rfl hl1 rfl rfl (Nat.le_of_ble_eq_true rfl) rfl (am_fit.of (by decide)) ⟨Nat.zero_le _, Nat.zero_le _⟩ ?_
  refine ev_iload dX1_fetchAll_165 rfl ?_
  refine ev_iload dX1_fetchAll_167 rfl ?_
  refine ev_iadd dX1_fetchAll_169 ?_
  refine ev_istore dX1_fetchAll_170 (by decide) rfl ?_
  refine es_iinc 1 dX1_fetchAll_172 rfl (by decide) (by decide) rfl ?_
  refine ev_goto 6 dX1_fetchAll_175 (by decide) ?_
  exact ev_ls (hk6 l0 l1 l2 l3 (l4 + l6) (l5 + 1) S2 hl0 hl1 hB) (And.intro rfl (And.intro rfl (And.intro rfl (And.intro rfl (And.intro rfl (And.intro rfl trivial))))))
theorem u_X1_fetchAll_142 {G : am_G} {N : Nat} {h0 : am_H} {out : Int32 × am_S} {k6 : Nat → Nat → Int32 → Int32 → Int32 → Int32 → am_S → Option (Int32 × am_S)} (hk6 : ∀ (l0 : Nat) (l1 : Nat) (l2 : Int32) (l3 : Int32) (l4 : Int32) (l5 : Int32) (S : am_S), isC 1 l0 = true → isC 7 l1 = true → k6 l0 l1 l2 l3 l4 l5 S = some out → Ev G (am_R 3 0 0) (am_Φ G h0 0 0 (q_i out) q_n) mX1_fetchAll 0 0 6 [some (.ref l0), some (.ref l1), some (.int l2), some (.int l3), some (.int l4), some (.int l5), none, none, none, none] [] (hp S)) (l0 : Nat) (l1 : Nat) (l2 : Int32) (l3 : Int32) (l4 : Int32) (l5 : Int32) (l6 : Int32) (l7 : Int32) (z0 : Int32) (S : am_S) (hl0 : isC 1 l0 = true) (hl1 : isC 7 l1 = true) (hB : b_X1_fetchAll_142 N k6 l0 l1 l2 l3 l4 l5 l6 l7 z0 S = some out) : Ev G (am_R 3 0 0) (am_Φ G h0 0 0 (q_i out) q_n) mX1_fetchAll 0 0 142 [some (.ref l0), some (.ref l1), some (.int l2), some (.int l3), some (.int l4), some (.int l5), some (.int l6), some (.int l7), none, none] [.int z0] (hp S) := by
  unfold b_X1_fetchAll_142 at hB
  refine ev_istore dX1_fetchAll_142 (by decide) rfl ?_
  refine ev_aload_n dX1_fetchAll_144 rfl ?_
  refine ev_iload dX1_fetchAll_145 rfl ?_
  refine ev_iload dX1_fetchAll_147 rfl ?_
  refine ev_iconst 0 dX1_fetchAll_149 (by decide) ?_
  refine ev_bipush 99 dX1_fetchAll_150 (by decide) ?_
  obtain ⟨r1, S2, e3, hB⟩ := bd_of hB
  refine es_callSNi (As := [.int z0, .int 0, .int 99]) (t_X9_keptWithin e3) dX1_fetchAll_152 oX9_keptWithin n_717 rfl (Nat.le_of_ble_eq_true rfl) rfl (am_fit.of (by decide)) ⟨Nat.zero_le _, Nat.zero_le _⟩ ?_
  obtain ⟨S5, e6, hB⟩ := bv_of hB
  refine es_callVv (As := [.int l7, .int r1]) (t_X7_hear hl1 e6) dX1_fetchAll_155 oX7_hear w_744 rfl hl1 rfl rfl (Nat.le_of_ble_eq_true rfl) rfl (am_fit.of (by decide)) ⟨Nat.zero_le _, Nat.zero_le _⟩ ?_
  exact ev_ls (u_X1_fetchAll_158 hk6 l0 l1 l2 l3 l4 l5 l6 S5 hl0 hl1 hB) (And.intro rfl (And.intro rfl (And.intro rfl (And.intro rfl (And.intro rfl (And.intro rfl (And.intro rfl trivial)))))))
theorem u_X1_fetchAll_6 {G : am_G} {N : Nat} {h0 : am_H} {out : Int32 × am_S} : ∀ (n : Nat) (l0 : Nat) (l1 : Nat) (l2 : Int32) (l3 : Int32) (l4 : Int32) (l5 : Int32) (S : am_S), isC 1 l0 = true → isC 7 l1 = true → b_X1_fetchAll_6 N n l0 l1 l2 l3 l4 l5 S = some out → Ev G (am_R 3 0 0) (am_Φ G h0 0 0 (q_i out) q_n) mX1_fetchAll 0 0 6 [some (.ref l0), some (.ref l1), some (.int l2), some (.int l3), some (.int l4), some (.int l5), none, none, none, none] [] (hp S) := by
  intro n
  induction n with
  | zero =>
    intro l0 l1 l2 l3 l4 l5 S hl0 hl1 hB
    exact absurd (show none = some out from hB) (fun q => by cases q)
  | succ n ih =>
    intro l0 l1 l2 l3 l4 l5 S hl0 hl1 hB
    unfold b_X1_fetchAll_6 at hB
    refine ev_iload dX1_fetchAll_6 rfl ?_
    refine ev_aload_n dX1_fetchAll_8 rfl ?_
    refine es_geti k_1 3 dX1_fetchAll_9 (by decide) rfl (Or.inl w_141) hl0 rfl ?_
    refine ev_icmpge 178 dX1_fetchAll_12 (by decide) (fun q1 => ?_) (fun q1 => ?_)
    · rw [if_pos q1] at hB
      refine ev_iload dX1_fetchAll_178 rfl ?_
      obtain rfl := Option.some.inj hB
      exact ev_iret dX1_fetchAll_180 rfl (Nat.zero_le _) (Nat.zero_le _) (fun z => absurd z (hp_sealed _)) ⟨rfl, rfl⟩
    · rw [if_neg q1] at hB
      refine ev_aload_n dX1_fetchAll_15 rfl ?_
      refine ev_iload_n dX1_fetchAll_16 rfl ?_
      refine ev_iload dX1_fetchAll_17 rfl ?_
      obtain ⟨r2, S3, e4, hB⟩ := bd_of hB
      refine es_callVi (As := [.int l3, .int l5]) (t_X7_heldOf hl1 e4) dX1_fetchAll_19 oX7_heldOf w_733 rfl hl1 rfl rfl (Nat.le_of_ble_eq_true rfl) rfl (am_fit.of (by decide)) ⟨Nat.zero_le _, Nat.zero_le _⟩ ?_
      refine ev_istore dX1_fetchAll_22 (by decide) rfl ?_
      refine ev_aload_n dX1_fetchAll_24 rfl ?_
      refine ev_iload dX1_fetchAll_25 rfl ?_
      obtain ⟨r5, S6, e7, hB⟩ := bd_of hB
      refine es_callVi (As := [.int l5]) (t_X7_atOf hl1 e7) dX1_fetchAll_27 oX7_atOf w_737 rfl hl1 rfl rfl (Nat.le_of_ble_eq_true rfl) rfl (am_fit.of (by decide)) ⟨Nat.zero_le _, Nat.zero_le _⟩ ?_
      refine ev_istore dX1_fetchAll_30 (by decide) rfl ?_
      refine ev_iload dX1_fetchAll_32 rfl ?_
      refine ev_ifle 158 dX1_fetchAll_34 (by decide) (fun q8 => ?_) (fun q8 => ?_)
      · rw [if_pos q8] at hB
        exact ev_ls (u_X1_fetchAll_158 ih l0 l1 l2 l3 l4 l5 r2 S6 hl0 hl1 hB) (And.intro rfl (And.intro rfl (And.intro rfl (And.intro rfl (And.intro rfl (And.intro rfl (And.intro rfl trivial)))))))
      · rw [if_neg q8] at hB
        refine ev_iload dX1_fetchAll_37 rfl ?_
        refine ev_iconst (-1) dX1_fetchAll_39 (by decide) ?_
        refine ev_icmpeq 158 dX1_fetchAll_40 (by decide) (fun q9 => ?_) (fun q9 => ?_)
        · rw [if_pos q9] at hB
          exact ev_ls (u_X1_fetchAll_158 ih l0 l1 l2 l3 l4 l5 r2 S6 hl0 hl1 hB) (And.intro rfl (And.intro rfl (And.intro rfl (And.intro rfl (And.intro rfl (And.intro rfl (And.intro rfl trivial)))))))
        · rw [if_neg q9] at hB
          refine ev_aload_n dX1_fetchAll_43 rfl ?_
          refine es_getr k_1 1 dX1_fetchAll_44 (by decide) rfl (Or.inl w_137) hl0 rfl ?_
          refine ev_iload_n dX1_fetchAll_47 rfl ?_
          obtain ⟨c10, hB⟩ := ck_of hB
          refine es_iald dX1_fetchAll_48 (tr_1_1 hl0) c10 ?_
          refine ev_aload_n dX1_fetchAll_49 rfl ?_
          refine es_getr k_1 4 dX1_fetchAll_50 (by decide) rfl (Or.inl w_144) hl0 rfl ?_
          refine ev_iload dX1_fetchAll_53 rfl ?_
          obtain ⟨c11, hB⟩ := ck_of hB
          refine es_iald dX1_fetchAll_55 (tr_1_4 hl0) c11 ?_
          refine ev_isub dX1_fetchAll_56 ?_
          refine es_abs dX1_fetchAll_57 w_741 (Nat.le_of_ble_eq_true rfl) (am_fit.of (by decide)) ⟨Nat.zero_le _, Nat.zero_le _⟩ ?_
          refine ev_istore dX1_fetchAll_60 (by decide) rfl ?_
          refine ev_aload_n dX1_fetchAll_62 rfl ?_
          refine es_getr k_1 14 dX1_fetchAll_63 (by decide) rfl (Or.inl w_162) hl0 rfl ?_
          refine ev_iconst 0 dX1_fetchAll_66 (by decide) ?_
          refine ev_iload dX1_fetchAll_67 rfl ?_
          obtain ⟨c12, hB⟩ := ck_of hB
          refine es_iast dX1_fetchAll_69 (tr_1_14 hl0) c12 ?_
          refine ev_aload_n dX1_fetchAll_70 rfl ?_
          refine es_getr k_1 14 dX1_fetchAll_71 (by decide) rfl (Or.inl w_162) hl0 rfl ?_
          refine ev_iconst 1 dX1_fetchAll_74 (by decide) ?_
          refine ev_iload dX1_fetchAll_75 rfl ?_
          obtain ⟨c13, hB⟩ := ck_of hB
          refine es_iast dX1_fetchAll_77 (tr_1_14 hl0) c13 ?_
          refine ev_aload_n dX1_fetchAll_78 rfl ?_
          refine es_getr k_1 14 dX1_fetchAll_79 (by decide) rfl (Or.inl w_162) hl0 rfl ?_
          refine ev_iconst 2 dX1_fetchAll_82 (by decide) ?_
          refine ev_aload_n dX1_fetchAll_83 rfl ?_
          refine ev_iload dX1_fetchAll_84 rfl ?_
          obtain ⟨r14, S15, e16, hB⟩ := bd_of hB
          refine es_callVi (As := [.int r5]) (t_X7_heardBy hl1 e16) dX1_fetchAll_86 oX7_heardBy w_694 rfl hl1 rfl rfl (Nat.le_of_ble_eq_true rfl) rfl (am_fit.of (by decide)) ⟨Nat.zero_le _, Nat.zero_le _⟩ ?_
          obtain ⟨c17, hB⟩ := ck_of hB
          refine es_iast dX1_fetchAll_89 (tr_1_14 hl0) c17 ?_
          refine ev_aload_n dX1_fetchAll_90 rfl ?_
          refine es_getr k_1 14 dX1_fetchAll_91 (by decide) rfl (Or.inl w_162) hl0 rfl ?_
          refine ev_iconst 3 dX1_fetchAll_94 (by decide) ?_
          refine ev_iload_n dX1_fetchAll_95 rfl ?_
          obtain ⟨c18, hB⟩ := ck_of hB
          refine es_iast dX1_fetchAll_96 (tr_1_14 hl0) c18 ?_
          refine ev_aload_n dX1_fetchAll_97 rfl ?_
          refine es_getr k_1 14 dX1_fetchAll_98 (by decide) rfl (Or.inl w_162) hl0 rfl ?_
          refine ev_iconst 5 dX1_fetchAll_101 (by decide) ?_
          refine ev_aload_n dX1_fetchAll_102 rfl ?_
          obtain ⟨r19, S20, e21, hB⟩ := bd_of hB
          refine es_callVi (As := []) (t_X7_dayNow hl1 e21) dX1_fetchAll_103 oX7_dayNow w_666 rfl hl1 rfl rfl (Nat.le_of_ble_eq_true rfl) rfl (am_fit.of (by decide)) ⟨Nat.zero_le _, Nat.zero_le _⟩ ?_
          obtain ⟨c22, hB⟩ := ck_of hB
          refine es_iast dX1_fetchAll_106 (tr_1_14 hl0) c22 ?_
          refine ev_aload_n dX1_fetchAll_107 rfl ?_
          refine es_getr k_1 13 dX1_fetchAll_108 (by decide) rfl (Or.inl w_160) hl0 rfl ?_
          obtain ⟨r23, S24, e25, hB⟩ := bd_of hB
          refine es_callVi (As := []) (t_X5_isUntold (tr_1_13 hl0) e25) dX1_fetchAll_111 oX5_isUntold w_686 rfl (tr_1_13 hl0) rfl rfl (Nat.le_of_ble_eq_true rfl) rfl (am_fit.of (by decide)) ⟨Nat.zero_le _, Nat.zero_le _⟩ ?_
          refine ev_ifeq 131 dX1_fetchAll_114 (by decide) (fun q26 => ?_) (fun q26 => ?_)
          · rw [if_pos q26] at hB
            refine ev_aload_n dX1_fetchAll_131 rfl ?_
            refine es_getr k_1 13 dX1_fetchAll_132 (by decide) rfl (Or.inl w_160) hl0 rfl ?_
            refine ev_aload_n dX1_fetchAll_135 rfl ?_
            refine es_getr k_1 14 dX1_fetchAll_136 (by decide) rfl (Or.inl w_162) hl0 rfl ?_
            obtain ⟨r27, S28, e29, hB⟩ := bd_of hB
            refine es_callVi (As := [.ref (rf l0 14)]) (t_X5_worth (tr_1_13 hl0) (tr_1_14 hl0) e29) dX1_fetchAll_139 oX5_worth w_710 rfl (tr_1_13 hl0) rfl rfl (Nat.le_of_ble_eq_true rfl) rfl (am_fit.of (by decide)) ⟨Nat.zero_le _, Nat.zero_le _⟩ ?_
            exact ev_ls (u_X1_fetchAll_142 ih l0 l1 l2 l3 l4 l5 r2 r5 r27 S28 hl0 hl1 hB) (And.intro rfl (And.intro rfl (And.intro rfl (And.intro rfl (And.intro rfl (And.intro rfl (And.intro rfl (And.intro rfl trivial))))))))
          · rw [if_neg q26] at hB
            refine ev_iload dX1_fetchAll_117 rfl ?_
            refine ev_iconst 2 dX1_fetchAll_119 (by decide) ?_
            refine ev_idiv dX1_fetchAll_120 (by decide) ?_
            refine ev_iload_n dX1_fetchAll_121 rfl ?_
            refine ev_iadd dX1_fetchAll_122 ?_
            refine ev_iload dX1_fetchAll_123 rfl ?_
            refine ev_iconst 3 dX1_fetchAll_125 (by decide) ?_
            refine ev_idiv dX1_fetchAll_126 (by decide) ?_
            refine ev_isub dX1_fetchAll_127 ?_
            refine ev_goto 142 dX1_fetchAll_128 (by decide) ?_
            exact ev_ls (u_X1_fetchAll_142 ih l0 l1 l2 l3 l4 l5 r2 r5 (((r2 / 2) + l2) - ((jabs ((sg S6 (rf l0 1) (Int32.toNatClampNeg l3)) - (sg S6 (rf l0 4) (Int32.toNatClampNeg r5)))) / 3)) S24 hl0 hl1 hB) (And.intro rfl (And.intro rfl (And.intro rfl (And.intro rfl (And.intro rfl (And.intro rfl (And.intro rfl (And.intro rfl trivial))))))))
theorem t_X1_fetchAll {G : am_G} {N : Nat} {l0 : Nat} {l1 : Nat} {l2 : Int32} {l3 : Int32} {S : am_S} {out : Int32 × am_S} (hl0 : isC 1 l0 = true) (hl1 : isC 7 l1 = true) (hB : f_X1_fetchAll N l0 l1 l2 l3 S = some out) : am_Met G 3 mX1_fetchAll 0 0 [.ref l0, .ref l1, .int l2, .int l3] (hp S) (q_i out) q_n := by
  refine am_of (by decide +kernel) rfl rfl rfl (Nat.le_of_ble_eq_true rfl) ?_
  unfold f_X1_fetchAll at hB
  refine ev_iconst 0 dX1_fetchAll_0 (by decide) ?_
  refine ev_istore dX1_fetchAll_1 (by decide) rfl ?_
  refine ev_iconst 0 dX1_fetchAll_3 (by decide) ?_
  refine ev_istore dX1_fetchAll_4 (by decide) rfl ?_
  exact ev_ls (u_X1_fetchAll_6 N l0 l1 l2 l3 0 0 S hl0 hl1 hB) (And.intro rfl (And.intro rfl (And.intro rfl (And.intro rfl (And.intro rfl (And.intro rfl trivial))))))
def b_X1_passDayWith_44 (N : Nat) (k3 : Nat → Nat → Int32 → Int32 → Int32 → am_S → Option (Int32 × am_S)) (l0 : Nat) (l1 : Nat) (l2 : Int32) (l3 : Int32) (l4 : Int32) (S : am_S) : Option (Int32 × am_S) := k3 l0 l1 l2 l3 (l4 + 1) S
def b_X1_passDayWith_118 (N : Nat) (k77 : Nat → Nat → Int32 → Int32 → am_S → Option (Int32 × am_S)) (l0 : Nat) (l1 : Nat) (l4 : Int32) (l5 : Int32) (S : am_S) : Option (Int32 × am_S) := k77 l0 l1 l4 (l5 + 1) S
def b_X1_passDayWith_77 (N : Nat) : Nat → Nat → Nat → Int32 → Int32 → am_S → Option (Int32 × am_S)
  | 0, _, _, _, _, _ => none
  | n + 1, l0, l1, l4, l5, S => (if (sg S l0 0) ≤ l5 then (bv (f_X7_nextDay N l1 S) (fun S3 => some (l4, S3))) else (bd (f_X7_redOf N l1 l5 S) (fun r5 S6 => (if r5 ≤ 0 then b_X1_passDayWith_118 N (b_X1_passDayWith_77 N n) l0 l1 l4 l5 S6 else (bd (f_X7_heldIn N l1 l5 S6) (fun r9 S10 => (if r9 ≤ 0 then b_X1_passDayWith_118 N (b_X1_passDayWith_77 N n) l0 l1 l4 l5 S10 else (bd (f_X7_redOf N l1 l5 S10) (fun r13 S14 => (bv (f_X7_setRed N l1 l5 (r13 - 1) S14) (fun S17 => b_X1_passDayWith_118 N (b_X1_passDayWith_77 N n) l0 l1 l4 l5 S17)))))))))))
def b_X1_passDayWith_74 (N : Nat) (l0 : Nat) (l1 : Nat) (l4 : Int32) (S : am_S) : Option (Int32 × am_S) := b_X1_passDayWith_77 N N l0 l1 l4 0 S
def b_X1_passDayWith_3 (N : Nat) : Nat → Nat → Nat → Int32 → Int32 → Int32 → am_S → Option (Int32 × am_S)
  | 0, _, _, _, _, _, _ => none
  | n + 1, l0, l1, l2, l3, l4, S => (if (sg S l0 3) ≤ l4 then (if l3 = (-1) then b_X1_passDayWith_74 N l0 l1 0 S else (bd (f_X7_onStrike N l1 S) (fun r3 S4 => (if r3 = 0 then (bd (f_X1_fetchAll N l0 l1 l2 l3 S4) (fun r7 S8 => b_X1_passDayWith_74 N l0 l1 r7 S8)) else b_X1_passDayWith_74 N l0 l1 0 S4)))) else (if inb l4 (ln (rf l0 7)) = true then (if (sg S (rf l0 7) (Int32.toNatClampNeg l4)) = (-1) then b_X1_passDayWith_44 N (b_X1_passDayWith_3 N n) l0 l1 l2 l3 l4 S else (bd (f_X1_thoughtsOf N l0 l1 l4 (sg S (rf l0 7) (Int32.toNatClampNeg l4)) S) (fun r12 S13 => (bv (f_X7_think N l1 (sg S (rf l0 7) (Int32.toNatClampNeg l4)) l4 r12 S13) (fun S16 => b_X1_passDayWith_44 N (b_X1_passDayWith_3 N n) l0 l1 l2 l3 l4 S16))))) else none))
def f_X1_passDayWith (N : Nat) (l0 : Nat) (l1 : Nat) (l2 : Int32) (l3 : Int32) (S : am_S) : Option (Int32 × am_S) := b_X1_passDayWith_3 N N l0 l1 l2 l3 0 S
theorem u_X1_passDayWith_44 {G : am_G} {N : Nat} {h0 : am_H} {out : Int32 × am_S} {k3 : Nat → Nat → Int32 → Int32 → Int32 → am_S → Option (Int32 × am_S)} (hk3 : ∀ (l0 : Nat) (l1 : Nat) (l2 : Int32) (l3 : Int32) (l4 : Int32) (S : am_S), isC 1 l0 = true → isC 7 l1 = true → k3 l0 l1 l2 l3 l4 S = some out → Ev G (am_R 4 0 0) (am_Φ G h0 0 0 (q_i out) q_n) mX1_passDayWith 0 0 3 [some (.ref l0), some (.ref l1), some (.int l2), some (.int l3), some (.int l4), none] [] (hp S)) (l0 : Nat) (l1 : Nat) (l2 : Int32) (l3 : Int32) (l4 : Int32) (S : am_S) (hl0 : isC 1 l0 = true) (hl1 : isC 7 l1 = true) (hB : b_X1_passDayWith_44 N k3 l0 l1 l2 l3 l4 S = some out) : Ev G (am_R 4 0 0) (am_Φ G h0 0 0 (q_i out) q_n) mX1_passDayWith 0 0 44 [some (.ref l0), some (.ref l1), some (.int l2), some (.int l3), some (.int l4), none] [] (hp S) := by
  unfold b_X1_passDayWith_44 at hB
  refine es_iinc 1 dX1_passDayWith_44 rfl (by decide) (by decide) rfl ?_
  refine ev_goto 3 dX1_passDayWith_47 (by decide) ?_
  exact ev_ls (hk3 l0 l1 l2 l3 (l4 + 1) S hl0 hl1 hB) (And.intro rfl (And.intro rfl (And.intro rfl (And.intro rfl (And.intro rfl trivial)))))
theorem u_X1_passDayWith_118 {G : am_G} {N : Nat} {h0 : am_H} {out : Int32 × am_S} {k77 : Nat → Nat → Int32 → Int32 → am_S → Option (Int32 × am_S)} (hk77 : ∀ (l0 : Nat) (l1 : Nat) (l4 : Int32) (l5 : Int32) (S : am_S), isC 1 l0 = true → isC 7 l1 = true → k77 l0 l1 l4 l5 S = some out → Ev G (am_R 4 0 0) (am_Φ G h0 0 0 (q_i out) q_n) mX1_passDayWith 0 0 77 [some (.ref l0), some (.ref l1), none, none, some (.int l4), some (.int l5)] [] (hp S)) (l0 : Nat) (l1 : Nat) (l4 : Int32) (l5 : Int32) (S : am_S) (hl0 : isC 1 l0 = true) (hl1 : isC 7 l1 = true) (hB : b_X1_passDayWith_118 N k77 l0 l1 l4 l5 S = some out) : Ev G (am_R 4 0 0) (am_Φ G h0 0 0 (q_i out) q_n) mX1_passDayWith 0 0 118 [some (.ref l0), some (.ref l1), none, none, some (.int l4), some (.int l5)] [] (hp S) := by
  unfold b_X1_passDayWith_118 at hB
  refine es_iinc 1 dX1_passDayWith_118 rfl (by decide) (by decide) rfl ?_
  refine ev_goto 77 dX1_passDayWith_121 (by decide) ?_
  exact ev_ls (hk77 l0 l1 l4 (l5 + 1) S hl0 hl1 hB) (And.intro rfl (And.intro rfl (And.intro rfl (And.intro rfl trivial))))
theorem u_X1_passDayWith_77 {G : am_G} {N : Nat} {h0 : am_H} {out : Int32 × am_S} : ∀ (n : Nat) (l0 : Nat) (l1 : Nat) (l4 : Int32) (l5 : Int32) (S : am_S), isC 1 l0 = true → isC 7 l1 = true → b_X1_passDayWith_77 N n l0 l1 l4 l5 S = some out → Ev G (am_R 4 0 0) (am_Φ G h0 0 0 (q_i out) q_n) mX1_passDayWith 0 0 77 [some (.ref l0), some (.ref l1), none, none, some (.int l4), some (.int l5)] [] (hp S) := by
  intro n
  induction n with
  | zero =>
    intro l0 l1 l4 l5 S hl0 hl1 hB
    exact absurd (show none = some out from hB) (fun q => by cases q)
  | succ n ih =>
    intro l0 l1 l4 l5 S hl0 hl1 hB
    unfold b_X1_passDayWith_77 at hB
    refine ev_iload dX1_passDayWith_77 rfl ?_
    refine ev_aload_n dX1_passDayWith_79 rfl ?_
    refine es_geti k_1 0 dX1_passDayWith_80 (by decide) rfl (Or.inl w_133) hl0 rfl ?_
    refine ev_icmpge 124 dX1_passDayWith_83 (by decide) (fun q1 => ?_) (fun q1 => ?_)
    · rw [if_pos q1] at hB
      refine ev_aload_n dX1_passDayWith_124 rfl ?_
      obtain ⟨S3, e4, hB⟩ := bv_of hB
      refine es_callVv (As := []) (t_X7_nextDay hl1 e4) dX1_passDayWith_125 oX7_nextDay w_757 rfl hl1 rfl rfl (Nat.le_of_ble_eq_true rfl) rfl (am_fit.of (by decide)) ⟨Nat.zero_le _, Nat.zero_le _⟩ ?_
      refine ev_iload dX1_passDayWith_128 rfl ?_
      obtain rfl := Option.some.inj hB
      exact ev_iret dX1_passDayWith_130 rfl (Nat.zero_le _) (Nat.zero_le _) (fun z => absurd z (hp_sealed _)) ⟨rfl, rfl⟩
    · rw [if_neg q1] at hB
      refine ev_aload_n dX1_passDayWith_86 rfl ?_
      refine ev_iload dX1_passDayWith_87 rfl ?_
      obtain ⟨r5, S6, e7, hB⟩ := bd_of hB
      refine es_callVi (As := [.int l5]) (t_X7_redOf hl1 e7) dX1_passDayWith_89 oX7_redOf w_698 rfl hl1 rfl rfl (Nat.le_of_ble_eq_true rfl) rfl (am_fit.of (by decide)) ⟨Nat.zero_le _, Nat.zero_le _⟩ ?_
      refine ev_ifle 118 dX1_passDayWith_92 (by decide) (fun q8 => ?_) (fun q8 => ?_)
      · rw [if_pos q8] at hB
        exact ev_ls (u_X1_passDayWith_118 ih l0 l1 l4 l5 S6 hl0 hl1 hB) (And.intro rfl (And.intro rfl (And.intro rfl (And.intro rfl trivial))))
      · rw [if_neg q8] at hB
        refine ev_aload_n dX1_passDayWith_95 rfl ?_
        refine ev_iload dX1_passDayWith_96 rfl ?_
        obtain ⟨r9, S10, e11, hB⟩ := bd_of hB
        refine es_callVi (As := [.int l5]) (t_X7_heldIn hl1 e11) dX1_passDayWith_98 oX7_heldIn w_702 rfl hl1 rfl rfl (Nat.le_of_ble_eq_true rfl) rfl (am_fit.of (by decide)) ⟨Nat.zero_le _, Nat.zero_le _⟩ ?_
        refine ev_ifle 118 dX1_passDayWith_101 (by decide) (fun q12 => ?_) (fun q12 => ?_)
        · rw [if_pos q12] at hB
          exact ev_ls (u_X1_passDayWith_118 ih l0 l1 l4 l5 S10 hl0 hl1 hB) (And.intro rfl (And.intro rfl (And.intro rfl (And.intro rfl trivial))))
        · rw [if_neg q12] at hB
          refine ev_aload_n dX1_passDayWith_104 rfl ?_
          refine ev_iload dX1_passDayWith_105 rfl ?_
          refine ev_aload_n dX1_passDayWith_107 rfl ?_
          refine ev_iload dX1_passDayWith_108 rfl ?_
          obtain ⟨r13, S14, e15, hB⟩ := bd_of hB
          refine es_callVi (As := [.int l5]) (t_X7_redOf hl1 e15) dX1_passDayWith_110 oX7_redOf w_698 rfl hl1 rfl rfl (Nat.le_of_ble_eq_true rfl) rfl (am_fit.of (by decide)) ⟨Nat.zero_le _, Nat.zero_le _⟩ ?_
          refine ev_iconst 1 dX1_passDayWith_113 (by decide) ?_
          refine ev_isub dX1_passDayWith_114 ?_
          obtain ⟨S17, e18, hB⟩ := bv_of hB
          refine es_callVv (As := [.int l5, .int (r13 - 1)]) (t_X7_setRed hl1 e18) dX1_passDayWith_115 oX7_setRed w_753 rfl hl1 rfl rfl (Nat.le_of_ble_eq_true rfl) rfl (am_fit.of (by decide)) ⟨Nat.zero_le _, Nat.zero_le _⟩ ?_
          exact ev_ls (u_X1_passDayWith_118 ih l0 l1 l4 l5 S17 hl0 hl1 hB) (And.intro rfl (And.intro rfl (And.intro rfl (And.intro rfl trivial))))
theorem u_X1_passDayWith_74 {G : am_G} {N : Nat} {h0 : am_H} {out : Int32 × am_S} (l0 : Nat) (l1 : Nat) (l4 : Int32) (S : am_S) (hl0 : isC 1 l0 = true) (hl1 : isC 7 l1 = true) (hB : b_X1_passDayWith_74 N l0 l1 l4 S = some out) : Ev G (am_R 4 0 0) (am_Φ G h0 0 0 (q_i out) q_n) mX1_passDayWith 0 0 74 [some (.ref l0), some (.ref l1), none, none, some (.int l4), none] [] (hp S) := by
  unfold b_X1_passDayWith_74 at hB
  refine ev_iconst 0 dX1_passDayWith_74 (by decide) ?_
  refine ev_istore dX1_passDayWith_75 (by decide) rfl ?_
  exact ev_ls (u_X1_passDayWith_77 N l0 l1 l4 0 S hl0 hl1 hB) (And.intro rfl (And.intro rfl (And.intro rfl (And.intro rfl trivial))))
theorem u_X1_passDayWith_3 {G : am_G} {N : Nat} {h0 : am_H} {out : Int32 × am_S} : ∀ (n : Nat) (l0 : Nat) (l1 : Nat) (l2 : Int32) (l3 : Int32) (l4 : Int32) (S : am_S), isC 1 l0 = true → isC 7 l1 = true → b_X1_passDayWith_3 N n l0 l1 l2 l3 l4 S = some out → Ev G (am_R 4 0 0) (am_Φ G h0 0 0 (q_i out) q_n) mX1_passDayWith 0 0 3 [some (.ref l0), some (.ref l1), some (.int l2), some (.int l3), some (.int l4), none] [] (hp S) := by
  intro n
  induction n with
  | zero =>
    intro l0 l1 l2 l3 l4 S hl0 hl1 hB
    exact absurd (show none = some out from hB) (fun q => by cases q)
  | succ n ih =>
    intro l0 l1 l2 l3 l4 S hl0 hl1 hB
    unfold b_X1_passDayWith_3 at hB
    refine ev_iload dX1_passDayWith_3 rfl ?_
    refine ev_aload_n dX1_passDayWith_5 rfl ?_
    refine es_geti k_1 3 dX1_passDayWith_6 (by decide) rfl (Or.inl w_141) hl0 rfl ?_
    refine ev_icmpge 50 dX1_passDayWith_9 (by decide) (fun q1 => ?_) (fun q1 => ?_)
    · rw [if_pos q1] at hB
      refine ev_iconst 0 dX1_passDayWith_50 (by decide) ?_
      refine ev_istore dX1_passDayWith_51 (by decide) rfl ?_
      refine ev_iload_n dX1_passDayWith_53 rfl ?_
      refine ev_iconst (-1) dX1_passDayWith_54 (by decide) ?_
      refine ev_icmpeq 74 dX1_passDayWith_55 (by decide) (fun q2 => ?_) (fun q2 => ?_)
      · rw [if_pos q2] at hB
        exact ev_ls (u_X1_passDayWith_74 l0 l1 0 S hl0 hl1 hB) (And.intro rfl (And.intro rfl (And.intro rfl trivial)))
      · rw [if_neg q2] at hB
        refine ev_aload_n dX1_passDayWith_58 rfl ?_
        obtain ⟨r3, S4, e5, hB⟩ := bd_of hB
        refine es_callVi (As := []) (t_X7_onStrike hl1 e5) dX1_passDayWith_59 oX7_onStrike w_725 rfl hl1 rfl rfl (Nat.le_of_ble_eq_true rfl) rfl (am_fit.of (by decide)) ⟨Nat.zero_le _, Nat.zero_le _⟩ ?_
        refine ev_ifne 74 dX1_passDayWith_62 (by decide) (fun q6 => ?_) (fun q6 => ?_)
        · rw [if_neg q6] at hB
          exact ev_ls (u_X1_passDayWith_74 l0 l1 0 S4 hl0 hl1 hB) (And.intro rfl (And.intro rfl (And.intro rfl trivial)))
        · rw [if_pos q6] at hB
          refine ev_aload_n dX1_passDayWith_65 rfl ?_
          refine ev_aload_n dX1_passDayWith_66 rfl ?_
          refine ev_iload_n dX1_passDayWith_67 rfl ?_
          refine ev_iload_n dX1_passDayWith_68 rfl ?_
          obtain ⟨r7, S8, e9, hB⟩ := bd_of hB
          refine es_callVi (As := [.ref l1, .int l2, .int l3]) (t_X1_fetchAll hl0 hl1 e9) dX1_passDayWith_69 oX1_fetchAll w_729 rfl hl0 rfl rfl (Nat.le_of_ble_eq_true rfl) rfl (am_fit.of (by decide)) ⟨Nat.zero_le _, Nat.zero_le _⟩ ?_
          refine ev_istore dX1_passDayWith_72 (by decide) rfl ?_
          exact ev_ls (u_X1_passDayWith_74 l0 l1 r7 S8 hl0 hl1 hB) (And.intro rfl (And.intro rfl (And.intro rfl trivial)))
    · rw [if_neg q1] at hB
      refine ev_aload_n dX1_passDayWith_12 rfl ?_
      refine es_getr k_1 7 dX1_passDayWith_13 (by decide) rfl (Or.inl w_150) hl0 rfl ?_
      refine ev_iload dX1_passDayWith_16 rfl ?_
      obtain ⟨c10, hB⟩ := ck_of hB
      refine es_iald dX1_passDayWith_18 (tr_1_7 hl0) c10 ?_
      refine ev_istore dX1_passDayWith_19 (by decide) rfl ?_
      refine ev_iload dX1_passDayWith_21 rfl ?_
      refine ev_iconst (-1) dX1_passDayWith_23 (by decide) ?_
      refine ev_icmpeq 44 dX1_passDayWith_24 (by decide) (fun q11 => ?_) (fun q11 => ?_)
      · rw [if_pos q11] at hB
        exact ev_ls (u_X1_passDayWith_44 ih l0 l1 l2 l3 l4 S hl0 hl1 hB) (And.intro rfl (And.intro rfl (And.intro rfl (And.intro rfl (And.intro rfl trivial)))))
      · rw [if_neg q11] at hB
        refine ev_aload_n dX1_passDayWith_27 rfl ?_
        refine ev_iload dX1_passDayWith_28 rfl ?_
        refine ev_iload dX1_passDayWith_30 rfl ?_
        refine ev_aload_n dX1_passDayWith_32 rfl ?_
        refine ev_aload_n dX1_passDayWith_33 rfl ?_
        refine ev_iload dX1_passDayWith_34 rfl ?_
        refine ev_iload dX1_passDayWith_36 rfl ?_
        obtain ⟨r12, S13, e14, hB⟩ := bd_of hB
        refine es_callVi (As := [.ref l1, .int l4, .int (sg S (rf l0 7) (Int32.toNatClampNeg l4))]) (t_X1_thoughtsOf hl0 hl1 e14) dX1_passDayWith_38 oX1_thoughtsOf w_682 rfl hl0 rfl rfl (Nat.le_of_ble_eq_true rfl) rfl (am_fit.of (by decide)) ⟨Nat.zero_le _, Nat.zero_le _⟩ ?_
        obtain ⟨S16, e17, hB⟩ := bv_of hB
        refine es_callVv (As := [.int (sg S (rf l0 7) (Int32.toNatClampNeg l4)), .int l4, .int r12]) (t_X7_think hl1 e17) dX1_passDayWith_41 oX7_think w_720 rfl hl1 rfl rfl (Nat.le_of_ble_eq_true rfl) rfl (am_fit.of (by decide)) ⟨Nat.zero_le _, Nat.zero_le _⟩ ?_
        exact ev_ls (u_X1_passDayWith_44 ih l0 l1 l2 l3 l4 S16 hl0 hl1 hB) (And.intro rfl (And.intro rfl (And.intro rfl (And.intro rfl (And.intro rfl trivial)))))
theorem t_X1_passDayWith {G : am_G} {N : Nat} {l0 : Nat} {l1 : Nat} {l2 : Int32} {l3 : Int32} {S : am_S} {out : Int32 × am_S} (hl0 : isC 1 l0 = true) (hl1 : isC 7 l1 = true) (hB : f_X1_passDayWith N l0 l1 l2 l3 S = some out) : am_Met G 4 mX1_passDayWith 0 0 [.ref l0, .ref l1, .int l2, .int l3] (hp S) (q_i out) q_n := by
  refine am_of (by decide +kernel) rfl rfl rfl (Nat.le_of_ble_eq_true rfl) ?_
  unfold f_X1_passDayWith at hB
  refine ev_iconst 0 dX1_passDayWith_0 (by decide) ?_
  refine ev_istore dX1_passDayWith_1 (by decide) rfl ?_
  exact ev_ls (u_X1_passDayWith_3 N l0 l1 l2 l3 0 S hl0 hl1 hB) (And.intro rfl (And.intro rfl (And.intro rfl (And.intro rfl (And.intro rfl trivial)))))
def f_X1_passDay (N : Nat) (l0 : Nat) (l1 : Nat) (S : am_S) : Option (Int32 × am_S) := (bd (f_X7_dayNow N l1 S) (fun r1 S2 => (bd (f_X1_wetOn N l0 r1 S2) (fun r4 S5 => (bd (f_X7_dayNow N l1 S5) (fun r7 S8 => (bd (f_X1_boxOn N l0 r7 S8) (fun r10 S11 => (bd (f_X1_passDayWith N l0 l1 r4 r10 S11) (fun r13 S14 => some (r13, S14)))))))))))
theorem t_X1_passDay {G : am_G} {N : Nat} {l0 : Nat} {l1 : Nat} {S : am_S} {out : Int32 × am_S} (hl0 : isC 1 l0 = true) (hl1 : isC 7 l1 = true) (hB : f_X1_passDay N l0 l1 S = some out) : am_Met G 5 mX1_passDay 0 0 [.ref l0, .ref l1] (hp S) (q_i out) q_n := by
  refine am_of (by decide +kernel) rfl rfl rfl (Nat.le_of_ble_eq_true rfl) ?_
  unfold f_X1_passDay at hB
  refine ev_aload_n dX1_passDay_0 rfl ?_
  refine ev_aload_n dX1_passDay_1 rfl ?_
  refine ev_aload_n dX1_passDay_2 rfl ?_
  refine ev_aload_n dX1_passDay_3 rfl ?_
  obtain ⟨r1, S2, e3, hB⟩ := bd_of hB
  refine es_callVi (As := []) (t_X7_dayNow hl1 e3) dX1_passDay_4 oX7_dayNow w_666 rfl hl1 rfl rfl (Nat.le_of_ble_eq_true rfl) rfl (am_fit.of (by decide)) ⟨Nat.zero_le _, Nat.zero_le _⟩ ?_
  obtain ⟨r4, S5, e6, hB⟩ := bd_of hB
  refine es_callVi (As := [.int r1]) (t_X1_wetOn hl0 e6) dX1_passDay_7 oX1_wetOn w_667 rfl hl0 rfl rfl (Nat.le_of_ble_eq_true rfl) rfl (am_fit.of (by decide)) ⟨Nat.zero_le _, Nat.zero_le _⟩ ?_
  refine ev_aload_n dX1_passDay_10 rfl ?_
  refine ev_aload_n dX1_passDay_11 rfl ?_
  obtain ⟨r7, S8, e9, hB⟩ := bd_of hB
  refine es_callVi (As := []) (t_X7_dayNow hl1 e9) dX1_passDay_12 oX7_dayNow w_666 rfl hl1 rfl rfl (Nat.le_of_ble_eq_true rfl) rfl (am_fit.of (by decide)) ⟨Nat.zero_le _, Nat.zero_le _⟩ ?_
  obtain ⟨r10, S11, e12, hB⟩ := bd_of hB
  refine es_callVi (As := [.int r7]) (t_X1_boxOn hl0 e12) dX1_passDay_15 oX1_boxOn w_674 rfl hl0 rfl rfl (Nat.le_of_ble_eq_true rfl) rfl (am_fit.of (by decide)) ⟨Nat.zero_le _, Nat.zero_le _⟩ ?_
  obtain ⟨r13, S14, e15, hB⟩ := bd_of hB
  refine es_callVi (As := [.ref l1, .int r4, .int r10]) (t_X1_passDayWith hl0 hl1 e15) dX1_passDay_18 oX1_passDayWith w_678 rfl hl0 rfl rfl (Nat.le_of_ble_eq_true rfl) rfl (am_fit.of (by decide)) ⟨Nat.zero_le _, Nat.zero_le _⟩ ?_
  obtain rfl := Option.some.inj hB
  exact ev_iret dX1_passDay_21 rfl (Nat.zero_le _) (Nat.zero_le _) (fun z => absurd z (hp_sealed _)) ⟨rfl, rfl⟩
def b_X1_fullestBox_32 (N : Nat) (k4 : Nat → Nat → Int32 → Int32 → am_S → Option (Int32 × am_S)) (l0 : Nat) (l1 : Nat) (l2 : Int32) (l3 : Int32) (S : am_S) : Option (Int32 × am_S) := k4 l0 l1 l2 (l3 + 1) S
def b_X1_fullestBox_30 (N : Nat) (k4 : Nat → Nat → Int32 → Int32 → am_S → Option (Int32 × am_S)) (l0 : Nat) (l1 : Nat) (l3 : Int32) (S : am_S) : Option (Int32 × am_S) := b_X1_fullestBox_32 N (k4) l0 l1 l3 l3 S
def b_X1_fullestBox_4 (N : Nat) : Nat → Nat → Nat → Int32 → Int32 → am_S → Option (Int32 × am_S)
  | 0, _, _, _, _, _ => none
  | n + 1, l0, l1, l2, l3, S => (if (sg S l0 0) ≤ l3 then some (l2, S) else (if l2 = (-1) then b_X1_fullestBox_30 N (b_X1_fullestBox_4 N n) l0 l1 l3 S else (bd (f_X7_heldIn N l1 l3 S) (fun r3 S4 => (bd (f_X7_heldIn N l1 l2 S4) (fun r6 S7 => (if r3 ≤ r6 then b_X1_fullestBox_32 N (b_X1_fullestBox_4 N n) l0 l1 l2 l3 S7 else b_X1_fullestBox_30 N (b_X1_fullestBox_4 N n) l0 l1 l3 S7)))))))
def f_X1_fullestBox (N : Nat) (l0 : Nat) (l1 : Nat) (S : am_S) : Option (Int32 × am_S) := b_X1_fullestBox_4 N N l0 l1 (-1) 0 S
theorem u_X1_fullestBox_32 {G : am_G} {N : Nat} {h0 : am_H} {out : Int32 × am_S} {k4 : Nat → Nat → Int32 → Int32 → am_S → Option (Int32 × am_S)} (hk4 : ∀ (l0 : Nat) (l1 : Nat) (l2 : Int32) (l3 : Int32) (S : am_S), isC 1 l0 = true → isC 7 l1 = true → k4 l0 l1 l2 l3 S = some out → Ev G (am_R 3 0 0) (am_Φ G h0 0 0 (q_i out) q_n) mX1_fullestBox 0 0 4 [some (.ref l0), some (.ref l1), some (.int l2), some (.int l3)] [] (hp S)) (l0 : Nat) (l1 : Nat) (l2 : Int32) (l3 : Int32) (S : am_S) (hl0 : isC 1 l0 = true) (hl1 : isC 7 l1 = true) (hB : b_X1_fullestBox_32 N k4 l0 l1 l2 l3 S = some out) : Ev G (am_R 3 0 0) (am_Φ G h0 0 0 (q_i out) q_n) mX1_fullestBox 0 0 32 [some (.ref l0), some (.ref l1), some (.int l2), some (.int l3)] [] (hp S) := by
  unfold b_X1_fullestBox_32 at hB
  refine es_iinc 1 dX1_fullestBox_32 rfl (by decide) (by decide) rfl ?_
  refine ev_goto 4 dX1_fullestBox_35 (by decide) ?_
  exact ev_ls (hk4 l0 l1 l2 (l3 + 1) S hl0 hl1 hB) (And.intro rfl (And.intro rfl (And.intro rfl (And.intro rfl trivial))))
theorem u_X1_fullestBox_30 {G : am_G} {N : Nat} {h0 : am_H} {out : Int32 × am_S} {k4 : Nat → Nat → Int32 → Int32 → am_S → Option (Int32 × am_S)} (hk4 : ∀ (l0 : Nat) (l1 : Nat) (l2 : Int32) (l3 : Int32) (S : am_S), isC 1 l0 = true → isC 7 l1 = true → k4 l0 l1 l2 l3 S = some out → Ev G (am_R 3 0 0) (am_Φ G h0 0 0 (q_i out) q_n) mX1_fullestBox 0 0 4 [some (.ref l0), some (.ref l1), some (.int l2), some (.int l3)] [] (hp S)) (l0 : Nat) (l1 : Nat) (l3 : Int32) (S : am_S) (hl0 : isC 1 l0 = true) (hl1 : isC 7 l1 = true) (hB : b_X1_fullestBox_30 N k4 l0 l1 l3 S = some out) : Ev G (am_R 3 0 0) (am_Φ G h0 0 0 (q_i out) q_n) mX1_fullestBox 0 0 30 [some (.ref l0), some (.ref l1), none, some (.int l3)] [] (hp S) := by
  unfold b_X1_fullestBox_30 at hB
  refine ev_iload_n dX1_fullestBox_30 rfl ?_
  refine ev_istore_n dX1_fullestBox_31 (by decide) rfl ?_
  exact ev_ls (u_X1_fullestBox_32 hk4 l0 l1 l3 l3 S hl0 hl1 hB) (And.intro rfl (And.intro rfl (And.intro rfl (And.intro rfl trivial))))
theorem u_X1_fullestBox_4 {G : am_G} {N : Nat} {h0 : am_H} {out : Int32 × am_S} : ∀ (n : Nat) (l0 : Nat) (l1 : Nat) (l2 : Int32) (l3 : Int32) (S : am_S), isC 1 l0 = true → isC 7 l1 = true → b_X1_fullestBox_4 N n l0 l1 l2 l3 S = some out → Ev G (am_R 3 0 0) (am_Φ G h0 0 0 (q_i out) q_n) mX1_fullestBox 0 0 4 [some (.ref l0), some (.ref l1), some (.int l2), some (.int l3)] [] (hp S) := by
  intro n
  induction n with
  | zero =>
    intro l0 l1 l2 l3 S hl0 hl1 hB
    exact absurd (show none = some out from hB) (fun q => by cases q)
  | succ n ih =>
    intro l0 l1 l2 l3 S hl0 hl1 hB
    unfold b_X1_fullestBox_4 at hB
    refine ev_iload_n dX1_fullestBox_4 rfl ?_
    refine ev_aload_n dX1_fullestBox_5 rfl ?_
    refine es_geti k_1 0 dX1_fullestBox_6 (by decide) rfl (Or.inl w_133) hl0 rfl ?_
    refine ev_icmpge 38 dX1_fullestBox_9 (by decide) (fun q1 => ?_) (fun q1 => ?_)
    · rw [if_pos q1] at hB
      refine ev_iload_n dX1_fullestBox_38 rfl ?_
      obtain rfl := Option.some.inj hB
      exact ev_iret dX1_fullestBox_39 rfl (Nat.zero_le _) (Nat.zero_le _) (fun z => absurd z (hp_sealed _)) ⟨rfl, rfl⟩
    · rw [if_neg q1] at hB
      refine ev_iload_n dX1_fullestBox_12 rfl ?_
      refine ev_iconst (-1) dX1_fullestBox_13 (by decide) ?_
      refine ev_icmpeq 30 dX1_fullestBox_14 (by decide) (fun q2 => ?_) (fun q2 => ?_)
      · rw [if_pos q2] at hB
        exact ev_ls (u_X1_fullestBox_30 ih l0 l1 l3 S hl0 hl1 hB) (And.intro rfl (And.intro rfl (And.intro rfl trivial)))
      · rw [if_neg q2] at hB
        refine ev_aload_n dX1_fullestBox_17 rfl ?_
        refine ev_iload_n dX1_fullestBox_18 rfl ?_
        obtain ⟨r3, S4, e5, hB⟩ := bd_of hB
        refine es_callVi (As := [.int l3]) (t_X7_heldIn hl1 e5) dX1_fullestBox_19 oX7_heldIn w_702 rfl hl1 rfl rfl (Nat.le_of_ble_eq_true rfl) rfl (am_fit.of (by decide)) ⟨Nat.zero_le _, Nat.zero_le _⟩ ?_
        refine ev_aload_n dX1_fullestBox_22 rfl ?_
        refine ev_iload_n dX1_fullestBox_23 rfl ?_
        obtain ⟨r6, S7, e8, hB⟩ := bd_of hB
        refine es_callVi (As := [.int l2]) (t_X7_heldIn hl1 e8) dX1_fullestBox_24 oX7_heldIn w_702 rfl hl1 rfl rfl (Nat.le_of_ble_eq_true rfl) rfl (am_fit.of (by decide)) ⟨Nat.zero_le _, Nat.zero_le _⟩ ?_
        refine ev_icmple 32 dX1_fullestBox_27 (by decide) (fun q9 => ?_) (fun q9 => ?_)
        · rw [if_pos q9] at hB
          exact ev_ls (u_X1_fullestBox_32 ih l0 l1 l2 l3 S7 hl0 hl1 hB) (And.intro rfl (And.intro rfl (And.intro rfl (And.intro rfl trivial))))
        · rw [if_neg q9] at hB
          exact ev_ls (u_X1_fullestBox_30 ih l0 l1 l3 S7 hl0 hl1 hB) (And.intro rfl (And.intro rfl (And.intro rfl trivial)))
theorem t_X1_fullestBox {G : am_G} {N : Nat} {l0 : Nat} {l1 : Nat} {S : am_S} {out : Int32 × am_S} (hl0 : isC 1 l0 = true) (hl1 : isC 7 l1 = true) (hB : f_X1_fullestBox N l0 l1 S = some out) : am_Met G 3 mX1_fullestBox 0 0 [.ref l0, .ref l1] (hp S) (q_i out) q_n := by
  refine am_of (by decide +kernel) rfl rfl rfl (Nat.le_of_ble_eq_true rfl) ?_
  unfold f_X1_fullestBox at hB
  refine ev_iconst (-1) dX1_fullestBox_0 (by decide) ?_
  refine ev_istore_n dX1_fullestBox_1 (by decide) rfl ?_
  refine ev_iconst 0 dX1_fullestBox_2 (by decide) ?_
  refine ev_istore_n dX1_fullestBox_3 (by decide) rfl ?_
  exact ev_ls (u_X1_fullestBox_4 N l0 l1 (-1) 0 S hl0 hl1 hB) (And.intro rfl (And.intro rfl (And.intro rfl (And.intro rfl trivial))))
def b_X1_loudestPerson_32 (N : Nat) (k4 : Nat → Nat → Int32 → Int32 → am_S → Option (Int32 × am_S)) (l0 : Nat) (l1 : Nat) (l2 : Int32) (l3 : Int32) (S : am_S) : Option (Int32 × am_S) := k4 l0 l1 l2 (l3 + 1) S
def b_X1_loudestPerson_30 (N : Nat) (k4 : Nat → Nat → Int32 → Int32 → am_S → Option (Int32 × am_S)) (l0 : Nat) (l1 : Nat) (l3 : Int32) (S : am_S) : Option (Int32 × am_S) := b_X1_loudestPerson_32 N (k4) l0 l1 l3 l3 S
def b_X1_loudestPerson_4 (N : Nat) : Nat → Nat → Nat → Int32 → Int32 → am_S → Option (Int32 × am_S)
  | 0, _, _, _, _, _ => none
  | n + 1, l0, l1, l2, l3, S => (if (sg S l0 3) ≤ l3 then some (l2, S) else (if l2 = (-1) then b_X1_loudestPerson_30 N (b_X1_loudestPerson_4 N n) l0 l1 l3 S else (bd (f_X7_heardBy N l1 l3 S) (fun r3 S4 => (bd (f_X7_heardBy N l1 l2 S4) (fun r6 S7 => (if r3 ≤ r6 then b_X1_loudestPerson_32 N (b_X1_loudestPerson_4 N n) l0 l1 l2 l3 S7 else b_X1_loudestPerson_30 N (b_X1_loudestPerson_4 N n) l0 l1 l3 S7)))))))
def f_X1_loudestPerson (N : Nat) (l0 : Nat) (l1 : Nat) (S : am_S) : Option (Int32 × am_S) := b_X1_loudestPerson_4 N N l0 l1 (-1) 0 S
theorem u_X1_loudestPerson_32 {G : am_G} {N : Nat} {h0 : am_H} {out : Int32 × am_S} {k4 : Nat → Nat → Int32 → Int32 → am_S → Option (Int32 × am_S)} (hk4 : ∀ (l0 : Nat) (l1 : Nat) (l2 : Int32) (l3 : Int32) (S : am_S), isC 1 l0 = true → isC 7 l1 = true → k4 l0 l1 l2 l3 S = some out → Ev G (am_R 2 0 0) (am_Φ G h0 0 0 (q_i out) q_n) mX1_loudestPerson 0 0 4 [some (.ref l0), some (.ref l1), some (.int l2), some (.int l3)] [] (hp S)) (l0 : Nat) (l1 : Nat) (l2 : Int32) (l3 : Int32) (S : am_S) (hl0 : isC 1 l0 = true) (hl1 : isC 7 l1 = true) (hB : b_X1_loudestPerson_32 N k4 l0 l1 l2 l3 S = some out) : Ev G (am_R 2 0 0) (am_Φ G h0 0 0 (q_i out) q_n) mX1_loudestPerson 0 0 32 [some (.ref l0), some (.ref l1), some (.int l2), some (.int l3)] [] (hp S) := by
  unfold b_X1_loudestPerson_32 at hB
  refine es_iinc 1 dX1_loudestPerson_32 rfl (by decide) (by decide) rfl ?_
  refine ev_goto 4 dX1_loudestPerson_35 (by decide) ?_
  exact ev_ls (hk4 l0 l1 l2 (l3 + 1) S hl0 hl1 hB) (And.intro rfl (And.intro rfl (And.intro rfl (And.intro rfl trivial))))
theorem u_X1_loudestPerson_30 {G : am_G} {N : Nat} {h0 : am_H} {out : Int32 × am_S} {k4 : Nat → Nat → Int32 → Int32 → am_S → Option (Int32 × am_S)} (hk4 : ∀ (l0 : Nat) (l1 : Nat) (l2 : Int32) (l3 : Int32) (S : am_S), isC 1 l0 = true → isC 7 l1 = true → k4 l0 l1 l2 l3 S = some out → Ev G (am_R 2 0 0) (am_Φ G h0 0 0 (q_i out) q_n) mX1_loudestPerson 0 0 4 [some (.ref l0), some (.ref l1), some (.int l2), some (.int l3)] [] (hp S)) (l0 : Nat) (l1 : Nat) (l3 : Int32) (S : am_S) (hl0 : isC 1 l0 = true) (hl1 : isC 7 l1 = true) (hB : b_X1_loudestPerson_30 N k4 l0 l1 l3 S = some out) : Ev G (am_R 2 0 0) (am_Φ G h0 0 0 (q_i out) q_n) mX1_loudestPerson 0 0 30 [some (.ref l0), some (.ref l1), none, some (.int l3)] [] (hp S) := by
  unfold b_X1_loudestPerson_30 at hB
  refine ev_iload_n dX1_loudestPerson_30 rfl ?_
  refine ev_istore_n dX1_loudestPerson_31 (by decide) rfl ?_
  exact ev_ls (u_X1_loudestPerson_32 hk4 l0 l1 l3 l3 S hl0 hl1 hB) (And.intro rfl (And.intro rfl (And.intro rfl (And.intro rfl trivial))))
theorem u_X1_loudestPerson_4 {G : am_G} {N : Nat} {h0 : am_H} {out : Int32 × am_S} : ∀ (n : Nat) (l0 : Nat) (l1 : Nat) (l2 : Int32) (l3 : Int32) (S : am_S), isC 1 l0 = true → isC 7 l1 = true → b_X1_loudestPerson_4 N n l0 l1 l2 l3 S = some out → Ev G (am_R 2 0 0) (am_Φ G h0 0 0 (q_i out) q_n) mX1_loudestPerson 0 0 4 [some (.ref l0), some (.ref l1), some (.int l2), some (.int l3)] [] (hp S) := by
  intro n
  induction n with
  | zero =>
    intro l0 l1 l2 l3 S hl0 hl1 hB
    exact absurd (show none = some out from hB) (fun q => by cases q)
  | succ n ih =>
    intro l0 l1 l2 l3 S hl0 hl1 hB
    unfold b_X1_loudestPerson_4 at hB
    refine ev_iload_n dX1_loudestPerson_4 rfl ?_
    refine ev_aload_n dX1_loudestPerson_5 rfl ?_
    refine es_geti k_1 3 dX1_loudestPerson_6 (by decide) rfl (Or.inl w_141) hl0 rfl ?_
    refine ev_icmpge 38 dX1_loudestPerson_9 (by decide) (fun q1 => ?_) (fun q1 => ?_)
    · rw [if_pos q1] at hB
      refine ev_iload_n dX1_loudestPerson_38 rfl ?_
      obtain rfl := Option.some.inj hB
      exact ev_iret dX1_loudestPerson_39 rfl (Nat.zero_le _) (Nat.zero_le _) (fun z => absurd z (hp_sealed _)) ⟨rfl, rfl⟩
    · rw [if_neg q1] at hB
      refine ev_iload_n dX1_loudestPerson_12 rfl ?_
      refine ev_iconst (-1) dX1_loudestPerson_13 (by decide) ?_
      refine ev_icmpeq 30 dX1_loudestPerson_14 (by decide) (fun q2 => ?_) (fun q2 => ?_)
      · rw [if_pos q2] at hB
        exact ev_ls (u_X1_loudestPerson_30 ih l0 l1 l3 S hl0 hl1 hB) (And.intro rfl (And.intro rfl (And.intro rfl trivial)))
      · rw [if_neg q2] at hB
        refine ev_aload_n dX1_loudestPerson_17 rfl ?_
        refine ev_iload_n dX1_loudestPerson_18 rfl ?_
        obtain ⟨r3, S4, e5, hB⟩ := bd_of hB
        refine es_callVi (As := [.int l3]) (t_X7_heardBy hl1 e5) dX1_loudestPerson_19 oX7_heardBy w_694 rfl hl1 rfl rfl (Nat.le_of_ble_eq_true rfl) rfl (am_fit.of (by decide)) ⟨Nat.zero_le _, Nat.zero_le _⟩ ?_
        refine ev_aload_n dX1_loudestPerson_22 rfl ?_
        refine ev_iload_n dX1_loudestPerson_23 rfl ?_
        obtain ⟨r6, S7, e8, hB⟩ := bd_of hB
        refine es_callVi (As := [.int l2]) (t_X7_heardBy hl1 e8) dX1_loudestPerson_24 oX7_heardBy w_694 rfl hl1 rfl rfl (Nat.le_of_ble_eq_true rfl) rfl (am_fit.of (by decide)) ⟨Nat.zero_le _, Nat.zero_le _⟩ ?_
        refine ev_icmple 32 dX1_loudestPerson_27 (by decide) (fun q9 => ?_) (fun q9 => ?_)
        · rw [if_pos q9] at hB
          exact ev_ls (u_X1_loudestPerson_32 ih l0 l1 l2 l3 S7 hl0 hl1 hB) (And.intro rfl (And.intro rfl (And.intro rfl (And.intro rfl trivial))))
        · rw [if_neg q9] at hB
          exact ev_ls (u_X1_loudestPerson_30 ih l0 l1 l3 S7 hl0 hl1 hB) (And.intro rfl (And.intro rfl (And.intro rfl trivial)))
theorem t_X1_loudestPerson {G : am_G} {N : Nat} {l0 : Nat} {l1 : Nat} {S : am_S} {out : Int32 × am_S} (hl0 : isC 1 l0 = true) (hl1 : isC 7 l1 = true) (hB : f_X1_loudestPerson N l0 l1 S = some out) : am_Met G 2 mX1_loudestPerson 0 0 [.ref l0, .ref l1] (hp S) (q_i out) q_n := by
  refine am_of (by decide +kernel) rfl rfl rfl (Nat.le_of_ble_eq_true rfl) ?_
  unfold f_X1_loudestPerson at hB
  refine ev_iconst (-1) dX1_loudestPerson_0 (by decide) ?_
  refine ev_istore_n dX1_loudestPerson_1 (by decide) rfl ?_
  refine ev_iconst 0 dX1_loudestPerson_2 (by decide) ?_
  refine ev_istore_n dX1_loudestPerson_3 (by decide) rfl ?_
  exact ev_ls (u_X1_loudestPerson_4 N l0 l1 (-1) 0 S hl0 hl1 hB) (And.intro rfl (And.intro rfl (And.intro rfl (And.intro rfl trivial))))
def b_X1_saddestPerson_32 (N : Nat) (k4 : Nat → Nat → Int32 → Int32 → am_S → Option (Int32 × am_S)) (l0 : Nat) (l1 : Nat) (l2 : Int32) (l3 : Int32) (S : am_S) : Option (Int32 × am_S) := k4 l0 l1 l2 (l3 + 1) S
def b_X1_saddestPerson_30 (N : Nat) (k4 : Nat → Nat → Int32 → Int32 → am_S → Option (Int32 × am_S)) (l0 : Nat) (l1 : Nat) (l3 : Int32) (S : am_S) : Option (Int32 × am_S) := b_X1_saddestPerson_32 N (k4) l0 l1 l3 l3 S
def b_X1_saddestPerson_4 (N : Nat) : Nat → Nat → Nat → Int32 → Int32 → am_S → Option (Int32 × am_S)
  | 0, _, _, _, _, _ => none
  | n + 1, l0, l1, l2, l3, S => (if (sg S l0 3) ≤ l3 then some (l2, S) else (if l2 = (-1) then b_X1_saddestPerson_30 N (b_X1_saddestPerson_4 N n) l0 l1 l3 S else (bd (f_X7_regretOf N l1 l3 S) (fun r3 S4 => (bd (f_X7_regretOf N l1 l2 S4) (fun r6 S7 => (if r3 ≤ r6 then b_X1_saddestPerson_32 N (b_X1_saddestPerson_4 N n) l0 l1 l2 l3 S7 else b_X1_saddestPerson_30 N (b_X1_saddestPerson_4 N n) l0 l1 l3 S7)))))))
def f_X1_saddestPerson (N : Nat) (l0 : Nat) (l1 : Nat) (S : am_S) : Option (Int32 × am_S) := b_X1_saddestPerson_4 N N l0 l1 (-1) 0 S
theorem u_X1_saddestPerson_32 {G : am_G} {N : Nat} {h0 : am_H} {out : Int32 × am_S} {k4 : Nat → Nat → Int32 → Int32 → am_S → Option (Int32 × am_S)} (hk4 : ∀ (l0 : Nat) (l1 : Nat) (l2 : Int32) (l3 : Int32) (S : am_S), isC 1 l0 = true → isC 7 l1 = true → k4 l0 l1 l2 l3 S = some out → Ev G (am_R 2 0 0) (am_Φ G h0 0 0 (q_i out) q_n) mX1_saddestPerson 0 0 4 [some (.ref l0), some (.ref l1), some (.int l2), some (.int l3)] [] (hp S)) (l0 : Nat) (l1 : Nat) (l2 : Int32) (l3 : Int32) (S : am_S) (hl0 : isC 1 l0 = true) (hl1 : isC 7 l1 = true) (hB : b_X1_saddestPerson_32 N k4 l0 l1 l2 l3 S = some out) : Ev G (am_R 2 0 0) (am_Φ G h0 0 0 (q_i out) q_n) mX1_saddestPerson 0 0 32 [some (.ref l0), some (.ref l1), some (.int l2), some (.int l3)] [] (hp S) := by
  unfold b_X1_saddestPerson_32 at hB
  refine es_iinc 1 dX1_saddestPerson_32 rfl (by decide) (by decide) rfl ?_
  refine ev_goto 4 dX1_saddestPerson_35 (by decide) ?_
  exact ev_ls (hk4 l0 l1 l2 (l3 + 1) S hl0 hl1 hB) (And.intro rfl (And.intro rfl (And.intro rfl (And.intro rfl trivial))))
theorem u_X1_saddestPerson_30 {G : am_G} {N : Nat} {h0 : am_H} {out : Int32 × am_S} {k4 : Nat → Nat → Int32 → Int32 → am_S → Option (Int32 × am_S)} (hk4 : ∀ (l0 : Nat) (l1 : Nat) (l2 : Int32) (l3 : Int32) (S : am_S), isC 1 l0 = true → isC 7 l1 = true → k4 l0 l1 l2 l3 S = some out → Ev G (am_R 2 0 0) (am_Φ G h0 0 0 (q_i out) q_n) mX1_saddestPerson 0 0 4 [some (.ref l0), some (.ref l1), some (.int l2), some (.int l3)] [] (hp S)) (l0 : Nat) (l1 : Nat) (l3 : Int32) (S : am_S) (hl0 : isC 1 l0 = true) (hl1 : isC 7 l1 = true) (hB : b_X1_saddestPerson_30 N k4 l0 l1 l3 S = some out) : Ev G (am_R 2 0 0) (am_Φ G h0 0 0 (q_i out) q_n) mX1_saddestPerson 0 0 30 [some (.ref l0), some (.ref l1), none, some (.int l3)] [] (hp S) := by
  unfold b_X1_saddestPerson_30 at hB
  refine ev_iload_n dX1_saddestPerson_30 rfl ?_
  refine ev_istore_n dX1_saddestPerson_31 (by decide) rfl ?_
  exact ev_ls (u_X1_saddestPerson_32 hk4 l0 l1 l3 l3 S hl0 hl1 hB) (And.intro rfl (And.intro rfl (And.intro rfl (And.intro rfl trivial))))
theorem u_X1_saddestPerson_4 {G : am_G} {N : Nat} {h0 : am_H} {out : Int32 × am_S} : ∀ (n : Nat) (l0 : Nat) (l1 : Nat) (l2 : Int32) (l3 : Int32) (S : am_S), isC 1 l0 = true → isC 7 l1 = true → b_X1_saddestPerson_4 N n l0 l1 l2 l3 S = some out → Ev G (am_R 2 0 0) (am_Φ G h0 0 0 (q_i out) q_n) mX1_saddestPerson 0 0 4 [some (.ref l0), some (.ref l1), some (.int l2), some (.int l3)] [] (hp S) := by
  intro n
  induction n with
  | zero =>
    intro l0 l1 l2 l3 S hl0 hl1 hB
    exact absurd (show none = some out from hB) (fun q => by cases q)
  | succ n ih =>
    intro l0 l1 l2 l3 S hl0 hl1 hB
    unfold b_X1_saddestPerson_4 at hB
    refine ev_iload_n dX1_saddestPerson_4 rfl ?_
    refine ev_aload_n dX1_saddestPerson_5 rfl ?_
    refine es_geti k_1 3 dX1_saddestPerson_6 (by decide) rfl (Or.inl w_141) hl0 rfl ?_
    refine ev_icmpge 38 dX1_saddestPerson_9 (by decide) (fun q1 => ?_) (fun q1 => ?_)
    · rw [if_pos q1] at hB
      refine ev_iload_n dX1_saddestPerson_38 rfl ?_
      obtain rfl := Option.some.inj hB
      exact ev_iret dX1_saddestPerson_39 rfl (Nat.zero_le _) (Nat.zero_le _) (fun z => absurd z (hp_sealed _)) ⟨rfl, rfl⟩
    · rw [if_neg q1] at hB
      refine ev_iload_n dX1_saddestPerson_12 rfl ?_
      refine ev_iconst (-1) dX1_saddestPerson_13 (by decide) ?_
      refine ev_icmpeq 30 dX1_saddestPerson_14 (by decide) (fun q2 => ?_) (fun q2 => ?_)
      · rw [if_pos q2] at hB
        exact ev_ls (u_X1_saddestPerson_30 ih l0 l1 l3 S hl0 hl1 hB) (And.intro rfl (And.intro rfl (And.intro rfl trivial)))
      · rw [if_neg q2] at hB
        refine ev_aload_n dX1_saddestPerson_17 rfl ?_
        refine ev_iload_n dX1_saddestPerson_18 rfl ?_
        obtain ⟨r3, S4, e5, hB⟩ := bd_of hB
        refine es_callVi (As := [.int l3]) (t_X7_regretOf hl1 e5) dX1_saddestPerson_19 oX7_regretOf w_690 rfl hl1 rfl rfl (Nat.le_of_ble_eq_true rfl) rfl (am_fit.of (by decide)) ⟨Nat.zero_le _, Nat.zero_le _⟩ ?_
        refine ev_aload_n dX1_saddestPerson_22 rfl ?_
        refine ev_iload_n dX1_saddestPerson_23 rfl ?_
        obtain ⟨r6, S7, e8, hB⟩ := bd_of hB
        refine es_callVi (As := [.int l2]) (t_X7_regretOf hl1 e8) dX1_saddestPerson_24 oX7_regretOf w_690 rfl hl1 rfl rfl (Nat.le_of_ble_eq_true rfl) rfl (am_fit.of (by decide)) ⟨Nat.zero_le _, Nat.zero_le _⟩ ?_
        refine ev_icmple 32 dX1_saddestPerson_27 (by decide) (fun q9 => ?_) (fun q9 => ?_)
        · rw [if_pos q9] at hB
          exact ev_ls (u_X1_saddestPerson_32 ih l0 l1 l2 l3 S7 hl0 hl1 hB) (And.intro rfl (And.intro rfl (And.intro rfl (And.intro rfl trivial))))
        · rw [if_neg q9] at hB
          exact ev_ls (u_X1_saddestPerson_30 ih l0 l1 l3 S7 hl0 hl1 hB) (And.intro rfl (And.intro rfl (And.intro rfl trivial)))
theorem t_X1_saddestPerson {G : am_G} {N : Nat} {l0 : Nat} {l1 : Nat} {S : am_S} {out : Int32 × am_S} (hl0 : isC 1 l0 = true) (hl1 : isC 7 l1 = true) (hB : f_X1_saddestPerson N l0 l1 S = some out) : am_Met G 2 mX1_saddestPerson 0 0 [.ref l0, .ref l1] (hp S) (q_i out) q_n := by
  refine am_of (by decide +kernel) rfl rfl rfl (Nat.le_of_ble_eq_true rfl) ?_
  unfold f_X1_saddestPerson at hB
  refine ev_iconst (-1) dX1_saddestPerson_0 (by decide) ?_
  refine ev_istore_n dX1_saddestPerson_1 (by decide) rfl ?_
  refine ev_iconst 0 dX1_saddestPerson_2 (by decide) ?_
  refine ev_istore_n dX1_saddestPerson_3 (by decide) rfl ?_
  exact ev_ls (u_X1_saddestPerson_4 N l0 l1 (-1) 0 S hl0 hl1 hB) (And.intro rfl (And.intro rfl (And.intro rfl (And.intro rfl trivial))))
def b_X1_emptyBits_26 (N : Nat) (k4 : Nat → Nat → Int32 → Int32 → am_S → Option (Int32 × am_S)) (l0 : Nat) (l1 : Nat) (l2 : Int32) (l3 : Int32) (S : am_S) : Option (Int32 × am_S) := k4 l0 l1 l2 (l3 + 1) S
def b_X1_emptyBits_4 (N : Nat) : Nat → Nat → Nat → Int32 → Int32 → am_S → Option (Int32 × am_S)
  | 0, _, _, _, _, _ => none
  | n + 1, l0, l1, l2, l3, S => (if (sg S l0 0) ≤ l3 then some (l2, S) else (bd (f_X7_heldIn N l1 l3 S) (fun r2 S3 => (if r2 = 0 then b_X1_emptyBits_26 N (b_X1_emptyBits_4 N n) l0 l1 (l2 ||| ((1 : Int32) <<< (l3 &&& (31 : Int32)))) l3 S3 else b_X1_emptyBits_26 N (b_X1_emptyBits_4 N n) l0 l1 l2 l3 S3))))
def f_X1_emptyBits (N : Nat) (l0 : Nat) (l1 : Nat) (S : am_S) : Option (Int32 × am_S) := b_X1_emptyBits_4 N N l0 l1 0 0 S
theorem u_X1_emptyBits_26 {G : am_G} {N : Nat} {h0 : am_H} {out : Int32 × am_S} {k4 : Nat → Nat → Int32 → Int32 → am_S → Option (Int32 × am_S)} (hk4 : ∀ (l0 : Nat) (l1 : Nat) (l2 : Int32) (l3 : Int32) (S : am_S), isC 1 l0 = true → isC 7 l1 = true → k4 l0 l1 l2 l3 S = some out → Ev G (am_R 3 0 0) (am_Φ G h0 0 0 (q_i out) q_n) mX1_emptyBits 0 0 4 [some (.ref l0), some (.ref l1), some (.int l2), some (.int l3)] [] (hp S)) (l0 : Nat) (l1 : Nat) (l2 : Int32) (l3 : Int32) (S : am_S) (hl0 : isC 1 l0 = true) (hl1 : isC 7 l1 = true) (hB : b_X1_emptyBits_26 N k4 l0 l1 l2 l3 S = some out) : Ev G (am_R 3 0 0) (am_Φ G h0 0 0 (q_i out) q_n) mX1_emptyBits 0 0 26 [some (.ref l0), some (.ref l1), some (.int l2), some (.int l3)] [] (hp S) := by
  unfold b_X1_emptyBits_26 at hB
  refine es_iinc 1 dX1_emptyBits_26 rfl (by decide) (by decide) rfl ?_
  refine ev_goto 4 dX1_emptyBits_29 (by decide) ?_
  exact ev_ls (hk4 l0 l1 l2 (l3 + 1) S hl0 hl1 hB) (And.intro rfl (And.intro rfl (And.intro rfl (And.intro rfl trivial))))
theorem u_X1_emptyBits_4 {G : am_G} {N : Nat} {h0 : am_H} {out : Int32 × am_S} : ∀ (n : Nat) (l0 : Nat) (l1 : Nat) (l2 : Int32) (l3 : Int32) (S : am_S), isC 1 l0 = true → isC 7 l1 = true → b_X1_emptyBits_4 N n l0 l1 l2 l3 S = some out → Ev G (am_R 3 0 0) (am_Φ G h0 0 0 (q_i out) q_n) mX1_emptyBits 0 0 4 [some (.ref l0), some (.ref l1), some (.int l2), some (.int l3)] [] (hp S) := by
  intro n
  induction n with
  | zero =>
    intro l0 l1 l2 l3 S hl0 hl1 hB
    exact absurd (show none = some out from hB) (fun q => by cases q)
  | succ n ih =>
    intro l0 l1 l2 l3 S hl0 hl1 hB
    unfold b_X1_emptyBits_4 at hB
    refine ev_iload_n dX1_emptyBits_4 rfl ?_
    refine ev_aload_n dX1_emptyBits_5 rfl ?_
    refine es_geti k_1 0 dX1_emptyBits_6 (by decide) rfl (Or.inl w_133) hl0 rfl ?_
    refine ev_icmpge 32 dX1_emptyBits_9 (by decide) (fun q1 => ?_) (fun q1 => ?_)
    · rw [if_pos q1] at hB
      refine ev_iload_n dX1_emptyBits_32 rfl ?_
      obtain rfl := Option.some.inj hB
      exact ev_iret dX1_emptyBits_33 rfl (Nat.zero_le _) (Nat.zero_le _) (fun z => absurd z (hp_sealed _)) ⟨rfl, rfl⟩
    · rw [if_neg q1] at hB
      refine ev_aload_n dX1_emptyBits_12 rfl ?_
      refine ev_iload_n dX1_emptyBits_13 rfl ?_
      obtain ⟨r2, S3, e4, hB⟩ := bd_of hB
      refine es_callVi (As := [.int l3]) (t_X7_heldIn hl1 e4) dX1_emptyBits_14 oX7_heldIn w_702 rfl hl1 rfl rfl (Nat.le_of_ble_eq_true rfl) rfl (am_fit.of (by decide)) ⟨Nat.zero_le _, Nat.zero_le _⟩ ?_
      refine ev_ifne 26 dX1_emptyBits_17 (by decide) (fun q5 => ?_) (fun q5 => ?_)
      · rw [if_neg q5] at hB
        exact ev_ls (u_X1_emptyBits_26 ih l0 l1 l2 l3 S3 hl0 hl1 hB) (And.intro rfl (And.intro rfl (And.intro rfl (And.intro rfl trivial))))
      · rw [if_pos q5] at hB
        refine ev_iload_n dX1_emptyBits_20 rfl ?_
        refine ev_iconst 1 dX1_emptyBits_21 (by decide) ?_
        refine ev_iload_n dX1_emptyBits_22 rfl ?_
        refine ev_ishl dX1_emptyBits_23 ?_
        refine ev_ior dX1_emptyBits_24 ?_
        refine ev_istore_n dX1_emptyBits_25 (by decide) rfl ?_
        exact ev_ls (u_X1_emptyBits_26 ih l0 l1 (l2 ||| ((1 : Int32) <<< (l3 &&& (31 : Int32)))) l3 S3 hl0 hl1 hB) (And.intro rfl (And.intro rfl (And.intro rfl (And.intro rfl trivial))))
theorem t_X1_emptyBits {G : am_G} {N : Nat} {l0 : Nat} {l1 : Nat} {S : am_S} {out : Int32 × am_S} (hl0 : isC 1 l0 = true) (hl1 : isC 7 l1 = true) (hB : f_X1_emptyBits N l0 l1 S = some out) : am_Met G 3 mX1_emptyBits 0 0 [.ref l0, .ref l1] (hp S) (q_i out) q_n := by
  refine am_of (by decide +kernel) rfl rfl rfl (Nat.le_of_ble_eq_true rfl) ?_
  unfold f_X1_emptyBits at hB
  refine ev_iconst 0 dX1_emptyBits_0 (by decide) ?_
  refine ev_istore_n dX1_emptyBits_1 (by decide) rfl ?_
  refine ev_iconst 0 dX1_emptyBits_2 (by decide) ?_
  refine ev_istore_n dX1_emptyBits_3 (by decide) rfl ?_
  exact ev_ls (u_X1_emptyBits_4 N l0 l1 0 0 S hl0 hl1 hB) (And.intro rfl (And.intro rfl (And.intro rfl (And.intro rfl trivial))))
def b_X1_reachedBits_46 (N : Nat) (l3 : Int32) (S : am_S) : Option (Int32 × am_S) := some (l3, S)
def b_X1_reachedBits_12 (N : Nat) : Nat → Nat → Int32 → Int32 → Int32 → am_S → Option (Int32 × am_S)
  | 0, _, _, _, _, _ => none
  | n + 1, l1, l3, l4, l5, S => (if 8 ≤ l5 then b_X1_reachedBits_46 N l3 S else (if l4 = (-1) then b_X1_reachedBits_46 N l3 S else (bd (f_X7_atOf N l1 l4 S) (fun r3 S4 => b_X1_reachedBits_12 N n l1 (l3 ||| ((1 : Int32) <<< (l4 &&& (31 : Int32)))) r3 (l5 + 1) S4))))
def f_X1_reachedBits (N : Nat) (l0 : Nat) (l1 : Nat) (l2 : Int32) (S : am_S) : Option (Int32 × am_S) := (bd (f_X7_atOf N l1 l2 S) (fun r1 S2 => b_X1_reachedBits_12 N N l1 0 r1 0 S2))
theorem u_X1_reachedBits_46 {G : am_G} {N : Nat} {h0 : am_H} {out : Int32 × am_S} (l3 : Int32) (S : am_S) (hB : b_X1_reachedBits_46 N l3 S = some out) : Ev G (am_R 2 0 0) (am_Φ G h0 0 0 (q_i out) q_n) mX1_reachedBits 0 0 46 [none, none, none, some (.int l3), none, none] [] (hp S) := by
  unfold b_X1_reachedBits_46 at hB
  refine ev_iload_n dX1_reachedBits_46 rfl ?_
  obtain rfl := Option.some.inj hB
  exact ev_iret dX1_reachedBits_47 rfl (Nat.zero_le _) (Nat.zero_le _) (fun z => absurd z (hp_sealed _)) ⟨rfl, rfl⟩
theorem u_X1_reachedBits_12 {G : am_G} {N : Nat} {h0 : am_H} {out : Int32 × am_S} : ∀ (n : Nat) (l1 : Nat) (l3 : Int32) (l4 : Int32) (l5 : Int32) (S : am_S), isC 7 l1 = true → b_X1_reachedBits_12 N n l1 l3 l4 l5 S = some out → Ev G (am_R 2 0 0) (am_Φ G h0 0 0 (q_i out) q_n) mX1_reachedBits 0 0 12 [none, some (.ref l1), none, some (.int l3), some (.int l4), some (.int l5)] [] (hp S) := by
  intro n
  induction n with
  | zero =>
    intro l1 l3 l4 l5 S hl1 hB
    exact absurd (show none = some out from hB) (fun q => by cases q)
  | succ n ih =>
    intro l1 l3 l4 l5 S hl1 hB
    unfold b_X1_reachedBits_12 at hB
    refine ev_iload dX1_reachedBits_12 rfl ?_
    refine ev_bipush 8 dX1_reachedBits_14 (by decide) ?_
    refine ev_icmpge 46 dX1_reachedBits_16 (by decide) (fun q1 => ?_) (fun q1 => ?_)
    · rw [if_pos q1] at hB
      exact ev_ls (u_X1_reachedBits_46 l3 S hB) (And.intro rfl trivial)
    · rw [if_neg q1] at hB
      refine ev_iload dX1_reachedBits_19 rfl ?_
      refine ev_iconst (-1) dX1_reachedBits_21 (by decide) ?_
      refine ev_icmpeq 46 dX1_reachedBits_22 (by decide) (fun q2 => ?_) (fun q2 => ?_)
      · rw [if_pos q2] at hB
        exact ev_ls (u_X1_reachedBits_46 l3 S hB) (And.intro rfl trivial)
      · rw [if_neg q2] at hB
        refine ev_iload_n dX1_reachedBits_25 rfl ?_
        refine ev_iconst 1 dX1_reachedBits_26 (by decide) ?_
        refine ev_iload dX1_reachedBits_27 rfl ?_
        refine ev_ishl dX1_reachedBits_29 ?_
        refine ev_ior dX1_reachedBits_30 ?_
        refine ev_istore_n dX1_reachedBits_31 (by decide) rfl ?_
        refine ev_aload_n dX1_reachedBits_32 rfl ?_
        refine ev_iload dX1_reachedBits_33 rfl ?_
        obtain ⟨r3, S4, e5, hB⟩ := bd_of hB
        refine es_callVi (As := [.int l4]) (t_X7_atOf hl1 e5) dX1_reachedBits_35 oX7_atOf w_737 rfl hl1 rfl rfl (Nat.le_of_ble_eq_true rfl) rfl (am_fit.of (by decide)) ⟨Nat.zero_le _, Nat.zero_le _⟩ ?_
        refine ev_istore dX1_reachedBits_38 (by decide) rfl ?_
        refine es_iinc 1 dX1_reachedBits_40 rfl (by decide) (by decide) rfl ?_
        refine ev_goto 12 dX1_reachedBits_43 (by decide) ?_
        exact ev_ls (ih l1 (l3 ||| ((1 : Int32) <<< (l4 &&& (31 : Int32)))) r3 (l5 + 1) S4 hl1 hB) (And.intro rfl (And.intro rfl (And.intro rfl (And.intro rfl trivial))))
theorem t_X1_reachedBits {G : am_G} {N : Nat} {l0 : Nat} {l1 : Nat} {l2 : Int32} {S : am_S} {out : Int32 × am_S} (hl0 : isC 1 l0 = true) (hl1 : isC 7 l1 = true) (hB : f_X1_reachedBits N l0 l1 l2 S = some out) : am_Met G 2 mX1_reachedBits 0 0 [.ref l0, .ref l1, .int l2] (hp S) (q_i out) q_n := by
  refine am_of (by decide +kernel) rfl rfl rfl (Nat.le_of_ble_eq_true rfl) ?_
  unfold f_X1_reachedBits at hB
  refine ev_iconst 0 dX1_reachedBits_0 (by decide) ?_
  refine ev_istore_n dX1_reachedBits_1 (by decide) rfl ?_
  refine ev_aload_n dX1_reachedBits_2 rfl ?_
  refine ev_iload_n dX1_reachedBits_3 rfl ?_
  obtain ⟨r1, S2, e3, hB⟩ := bd_of hB
  refine es_callVi (As := [.int l2]) (t_X7_atOf hl1 e3) dX1_reachedBits_4 oX7_atOf w_737 rfl hl1 rfl rfl (Nat.le_of_ble_eq_true rfl) rfl (am_fit.of (by decide)) ⟨Nat.zero_le _, Nat.zero_le _⟩ ?_
  refine ev_istore dX1_reachedBits_7 (by decide) rfl ?_
  refine ev_iconst 0 dX1_reachedBits_9 (by decide) ?_
  refine ev_istore dX1_reachedBits_10 (by decide) rfl ?_
  exact ev_ls (u_X1_reachedBits_12 N l1 0 r1 0 S2 hl1 hB) (And.intro rfl (And.intro rfl (And.intro rfl (And.intro rfl trivial))))
def b_X1_covers_40 (N : Nat) (k3 : Nat → Int32 → Int32 → Int32 → Int32 → am_S → Option (Int32 × am_S)) (l0 : Nat) (l1 : Int32) (l2 : Int32) (l3 : Int32) (l4 : Int32) (S : am_S) : Option (Int32 × am_S) := k3 l0 l1 l2 l3 (l4 + 1) S
def b_X1_covers_3 (N : Nat) : Nat → Nat → Int32 → Int32 → Int32 → Int32 → am_S → Option (Int32 × am_S)
  | 0, _, _, _, _, _, _ => none
  | n + 1, l0, l1, l2, l3, l4, S => (if (sg S l0 0) ≤ l4 then some (0, S) else (if ((l1 >>> (l4 &&& (31 : Int32))) &&& 1) = 1 then (if inb l4 (ln (rf l0 1)) = true then (if l2 < (jabs ((sg S (rf l0 1) (Int32.toNatClampNeg l4)) - l3)) then b_X1_covers_40 N (b_X1_covers_3 N n) l0 l1 l2 l3 l4 S else some (1, S)) else none) else b_X1_covers_40 N (b_X1_covers_3 N n) l0 l1 l2 l3 l4 S))
def f_X1_covers (N : Nat) (l0 : Nat) (l1 : Int32) (l2 : Int32) (l3 : Int32) (S : am_S) : Option (Int32 × am_S) := b_X1_covers_3 N N l0 l1 l2 l3 0 S
theorem u_X1_covers_40 {G : am_G} {N : Nat} {h0 : am_H} {out : Int32 × am_S} {k3 : Nat → Int32 → Int32 → Int32 → Int32 → am_S → Option (Int32 × am_S)} (hk3 : ∀ (l0 : Nat) (l1 : Int32) (l2 : Int32) (l3 : Int32) (l4 : Int32) (S : am_S), isC 1 l0 = true → k3 l0 l1 l2 l3 l4 S = some out → Ev G (am_R 1 0 0) (am_Φ G h0 0 0 (q_i out) q_n) mX1_covers 0 0 3 [some (.ref l0), some (.int l1), some (.int l2), some (.int l3), some (.int l4)] [] (hp S)) (l0 : Nat) (l1 : Int32) (l2 : Int32) (l3 : Int32) (l4 : Int32) (S : am_S) (hl0 : isC 1 l0 = true) (hB : b_X1_covers_40 N k3 l0 l1 l2 l3 l4 S = some out) : Ev G (am_R 1 0 0) (am_Φ G h0 0 0 (q_i out) q_n) mX1_covers 0 0 40 [some (.ref l0), some (.int l1), some (.int l2), some (.int l3), some (.int l4)] [] (hp S) := by
  unfold b_X1_covers_40 at hB
  refine es_iinc 1 dX1_covers_40 rfl (by decide) (by decide) rfl ?_
  refine ev_goto 3 dX1_covers_43 (by decide) ?_
  exact ev_ls (hk3 l0 l1 l2 l3 (l4 + 1) S hl0 hB) (And.intro rfl (And.intro rfl (And.intro rfl (And.intro rfl (And.intro rfl trivial)))))
theorem u_X1_covers_3 {G : am_G} {N : Nat} {h0 : am_H} {out : Int32 × am_S} : ∀ (n : Nat) (l0 : Nat) (l1 : Int32) (l2 : Int32) (l3 : Int32) (l4 : Int32) (S : am_S), isC 1 l0 = true → b_X1_covers_3 N n l0 l1 l2 l3 l4 S = some out → Ev G (am_R 1 0 0) (am_Φ G h0 0 0 (q_i out) q_n) mX1_covers 0 0 3 [some (.ref l0), some (.int l1), some (.int l2), some (.int l3), some (.int l4)] [] (hp S) := by
  intro n
  induction n with
  | zero =>
    intro l0 l1 l2 l3 l4 S hl0 hB
    exact absurd (show none = some out from hB) (fun q => by cases q)
  | succ n ih =>
    intro l0 l1 l2 l3 l4 S hl0 hB
    unfold b_X1_covers_3 at hB
    refine ev_iload dX1_covers_3 rfl ?_
    refine ev_aload_n dX1_covers_5 rfl ?_
    refine es_geti k_1 0 dX1_covers_6 (by decide) rfl (Or.inl w_133) hl0 rfl ?_
    refine ev_icmpge 46 dX1_covers_9 (by decide) (fun q1 => ?_) (fun q1 => ?_)
    · rw [if_pos q1] at hB
      refine ev_iconst 0 dX1_covers_46 (by decide) ?_
      obtain rfl := Option.some.inj hB
      exact ev_zret dX1_covers_47 rfl (by rfl) (Nat.zero_le _) (Nat.zero_le _) (fun z => absurd z (hp_sealed _)) ⟨rfl, rfl⟩
    · rw [if_neg q1] at hB
      refine ev_iload_n dX1_covers_12 rfl ?_
      refine ev_iload dX1_covers_13 rfl ?_
      refine ev_ishr dX1_covers_15 ?_
      refine ev_iconst 1 dX1_covers_16 (by decide) ?_
      refine ev_iand dX1_covers_17 ?_
      refine ev_iconst 1 dX1_covers_18 (by decide) ?_
      refine ev_icmpne 40 dX1_covers_19 (by decide) (fun q2 => ?_) (fun q2 => ?_)
      · rw [if_neg q2] at hB
        exact ev_ls (u_X1_covers_40 ih l0 l1 l2 l3 l4 S hl0 hB) (And.intro rfl (And.intro rfl (And.intro rfl (And.intro rfl (And.intro rfl trivial)))))
      · rw [if_pos q2] at hB
        refine ev_aload_n dX1_covers_22 rfl ?_
        refine es_getr k_1 1 dX1_covers_23 (by decide) rfl (Or.inl w_137) hl0 rfl ?_
        refine ev_iload dX1_covers_26 rfl ?_
        obtain ⟨c3, hB⟩ := ck_of hB
        refine es_iald dX1_covers_28 (tr_1_1 hl0) c3 ?_
        refine ev_iload_n dX1_covers_29 rfl ?_
        refine ev_isub dX1_covers_30 ?_
        refine es_abs dX1_covers_31 w_741 (Nat.le_of_ble_eq_true rfl) (am_fit.of (by decide)) ⟨Nat.zero_le _, Nat.zero_le _⟩ ?_
        refine ev_iload_n dX1_covers_34 rfl ?_
        refine ev_icmpgt 40 dX1_covers_35 (by decide) (fun q4 => ?_) (fun q4 => ?_)
        · rw [if_pos q4] at hB
          exact ev_ls (u_X1_covers_40 ih l0 l1 l2 l3 l4 S hl0 hB) (And.intro rfl (And.intro rfl (And.intro rfl (And.intro rfl (And.intro rfl trivial)))))
        · rw [if_neg q4] at hB
          refine ev_iconst 1 dX1_covers_38 (by decide) ?_
          obtain rfl := Option.some.inj hB
          exact ev_zret dX1_covers_39 rfl (by rfl) (Nat.zero_le _) (Nat.zero_le _) (fun z => absurd z (hp_sealed _)) ⟨rfl, rfl⟩
theorem t_X1_covers {G : am_G} {N : Nat} {l0 : Nat} {l1 : Int32} {l2 : Int32} {l3 : Int32} {S : am_S} {out : Int32 × am_S} (hl0 : isC 1 l0 = true) (hB : f_X1_covers N l0 l1 l2 l3 S = some out) : am_Met G 1 mX1_covers 0 0 [.ref l0, .int l1, .int l2, .int l3] (hp S) (q_i out) q_n := by
  refine am_of (by decide +kernel) rfl rfl rfl (Nat.le_of_ble_eq_true rfl) ?_
  unfold f_X1_covers at hB
  refine ev_iconst 0 dX1_covers_0 (by decide) ?_
  refine ev_istore dX1_covers_1 (by decide) rfl ?_
  exact ev_ls (u_X1_covers_3 N l0 l1 l2 l3 0 S hl0 hB) (And.intro rfl (And.intro rfl (And.intro rfl (And.intro rfl (And.intro rfl trivial)))))
def b_X1_coversAll_2 (N : Nat) : Nat → Nat → Int32 → Int32 → Int32 → am_S → Option (Int32 × am_S)
  | 0, _, _, _, _, _ => none
  | n + 1, l0, l1, l2, l3, S => (if (sg S l0 3) ≤ l3 then some (1, S) else (if inb l3 (ln (rf l0 4)) = true then (bd (f_X1_covers N l0 l1 l2 (sg S (rf l0 4) (Int32.toNatClampNeg l3)) S) (fun r3 S4 => (if r3 = 0 then some (0, S4) else b_X1_coversAll_2 N n l0 l1 l2 (l3 + 1) S4))) else none))
def f_X1_coversAll (N : Nat) (l0 : Nat) (l1 : Int32) (l2 : Int32) (S : am_S) : Option (Int32 × am_S) := b_X1_coversAll_2 N N l0 l1 l2 0 S
theorem u_X1_coversAll_2 {G : am_G} {N : Nat} {h0 : am_H} {out : Int32 × am_S} : ∀ (n : Nat) (l0 : Nat) (l1 : Int32) (l2 : Int32) (l3 : Int32) (S : am_S), isC 1 l0 = true → b_X1_coversAll_2 N n l0 l1 l2 l3 S = some out → Ev G (am_R 2 0 0) (am_Φ G h0 0 0 (q_i out) q_n) mX1_coversAll 0 0 2 [some (.ref l0), some (.int l1), some (.int l2), some (.int l3)] [] (hp S) := by
  intro n
  induction n with
  | zero =>
    intro l0 l1 l2 l3 S hl0 hB
    exact absurd (show none = some out from hB) (fun q => by cases q)
  | succ n ih =>
    intro l0 l1 l2 l3 S hl0 hB
    unfold b_X1_coversAll_2 at hB
    refine ev_iload_n dX1_coversAll_2 rfl ?_
    refine ev_aload_n dX1_coversAll_3 rfl ?_
    refine es_geti k_1 3 dX1_coversAll_4 (by decide) rfl (Or.inl w_141) hl0 rfl ?_
    refine ev_icmpge 33 dX1_coversAll_7 (by decide) (fun q1 => ?_) (fun q1 => ?_)
    · rw [if_pos q1] at hB
      refine ev_iconst 1 dX1_coversAll_33 (by decide) ?_
      obtain rfl := Option.some.inj hB
      exact ev_zret dX1_coversAll_34 rfl (by rfl) (Nat.zero_le _) (Nat.zero_le _) (fun z => absurd z (hp_sealed _)) ⟨rfl, rfl⟩
    · rw [if_neg q1] at hB
      refine ev_aload_n dX1_coversAll_10 rfl ?_
      refine ev_iload_n dX1_coversAll_11 rfl ?_
      refine ev_iload_n dX1_coversAll_12 rfl ?_
      refine ev_aload_n dX1_coversAll_13 rfl ?_
      refine es_getr k_1 4 dX1_coversAll_14 (by decide) rfl (Or.inl w_144) hl0 rfl ?_
      refine ev_iload_n dX1_coversAll_17 rfl ?_
      obtain ⟨c2, hB⟩ := ck_of hB
      refine es_iald dX1_coversAll_18 (tr_1_4 hl0) c2 ?_
      obtain ⟨r3, S4, e5, hB⟩ := bd_of hB
      refine es_callVi (As := [.int l1, .int l2, .int (sg S (rf l0 4) (Int32.toNatClampNeg l3))]) (t_X1_covers hl0 e5) dX1_coversAll_19 oX1_covers w_1302 rfl hl0 rfl rfl (Nat.le_of_ble_eq_true rfl) rfl (am_fit.of (by decide)) ⟨Nat.zero_le _, Nat.zero_le _⟩ ?_
      refine ev_ifne 27 dX1_coversAll_22 (by decide) (fun q6 => ?_) (fun q6 => ?_)
      · rw [if_neg q6] at hB
        refine es_iinc 1 dX1_coversAll_27 rfl (by decide) (by decide) rfl ?_
        refine ev_goto 2 dX1_coversAll_30 (by decide) ?_
        exact ev_ls (ih l0 l1 l2 (l3 + 1) S4 hl0 hB) (And.intro rfl (And.intro rfl (And.intro rfl (And.intro rfl trivial))))
      · rw [if_pos q6] at hB
        refine ev_iconst 0 dX1_coversAll_25 (by decide) ?_
        obtain rfl := Option.some.inj hB
        exact ev_zret dX1_coversAll_26 rfl (by rfl) (Nat.zero_le _) (Nat.zero_le _) (fun z => absurd z (hp_sealed _)) ⟨rfl, rfl⟩
theorem t_X1_coversAll {G : am_G} {N : Nat} {l0 : Nat} {l1 : Int32} {l2 : Int32} {S : am_S} {out : Int32 × am_S} (hl0 : isC 1 l0 = true) (hB : f_X1_coversAll N l0 l1 l2 S = some out) : am_Met G 2 mX1_coversAll 0 0 [.ref l0, .int l1, .int l2] (hp S) (q_i out) q_n := by
  refine am_of (by decide +kernel) rfl rfl rfl (Nat.le_of_ble_eq_true rfl) ?_
  unfold f_X1_coversAll at hB
  refine ev_iconst 0 dX1_coversAll_0 (by decide) ?_
  refine ev_istore_n dX1_coversAll_1 (by decide) rfl ?_
  exact ev_ls (u_X1_coversAll_2 N l0 l1 l2 0 S hl0 hB) (And.intro rfl (And.intro rfl (And.intro rfl (And.intro rfl trivial))))
def b_X1_fewestCovering_53 (N : Nat) (k4 : Nat → Int32 → Int32 → Int32 → am_S → Option (Int32 × am_S)) (l0 : Nat) (l1 : Int32) (l2 : Int32) (l3 : Int32) (S : am_S) : Option (Int32 × am_S) := k4 l0 l1 l2 (l3 + 1) S
def b_X1_fewestCovering_35 (N : Nat) (k4 : Nat → Int32 → Int32 → Int32 → am_S → Option (Int32 × am_S)) (l0 : Nat) (l1 : Int32) (l2 : Int32) (l3 : Int32) (z0 : Int32) (S : am_S) : Option (Int32 × am_S) := (if z0 = 0 then b_X1_fewestCovering_53 N (k4) l0 l1 l2 l3 S else (bd (f_X1_coversAll N l0 l3 l1 S) (fun r2 S3 => (if r2 = 0 then b_X1_fewestCovering_53 N (k4) l0 l1 l2 l3 S3 else b_X1_fewestCovering_53 N (k4) l0 l1 l3 l3 S3))))
def b_X1_fewestCovering_30 (N : Nat) (k4 : Nat → Int32 → Int32 → Int32 → am_S → Option (Int32 × am_S)) (l0 : Nat) (l1 : Int32) (l2 : Int32) (l3 : Int32) (S : am_S) : Option (Int32 × am_S) := b_X1_fewestCovering_35 N (k4) l0 l1 l2 l3 1 S
def b_X1_fewestCovering_4 (N : Nat) : Nat → Nat → Int32 → Int32 → Int32 → am_S → Option (Int32 × am_S)
  | 0, _, _, _, _, _ => none
  | n + 1, l0, l1, l2, l3, S => (if ((1 : Int32) <<< ((sg S l0 0) &&& (31 : Int32))) ≤ l3 then some (l2, S) else (if l2 = (-1) then b_X1_fewestCovering_30 N (b_X1_fewestCovering_4 N n) l0 l1 l2 l3 S else (bd (f_J6_bitCount_0f7a4 N l3 S) (fun r3 S4 => (bd (f_J6_bitCount_0f7a4 N l2 S4) (fun r6 S7 => (if r6 ≤ r3 then b_X1_fewestCovering_35 N (b_X1_fewestCovering_4 N n) l0 l1 l2 l3 0 S7 else b_X1_fewestCovering_30 N (b_X1_fewestCovering_4 N n) l0 l1 l2 l3 S7)))))))
def f_X1_fewestCovering (N : Nat) (l0 : Nat) (l1 : Int32) (S : am_S) : Option (Int32 × am_S) := b_X1_fewestCovering_4 N N l0 l1 (-1) 0 S
theorem u_X1_fewestCovering_53 {G : am_G} {N : Nat} {h0 : am_H} {out : Int32 × am_S} {k4 : Nat → Int32 → Int32 → Int32 → am_S → Option (Int32 × am_S)} (hk4 : ∀ (l0 : Nat) (l1 : Int32) (l2 : Int32) (l3 : Int32) (S : am_S), isC 1 l0 = true → k4 l0 l1 l2 l3 S = some out → Ev G (am_R 3 0 0) (am_Φ G h0 0 0 (q_i out) q_n) mX1_fewestCovering 0 0 4 [some (.ref l0), some (.int l1), some (.int l2), some (.int l3), none] [] (hp S)) (l0 : Nat) (l1 : Int32) (l2 : Int32) (l3 : Int32) (S : am_S) (hl0 : isC 1 l0 = true) (hB : b_X1_fewestCovering_53 N k4 l0 l1 l2 l3 S = some out) : Ev G (am_R 3 0 0) (am_Φ G h0 0 0 (q_i out) q_n) mX1_fewestCovering 0 0 53 [some (.ref l0), some (.int l1), some (.int l2), some (.int l3), none] [] (hp S) := by
  unfold b_X1_fewestCovering_53 at hB
  refine es_iinc 1 dX1_fewestCovering_53 rfl (by decide) (by decide) rfl ?_
  refine ev_goto 4 dX1_fewestCovering_56 (by decide) ?_
  exact ev_ls (hk4 l0 l1 l2 (l3 + 1) S hl0 hB) (And.intro rfl (And.intro rfl (And.intro rfl (And.intro rfl trivial))))
theorem u_X1_fewestCovering_35 {G : am_G} {N : Nat} {h0 : am_H} {out : Int32 × am_S} {k4 : Nat → Int32 → Int32 → Int32 → am_S → Option (Int32 × am_S)} (hk4 : ∀ (l0 : Nat) (l1 : Int32) (l2 : Int32) (l3 : Int32) (S : am_S), isC 1 l0 = true → k4 l0 l1 l2 l3 S = some out → Ev G (am_R 3 0 0) (am_Φ G h0 0 0 (q_i out) q_n) mX1_fewestCovering 0 0 4 [some (.ref l0), some (.int l1), some (.int l2), some (.int l3), none] [] (hp S)) (l0 : Nat) (l1 : Int32) (l2 : Int32) (l3 : Int32) (z0 : Int32) (S : am_S) (hl0 : isC 1 l0 = true) (hB : b_X1_fewestCovering_35 N k4 l0 l1 l2 l3 z0 S = some out) : Ev G (am_R 3 0 0) (am_Φ G h0 0 0 (q_i out) q_n) mX1_fewestCovering 0 0 35 [some (.ref l0), some (.int l1), some (.int l2), some (.int l3), none] [.int z0] (hp S) := by
  unfold b_X1_fewestCovering_35 at hB
  refine ev_istore dX1_fewestCovering_35 (by decide) rfl ?_
  refine ev_iload dX1_fewestCovering_37 rfl ?_
  refine ev_ifeq 53 dX1_fewestCovering_39 (by decide) (fun q1 => ?_) (fun q1 => ?_)
  · rw [if_pos q1] at hB
    exact ev_ls (u_X1_fewestCovering_53 hk4 l0 l1 l2 l3 S hl0 hB) (And.intro rfl (And.intro rfl (And.intro rfl (And.intro rfl trivial))))
  · rw [if_neg q1] at hB
    refine ev_aload_n dX1_fewestCovering_42 rfl ?_
    refine ev_iload_n dX1_fewestCovering_43 rfl ?_
    refine ev_iload_n dX1_fewestCovering_44 rfl ?_
    obtain ⟨r2, S3, e4, hB⟩ := bd_of hB
    refine es_callVi (As := [.int l3, .int l1]) (t_X1_coversAll hl0 e4) dX1_fewestCovering_45 oX1_coversAll w_1298 rfl hl0 rfl rfl (Nat.le_of_ble_eq_true rfl) rfl (am_fit.of (by decide)) ⟨Nat.zero_le _, Nat.zero_le _⟩ ?_
    refine ev_ifeq 53 dX1_fewestCovering_48 (by decide) (fun q5 => ?_) (fun q5 => ?_)
    · rw [if_pos q5] at hB
      exact ev_ls (u_X1_fewestCovering_53 hk4 l0 l1 l2 l3 S3 hl0 hB) (And.intro rfl (And.intro rfl (And.intro rfl (And.intro rfl trivial))))
    · rw [if_neg q5] at hB
      refine ev_iload_n dX1_fewestCovering_51 rfl ?_
      refine ev_istore_n dX1_fewestCovering_52 (by decide) rfl ?_
      exact ev_ls (u_X1_fewestCovering_53 hk4 l0 l1 l3 l3 S3 hl0 hB) (And.intro rfl (And.intro rfl (And.intro rfl (And.intro rfl trivial))))
theorem u_X1_fewestCovering_30 {G : am_G} {N : Nat} {h0 : am_H} {out : Int32 × am_S} {k4 : Nat → Int32 → Int32 → Int32 → am_S → Option (Int32 × am_S)} (hk4 : ∀ (l0 : Nat) (l1 : Int32) (l2 : Int32) (l3 : Int32) (S : am_S), isC 1 l0 = true → k4 l0 l1 l2 l3 S = some out → Ev G (am_R 3 0 0) (am_Φ G h0 0 0 (q_i out) q_n) mX1_fewestCovering 0 0 4 [some (.ref l0), some (.int l1), some (.int l2), some (.int l3), none] [] (hp S)) (l0 : Nat) (l1 : Int32) (l2 : Int32) (l3 : Int32) (S : am_S) (hl0 : isC 1 l0 = true) (hB : b_X1_fewestCovering_30 N k4 l0 l1 l2 l3 S = some out) : Ev G (am_R 3 0 0) (am_Φ G h0 0 0 (q_i out) q_n) mX1_fewestCovering 0 0 30 [some (.ref l0), some (.int l1), some (.int l2), some (.int l3), none] [] (hp S) := by
  unfold b_X1_fewestCovering_30 at hB
  refine ev_iconst 1 dX1_fewestCovering_30 (by decide) ?_
  refine ev_goto 35 dX1_fewestCovering_31 (by decide) ?_
  exact ev_ls (u_X1_fewestCovering_35 hk4 l0 l1 l2 l3 1 S hl0 hB) (And.intro rfl (And.intro rfl (And.intro rfl (And.intro rfl trivial))))
theorem u_X1_fewestCovering_4 {G : am_G} {N : Nat} {h0 : am_H} {out : Int32 × am_S} : ∀ (n : Nat) (l0 : Nat) (l1 : Int32) (l2 : Int32) (l3 : Int32) (S : am_S), isC 1 l0 = true → b_X1_fewestCovering_4 N n l0 l1 l2 l3 S = some out → Ev G (am_R 3 0 0) (am_Φ G h0 0 0 (q_i out) q_n) mX1_fewestCovering 0 0 4 [some (.ref l0), some (.int l1), some (.int l2), some (.int l3), none] [] (hp S) := by
  intro n
  induction n with
  | zero =>
    intro l0 l1 l2 l3 S hl0 hB
    exact absurd (show none = some out from hB) (fun q => by cases q)
  | succ n ih =>
    intro l0 l1 l2 l3 S hl0 hB
    unfold b_X1_fewestCovering_4 at hB
    refine ev_iload_n dX1_fewestCovering_4 rfl ?_
    refine ev_iconst 1 dX1_fewestCovering_5 (by decide) ?_
    refine ev_aload_n dX1_fewestCovering_6 rfl ?_
    refine es_geti k_1 0 dX1_fewestCovering_7 (by decide) rfl (Or.inl w_133) hl0 rfl ?_
    refine ev_ishl dX1_fewestCovering_10 ?_
    refine ev_icmpge 59 dX1_fewestCovering_11 (by decide) (fun q1 => ?_) (fun q1 => ?_)
    · rw [if_pos q1] at hB
      refine ev_iload_n dX1_fewestCovering_59 rfl ?_
      obtain rfl := Option.some.inj hB
      exact ev_iret dX1_fewestCovering_60 rfl (Nat.zero_le _) (Nat.zero_le _) (fun z => absurd z (hp_sealed _)) ⟨rfl, rfl⟩
    · rw [if_neg q1] at hB
      refine ev_iload_n dX1_fewestCovering_14 rfl ?_
      refine ev_iconst (-1) dX1_fewestCovering_15 (by decide) ?_
      refine ev_icmpeq 30 dX1_fewestCovering_16 (by decide) (fun q2 => ?_) (fun q2 => ?_)
      · rw [if_pos q2] at hB
        exact ev_ls (u_X1_fewestCovering_30 ih l0 l1 l2 l3 S hl0 hB) (And.intro rfl (And.intro rfl (And.intro rfl (And.intro rfl trivial))))
      · rw [if_neg q2] at hB
        refine ev_iload_n dX1_fewestCovering_19 rfl ?_
        obtain ⟨r3, S4, e5, hB⟩ := bd_of hB
        refine es_callSi (As := [.int l3]) (t_J6_bitCount_0f7a4 e5) dX1_fewestCovering_20 oJ6_bitCount_0f7a4 w_1292 rfl (Nat.le_of_ble_eq_true rfl) rfl (am_fit.of (by decide)) ⟨Nat.zero_le _, Nat.zero_le _⟩ ?_
        refine ev_iload_n dX1_fewestCovering_23 rfl ?_
        obtain ⟨r6, S7, e8, hB⟩ := bd_of hB
        refine es_callSi (As := [.int l2]) (t_J6_bitCount_0f7a4 e8) dX1_fewestCovering_24 oJ6_bitCount_0f7a4 w_1292 rfl (Nat.le_of_ble_eq_true rfl) rfl (am_fit.of (by decide)) ⟨Nat.zero_le _, Nat.zero_le _⟩ ?_
        refine ev_icmpge 34 dX1_fewestCovering_27 (by decide) (fun q9 => ?_) (fun q9 => ?_)
        · rw [if_pos q9] at hB
          refine ev_iconst 0 dX1_fewestCovering_34 (by decide) ?_
          exact ev_ls (u_X1_fewestCovering_35 ih l0 l1 l2 l3 0 S7 hl0 hB) (And.intro rfl (And.intro rfl (And.intro rfl (And.intro rfl trivial))))
        · rw [if_neg q9] at hB
          exact ev_ls (u_X1_fewestCovering_30 ih l0 l1 l2 l3 S7 hl0 hB) (And.intro rfl (And.intro rfl (And.intro rfl (And.intro rfl trivial))))
theorem t_X1_fewestCovering {G : am_G} {N : Nat} {l0 : Nat} {l1 : Int32} {S : am_S} {out : Int32 × am_S} (hl0 : isC 1 l0 = true) (hB : f_X1_fewestCovering N l0 l1 S = some out) : am_Met G 3 mX1_fewestCovering 0 0 [.ref l0, .int l1] (hp S) (q_i out) q_n := by
  refine am_of (by decide +kernel) rfl rfl rfl (Nat.le_of_ble_eq_true rfl) ?_
  unfold f_X1_fewestCovering at hB
  refine ev_iconst (-1) dX1_fewestCovering_0 (by decide) ?_
  refine ev_istore_n dX1_fewestCovering_1 (by decide) rfl ?_
  refine ev_iconst 0 dX1_fewestCovering_2 (by decide) ?_
  refine ev_istore_n dX1_fewestCovering_3 (by decide) rfl ?_
  exact ev_ls (u_X1_fewestCovering_4 N l0 l1 (-1) 0 S hl0 hB) (And.intro rfl (And.intro rfl (And.intro rfl (And.intro rfl trivial))))
def b_X1_waysWith_72 (N : Nat) (k5 : Nat → Int32 → Int32 → Int32 → Int32 → am_S → Option (Int32 × am_S)) (l0 : Nat) (l1 : Int32) (l2 : Int32) (l3 : Int32) (l4 : Int32) (l5 : Int32) (S : am_S) : Option (Int32 × am_S) := k5 l0 l1 l2 (l3 + l5) (l4 + 1) S
def b_X1_waysWith_5 (N : Nat) : Nat → Nat → Int32 → Int32 → Int32 → Int32 → am_S → Option (Int32 × am_S)
  | 0, _, _, _, _, _, _ => none
  | n + 1, l0, l1, l2, l3, l4, S => (if (sg S l0 3) ≤ l4 then some (l3, S) else (if inb l4 (ln (rf l0 4)) = true then (if inb l4 (ln (rf l0 7)) = true then (if l2 = 0 then b_X1_waysWith_72 N (b_X1_waysWith_5 N n) l0 l1 l2 l3 l4 (jabs (l1 - (sg S (rf l0 4) (Int32.toNatClampNeg l4)))) S else (if (sg S (rf l0 7) (Int32.toNatClampNeg l4)) = (-1) then b_X1_waysWith_72 N (b_X1_waysWith_5 N n) l0 l1 l2 l3 l4 (jabs (l1 - (sg S (rf l0 4) (Int32.toNatClampNeg l4)))) S else (if inb (sg S (rf l0 7) (Int32.toNatClampNeg l4)) (ln (rf l0 1)) = true then (if inb l4 (ln (rf l0 4)) = true then b_X1_waysWith_72 N (b_X1_waysWith_5 N n) l0 l1 l2 l3 l4 (jmin (jabs (l1 - (sg S (rf l0 4) (Int32.toNatClampNeg l4)))) (jabs ((sg S (rf l0 1) (Int32.toNatClampNeg (sg S (rf l0 7) (Int32.toNatClampNeg l4)))) - (sg S (rf l0 4) (Int32.toNatClampNeg l4))))) S else none) else none))) else none) else none))
def f_X1_waysWith (N : Nat) (l0 : Nat) (l1 : Int32) (l2 : Int32) (S : am_S) : Option (Int32 × am_S) := b_X1_waysWith_5 N N l0 l1 l2 0 0 S
theorem u_X1_waysWith_72 {G : am_G} {N : Nat} {h0 : am_H} {out : Int32 × am_S} {k5 : Nat → Int32 → Int32 → Int32 → Int32 → am_S → Option (Int32 × am_S)} (hk5 : ∀ (l0 : Nat) (l1 : Int32) (l2 : Int32) (l3 : Int32) (l4 : Int32) (S : am_S), isC 1 l0 = true → k5 l0 l1 l2 l3 l4 S = some out → Ev G (am_R 1 0 0) (am_Φ G h0 0 0 (q_i out) q_n) mX1_waysWith 0 0 5 [some (.ref l0), some (.int l1), some (.int l2), some (.int l3), some (.int l4), none, none] [] (hp S)) (l0 : Nat) (l1 : Int32) (l2 : Int32) (l3 : Int32) (l4 : Int32) (l5 : Int32) (S : am_S) (hl0 : isC 1 l0 = true) (hB : b_X1_waysWith_72 N k5 l0 l1 l2 l3 l4 l5 S = some out) : Ev G (am_R 1 0 0) (am_Φ G h0 0 0 (q_i out) q_n) mX1_waysWith 0 0 72 [some (.ref l0), some (.int l1), some (.int l2), some (.int l3), some (.int l4), some (.int l5), none] [] (hp S) := by
  unfold b_X1_waysWith_72 at hB
  refine ev_iload_n dX1_waysWith_72 rfl ?_
  refine ev_iload dX1_waysWith_73 rfl ?_
  refine ev_iadd dX1_waysWith_75 ?_
  refine ev_istore_n dX1_waysWith_76 (by decide) rfl ?_
  refine es_iinc 1 dX1_waysWith_77 rfl (by decide) (by decide) rfl ?_
  refine ev_goto 5 dX1_waysWith_80 (by decide) ?_
  exact ev_ls (hk5 l0 l1 l2 (l3 + l5) (l4 + 1) S hl0 hB) (And.intro rfl (And.intro rfl (And.intro rfl (And.intro rfl (And.intro rfl trivial)))))
theorem u_X1_waysWith_5 {G : am_G} {N : Nat} {h0 : am_H} {out : Int32 × am_S} : ∀ (n : Nat) (l0 : Nat) (l1 : Int32) (l2 : Int32) (l3 : Int32) (l4 : Int32) (S : am_S), isC 1 l0 = true → b_X1_waysWith_5 N n l0 l1 l2 l3 l4 S = some out → Ev G (am_R 1 0 0) (am_Φ G h0 0 0 (q_i out) q_n) mX1_waysWith 0 0 5 [some (.ref l0), some (.int l1), some (.int l2), some (.int l3), some (.int l4), none, none] [] (hp S) := by
  intro n
  induction n with
  | zero =>
    intro l0 l1 l2 l3 l4 S hl0 hB
    exact absurd (show none = some out from hB) (fun q => by cases q)
  | succ n ih =>
    intro l0 l1 l2 l3 l4 S hl0 hB
    unfold b_X1_waysWith_5 at hB
    refine ev_iload dX1_waysWith_5 rfl ?_
    refine ev_aload_n dX1_waysWith_7 rfl ?_
    refine es_geti k_1 3 dX1_waysWith_8 (by decide) rfl (Or.inl w_141) hl0 rfl ?_
    refine ev_icmpge 83 dX1_waysWith_11 (by decide) (fun q1 => ?_) (fun q1 => ?_)
    · rw [if_pos q1] at hB
      refine ev_iload_n dX1_waysWith_83 rfl ?_
      obtain rfl := Option.some.inj hB
      exact ev_iret dX1_waysWith_84 rfl (Nat.zero_le _) (Nat.zero_le _) (fun z => absurd z (hp_sealed _)) ⟨rfl, rfl⟩
    · rw [if_neg q1] at hB
      refine ev_iload_n dX1_waysWith_14 rfl ?_
      refine ev_aload_n dX1_waysWith_15 rfl ?_
      refine es_getr k_1 4 dX1_waysWith_16 (by decide) rfl (Or.inl w_144) hl0 rfl ?_
      refine ev_iload dX1_waysWith_19 rfl ?_
      obtain ⟨c2, hB⟩ := ck_of hB
      refine es_iald dX1_waysWith_21 (tr_1_4 hl0) c2 ?_
      refine ev_isub dX1_waysWith_22 ?_
      refine es_abs dX1_waysWith_23 w_741 (Nat.le_of_ble_eq_true rfl) (am_fit.of (by decide)) ⟨Nat.zero_le _, Nat.zero_le _⟩ ?_
      refine ev_istore dX1_waysWith_26 (by decide) rfl ?_
      refine ev_aload_n dX1_waysWith_28 rfl ?_
      refine es_getr k_1 7 dX1_waysWith_29 (by decide) rfl (Or.inl w_150) hl0 rfl ?_
      refine ev_iload dX1_waysWith_32 rfl ?_
      obtain ⟨c3, hB⟩ := ck_of hB
      refine es_iald dX1_waysWith_34 (tr_1_7 hl0) c3 ?_
      refine ev_istore dX1_waysWith_35 (by decide) rfl ?_
      refine ev_iload_n dX1_waysWith_37 rfl ?_
      refine ev_ifeq 72 dX1_waysWith_38 (by decide) (fun q4 => ?_) (fun q4 => ?_)
      · rw [if_pos q4] at hB
        exact ev_ls (u_X1_waysWith_72 ih l0 l1 l2 l3 l4 (jabs (l1 - (sg S (rf l0 4) (Int32.toNatClampNeg l4)))) S hl0 hB) (And.intro rfl (And.intro rfl (And.intro rfl (And.intro rfl (And.intro rfl (And.intro rfl trivial))))))
      · rw [if_neg q4] at hB
        refine ev_iload dX1_waysWith_41 rfl ?_
        refine ev_iconst (-1) dX1_waysWith_43 (by decide) ?_
        refine ev_icmpeq 72 dX1_waysWith_44 (by decide) (fun q5 => ?_) (fun q5 => ?_)
        · rw [if_pos q5] at hB
          exact ev_ls (u_X1_waysWith_72 ih l0 l1 l2 l3 l4 (jabs (l1 - (sg S (rf l0 4) (Int32.toNatClampNeg l4)))) S hl0 hB) (And.intro rfl (And.intro rfl (And.intro rfl (And.intro rfl (And.intro rfl (And.intro rfl trivial))))))
        · rw [if_neg q5] at hB
          refine ev_iload dX1_waysWith_47 rfl ?_
          refine ev_aload_n dX1_waysWith_49 rfl ?_
          refine es_getr k_1 1 dX1_waysWith_50 (by decide) rfl (Or.inl w_137) hl0 rfl ?_
          refine ev_iload dX1_waysWith_53 rfl ?_
          obtain ⟨c6, hB⟩ := ck_of hB
          refine es_iald dX1_waysWith_55 (tr_1_1 hl0) c6 ?_
          refine ev_aload_n dX1_waysWith_56 rfl ?_
          refine es_getr k_1 4 dX1_waysWith_57 (by decide) rfl (Or.inl w_144) hl0 rfl ?_
          refine ev_iload dX1_waysWith_60 rfl ?_
          obtain ⟨c7, hB⟩ := ck_of hB
          refine es_iald dX1_waysWith_62 (tr_1_4 hl0) c7 ?_
          refine ev_isub dX1_waysWith_63 ?_
          refine es_abs dX1_waysWith_64 w_741 (Nat.le_of_ble_eq_true rfl) (am_fit.of (by decide)) ⟨Nat.zero_le _, Nat.zero_le _⟩ ?_
          refine es_min dX1_waysWith_67 w_798 (Nat.le_of_ble_eq_true rfl) (am_fit.of (by decide)) ⟨Nat.zero_le _, Nat.zero_le _⟩ ?_
          refine ev_istore dX1_waysWith_70 (by decide) rfl ?_
          exact ev_ls (u_X1_waysWith_72 ih l0 l1 l2 l3 l4 (jmin (jabs (l1 - (sg S (rf l0 4) (Int32.toNatClampNeg l4)))) (jabs ((sg S (rf l0 1) (Int32.toNatClampNeg (sg S (rf l0 7) (Int32.toNatClampNeg l4)))) - (sg S (rf l0 4) (Int32.toNatClampNeg l4))))) S hl0 hB) (And.intro rfl (And.intro rfl (And.intro rfl (And.intro rfl (And.intro rfl (And.intro rfl trivial))))))
theorem t_X1_waysWith {G : am_G} {N : Nat} {l0 : Nat} {l1 : Int32} {l2 : Int32} {S : am_S} {out : Int32 × am_S} (hl0 : isC 1 l0 = true) (hB : f_X1_waysWith N l0 l1 l2 S = some out) : am_Met G 1 mX1_waysWith 0 0 [.ref l0, .int l1, .int l2] (hp S) (q_i out) q_n := by
  refine am_of (by decide +kernel) rfl rfl rfl (Nat.le_of_ble_eq_true rfl) ?_
  unfold f_X1_waysWith at hB
  refine ev_iconst 0 dX1_waysWith_0 (by decide) ?_
  refine ev_istore_n dX1_waysWith_1 (by decide) rfl ?_
  refine ev_iconst 0 dX1_waysWith_2 (by decide) ?_
  refine ev_istore dX1_waysWith_3 (by decide) rfl ?_
  exact ev_ls (u_X1_waysWith_5 N l0 l1 l2 0 0 S hl0 hB) (And.intro rfl (And.intro rfl (And.intro rfl (And.intro rfl (And.intro rfl trivial)))))
def b_X1_bestPlace_40 (N : Nat) (k12 : Nat → Int32 → Int32 → Int32 → Int32 → am_S → Option (Int32 × am_S)) (l0 : Nat) (l1 : Int32) (l2 : Int32) (l3 : Int32) (l4 : Int32) (S : am_S) : Option (Int32 × am_S) := k12 l0 l1 l2 l3 (l4 + 1) S
def b_X1_bestPlace_12 (N : Nat) : Nat → Nat → Int32 → Int32 → Int32 → Int32 → am_S → Option (Int32 × am_S)
  | 0, _, _, _, _, _, _ => none
  | n + 1, l0, l1, l2, l3, l4, S => (if 30 < l4 then some (l2, S) else (bd (f_X1_waysWith N l0 l4 l1 S) (fun r2 S3 => (if l3 ≤ r2 then b_X1_bestPlace_40 N (b_X1_bestPlace_12 N n) l0 l1 l2 l3 l4 S3 else b_X1_bestPlace_40 N (b_X1_bestPlace_12 N n) l0 l1 l4 r2 l4 S3))))
def f_X1_bestPlace (N : Nat) (l0 : Nat) (l1 : Int32) (S : am_S) : Option (Int32 × am_S) := (bd (f_X1_waysWith N l0 0 l1 S) (fun r1 S2 => b_X1_bestPlace_12 N N l0 l1 0 r1 1 S2))
theorem u_X1_bestPlace_40 {G : am_G} {N : Nat} {h0 : am_H} {out : Int32 × am_S} {k12 : Nat → Int32 → Int32 → Int32 → Int32 → am_S → Option (Int32 × am_S)} (hk12 : ∀ (l0 : Nat) (l1 : Int32) (l2 : Int32) (l3 : Int32) (l4 : Int32) (S : am_S), isC 1 l0 = true → k12 l0 l1 l2 l3 l4 S = some out → Ev G (am_R 2 0 0) (am_Φ G h0 0 0 (q_i out) q_n) mX1_bestPlace 0 0 12 [some (.ref l0), some (.int l1), some (.int l2), some (.int l3), some (.int l4), none] [] (hp S)) (l0 : Nat) (l1 : Int32) (l2 : Int32) (l3 : Int32) (l4 : Int32) (S : am_S) (hl0 : isC 1 l0 = true) (hB : b_X1_bestPlace_40 N k12 l0 l1 l2 l3 l4 S = some out) : Ev G (am_R 2 0 0) (am_Φ G h0 0 0 (q_i out) q_n) mX1_bestPlace 0 0 40 [some (.ref l0), some (.int l1), some (.int l2), some (.int l3), some (.int l4), none] [] (hp S) := by
  unfold b_X1_bestPlace_40 at hB
  refine es_iinc 1 dX1_bestPlace_40 rfl (by decide) (by decide) rfl ?_
  refine ev_goto 12 dX1_bestPlace_43 (by decide) ?_
  exact ev_ls (hk12 l0 l1 l2 l3 (l4 + 1) S hl0 hB) (And.intro rfl (And.intro rfl (And.intro rfl (And.intro rfl (And.intro rfl trivial)))))
theorem u_X1_bestPlace_12 {G : am_G} {N : Nat} {h0 : am_H} {out : Int32 × am_S} : ∀ (n : Nat) (l0 : Nat) (l1 : Int32) (l2 : Int32) (l3 : Int32) (l4 : Int32) (S : am_S), isC 1 l0 = true → b_X1_bestPlace_12 N n l0 l1 l2 l3 l4 S = some out → Ev G (am_R 2 0 0) (am_Φ G h0 0 0 (q_i out) q_n) mX1_bestPlace 0 0 12 [some (.ref l0), some (.int l1), some (.int l2), some (.int l3), some (.int l4), none] [] (hp S) := by
  intro n
  induction n with
  | zero =>
    intro l0 l1 l2 l3 l4 S hl0 hB
    exact absurd (show none = some out from hB) (fun q => by cases q)
  | succ n ih =>
    intro l0 l1 l2 l3 l4 S hl0 hB
    unfold b_X1_bestPlace_12 at hB
    refine ev_iload dX1_bestPlace_12 rfl ?_
    refine ev_bipush 30 dX1_bestPlace_14 (by decide) ?_
    refine ev_icmpgt 46 dX1_bestPlace_16 (by decide) (fun q1 => ?_) (fun q1 => ?_)
    · rw [if_pos q1] at hB
      refine ev_iload_n dX1_bestPlace_46 rfl ?_
      obtain rfl := Option.some.inj hB
      exact ev_iret dX1_bestPlace_47 rfl (Nat.zero_le _) (Nat.zero_le _) (fun z => absurd z (hp_sealed _)) ⟨rfl, rfl⟩
    · rw [if_neg q1] at hB
      refine ev_aload_n dX1_bestPlace_19 rfl ?_
      refine ev_iload dX1_bestPlace_20 rfl ?_
      refine ev_iload_n dX1_bestPlace_22 rfl ?_
      obtain ⟨r2, S3, e4, hB⟩ := bd_of hB
      refine es_callVi (As := [.int l4, .int l1]) (t_X1_waysWith hl0 e4) dX1_bestPlace_23 oX1_waysWith w_794 rfl hl0 rfl rfl (Nat.le_of_ble_eq_true rfl) rfl (am_fit.of (by decide)) ⟨Nat.zero_le _, Nat.zero_le _⟩ ?_
      refine ev_istore dX1_bestPlace_26 (by decide) rfl ?_
      refine ev_iload dX1_bestPlace_28 rfl ?_
      refine ev_iload_n dX1_bestPlace_30 rfl ?_
      refine ev_icmpge 40 dX1_bestPlace_31 (by decide) (fun q5 => ?_) (fun q5 => ?_)
      · rw [if_pos q5] at hB
        exact ev_ls (u_X1_bestPlace_40 ih l0 l1 l2 l3 l4 S3 hl0 hB) (And.intro rfl (And.intro rfl (And.intro rfl (And.intro rfl (And.intro rfl trivial)))))
      · rw [if_neg q5] at hB
        refine ev_iload dX1_bestPlace_34 rfl ?_
        refine ev_istore_n dX1_bestPlace_36 (by decide) rfl ?_
        refine ev_iload dX1_bestPlace_37 rfl ?_
        refine ev_istore_n dX1_bestPlace_39 (by decide) rfl ?_
        exact ev_ls (u_X1_bestPlace_40 ih l0 l1 l4 r2 l4 S3 hl0 hB) (And.intro rfl (And.intro rfl (And.intro rfl (And.intro rfl (And.intro rfl trivial)))))
theorem t_X1_bestPlace {G : am_G} {N : Nat} {l0 : Nat} {l1 : Int32} {S : am_S} {out : Int32 × am_S} (hl0 : isC 1 l0 = true) (hB : f_X1_bestPlace N l0 l1 S = some out) : am_Met G 2 mX1_bestPlace 0 0 [.ref l0, .int l1] (hp S) (q_i out) q_n := by
  refine am_of (by decide +kernel) rfl rfl rfl (Nat.le_of_ble_eq_true rfl) ?_
  unfold f_X1_bestPlace at hB
  refine ev_iconst 0 dX1_bestPlace_0 (by decide) ?_
  refine ev_istore_n dX1_bestPlace_1 (by decide) rfl ?_
  refine ev_aload_n dX1_bestPlace_2 rfl ?_
  refine ev_iconst 0 dX1_bestPlace_3 (by decide) ?_
  refine ev_iload_n dX1_bestPlace_4 rfl ?_
  obtain ⟨r1, S2, e3, hB⟩ := bd_of hB
  refine es_callVi (As := [.int 0, .int l1]) (t_X1_waysWith hl0 e3) dX1_bestPlace_5 oX1_waysWith w_794 rfl hl0 rfl rfl (Nat.le_of_ble_eq_true rfl) rfl (am_fit.of (by decide)) ⟨Nat.zero_le _, Nat.zero_le _⟩ ?_
  refine ev_istore_n dX1_bestPlace_8 (by decide) rfl ?_
  refine ev_iconst 1 dX1_bestPlace_9 (by decide) ?_
  refine ev_istore dX1_bestPlace_10 (by decide) rfl ?_
  exact ev_ls (u_X1_bestPlace_12 N l0 l1 0 r1 1 S2 hl0 hB) (And.intro rfl (And.intro rfl (And.intro rfl (And.intro rfl (And.intro rfl trivial)))))
