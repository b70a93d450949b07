def b_X9_putBytes_42 (N : Nat) (k3 : Nat → Int32 → Int32 → am_S → Option (am_S)) (l0 : Nat) (l1 : Int32) (l2 : Int32) (S : am_S) : Option (am_S) := k3 l0 l1 (l2 + (-8)) S
def b_X9_putBytes_3 (N : Nat) : Nat → Nat → Int32 → Int32 → am_S → Option (am_S)
  | 0, _, _, _, _ => none
  | n + 1, l0, l1, l2, S => (if l2 < 0 then some S else (if (nI (ln (rf l0 0))) ≤ (sg S l0 1) then b_X9_putBytes_42 N (b_X9_putBytes_3 N n) l0 l1 l2 S else (if inb (sg S l0 1) (ln (rf l0 0)) = true then b_X9_putBytes_42 N (b_X9_putBytes_3 N n) l0 l1 l2 (sp (sp S (rf l0 0) (Int32.toNatClampNeg (sg S l0 1)) (vp_nar .byte (Int8.toInt32 (Int32.toInt8 (jushr l1 l2))))) l0 1 ((sg (sp S (rf l0 0) (Int32.toNatClampNeg (sg S l0 1)) (vp_nar .byte (Int8.toInt32 (Int32.toInt8 (jushr l1 l2))))) l0 1) + 1)) else none)))
def f_X9_putBytes (N : Nat) (l0 : Nat) (l1 : Int32) (S : am_S) : Option (am_S) := b_X9_putBytes_3 N N l0 l1 24 S
theorem u_X9_putBytes_42 {G : am_G} {N : Nat} {h0 : am_H} {out : am_S} {k3 : Nat → Int32 → Int32 → am_S → Option (am_S)} (hk3 : ∀ (l0 : Nat) (l1 : Int32) (l2 : Int32) (S : am_S), isC 9 l0 = true → k3 l0 l1 l2 S = some out → Ev G (am_R 1 0 0) (am_Φ G h0 0 0 (q_v out) q_n) mX9_putBytes 0 0 3 [some (.ref l0), some (.int l1), some (.int l2)] [] (hp S)) (l0 : Nat) (l1 : Int32) (l2 : Int32) (S : am_S) (hl0 : isC 9 l0 = true) (hB : b_X9_putBytes_42 N k3 l0 l1 l2 S = some out) : Ev G (am_R 1 0 0) (am_Φ G h0 0 0 (q_v out) q_n) mX9_putBytes 0 0 42 [some (.ref l0), some (.int l1), some (.int l2)] [] (hp S) := by
  unfold b_X9_putBytes_42 at hB
  refine es_iinc (-8) dX9_putBytes_42 rfl (by decide) (by decide) rfl ?_
  refine ev_goto 3 dX9_putBytes_45 (by decide) ?_
  exact ev_ls (hk3 l0 l1 (l2 + (-8)) S hl0 hB) (And.intro rfl (And.intro rfl (And.intro rfl trivial)))
theorem u_X9_putBytes_3 {G : am_G} {N : Nat} {h0 : am_H} {out : am_S} : ∀ (n : Nat) (l0 : Nat) (l1 : Int32) (l2 : Int32) (S : am_S), isC 9 l0 = true → b_X9_putBytes_3 N n l0 l1 l2 S = some out → Ev G (am_R 1 0 0) (am_Φ G h0 0 0 (q_v out) q_n) mX9_putBytes 0 0 3 [some (.ref l0), some (.int l1), some (.int l2)] [] (hp S) := by
  intro n
  induction n with
  | zero =>
    intro l0 l1 l2 S hl0 hB
    exact absurd (show none = some out from hB) (fun q => by cases q)
  | succ n ih =>
    intro l0 l1 l2 S hl0 hB
    unfold b_X9_putBytes_3 at hB
    refine ev_iload_n dX9_putBytes_3 rfl ?_
    refine ev_iflt 48 dX9_putBytes_4 (by decide) (fun q1 => ?_) (fun q1 => ?_)
    · rw [if_pos q1] at hB
      obtain rfl := Option.some.inj hB
      exact ev_vret dX9_putBytes_48 rfl (Nat.zero_le _) (Nat.zero_le _) (fun z => absurd z (hp_sealed _)) ⟨rfl, rfl⟩
    · rw [if_neg q1] at hB
      refine ev_aload_n dX9_putBytes_7 rfl ?_
      refine es_geti k_9 1 dX9_putBytes_8 (by decide) rfl (Or.inl w_579) hl0 rfl ?_
      refine ev_aload_n dX9_putBytes_11 rfl ?_
      refine es_getr k_9 0 dX9_putBytes_12 (by decide) rfl (Or.inl w_578) hl0 rfl ?_
      refine es_alen dX9_putBytes_15 (tr_9_0 hl0) rfl ?_
      refine ev_icmpge 42 dX9_putBytes_16 (by decide) (fun q2 => ?_) (fun q2 => ?_)
      · rw [if_pos q2] at hB
        exact ev_ls (u_X9_putBytes_42 ih l0 l1 l2 S hl0 hB) (And.intro rfl (And.intro rfl (And.intro rfl trivial)))
      · rw [if_neg q2] at hB
        refine ev_aload_n dX9_putBytes_19 rfl ?_
        refine es_getr k_9 0 dX9_putBytes_20 (by decide) rfl (Or.inl w_578) hl0 rfl ?_
        refine ev_aload_n dX9_putBytes_23 rfl ?_
        refine es_geti k_9 1 dX9_putBytes_24 (by decide) rfl (Or.inl w_579) hl0 rfl ?_
        refine ev_iload_n dX9_putBytes_27 rfl ?_
        refine ev_iload_n dX9_putBytes_28 rfl ?_
        refine ev_iushr dX9_putBytes_29 ?_
        refine ev_i2b dX9_putBytes_30 ?_
        obtain ⟨c3, hB⟩ := ck_of hB
        refine es_bast dX9_putBytes_31 (tr_9_0 hl0) c3 ?_
        refine ev_aload_n dX9_putBytes_32 rfl ?_
        refine ev_dup dX9_putBytes_33 rfl ?_
        refine es_geti k_9 1 dX9_putBytes_34 (by decide) rfl (Or.inl w_579) hl0 rfl ?_
        refine ev_iconst 1 dX9_putBytes_37 (by decide) ?_
        refine ev_iadd dX9_putBytes_38 ?_
        refine es_puti k_9 1 dX9_putBytes_39 (by decide) rfl (Or.inl w_579) rfl rfl hl0 rfl ?_
        exact ev_ls (u_X9_putBytes_42 ih l0 l1 l2 (sp (sp S (rf l0 0) (Int32.toNatClampNeg (sg S l0 1)) (vp_nar .byte (Int8.toInt32 (Int32.toInt8 (jushr l1 l2))))) l0 1 ((sg (sp S (rf l0 0) (Int32.toNatClampNeg (sg S l0 1)) (vp_nar .byte (Int8.toInt32 (Int32.toInt8 (jushr l1 l2))))) l0 1) + 1)) hl0 hB) (And.intro rfl (And.intro rfl (And.intro rfl trivial)))
theorem t_X9_putBytes {G : am_G} {N : Nat} {l0 : Nat} {l1 : Int32} {S : am_S} {out : am_S} (hl0 : isC 9 l0 = true) (hB : f_X9_putBytes N l0 l1 S = some out) : am_Met G 1 mX9_putBytes 0 0 [.ref l0, .int l1] (hp S) (q_v out) q_n := by
  refine am_of (by decide +kernel) rfl rfl rfl (Nat.le_of_ble_eq_true rfl) ?_
  unfold f_X9_putBytes at hB
  refine ev_bipush 24 dX9_putBytes_0 (by decide) ?_
  refine ev_istore_n dX9_putBytes_2 (by decide) rfl ?_
  exact ev_ls (u_X9_putBytes_3 N l0 l1 24 S hl0 hB) (And.intro rfl (And.intro rfl (And.intro rfl trivial)))
def f_X9_feed (N : Nat) (l0 : Nat) (l1 : Int32) (l2 : Int32) (l3 : Int32) (l4 : Int32) (l5 : Int32) (S : am_S) : Option (Int32 × am_S) := (if (sg S l0 1) ≤ 680 then (bv (f_X9_putBytes N l0 l1 S) (fun S3 => (bv (f_X9_putBytes N l0 l2 S3) (fun S6 => (bv (f_X9_putBytes N l0 l3 S6) (fun S9 => (bv (f_X9_putBytes N l0 l4 S9) (fun S12 => (bv (f_X9_putBytes N l0 l5 S12) (fun S15 => some ((sg S15 l0 1), S15))))))))))) else some ((-1), S))
theorem t_X9_feed {G : am_G} {N : Nat} {l0 : Nat} {l1 : Int32} {l2 : Int32} {l3 : Int32} {l4 : Int32} {l5 : Int32} {S : am_S} {out : Int32 × am_S} (hl0 : isC 9 l0 = true) (hB : f_X9_feed N l0 l1 l2 l3 l4 l5 S = some out) : am_Met G 2 mX9_feed 0 0 [.ref l0, .int l1, .int l2, .int l3, .int l4, .int l5] (hp S) (q_i out) q_n := by
  refine am_of (by decide +kernel) rfl rfl rfl (Nat.le_of_ble_eq_true rfl) ?_
  unfold f_X9_feed at hB
  refine ev_aload_n dX9_feed_0 rfl ?_
  refine es_geti k_9 1 dX9_feed_1 (by decide) rfl (Or.inl w_579) hl0 rfl ?_
  refine ev_sipush 680 dX9_feed_4 (by decide) ?_
  refine ev_icmple 12 dX9_feed_7 (by decide) (fun q1 => ?_) (fun q1 => ?_)
  · rw [if_pos q1] at hB
    refine ev_aload_n dX9_feed_12 rfl ?_
    refine ev_iload_n dX9_feed_13 rfl ?_
    obtain ⟨S3, e4, hB⟩ := bv_of hB
    refine es_callVv (As := [.int l1]) (t_X9_putBytes hl0 e4) dX9_feed_14 oX9_putBytes w_640 rfl hl0 rfl rfl (Nat.le_of_ble_eq_true rfl) rfl (am_fit.of (by decide)) ⟨Nat.zero_le _, Nat.zero_le _⟩ ?_
    refine ev_aload_n dX9_feed_17 rfl ?_
    refine ev_iload_n dX9_feed_18 rfl ?_
    obtain ⟨S6, e7, hB⟩ := bv_of hB
    refine es_callVv (As := [.int l2]) (t_X9_putBytes hl0 e7) dX9_feed_19 oX9_putBytes w_640 rfl hl0 rfl rfl (Nat.le_of_ble_eq_true rfl) rfl (am_fit.of (by decide)) ⟨Nat.zero_le _, Nat.zero_le _⟩ ?_
    refine ev_aload_n dX9_feed_22 rfl ?_
    refine ev_iload_n dX9_feed_23 rfl ?_
    obtain ⟨S9, e10, hB⟩ := bv_of hB
    refine es_callVv (As := [.int l3]) (t_X9_putBytes hl0 e10) dX9_feed_24 oX9_putBytes w_640 rfl hl0 rfl rfl (Nat.le_of_ble_eq_true rfl) rfl (am_fit.of (by decide)) ⟨Nat.zero_le _, Nat.zero_le _⟩ ?_
    refine ev_aload_n dX9_feed_27 rfl ?_
    refine ev_iload dX9_feed_28 rfl ?_
    obtain ⟨S12, e13, hB⟩ := bv_of hB
    refine es_callVv (As := [.int l4]) (t_X9_putBytes hl0 e13) dX9_feed_30 oX9_putBytes w_640 rfl hl0 rfl rfl (Nat.le_of_ble_eq_true rfl) rfl (am_fit.of (by decide)) ⟨Nat.zero_le _, Nat.zero_le _⟩ ?_
    refine ev_aload_n dX9_feed_33 rfl ?_
    refine ev_iload dX9_feed_34 rfl ?_
    obtain ⟨S15, e16, hB⟩ := bv_of hB
    refine es_callVv (As := [.int l5]) (t_X9_putBytes hl0 e16) dX9_feed_36 oX9_putBytes w_640 rfl hl0 rfl rfl (Nat.le_of_ble_eq_true rfl) rfl (am_fit.of (by decide)) ⟨Nat.zero_le _, Nat.zero_le _⟩ ?_
    refine ev_aload_n dX9_feed_39 rfl ?_
    refine es_geti k_9 1 dX9_feed_40 (by decide) rfl (Or.inl w_579) hl0 rfl ?_
    obtain rfl := Option.some.inj hB
    exact ev_iret dX9_feed_43 rfl (Nat.zero_le _) (Nat.zero_le _) (fun z => absurd z (hp_sealed _)) ⟨rfl, rfl⟩
  · rw [if_neg q1] at hB
    refine ev_iconst (-1) dX9_feed_10 (by decide) ?_
    obtain rfl := Option.some.inj hB
    exact ev_iret dX9_feed_11 rfl (Nat.zero_le _) (Nat.zero_le _) (fun z => absurd z (hp_sealed _)) ⟨rfl, rfl⟩
def f_X4_clearAll (N : Nat) (l0 : Nat) (S : am_S) : Option (am_S) := some (sp S l0 4 0)
theorem t_X4_clearAll {G : am_G} {N : Nat} {l0 : Nat} {S : am_S} {out : am_S} (hl0 : isC 4 l0 = true) (hB : f_X4_clearAll N l0 S = some out) : am_Met G 1 mX4_clearAll 0 0 [.ref l0] (hp S) (q_v out) q_n := by
  refine am_of (by decide +kernel) rfl rfl rfl (Nat.le_of_ble_eq_true rfl) ?_
  unfold f_X4_clearAll at hB
  refine ev_aload_n dX4_clearAll_0 rfl ?_
  refine ev_iconst 0 dX4_clearAll_1 (by decide) ?_
  refine es_putz k_4 4 dX4_clearAll_2 (by decide) rfl (Or.inl w_566) rfl rfl (Or.inl rfl) hl0 rfl ?_
  obtain rfl := Option.some.inj hB
  exact ev_vret dX4_clearAll_5 rfl (Nat.zero_le _) (Nat.zero_le _) (fun z => absurd z (hp_sealed _)) ⟨rfl, rfl⟩
def b_X9_city_12 (N : Nat)  (S : am_S) : Option (am_T) := some (.inr 1, S)
def f_X9_city (N : Nat) (l0 : Nat) (l1 : Int32) (S : am_S) : Option (am_T) := (if l1 < 0 then b_X9_city_12 N S else (if l1 ≤ (sg S l0 1) then (if isC 1 (rg (sp S l0 1 0) 1) = true then (bd (f_X2_read N (rf l0 2) (rf l0 0) l1 (rg (sp S l0 1 0) 1) (sp S l0 1 0)) (fun r4 S5 => (bd (f_X2_placeOfFault N (rf l0 2) S5) (fun r7 S8 => (if r4 = 0 then (if isC 1 (rg (sp S8 l0 3 r7) 0) = true then (if isC 1 (rg (sp S8 l0 3 r7) 1) = true then (if isC 1 (rg (rp (rp (sp S8 l0 3 r7) 0 (rg (sp S8 l0 3 r7) 1)) 1 (rg (sp S8 l0 3 r7) 0)) 0) = true then (bv (f_X7_begin N (rf l0 7) (rg (rp (rp (sp S8 l0 3 r7) 0 (rg (sp S8 l0 3 r7) 1)) 1 (rg (sp S8 l0 3 r7) 0)) 0) (rp (rp (sp S8 l0 3 r7) 0 (rg (sp S8 l0 3 r7) 1)) 1 (rg (sp S8 l0 3 r7) 0))) (fun S15 => (bv (f_X0_clearAll N (rf l0 9) S15) (fun S18 => (bv (f_X3_clearAll N (rf l0 10) S18) (fun S21 => (bv (f_X4_clearAll N (rf l0 15) (sp S21 l0 11 0)) (fun S24 => some (.inl 0, S24))))))))) else none) else none) else none) else (if inb 0 (ln (rf l0 4)) = true then (if inb 0 (ln (rf l0 4)) = true then some (.inl r4, (sp (sp S8 l0 3 r7) (rf l0 4) (Int32.toNatClampNeg 0) ((sg (sp S8 l0 3 r7) (rf l0 4) (Int32.toNatClampNeg 0)) + 1))) else none) else none)))))) else none) else b_X9_city_12 N S))
theorem u_X9_city_12 {G : am_G} {N : Nat} {h0 : am_H} {out : am_T}  (S : am_S) (hB : b_X9_city_12 N  S = some out) : Ev G (am_R 17 (t_c out) (t_s out)) (am_Φ G h0 (t_c out) (t_s out) (q_ti out) (q_tx out)) mX9_city 0 0 12 [none, none, none, none] [] (hp S) := by
  unfold b_X9_city_12 at hB
  obtain rfl := Option.some.inj hB
  exact es_thr1 0 dX9_city_12 dX9_city_15 dX9_city_16 dX9_city_18 dX9_city_21 rfl rfl rfl (Nat.le_of_ble_eq_true rfl) (by decide)
theorem t_X9_city {G : am_G} {N : Nat} {l0 : Nat} {l1 : Int32} {S : am_S} {out : am_T} (hl0 : isC 9 l0 = true) (hB : f_X9_city N l0 l1 S = some out) : am_Met G 17 mX9_city (t_c out) (t_s out) [.ref l0, .int l1] (hp S) (q_ti out) (q_tx out) := by
  refine am_of (by decide +kernel) rfl rfl rfl (Nat.le_of_ble_eq_true rfl) ?_
  unfold f_X9_city at hB
  refine ev_iload_n dX9_city_0 rfl ?_
  refine ev_iflt 12 dX9_city_1 (by decide) (fun q1 => ?_) (fun q1 => ?_)
  · rw [if_pos q1] at hB
    exact ev_ls (u_X9_city_12 S hB) trivial
  · rw [if_neg q1] at hB
    refine ev_iload_n dX9_city_4 rfl ?_
    refine ev_aload_n dX9_city_5 rfl ?_
    refine es_geti k_9 1 dX9_city_6 (by decide) rfl (Or.inl w_579) hl0 rfl ?_
    refine ev_icmple 22 dX9_city_9 (by decide) (fun q2 => ?_) (fun q2 => ?_)
    · rw [if_pos q2] at hB
      refine ev_aload_n dX9_city_22 rfl ?_
      refine ev_iconst 0 dX9_city_23 (by decide) ?_
      refine es_puti k_9 1 dX9_city_24 (by decide) rfl (Or.inl w_579) rfl rfl hl0 rfl ?_
      refine ev_aload_n dX9_city_27 rfl ?_
      refine es_getr k_9 2 dX9_city_28 (by decide) rfl (Or.inl w_580) hl0 rfl ?_
      refine ev_aload_n dX9_city_31 rfl ?_
      refine es_getr k_9 0 dX9_city_32 (by decide) rfl (Or.inl w_578) hl0 rfl ?_
      refine ev_iload_n dX9_city_35 rfl ?_
      refine ev_aload_n dX9_city_36 rfl ?_
      refine es_getd 1 k_9 6 dX9_city_37 (by decide) rfl (Or.inl w_584) hl0 rfl ?_
      obtain ⟨c3, hB⟩ := ck_of hB
      obtain ⟨r4, S5, e6, hB⟩ := bd_of hB
      refine es_callVi (As := [.ref (rf l0 0), .int l1, .ref (rg (sp S l0 1 0) 1)]) (t_X2_read (tr_9_2 hl0) (tr_9_0 hl0) c3 e6) dX9_city_40 oX2_read w_832 rfl (tr_9_2 hl0) rfl rfl (Nat.le_of_ble_eq_true rfl) rfl (am_fit.of (by decide)) ⟨Nat.zero_le _, Nat.zero_le _⟩ ?_
      refine ev_istore_n dX9_city_43 (by decide) rfl ?_
      refine ev_aload_n dX9_city_44 rfl ?_
      refine ev_aload_n dX9_city_45 rfl ?_
      refine es_getr k_9 2 dX9_city_46 (by decide) rfl (Or.inl w_580) hl0 rfl ?_
      obtain ⟨r7, S8, e9, hB⟩ := bd_of hB
      refine es_callVi (As := []) (t_X2_placeOfFault (tr_9_2 hl0) e9) dX9_city_49 oX2_placeOfFault w_1054 rfl (tr_9_2 hl0) rfl rfl (Nat.le_of_ble_eq_true rfl) rfl (am_fit.of (by decide)) ⟨Nat.zero_le _, Nat.zero_le _⟩ ?_
      refine es_puti k_9 3 dX9_city_52 (by decide) rfl (Or.inl w_581) rfl rfl hl0 rfl ?_
      refine ev_iload_n dX9_city_55 rfl ?_
      refine ev_ifeq 71 dX9_city_56 (by decide) (fun q10 => ?_) (fun q10 => ?_)
      · rw [if_pos q10] at hB
        refine ev_aload_n dX9_city_71 rfl ?_
        refine es_getd 0 k_9 5 dX9_city_72 (by decide) rfl (Or.inl w_583) hl0 rfl ?_
        obtain ⟨c11, hB⟩ := ck_of hB
        refine ev_astore_n dX9_city_75 (by decide) rfl ?_
        refine ev_aload_n dX9_city_76 rfl ?_
        refine ev_aload_n dX9_city_77 rfl ?_
        refine es_getd 1 k_9 6 dX9_city_78 (by decide) rfl (Or.inl w_584) hl0 rfl ?_
        obtain ⟨c12, hB⟩ := ck_of hB
        refine es_putd 0 k_9 5 dX9_city_81 (by decide) rfl (Or.inl w_583) rfl rfl rfl hl0 rfl (on_0 hl0) ?_
        refine ev_aload_n dX9_city_84 rfl ?_
        refine ev_aload_n dX9_city_85 rfl ?_
        refine es_putd 1 k_9 6 dX9_city_86 (by decide) rfl (Or.inl w_584) rfl rfl rfl hl0 rfl (on_1 hl0) ?_
        refine ev_aload_n dX9_city_89 rfl ?_
        refine es_getr k_9 7 dX9_city_90 (by decide) rfl (Or.inl w_585) hl0 rfl ?_
        refine ev_aload_n dX9_city_93 rfl ?_
        refine es_getd 0 k_9 5 dX9_city_94 (by decide) rfl (Or.inl w_583) hl0 rfl ?_
        obtain ⟨c13, hB⟩ := ck_of hB
        obtain ⟨S15, e16, hB⟩ := bv_of hB
        refine es_callVv (As := [.ref (rg (rp (rp (sp S8 l0 3 r7) 0 (rg (sp S8 l0 3 r7) 1)) 1 (rg (sp S8 l0 3 r7) 0)) 0)]) (t_X7_begin (tr_9_7 hl0) c13 e16) dX9_city_97 oX7_begin w_1058 rfl (tr_9_7 hl0) rfl rfl (Nat.le_of_ble_eq_true rfl) rfl (am_fit.of (by decide)) ⟨Nat.zero_le _, Nat.zero_le _⟩ ?_
        refine ev_aload_n dX9_city_100 rfl ?_
        refine es_getr k_9 9 dX9_city_101 (by decide) rfl (Or.inl w_587) hl0 rfl ?_
        obtain ⟨S18, e19, hB⟩ := bv_of hB
        refine es_callVv (As := []) (t_X0_clearAll (tr_9_9 hl0) e19) dX9_city_104 oX0_clearAll w_1063 rfl (tr_9_9 hl0) rfl rfl (Nat.le_of_ble_eq_true rfl) rfl (am_fit.of (by decide)) ⟨Nat.zero_le _, Nat.zero_le _⟩ ?_
        refine ev_aload_n dX9_city_107 rfl ?_
        refine es_getr k_9 10 dX9_city_108 (by decide) rfl (Or.inl w_588) hl0 rfl ?_
        obtain ⟨S21, e22, hB⟩ := bv_of hB
        refine es_callVv (As := []) (t_X3_clearAll (tr_9_10 hl0) e22) dX9_city_111 oX3_clearAll w_782 rfl (tr_9_10 hl0) rfl rfl (Nat.le_of_ble_eq_true rfl) rfl (am_fit.of (by decide)) ⟨Nat.zero_le _, Nat.zero_le _⟩ ?_
        refine ev_aload_n dX9_city_114 rfl ?_
        refine ev_iconst 0 dX9_city_115 (by decide) ?_
        refine es_putz k_9 11 dX9_city_116 (by decide) rfl (Or.inl w_589) rfl rfl (Or.inl rfl) hl0 rfl ?_
        refine ev_aload_n dX9_city_119 rfl ?_
        refine es_getr k_9 15 dX9_city_120 (by decide) rfl (Or.inl w_593) hl0 rfl ?_
        obtain ⟨S24, e25, hB⟩ := bv_of hB
        refine es_callVv (As := []) (t_X4_clearAll (tr_9_15 hl0) e25) dX9_city_123 oX4_clearAll w_1067 rfl (tr_9_15 hl0) rfl rfl (Nat.le_of_ble_eq_true rfl) rfl (am_fit.of (by decide)) ⟨Nat.zero_le _, Nat.zero_le _⟩ ?_
        refine ev_iconst 0 dX9_city_126 (by decide) ?_
        obtain rfl := Option.some.inj hB
        exact ev_iret dX9_city_127 rfl (Nat.zero_le _) (Nat.zero_le _) (fun z => absurd z (hp_sealed _)) ⟨_, rfl, rfl, rfl⟩
      · rw [if_neg q10] at hB
        refine ev_aload_n dX9_city_59 rfl ?_
        refine es_getr k_9 4 dX9_city_60 (by decide) rfl (Or.inl w_582) hl0 rfl ?_
        refine ev_iconst 0 dX9_city_63 (by decide) ?_
        refine ev_dup2 dX9_city_64 rfl rfl ?_
        obtain ⟨c26, hB⟩ := ck_of hB
        refine es_iald dX9_city_65 (tr_9_4 hl0) c26 ?_
        refine ev_iconst 1 dX9_city_66 (by decide) ?_
        refine ev_iadd dX9_city_67 ?_
        obtain ⟨c27, hB⟩ := ck_of hB
        refine es_iast dX9_city_68 (tr_9_4 hl0) c27 ?_
        refine ev_iload_n dX9_city_69 rfl ?_
        obtain rfl := Option.some.inj hB
        exact ev_iret dX9_city_70 rfl (Nat.zero_le _) (Nat.zero_le _) (fun z => absurd z (hp_sealed _)) ⟨_, rfl, rfl, rfl⟩
    · rw [if_neg q2] at hB
      exact ev_ls (u_X9_city_12 S hB) trivial
def f_X9_fault (N : Nat) (l0 : Nat) (S : am_S) : Option (Int32 × am_S) := some ((sg S l0 3), S)
theorem t_X9_fault {G : am_G} {N : Nat} {l0 : Nat} {S : am_S} {out : Int32 × am_S} (hl0 : isC 9 l0 = true) (hB : f_X9_fault N l0 S = some out) : am_Met G 1 mX9_fault 0 0 [.ref l0] (hp S) (q_i out) q_n := by
  refine am_of (by decide +kernel) rfl rfl rfl (Nat.le_of_ble_eq_true rfl) ?_
  unfold f_X9_fault at hB
  refine ev_aload_n dX9_fault_0 rfl ?_
  refine es_geti k_9 3 dX9_fault_1 (by decide) rfl (Or.inl w_581) hl0 rfl ?_
  obtain rfl := Option.some.inj hB
  exact ev_iret dX9_fault_4 rfl (Nat.zero_le _) (Nat.zero_le _) (fun z => absurd z (hp_sealed _)) ⟨rfl, rfl⟩
def b_X9_count_134 (N : Nat) (z0 : Int32) (S : am_S) : Option (am_T) := some (.inl z0, S)
def f_X9_count (N : Nat) (l0 : Nat) (l1 : Int32) (S : am_S) : Option (am_T) := (if l1 = 0 then (if isC 1 (rg S 0) = true then some (.inl (sg S (rg S 0) 0), S) else none) else (if l1 = 1 then (if isC 1 (rg S 0) = true then some (.inl (sg S (rg S 0) 3), S) else none) else (if l1 = 2 then (bd (f_X7_dayNow N (rf l0 7) S) (fun r5 S6 => some (.inl r5, S6))) else (if l1 = 3 then (if isC 1 (rg S 0) = true then (bd (f_X7_dayNow N (rf l0 7) S) (fun r10 S11 => (bd (f_X1_wetOn N (rg S 0) r10 S11) (fun r13 S14 => some (.inl r13, S14))))) else none) else (if l1 = 4 then (bd (f_X7_onStrike N (rf l0 7) S) (fun r17 S18 => (if r17 = 0 then b_X9_count_134 N 0 S18 else b_X9_count_134 N 1 S18))) else (if l1 = 5 then (if isC 1 (rg S 0) = true then (bd (f_X7_dayNow N (rf l0 7) S) (fun r23 S24 => (bd (f_X1_boxOn N (rg S 0) r23 S24) (fun r26 S27 => some (.inl r26, S27))))) else none) else (if l1 = 6 then (bd (f_X7_heldInAll N (rf l0 7) S) (fun r30 S31 => some (.inl r30, S31))) else (if l1 = 7 then (bd (f_X7_heardByAll N (rf l0 7) S) (fun r34 S35 => some (.inl r34, S35))) else (if l1 = 8 then (if isC 1 (rg S 0) = true then (bd (f_X1_mutualCouples N (rg S 0) (rf l0 7) S) (fun r39 S40 => some (.inl r39, S40))) else none) else (if l1 = 9 then (if isC 1 (rg S 0) = true then (bd (f_X1_unthoughtBits N (rg S 0) (rf l0 7) S) (fun r44 S45 => some (.inl r44, S45))) else none) else (if l1 = 10 then some (.inl (sg S (rf l0 9) 1), S) else (if l1 = 11 then some (.inl (sg S (rf l0 10) 3), S) else (if l1 = 12 then some (.inl (sg S l0 1), S) else (if l1 = 13 then (if inb 0 (ln (rf l0 4)) = true then some (.inl (sg S (rf l0 4) (Int32.toNatClampNeg 0)), S) else none) else (if l1 = 14 then (if inb 1 (ln (rf l0 4)) = true then some (.inl (sg S (rf l0 4) (Int32.toNatClampNeg 1)), S) else none) else (if l1 = 15 then (if inb 2 (ln (rf l0 4)) = true then some (.inl (sg S (rf l0 4) (Int32.toNatClampNeg 2)), S) else none) else some (.inr 0, S)))))))))))))))))
theorem u_X9_count_134 {G : am_G} {N : Nat} {h0 : am_H} {out : am_T} (z0 : Int32) (S : am_S) (hB : b_X9_count_134 N z0 S = some out) : Ev G (am_R 7 (t_c out) (t_s out)) (am_Φ G h0 (t_c out) (t_s out) (q_ti out) (q_tx out)) mX9_count 0 0 134 [none, none] [.int z0] (hp S) := by
  unfold b_X9_count_134 at hB
  obtain rfl := Option.some.inj hB
  exact ev_iret dX9_count_134 rfl (Nat.zero_le _) (Nat.zero_le _) (fun z => absurd z (hp_sealed _)) ⟨_, rfl, rfl, rfl⟩
theorem t_X9_count {G : am_G} {N : Nat} {l0 : Nat} {l1 : Int32} {S : am_S} {out : am_T} (hl0 : isC 9 l0 = true) (hB : f_X9_count N l0 l1 S = some out) : am_Met G 7 mX9_count (t_c out) (t_s out) [.ref l0, .int l1] (hp S) (q_ti out) (q_tx out) := by
  refine am_of (by decide +kernel) rfl rfl rfl (Nat.le_of_ble_eq_true rfl) ?_
  unfold f_X9_count at hB
  refine ev_iload_n dX9_count_0 rfl ?_
  by_cases q2 : l1 = 0
  · rw [if_pos q2] at hB
    refine ev_tableIn (off := 79) 80 dX9_count_1 (by rw [q2]; decide) (by rw [q2]; decide) (by rw [q2]; rfl) (by decide) ?_
    refine ev_aload_n dX9_count_80 rfl ?_
    refine es_getd 0 k_9 5 dX9_count_81 (by decide) rfl (Or.inl w_583) hl0 rfl ?_
    obtain ⟨c1, hB⟩ := ck_of hB
    refine es_geti k_1 0 dX9_count_84 (by decide) rfl (Or.inr ⟨_, n_136⟩) c1 rfl ?_
    obtain rfl := Option.some.inj hB
    exact ev_iret dX9_count_87 rfl (Nat.zero_le _) (Nat.zero_le _) (fun z => absurd z (hp_sealed _)) ⟨_, rfl, rfl, rfl⟩
  rw [if_neg q2] at hB
  have tq2 := am_nt (k := 0) q2 (by decide)
  by_cases q4 : l1 = 1
  · rw [if_pos q4] at hB
    refine ev_tableIn (off := 87) 88 dX9_count_1 (by rw [q4]; decide) (by rw [q4]; decide) (by rw [q4]; rfl) (by decide) ?_
    refine ev_aload_n dX9_count_88 rfl ?_
    refine es_getd 0 k_9 5 dX9_count_89 (by decide) rfl (Or.inl w_583) hl0 rfl ?_
    obtain ⟨c3, hB⟩ := ck_of hB
    refine es_geti k_1 3 dX9_count_92 (by decide) rfl (Or.inr ⟨_, n_143⟩) c3 rfl ?_
    obtain rfl := Option.some.inj hB
    exact ev_iret dX9_count_95 rfl (Nat.zero_le _) (Nat.zero_le _) (fun z => absurd z (hp_sealed _)) ⟨_, rfl, rfl, rfl⟩
  rw [if_neg q4] at hB
  have tq4 := am_nt (k := 1) q4 (by decide)
  by_cases q8 : l1 = 2
  · rw [if_pos q8] at hB
    refine ev_tableIn (off := 95) 96 dX9_count_1 (by rw [q8]; decide) (by rw [q8]; decide) (by rw [q8]; rfl) (by decide) ?_
    refine ev_aload_n dX9_count_96 rfl ?_
    refine es_getr k_9 7 dX9_count_97 (by decide) rfl (Or.inl w_585) hl0 rfl ?_
    obtain ⟨r5, S6, e7, hB⟩ := bd_of hB
    refine es_callVi (As := []) (t_X7_dayNow (tr_9_7 hl0) e7) dX9_count_100 oX7_dayNow w_652 rfl (tr_9_7 hl0) rfl rfl (Nat.le_of_ble_eq_true rfl) rfl (am_fit.of (by decide)) ⟨Nat.zero_le _, Nat.zero_le _⟩ ?_
    obtain rfl := Option.some.inj hB
    exact ev_iret dX9_count_103 rfl (Nat.zero_le _) (Nat.zero_le _) (fun z => absurd z (hp_sealed _)) ⟨_, rfl, rfl, rfl⟩
  rw [if_neg q8] at hB
  have tq8 := am_nt (k := 2) q8 (by decide)
  by_cases q16 : l1 = 3
  · rw [if_pos q16] at hB
    refine ev_tableIn (off := 103) 104 dX9_count_1 (by rw [q16]; decide) (by rw [q16]; decide) (by rw [q16]; rfl) (by decide) ?_
    refine ev_aload_n dX9_count_104 rfl ?_
    refine es_getd 0 k_9 5 dX9_count_105 (by decide) rfl (Or.inl w_583) hl0 rfl ?_
    obtain ⟨c9, hB⟩ := ck_of hB
    refine ev_aload_n dX9_count_108 rfl ?_
    refine es_getr k_9 7 dX9_count_109 (by decide) rfl (Or.inl w_585) hl0 rfl ?_
    obtain ⟨r10, S11, e12, hB⟩ := bd_of hB
    refine es_callVi (As := []) (t_X7_dayNow (tr_9_7 hl0) e12) dX9_count_112 oX7_dayNow w_652 rfl (tr_9_7 hl0) rfl rfl (Nat.le_of_ble_eq_true rfl) rfl (am_fit.of (by decide)) ⟨Nat.zero_le _, Nat.zero_le _⟩ ?_
    obtain ⟨r13, S14, e15, hB⟩ := bd_of hB
    refine es_callVi (As := [.int r10]) (t_X1_wetOn c9 e15) dX9_count_115 oX1_wetOn w_1079 rfl c9 rfl rfl (Nat.le_of_ble_eq_true rfl) rfl (am_fit.of (by decide)) ⟨Nat.zero_le _, Nat.zero_le _⟩ ?_
    obtain rfl := Option.some.inj hB
    exact ev_iret dX9_count_118 rfl (Nat.zero_le _) (Nat.zero_le _) (fun z => absurd z (hp_sealed _)) ⟨_, rfl, rfl, rfl⟩
  rw [if_neg q16] at hB
  have tq16 := am_nt (k := 3) q16 (by decide)
  by_cases q21 : l1 = 4
  · rw [if_pos q21] at hB
    refine ev_tableIn (off := 118) 119 dX9_count_1 (by rw [q21]; decide) (by rw [q21]; decide) (by rw [q21]; rfl) (by decide) ?_
    refine ev_aload_n dX9_count_119 rfl ?_
    refine es_getr k_9 7 dX9_count_120 (by decide) rfl (Or.inl w_585) hl0 rfl ?_
    obtain ⟨r17, S18, e19, hB⟩ := bd_of hB
    refine es_callVi (As := []) (t_X7_onStrike (tr_9_7 hl0) e19) dX9_count_123 oX7_onStrike w_765 rfl (tr_9_7 hl0) rfl rfl (Nat.le_of_ble_eq_true rfl) rfl (am_fit.of (by decide)) ⟨Nat.zero_le _, Nat.zero_le _⟩ ?_
    refine ev_ifeq 133 dX9_count_126 (by decide) (fun q20 => ?_) (fun q20 => ?_)
    · rw [if_pos q20] at hB
      refine ev_iconst 0 dX9_count_133 (by decide) ?_
      exact ev_ls (u_X9_count_134 0 S18 hB) trivial
    · rw [if_neg q20] at hB
      refine ev_iconst 1 dX9_count_129 (by decide) ?_
      refine ev_goto 134 dX9_count_130 (by decide) ?_
      exact ev_ls (u_X9_count_134 1 S18 hB) trivial
  rw [if_neg q21] at hB
  have tq21 := am_nt (k := 4) q21 (by decide)
  by_cases q29 : l1 = 5
  · rw [if_pos q29] at hB
    refine ev_tableIn (off := 134) 135 dX9_count_1 (by rw [q29]; decide) (by rw [q29]; decide) (by rw [q29]; rfl) (by decide) ?_
    refine ev_aload_n dX9_count_135 rfl ?_
    refine es_getd 0 k_9 5 dX9_count_136 (by decide) rfl (Or.inl w_583) hl0 rfl ?_
    obtain ⟨c22, hB⟩ := ck_of hB
    refine ev_aload_n dX9_count_139 rfl ?_
    refine es_getr k_9 7 dX9_count_140 (by decide) rfl (Or.inl w_585) hl0 rfl ?_
    obtain ⟨r23, S24, e25, hB⟩ := bd_of hB
    refine es_callVi (As := []) (t_X7_dayNow (tr_9_7 hl0) e25) dX9_count_143 oX7_dayNow w_652 rfl (tr_9_7 hl0) rfl rfl (Nat.le_of_ble_eq_true rfl) rfl (am_fit.of (by decide)) ⟨Nat.zero_le _, Nat.zero_le _⟩ ?_
    obtain ⟨r26, S27, e28, hB⟩ := bd_of hB
    refine es_callVi (As := [.int r23]) (t_X1_boxOn c22 e28) dX9_count_146 oX1_boxOn w_1080 rfl c22 rfl rfl (Nat.le_of_ble_eq_true rfl) rfl (am_fit.of (by decide)) ⟨Nat.zero_le _, Nat.zero_le _⟩ ?_
    obtain rfl := Option.some.inj hB
    exact ev_iret dX9_count_149 rfl (Nat.zero_le _) (Nat.zero_le _) (fun z => absurd z (hp_sealed _)) ⟨_, rfl, rfl, rfl⟩
  rw [if_neg q29] at hB
  have tq29 := am_nt (k := 5) q29 (by decide)
  by_cases q33 : l1 = 6
  · rw [if_pos q33] at hB
    refine ev_tableIn (off := 149) 150 dX9_count_1 (by rw [q33]; decide) (by rw [q33]; decide) (by rw [q33]; rfl) (by decide) ?_
    refine ev_aload_n dX9_count_150 rfl ?_
    refine es_getr k_9 7 dX9_count_151 (by decide) rfl (Or.inl w_585) hl0 rfl ?_
    obtain ⟨r30, S31, e32, hB⟩ := bd_of hB
    refine es_callVi (As := []) (t_X7_heldInAll (tr_9_7 hl0) e32) dX9_count_154 oX7_heldInAll w_1081 rfl (tr_9_7 hl0) rfl rfl (Nat.le_of_ble_eq_true rfl) rfl (am_fit.of (by decide)) ⟨Nat.zero_le _, Nat.zero_le _⟩ ?_
    obtain rfl := Option.some.inj hB
    exact ev_iret dX9_count_157 rfl (Nat.zero_le _) (Nat.zero_le _) (fun z => absurd z (hp_sealed _)) ⟨_, rfl, rfl, rfl⟩
  rw [if_neg q33] at hB
  have tq33 := am_nt (k := 6) q33 (by decide)
  by_cases q37 : l1 = 7
  · rw [if_pos q37] at hB
    refine ev_tableIn (off := 157) 158 dX9_count_1 (by rw [q37]; decide) (by rw [q37]; decide) (by rw [q37]; rfl) (by decide) ?_
    refine ev_aload_n dX9_count_158 rfl ?_
    refine es_getr k_9 7 dX9_count_159 (by decide) rfl (Or.inl w_585) hl0 rfl ?_
    obtain ⟨r34, S35, e36, hB⟩ := bd_of hB
    refine es_callVi (As := []) (t_X7_heardByAll (tr_9_7 hl0) e36) dX9_count_162 oX7_heardByAll w_1085 rfl (tr_9_7 hl0) rfl rfl (Nat.le_of_ble_eq_true rfl) rfl (am_fit.of (by decide)) ⟨Nat.zero_le _, Nat.zero_le _⟩ ?_
    obtain rfl := Option.some.inj hB
    exact ev_iret dX9_count_165 rfl (Nat.zero_le _) (Nat.zero_le _) (fun z => absurd z (hp_sealed _)) ⟨_, rfl, rfl, rfl⟩
  rw [if_neg q37] at hB
  have tq37 := am_nt (k := 7) q37 (by decide)
  by_cases q42 : l1 = 8
  · rw [if_pos q42] at hB
    refine ev_tableIn (off := 165) 166 dX9_count_1 (by rw [q42]; decide) (by rw [q42]; decide) (by rw [q42]; rfl) (by decide) ?_
    refine ev_aload_n dX9_count_166 rfl ?_
    refine es_getd 0 k_9 5 dX9_count_167 (by decide) rfl (Or.inl w_583) hl0 rfl ?_
    obtain ⟨c38, hB⟩ := ck_of hB
    refine ev_aload_n dX9_count_170 rfl ?_
    refine es_getr k_9 7 dX9_count_171 (by decide) rfl (Or.inl w_585) hl0 rfl ?_
    obtain ⟨r39, S40, e41, hB⟩ := bd_of hB
    refine es_callVi (As := [.ref (rf l0 7)]) (t_X1_mutualCouples c38 (tr_9_7 hl0) e41) dX9_count_174 oX1_mutualCouples w_1089 rfl c38 rfl rfl (Nat.le_of_ble_eq_true rfl) rfl (am_fit.of (by decide)) ⟨Nat.zero_le _, Nat.zero_le _⟩ ?_
    obtain rfl := Option.some.inj hB
    exact ev_iret dX9_count_177 rfl (Nat.zero_le _) (Nat.zero_le _) (fun z => absurd z (hp_sealed _)) ⟨_, rfl, rfl, rfl⟩
  rw [if_neg q42] at hB
  have tq42 := am_nt (k := 8) q42 (by decide)
  by_cases q47 : l1 = 9
  · rw [if_pos q47] at hB
    refine ev_tableIn (off := 177) 178 dX9_count_1 (by rw [q47]; decide) (by rw [q47]; decide) (by rw [q47]; rfl) (by decide) ?_
    refine ev_aload_n dX9_count_178 rfl ?_
    refine es_getd 0 k_9 5 dX9_count_179 (by decide) rfl (Or.inl w_583) hl0 rfl ?_
    obtain ⟨c43, hB⟩ := ck_of hB
    refine ev_aload_n dX9_count_182 rfl ?_
    refine es_getr k_9 7 dX9_count_183 (by decide) rfl (Or.inl w_585) hl0 rfl ?_
    obtain ⟨r44, S45, e46, hB⟩ := bd_of hB
    refine es_callVi (As := [.ref (rf l0 7)]) (t_X1_unthoughtBits c43 (tr_9_7 hl0) e46) dX9_count_186 oX1_unthoughtBits w_1093 rfl c43 rfl rfl (Nat.le_of_ble_eq_true rfl) rfl (am_fit.of (by decide)) ⟨Nat.zero_le _, Nat.zero_le _⟩ ?_
    obtain rfl := Option.some.inj hB
    exact ev_iret dX9_count_189 rfl (Nat.zero_le _) (Nat.zero_le _) (fun z => absurd z (hp_sealed _)) ⟨_, rfl, rfl, rfl⟩
  rw [if_neg q47] at hB
  have tq47 := am_nt (k := 9) q47 (by decide)
  by_cases q48 : l1 = 10
  · rw [if_pos q48] at hB
    refine ev_tableIn (off := 189) 190 dX9_count_1 (by rw [q48]; decide) (by rw [q48]; decide) (by rw [q48]; rfl) (by decide) ?_
    refine ev_aload_n dX9_count_190 rfl ?_
    refine es_getr k_9 9 dX9_count_191 (by decide) rfl (Or.inl w_587) hl0 rfl ?_
    refine es_geti k_0 1 dX9_count_194 (by decide) rfl (Or.inr ⟨_, n_524⟩) (tr_9_9 hl0) rfl ?_
    obtain rfl := Option.some.inj hB
    exact ev_iret dX9_count_197 rfl (Nat.zero_le _) (Nat.zero_le _) (fun z => absurd z (hp_sealed _)) ⟨_, rfl, rfl, rfl⟩
  rw [if_neg q48] at hB
  have tq48 := am_nt (k := 10) q48 (by decide)
  by_cases q49 : l1 = 11
  · rw [if_pos q49] at hB
    refine ev_tableIn (off := 197) 198 dX9_count_1 (by rw [q49]; decide) (by rw [q49]; decide) (by rw [q49]; rfl) (by decide) ?_
    refine ev_aload_n dX9_count_198 rfl ?_
    refine es_getr k_9 10 dX9_count_199 (by decide) rfl (Or.inl w_588) hl0 rfl ?_
    refine es_geti k_3 3 dX9_count_202 (by decide) rfl (Or.inr ⟨_, n_543⟩) (tr_9_10 hl0) rfl ?_
    obtain rfl := Option.some.inj hB
    exact ev_iret dX9_count_205 rfl (Nat.zero_le _) (Nat.zero_le _) (fun z => absurd z (hp_sealed _)) ⟨_, rfl, rfl, rfl⟩
  rw [if_neg q49] at hB
  have tq49 := am_nt (k := 11) q49 (by decide)
  by_cases q50 : l1 = 12
  · rw [if_pos q50] at hB
    refine ev_tableIn (off := 205) 206 dX9_count_1 (by rw [q50]; decide) (by rw [q50]; decide) (by rw [q50]; rfl) (by decide) ?_
    refine ev_aload_n dX9_count_206 rfl ?_
    refine es_geti k_9 1 dX9_count_207 (by decide) rfl (Or.inl w_579) hl0 rfl ?_
    obtain rfl := Option.some.inj hB
    exact ev_iret dX9_count_210 rfl (Nat.zero_le _) (Nat.zero_le _) (fun z => absurd z (hp_sealed _)) ⟨_, rfl, rfl, rfl⟩
  rw [if_neg q50] at hB
  have tq50 := am_nt (k := 12) q50 (by decide)
  by_cases q52 : l1 = 13
  · rw [if_pos q52] at hB
    refine ev_tableIn (off := 210) 211 dX9_count_1 (by rw [q52]; decide) (by rw [q52]; decide) (by rw [q52]; rfl) (by decide) ?_
    refine ev_aload_n dX9_count_211 rfl ?_
    refine es_getr k_9 4 dX9_count_212 (by decide) rfl (Or.inl w_582) hl0 rfl ?_
    refine ev_iconst 0 dX9_count_215 (by decide) ?_
    obtain ⟨c51, hB⟩ := ck_of hB
    refine es_iald dX9_count_216 (tr_9_4 hl0) c51 ?_
    obtain rfl := Option.some.inj hB
    exact ev_iret dX9_count_217 rfl (Nat.zero_le _) (Nat.zero_le _) (fun z => absurd z (hp_sealed _)) ⟨_, rfl, rfl, rfl⟩
  rw [if_neg q52] at hB
  have tq52 := am_nt (k := 13) q52 (by decide)
  by_cases q54 : l1 = 14
  · rw [if_pos q54] at hB
    refine ev_tableIn (off := 217) 218 dX9_count_1 (by rw [q54]; decide) (by rw [q54]; decide) (by rw [q54]; rfl) (by decide) ?_
    refine ev_aload_n dX9_count_218 rfl ?_
    refine es_getr k_9 4 dX9_count_219 (by decide) rfl (Or.inl w_582) hl0 rfl ?_
    refine ev_iconst 1 dX9_count_222 (by decide) ?_
    obtain ⟨c53, hB⟩ := ck_of hB
    refine es_iald dX9_count_223 (tr_9_4 hl0) c53 ?_
    obtain rfl := Option.some.inj hB
    exact ev_iret dX9_count_224 rfl (Nat.zero_le _) (Nat.zero_le _) (fun z => absurd z (hp_sealed _)) ⟨_, rfl, rfl, rfl⟩
  rw [if_neg q54] at hB
  have tq54 := am_nt (k := 14) q54 (by decide)
  by_cases q56 : l1 = 15
  · rw [if_pos q56] at hB
    refine ev_tableIn (off := 224) 225 dX9_count_1 (by rw [q56]; decide) (by rw [q56]; decide) (by rw [q56]; rfl) (by decide) ?_
    refine ev_aload_n dX9_count_225 rfl ?_
    refine es_getr k_9 4 dX9_count_226 (by decide) rfl (Or.inl w_582) hl0 rfl ?_
    refine ev_iconst 2 dX9_count_229 (by decide) ?_
    obtain ⟨c55, hB⟩ := ck_of hB
    refine es_iald dX9_count_230 (tr_9_4 hl0) c55 ?_
    obtain rfl := Option.some.inj hB
    exact ev_iret dX9_count_231 rfl (Nat.zero_le _) (Nat.zero_le _) (fun z => absurd z (hp_sealed _)) ⟨_, rfl, rfl, rfl⟩
  rw [if_neg q56] at hB
  have tq56 := am_nt (k := 15) q56 (by decide)
  refine ev_tableOut 232 dX9_count_1 (by omega) (by decide) ?_
  obtain rfl := Option.some.inj hB
  exact es_thr0 20 dX9_count_232 dX9_count_235 dX9_count_236 dX9_count_238 dX9_count_241 rfl rfl rfl (Nat.le_of_ble_eq_true rfl) (by decide)
def b_X9_needBox_15 (N : Nat)  (S : am_S) : Option (am_T) := some (.inr 0, S)
def f_X9_needBox (N : Nat) (l0 : Nat) (l1 : Int32) (S : am_S) : Option (am_T) := (if l1 < 0 then b_X9_needBox_15 N S else (if isC 1 (rg S 0) = true then (if l1 < (sg S (rg S 0) 0) then some (.inl 0, S) else b_X9_needBox_15 N S) else none))
theorem u_X9_needBox_15 {G : am_G} {N : Nat} {h0 : am_H} {out : am_T}  (S : am_S) (hB : b_X9_needBox_15 N  S = some out) : Ev G (am_R 7 (t_c out) (t_s out)) (am_Φ G h0 (t_c out) (t_s out) (q_tv out) (q_tx out)) mX9_needBox 0 0 15 [none, none] [] (hp S) := by
  unfold b_X9_needBox_15 at hB
  obtain rfl := Option.some.inj hB
  exact es_thrW0 21 dX9_needBox_15 dX9_needBox_18 dX9_needBox_19 dX9_needBox_22 dX9_needBox_25 rfl rfl rfl (Nat.le_of_ble_eq_true rfl) (by decide)
theorem t_X9_needBox {G : am_G} {N : Nat} {l0 : Nat} {l1 : Int32} {S : am_S} {out : am_T} (hl0 : isC 9 l0 = true) (hB : f_X9_needBox N l0 l1 S = some out) : am_Met G 7 mX9_needBox (t_c out) (t_s out) [.ref l0, .int l1] (hp S) (q_tv out) (q_tx out) := by
  refine am_of (by decide +kernel) rfl rfl rfl (Nat.le_of_ble_eq_true rfl) ?_
  unfold f_X9_needBox at hB
  refine ev_iload_n dX9_needBox_0 rfl ?_
  refine ev_iflt 15 dX9_needBox_1 (by decide) (fun q1 => ?_) (fun q1 => ?_)
  · rw [if_pos q1] at hB
    exact ev_ls (u_X9_needBox_15 S hB) trivial
  · rw [if_neg q1] at hB
    refine ev_iload_n dX9_needBox_4 rfl ?_
    refine ev_aload_n dX9_needBox_5 rfl ?_
    refine es_getd 0 k_9 5 dX9_needBox_6 (by decide) rfl (Or.inl w_583) hl0 rfl ?_
    obtain ⟨c2, hB⟩ := ck_of hB
    refine es_geti k_1 0 dX9_needBox_9 (by decide) rfl (Or.inr ⟨_, n_136⟩) c2 rfl ?_
    refine ev_icmplt 26 dX9_needBox_12 (by decide) (fun q3 => ?_) (fun q3 => ?_)
    · rw [if_pos q3] at hB
      obtain rfl := Option.some.inj hB
      exact ev_vret dX9_needBox_26 rfl (Nat.zero_le _) (Nat.zero_le _) (fun z => absurd z (hp_sealed _)) ⟨_, rfl, rfl, rfl⟩
    · rw [if_neg q3] at hB
      exact ev_ls (u_X9_needBox_15 S hB) trivial
def f_X9_box (N : Nat) (l0 : Nat) (l1 : Int32) (l2 : Int32) (S : am_S) : Option (am_T) := (bt (f_X9_needBox N l0 l1 S) (fun r1 S2 => (if l2 = 0 then (if isC 1 (rg S2 0) = true then (if inb l1 (ln (rf (rg S2 0) 1)) = true then some (.inl (sg S2 (rf (rg S2 0) 1) (Int32.toNatClampNeg l1)), S2) else none) else none) else (if l2 = 1 then (bd (f_X7_redOf N (rf l0 7) l1 S2) (fun r8 S9 => some (.inl r8, S9))) else (if l2 = 2 then (bd (f_X7_heldIn N (rf l0 7) l1 S2) (fun r12 S13 => some (.inl r12, S13))) else (if l2 = 3 then (if isC 1 (rg S2 0) = true then (bd (f_X1_nearBits N (rg S2 0) l1 S2) (fun r17 S18 => some (.inl r17, S18))) else none) else (if l2 = 4 then (if isC 1 (rg S2 0) = true then (bd (f_X1_farthestFrom N (rg S2 0) l1 S2) (fun r22 S23 => some (.inl r22, S23))) else none) else some (.inr 0, S2))))))))
theorem t_X9_box {G : am_G} {N : Nat} {l0 : Nat} {l1 : Int32} {l2 : Int32} {S : am_S} {out : am_T} (hl0 : isC 9 l0 = true) (hB : f_X9_box N l0 l1 l2 S = some out) : am_Met G 8 mX9_box (t_c out) (t_s out) [.ref l0, .int l1, .int l2] (hp S) (q_ti out) (q_tx out) := by
  refine am_of (by decide +kernel) rfl rfl rfl (Nat.le_of_ble_eq_true rfl) ?_
  unfold f_X9_box at hB
  refine ev_aload_n dX9_box_0 rfl ?_
  refine ev_iload_n dX9_box_1 rfl ?_
  rcases bt_of hB with ⟨r1, S2, e3, hB⟩ | ⟨x4, S2, e3, rfl⟩
  rotate_left
  · exact es_callVx (As := [.int l1]) (t_X9_needBox hl0 e3) nq_v dX9_box_2 oX9_needBox w_1124 rfl hl0 rfl rfl (Nat.le_of_ble_eq_true rfl) rfl (am_fit.of (by decide)) rfl
  refine es_callVtv (As := [.int l1]) (t_X9_needBox hl0 e3) dX9_box_2 oX9_needBox w_1124 rfl hl0 rfl rfl (Nat.le_of_ble_eq_true rfl) rfl (am_fit.of (by decide)) ⟨Nat.zero_le _, Nat.zero_le _⟩ ?_
  refine ev_iload_n dX9_box_5 rfl ?_
  by_cases q7 : l2 = 0
  · rw [if_pos q7] at hB
    refine ev_tableIn (off := 34) 40 dX9_box_6 (by rw [q7]; decide) (by rw [q7]; decide) (by rw [q7]; rfl) (by decide) ?_
    refine ev_aload_n dX9_box_40 rfl ?_
    refine es_getd 0 k_9 5 dX9_box_41 (by decide) rfl (Or.inl w_583) hl0 rfl ?_
    obtain ⟨c5, hB⟩ := ck_of hB
    refine es_getr k_1 1 dX9_box_44 (by decide) rfl (Or.inr ⟨_, n_138⟩) c5 rfl ?_
    refine ev_iload_n dX9_box_47 rfl ?_
    obtain ⟨c6, hB⟩ := ck_of hB
    refine es_iald dX9_box_48 (tr_1_1 c5) c6 ?_
    obtain rfl := Option.some.inj hB
    exact ev_iret dX9_box_49 rfl (Nat.zero_le _) (Nat.zero_le _) (fun z => absurd z (hp_sealed _)) ⟨_, rfl, rfl, rfl⟩
  rw [if_neg q7] at hB
  have tq7 := am_nt (k := 0) q7 (by decide)
  by_cases q11 : l2 = 1
  · rw [if_pos q11] at hB
    refine ev_tableIn (off := 44) 50 dX9_box_6 (by rw [q11]; decide) (by rw [q11]; decide) (by rw [q11]; rfl) (by decide) ?_
    refine ev_aload_n dX9_box_50 rfl ?_
    refine es_getr k_9 7 dX9_box_51 (by decide) rfl (Or.inl w_585) hl0 rfl ?_
    refine ev_iload_n dX9_box_54 rfl ?_
    obtain ⟨r8, S9, e10, hB⟩ := bd_of hB
    refine es_callVi (As := [.int l1]) (t_X7_redOf (tr_9_7 hl0) e10) dX9_box_55 oX7_redOf w_1129 rfl (tr_9_7 hl0) rfl rfl (Nat.le_of_ble_eq_true rfl) rfl (am_fit.of (by decide)) ⟨Nat.zero_le _, Nat.zero_le _⟩ ?_
    obtain rfl := Option.some.inj hB
    exact ev_iret dX9_box_58 rfl (Nat.zero_le _) (Nat.zero_le _) (fun z => absurd z (hp_sealed _)) ⟨_, rfl, rfl, rfl⟩
  rw [if_neg q11] at hB
  have tq11 := am_nt (k := 1) q11 (by decide)
  by_cases q15 : l2 = 2
  · rw [if_pos q15] at hB
    refine ev_tableIn (off := 53) 59 dX9_box_6 (by rw [q15]; decide) (by rw [q15]; decide) (by rw [q15]; rfl) (by decide) ?_
    refine ev_aload_n dX9_box_59 rfl ?_
    refine es_getr k_9 7 dX9_box_60 (by decide) rfl (Or.inl w_585) hl0 rfl ?_
    refine ev_iload_n dX9_box_63 rfl ?_
    obtain ⟨r12, S13, e14, hB⟩ := bd_of hB
    refine es_callVi (As := [.int l1]) (t_X7_heldIn (tr_9_7 hl0) e14) dX9_box_64 oX7_heldIn w_1130 rfl (tr_9_7 hl0) rfl rfl (Nat.le_of_ble_eq_true rfl) rfl (am_fit.of (by decide)) ⟨Nat.zero_le _, Nat.zero_le _⟩ ?_
    obtain rfl := Option.some.inj hB
    exact ev_iret dX9_box_67 rfl (Nat.zero_le _) (Nat.zero_le _) (fun z => absurd z (hp_sealed _)) ⟨_, rfl, rfl, rfl⟩
  rw [if_neg q15] at hB
  have tq15 := am_nt (k := 2) q15 (by decide)
  by_cases q20 : l2 = 3
  · rw [if_pos q20] at hB
    refine ev_tableIn (off := 62) 68 dX9_box_6 (by rw [q20]; decide) (by rw [q20]; decide) (by rw [q20]; rfl) (by decide) ?_
    refine ev_aload_n dX9_box_68 rfl ?_
    refine es_getd 0 k_9 5 dX9_box_69 (by decide) rfl (Or.inl w_583) hl0 rfl ?_
    obtain ⟨c16, hB⟩ := ck_of hB
    refine ev_iload_n dX9_box_72 rfl ?_
    obtain ⟨r17, S18, e19, hB⟩ := bd_of hB
    refine es_callVi (As := [.int l1]) (t_X1_nearBits c16 e19) dX9_box_73 oX1_nearBits w_1131 rfl c16 rfl rfl (Nat.le_of_ble_eq_true rfl) rfl (am_fit.of (by decide)) ⟨Nat.zero_le _, Nat.zero_le _⟩ ?_
    obtain rfl := Option.some.inj hB
    exact ev_iret dX9_box_76 rfl (Nat.zero_le _) (Nat.zero_le _) (fun z => absurd z (hp_sealed _)) ⟨_, rfl, rfl, rfl⟩
  rw [if_neg q20] at hB
  have tq20 := am_nt (k := 3) q20 (by decide)
  by_cases q25 : l2 = 4
  · rw [if_pos q25] at hB
    refine ev_tableIn (off := 71) 77 dX9_box_6 (by rw [q25]; decide) (by rw [q25]; decide) (by rw [q25]; rfl) (by decide) ?_
    refine ev_aload_n dX9_box_77 rfl ?_
    refine es_getd 0 k_9 5 dX9_box_78 (by decide) rfl (Or.inl w_583) hl0 rfl ?_
    obtain ⟨c21, hB⟩ := ck_of hB
    refine ev_iload_n dX9_box_81 rfl ?_
    obtain ⟨r22, S23, e24, hB⟩ := bd_of hB
    refine es_callVi (As := [.int l1]) (t_X1_farthestFrom c21 e24) dX9_box_82 oX1_farthestFrom w_1135 rfl c21 rfl rfl (Nat.le_of_ble_eq_true rfl) rfl (am_fit.of (by decide)) ⟨Nat.zero_le _, Nat.zero_le _⟩ ?_
    obtain rfl := Option.some.inj hB
    exact ev_iret dX9_box_85 rfl (Nat.zero_le _) (Nat.zero_le _) (fun z => absurd z (hp_sealed _)) ⟨_, rfl, rfl, rfl⟩
  rw [if_neg q25] at hB
  have tq25 := am_nt (k := 4) q25 (by decide)
  refine ev_tableOut 86 dX9_box_6 (by omega) (by decide) ?_
  obtain rfl := Option.some.inj hB
  exact es_thr0 20 dX9_box_86 dX9_box_89 dX9_box_90 dX9_box_92 dX9_box_95 rfl rfl rfl (Nat.le_of_ble_eq_true rfl) (by decide)
def b_X9_needPerson_15 (N : Nat)  (S : am_S) : Option (am_T) := some (.inr 0, S)
def f_X9_needPerson (N : Nat) (l0 : Nat) (l1 : Int32) (S : am_S) : Option (am_T) := (if l1 < 0 then b_X9_needPerson_15 N S else (if isC 1 (rg S 0) = true then (if l1 < (sg S (rg S 0) 3) then some (.inl 0, S) else b_X9_needPerson_15 N S) else none))
theorem u_X9_needPerson_15 {G : am_G} {N : Nat} {h0 : am_H} {out : am_T}  (S : am_S) (hB : b_X9_needPerson_15 N  S = some out) : Ev G (am_R 7 (t_c out) (t_s out)) (am_Φ G h0 (t_c out) (t_s out) (q_tv out) (q_tx out)) mX9_needPerson 0 0 15 [none, none] [] (hp S) := by
  unfold b_X9_needPerson_15 at hB
  obtain rfl := Option.some.inj hB
  exact es_thrW0 22 dX9_needPerson_15 dX9_needPerson_18 dX9_needPerson_19 dX9_needPerson_22 dX9_needPerson_25 rfl rfl rfl (Nat.le_of_ble_eq_true rfl) (by decide)
theorem t_X9_needPerson {G : am_G} {N : Nat} {l0 : Nat} {l1 : Int32} {S : am_S} {out : am_T} (hl0 : isC 9 l0 = true) (hB : f_X9_needPerson N l0 l1 S = some out) : am_Met G 7 mX9_needPerson (t_c out) (t_s out) [.ref l0, .int l1] (hp S) (q_tv out) (q_tx out) := by
  refine am_of (by decide +kernel) rfl rfl rfl (Nat.le_of_ble_eq_true rfl) ?_
  unfold f_X9_needPerson at hB
  refine ev_iload_n dX9_needPerson_0 rfl ?_
  refine ev_iflt 15 dX9_needPerson_1 (by decide) (fun q1 => ?_) (fun q1 => ?_)
  · rw [if_pos q1] at hB
    exact ev_ls (u_X9_needPerson_15 S hB) trivial
  · rw [if_neg q1] at hB
    refine ev_iload_n dX9_needPerson_4 rfl ?_
    refine ev_aload_n dX9_needPerson_5 rfl ?_
    refine es_getd 0 k_9 5 dX9_needPerson_6 (by decide) rfl (Or.inl w_583) hl0 rfl ?_
    obtain ⟨c2, hB⟩ := ck_of hB
    refine es_geti k_1 3 dX9_needPerson_9 (by decide) rfl (Or.inr ⟨_, n_143⟩) c2 rfl ?_
    refine ev_icmplt 26 dX9_needPerson_12 (by decide) (fun q3 => ?_) (fun q3 => ?_)
    · rw [if_pos q3] at hB
      obtain rfl := Option.some.inj hB
      exact ev_vret dX9_needPerson_26 rfl (Nat.zero_le _) (Nat.zero_le _) (fun z => absurd z (hp_sealed _)) ⟨_, rfl, rfl, rfl⟩
    · rw [if_neg q3] at hB
      exact ev_ls (u_X9_needPerson_15 S hB) trivial
def f_X9_person (N : Nat) (l0 : Nat) (l1 : Int32) (l2 : Int32) (S : am_S) : Option (am_T) := (bt (f_X9_needPerson N l0 l1 S) (fun r1 S2 => (if l2 = 0 then (if isC 1 (rg S2 0) = true then (if inb l1 (ln (rf (rg S2 0) 4)) = true then some (.inl (sg S2 (rf (rg S2 0) 4) (Int32.toNatClampNeg l1)), S2) else none) else none) else (if l2 = 1 then (if isC 1 (rg S2 0) = true then (if inb l1 (ln (rf (rg S2 0) 5)) = true then some (.inl (sg S2 (rf (rg S2 0) 5) (Int32.toNatClampNeg l1)), S2) else none) else none) else (if l2 = 2 then (bd (f_X7_atOf N (rf l0 7) l1 S2) (fun r11 S12 => some (.inl r11, S12))) else (if l2 = 3 then (bd (f_X7_regretOf N (rf l0 7) l1 S2) (fun r15 S16 => some (.inl r15, S16))) else (if l2 = 4 then (bd (f_X7_heardBy N (rf l0 7) l1 S2) (fun r19 S20 => some (.inl r19, S20))) else (if l2 = 5 then (if isC 1 (rg S2 0) = true then (if inb l1 (ln (rf (rg S2 0) 7)) = true then some (.inl (sg S2 (rf (rg S2 0) 7) (Int32.toNatClampNeg l1)), S2) else none) else none) else (if l2 = 6 then (if isC 1 (rg S2 0) = true then (bd (f_X1_fanBits N (rg S2 0) (rf l0 7) l1 S2) (fun r27 S28 => some (.inl r27, S28))) else none) else (if l2 = 7 then (if isC 1 (rg S2 0) = true then (bd (f_X1_neighbourBits N (rg S2 0) l1 S2) (fun r32 S33 => some (.inl r32, S33))) else none) else some (.inr 0, S2)))))))))))
theorem t_X9_person {G : am_G} {N : Nat} {l0 : Nat} {l1 : Int32} {l2 : Int32} {S : am_S} {out : am_T} (hl0 : isC 9 l0 = true) (hB : f_X9_person N l0 l1 l2 S = some out) : am_Met G 8 mX9_person (t_c out) (t_s out) [.ref l0, .int l1, .int l2] (hp S) (q_ti out) (q_tx out) := by
  refine am_of (by decide +kernel) rfl rfl rfl (Nat.le_of_ble_eq_true rfl) ?_
  unfold f_X9_person at hB
  refine ev_aload_n dX9_person_0 rfl ?_
  refine ev_iload_n dX9_person_1 rfl ?_
  rcases bt_of hB with ⟨r1, S2, e3, hB⟩ | ⟨x4, S2, e3, rfl⟩
  rotate_left
  · exact es_callVx (As := [.int l1]) (t_X9_needPerson hl0 e3) nq_v dX9_person_2 oX9_needPerson w_1146 rfl hl0 rfl rfl (Nat.le_of_ble_eq_true rfl) rfl (am_fit.of (by decide)) rfl
  refine es_callVtv (As := [.int l1]) (t_X9_needPerson hl0 e3) dX9_person_2 oX9_needPerson w_1146 rfl hl0 rfl rfl (Nat.le_of_ble_eq_true rfl) rfl (am_fit.of (by decide)) ⟨Nat.zero_le _, Nat.zero_le _⟩ ?_
  refine ev_iload_n dX9_person_5 rfl ?_
  by_cases q7 : l2 = 0
  · rw [if_pos q7] at hB
    refine ev_tableIn (off := 46) 52 dX9_person_6 (by rw [q7]; decide) (by rw [q7]; decide) (by rw [q7]; rfl) (by decide) ?_
    refine ev_aload_n dX9_person_52 rfl ?_
    refine es_getd 0 k_9 5 dX9_person_53 (by decide) rfl (Or.inl w_583) hl0 rfl ?_
    obtain ⟨c5, hB⟩ := ck_of hB
    refine es_getr k_1 4 dX9_person_56 (by decide) rfl (Or.inr ⟨_, n_145⟩) c5 rfl ?_
    refine ev_iload_n dX9_person_59 rfl ?_
    obtain ⟨c6, hB⟩ := ck_of hB
    refine es_iald dX9_person_60 (tr_1_4 c5) c6 ?_
    obtain rfl := Option.some.inj hB
    exact ev_iret dX9_person_61 rfl (Nat.zero_le _) (Nat.zero_le _) (fun z => absurd z (hp_sealed _)) ⟨_, rfl, rfl, rfl⟩
  rw [if_neg q7] at hB
  have tq7 := am_nt (k := 0) q7 (by decide)
  by_cases q10 : l2 = 1
  · rw [if_pos q10] at hB
    refine ev_tableIn (off := 56) 62 dX9_person_6 (by rw [q10]; decide) (by rw [q10]; decide) (by rw [q10]; rfl) (by decide) ?_
    refine ev_aload_n dX9_person_62 rfl ?_
    refine es_getd 0 k_9 5 dX9_person_63 (by decide) rfl (Or.inl w_583) hl0 rfl ?_
    obtain ⟨c8, hB⟩ := ck_of hB
    refine es_getr k_1 5 dX9_person_66 (by decide) rfl (Or.inr ⟨_, n_147⟩) c8 rfl ?_
    refine ev_iload_n dX9_person_69 rfl ?_
    obtain ⟨c9, hB⟩ := ck_of hB
    refine es_iald dX9_person_70 (tr_1_5 c8) c9 ?_
    obtain rfl := Option.some.inj hB
    exact ev_iret dX9_person_71 rfl (Nat.zero_le _) (Nat.zero_le _) (fun z => absurd z (hp_sealed _)) ⟨_, rfl, rfl, rfl⟩
  rw [if_neg q10] at hB
  have tq10 := am_nt (k := 1) q10 (by decide)
  by_cases q14 : l2 = 2
  · rw [if_pos q14] at hB
    refine ev_tableIn (off := 66) 72 dX9_person_6 (by rw [q14]; decide) (by rw [q14]; decide) (by rw [q14]; rfl) (by decide) ?_
    refine ev_aload_n dX9_person_72 rfl ?_
    refine es_getr k_9 7 dX9_person_73 (by decide) rfl (Or.inl w_585) hl0 rfl ?_
    refine ev_iload_n dX9_person_76 rfl ?_
    obtain ⟨r11, S12, e13, hB⟩ := bd_of hB
    refine es_callVi (As := [.int l1]) (t_X7_atOf (tr_9_7 hl0) e13) dX9_person_77 oX7_atOf w_1151 rfl (tr_9_7 hl0) rfl rfl (Nat.le_of_ble_eq_true rfl) rfl (am_fit.of (by decide)) ⟨Nat.zero_le _, Nat.zero_le _⟩ ?_
    obtain rfl := Option.some.inj hB
    exact ev_iret dX9_person_80 rfl (Nat.zero_le _) (Nat.zero_le _) (fun z => absurd z (hp_sealed _)) ⟨_, rfl, rfl, rfl⟩
  rw [if_neg q14] at hB
  have tq14 := am_nt (k := 2) q14 (by decide)
  by_cases q18 : l2 = 3
  · rw [if_pos q18] at hB
    refine ev_tableIn (off := 75) 81 dX9_person_6 (by rw [q18]; decide) (by rw [q18]; decide) (by rw [q18]; rfl) (by decide) ?_
    refine ev_aload_n dX9_person_81 rfl ?_
    refine es_getr k_9 7 dX9_person_82 (by decide) rfl (Or.inl w_585) hl0 rfl ?_
    refine ev_iload_n dX9_person_85 rfl ?_
    obtain ⟨r15, S16, e17, hB⟩ := bd_of hB
    refine es_callVi (As := [.int l1]) (t_X7_regretOf (tr_9_7 hl0) e17) dX9_person_86 oX7_regretOf w_1152 rfl (tr_9_7 hl0) rfl rfl (Nat.le_of_ble_eq_true rfl) rfl (am_fit.of (by decide)) ⟨Nat.zero_le _, Nat.zero_le _⟩ ?_
    obtain rfl := Option.some.inj hB
    exact ev_iret dX9_person_89 rfl (Nat.zero_le _) (Nat.zero_le _) (fun z => absurd z (hp_sealed _)) ⟨_, rfl, rfl, rfl⟩
  rw [if_neg q18] at hB
  have tq18 := am_nt (k := 3) q18 (by decide)
  by_cases q22 : l2 = 4
  · rw [if_pos q22] at hB
    refine ev_tableIn (off := 84) 90 dX9_person_6 (by rw [q22]; decide) (by rw [q22]; decide) (by rw [q22]; rfl) (by decide) ?_
    refine ev_aload_n dX9_person_90 rfl ?_
    refine es_getr k_9 7 dX9_person_91 (by decide) rfl (Or.inl w_585) hl0 rfl ?_
    refine ev_iload_n dX9_person_94 rfl ?_
    obtain ⟨r19, S20, e21, hB⟩ := bd_of hB
    refine es_callVi (As := [.int l1]) (t_X7_heardBy (tr_9_7 hl0) e21) dX9_person_95 oX7_heardBy w_1153 rfl (tr_9_7 hl0) rfl rfl (Nat.le_of_ble_eq_true rfl) rfl (am_fit.of (by decide)) ⟨Nat.zero_le _, Nat.zero_le _⟩ ?_
    obtain rfl := Option.some.inj hB
    exact ev_iret dX9_person_98 rfl (Nat.zero_le _) (Nat.zero_le _) (fun z => absurd z (hp_sealed _)) ⟨_, rfl, rfl, rfl⟩
  rw [if_neg q22] at hB
  have tq22 := am_nt (k := 4) q22 (by decide)
  by_cases q25 : l2 = 5
  · rw [if_pos q25] at hB
    refine ev_tableIn (off := 93) 99 dX9_person_6 (by rw [q25]; decide) (by rw [q25]; decide) (by rw [q25]; rfl) (by decide) ?_
    refine ev_aload_n dX9_person_99 rfl ?_
    refine es_getd 0 k_9 5 dX9_person_100 (by decide) rfl (Or.inl w_583) hl0 rfl ?_
    obtain ⟨c23, hB⟩ := ck_of hB
    refine es_getr k_1 7 dX9_person_103 (by decide) rfl (Or.inr ⟨_, n_151⟩) c23 rfl ?_
    refine ev_iload_n dX9_person_106 rfl ?_
    obtain ⟨c24, hB⟩ := ck_of hB
    refine es_iald dX9_person_107 (tr_1_7 c23) c24 ?_
    obtain rfl := Option.some.inj hB
    exact ev_iret dX9_person_108 rfl (Nat.zero_le _) (Nat.zero_le _) (fun z => absurd z (hp_sealed _)) ⟨_, rfl, rfl, rfl⟩
  rw [if_neg q25] at hB
  have tq25 := am_nt (k := 5) q25 (by decide)
  by_cases q30 : l2 = 6
  · rw [if_pos q30] at hB
    refine ev_tableIn (off := 103) 109 dX9_person_6 (by rw [q30]; decide) (by rw [q30]; decide) (by rw [q30]; rfl) (by decide) ?_
    refine ev_aload_n dX9_person_109 rfl ?_
    refine es_getd 0 k_9 5 dX9_person_110 (by decide) rfl (Or.inl w_583) hl0 rfl ?_
    obtain ⟨c26, hB⟩ := ck_of hB
    refine ev_aload_n dX9_person_113 rfl ?_
    refine es_getr k_9 7 dX9_person_114 (by decide) rfl (Or.inl w_585) hl0 rfl ?_
    refine ev_iload_n dX9_person_117 rfl ?_
    obtain ⟨r27, S28, e29, hB⟩ := bd_of hB
    refine es_callVi (As := [.ref (rf l0 7), .int l1]) (t_X1_fanBits c26 (tr_9_7 hl0) e29) dX9_person_118 oX1_fanBits w_1154 rfl c26 rfl rfl (Nat.le_of_ble_eq_true rfl) rfl (am_fit.of (by decide)) ⟨Nat.zero_le _, Nat.zero_le _⟩ ?_
    obtain rfl := Option.some.inj hB
    exact ev_iret dX9_person_121 rfl (Nat.zero_le _) (Nat.zero_le _) (fun z => absurd z (hp_sealed _)) ⟨_, rfl, rfl, rfl⟩
  rw [if_neg q30] at hB
  have tq30 := am_nt (k := 6) q30 (by decide)
  by_cases q35 : l2 = 7
  · rw [if_pos q35] at hB
    refine ev_tableIn (off := 116) 122 dX9_person_6 (by rw [q35]; decide) (by rw [q35]; decide) (by rw [q35]; rfl) (by decide) ?_
    refine ev_aload_n dX9_person_122 rfl ?_
    refine es_getd 0 k_9 5 dX9_person_123 (by decide) rfl (Or.inl w_583) hl0 rfl ?_
    obtain ⟨c31, hB⟩ := ck_of hB
    refine ev_iload_n dX9_person_126 rfl ?_
    obtain ⟨r32, S33, e34, hB⟩ := bd_of hB
    refine es_callVi (As := [.int l1]) (t_X1_neighbourBits c31 e34) dX9_person_127 oX1_neighbourBits w_1155 rfl c31 rfl rfl (Nat.le_of_ble_eq_true rfl) rfl (am_fit.of (by decide)) ⟨Nat.zero_le _, Nat.zero_le _⟩ ?_
    obtain rfl := Option.some.inj hB
    exact ev_iret dX9_person_130 rfl (Nat.zero_le _) (Nat.zero_le _) (fun z => absurd z (hp_sealed _)) ⟨_, rfl, rfl, rfl⟩
  rw [if_neg q35] at hB
  have tq35 := am_nt (k := 7) q35 (by decide)
  refine ev_tableOut 131 dX9_person_6 (by omega) (by decide) ?_
  obtain rfl := Option.some.inj hB
  exact es_thr0 20 dX9_person_131 dX9_person_134 dX9_person_135 dX9_person_137 dX9_person_140 rfl rfl rfl (Nat.le_of_ble_eq_true rfl) (by decide)
def f_X9_held (N : Nat) (l0 : Nat) (l1 : Int32) (l2 : Int32) (S : am_S) : Option (am_T) := (bt (f_X9_needBox N l0 l1 S) (fun r1 S2 => (bt (f_X9_needPerson N l0 l2 S2) (fun r5 S6 => (bd (f_X7_heldOf N (rf l0 7) l1 l2 S6) (fun r9 S10 => some (.inl r9, S10)))))))
theorem t_X9_held {G : am_G} {N : Nat} {l0 : Nat} {l1 : Int32} {l2 : Int32} {S : am_S} {out : am_T} (hl0 : isC 9 l0 = true) (hB : f_X9_held N l0 l1 l2 S = some out) : am_Met G 8 mX9_held (t_c out) (t_s out) [.ref l0, .int l1, .int l2] (hp S) (q_ti out) (q_tx out) := by
  refine am_of (by decide +kernel) rfl rfl rfl (Nat.le_of_ble_eq_true rfl) ?_
  unfold f_X9_held at hB
  refine ev_aload_n dX9_held_0 rfl ?_
  refine ev_iload_n dX9_held_1 rfl ?_
  rcases bt_of hB with ⟨r1, S2, e3, hB⟩ | ⟨x4, S2, e3, rfl⟩
  rotate_left
  · exact es_callVx (As := [.int l1]) (t_X9_needBox hl0 e3) nq_v dX9_held_2 oX9_needBox w_1124 rfl hl0 rfl rfl (Nat.le_of_ble_eq_true rfl) rfl (am_fit.of (by decide)) rfl
  refine es_callVtv (As := [.int l1]) (t_X9_needBox hl0 e3) dX9_held_2 oX9_needBox w_1124 rfl hl0 rfl rfl (Nat.le_of_ble_eq_true rfl) rfl (am_fit.of (by decide)) ⟨Nat.zero_le _, Nat.zero_le _⟩ ?_
  refine ev_aload_n dX9_held_5 rfl ?_
  refine ev_iload_n dX9_held_6 rfl ?_
  rcases bt_of hB with ⟨r5, S6, e7, hB⟩ | ⟨x8, S6, e7, rfl⟩
  rotate_left
  · exact es_callVx (As := [.int l2]) (t_X9_needPerson hl0 e7) nq_v dX9_held_7 oX9_needPerson w_1146 rfl hl0 rfl rfl (Nat.le_of_ble_eq_true rfl) rfl (am_fit.of (by decide)) rfl
  refine es_callVtv (As := [.int l2]) (t_X9_needPerson hl0 e7) dX9_held_7 oX9_needPerson w_1146 rfl hl0 rfl rfl (Nat.le_of_ble_eq_true rfl) rfl (am_fit.of (by decide)) ⟨Nat.zero_le _, Nat.zero_le _⟩ ?_
  refine ev_aload_n dX9_held_10 rfl ?_
  refine es_getr k_9 7 dX9_held_11 (by decide) rfl (Or.inl w_585) hl0 rfl ?_
  refine ev_iload_n dX9_held_14 rfl ?_
  refine ev_iload_n dX9_held_15 rfl ?_
  obtain ⟨r9, S10, e11, hB⟩ := bd_of hB
  refine es_callVi (As := [.int l1, .int l2]) (t_X7_heldOf (tr_9_7 hl0) e11) dX9_held_16 oX7_heldOf w_1167 rfl (tr_9_7 hl0) rfl rfl (Nat.le_of_ble_eq_true rfl) rfl (am_fit.of (by decide)) ⟨Nat.zero_le _, Nat.zero_le _⟩ ?_
  obtain rfl := Option.some.inj hB
  exact ev_iret dX9_held_19 rfl (Nat.zero_le _) (Nat.zero_le _) (fun z => absurd z (hp_sealed _)) ⟨_, rfl, rfl, rfl⟩
def b_X9_days_26 (N : Nat) (l0 : Nat) (S : am_S) : Option (Int32 × am_S) := (if inb 1 (ln (rf l0 4)) = true then (if inb 1 (ln (rf l0 4)) = true then some ((-1), (sp S (rf l0 4) (Int32.toNatClampNeg 1) ((sg S (rf l0 4) (Int32.toNatClampNeg 1)) + 1))) else none) else none)
def b_X9_days_51 (N : Nat) : Nat → Nat → Int32 → Int32 → am_S → Option (Int32 × am_S)
  | 0, _, _, _, _ => none
  | n + 1, l0, l1, l2, S => (if l1 ≤ l2 then (bd (f_X7_dayNow N (rf l0 7) S) (fun r2 S3 => some (r2, S3))) else (if isC 1 (rg S 0) = true then (bd (f_X1_passDay N (rg S 0) (rf l0 7) S) (fun r6 S7 => b_X9_days_51 N n l0 l1 (l2 + 1) S7)) else none))
def f_X9_days (N : Nat) (l0 : Nat) (l1 : Int32) (S : am_S) : Option (Int32 × am_S) := (if l1 < 1 then b_X9_days_26 N l0 S else (if 20 < l1 then b_X9_days_26 N l0 S else (bd (f_X7_dayNow N (rf l0 7) S) (fun r3 S4 => (if (r3 + l1) ≤ 999 then (bv (f_X0_keep N (rf l0 9) (rf l0 7) S4) (fun S8 => b_X9_days_51 N N l0 l1 0 S8)) else b_X9_days_26 N l0 S4)))))
theorem u_X9_days_26 {G : am_G} {N : Nat} {h0 : am_H} {out : Int32 × am_S} (l0 : Nat) (S : am_S) (hl0 : isC 9 l0 = true) (hB : b_X9_days_26 N l0 S = some out) : Ev G (am_R 6 0 0) (am_Φ G h0 0 0 (q_i out) q_n) mX9_days 0 0 26 [some (.ref l0), none, none] [] (hp S) := by
  unfold b_X9_days_26 at hB
  refine ev_aload_n dX9_days_26 rfl ?_
  refine es_getr k_9 4 dX9_days_27 (by decide) rfl (Or.inl w_582) hl0 rfl ?_
  refine ev_iconst 1 dX9_days_30 (by decide) ?_
  refine ev_dup2 dX9_days_31 rfl rfl ?_
  obtain ⟨c1, hB⟩ := ck_of hB
  refine es_iald dX9_days_32 (tr_9_4 hl0) c1 ?_
  refine ev_iconst 1 dX9_days_33 (by decide) ?_
  refine ev_iadd dX9_days_34 ?_
  obtain ⟨c2, hB⟩ := ck_of hB
  refine es_iast dX9_days_35 (tr_9_4 hl0) c2 ?_
  refine ev_iconst (-1) dX9_days_36 (by decide) ?_
  obtain rfl := Option.some.inj hB
  exact ev_iret dX9_days_37 rfl (Nat.zero_le _) (Nat.zero_le _) (fun z => absurd z (hp_sealed _)) ⟨rfl, rfl⟩
theorem u_X9_days_51 {G : am_G} {N : Nat} {h0 : am_H} {out : Int32 × am_S} : ∀ (n : Nat) (l0 : Nat) (l1 : Int32) (l2 : Int32) (S : am_S), isC 9 l0 = true → b_X9_days_51 N n l0 l1 l2 S = some out → Ev G (am_R 6 0 0) (am_Φ G h0 0 0 (q_i out) q_n) mX9_days 0 0 51 [some (.ref l0), some (.int l1), some (.int l2)] [] (hp S) := by
  intro n
  induction n with
  | zero =>
    intro l0 l1 l2 S hl0 hB
    exact absurd (show none = some out from hB) (fun q => by cases q)
  | succ n ih =>
    intro l0 l1 l2 S hl0 hB
    unfold b_X9_days_51 at hB
    refine ev_iload_n dX9_days_51 rfl ?_
    refine ev_iload_n dX9_days_52 rfl ?_
    refine ev_icmpge 74 dX9_days_53 (by decide) (fun q1 => ?_) (fun q1 => ?_)
    · rw [if_pos q1] at hB
      refine ev_aload_n dX9_days_74 rfl ?_
      refine es_getr k_9 7 dX9_days_75 (by decide) rfl (Or.inl w_585) hl0 rfl ?_
      obtain ⟨r2, S3, e4, hB⟩ := bd_of hB
      refine es_callVi (As := []) (t_X7_dayNow (tr_9_7 hl0) e4) dX9_days_78 oX7_dayNow w_652 rfl (tr_9_7 hl0) rfl rfl (Nat.le_of_ble_eq_true rfl) rfl (am_fit.of (by decide)) ⟨Nat.zero_le _, Nat.zero_le _⟩ ?_
      obtain rfl := Option.some.inj hB
      exact ev_iret dX9_days_81 rfl (Nat.zero_le _) (Nat.zero_le _) (fun z => absurd z (hp_sealed _)) ⟨rfl, rfl⟩
    · rw [if_neg q1] at hB
      refine ev_aload_n dX9_days_56 rfl ?_
      refine es_getd 0 k_9 5 dX9_days_57 (by decide) rfl (Or.inl w_583) hl0 rfl ?_
      obtain ⟨c5, hB⟩ := ck_of hB
      refine ev_aload_n dX9_days_60 rfl ?_
      refine es_getr k_9 7 dX9_days_61 (by decide) rfl (Or.inl w_585) hl0 rfl ?_
      obtain ⟨r6, S7, e8, hB⟩ := bd_of hB
      refine es_callVi (As := [.ref (rf l0 7)]) (t_X1_passDay c5 (tr_9_7 hl0) e8) dX9_days_64 oX1_passDay w_662 rfl c5 rfl rfl (Nat.le_of_ble_eq_true rfl) rfl (am_fit.of (by decide)) ⟨Nat.zero_le _, Nat.zero_le _⟩ ?_
      refine ev_pop dX9_days_67 rfl ?_
      refine es_iinc 1 dX9_days_68 rfl (by decide) (by decide) rfl ?_
      refine ev_goto 51 dX9_days_71 (by decide) ?_
      exact ev_ls (ih l0 l1 (l2 + 1) S7 hl0 hB) (And.intro rfl (And.intro rfl (And.intro rfl trivial)))
theorem t_X9_days {G : am_G} {N : Nat} {l0 : Nat} {l1 : Int32} {S : am_S} {out : Int32 × am_S} (hl0 : isC 9 l0 = true) (hB : f_X9_days N l0 l1 S = some out) : am_Met G 6 mX9_days 0 0 [.ref l0, .int l1] (hp S) (q_i out) q_n := by
  refine am_of (by decide +kernel) rfl rfl rfl (Nat.le_of_ble_eq_true rfl) ?_
  unfold f_X9_days at hB
  refine ev_iload_n dX9_days_0 rfl ?_
  refine ev_iconst 1 dX9_days_1 (by decide) ?_
  refine ev_icmplt 26 dX9_days_2 (by decide) (fun q1 => ?_) (fun q1 => ?_)
  · rw [if_pos q1] at hB
    exact ev_ls (u_X9_days_26 l0 S hl0 hB) (And.intro rfl trivial)
  · rw [if_neg q1] at hB
    refine ev_iload_n dX9_days_5 rfl ?_
    refine ev_bipush 20 dX9_days_6 (by decide) ?_
    refine ev_icmpgt 26 dX9_days_8 (by decide) (fun q2 => ?_) (fun q2 => ?_)
    · rw [if_pos q2] at hB
      exact ev_ls (u_X9_days_26 l0 S hl0 hB) (And.intro rfl trivial)
    · rw [if_neg q2] at hB
      refine ev_aload_n dX9_days_11 rfl ?_
      refine es_getr k_9 7 dX9_days_12 (by decide) rfl (Or.inl w_585) hl0 rfl ?_
      obtain ⟨r3, S4, e5, hB⟩ := bd_of hB
      refine es_callVi (As := []) (t_X7_dayNow (tr_9_7 hl0) e5) dX9_days_15 oX7_dayNow w_652 rfl (tr_9_7 hl0) rfl rfl (Nat.le_of_ble_eq_true rfl) rfl (am_fit.of (by decide)) ⟨Nat.zero_le _, Nat.zero_le _⟩ ?_
      refine ev_iload_n dX9_days_18 rfl ?_
      refine ev_iadd dX9_days_19 ?_
      refine ev_sipush 999 dX9_days_20 (by decide) ?_
      refine ev_icmple 38 dX9_days_23 (by decide) (fun q6 => ?_) (fun q6 => ?_)
      · rw [if_pos q6] at hB
        refine ev_aload_n dX9_days_38 rfl ?_
        refine es_getr k_9 9 dX9_days_39 (by decide) rfl (Or.inl w_587) hl0 rfl ?_
        refine ev_aload_n dX9_days_42 rfl ?_
        refine es_getr k_9 7 dX9_days_43 (by decide) rfl (Or.inl w_585) hl0 rfl ?_
        obtain ⟨S8, e9, hB⟩ := bv_of hB
        refine es_callVv (As := [.ref (rf l0 7)]) (t_X0_keep (tr_9_9 hl0) (tr_9_7 hl0) e9) dX9_days_46 oX0_keep w_656 rfl (tr_9_9 hl0) rfl rfl (Nat.le_of_ble_eq_true rfl) rfl (am_fit.of (by decide)) ⟨Nat.zero_le _, Nat.zero_le _⟩ ?_
        refine ev_iconst 0 dX9_days_49 (by decide) ?_
        refine ev_istore_n dX9_days_50 (by decide) rfl ?_
        exact ev_ls (u_X9_days_51 N l0 l1 0 S8 hl0 hB) (And.intro rfl (And.intro rfl (And.intro rfl trivial)))
      · rw [if_neg q6] at hB
        exact ev_ls (u_X9_days_26 l0 S4 hl0 hB) (And.intro rfl trivial)
def f_X9_write (N : Nat) (l0 : Nat) (l1 : Int32) (S : am_S) : Option (am_T) := (bt (f_X9_needPerson N l0 l1 S) (fun r1 S2 => (bd (f_X7_atOf N (rf l0 7) l1 S2) (fun r5 S6 => (if r5 = (-1) then (if inb 1 (ln (rf l0 4)) = true then (if inb 1 (ln (rf l0 4)) = true then some (.inl (-1), (sp S6 (rf l0 4) (Int32.toNatClampNeg 1) ((sg S6 (rf l0 4) (Int32.toNatClampNeg 1)) + 1))) else none) else none) else (bv (f_X0_keep N (rf l0 9) (rf l0 7) S6) (fun S10 => (bv (f_X7_sendLetter N (rf l0 7) l1 S10) (fun S13 => (bd (f_X7_heardBy N (rf l0 7) r5 S13) (fun r15 S16 => some (.inl r15, S16))))))))))))
theorem t_X9_write {G : am_G} {N : Nat} {l0 : Nat} {l1 : Int32} {S : am_S} {out : am_T} (hl0 : isC 9 l0 = true) (hB : f_X9_write N l0 l1 S = some out) : am_Met G 8 mX9_write (t_c out) (t_s out) [.ref l0, .int l1] (hp S) (q_ti out) (q_tx out) := by
  refine am_of (by decide +kernel) rfl rfl rfl (Nat.le_of_ble_eq_true rfl) ?_
  unfold f_X9_write at hB
  refine ev_aload_n dX9_write_0 rfl ?_
  refine ev_iload_n dX9_write_1 rfl ?_
  rcases bt_of hB with ⟨r1, S2, e3, hB⟩ | ⟨x4, S2, e3, rfl⟩
  rotate_left
  · exact es_callVx (As := [.int l1]) (t_X9_needPerson hl0 e3) nq_v dX9_write_2 oX9_needPerson w_1146 rfl hl0 rfl rfl (Nat.le_of_ble_eq_true rfl) rfl (am_fit.of (by decide)) rfl
  refine es_callVtv (As := [.int l1]) (t_X9_needPerson hl0 e3) dX9_write_2 oX9_needPerson w_1146 rfl hl0 rfl rfl (Nat.le_of_ble_eq_true rfl) rfl (am_fit.of (by decide)) ⟨Nat.zero_le _, Nat.zero_le _⟩ ?_
  refine ev_aload_n dX9_write_5 rfl ?_
  refine es_getr k_9 7 dX9_write_6 (by decide) rfl (Or.inl w_585) hl0 rfl ?_
  refine ev_iload_n dX9_write_9 rfl ?_
  obtain ⟨r5, S6, e7, hB⟩ := bd_of hB
  refine es_callVi (As := [.int l1]) (t_X7_atOf (tr_9_7 hl0) e7) dX9_write_10 oX7_atOf w_1151 rfl (tr_9_7 hl0) rfl rfl (Nat.le_of_ble_eq_true rfl) rfl (am_fit.of (by decide)) ⟨Nat.zero_le _, Nat.zero_le _⟩ ?_
  refine ev_istore_n dX9_write_13 (by decide) rfl ?_
  refine ev_iload_n dX9_write_14 rfl ?_
  refine ev_iconst (-1) dX9_write_15 (by decide) ?_
  refine ev_icmpne 31 dX9_write_16 (by decide) (fun q8 => ?_) (fun q8 => ?_)
  · rw [if_neg q8] at hB
    refine ev_aload_n dX9_write_31 rfl ?_
    refine es_getr k_9 9 dX9_write_32 (by decide) rfl (Or.inl w_587) hl0 rfl ?_
    refine ev_aload_n dX9_write_35 rfl ?_
    refine es_getr k_9 7 dX9_write_36 (by decide) rfl (Or.inl w_585) hl0 rfl ?_
    obtain ⟨S10, e11, hB⟩ := bv_of hB
    refine es_callVv (As := [.ref (rf l0 7)]) (t_X0_keep (tr_9_9 hl0) (tr_9_7 hl0) e11) dX9_write_39 oX0_keep w_656 rfl (tr_9_9 hl0) rfl rfl (Nat.le_of_ble_eq_true rfl) rfl (am_fit.of (by decide)) ⟨Nat.zero_le _, Nat.zero_le _⟩ ?_
    refine ev_aload_n dX9_write_42 rfl ?_
    refine es_getr k_9 7 dX9_write_43 (by decide) rfl (Or.inl w_585) hl0 rfl ?_
    refine ev_iload_n dX9_write_46 rfl ?_
    obtain ⟨S13, e14, hB⟩ := bv_of hB
    refine es_callVv (As := [.int l1]) (t_X7_sendLetter (tr_9_7 hl0) e14) dX9_write_47 oX7_sendLetter w_1175 rfl (tr_9_7 hl0) rfl rfl (Nat.le_of_ble_eq_true rfl) rfl (am_fit.of (by decide)) ⟨Nat.zero_le _, Nat.zero_le _⟩ ?_
    refine ev_aload_n dX9_write_50 rfl ?_
    refine es_getr k_9 7 dX9_write_51 (by decide) rfl (Or.inl w_585) hl0 rfl ?_
    refine ev_iload_n dX9_write_54 rfl ?_
    obtain ⟨r15, S16, e17, hB⟩ := bd_of hB
    refine es_callVi (As := [.int r5]) (t_X7_heardBy (tr_9_7 hl0) e17) dX9_write_55 oX7_heardBy w_1153 rfl (tr_9_7 hl0) rfl rfl (Nat.le_of_ble_eq_true rfl) rfl (am_fit.of (by decide)) ⟨Nat.zero_le _, Nat.zero_le _⟩ ?_
    obtain rfl := Option.some.inj hB
    exact ev_iret dX9_write_58 rfl (Nat.zero_le _) (Nat.zero_le _) (fun z => absurd z (hp_sealed _)) ⟨_, rfl, rfl, rfl⟩
  · rw [if_pos q8] at hB
    refine ev_aload_n dX9_write_19 rfl ?_
    refine es_getr k_9 4 dX9_write_20 (by decide) rfl (Or.inl w_582) hl0 rfl ?_
    refine ev_iconst 1 dX9_write_23 (by decide) ?_
    refine ev_dup2 dX9_write_24 rfl rfl ?_
    obtain ⟨c18, hB⟩ := ck_of hB
    refine es_iald dX9_write_25 (tr_9_4 hl0) c18 ?_
    refine ev_iconst 1 dX9_write_26 (by decide) ?_
    refine ev_iadd dX9_write_27 ?_
    obtain ⟨c19, hB⟩ := ck_of hB
    refine es_iast dX9_write_28 (tr_9_4 hl0) c19 ?_
    refine ev_iconst (-1) dX9_write_29 (by decide) ?_
    obtain rfl := Option.some.inj hB
    exact ev_iret dX9_write_30 rfl (Nat.zero_le _) (Nat.zero_le _) (fun z => absurd z (hp_sealed _)) ⟨_, rfl, rfl, rfl⟩
def f_X9_paint (N : Nat) (l0 : Nat) (l1 : Int32) (S : am_S) : Option (am_T) := (bt (f_X9_needBox N l0 l1 S) (fun r1 S2 => (bd (f_X7_redOf N (rf l0 7) l1 S2) (fun r5 S6 => (if r5 = 99 then (if inb 1 (ln (rf l0 4)) = true then (if inb 1 (ln (rf l0 4)) = true then some (.inl (-1), (sp S6 (rf l0 4) (Int32.toNatClampNeg 1) ((sg S6 (rf l0 4) (Int32.toNatClampNeg 1)) + 1))) else none) else none) else (bv (f_X0_keep N (rf l0 9) (rf l0 7) S6) (fun S10 => (bv (f_X7_setRed N (rf l0 7) l1 99 S10) (fun S13 => some (.inl r5, S13))))))))))
theorem t_X9_paint {G : am_G} {N : Nat} {l0 : Nat} {l1 : Int32} {S : am_S} {out : am_T} (hl0 : isC 9 l0 = true) (hB : f_X9_paint N l0 l1 S = some out) : am_Met G 8 mX9_paint (t_c out) (t_s out) [.ref l0, .int l1] (hp S) (q_ti out) (q_tx out) := by
  refine am_of (by decide +kernel) rfl rfl rfl (Nat.le_of_ble_eq_true rfl) ?_
  unfold f_X9_paint at hB
  refine ev_aload_n dX9_paint_0 rfl ?_
  refine ev_iload_n dX9_paint_1 rfl ?_
  rcases bt_of hB with ⟨r1, S2, e3, hB⟩ | ⟨x4, S2, e3, rfl⟩
  rotate_left
  · exact es_callVx (As := [.int l1]) (t_X9_needBox hl0 e3) nq_v dX9_paint_2 oX9_needBox w_1124 rfl hl0 rfl rfl (Nat.le_of_ble_eq_true rfl) rfl (am_fit.of (by decide)) rfl
  refine es_callVtv (As := [.int l1]) (t_X9_needBox hl0 e3) dX9_paint_2 oX9_needBox w_1124 rfl hl0 rfl rfl (Nat.le_of_ble_eq_true rfl) rfl (am_fit.of (by decide)) ⟨Nat.zero_le _, Nat.zero_le _⟩ ?_
  refine ev_aload_n dX9_paint_5 rfl ?_
  refine es_getr k_9 7 dX9_paint_6 (by decide) rfl (Or.inl w_585) hl0 rfl ?_
  refine ev_iload_n dX9_paint_9 rfl ?_
  obtain ⟨r5, S6, e7, hB⟩ := bd_of hB
  refine es_callVi (As := [.int l1]) (t_X7_redOf (tr_9_7 hl0) e7) dX9_paint_10 oX7_redOf w_1129 rfl (tr_9_7 hl0) rfl rfl (Nat.le_of_ble_eq_true rfl) rfl (am_fit.of (by decide)) ⟨Nat.zero_le _, Nat.zero_le _⟩ ?_
  refine ev_istore_n dX9_paint_13 (by decide) rfl ?_
  refine ev_iload_n dX9_paint_14 rfl ?_
  refine ev_bipush 99 dX9_paint_15 (by decide) ?_
  refine ev_icmpne 32 dX9_paint_17 (by decide) (fun q8 => ?_) (fun q8 => ?_)
  · rw [if_neg q8] at hB
    refine ev_aload_n dX9_paint_32 rfl ?_
    refine es_getr k_9 9 dX9_paint_33 (by decide) rfl (Or.inl w_587) hl0 rfl ?_
    refine ev_aload_n dX9_paint_36 rfl ?_
    refine es_getr k_9 7 dX9_paint_37 (by decide) rfl (Or.inl w_585) hl0 rfl ?_
    obtain ⟨S10, e11, hB⟩ := bv_of hB
    refine es_callVv (As := [.ref (rf l0 7)]) (t_X0_keep (tr_9_9 hl0) (tr_9_7 hl0) e11) dX9_paint_40 oX0_keep w_656 rfl (tr_9_9 hl0) rfl rfl (Nat.le_of_ble_eq_true rfl) rfl (am_fit.of (by decide)) ⟨Nat.zero_le _, Nat.zero_le _⟩ ?_
    refine ev_aload_n dX9_paint_43 rfl ?_
    refine es_getr k_9 7 dX9_paint_44 (by decide) rfl (Or.inl w_585) hl0 rfl ?_
    refine ev_iload_n dX9_paint_47 rfl ?_
    refine ev_bipush 99 dX9_paint_48 (by decide) ?_
    obtain ⟨S13, e14, hB⟩ := bv_of hB
    refine es_callVv (As := [.int l1, .int 99]) (t_X7_setRed (tr_9_7 hl0) e14) dX9_paint_50 oX7_setRed w_1189 rfl (tr_9_7 hl0) rfl rfl (Nat.le_of_ble_eq_true rfl) rfl (am_fit.of (by decide)) ⟨Nat.zero_le _, Nat.zero_le _⟩ ?_
    refine ev_iload_n dX9_paint_53 rfl ?_
    obtain rfl := Option.some.inj hB
    exact ev_iret dX9_paint_54 rfl (Nat.zero_le _) (Nat.zero_le _) (fun z => absurd z (hp_sealed _)) ⟨_, rfl, rfl, rfl⟩
  · rw [if_pos q8] at hB
    refine ev_aload_n dX9_paint_20 rfl ?_
    refine es_getr k_9 4 dX9_paint_21 (by decide) rfl (Or.inl w_582) hl0 rfl ?_
    refine ev_iconst 1 dX9_paint_24 (by decide) ?_
    refine ev_dup2 dX9_paint_25 rfl rfl ?_
    obtain ⟨c15, hB⟩ := ck_of hB
    refine es_iald dX9_paint_26 (tr_9_4 hl0) c15 ?_
    refine ev_iconst 1 dX9_paint_27 (by decide) ?_
    refine ev_iadd dX9_paint_28 ?_
    obtain ⟨c16, hB⟩ := ck_of hB
    refine es_iast dX9_paint_29 (tr_9_4 hl0) c16 ?_
    refine ev_iconst (-1) dX9_paint_30 (by decide) ?_
    obtain rfl := Option.some.inj hB
    exact ev_iret dX9_paint_31 rfl (Nat.zero_le _) (Nat.zero_le _) (fun z => absurd z (hp_sealed _)) ⟨_, rfl, rfl, rfl⟩
def b_X9_turn_34 (N : Nat) (l0 : Nat) (S : am_S) : Option (am_T) := (if inb 1 (ln (rf l0 4)) = true then (if inb 1 (ln (rf l0 4)) = true then some (.inl (-2), (sp S (rf l0 4) (Int32.toNatClampNeg 1) ((sg S (rf l0 4) (Int32.toNatClampNeg 1)) + 1))) else none) else none)
def b_X9_turn_15 (N : Nat) (l0 : Nat) (l1 : Int32) (l2 : Int32) (S : am_S) : Option (am_T) := (bd (f_X7_atOf N (rf l0 7) l1 S) (fun r1 S2 => (if l2 = r1 then b_X9_turn_34 N l0 S2 else (if l2 = l1 then b_X9_turn_34 N l0 S2 else (bv (f_X0_keep N (rf l0 9) (rf l0 7) S2) (fun S7 => (bv (f_X7_turnTo N (rf l0 7) l1 l2 S7) (fun S10 => some (.inl r1, S10)))))))))
def f_X9_turn (N : Nat) (l0 : Nat) (l1 : Int32) (l2 : Int32) (S : am_S) : Option (am_T) := (bt (f_X9_needPerson N l0 l1 S) (fun r1 S2 => (if l2 = (-1) then b_X9_turn_15 N l0 l1 l2 S2 else (bt (f_X9_needPerson N l0 l2 S2) (fun r6 S7 => b_X9_turn_15 N l0 l1 l2 S7)))))
theorem u_X9_turn_34 {G : am_G} {N : Nat} {h0 : am_H} {out : am_T} (l0 : Nat) (S : am_S) (hl0 : isC 9 l0 = true) (hB : b_X9_turn_34 N l0 S = some out) : Ev G (am_R 8 (t_c out) (t_s out)) (am_Φ G h0 (t_c out) (t_s out) (q_ti out) (q_tx out)) mX9_turn 0 0 34 [some (.ref l0), none, none, none] [] (hp S) := by
  unfold b_X9_turn_34 at hB
  refine ev_aload_n dX9_turn_34 rfl ?_
  refine es_getr k_9 4 dX9_turn_35 (by decide) rfl (Or.inl w_582) hl0 rfl ?_
  refine ev_iconst 1 dX9_turn_38 (by decide) ?_
  refine ev_dup2 dX9_turn_39 rfl rfl ?_
  obtain ⟨c1, hB⟩ := ck_of hB
  refine es_iald dX9_turn_40 (tr_9_4 hl0) c1 ?_
  refine ev_iconst 1 dX9_turn_41 (by decide) ?_
  refine ev_iadd dX9_turn_42 ?_
  obtain ⟨c2, hB⟩ := ck_of hB
  refine es_iast dX9_turn_43 (tr_9_4 hl0) c2 ?_
  refine ev_bipush (-2) dX9_turn_44 (by decide) ?_
  obtain rfl := Option.some.inj hB
  exact ev_iret dX9_turn_46 rfl (Nat.zero_le _) (Nat.zero_le _) (fun z => absurd z (hp_sealed _)) ⟨_, rfl, rfl, rfl⟩
theorem u_X9_turn_15 {G : am_G} {N : Nat} {h0 : am_H} {out : am_T} (l0 : Nat) (l1 : Int32) (l2 : Int32) (S : am_S) (hl0 : isC 9 l0 = true) (hB : b_X9_turn_15 N l0 l1 l2 S = some out) : Ev G (am_R 8 (t_c out) (t_s out)) (am_Φ G h0 (t_c out) (t_s out) (q_ti out) (q_tx out)) mX9_turn 0 0 15 [some (.ref l0), some (.int l1), some (.int l2), none] [] (hp S) := by
  unfold b_X9_turn_15 at hB
  refine ev_aload_n dX9_turn_15 rfl ?_
  refine es_getr k_9 7 dX9_turn_16 (by decide) rfl (Or.inl w_585) hl0 rfl ?_
  refine ev_iload_n dX9_turn_19 rfl ?_
  obtain ⟨r1, S2, e3, hB⟩ := bd_of hB
  refine es_callVi (As := [.int l1]) (t_X7_atOf (tr_9_7 hl0) e3) dX9_turn_20 oX7_atOf w_1151 rfl (tr_9_7 hl0) rfl rfl (Nat.le_of_ble_eq_true rfl) rfl (am_fit.of (by decide)) ⟨Nat.zero_le _, Nat.zero_le _⟩ ?_
  refine ev_istore_n dX9_turn_23 (by decide) rfl ?_
  refine ev_iload_n dX9_turn_24 rfl ?_
  refine ev_iload_n dX9_turn_25 rfl ?_
  refine ev_icmpeq 34 dX9_turn_26 (by decide) (fun q4 => ?_) (fun q4 => ?_)
  · rw [if_pos q4] at hB
    exact ev_ls (u_X9_turn_34 l0 S2 hl0 hB) (And.intro rfl trivial)
  · rw [if_neg q4] at hB
    refine ev_iload_n dX9_turn_29 rfl ?_
    refine ev_iload_n dX9_turn_30 rfl ?_
    refine ev_icmpne 47 dX9_turn_31 (by decide) (fun q5 => ?_) (fun q5 => ?_)
    · rw [if_neg q5] at hB
      refine ev_aload_n dX9_turn_47 rfl ?_
      refine es_getr k_9 9 dX9_turn_48 (by decide) rfl (Or.inl w_587) hl0 rfl ?_
      refine ev_aload_n dX9_turn_51 rfl ?_
      refine es_getr k_9 7 dX9_turn_52 (by decide) rfl (Or.inl w_585) hl0 rfl ?_
      obtain ⟨S7, e8, hB⟩ := bv_of hB
      refine es_callVv (As := [.ref (rf l0 7)]) (t_X0_keep (tr_9_9 hl0) (tr_9_7 hl0) e8) dX9_turn_55 oX0_keep w_656 rfl (tr_9_9 hl0) rfl rfl (Nat.le_of_ble_eq_true rfl) rfl (am_fit.of (by decide)) ⟨Nat.zero_le _, Nat.zero_le _⟩ ?_
      refine ev_aload_n dX9_turn_58 rfl ?_
      refine es_getr k_9 7 dX9_turn_59 (by decide) rfl (Or.inl w_585) hl0 rfl ?_
      refine ev_iload_n dX9_turn_62 rfl ?_
      refine ev_iload_n dX9_turn_63 rfl ?_
      obtain ⟨S10, e11, hB⟩ := bv_of hB
      refine es_callVv (As := [.int l1, .int l2]) (t_X7_turnTo (tr_9_7 hl0) e11) dX9_turn_64 oX7_turnTo w_1197 rfl (tr_9_7 hl0) rfl rfl (Nat.le_of_ble_eq_true rfl) rfl (am_fit.of (by decide)) ⟨Nat.zero_le _, Nat.zero_le _⟩ ?_
      refine ev_iload_n dX9_turn_67 rfl ?_
      obtain rfl := Option.some.inj hB
      exact ev_iret dX9_turn_68 rfl (Nat.zero_le _) (Nat.zero_le _) (fun z => absurd z (hp_sealed _)) ⟨_, rfl, rfl, rfl⟩
    · rw [if_pos q5] at hB
      exact ev_ls (u_X9_turn_34 l0 S2 hl0 hB) (And.intro rfl trivial)
theorem t_X9_turn {G : am_G} {N : Nat} {l0 : Nat} {l1 : Int32} {l2 : Int32} {S : am_S} {out : am_T} (hl0 : isC 9 l0 = true) (hB : f_X9_turn N l0 l1 l2 S = some out) : am_Met G 8 mX9_turn (t_c out) (t_s out) [.ref l0, .int l1, .int l2] (hp S) (q_ti out) (q_tx out) := by
  refine am_of (by decide +kernel) rfl rfl rfl (Nat.le_of_ble_eq_true rfl) ?_
  unfold f_X9_turn at hB
  refine ev_aload_n dX9_turn_0 rfl ?_
  refine ev_iload_n dX9_turn_1 rfl ?_
  rcases bt_of hB with ⟨r1, S2, e3, hB⟩ | ⟨x4, S2, e3, rfl⟩
  rotate_left
  · exact es_callVx (As := [.int l1]) (t_X9_needPerson hl0 e3) nq_v dX9_turn_2 oX9_needPerson w_1146 rfl hl0 rfl rfl (Nat.le_of_ble_eq_true rfl) rfl (am_fit.of (by decide)) rfl
  refine es_callVtv (As := [.int l1]) (t_X9_needPerson hl0 e3) dX9_turn_2 oX9_needPerson w_1146 rfl hl0 rfl rfl (Nat.le_of_ble_eq_true rfl) rfl (am_fit.of (by decide)) ⟨Nat.zero_le _, Nat.zero_le _⟩ ?_
  refine ev_iload_n dX9_turn_5 rfl ?_
  refine ev_iconst (-1) dX9_turn_6 (by decide) ?_
  refine ev_icmpeq 15 dX9_turn_7 (by decide) (fun q5 => ?_) (fun q5 => ?_)
  · rw [if_pos q5] at hB
    exact ev_ls (u_X9_turn_15 l0 l1 l2 S2 hl0 hB) (And.intro rfl (And.intro rfl (And.intro rfl trivial)))
  · rw [if_neg q5] at hB
    refine ev_aload_n dX9_turn_10 rfl ?_
    refine ev_iload_n dX9_turn_11 rfl ?_
    rcases bt_of hB with ⟨r6, S7, e8, hB⟩ | ⟨x9, S7, e8, rfl⟩
    rotate_left
    · exact es_callVx (As := [.int l2]) (t_X9_needPerson hl0 e8) nq_v dX9_turn_12 oX9_needPerson w_1146 rfl hl0 rfl rfl (Nat.le_of_ble_eq_true rfl) rfl (am_fit.of (by decide)) rfl
    refine es_callVtv (As := [.int l2]) (t_X9_needPerson hl0 e8) dX9_turn_12 oX9_needPerson w_1146 rfl hl0 rfl rfl (Nat.le_of_ble_eq_true rfl) rfl (am_fit.of (by decide)) ⟨Nat.zero_le _, Nat.zero_le _⟩ ?_
    exact ev_ls (u_X9_turn_15 l0 l1 l2 S7 hl0 hB) (And.intro rfl (And.intro rfl (And.intro rfl trivial)))
def f_X9_strike (N : Nat) (l0 : Nat) (l1 : Int32) (S : am_S) : Option (Int32 × am_S) := (bd (f_X7_onStrike N (rf l0 7) S) (fun r1 S2 => (if l1 = r1 then (if inb 1 (ln (rf l0 4)) = true then (if inb 1 (ln (rf l0 4)) = true then some (0, (sp S2 (rf l0 4) (Int32.toNatClampNeg 1) ((sg S2 (rf l0 4) (Int32.toNatClampNeg 1)) + 1))) else none) else none) else (bv (f_X0_keep N (rf l0 9) (rf l0 7) S2) (fun S6 => (bv (f_X7_setStrike N (rf l0 7) l1 S6) (fun S9 => some (1, S9))))))))
theorem t_X9_strike {G : am_G} {N : Nat} {l0 : Nat} {l1 : Int32} {S : am_S} {out : Int32 × am_S} (hl0 : isC 9 l0 = true) (hB : f_X9_strike N l0 l1 S = some out) : am_Met G 2 mX9_strike 0 0 [.ref l0, .int l1] (hp S) (q_i out) q_n := by
  refine am_of (by decide +kernel) rfl rfl rfl (Nat.le_of_ble_eq_true rfl) ?_
  unfold f_X9_strike at hB
  refine ev_iload_n dX9_strike_0 rfl ?_
  refine ev_aload_n dX9_strike_1 rfl ?_
  refine es_getr k_9 7 dX9_strike_2 (by decide) rfl (Or.inl w_585) hl0 rfl ?_
  obtain ⟨r1, S2, e3, hB⟩ := bd_of hB
  refine es_callVi (As := []) (t_X7_onStrike (tr_9_7 hl0) e3) dX9_strike_5 oX7_onStrike w_765 rfl (tr_9_7 hl0) rfl rfl (Nat.le_of_ble_eq_true rfl) rfl (am_fit.of (by decide)) ⟨Nat.zero_le _, Nat.zero_le _⟩ ?_
  refine ev_icmpne 23 dX9_strike_8 (by decide) (fun q4 => ?_) (fun q4 => ?_)
  · rw [if_neg q4] at hB
    refine ev_aload_n dX9_strike_23 rfl ?_
    refine es_getr k_9 9 dX9_strike_24 (by decide) rfl (Or.inl w_587) hl0 rfl ?_
    refine ev_aload_n dX9_strike_27 rfl ?_
    refine es_getr k_9 7 dX9_strike_28 (by decide) rfl (Or.inl w_585) hl0 rfl ?_
    obtain ⟨S6, e7, hB⟩ := bv_of hB
    refine es_callVv (As := [.ref (rf l0 7)]) (t_X0_keep (tr_9_9 hl0) (tr_9_7 hl0) e7) dX9_strike_31 oX0_keep w_656 rfl (tr_9_9 hl0) rfl rfl (Nat.le_of_ble_eq_true rfl) rfl (am_fit.of (by decide)) ⟨Nat.zero_le _, Nat.zero_le _⟩ ?_
    refine ev_aload_n dX9_strike_34 rfl ?_
    refine es_getr k_9 7 dX9_strike_35 (by decide) rfl (Or.inl w_585) hl0 rfl ?_
    refine ev_iload_n dX9_strike_38 rfl ?_
    obtain ⟨S9, e10, hB⟩ := bv_of hB
    refine es_callVv (As := [.int l1]) (t_X7_setStrike (tr_9_7 hl0) e10) dX9_strike_39 oX7_setStrike w_766 rfl (tr_9_7 hl0) rfl rfl (Nat.le_of_ble_eq_true rfl) rfl (am_fit.of (by decide)) ⟨Nat.zero_le _, Nat.zero_le _⟩ ?_
    refine ev_iconst 1 dX9_strike_42 (by decide) ?_
    obtain rfl := Option.some.inj hB
    exact ev_zret dX9_strike_43 rfl (by rfl) (Nat.zero_le _) (Nat.zero_le _) (fun z => absurd z (hp_sealed _)) ⟨rfl, rfl⟩
  · rw [if_pos q4] at hB
    refine ev_aload_n dX9_strike_11 rfl ?_
    refine es_getr k_9 4 dX9_strike_12 (by decide) rfl (Or.inl w_582) hl0 rfl ?_
    refine ev_iconst 1 dX9_strike_15 (by decide) ?_
    refine ev_dup2 dX9_strike_16 rfl rfl ?_
    obtain ⟨c11, hB⟩ := ck_of hB
    refine es_iald dX9_strike_17 (tr_9_4 hl0) c11 ?_
    refine ev_iconst 1 dX9_strike_18 (by decide) ?_
    refine ev_iadd dX9_strike_19 ?_
    obtain ⟨c12, hB⟩ := ck_of hB
    refine es_iast dX9_strike_20 (tr_9_4 hl0) c12 ?_
    refine ev_iconst 0 dX9_strike_21 (by decide) ?_
    obtain rfl := Option.some.inj hB
    exact ev_zret dX9_strike_22 rfl (by rfl) (Nat.zero_le _) (Nat.zero_le _) (fun z => absurd z (hp_sealed _)) ⟨rfl, rfl⟩
def f_X9_undo (N : Nat) (l0 : Nat) (S : am_S) : Option (Int32 × am_S) := (if (sg S (rf l0 9) 1) = 0 then some ((-1), S) else (bv (f_X0_takeBack N (rf l0 9) (rf l0 7) S) (fun S3 => some ((sg S3 (rf l0 9) 1), S3))))
theorem t_X9_undo {G : am_G} {N : Nat} {l0 : Nat} {S : am_S} {out : Int32 × am_S} (hl0 : isC 9 l0 = true) (hB : f_X9_undo N l0 S = some out) : am_Met G 2 mX9_undo 0 0 [.ref l0] (hp S) (q_i out) q_n := by
  refine am_of (by decide +kernel) rfl rfl rfl (Nat.le_of_ble_eq_true rfl) ?_
  unfold f_X9_undo at hB
  refine ev_aload_n dX9_undo_0 rfl ?_
  refine es_getr k_9 9 dX9_undo_1 (by decide) rfl (Or.inl w_587) hl0 rfl ?_
  refine es_geti k_0 1 dX9_undo_4 (by decide) rfl (Or.inr ⟨_, n_524⟩) (tr_9_9 hl0) rfl ?_
  refine ev_ifne 12 dX9_undo_7 (by decide) (fun q1 => ?_) (fun q1 => ?_)
  · rw [if_neg q1] at hB
    refine ev_aload_n dX9_undo_12 rfl ?_
    refine es_getr k_9 9 dX9_undo_13 (by decide) rfl (Or.inl w_587) hl0 rfl ?_
    refine ev_aload_n dX9_undo_16 rfl ?_
    refine es_getr k_9 7 dX9_undo_17 (by decide) rfl (Or.inl w_585) hl0 rfl ?_
    obtain ⟨S3, e4, hB⟩ := bv_of hB
    refine es_callVv (As := [.ref (rf l0 7)]) (t_X0_takeBack (tr_9_9 hl0) (tr_9_7 hl0) e4) dX9_undo_20 oX0_takeBack w_774 rfl (tr_9_9 hl0) rfl rfl (Nat.le_of_ble_eq_true rfl) rfl (am_fit.of (by decide)) ⟨Nat.zero_le _, Nat.zero_le _⟩ ?_
    refine ev_aload_n dX9_undo_23 rfl ?_
    refine es_getr k_9 9 dX9_undo_24 (by decide) rfl (Or.inl w_587) hl0 rfl ?_
    refine es_geti k_0 1 dX9_undo_27 (by decide) rfl (Or.inr ⟨_, n_524⟩) (tr_9_9 hl0) rfl ?_
    obtain rfl := Option.some.inj hB
    exact ev_iret dX9_undo_30 rfl (Nat.zero_le _) (Nat.zero_le _) (fun z => absurd z (hp_sealed _)) ⟨rfl, rfl⟩
  · rw [if_pos q1] at hB
    refine ev_iconst (-1) dX9_undo_10 (by decide) ?_
    obtain rfl := Option.some.inj hB
    exact ev_iret dX9_undo_11 rfl (Nat.zero_le _) (Nat.zero_le _) (fun z => absurd z (hp_sealed _)) ⟨rfl, rfl⟩
def b_X9_needWhat_9 (N : Nat)  (S : am_S) : Option (am_T) := some (.inr 0, S)
def f_X9_needWhat (N : Nat) (l0 : Int32) (l1 : Int32) (S : am_S) : Option (am_T) := (if l0 < 0 then b_X9_needWhat_9 N S else (if l0 ≤ l1 then some (.inl 0, S) else b_X9_needWhat_9 N S))
theorem u_X9_needWhat_9 {G : am_G} {N : Nat} {h0 : am_H} {out : am_T}  (S : am_S) (hB : b_X9_needWhat_9 N  S = some out) : Ev G (am_R 7 (t_c out) (t_s out)) (am_Φ G h0 (t_c out) (t_s out) (q_tv out) (q_tx out)) mX9_needWhat 0 0 9 [none, none] [] (hp S) := by
  unfold b_X9_needWhat_9 at hB
  obtain rfl := Option.some.inj hB
  exact es_thr0 20 dX9_needWhat_9 dX9_needWhat_12 dX9_needWhat_13 dX9_needWhat_15 dX9_needWhat_18 rfl rfl rfl (Nat.le_of_ble_eq_true rfl) (by decide)
theorem t_X9_needWhat {G : am_G} {N : Nat} {l0 : Int32} {l1 : Int32} {S : am_S} {out : am_T} (hB : f_X9_needWhat N l0 l1 S = some out) : am_Met G 7 mX9_needWhat (t_c out) (t_s out) [.int l0, .int l1] (hp S) (q_tv out) (q_tx out) := by
  refine am_of (by decide +kernel) rfl rfl rfl (Nat.le_of_ble_eq_true rfl) ?_
  unfold f_X9_needWhat at hB
  refine ev_iload_n dX9_needWhat_0 rfl ?_
  refine ev_iflt 9 dX9_needWhat_1 (by decide) (fun q1 => ?_) (fun q1 => ?_)
  · rw [if_pos q1] at hB
    exact ev_ls (u_X9_needWhat_9 S hB) trivial
  · rw [if_neg q1] at hB
    refine ev_iload_n dX9_needWhat_4 rfl ?_
    refine ev_iload_n dX9_needWhat_5 rfl ?_
    refine ev_icmple 19 dX9_needWhat_6 (by decide) (fun q2 => ?_) (fun q2 => ?_)
    · rw [if_pos q2] at hB
      obtain rfl := Option.some.inj hB
      exact ev_vret dX9_needWhat_19 rfl (Nat.zero_le _) (Nat.zero_le _) (fun z => absurd z (hp_sealed _)) ⟨_, rfl, rfl, rfl⟩
    · rw [if_neg q2] at hB
      exact ev_ls (u_X9_needWhat_9 S hB) trivial
def b_X9_needRange_10 (N : Nat)  (S : am_S) : Option (am_T) := some (.inr 1, S)
def f_X9_needRange (N : Nat) (l0 : Int32) (l1 : Int32) (l2 : Int32) (S : am_S) : Option (am_T) := (if l0 < l1 then b_X9_needRange_10 N S else (if l0 ≤ l2 then some (.inl 0, S) else b_X9_needRange_10 N S))
theorem u_X9_needRange_10 {G : am_G} {N : Nat} {h0 : am_H} {out : am_T}  (S : am_S) (hB : b_X9_needRange_10 N  S = some out) : Ev G (am_R 7 (t_c out) (t_s out)) (am_Φ G h0 (t_c out) (t_s out) (q_tv out) (q_tx out)) mX9_needRange 0 0 10 [none, none, none] [] (hp S) := by
  unfold b_X9_needRange_10 at hB
  obtain rfl := Option.some.inj hB
  exact es_thrW1 23 dX9_needRange_10 dX9_needRange_13 dX9_needRange_14 dX9_needRange_17 dX9_needRange_20 rfl rfl rfl (Nat.le_of_ble_eq_true rfl) (by decide)
theorem t_X9_needRange {G : am_G} {N : Nat} {l0 : Int32} {l1 : Int32} {l2 : Int32} {S : am_S} {out : am_T} (hB : f_X9_needRange N l0 l1 l2 S = some out) : am_Met G 7 mX9_needRange (t_c out) (t_s out) [.int l0, .int l1, .int l2] (hp S) (q_tv out) (q_tx out) := by
  refine am_of (by decide +kernel) rfl rfl rfl (Nat.le_of_ble_eq_true rfl) ?_
  unfold f_X9_needRange at hB
  refine ev_iload_n dX9_needRange_0 rfl ?_
  refine ev_iload_n dX9_needRange_1 rfl ?_
  refine ev_icmplt 10 dX9_needRange_2 (by decide) (fun q1 => ?_) (fun q1 => ?_)
  · rw [if_pos q1] at hB
    exact ev_ls (u_X9_needRange_10 S hB) trivial
  · rw [if_neg q1] at hB
    refine ev_iload_n dX9_needRange_5 rfl ?_
    refine ev_iload_n dX9_needRange_6 rfl ?_
    refine ev_icmple 21 dX9_needRange_7 (by decide) (fun q2 => ?_) (fun q2 => ?_)
    · rw [if_pos q2] at hB
      obtain rfl := Option.some.inj hB
      exact ev_vret dX9_needRange_21 rfl (Nat.zero_le _) (Nat.zero_le _) (fun z => absurd z (hp_sealed _)) ⟨_, rfl, rfl, rfl⟩
    · rw [if_neg q2] at hB
      exact ev_ls (u_X9_needRange_10 S hB) trivial
def b_X9_lookAhead_15 (N : Nat) : Nat → Nat → Int32 → Int32 → Int32 → am_S → Option (Int32 × am_S)
  | 0, _, _, _, _, _ => none
  | n + 1, l0, l1, l2, l3, S => (if l1 ≤ l3 then some (l2, S) else (if isC 1 (rg S 0) = true then (bd (f_X1_passDay N (rg S 0) (rf l0 8) S) (fun r3 S4 => b_X9_lookAhead_15 N n l0 l1 (l2 + r3) (l3 + 1) S4)) else none))
def f_X9_lookAhead (N : Nat) (l0 : Nat) (l1 : Int32) (S : am_S) : Option (Int32 × am_S) := (bv (f_X7_copyFrom N (rf l0 8) (rf l0 7) S) (fun S2 => b_X9_lookAhead_15 N N l0 l1 0 0 S2))
theorem u_X9_lookAhead_15 {G : am_G} {N : Nat} {h0 : am_H} {out : Int32 × am_S} : ∀ (n : Nat) (l0 : Nat) (l1 : Int32) (l2 : Int32) (l3 : Int32) (S : am_S), isC 9 l0 = true → b_X9_lookAhead_15 N n l0 l1 l2 l3 S = some out → Ev G (am_R 6 0 0) (am_Φ G h0 0 0 (q_i out) q_n) mX9_lookAhead 0 0 15 [some (.ref l0), some (.int l1), some (.int l2), some (.int l3)] [] (hp S) := by
  intro n
  induction n with
  | zero =>
    intro l0 l1 l2 l3 S hl0 hB
    exact absurd (show none = some out from hB) (fun q => by cases q)
  | succ n ih =>
    intro l0 l1 l2 l3 S hl0 hB
    unfold b_X9_lookAhead_15 at hB
    refine ev_iload_n dX9_lookAhead_15 rfl ?_
    refine ev_iload_n dX9_lookAhead_16 rfl ?_
    refine ev_icmpge 40 dX9_lookAhead_17 (by decide) (fun q1 => ?_) (fun q1 => ?_)
    · rw [if_pos q1] at hB
      refine ev_iload_n dX9_lookAhead_40 rfl ?_
      obtain rfl := Option.some.inj hB
      exact ev_iret dX9_lookAhead_41 rfl (Nat.zero_le _) (Nat.zero_le _) (fun z => absurd z (hp_sealed _)) ⟨rfl, rfl⟩
    · rw [if_neg q1] at hB
      refine ev_iload_n dX9_lookAhead_20 rfl ?_
      refine ev_aload_n dX9_lookAhead_21 rfl ?_
      refine es_getd 0 k_9 5 dX9_lookAhead_22 (by decide) rfl (Or.inl w_583) hl0 rfl ?_
      obtain ⟨c2, hB⟩ := ck_of hB
      refine ev_aload_n dX9_lookAhead_25 rfl ?_
      refine es_getr k_9 8 dX9_lookAhead_26 (by decide) rfl (Or.inl w_586) hl0 rfl ?_
      obtain ⟨r3, S4, e5, hB⟩ := bd_of hB
      refine es_callVi (As := [.ref (rf l0 8)]) (t_X1_passDay c2 (tr_9_8 hl0) e5) dX9_lookAhead_29 oX1_passDay w_662 rfl c2 rfl rfl (Nat.le_of_ble_eq_true rfl) rfl (am_fit.of (by decide)) ⟨Nat.zero_le _, Nat.zero_le _⟩ ?_
      refine ev_iadd dX9_lookAhead_32 ?_
      refine ev_istore_n dX9_lookAhead_33 (by decide) rfl ?_
      refine es_iinc 1 dX9_lookAhead_34 rfl (by decide) (by decide) rfl ?_
      refine ev_goto 15 dX9_lookAhead_37 (by decide) ?_
      exact ev_ls (ih l0 l1 (l2 + r3) (l3 + 1) S4 hl0 hB) (And.intro rfl (And.intro rfl (And.intro rfl (And.intro rfl trivial))))
theorem t_X9_lookAhead {G : am_G} {N : Nat} {l0 : Nat} {l1 : Int32} {S : am_S} {out : Int32 × am_S} (hl0 : isC 9 l0 = true) (hB : f_X9_lookAhead N l0 l1 S = some out) : am_Met G 6 mX9_lookAhead 0 0 [.ref l0, .int l1] (hp S) (q_i out) q_n := by
  refine am_of (by decide +kernel) rfl rfl rfl (Nat.le_of_ble_eq_true rfl) ?_
  unfold f_X9_lookAhead at hB
  refine ev_aload_n dX9_lookAhead_0 rfl ?_
  refine es_getr k_9 8 dX9_lookAhead_1 (by decide) rfl (Or.inl w_586) hl0 rfl ?_
  refine ev_aload_n dX9_lookAhead_4 rfl ?_
  refine es_getr k_9 7 dX9_lookAhead_5 (by decide) rfl (Or.inl w_585) hl0 rfl ?_
  obtain ⟨S2, e3, hB⟩ := bv_of hB
  refine es_callVv (As := [.ref (rf l0 7)]) (t_X7_copyFrom (tr_9_8 hl0) (tr_9_7 hl0) e3) dX9_lookAhead_8 oX7_copyFrom w_803 rfl (tr_9_8 hl0) rfl rfl (Nat.le_of_ble_eq_true rfl) rfl (am_fit.of (by decide)) ⟨Nat.zero_le _, Nat.zero_le _⟩ ?_
  refine ev_iconst 0 dX9_lookAhead_11 (by decide) ?_
  refine ev_istore_n dX9_lookAhead_12 (by decide) rfl ?_
  refine ev_iconst 0 dX9_lookAhead_13 (by decide) ?_
  refine ev_istore_n dX9_lookAhead_14 (by decide) rfl ?_
  exact ev_ls (u_X9_lookAhead_15 N l0 l1 0 0 S2 hl0 hB) (And.intro rfl (And.intro rfl (And.intro rfl (And.intro rfl trivial))))
def b_X9_then_46 (N : Nat) (z0 : Int32) (S : am_S) : Option (am_T) := some (.inl z0, S)
def f_X9_then (N : Nat) (l0 : Nat) (l1 : Int32) (l2 : Int32) (l3 : Int32) (S : am_S) : Option (am_T) := (bt (f_X9_needBox N l0 l1 S) (fun r1 S2 => (bt (f_X9_needWhat N l3 1 S2) (fun r5 S6 => (bt (f_X9_needRange N l2 0 40 S6) (fun r9 S10 => (bd (f_X9_lookAhead N l0 l2 S10) (fun r13 S14 => (if l3 = 0 then (bd (f_X7_heldIn N (rf l0 8) l1 S14) (fun r20 S21 => b_X9_then_46 N r20 S21)) else (bd (f_X7_redOf N (rf l0 8) l1 S14) (fun r17 S18 => b_X9_then_46 N r17 S18)))))))))))
theorem u_X9_then_46 {G : am_G} {N : Nat} {h0 : am_H} {out : am_T} (z0 : Int32) (S : am_S) (hB : b_X9_then_46 N z0 S = some out) : Ev G (am_R 8 (t_c out) (t_s out)) (am_Φ G h0 (t_c out) (t_s out) (q_ti out) (q_tx out)) mX9_then 0 0 46 [none, none, none, none] [.int z0] (hp S) := by
  unfold b_X9_then_46 at hB
  obtain rfl := Option.some.inj hB
  exact ev_iret dX9_then_46 rfl (Nat.zero_le _) (Nat.zero_le _) (fun z => absurd z (hp_sealed _)) ⟨_, rfl, rfl, rfl⟩
theorem t_X9_then {G : am_G} {N : Nat} {l0 : Nat} {l1 : Int32} {l2 : Int32} {l3 : Int32} {S : am_S} {out : am_T} (hl0 : isC 9 l0 = true) (hB : f_X9_then N l0 l1 l2 l3 S = some out) : am_Met G 8 mX9_then (t_c out) (t_s out) [.ref l0, .int l1, .int l2, .int l3] (hp S) (q_ti out) (q_tx out) := by
  refine am_of (by decide +kernel) rfl rfl rfl (Nat.le_of_ble_eq_true rfl) ?_
  unfold f_X9_then at hB
  refine ev_aload_n dX9_then_0 rfl ?_
  refine ev_iload_n dX9_then_1 rfl ?_
  rcases bt_of hB with ⟨r1, S2, e3, hB⟩ | ⟨x4, S2, e3, rfl⟩
  rotate_left
  · exact es_callVx (As := [.int l1]) (t_X9_needBox hl0 e3) nq_v dX9_then_2 oX9_needBox w_1124 rfl hl0 rfl rfl (Nat.le_of_ble_eq_true rfl) rfl (am_fit.of (by decide)) rfl
  refine es_callVtv (As := [.int l1]) (t_X9_needBox hl0 e3) dX9_then_2 oX9_needBox w_1124 rfl hl0 rfl rfl (Nat.le_of_ble_eq_true rfl) rfl (am_fit.of (by decide)) ⟨Nat.zero_le _, Nat.zero_le _⟩ ?_
  refine ev_iload_n dX9_then_5 rfl ?_
  refine ev_iconst 1 dX9_then_6 (by decide) ?_
  rcases bt_of hB with ⟨r5, S6, e7, hB⟩ | ⟨x8, S6, e7, rfl⟩
  rotate_left
  · exact es_callSx (As := [.int l3, .int 1]) (t_X9_needWhat e7) nq_v dX9_then_7 oX9_needWhat w_1208 rfl (Nat.le_of_ble_eq_true rfl) rfl (am_fit.of (by decide)) rfl
  refine es_callStv (As := [.int l3, .int 1]) (t_X9_needWhat e7) dX9_then_7 oX9_needWhat w_1208 rfl (Nat.le_of_ble_eq_true rfl) rfl (am_fit.of (by decide)) ⟨Nat.zero_le _, Nat.zero_le _⟩ ?_
  refine ev_iload_n dX9_then_10 rfl ?_
  refine ev_iconst 0 dX9_then_11 (by decide) ?_
  refine ev_bipush 40 dX9_then_12 (by decide) ?_
  rcases bt_of hB with ⟨r9, S10, e11, hB⟩ | ⟨x12, S10, e11, rfl⟩
  rotate_left
  · exact es_callSx (As := [.int l2, .int 0, .int 40]) (t_X9_needRange e11) nq_v dX9_then_14 oX9_needRange w_1211 rfl (Nat.le_of_ble_eq_true rfl) rfl (am_fit.of (by decide)) rfl
  refine es_callStv (As := [.int l2, .int 0, .int 40]) (t_X9_needRange e11) dX9_then_14 oX9_needRange w_1211 rfl (Nat.le_of_ble_eq_true rfl) rfl (am_fit.of (by decide)) ⟨Nat.zero_le _, Nat.zero_le _⟩ ?_
  refine ev_aload_n dX9_then_17 rfl ?_
  refine ev_iload_n dX9_then_18 rfl ?_
  obtain ⟨r13, S14, e15, hB⟩ := bd_of hB
  refine es_callVi (As := [.int l2]) (t_X9_lookAhead hl0 e15) dX9_then_19 oX9_lookAhead w_1215 rfl hl0 rfl rfl (Nat.le_of_ble_eq_true rfl) rfl (am_fit.of (by decide)) ⟨Nat.zero_le _, Nat.zero_le _⟩ ?_
  refine ev_pop dX9_then_22 rfl ?_
  refine ev_iload_n dX9_then_23 rfl ?_
  refine ev_ifne 38 dX9_then_24 (by decide) (fun q16 => ?_) (fun q16 => ?_)
  · rw [if_neg q16] at hB
    refine ev_aload_n dX9_then_38 rfl ?_
    refine es_getr k_9 8 dX9_then_39 (by decide) rfl (Or.inl w_586) hl0 rfl ?_
    refine ev_iload_n dX9_then_42 rfl ?_
    obtain ⟨r17, S18, e19, hB⟩ := bd_of hB
    refine es_callVi (As := [.int l1]) (t_X7_redOf (tr_9_8 hl0) e19) dX9_then_43 oX7_redOf w_1129 rfl (tr_9_8 hl0) rfl rfl (Nat.le_of_ble_eq_true rfl) rfl (am_fit.of (by decide)) ⟨Nat.zero_le _, Nat.zero_le _⟩ ?_
    exact ev_ls (u_X9_then_46 r17 S18 hB) trivial
  · rw [if_pos q16] at hB
    refine ev_aload_n dX9_then_27 rfl ?_
    refine es_getr k_9 8 dX9_then_28 (by decide) rfl (Or.inl w_586) hl0 rfl ?_
    refine ev_iload_n dX9_then_31 rfl ?_
    obtain ⟨r20, S21, e22, hB⟩ := bd_of hB
    refine es_callVi (As := [.int l1]) (t_X7_heldIn (tr_9_8 hl0) e22) dX9_then_32 oX7_heldIn w_1130 rfl (tr_9_8 hl0) rfl rfl (Nat.le_of_ble_eq_true rfl) rfl (am_fit.of (by decide)) ⟨Nat.zero_le _, Nat.zero_le _⟩ ?_
    refine ev_goto 46 dX9_then_35 (by decide) ?_
    exact ev_ls (u_X9_then_46 r20 S21 hB) trivial
def b_X9_later_46 (N : Nat) (z0 : Int32) (S : am_S) : Option (am_T) := some (.inl z0, S)
def f_X9_later (N : Nat) (l0 : Nat) (l1 : Int32) (l2 : Int32) (l3 : Int32) (S : am_S) : Option (am_T) := (bt (f_X9_needPerson N l0 l1 S) (fun r1 S2 => (bt (f_X9_needWhat N l3 1 S2) (fun r5 S6 => (bt (f_X9_needRange N l2 0 40 S6) (fun r9 S10 => (bd (f_X9_lookAhead N l0 l2 S10) (fun r13 S14 => (if l3 = 0 then (bd (f_X7_regretOf N (rf l0 8) l1 S14) (fun r20 S21 => b_X9_later_46 N r20 S21)) else (bd (f_X7_heardBy N (rf l0 8) l1 S14) (fun r17 S18 => b_X9_later_46 N r17 S18)))))))))))
theorem u_X9_later_46 {G : am_G} {N : Nat} {h0 : am_H} {out : am_T} (z0 : Int32) (S : am_S) (hB : b_X9_later_46 N z0 S = some out) : Ev G (am_R 8 (t_c out) (t_s out)) (am_Φ G h0 (t_c out) (t_s out) (q_ti out) (q_tx out)) mX9_later 0 0 46 [none, none, none, none] [.int z0] (hp S) := by
  unfold b_X9_later_46 at hB
  obtain rfl := Option.some.inj hB
  exact ev_iret dX9_later_46 rfl (Nat.zero_le _) (Nat.zero_le _) (fun z => absurd z (hp_sealed _)) ⟨_, rfl, rfl, rfl⟩
theorem t_X9_later {G : am_G} {N : Nat} {l0 : Nat} {l1 : Int32} {l2 : Int32} {l3 : Int32} {S : am_S} {out : am_T} (hl0 : isC 9 l0 = true) (hB : f_X9_later N l0 l1 l2 l3 S = some out) : am_Met G 8 mX9_later (t_c out) (t_s out) [.ref l0, .int l1, .int l2, .int l3] (hp S) (q_ti out) (q_tx out) := by
  refine am_of (by decide +kernel) rfl rfl rfl (Nat.le_of_ble_eq_true rfl) ?_
  unfold f_X9_later at hB
  refine ev_aload_n dX9_later_0 rfl ?_
  refine ev_iload_n dX9_later_1 rfl ?_
  rcases bt_of hB with ⟨r1, S2, e3, hB⟩ | ⟨x4, S2, e3, rfl⟩
  rotate_left
  · exact es_callVx (As := [.int l1]) (t_X9_needPerson hl0 e3) nq_v dX9_later_2 oX9_needPerson w_1146 rfl hl0 rfl rfl (Nat.le_of_ble_eq_true rfl) rfl (am_fit.of (by decide)) rfl
  refine es_callVtv (As := [.int l1]) (t_X9_needPerson hl0 e3) dX9_later_2 oX9_needPerson w_1146 rfl hl0 rfl rfl (Nat.le_of_ble_eq_true rfl) rfl (am_fit.of (by decide)) ⟨Nat.zero_le _, Nat.zero_le _⟩ ?_
  refine ev_iload_n dX9_later_5 rfl ?_
  refine ev_iconst 1 dX9_later_6 (by decide) ?_
  rcases bt_of hB with ⟨r5, S6, e7, hB⟩ | ⟨x8, S6, e7, rfl⟩
  rotate_left
  · exact es_callSx (As := [.int l3, .int 1]) (t_X9_needWhat e7) nq_v dX9_later_7 oX9_needWhat w_1208 rfl (Nat.le_of_ble_eq_true rfl) rfl (am_fit.of (by decide)) rfl
  refine es_callStv (As := [.int l3, .int 1]) (t_X9_needWhat e7) dX9_later_7 oX9_needWhat w_1208 rfl (Nat.le_of_ble_eq_true rfl) rfl (am_fit.of (by decide)) ⟨Nat.zero_le _, Nat.zero_le _⟩ ?_
  refine ev_iload_n dX9_later_10 rfl ?_
  refine ev_iconst 0 dX9_later_11 (by decide) ?_
  refine ev_bipush 40 dX9_later_12 (by decide) ?_
  rcases bt_of hB with ⟨r9, S10, e11, hB⟩ | ⟨x12, S10, e11, rfl⟩
  rotate_left
  · exact es_callSx (As := [.int l2, .int 0, .int 40]) (t_X9_needRange e11) nq_v dX9_later_14 oX9_needRange w_1211 rfl (Nat.le_of_ble_eq_true rfl) rfl (am_fit.of (by decide)) rfl
  refine es_callStv (As := [.int l2, .int 0, .int 40]) (t_X9_needRange e11) dX9_later_14 oX9_needRange w_1211 rfl (Nat.le_of_ble_eq_true rfl) rfl (am_fit.of (by decide)) ⟨Nat.zero_le _, Nat.zero_le _⟩ ?_
  refine ev_aload_n dX9_later_17 rfl ?_
  refine ev_iload_n dX9_later_18 rfl ?_
  obtain ⟨r13, S14, e15, hB⟩ := bd_of hB
  refine es_callVi (As := [.int l2]) (t_X9_lookAhead hl0 e15) dX9_later_19 oX9_lookAhead w_1215 rfl hl0 rfl rfl (Nat.le_of_ble_eq_true rfl) rfl (am_fit.of (by decide)) ⟨Nat.zero_le _, Nat.zero_le _⟩ ?_
  refine ev_pop dX9_later_22 rfl ?_
  refine ev_iload_n dX9_later_23 rfl ?_
  refine ev_ifne 38 dX9_later_24 (by decide) (fun q16 => ?_) (fun q16 => ?_)
  · rw [if_neg q16] at hB
    refine ev_aload_n dX9_later_38 rfl ?_
    refine es_getr k_9 8 dX9_later_39 (by decide) rfl (Or.inl w_586) hl0 rfl ?_
    refine ev_iload_n dX9_later_42 rfl ?_
    obtain ⟨r17, S18, e19, hB⟩ := bd_of hB
    refine es_callVi (As := [.int l1]) (t_X7_heardBy (tr_9_8 hl0) e19) dX9_later_43 oX7_heardBy w_1153 rfl (tr_9_8 hl0) rfl rfl (Nat.le_of_ble_eq_true rfl) rfl (am_fit.of (by decide)) ⟨Nat.zero_le _, Nat.zero_le _⟩ ?_
    exact ev_ls (u_X9_later_46 r17 S18 hB) trivial
  · rw [if_pos q16] at hB
    refine ev_aload_n dX9_later_27 rfl ?_
    refine es_getr k_9 8 dX9_later_28 (by decide) rfl (Or.inl w_586) hl0 rfl ?_
    refine ev_iload_n dX9_later_31 rfl ?_
    obtain ⟨r20, S21, e22, hB⟩ := bd_of hB
    refine es_callVi (As := [.int l1]) (t_X7_regretOf (tr_9_8 hl0) e22) dX9_later_32 oX7_regretOf w_1152 rfl (tr_9_8 hl0) rfl rfl (Nat.le_of_ble_eq_true rfl) rfl (am_fit.of (by decide)) ⟨Nat.zero_le _, Nat.zero_le _⟩ ?_
    refine ev_goto 46 dX9_later_35 (by decide) ?_
    exact ev_ls (u_X9_later_46 r20 S21 hB) trivial
def b_X9_first_18 (N : Nat) : Nat → Nat → Int32 → Int32 → am_S → Option (am_T)
  | 0, _, _, _, _ => none
  | n + 1, l0, l1, l2, S => (if 40 < l2 then some (.inl (-1), S) else (if isC 1 (rg S 0) = true then (bd (f_X1_passDay N (rg S 0) (rf l0 8) S) (fun r3 S4 => (bd (f_X7_heardBy N (rf l0 8) l1 S4) (fun r6 S7 => (bd (f_X7_heardBy N (rf l0 7) l1 S7) (fun r9 S10 => (if r6 ≤ r9 then b_X9_first_18 N n l0 l1 (l2 + 1) S10 else some (.inl l2, S10)))))))) else none))
def f_X9_first (N : Nat) (l0 : Nat) (l1 : Int32) (S : am_S) : Option (am_T) := (bt (f_X9_needPerson N l0 l1 S) (fun r1 S2 => (bv (f_X7_copyFrom N (rf l0 8) (rf l0 7) S2) (fun S6 => b_X9_first_18 N N l0 l1 1 S6))))
theorem u_X9_first_18 {G : am_G} {N : Nat} {h0 : am_H} {out : am_T} : ∀ (n : Nat) (l0 : Nat) (l1 : Int32) (l2 : Int32) (S : am_S), isC 9 l0 = true → b_X9_first_18 N n l0 l1 l2 S = some out → Ev G (am_R 8 (t_c out) (t_s out)) (am_Φ G h0 (t_c out) (t_s out) (q_ti out) (q_tx out)) mX9_first 0 0 18 [some (.ref l0), some (.int l1), some (.int l2)] [] (hp S) := by
  intro n
  induction n with
  | zero =>
    intro l0 l1 l2 S hl0 hB
    exact absurd (show none = some out from hB) (fun q => by cases q)
  | succ n ih =>
    intro l0 l1 l2 S hl0 hB
    unfold b_X9_first_18 at hB
    refine ev_iload_n dX9_first_18 rfl ?_
    refine ev_bipush 40 dX9_first_19 (by decide) ?_
    refine ev_icmpgt 63 dX9_first_21 (by decide) (fun q1 => ?_) (fun q1 => ?_)
    · rw [if_pos q1] at hB
      refine ev_iconst (-1) dX9_first_63 (by decide) ?_
      obtain rfl := Option.some.inj hB
      exact ev_iret dX9_first_64 rfl (Nat.zero_le _) (Nat.zero_le _) (fun z => absurd z (hp_sealed _)) ⟨_, rfl, rfl, rfl⟩
    · rw [if_neg q1] at hB
      refine ev_aload_n dX9_first_24 rfl ?_
      refine es_getd 0 k_9 5 dX9_first_25 (by decide) rfl (Or.inl w_583) hl0 rfl ?_
      obtain ⟨c2, hB⟩ := ck_of hB
      refine ev_aload_n dX9_first_28 rfl ?_
      refine es_getr k_9 8 dX9_first_29 (by decide) rfl (Or.inl w_586) hl0 rfl ?_
      obtain ⟨r3, S4, e5, hB⟩ := bd_of hB
      refine es_callVi (As := [.ref (rf l0 8)]) (t_X1_passDay c2 (tr_9_8 hl0) e5) dX9_first_32 oX1_passDay w_662 rfl c2 rfl rfl (Nat.le_of_ble_eq_true rfl) rfl (am_fit.of (by decide)) ⟨Nat.zero_le _, Nat.zero_le _⟩ ?_
      refine ev_pop dX9_first_35 rfl ?_
      refine ev_aload_n dX9_first_36 rfl ?_
      refine es_getr k_9 8 dX9_first_37 (by decide) rfl (Or.inl w_586) hl0 rfl ?_
      refine ev_iload_n dX9_first_40 rfl ?_
      obtain ⟨r6, S7, e8, hB⟩ := bd_of hB
      refine es_callVi (As := [.int l1]) (t_X7_heardBy (tr_9_8 hl0) e8) dX9_first_41 oX7_heardBy w_1153 rfl (tr_9_8 hl0) rfl rfl (Nat.le_of_ble_eq_true rfl) rfl (am_fit.of (by decide)) ⟨Nat.zero_le _, Nat.zero_le _⟩ ?_
      refine ev_aload_n dX9_first_44 rfl ?_
      refine es_getr k_9 7 dX9_first_45 (by decide) rfl (Or.inl w_585) hl0 rfl ?_
      refine ev_iload_n dX9_first_48 rfl ?_
      obtain ⟨r9, S10, e11, hB⟩ := bd_of hB
      refine es_callVi (As := [.int l1]) (t_X7_heardBy (tr_9_7 hl0) e11) dX9_first_49 oX7_heardBy w_1153 rfl (tr_9_7 hl0) rfl rfl (Nat.le_of_ble_eq_true rfl) rfl (am_fit.of (by decide)) ⟨Nat.zero_le _, Nat.zero_le _⟩ ?_
      refine ev_icmple 57 dX9_first_52 (by decide) (fun q12 => ?_) (fun q12 => ?_)
      · rw [if_pos q12] at hB
        refine es_iinc 1 dX9_first_57 rfl (by decide) (by decide) rfl ?_
        refine ev_goto 18 dX9_first_60 (by decide) ?_
        exact ev_ls (ih l0 l1 (l2 + 1) S10 hl0 hB) (And.intro rfl (And.intro rfl (And.intro rfl trivial)))
      · rw [if_neg q12] at hB
        refine ev_iload_n dX9_first_55 rfl ?_
        obtain rfl := Option.some.inj hB
        exact ev_iret dX9_first_56 rfl (Nat.zero_le _) (Nat.zero_le _) (fun z => absurd z (hp_sealed _)) ⟨_, rfl, rfl, rfl⟩
theorem t_X9_first {G : am_G} {N : Nat} {l0 : Nat} {l1 : Int32} {S : am_S} {out : am_T} (hl0 : isC 9 l0 = true) (hB : f_X9_first N l0 l1 S = some out) : am_Met G 8 mX9_first (t_c out) (t_s out) [.ref l0, .int l1] (hp S) (q_ti out) (q_tx out) := by
  refine am_of (by decide +kernel) rfl rfl rfl (Nat.le_of_ble_eq_true rfl) ?_
  unfold f_X9_first at hB
  refine ev_aload_n dX9_first_0 rfl ?_
  refine ev_iload_n dX9_first_1 rfl ?_
  rcases bt_of hB with ⟨r1, S2, e3, hB⟩ | ⟨x4, S2, e3, rfl⟩
  rotate_left
  · exact es_callVx (As := [.int l1]) (t_X9_needPerson hl0 e3) nq_v dX9_first_2 oX9_needPerson w_1146 rfl hl0 rfl rfl (Nat.le_of_ble_eq_true rfl) rfl (am_fit.of (by decide)) rfl
  refine es_callVtv (As := [.int l1]) (t_X9_needPerson hl0 e3) dX9_first_2 oX9_needPerson w_1146 rfl hl0 rfl rfl (Nat.le_of_ble_eq_true rfl) rfl (am_fit.of (by decide)) ⟨Nat.zero_le _, Nat.zero_le _⟩ ?_
  refine ev_aload_n dX9_first_5 rfl ?_
  refine es_getr k_9 8 dX9_first_6 (by decide) rfl (Or.inl w_586) hl0 rfl ?_
  refine ev_aload_n dX9_first_9 rfl ?_
  refine es_getr k_9 7 dX9_first_10 (by decide) rfl (Or.inl w_585) hl0 rfl ?_
  obtain ⟨S6, e7, hB⟩ := bv_of hB
  refine es_callVv (As := [.ref (rf l0 7)]) (t_X7_copyFrom (tr_9_8 hl0) (tr_9_7 hl0) e7) dX9_first_13 oX7_copyFrom w_803 rfl (tr_9_8 hl0) rfl rfl (Nat.le_of_ble_eq_true rfl) rfl (am_fit.of (by decide)) ⟨Nat.zero_le _, Nat.zero_le _⟩ ?_
  refine ev_iconst 1 dX9_first_16 (by decide) ?_
  refine ev_istore_n dX9_first_17 (by decide) rfl ?_
  exact ev_ls (u_X9_first_18 N l0 l1 1 S6 hl0 hB) (And.intro rfl (And.intro rfl (And.intro rfl trivial)))
def b_X9_full_26 (N : Nat) : Nat → Nat → Int32 → Int32 → Int32 → am_S → Option (am_T)
  | 0, _, _, _, _, _ => none
  | n + 1, l0, l1, l2, l3, S => (if 40 < l3 then some (.inl (-1), S) else (bd (f_X7_heldIn N (rf l0 8) l1 S) (fun r2 S3 => (if r2 < l2 then (if isC 1 (rg S3 0) = true then (bd (f_X1_passDay N (rg S3 0) (rf l0 8) S3) (fun r7 S8 => b_X9_full_26 N n l0 l1 l2 (l3 + 1) S8)) else none) else some (.inl l3, S3)))))
def f_X9_full (N : Nat) (l0 : Nat) (l1 : Int32) (l2 : Int32) (S : am_S) : Option (am_T) := (bt (f_X9_needBox N l0 l1 S) (fun r1 S2 => (bt (f_X9_needRange N l2 1 792 S2) (fun r5 S6 => (bv (f_X7_copyFrom N (rf l0 8) (rf l0 7) S6) (fun S10 => b_X9_full_26 N N l0 l1 l2 0 S10))))))
theorem u_X9_full_26 {G : am_G} {N : Nat} {h0 : am_H} {out : am_T} : ∀ (n : Nat) (l0 : Nat) (l1 : Int32) (l2 : Int32) (l3 : Int32) (S : am_S), isC 9 l0 = true → b_X9_full_26 N n l0 l1 l2 l3 S = some out → Ev G (am_R 8 (t_c out) (t_s out)) (am_Φ G h0 (t_c out) (t_s out) (q_ti out) (q_tx out)) mX9_full 0 0 26 [some (.ref l0), some (.int l1), some (.int l2), some (.int l3)] [] (hp S) := by
  intro n
  induction n with
  | zero =>
    intro l0 l1 l2 l3 S hl0 hB
    exact absurd (show none = some out from hB) (fun q => by cases q)
  | succ n ih =>
    intro l0 l1 l2 l3 S hl0 hB
    unfold b_X9_full_26 at hB
    refine ev_iload_n dX9_full_26 rfl ?_
    refine ev_bipush 40 dX9_full_27 (by decide) ?_
    refine ev_icmpgt 64 dX9_full_29 (by decide) (fun q1 => ?_) (fun q1 => ?_)
    · rw [if_pos q1] at hB
      refine ev_iconst (-1) dX9_full_64 (by decide) ?_
      obtain rfl := Option.some.inj hB
      exact ev_iret dX9_full_65 rfl (Nat.zero_le _) (Nat.zero_le _) (fun z => absurd z (hp_sealed _)) ⟨_, rfl, rfl, rfl⟩
    · rw [if_neg q1] at hB
      refine ev_aload_n dX9_full_32 rfl ?_
      refine es_getr k_9 8 dX9_full_33 (by decide) rfl (Or.inl w_586) hl0 rfl ?_
      refine ev_iload_n dX9_full_36 rfl ?_
      obtain ⟨r2, S3, e4, hB⟩ := bd_of hB
      refine es_callVi (As := [.int l1]) (t_X7_heldIn (tr_9_8 hl0) e4) dX9_full_37 oX7_heldIn w_1130 rfl (tr_9_8 hl0) rfl rfl (Nat.le_of_ble_eq_true rfl) rfl (am_fit.of (by decide)) ⟨Nat.zero_le _, Nat.zero_le _⟩ ?_
      refine ev_iload_n dX9_full_40 rfl ?_
      refine ev_icmplt 46 dX9_full_41 (by decide) (fun q5 => ?_) (fun q5 => ?_)
      · rw [if_pos q5] at hB
        refine ev_aload_n dX9_full_46 rfl ?_
        refine es_getd 0 k_9 5 dX9_full_47 (by decide) rfl (Or.inl w_583) hl0 rfl ?_
        obtain ⟨c6, hB⟩ := ck_of hB
        refine ev_aload_n dX9_full_50 rfl ?_
        refine es_getr k_9 8 dX9_full_51 (by decide) rfl (Or.inl w_586) hl0 rfl ?_
        obtain ⟨r7, S8, e9, hB⟩ := bd_of hB
        refine es_callVi (As := [.ref (rf l0 8)]) (t_X1_passDay c6 (tr_9_8 hl0) e9) dX9_full_54 oX1_passDay w_662 rfl c6 rfl rfl (Nat.le_of_ble_eq_true rfl) rfl (am_fit.of (by decide)) ⟨Nat.zero_le _, Nat.zero_le _⟩ ?_
        refine ev_pop dX9_full_57 rfl ?_
        refine es_iinc 1 dX9_full_58 rfl (by decide) (by decide) rfl ?_
        refine ev_goto 26 dX9_full_61 (by decide) ?_
        exact ev_ls (ih l0 l1 l2 (l3 + 1) S8 hl0 hB) (And.intro rfl (And.intro rfl (And.intro rfl (And.intro rfl trivial))))
      · rw [if_neg q5] at hB
        refine ev_iload_n dX9_full_44 rfl ?_
        obtain rfl := Option.some.inj hB
        exact ev_iret dX9_full_45 rfl (Nat.zero_le _) (Nat.zero_le _) (fun z => absurd z (hp_sealed _)) ⟨_, rfl, rfl, rfl⟩
theorem t_X9_full {G : am_G} {N : Nat} {l0 : Nat} {l1 : Int32} {l2 : Int32} {S : am_S} {out : am_T} (hl0 : isC 9 l0 = true) (hB : f_X9_full N l0 l1 l2 S = some out) : am_Met G 8 mX9_full (t_c out) (t_s out) [.ref l0, .int l1, .int l2] (hp S) (q_ti out) (q_tx out) := by
  refine am_of (by decide +kernel) rfl rfl rfl (Nat.le_of_ble_eq_true rfl) ?_
  unfold f_X9_full at hB
  refine ev_aload_n dX9_full_0 rfl ?_
  refine ev_iload_n dX9_full_1 rfl ?_
  rcases bt_of hB with ⟨r1, S2, e3, hB⟩ | ⟨x4, S2, e3, rfl⟩
  rotate_left
  · exact es_callVx (As := [.int l1]) (t_X9_needBox hl0 e3) nq_v dX9_full_2 oX9_needBox w_1124 rfl hl0 rfl rfl (Nat.le_of_ble_eq_true rfl) rfl (am_fit.of (by decide)) rfl
  refine es_callVtv (As := [.int l1]) (t_X9_needBox hl0 e3) dX9_full_2 oX9_needBox w_1124 rfl hl0 rfl rfl (Nat.le_of_ble_eq_true rfl) rfl (am_fit.of (by decide)) ⟨Nat.zero_le _, Nat.zero_le _⟩ ?_
  refine ev_iload_n dX9_full_5 rfl ?_
  refine ev_iconst 1 dX9_full_6 (by decide) ?_
  refine ev_sipush 792 dX9_full_7 (by decide) ?_
  rcases bt_of hB with ⟨r5, S6, e7, hB⟩ | ⟨x8, S6, e7, rfl⟩
  rotate_left
  · exact es_callSx (As := [.int l2, .int 1, .int 792]) (t_X9_needRange e7) nq_v dX9_full_10 oX9_needRange w_1211 rfl (Nat.le_of_ble_eq_true rfl) rfl (am_fit.of (by decide)) rfl
  refine es_callStv (As := [.int l2, .int 1, .int 792]) (t_X9_needRange e7) dX9_full_10 oX9_needRange w_1211 rfl (Nat.le_of_ble_eq_true rfl) rfl (am_fit.of (by decide)) ⟨Nat.zero_le _, Nat.zero_le _⟩ ?_
  refine ev_aload_n dX9_full_13 rfl ?_
  refine es_getr k_9 8 dX9_full_14 (by decide) rfl (Or.inl w_586) hl0 rfl ?_
  refine ev_aload_n dX9_full_17 rfl ?_
  refine es_getr k_9 7 dX9_full_18 (by decide) rfl (Or.inl w_585) hl0 rfl ?_
  obtain ⟨S10, e11, hB⟩ := bv_of hB
  refine es_callVv (As := [.ref (rf l0 7)]) (t_X7_copyFrom (tr_9_8 hl0) (tr_9_7 hl0) e11) dX9_full_21 oX7_copyFrom w_803 rfl (tr_9_8 hl0) rfl rfl (Nat.le_of_ble_eq_true rfl) rfl (am_fit.of (by decide)) ⟨Nat.zero_le _, Nat.zero_le _⟩ ?_
  refine ev_iconst 0 dX9_full_24 (by decide) ?_
  refine ev_istore_n dX9_full_25 (by decide) rfl ?_
  exact ev_ls (u_X9_full_26 N l0 l1 l2 0 S10 hl0 hB) (And.intro rfl (And.intro rfl (And.intro rfl (And.intro rfl trivial))))
def f_X9_most (N : Nat) (l0 : Nat) (l1 : Int32) (l2 : Int32) (S : am_S) : Option (am_T) := (bt (f_X9_needWhat N l2 4 S) (fun r1 S2 => (bt (f_X9_needRange N l1 0 40 S2) (fun r5 S6 => (bd (f_X9_lookAhead N l0 l1 S6) (fun r9 S10 => (if l2 = 0 then (if isC 1 (rg S10 0) = true then (bd (f_X1_fullestBox N (rg S10 0) (rf l0 8) S10) (fun r13 S14 => some (.inl r13, S14))) else none) else (if l2 = 1 then (if isC 1 (rg S10 0) = true then (bd (f_X1_loudestPerson N (rg S10 0) (rf l0 8) S10) (fun r18 S19 => some (.inl r18, S19))) else none) else (if l2 = 2 then some (.inl r9, S10) else (if l2 = 3 then (if isC 1 (rg S10 0) = true then (bd (f_X1_saddestPerson N (rg S10 0) (rf l0 8) S10) (fun r24 S25 => some (.inl r24, S25))) else none) else (if isC 1 (rg S10 0) = true then (bd (f_X1_emptyBits N (rg S10 0) (rf l0 8) S10) (fun r29 S30 => some (.inl r29, S30))) else none)))))))))))
theorem t_X9_most {G : am_G} {N : Nat} {l0 : Nat} {l1 : Int32} {l2 : Int32} {S : am_S} {out : am_T} (hl0 : isC 9 l0 = true) (hB : f_X9_most N l0 l1 l2 S = some out) : am_Met G 8 mX9_most (t_c out) (t_s out) [.ref l0, .int l1, .int l2] (hp S) (q_ti out) (q_tx out) := by
  refine am_of (by decide +kernel) rfl rfl rfl (Nat.le_of_ble_eq_true rfl) ?_
  unfold f_X9_most at hB
  refine ev_iload_n dX9_most_0 rfl ?_
  refine ev_iconst 4 dX9_most_1 (by decide) ?_
  rcases bt_of hB with ⟨r1, S2, e3, hB⟩ | ⟨x4, S2, e3, rfl⟩
  rotate_left
  · exact es_callSx (As := [.int l2, .int 4]) (t_X9_needWhat e3) nq_v dX9_most_2 oX9_needWhat w_1208 rfl (Nat.le_of_ble_eq_true rfl) rfl (am_fit.of (by decide)) rfl
  refine es_callStv (As := [.int l2, .int 4]) (t_X9_needWhat e3) dX9_most_2 oX9_needWhat w_1208 rfl (Nat.le_of_ble_eq_true rfl) rfl (am_fit.of (by decide)) ⟨Nat.zero_le _, Nat.zero_le _⟩ ?_
  refine ev_iload_n dX9_most_5 rfl ?_
  refine ev_iconst 0 dX9_most_6 (by decide) ?_
  refine ev_bipush 40 dX9_most_7 (by decide) ?_
  rcases bt_of hB with ⟨r5, S6, e7, hB⟩ | ⟨x8, S6, e7, rfl⟩
  rotate_left
  · exact es_callSx (As := [.int l1, .int 0, .int 40]) (t_X9_needRange e7) nq_v dX9_most_9 oX9_needRange w_1211 rfl (Nat.le_of_ble_eq_true rfl) rfl (am_fit.of (by decide)) rfl
  refine es_callStv (As := [.int l1, .int 0, .int 40]) (t_X9_needRange e7) dX9_most_9 oX9_needRange w_1211 rfl (Nat.le_of_ble_eq_true rfl) rfl (am_fit.of (by decide)) ⟨Nat.zero_le _, Nat.zero_le _⟩ ?_
  refine ev_aload_n dX9_most_12 rfl ?_
  refine ev_iload_n dX9_most_13 rfl ?_
  obtain ⟨r9, S10, e11, hB⟩ := bd_of hB
  refine es_callVi (As := [.int l1]) (t_X9_lookAhead hl0 e11) dX9_most_14 oX9_lookAhead w_1215 rfl hl0 rfl rfl (Nat.le_of_ble_eq_true rfl) rfl (am_fit.of (by decide)) ⟨Nat.zero_le _, Nat.zero_le _⟩ ?_
  refine ev_istore_n dX9_most_17 (by decide) rfl ?_
  refine ev_iload_n dX9_most_18 rfl ?_
  by_cases q16 : l2 = 0
  · rw [if_pos q16] at hB
    refine ev_tableIn (off := 29) 48 dX9_most_19 (by rw [q16]; decide) (by rw [q16]; decide) (by rw [q16]; rfl) (by decide) ?_
    refine ev_aload_n dX9_most_48 rfl ?_
    refine es_getd 0 k_9 5 dX9_most_49 (by decide) rfl (Or.inl w_583) hl0 rfl ?_
    obtain ⟨c12, hB⟩ := ck_of hB
    refine ev_aload_n dX9_most_52 rfl ?_
    refine es_getr k_9 8 dX9_most_53 (by decide) rfl (Or.inl w_586) hl0 rfl ?_
    obtain ⟨r13, S14, e15, hB⟩ := bd_of hB
    refine es_callVi (As := [.ref (rf l0 8)]) (t_X1_fullestBox c12 (tr_9_8 hl0) e15) dX9_most_56 oX1_fullestBox w_1247 rfl c12 rfl rfl (Nat.le_of_ble_eq_true rfl) rfl (am_fit.of (by decide)) ⟨Nat.zero_le _, Nat.zero_le _⟩ ?_
    obtain rfl := Option.some.inj hB
    exact ev_iret dX9_most_59 rfl (Nat.zero_le _) (Nat.zero_le _) (fun z => absurd z (hp_sealed _)) ⟨_, rfl, rfl, rfl⟩
  rw [if_neg q16] at hB
  have tq16 := am_nt (k := 0) q16 (by decide)
  by_cases q21 : l2 = 1
  · rw [if_pos q21] at hB
    refine ev_tableIn (off := 41) 60 dX9_most_19 (by rw [q21]; decide) (by rw [q21]; decide) (by rw [q21]; rfl) (by decide) ?_
    refine ev_aload_n dX9_most_60 rfl ?_
    refine es_getd 0 k_9 5 dX9_most_61 (by decide) rfl (Or.inl w_583) hl0 rfl ?_
    obtain ⟨c17, hB⟩ := ck_of hB
    refine ev_aload_n dX9_most_64 rfl ?_
    refine es_getr k_9 8 dX9_most_65 (by decide) rfl (Or.inl w_586) hl0 rfl ?_
    obtain ⟨r18, S19, e20, hB⟩ := bd_of hB
    refine es_callVi (As := [.ref (rf l0 8)]) (t_X1_loudestPerson c17 (tr_9_8 hl0) e20) dX9_most_68 oX1_loudestPerson w_1251 rfl c17 rfl rfl (Nat.le_of_ble_eq_true rfl) rfl (am_fit.of (by decide)) ⟨Nat.zero_le _, Nat.zero_le _⟩ ?_
    obtain rfl := Option.some.inj hB
    exact ev_iret dX9_most_71 rfl (Nat.zero_le _) (Nat.zero_le _) (fun z => absurd z (hp_sealed _)) ⟨_, rfl, rfl, rfl⟩
  rw [if_neg q21] at hB
  have tq21 := am_nt (k := 1) q21 (by decide)
  by_cases q22 : l2 = 2
  · rw [if_pos q22] at hB
    refine ev_tableIn (off := 53) 72 dX9_most_19 (by rw [q22]; decide) (by rw [q22]; decide) (by rw [q22]; rfl) (by decide) ?_
    refine ev_iload_n dX9_most_72 rfl ?_
    obtain rfl := Option.some.inj hB
    exact ev_iret dX9_most_73 rfl (Nat.zero_le _) (Nat.zero_le _) (fun z => absurd z (hp_sealed _)) ⟨_, rfl, rfl, rfl⟩
  rw [if_neg q22] at hB
  have tq22 := am_nt (k := 2) q22 (by decide)
  by_cases q27 : l2 = 3
  · rw [if_pos q27] at hB
    refine ev_tableIn (off := 55) 74 dX9_most_19 (by rw [q27]; decide) (by rw [q27]; decide) (by rw [q27]; rfl) (by decide) ?_
    refine ev_aload_n dX9_most_74 rfl ?_
    refine es_getd 0 k_9 5 dX9_most_75 (by decide) rfl (Or.inl w_583) hl0 rfl ?_
    obtain ⟨c23, hB⟩ := ck_of hB
    refine ev_aload_n dX9_most_78 rfl ?_
    refine es_getr k_9 8 dX9_most_79 (by decide) rfl (Or.inl w_586) hl0 rfl ?_
    obtain ⟨r24, S25, e26, hB⟩ := bd_of hB
    refine es_callVi (As := [.ref (rf l0 8)]) (t_X1_saddestPerson c23 (tr_9_8 hl0) e26) dX9_most_82 oX1_saddestPerson w_1255 rfl c23 rfl rfl (Nat.le_of_ble_eq_true rfl) rfl (am_fit.of (by decide)) ⟨Nat.zero_le _, Nat.zero_le _⟩ ?_
    obtain rfl := Option.some.inj hB
    exact ev_iret dX9_most_85 rfl (Nat.zero_le _) (Nat.zero_le _) (fun z => absurd z (hp_sealed _)) ⟨_, rfl, rfl, rfl⟩
  rw [if_neg q27] at hB
  have tq27 := am_nt (k := 3) q27 (by decide)
  refine ev_tableOut 86 dX9_most_19 (by omega) (by decide) ?_
  refine ev_aload_n dX9_most_86 rfl ?_
  refine es_getd 0 k_9 5 dX9_most_87 (by decide) rfl (Or.inl w_583) hl0 rfl ?_
  obtain ⟨c28, hB⟩ := ck_of hB
  refine ev_aload_n dX9_most_90 rfl ?_
  refine es_getr k_9 8 dX9_most_91 (by decide) rfl (Or.inl w_586) hl0 rfl ?_
  obtain ⟨r29, S30, e31, hB⟩ := bd_of hB
  refine es_callVi (As := [.ref (rf l0 8)]) (t_X1_emptyBits c28 (tr_9_8 hl0) e31) dX9_most_94 oX1_emptyBits w_1259 rfl c28 rfl rfl (Nat.le_of_ble_eq_true rfl) rfl (am_fit.of (by decide)) ⟨Nat.zero_le _, Nat.zero_le _⟩ ?_
  obtain rfl := Option.some.inj hB
  exact ev_iret dX9_most_97 rfl (Nat.zero_le _) (Nat.zero_le _) (fun z => absurd z (hp_sealed _)) ⟨_, rfl, rfl, rfl⟩
def b_X9_ring_32 (N : Nat) (z0 : Int32) (S : am_S) : Option (am_T) := some (.inl z0, S)
def f_X9_ring (N : Nat) (l0 : Nat) (l1 : Int32) (S : am_S) : Option (am_T) := (bt (f_X9_needPerson N l0 l1 S) (fun r1 S2 => (if isC 1 (rg S2 0) = true then (bd (f_X1_reachedBits N (rg S2 0) (rf l0 7) l1 S2) (fun r6 S7 => (if ((r6 >>> (l1 &&& (31 : Int32))) &&& 1) = 1 then b_X9_ring_32 N r6 S7 else b_X9_ring_32 N 0 S7))) else none)))
theorem u_X9_ring_32 {G : am_G} {N : Nat} {h0 : am_H} {out : am_T} (z0 : Int32) (S : am_S) (hB : b_X9_ring_32 N z0 S = some out) : Ev G (am_R 8 (t_c out) (t_s out)) (am_Φ G h0 (t_c out) (t_s out) (q_ti out) (q_tx out)) mX9_ring 0 0 32 [none, none, none] [.int z0] (hp S) := by
  unfold b_X9_ring_32 at hB
  obtain rfl := Option.some.inj hB
  exact ev_iret dX9_ring_32 rfl (Nat.zero_le _) (Nat.zero_le _) (fun z => absurd z (hp_sealed _)) ⟨_, rfl, rfl, rfl⟩
theorem t_X9_ring {G : am_G} {N : Nat} {l0 : Nat} {l1 : Int32} {S : am_S} {out : am_T} (hl0 : isC 9 l0 = true) (hB : f_X9_ring N l0 l1 S = some out) : am_Met G 8 mX9_ring (t_c out) (t_s out) [.ref l0, .int l1] (hp S) (q_ti out) (q_tx out) := by
  refine am_of (by decide +kernel) rfl rfl rfl (Nat.le_of_ble_eq_true rfl) ?_
  unfold f_X9_ring at hB
  refine ev_aload_n dX9_ring_0 rfl ?_
  refine ev_iload_n dX9_ring_1 rfl ?_
  rcases bt_of hB with ⟨r1, S2, e3, hB⟩ | ⟨x4, S2, e3, rfl⟩
  rotate_left
  · exact es_callVx (As := [.int l1]) (t_X9_needPerson hl0 e3) nq_v dX9_ring_2 oX9_needPerson w_1146 rfl hl0 rfl rfl (Nat.le_of_ble_eq_true rfl) rfl (am_fit.of (by decide)) rfl
  refine es_callVtv (As := [.int l1]) (t_X9_needPerson hl0 e3) dX9_ring_2 oX9_needPerson w_1146 rfl hl0 rfl rfl (Nat.le_of_ble_eq_true rfl) rfl (am_fit.of (by decide)) ⟨Nat.zero_le _, Nat.zero_le _⟩ ?_
  refine ev_aload_n dX9_ring_5 rfl ?_
  refine es_getd 0 k_9 5 dX9_ring_6 (by decide) rfl (Or.inl w_583) hl0 rfl ?_
  obtain ⟨c5, hB⟩ := ck_of hB
  refine ev_aload_n dX9_ring_9 rfl ?_
  refine es_getr k_9 7 dX9_ring_10 (by decide) rfl (Or.inl w_585) hl0 rfl ?_
  refine ev_iload_n dX9_ring_13 rfl ?_
  obtain ⟨r6, S7, e8, hB⟩ := bd_of hB
  refine es_callVi (As := [.ref (rf l0 7), .int l1]) (t_X1_reachedBits c5 (tr_9_7 hl0) e8) dX9_ring_14 oX1_reachedBits w_1270 rfl c5 rfl rfl (Nat.le_of_ble_eq_true rfl) rfl (am_fit.of (by decide)) ⟨Nat.zero_le _, Nat.zero_le _⟩ ?_
  refine ev_istore_n dX9_ring_17 (by decide) rfl ?_
  refine ev_iload_n dX9_ring_18 rfl ?_
  refine ev_iload_n dX9_ring_19 rfl ?_
  refine ev_ishr dX9_ring_20 ?_
  refine ev_iconst 1 dX9_ring_21 (by decide) ?_
  refine ev_iand dX9_ring_22 ?_
  refine ev_iconst 1 dX9_ring_23 (by decide) ?_
  refine ev_icmpne 31 dX9_ring_24 (by decide) (fun q9 => ?_) (fun q9 => ?_)
  · rw [if_neg q9] at hB
    refine ev_iconst 0 dX9_ring_31 (by decide) ?_
    exact ev_ls (u_X9_ring_32 0 S7 hB) trivial
  · rw [if_pos q9] at hB
    refine ev_iload_n dX9_ring_27 rfl ?_
    refine ev_goto 32 dX9_ring_28 (by decide) ?_
    exact ev_ls (u_X9_ring_32 r6 S7 hB) trivial
def f_X9_comesTo (N : Nat) (l0 : Nat) (l1 : Int32) (S : am_S) : Option (am_T) := (bt (f_X9_needPerson N l0 l1 S) (fun r1 S2 => (if isC 1 (rg S2 0) = true then (bd (f_X1_reachedBits N (rg S2 0) (rf l0 7) l1 S2) (fun r6 S7 => some (.inl r6, S7))) else none)))
theorem t_X9_comesTo {G : am_G} {N : Nat} {l0 : Nat} {l1 : Int32} {S : am_S} {out : am_T} (hl0 : isC 9 l0 = true) (hB : f_X9_comesTo N l0 l1 S = some out) : am_Met G 8 mX9_comesTo (t_c out) (t_s out) [.ref l0, .int l1] (hp S) (q_ti out) (q_tx out) := by
  refine am_of (by decide +kernel) rfl rfl rfl (Nat.le_of_ble_eq_true rfl) ?_
  unfold f_X9_comesTo at hB
  refine ev_aload_n dX9_comesTo_0 rfl ?_
  refine ev_iload_n dX9_comesTo_1 rfl ?_
  rcases bt_of hB with ⟨r1, S2, e3, hB⟩ | ⟨x4, S2, e3, rfl⟩
  rotate_left
  · exact es_callVx (As := [.int l1]) (t_X9_needPerson hl0 e3) nq_v dX9_comesTo_2 oX9_needPerson w_1146 rfl hl0 rfl rfl (Nat.le_of_ble_eq_true rfl) rfl (am_fit.of (by decide)) rfl
  refine es_callVtv (As := [.int l1]) (t_X9_needPerson hl0 e3) dX9_comesTo_2 oX9_needPerson w_1146 rfl hl0 rfl rfl (Nat.le_of_ble_eq_true rfl) rfl (am_fit.of (by decide)) ⟨Nat.zero_le _, Nat.zero_le _⟩ ?_
  refine ev_aload_n dX9_comesTo_5 rfl ?_
  refine es_getd 0 k_9 5 dX9_comesTo_6 (by decide) rfl (Or.inl w_583) hl0 rfl ?_
  obtain ⟨c5, hB⟩ := ck_of hB
  refine ev_aload_n dX9_comesTo_9 rfl ?_
  refine es_getr k_9 7 dX9_comesTo_10 (by decide) rfl (Or.inl w_585) hl0 rfl ?_
  refine ev_iload_n dX9_comesTo_13 rfl ?_
  obtain ⟨r6, S7, e8, hB⟩ := bd_of hB
  refine es_callVi (As := [.ref (rf l0 7), .int l1]) (t_X1_reachedBits c5 (tr_9_7 hl0) e8) dX9_comesTo_14 oX1_reachedBits w_1270 rfl c5 rfl rfl (Nat.le_of_ble_eq_true rfl) rfl (am_fit.of (by decide)) ⟨Nat.zero_le _, Nat.zero_le _⟩ ?_
  obtain rfl := Option.some.inj hB
  exact ev_iret dX9_comesTo_17 rfl (Nat.zero_le _) (Nat.zero_le _) (fun z => absurd z (hp_sealed _)) ⟨_, rfl, rfl, rfl⟩
def f_X9_toCover (N : Nat) (l0 : Nat) (l1 : Int32) (S : am_S) : Option (am_T) := (bt (f_X9_needRange N l1 0 30 S) (fun r1 S2 => (if isC 1 (rg S2 0) = true then (bd (f_X1_fewestCovering N (rg S2 0) l1 S2) (fun r6 S7 => some (.inl r6, S7))) else none)))
theorem t_X9_toCover {G : am_G} {N : Nat} {l0 : Nat} {l1 : Int32} {S : am_S} {out : am_T} (hl0 : isC 9 l0 = true) (hB : f_X9_toCover N l0 l1 S = some out) : am_Met G 8 mX9_toCover (t_c out) (t_s out) [.ref l0, .int l1] (hp S) (q_ti out) (q_tx out) := by
  refine am_of (by decide +kernel) rfl rfl rfl (Nat.le_of_ble_eq_true rfl) ?_
  unfold f_X9_toCover at hB
  refine ev_iload_n dX9_toCover_0 rfl ?_
  refine ev_iconst 0 dX9_toCover_1 (by decide) ?_
  refine ev_bipush 30 dX9_toCover_2 (by decide) ?_
  rcases bt_of hB with ⟨r1, S2, e3, hB⟩ | ⟨x4, S2, e3, rfl⟩
  rotate_left
  · exact es_callSx (As := [.int l1, .int 0, .int 30]) (t_X9_needRange e3) nq_v dX9_toCover_4 oX9_needRange w_1211 rfl (Nat.le_of_ble_eq_true rfl) rfl (am_fit.of (by decide)) rfl
  refine es_callStv (As := [.int l1, .int 0, .int 30]) (t_X9_needRange e3) dX9_toCover_4 oX9_needRange w_1211 rfl (Nat.le_of_ble_eq_true rfl) rfl (am_fit.of (by decide)) ⟨Nat.zero_le _, Nat.zero_le _⟩ ?_
  refine ev_aload_n dX9_toCover_7 rfl ?_
  refine es_getd 0 k_9 5 dX9_toCover_8 (by decide) rfl (Or.inl w_583) hl0 rfl ?_
  obtain ⟨c5, hB⟩ := ck_of hB
  refine ev_iload_n dX9_toCover_11 rfl ?_
  obtain ⟨r6, S7, e8, hB⟩ := bd_of hB
  refine es_callVi (As := [.int l1]) (t_X1_fewestCovering c5 e8) dX9_toCover_12 oX1_fewestCovering w_1288 rfl c5 rfl rfl (Nat.le_of_ble_eq_true rfl) rfl (am_fit.of (by decide)) ⟨Nat.zero_le _, Nat.zero_le _⟩ ?_
  obtain rfl := Option.some.inj hB
  exact ev_iret dX9_toCover_15 rfl (Nat.zero_le _) (Nat.zero_le _) (fun z => absurd z (hp_sealed _)) ⟨_, rfl, rfl, rfl⟩
def b_X9_oneMore_31 (N : Nat) (z0 : Int32) (S : am_S) : Option (am_T) := some (.inl z0, S)
def f_X9_oneMore (N : Nat) (l0 : Nat) (l1 : Int32) (S : am_S) : Option (am_T) := (bt (f_X9_needWhat N l1 1 S) (fun r1 S2 => (if isC 1 (rg S2 0) = true then (bd (f_X1_bestPlace N (rg S2 0) 1 S2) (fun r6 S7 => (if l1 = 0 then b_X9_oneMore_31 N r6 S7 else (if isC 1 (rg S7 0) = true then (bd (f_X1_waysWith N (rg S7 0) r6 1 S7) (fun r11 S12 => b_X9_oneMore_31 N r11 S12)) else none)))) else none)))
theorem u_X9_oneMore_31 {G : am_G} {N : Nat} {h0 : am_H} {out : am_T} (z0 : Int32) (S : am_S) (hB : b_X9_oneMore_31 N z0 S = some out) : Ev G (am_R 8 (t_c out) (t_s out)) (am_Φ G h0 (t_c out) (t_s out) (q_ti out) (q_tx out)) mX9_oneMore 0 0 31 [none, none, none] [.int z0] (hp S) := by
  unfold b_X9_oneMore_31 at hB
  obtain rfl := Option.some.inj hB
  exact ev_iret dX9_oneMore_31 rfl (Nat.zero_le _) (Nat.zero_le _) (fun z => absurd z (hp_sealed _)) ⟨_, rfl, rfl, rfl⟩
theorem t_X9_oneMore {G : am_G} {N : Nat} {l0 : Nat} {l1 : Int32} {S : am_S} {out : am_T} (hl0 : isC 9 l0 = true) (hB : f_X9_oneMore N l0 l1 S = some out) : am_Met G 8 mX9_oneMore (t_c out) (t_s out) [.ref l0, .int l1] (hp S) (q_ti out) (q_tx out) := by
  refine am_of (by decide +kernel) rfl rfl rfl (Nat.le_of_ble_eq_true rfl) ?_
  unfold f_X9_oneMore at hB
  refine ev_iload_n dX9_oneMore_0 rfl ?_
  refine ev_iconst 1 dX9_oneMore_1 (by decide) ?_
  rcases bt_of hB with ⟨r1, S2, e3, hB⟩ | ⟨x4, S2, e3, rfl⟩
  rotate_left
  · exact es_callSx (As := [.int l1, .int 1]) (t_X9_needWhat e3) nq_v dX9_oneMore_2 oX9_needWhat w_1208 rfl (Nat.le_of_ble_eq_true rfl) rfl (am_fit.of (by decide)) rfl
  refine es_callStv (As := [.int l1, .int 1]) (t_X9_needWhat e3) dX9_oneMore_2 oX9_needWhat w_1208 rfl (Nat.le_of_ble_eq_true rfl) rfl (am_fit.of (by decide)) ⟨Nat.zero_le _, Nat.zero_le _⟩ ?_
  refine ev_aload_n dX9_oneMore_5 rfl ?_
  refine es_getd 0 k_9 5 dX9_oneMore_6 (by decide) rfl (Or.inl w_583) hl0 rfl ?_
  obtain ⟨c5, hB⟩ := ck_of hB
  refine ev_iconst 1 dX9_oneMore_9 (by decide) ?_
  obtain ⟨r6, S7, e8, hB⟩ := bd_of hB
  refine es_callVi (As := [.int 1]) (t_X1_bestPlace c5 e8) dX9_oneMore_10 oX1_bestPlace w_790 rfl c5 rfl rfl (Nat.le_of_ble_eq_true rfl) rfl (am_fit.of (by decide)) ⟨Nat.zero_le _, Nat.zero_le _⟩ ?_
  refine ev_istore_n dX9_oneMore_13 (by decide) rfl ?_
  refine ev_iload_n dX9_oneMore_14 rfl ?_
  refine ev_ifne 22 dX9_oneMore_15 (by decide) (fun q9 => ?_) (fun q9 => ?_)
  · rw [if_neg q9] at hB
    refine ev_aload_n dX9_oneMore_22 rfl ?_
    refine es_getd 0 k_9 5 dX9_oneMore_23 (by decide) rfl (Or.inl w_583) hl0 rfl ?_
    obtain ⟨c10, hB⟩ := ck_of hB
    refine ev_iload_n dX9_oneMore_26 rfl ?_
    refine ev_iconst 1 dX9_oneMore_27 (by decide) ?_
    obtain ⟨r11, S12, e13, hB⟩ := bd_of hB
    refine es_callVi (As := [.int r6, .int 1]) (t_X1_waysWith c10 e13) dX9_oneMore_28 oX1_waysWith w_1313 rfl c10 rfl rfl (Nat.le_of_ble_eq_true rfl) rfl (am_fit.of (by decide)) ⟨Nat.zero_le _, Nat.zero_le _⟩ ?_
    exact ev_ls (u_X9_oneMore_31 r11 S12 hB) trivial
  · rw [if_pos q9] at hB
    refine ev_iload_n dX9_oneMore_18 rfl ?_
    refine ev_goto 31 dX9_oneMore_19 (by decide) ?_
    exact ev_ls (u_X9_oneMore_31 r6 S7 hB) trivial
def b_X4_weighRow_28 (N : Nat)  (S : am_S) : Option (am_S) := some S
def f_X4_weighRow (N : Nat) (l0 : Nat) (l1 : Int32) (S : am_S) : Option (am_S) := (if l1 ≤ (sg S l0 3) then b_X4_weighRow_28 N S else (if cpk 0 0 6 (ln (rf l0 1)) (ln (rf l0 2)) = true then b_X4_weighRow_28 N (scp (sp S l0 3 l1) (rf l0 1) (Int32.toNatClampNeg 0) (rf l0 2) (Int32.toNatClampNeg 0) (Int32.toNatClampNeg 6)) else none))
theorem u_X4_weighRow_28 {G : am_G} {N : Nat} {h0 : am_H} {out : am_S}  (S : am_S) (hB : b_X4_weighRow_28 N  S = some out) : Ev G (am_R 1 0 0) (am_Φ G h0 0 0 (q_v out) q_n) mX4_weighRow 0 0 28 [none, none] [] (hp S) := by
  unfold b_X4_weighRow_28 at hB
  obtain rfl := Option.some.inj hB
  exact ev_vret dX4_weighRow_28 rfl (Nat.zero_le _) (Nat.zero_le _) (fun z => absurd z (hp_sealed _)) ⟨rfl, rfl⟩
theorem t_X4_weighRow {G : am_G} {N : Nat} {l0 : Nat} {l1 : Int32} {S : am_S} {out : am_S} (hl0 : isC 4 l0 = true) (hB : f_X4_weighRow N l0 l1 S = some out) : am_Met G 1 mX4_weighRow 0 0 [.ref l0, .int l1] (hp S) (q_v out) q_n := by
  refine am_of (by decide +kernel) rfl rfl rfl (Nat.le_of_ble_eq_true rfl) ?_
  unfold f_X4_weighRow at hB
  refine ev_iload_n dX4_weighRow_0 rfl ?_
  refine ev_aload_n dX4_weighRow_1 rfl ?_
  refine es_geti k_4 3 dX4_weighRow_2 (by decide) rfl (Or.inl w_565) hl0 rfl ?_
  refine ev_icmple 28 dX4_weighRow_5 (by decide) (fun q1 => ?_) (fun q1 => ?_)
  · rw [if_pos q1] at hB
    exact ev_ls (u_X4_weighRow_28 S hB) trivial
  · rw [if_neg q1] at hB
    refine ev_aload_n dX4_weighRow_8 rfl ?_
    refine ev_iload_n dX4_weighRow_9 rfl ?_
    refine es_puti k_4 3 dX4_weighRow_10 (by decide) rfl (Or.inl w_565) rfl rfl hl0 rfl ?_
    refine ev_aload_n dX4_weighRow_13 rfl ?_
    refine es_getr k_4 1 dX4_weighRow_14 (by decide) rfl (Or.inl w_563) hl0 rfl ?_
    refine ev_iconst 0 dX4_weighRow_17 (by decide) ?_
    refine ev_aload_n dX4_weighRow_18 rfl ?_
    refine es_getr k_4 2 dX4_weighRow_19 (by decide) rfl (Or.inl w_564) hl0 rfl ?_
    refine ev_iconst 0 dX4_weighRow_22 (by decide) ?_
    refine ev_bipush 6 dX4_weighRow_23 (by decide) ?_
    obtain ⟨c2, hB⟩ := ck_of hB
    refine es_copy dX4_weighRow_25 w_1339 j_nat j_sta j_ini (tr_4_1 hl0) (tr_4_2 hl0) c2 (Nat.le_of_ble_eq_true rfl) (am_fit.of (by decide)) ?_
    exact ev_ls (u_X4_weighRow_28 (scp (sp S l0 3 l1) (rf l0 1) (Int32.toNatClampNeg 0) (rf l0 2) (Int32.toNatClampNeg 0) (Int32.toNatClampNeg 6)) hB) trivial
def b_X4_tryRows_14 (N : Nat) (fr : Nat → Nat → Int32 → Int32 → am_S → Option (am_S)) (l0 : Nat) (l2 : Int32) (S : am_S) : Option (am_S) := (if inb l2 (ln (rf l0 0)) = true then (bd (f_X7_heardByAll N (62 + 2 * Int32.toNatClampNeg l2) S) (fun r2 S3 => (bv (f_X4_weighRow N l0 r2 S3) (fun S6 => some S6)))) else none)
def b_X4_tryRows_110 (N : Nat) (fr : Nat → Nat → Int32 → Int32 → am_S → Option (am_S)) (k41 : Nat → Nat → Int32 → Int32 → Nat → Int32 → am_S → Option (am_S)) (l0 : Nat) (l1 : Nat) (l2 : Int32) (l3 : Int32) (l4 : Nat) (l5 : Int32) (S : am_S) : Option (am_S) := k41 l0 l1 l2 l3 l4 (l5 + 1) S
def b_X4_tryRows_41 (N : Nat) (fr : Nat → Nat → Int32 → Int32 → am_S → Option (am_S)) : Nat → Nat → Nat → Int32 → Int32 → Nat → Int32 → am_S → Option (am_S)
  | 0, _, _, _, _, _, _, _ => none
  | n + 1, l0, l1, l2, l3, l4, l5, S => (if (sg S l1 0) ≤ l5 then some S else (if ((l3 >>> (l5 &&& (31 : Int32))) &&& 1) = 0 then (if inb l2 (ln (rf l0 1)) = true then (if inb l2 (ln (rf l0 0)) = true then (bv (f_X7_copyFrom N l4 (62 + 2 * Int32.toNatClampNeg l2) (sp S (rf l0 1) (Int32.toNatClampNeg l2) l5)) (fun S6 => (bd (f_X7_dayNow N l4 S6) (fun r8 S9 => (bd (f_X1_wetOn N l1 r8 S9) (fun r11 S12 => (bd (f_X1_passDayWith N l1 l4 r11 l5 S12) (fun r14 S15 => (bv (fr l0 l1 (l2 + 1) (l3 ||| ((1 : Int32) <<< (l5 &&& (31 : Int32)))) S15) (fun S18 => b_X4_tryRows_110 N fr (b_X4_tryRows_41 N fr n) l0 l1 l2 l3 l4 l5 S18)))))))))) else none) else none) else b_X4_tryRows_110 N fr (b_X4_tryRows_41 N fr n) l0 l1 l2 l3 l4 l5 S))
def f_X4_tryRows (N : Nat) : Nat → Nat → Nat → Int32 → Int32 → am_S → Option (am_S)
  | 0, _, _, _, _, _ => none
  | r + 1, l0, l1, l2, l3, S => (if (sg S l1 0) ≤ l2 then b_X4_tryRows_14 N (f_X4_tryRows N r) l0 l2 S else (if l2 < 6 then (if inb (l2 + 1) (ln (rf l0 0)) = true then b_X4_tryRows_41 N (f_X4_tryRows N r) N l0 l1 l2 l3 (62 + 2 * Int32.toNatClampNeg (l2 + 1)) 0 S else none) else b_X4_tryRows_14 N (f_X4_tryRows N r) l0 l2 S))
theorem u_X4_tryRows_14 {G : am_G} {N : Nat} {h0 : am_H} {out : am_S} {fr : Nat → Nat → Int32 → Int32 → am_S → Option (am_S)} {r : Nat} (hfr : ∀ (l0 : Nat) (l1 : Nat) (l2 : Int32) (l3 : Int32) (S : am_S) (out : am_S), isC 4 l0 = true → isC 1 l1 = true → fr l0 l1 l2 l3 S = some out → am_Met G (5 + r) mX4_tryRows 0 0 [.ref l0, .ref l1, .int l2, .int l3] (hp S) (q_v out) q_n) (l0 : Nat) (l2 : Int32) (S : am_S) (hl0 : isC 4 l0 = true) (hB : b_X4_tryRows_14 N fr l0 l2 S = some out) : Ev G (am_R (5 + (r + 1)) 0 0) (am_Φ G h0 0 0 (q_v out) q_n) mX4_tryRows 0 0 14 [some (.ref l0), none, some (.int l2), none, none, none] [] (hp S) := by
  unfold b_X4_tryRows_14 at hB
  refine ev_aload_n dX4_tryRows_14 rfl ?_
  refine ev_aload_n dX4_tryRows_15 rfl ?_
  refine es_getr k_4 0 dX4_tryRows_16 (by decide) rfl (Or.inl w_562) hl0 rfl ?_
  refine ev_iload_n dX4_tryRows_19 rfl ?_
  obtain ⟨c1, hB⟩ := ck_of hB
  refine es_aald dX4_tryRows_20 (tr_4_0 hl0) c1 ?_
  obtain ⟨r2, S3, e4, hB⟩ := bd_of hB
  refine es_callVi (As := []) (t_X7_heardByAll (aa_ty (tr_4_0 hl0) c1) e4) dX4_tryRows_21 oX7_heardByAll w_1334 rfl (aa_ty (tr_4_0 hl0) c1) rfl rfl (Nat.le_of_ble_eq_true rfl) rfl (am_fit.of (by omega)) ⟨Nat.zero_le _, Nat.zero_le _⟩ ?_
  obtain ⟨S6, e7, hB⟩ := bv_of hB
  refine es_callVv (As := [.int r2]) (t_X4_weighRow hl0 e7) dX4_tryRows_24 oX4_weighRow w_1335 rfl hl0 rfl rfl (Nat.le_of_ble_eq_true rfl) rfl (am_fit.of (by omega)) ⟨Nat.zero_le _, Nat.zero_le _⟩ ?_
  obtain rfl := Option.some.inj hB
  exact ev_vret dX4_tryRows_27 rfl (Nat.zero_le _) (Nat.zero_le _) (fun z => absurd z (hp_sealed _)) ⟨rfl, rfl⟩
theorem u_X4_tryRows_110 {G : am_G} {N : Nat} {h0 : am_H} {out : am_S} {fr : Nat → Nat → Int32 → Int32 → am_S → Option (am_S)} {r : Nat} (hfr : ∀ (l0 : Nat) (l1 : Nat) (l2 : Int32) (l3 : Int32) (S : am_S) (out : am_S), isC 4 l0 = true → isC 1 l1 = true → fr l0 l1 l2 l3 S = some out → am_Met G (5 + r) mX4_tryRows 0 0 [.ref l0, .ref l1, .int l2, .int l3] (hp S) (q_v out) q_n) {k41 : Nat → Nat → Int32 → Int32 → Nat → Int32 → am_S → Option (am_S)} (hk41 : ∀ (l0 : Nat) (l1 : Nat) (l2 : Int32) (l3 : Int32) (l4 : Nat) (l5 : Int32) (S : am_S), isC 4 l0 = true → isC 1 l1 = true → isC 7 l4 = true → k41 l0 l1 l2 l3 l4 l5 S = some out → Ev G (am_R (5 + (r + 1)) 0 0) (am_Φ G h0 0 0 (q_v out) q_n) mX4_tryRows 0 0 41 [some (.ref l0), some (.ref l1), some (.int l2), some (.int l3), some (.ref l4), some (.int l5)] [] (hp S)) (l0 : Nat) (l1 : Nat) (l2 : Int32) (l3 : Int32) (l4 : Nat) (l5 : Int32) (S : am_S) (hl0 : isC 4 l0 = true) (hl1 : isC 1 l1 = true) (hl4 : isC 7 l4 = true) (hB : b_X4_tryRows_110 N fr k41 l0 l1 l2 l3 l4 l5 S = some out) : Ev G (am_R (5 + (r + 1)) 0 0) (am_Φ G h0 0 0 (q_v out) q_n) mX4_tryRows 0 0 110 [some (.ref l0), some (.ref l1), some (.int l2), some (.int l3), some (.ref l4), some (.int l5)] [] (hp S) := by
  unfold b_X4_tryRows_110 at hB
  refine es_iinc 1 dX4_tryRows_110 rfl (by decide) (by decide) rfl ?_
  refine ev_goto 41 dX4_tryRows_113 (by decide) ?_
  exact ev_ls (hk41 l0 l1 l2 l3 l4 (l5 + 1) S hl0 hl1 hl4 hB) (And.intro rfl (And.intro rfl (And.intro rfl (And.intro rfl (And.intro rfl (And.intro rfl trivial))))))
theorem u_X4_tryRows_41 {G : am_G} {N : Nat} {h0 : am_H} {out : am_S} {fr : Nat → Nat → Int32 → Int32 → am_S → Option (am_S)} {r : Nat} (hfr : ∀ (l0 : Nat) (l1 : Nat) (l2 : Int32) (l3 : Int32) (S : am_S) (out : am_S), isC 4 l0 = true → isC 1 l1 = true → fr l0 l1 l2 l3 S = some out → am_Met G (5 + r) mX4_tryRows 0 0 [.ref l0, .ref l1, .int l2, .int l3] (hp S) (q_v out) q_n) : ∀ (n : Nat) (l0 : Nat) (l1 : Nat) (l2 : Int32) (l3 : Int32) (l4 : Nat) (l5 : Int32) (S : am_S), isC 4 l0 = true → isC 1 l1 = true → isC 7 l4 = true → b_X4_tryRows_41 N fr n l0 l1 l2 l3 l4 l5 S = some out → Ev G (am_R (5 + (r + 1)) 0 0) (am_Φ G h0 0 0 (q_v out) q_n) mX4_tryRows 0 0 41 [some (.ref l0), some (.ref l1), some (.int l2), some (.int l3), some (.ref l4), some (.int l5)] [] (hp S) := by
  intro n
  induction n with
  | zero =>
    intro l0 l1 l2 l3 l4 l5 S hl0 hl1 hl4 hB
    exact absurd (show none = some out from hB) (fun q => by cases q)
  | succ n ih =>
    intro l0 l1 l2 l3 l4 l5 S hl0 hl1 hl4 hB
    unfold b_X4_tryRows_41 at hB
    refine ev_iload dX4_tryRows_41 rfl ?_
    refine ev_aload_n dX4_tryRows_43 rfl ?_
    refine es_geti k_1 0 dX4_tryRows_44 (by decide) rfl (Or.inr ⟨_, n_135⟩) hl1 rfl ?_
    refine ev_icmpge 116 dX4_tryRows_47 (by decide) (fun q1 => ?_) (fun q1 => ?_)
    · rw [if_pos q1] at hB
      obtain rfl := Option.some.inj hB
      exact ev_vret dX4_tryRows_116 rfl (Nat.zero_le _) (Nat.zero_le _) (fun z => absurd z (hp_sealed _)) ⟨rfl, rfl⟩
    · rw [if_neg q1] at hB
      refine ev_iload_n dX4_tryRows_50 rfl ?_
      refine ev_iload dX4_tryRows_51 rfl ?_
      refine ev_ishr dX4_tryRows_53 ?_
      refine ev_iconst 1 dX4_tryRows_54 (by decide) ?_
      refine ev_iand dX4_tryRows_55 ?_
      refine ev_ifne 110 dX4_tryRows_56 (by decide) (fun q2 => ?_) (fun q2 => ?_)
      · rw [if_neg q2] at hB
        exact ev_ls (u_X4_tryRows_110 hfr ih l0 l1 l2 l3 l4 l5 S hl0 hl1 hl4 hB) (And.intro rfl (And.intro rfl (And.intro rfl (And.intro rfl (And.intro rfl (And.intro rfl trivial))))))
      · rw [if_pos q2] at hB
        refine ev_aload_n dX4_tryRows_59 rfl ?_
        refine es_getr k_4 1 dX4_tryRows_60 (by decide) rfl (Or.inl w_563) hl0 rfl ?_
        refine ev_iload_n dX4_tryRows_63 rfl ?_
        refine ev_iload dX4_tryRows_64 rfl ?_
        obtain ⟨c3, hB⟩ := ck_of hB
        refine es_iast dX4_tryRows_66 (tr_4_1 hl0) c3 ?_
        refine ev_aload dX4_tryRows_67 rfl ?_
        refine ev_aload_n dX4_tryRows_69 rfl ?_
        refine es_getr k_4 0 dX4_tryRows_70 (by decide) rfl (Or.inl w_562) hl0 rfl ?_
        refine ev_iload_n dX4_tryRows_73 rfl ?_
        obtain ⟨c4, hB⟩ := ck_of hB
        refine es_aald dX4_tryRows_74 (tr_4_0 hl0) c4 ?_
        obtain ⟨S6, e7, hB⟩ := bv_of hB
        refine es_callVv (As := [.ref (62 + 2 * Int32.toNatClampNeg l2)]) (t_X7_copyFrom hl4 (aa_ty (tr_4_0 hl0) c4) e7) dX4_tryRows_75 oX7_copyFrom w_1329 rfl hl4 rfl rfl (Nat.le_of_ble_eq_true rfl) rfl (am_fit.of (by omega)) ⟨Nat.zero_le _, Nat.zero_le _⟩ ?_
        refine ev_aload_n dX4_tryRows_78 rfl ?_
        refine ev_aload dX4_tryRows_79 rfl ?_
        refine ev_aload_n dX4_tryRows_81 rfl ?_
        refine ev_aload dX4_tryRows_82 rfl ?_
        obtain ⟨r8, S9, e10, hB⟩ := bd_of hB
        refine es_callVi (As := []) (t_X7_dayNow hl4 e10) dX4_tryRows_84 oX7_dayNow w_1340 rfl hl4 rfl rfl (Nat.le_of_ble_eq_true rfl) rfl (am_fit.of (by omega)) ⟨Nat.zero_le _, Nat.zero_le _⟩ ?_
        obtain ⟨r11, S12, e13, hB⟩ := bd_of hB
        refine es_callVi (As := [.int r8]) (t_X1_wetOn hl1 e13) dX4_tryRows_87 oX1_wetOn w_1341 rfl hl1 rfl rfl (Nat.le_of_ble_eq_true rfl) rfl (am_fit.of (by omega)) ⟨Nat.zero_le _, Nat.zero_le _⟩ ?_
        refine ev_iload dX4_tryRows_90 rfl ?_
        obtain ⟨r14, S15, e16, hB⟩ := bd_of hB
        refine es_callVi (As := [.ref l4, .int r11, .int l5]) (t_X1_passDayWith hl1 hl4 e16) dX4_tryRows_92 oX1_passDayWith w_1342 rfl hl1 rfl rfl (Nat.le_of_ble_eq_true rfl) rfl (am_fit.of (by omega)) ⟨Nat.zero_le _, Nat.zero_le _⟩ ?_
        refine ev_pop dX4_tryRows_95 rfl ?_
        refine ev_aload_n dX4_tryRows_96 rfl ?_
        refine ev_aload_n dX4_tryRows_97 rfl ?_
        refine ev_iload_n dX4_tryRows_98 rfl ?_
        refine ev_iconst 1 dX4_tryRows_99 (by decide) ?_
        refine ev_iadd dX4_tryRows_100 ?_
        refine ev_iload_n dX4_tryRows_101 rfl ?_
        refine ev_iconst 1 dX4_tryRows_102 (by decide) ?_
        refine ev_iload dX4_tryRows_103 rfl ?_
        refine ev_ishl dX4_tryRows_105 ?_
        refine ev_ior dX4_tryRows_106 ?_
        obtain ⟨S18, e19, hB⟩ := bv_of hB
        refine es_callVv (As := [.ref l1, .int (l2 + 1), .int (l3 ||| ((1 : Int32) <<< (l5 &&& (31 : Int32))))]) (hfr l0 l1 (l2 + 1) (l3 ||| ((1 : Int32) <<< (l5 &&& (31 : Int32)))) S15 S18 hl0 hl1 e19) dX4_tryRows_107 oX4_tryRows w_1330 rfl hl0 rfl rfl (Nat.le_of_ble_eq_true rfl) rfl (am_fit.of (by omega)) ⟨Nat.zero_le _, Nat.zero_le _⟩ ?_
        exact ev_ls (u_X4_tryRows_110 hfr ih l0 l1 l2 l3 l4 l5 S18 hl0 hl1 hl4 hB) (And.intro rfl (And.intro rfl (And.intro rfl (And.intro rfl (And.intro rfl (And.intro rfl trivial))))))
theorem w_X4_tryRows {G : am_G} {N : Nat} : ∀ (r : Nat) (l0 : Nat) (l1 : Nat) (l2 : Int32) (l3 : Int32) (S : am_S) (out : am_S), isC 4 l0 = true → isC 1 l1 = true → f_X4_tryRows N r l0 l1 l2 l3 S = some out → am_Met G (5 + r) mX4_tryRows 0 0 [.ref l0, .ref l1, .int l2, .int l3] (hp S) (q_v out) q_n := by
  intro r
  induction r with
  | zero =>
    intro l0 l1 l2 l3 S out hl0 hl1 hB
    exact absurd (show none = some out from hB) (fun q => by cases q)
  | succ r hfr =>
    intro l0 l1 l2 l3 S out hl0 hl1 hB
    unfold f_X4_tryRows at hB
    refine am_of (by decide +kernel) rfl rfl rfl (Nat.le_of_ble_eq_true rfl) ?_
    refine ev_iload_n dX4_tryRows_0 rfl ?_
    refine ev_aload_n dX4_tryRows_1 rfl ?_
    refine es_geti k_1 0 dX4_tryRows_2 (by decide) rfl (Or.inr ⟨_, n_135⟩) hl1 rfl ?_
    refine ev_icmpge 14 dX4_tryRows_5 (by decide) (fun q1 => ?_) (fun q1 => ?_)
    · rw [if_pos q1] at hB
      exact ev_ls (u_X4_tryRows_14 hfr l0 l2 S hl0 hB) (And.intro rfl (And.intro rfl trivial))
    · rw [if_neg q1] at hB
      refine ev_iload_n dX4_tryRows_8 rfl ?_
      refine ev_bipush 6 dX4_tryRows_9 (by decide) ?_
      refine ev_icmplt 28 dX4_tryRows_11 (by decide) (fun q2 => ?_) (fun q2 => ?_)
      · rw [if_pos q2] at hB
        refine ev_aload_n dX4_tryRows_28 rfl ?_
        refine es_getr k_4 0 dX4_tryRows_29 (by decide) rfl (Or.inl w_562) hl0 rfl ?_
        refine ev_iload_n dX4_tryRows_32 rfl ?_
        refine ev_iconst 1 dX4_tryRows_33 (by decide) ?_
        refine ev_iadd dX4_tryRows_34 ?_
        obtain ⟨c3, hB⟩ := ck_of hB
        refine es_aald dX4_tryRows_35 (tr_4_0 hl0) c3 ?_
        refine ev_astore dX4_tryRows_36 (by decide) rfl ?_
        refine ev_iconst 0 dX4_tryRows_38 (by decide) ?_
        refine ev_istore dX4_tryRows_39 (by decide) rfl ?_
        exact ev_ls (u_X4_tryRows_41 hfr N l0 l1 l2 l3 (62 + 2 * Int32.toNatClampNeg (l2 + 1)) 0 S hl0 hl1 (aa_ty (tr_4_0 hl0) c3) hB) (And.intro rfl (And.intro rfl (And.intro rfl (And.intro rfl (And.intro rfl (And.intro rfl trivial))))))
      · rw [if_neg q2] at hB
        exact ev_ls (u_X4_tryRows_14 hfr l0 l2 S hl0 hB) (And.intro rfl (And.intro rfl trivial))
theorem t_X4_tryRows {G : am_G} {N : Nat} (r : Nat) {l0 : Nat} {l1 : Nat} {l2 : Int32} {l3 : Int32} {S : am_S} {out : am_S} (hl0 : isC 4 l0 = true) (hl1 : isC 1 l1 = true) (hB : f_X4_tryRows N r l0 l1 l2 l3 S = some out) : am_Met G (5 + r) mX4_tryRows 0 0 [.ref l0, .ref l1, .int l2, .int l3] (hp S) (q_v out) q_n := w_X4_tryRows r l0 l1 l2 l3 S out hl0 hl1 hB
def b_X4_search_21 (N : Nat) (l0 : Nat) (l1 : Nat) (l2 : Nat) (S : am_S) : Option (am_S) := (if inb 0 (ln (rf l0 0)) = true then (bv (f_X7_copyFrom N (62 + 2 * Int32.toNatClampNeg 0) l2 S) (fun S3 => (bv (f_X4_tryRows N 8 l0 l1 0 0 (sp (sp S3 l0 3 (-1)) l0 4 1)) (fun S6 => some S6)))) else none)
def f_X4_search (N : Nat) (l0 : Nat) (l1 : Nat) (l2 : Nat) (S : am_S) : Option (am_S) := (if (sg S l0 4) = 0 then b_X4_search_21 N l0 l1 l2 S else (if inb 0 (ln (rf l0 0)) = true then (bd (f_X7_isLike N (62 + 2 * Int32.toNatClampNeg 0) l2 S) (fun r3 S4 => (if r3 = 0 then b_X4_search_21 N l0 l1 l2 S4 else some S4))) else none))
theorem u_X4_search_21 {G : am_G} {N : Nat} {h0 : am_H} {out : am_S} (l0 : Nat) (l1 : Nat) (l2 : Nat) (S : am_S) (hl0 : isC 4 l0 = true) (hl1 : isC 1 l1 = true) (hl2 : isC 7 l2 = true) (hB : b_X4_search_21 N l0 l1 l2 S = some out) : Ev G (am_R 14 0 0) (am_Φ G h0 0 0 (q_v out) q_n) mX4_search 0 0 21 [some (.ref l0), some (.ref l1), some (.ref l2)] [] (hp S) := by
  unfold b_X4_search_21 at hB
  refine ev_aload_n dX4_search_21 rfl ?_
  refine es_getr k_4 0 dX4_search_22 (by decide) rfl (Or.inl w_562) hl0 rfl ?_
  refine ev_iconst 0 dX4_search_25 (by decide) ?_
  obtain ⟨c1, hB⟩ := ck_of hB
  refine es_aald dX4_search_26 (tr_4_0 hl0) c1 ?_
  refine ev_aload_n dX4_search_27 rfl ?_
  obtain ⟨S3, e4, hB⟩ := bv_of hB
  refine es_callVv (As := [.ref l2]) (t_X7_copyFrom (aa_ty (tr_4_0 hl0) c1) hl2 e4) dX4_search_28 oX7_copyFrom w_1329 rfl (aa_ty (tr_4_0 hl0) c1) rfl rfl (Nat.le_of_ble_eq_true rfl) rfl (am_fit.of (by decide)) ⟨Nat.zero_le _, Nat.zero_le _⟩ ?_
  refine ev_aload_n dX4_search_31 rfl ?_
  refine ev_iconst (-1) dX4_search_32 (by decide) ?_
  refine es_puti k_4 3 dX4_search_33 (by decide) rfl (Or.inl w_565) rfl rfl hl0 rfl ?_
  refine ev_aload_n dX4_search_36 rfl ?_
  refine ev_iconst 1 dX4_search_37 (by decide) ?_
  refine es_putz k_4 4 dX4_search_38 (by decide) rfl (Or.inl w_566) rfl rfl (Or.inr rfl) hl0 rfl ?_
  refine ev_aload_n dX4_search_41 rfl ?_
  refine ev_aload_n dX4_search_42 rfl ?_
  refine ev_iconst 0 dX4_search_43 (by decide) ?_
  refine ev_iconst 0 dX4_search_44 (by decide) ?_
  obtain ⟨S6, e7, hB⟩ := bv_of hB
  refine es_callVv (As := [.ref l1, .int 0, .int 0]) (t_X4_tryRows 8 hl0 hl1 e7) dX4_search_45 oX4_tryRows w_1330 rfl hl0 rfl rfl (Nat.le_of_ble_eq_true rfl) rfl (am_fit.of (by decide)) ⟨Nat.zero_le _, Nat.zero_le _⟩ ?_
  obtain rfl := Option.some.inj hB
  exact ev_vret dX4_search_48 rfl (Nat.zero_le _) (Nat.zero_le _) (fun z => absurd z (hp_sealed _)) ⟨rfl, rfl⟩
theorem t_X4_search {G : am_G} {N : Nat} {l0 : Nat} {l1 : Nat} {l2 : Nat} {S : am_S} {out : am_S} (hl0 : isC 4 l0 = true) (hl1 : isC 1 l1 = true) (hl2 : isC 7 l2 = true) (hB : f_X4_search N l0 l1 l2 S = some out) : am_Met G 14 mX4_search 0 0 [.ref l0, .ref l1, .ref l2] (hp S) (q_v out) q_n := by
  refine am_of (by decide +kernel) rfl rfl rfl (Nat.le_of_ble_eq_true rfl) ?_
  unfold f_X4_search at hB
  refine ev_aload_n dX4_search_0 rfl ?_
  refine es_geti k_4 4 dX4_search_1 (by decide) rfl (Or.inl w_566) hl0 rfl ?_
  refine ev_ifeq 21 dX4_search_4 (by decide) (fun q1 => ?_) (fun q1 => ?_)
  · rw [if_pos q1] at hB
    exact ev_ls (u_X4_search_21 l0 l1 l2 S hl0 hl1 hl2 hB) (And.intro rfl (And.intro rfl (And.intro rfl trivial)))
  · rw [if_neg q1] at hB
    refine ev_aload_n dX4_search_7 rfl ?_
    refine es_getr k_4 0 dX4_search_8 (by decide) rfl (Or.inl w_562) hl0 rfl ?_
    refine ev_iconst 0 dX4_search_11 (by decide) ?_
    obtain ⟨c2, hB⟩ := ck_of hB
    refine es_aald dX4_search_12 (tr_4_0 hl0) c2 ?_
    refine ev_aload_n dX4_search_13 rfl ?_
    obtain ⟨r3, S4, e5, hB⟩ := bd_of hB
    refine es_callVi (As := [.ref l2]) (t_X7_isLike (aa_ty (tr_4_0 hl0) c2) hl2 e5) dX4_search_14 oX7_isLike w_1325 rfl (aa_ty (tr_4_0 hl0) c2) rfl rfl (Nat.le_of_ble_eq_true rfl) rfl (am_fit.of (by decide)) ⟨Nat.zero_le _, Nat.zero_le _⟩ ?_
    refine ev_ifeq 21 dX4_search_17 (by decide) (fun q6 => ?_) (fun q6 => ?_)
    · rw [if_pos q6] at hB
      exact ev_ls (u_X4_search_21 l0 l1 l2 S4 hl0 hl1 hl2 hB) (And.intro rfl (And.intro rfl (And.intro rfl trivial)))
    · rw [if_neg q6] at hB
      obtain rfl := Option.some.inj hB
      exact ev_vret dX4_search_20 rfl (Nat.zero_le _) (Nat.zero_le _) (fun z => absurd z (hp_sealed _)) ⟨rfl, rfl⟩
def f_X4_gained (N : Nat) (l0 : Nat) (S : am_S) : Option (Int32 × am_S) := (if inb 0 (ln (rf l0 0)) = true then (bd (f_X7_heardByAll N (62 + 2 * Int32.toNatClampNeg 0) S) (fun r2 S3 => some (((sg S l0 3) - r2), S3))) else none)
theorem t_X4_gained {G : am_G} {N : Nat} {l0 : Nat} {S : am_S} {out : Int32 × am_S} (hl0 : isC 4 l0 = true) (hB : f_X4_gained N l0 S = some out) : am_Met G 3 mX4_gained 0 0 [.ref l0] (hp S) (q_i out) q_n := by
  refine am_of (by decide +kernel) rfl rfl rfl (Nat.le_of_ble_eq_true rfl) ?_
  unfold f_X4_gained at hB
  refine ev_aload_n dX4_gained_0 rfl ?_
  refine es_geti k_4 3 dX4_gained_1 (by decide) rfl (Or.inl w_565) hl0 rfl ?_
  refine ev_aload_n dX4_gained_4 rfl ?_
  refine es_getr k_4 0 dX4_gained_5 (by decide) rfl (Or.inl w_562) hl0 rfl ?_
  refine ev_iconst 0 dX4_gained_8 (by decide) ?_
  obtain ⟨c1, hB⟩ := ck_of hB
  refine es_aald dX4_gained_9 (tr_4_0 hl0) c1 ?_
  obtain ⟨r2, S3, e4, hB⟩ := bd_of hB
  refine es_callVi (As := []) (t_X7_heardByAll (aa_ty (tr_4_0 hl0) c1) e4) dX4_gained_10 oX7_heardByAll w_1334 rfl (aa_ty (tr_4_0 hl0) c1) rfl rfl (Nat.le_of_ble_eq_true rfl) rfl (am_fit.of (by decide)) ⟨Nat.zero_le _, Nat.zero_le _⟩ ?_
  refine ev_isub dX4_gained_13 ?_
  obtain rfl := Option.some.inj hB
  exact ev_iret dX4_gained_14 rfl (Nat.zero_le _) (Nat.zero_le _) (fun z => absurd z (hp_sealed _)) ⟨rfl, rfl⟩
def f_X4_boxAt (N : Nat) (l0 : Nat) (l1 : Int32) (S : am_S) : Option (Int32 × am_S) := (if inb l1 (ln (rf l0 2)) = true then some ((sg S (rf l0 2) (Int32.toNatClampNeg l1)), S) else none)
theorem t_X4_boxAt {G : am_G} {N : Nat} {l0 : Nat} {l1 : Int32} {S : am_S} {out : Int32 × am_S} (hl0 : isC 4 l0 = true) (hB : f_X4_boxAt N l0 l1 S = some out) : am_Met G 1 mX4_boxAt 0 0 [.ref l0, .int l1] (hp S) (q_i out) q_n := by
  refine am_of (by decide +kernel) rfl rfl rfl (Nat.le_of_ble_eq_true rfl) ?_
  unfold f_X4_boxAt at hB
  refine ev_aload_n dX4_boxAt_0 rfl ?_
  refine es_getr k_4 2 dX4_boxAt_1 (by decide) rfl (Or.inl w_564) hl0 rfl ?_
  refine ev_iload_n dX4_boxAt_4 rfl ?_
  obtain ⟨c1, hB⟩ := ck_of hB
  refine es_iald dX4_boxAt_5 (tr_4_2 hl0) c1 ?_
  obtain rfl := Option.some.inj hB
  exact ev_iret dX4_boxAt_6 rfl (Nat.zero_le _) (Nat.zero_le _) (fun z => absurd z (hp_sealed _)) ⟨rfl, rfl⟩
def b_X9_order_63 (N : Nat) (z0 : Int32) (S : am_S) : Option (am_T) := some (.inl z0, S)
def b_X9_order_25 (N : Nat) (l0 : Nat) (l1 : Int32) (S : am_S) : Option (am_T) := (if isC 1 (rg S 0) = true then (bv (f_X4_search N (rf l0 15) (rg S 0) (rf l0 7) S) (fun S3 => (if l1 = (-1) then (bd (f_X4_gained N (rf l0 15) S3) (fun r9 S10 => b_X9_order_63 N r9 S10)) else (bd (f_X4_boxAt N (rf l0 15) l1 S3) (fun r6 S7 => b_X9_order_63 N r6 S7))))) else none)
def f_X9_order (N : Nat) (l0 : Nat) (l1 : Int32) (S : am_S) : Option (am_T) := (if l1 = (-1) then (if isC 1 (rg S 0) = true then (if (sg S (rg S 0) 0) = 0 then some (.inl (-1), S) else b_X9_order_25 N l0 l1 S) else none) else (bt (f_X9_needBox N l0 l1 S) (fun r4 S5 => b_X9_order_25 N l0 l1 S5)))
theorem u_X9_order_63 {G : am_G} {N : Nat} {h0 : am_H} {out : am_T} (z0 : Int32) (S : am_S) (hB : b_X9_order_63 N z0 S = some out) : Ev G (am_R 15 (t_c out) (t_s out)) (am_Φ G h0 (t_c out) (t_s out) (q_ti out) (q_tx out)) mX9_order 0 0 63 [none, none] [.int z0] (hp S) := by
  unfold b_X9_order_63 at hB
  obtain rfl := Option.some.inj hB
  exact ev_iret dX9_order_63 rfl (Nat.zero_le _) (Nat.zero_le _) (fun z => absurd z (hp_sealed _)) ⟨_, rfl, rfl, rfl⟩
theorem u_X9_order_25 {G : am_G} {N : Nat} {h0 : am_H} {out : am_T} (l0 : Nat) (l1 : Int32) (S : am_S) (hl0 : isC 9 l0 = true) (hB : b_X9_order_25 N l0 l1 S = some out) : Ev G (am_R 15 (t_c out) (t_s out)) (am_Φ G h0 (t_c out) (t_s out) (q_ti out) (q_tx out)) mX9_order 0 0 25 [some (.ref l0), some (.int l1)] [] (hp S) := by
  unfold b_X9_order_25 at hB
  refine ev_aload_n dX9_order_25 rfl ?_
  refine es_getr k_9 15 dX9_order_26 (by decide) rfl (Or.inl w_593) hl0 rfl ?_
  refine ev_aload_n dX9_order_29 rfl ?_
  refine es_getd 0 k_9 5 dX9_order_30 (by decide) rfl (Or.inl w_583) hl0 rfl ?_
  obtain ⟨c1, hB⟩ := ck_of hB
  refine ev_aload_n dX9_order_33 rfl ?_
  refine es_getr k_9 7 dX9_order_34 (by decide) rfl (Or.inl w_585) hl0 rfl ?_
  obtain ⟨S3, e4, hB⟩ := bv_of hB
  refine es_callVv (As := [.ref (rg S 0), .ref (rf l0 7)]) (t_X4_search (tr_9_15 hl0) c1 (tr_9_7 hl0) e4) dX9_order_37 oX4_search w_1321 rfl (tr_9_15 hl0) rfl rfl (Nat.le_of_ble_eq_true rfl) rfl (am_fit.of (by decide)) ⟨Nat.zero_le _, Nat.zero_le _⟩ ?_
  refine ev_iload_n dX9_order_40 rfl ?_
  refine ev_iconst (-1) dX9_order_41 (by decide) ?_
  refine ev_icmpne 55 dX9_order_42 (by decide) (fun q5 => ?_) (fun q5 => ?_)
  · rw [if_neg q5] at hB
    refine ev_aload_n dX9_order_55 rfl ?_
    refine es_getr k_9 15 dX9_order_56 (by decide) rfl (Or.inl w_593) hl0 rfl ?_
    refine ev_iload_n dX9_order_59 rfl ?_
    obtain ⟨r6, S7, e8, hB⟩ := bd_of hB
    refine es_callVi (As := [.int l1]) (t_X4_boxAt (tr_9_15 hl0) e8) dX9_order_60 oX4_boxAt w_1347 rfl (tr_9_15 hl0) rfl rfl (Nat.le_of_ble_eq_true rfl) rfl (am_fit.of (by decide)) ⟨Nat.zero_le _, Nat.zero_le _⟩ ?_
    exact ev_ls (u_X9_order_63 r6 S7 hB) trivial
  · rw [if_pos q5] at hB
    refine ev_aload_n dX9_order_45 rfl ?_
    refine es_getr k_9 15 dX9_order_46 (by decide) rfl (Or.inl w_593) hl0 rfl ?_
    obtain ⟨r9, S10, e11, hB⟩ := bd_of hB
    refine es_callVi (As := []) (t_X4_gained (tr_9_15 hl0) e11) dX9_order_49 oX4_gained w_1343 rfl (tr_9_15 hl0) rfl rfl (Nat.le_of_ble_eq_true rfl) rfl (am_fit.of (by decide)) ⟨Nat.zero_le _, Nat.zero_le _⟩ ?_
    refine ev_goto 63 dX9_order_52 (by decide) ?_
    exact ev_ls (u_X9_order_63 r9 S10 hB) trivial
theorem t_X9_order {G : am_G} {N : Nat} {l0 : Nat} {l1 : Int32} {S : am_S} {out : am_T} (hl0 : isC 9 l0 = true) (hB : f_X9_order N l0 l1 S = some out) : am_Met G 15 mX9_order (t_c out) (t_s out) [.ref l0, .int l1] (hp S) (q_ti out) (q_tx out) := by
  refine am_of (by decide +kernel) rfl rfl rfl (Nat.le_of_ble_eq_true rfl) ?_
  unfold f_X9_order at hB
  refine ev_iload_n dX9_order_0 rfl ?_
  refine ev_iconst (-1) dX9_order_1 (by decide) ?_
  refine ev_icmpeq 13 dX9_order_2 (by decide) (fun q1 => ?_) (fun q1 => ?_)
  · rw [if_pos q1] at hB
    refine ev_aload_n dX9_order_13 rfl ?_
    refine es_getd 0 k_9 5 dX9_order_14 (by decide) rfl (Or.inl w_583) hl0 rfl ?_
    obtain ⟨c2, hB⟩ := ck_of hB
    refine es_geti k_1 0 dX9_order_17 (by decide) rfl (Or.inr ⟨_, n_136⟩) c2 rfl ?_
    refine ev_ifne 25 dX9_order_20 (by decide) (fun q3 => ?_) (fun q3 => ?_)
    · rw [if_neg q3] at hB
      exact ev_ls (u_X9_order_25 l0 l1 S hl0 hB) (And.intro rfl (And.intro rfl trivial))
    · rw [if_pos q3] at hB
      refine ev_iconst (-1) dX9_order_23 (by decide) ?_
      obtain rfl := Option.some.inj hB
      exact ev_iret dX9_order_24 rfl (Nat.zero_le _) (Nat.zero_le _) (fun z => absurd z (hp_sealed _)) ⟨_, rfl, rfl, rfl⟩
  · rw [if_neg q1] at hB
    refine ev_aload_n dX9_order_5 rfl ?_
    refine ev_iload_n dX9_order_6 rfl ?_
    rcases bt_of hB with ⟨r4, S5, e6, hB⟩ | ⟨x7, S5, e6, rfl⟩
    rotate_left
    · exact es_callVx (As := [.int l1]) (t_X9_needBox hl0 e6) nq_v dX9_order_7 oX9_needBox w_1124 rfl hl0 rfl rfl (Nat.le_of_ble_eq_true rfl) rfl (am_fit.of (by decide)) rfl
    refine es_callVtv (As := [.int l1]) (t_X9_needBox hl0 e6) dX9_order_7 oX9_needBox w_1124 rfl hl0 rfl rfl (Nat.le_of_ble_eq_true rfl) rfl (am_fit.of (by decide)) ⟨Nat.zero_le _, Nat.zero_le _⟩ ?_
    refine ev_goto 25 dX9_order_10 (by decide) ?_
    exact ev_ls (u_X9_order_25 l0 l1 S5 hl0 hB) (And.intro rfl (And.intro rfl trivial))
def b_X9_note_38 (N : Nat) (l0 : Nat) (S : am_S) : Option (am_T) := (if inb 2 (ln (rf l0 4)) = true then (if inb 2 (ln (rf l0 4)) = true then some (.inl (-1), (sp S (rf l0 4) (Int32.toNatClampNeg 2) ((sg S (rf l0 4) (Int32.toNatClampNeg 2)) + 1))) else none) else none)
def f_X9_note (N : Nat) (l0 : Nat) (l1 : Int32) (l2 : Int32) (l3 : Int32) (S : am_S) : Option (am_T) := (bt (f_X9_needPerson N l0 l1 S) (fun r1 S2 => (if 8 ≤ (sg S2 (rf l0 10) 3) then b_X9_note_38 N l0 S2 else (if l2 < 0 then b_X9_note_38 N l0 S2 else (if 20 < l2 then b_X9_note_38 N l0 S2 else (if l3 < 0 then b_X9_note_38 N l0 S2 else (if l3 ≤ 9999 then (bv (f_X3_put N (rf l0 10) l1 l2 l3 S2) (fun S11 => some (.inl (sg S11 (rf l0 10) 3), S11))) else b_X9_note_38 N l0 S2)))))))
theorem u_X9_note_38 {G : am_G} {N : Nat} {h0 : am_H} {out : am_T} (l0 : Nat) (S : am_S) (hl0 : isC 9 l0 = true) (hB : b_X9_note_38 N l0 S = some out) : Ev G (am_R 8 (t_c out) (t_s out)) (am_Φ G h0 (t_c out) (t_s out) (q_ti out) (q_tx out)) mX9_note 0 0 38 [some (.ref l0), none, none, none] [] (hp S) := by
  unfold b_X9_note_38 at hB
  refine ev_aload_n dX9_note_38 rfl ?_
  refine es_getr k_9 4 dX9_note_39 (by decide) rfl (Or.inl w_582) hl0 rfl ?_
  refine ev_iconst 2 dX9_note_42 (by decide) ?_
  refine ev_dup2 dX9_note_43 rfl rfl ?_
  obtain ⟨c1, hB⟩ := ck_of hB
  refine es_iald dX9_note_44 (tr_9_4 hl0) c1 ?_
  refine ev_iconst 1 dX9_note_45 (by decide) ?_
  refine ev_iadd dX9_note_46 ?_
  obtain ⟨c2, hB⟩ := ck_of hB
  refine es_iast dX9_note_47 (tr_9_4 hl0) c2 ?_
  refine ev_iconst (-1) dX9_note_48 (by decide) ?_
  obtain rfl := Option.some.inj hB
  exact ev_iret dX9_note_49 rfl (Nat.zero_le _) (Nat.zero_le _) (fun z => absurd z (hp_sealed _)) ⟨_, rfl, rfl, rfl⟩
theorem t_X9_note {G : am_G} {N : Nat} {l0 : Nat} {l1 : Int32} {l2 : Int32} {l3 : Int32} {S : am_S} {out : am_T} (hl0 : isC 9 l0 = true) (hB : f_X9_note N l0 l1 l2 l3 S = some out) : am_Met G 8 mX9_note (t_c out) (t_s out) [.ref l0, .int l1, .int l2, .int l3] (hp S) (q_ti out) (q_tx out) := by
  refine am_of (by decide +kernel) rfl rfl rfl (Nat.le_of_ble_eq_true rfl) ?_
  unfold f_X9_note at hB
  refine ev_aload_n dX9_note_0 rfl ?_
  refine ev_iload_n dX9_note_1 rfl ?_
  rcases bt_of hB with ⟨r1, S2, e3, hB⟩ | ⟨x4, S2, e3, rfl⟩
  rotate_left
  · exact es_callVx (As := [.int l1]) (t_X9_needPerson hl0 e3) nq_v dX9_note_2 oX9_needPerson w_1146 rfl hl0 rfl rfl (Nat.le_of_ble_eq_true rfl) rfl (am_fit.of (by decide)) rfl
  refine es_callVtv (As := [.int l1]) (t_X9_needPerson hl0 e3) dX9_note_2 oX9_needPerson w_1146 rfl hl0 rfl rfl (Nat.le_of_ble_eq_true rfl) rfl (am_fit.of (by decide)) ⟨Nat.zero_le _, Nat.zero_le _⟩ ?_
  refine ev_aload_n dX9_note_5 rfl ?_
  refine es_getr k_9 10 dX9_note_6 (by decide) rfl (Or.inl w_588) hl0 rfl ?_
  refine es_geti k_3 3 dX9_note_9 (by decide) rfl (Or.inr ⟨_, n_543⟩) (tr_9_10 hl0) rfl ?_
  refine ev_bipush 8 dX9_note_12 (by decide) ?_
  refine ev_icmpge 38 dX9_note_14 (by decide) (fun q5 => ?_) (fun q5 => ?_)
  · rw [if_pos q5] at hB
    exact ev_ls (u_X9_note_38 l0 S2 hl0 hB) (And.intro rfl trivial)
  · rw [if_neg q5] at hB
    refine ev_iload_n dX9_note_17 rfl ?_
    refine ev_iflt 38 dX9_note_18 (by decide) (fun q6 => ?_) (fun q6 => ?_)
    · rw [if_pos q6] at hB
      exact ev_ls (u_X9_note_38 l0 S2 hl0 hB) (And.intro rfl trivial)
    · rw [if_neg q6] at hB
      refine ev_iload_n dX9_note_21 rfl ?_
      refine ev_bipush 20 dX9_note_22 (by decide) ?_
      refine ev_icmpgt 38 dX9_note_24 (by decide) (fun q7 => ?_) (fun q7 => ?_)
      · rw [if_pos q7] at hB
        exact ev_ls (u_X9_note_38 l0 S2 hl0 hB) (And.intro rfl trivial)
      · rw [if_neg q7] at hB
        refine ev_iload_n dX9_note_27 rfl ?_
        refine ev_iflt 38 dX9_note_28 (by decide) (fun q8 => ?_) (fun q8 => ?_)
        · rw [if_pos q8] at hB
          exact ev_ls (u_X9_note_38 l0 S2 hl0 hB) (And.intro rfl trivial)
        · rw [if_neg q8] at hB
          refine ev_iload_n dX9_note_31 rfl ?_
          refine ev_sipush 9999 dX9_note_32 (by decide) ?_
          refine ev_icmple 50 dX9_note_35 (by decide) (fun q9 => ?_) (fun q9 => ?_)
          · rw [if_pos q9] at hB
            refine ev_aload_n dX9_note_50 rfl ?_
            refine es_getr k_9 10 dX9_note_51 (by decide) rfl (Or.inl w_588) hl0 rfl ?_
            refine ev_iload_n dX9_note_54 rfl ?_
            refine ev_iload_n dX9_note_55 rfl ?_
            refine ev_iload_n dX9_note_56 rfl ?_
            obtain ⟨S11, e12, hB⟩ := bv_of hB
            refine es_callVv (As := [.int l1, .int l2, .int l3]) (t_X3_put (tr_9_10 hl0) e12) dX9_note_57 oX3_put w_1358 rfl (tr_9_10 hl0) rfl rfl (Nat.le_of_ble_eq_true rfl) rfl (am_fit.of (by decide)) ⟨Nat.zero_le _, Nat.zero_le _⟩ ?_
            refine ev_aload_n dX9_note_60 rfl ?_
            refine es_getr k_9 10 dX9_note_61 (by decide) rfl (Or.inl w_588) hl0 rfl ?_
            refine es_geti k_3 3 dX9_note_64 (by decide) rfl (Or.inr ⟨_, n_543⟩) (tr_9_10 hl0) rfl ?_
            obtain rfl := Option.some.inj hB
            exact ev_iret dX9_note_67 rfl (Nat.zero_le _) (Nat.zero_le _) (fun z => absurd z (hp_sealed _)) ⟨_, rfl, rfl, rfl⟩
          · rw [if_neg q9] at hB
            exact ev_ls (u_X9_note_38 l0 S2 hl0 hB) (And.intro rfl trivial)
def f_X9_forget (N : Nat) (l0 : Nat) (S : am_S) : Option (am_S) := (bv (f_X3_clearAll N (rf l0 10) S) (fun S2 => some S2))
theorem t_X9_forget {G : am_G} {N : Nat} {l0 : Nat} {S : am_S} {out : am_S} (hl0 : isC 9 l0 = true) (hB : f_X9_forget N l0 S = some out) : am_Met G 2 mX9_forget 0 0 [.ref l0] (hp S) (q_v out) q_n := by
  refine am_of (by decide +kernel) rfl rfl rfl (Nat.le_of_ble_eq_true rfl) ?_
  unfold f_X9_forget at hB
  refine ev_aload_n dX9_forget_0 rfl ?_
  refine es_getr k_9 10 dX9_forget_1 (by decide) rfl (Or.inl w_588) hl0 rfl ?_
  obtain ⟨S2, e3, hB⟩ := bv_of hB
  refine es_callVv (As := []) (t_X3_clearAll (tr_9_10 hl0) e3) dX9_forget_4 oX3_clearAll w_782 rfl (tr_9_10 hl0) rfl rfl (Nat.le_of_ble_eq_true rfl) rfl (am_fit.of (by decide)) ⟨Nat.zero_le _, Nat.zero_le _⟩ ?_
  obtain rfl := Option.some.inj hB
  exact ev_vret dX9_forget_7 rfl (Nat.zero_le _) (Nat.zero_le _) (fun z => absurd z (hp_sealed _)) ⟨rfl, rfl⟩
def b_X9_futureAgrees_49 (N : Nat) (k10 : Nat → Int32 → Int32 → am_S → Option (Int32 × am_S)) (l0 : Nat) (l1 : Int32) (l2 : Int32) (S : am_S) : Option (Int32 × am_S) := k10 l0 l1 (l2 + 1) S
def b_X9_futureAgrees_10 (N : Nat) : Nat → Nat → Int32 → Int32 → am_S → Option (Int32 × am_S)
  | 0, _, _, _, _ => none
  | n + 1, l0, l1, l2, S => (if l1 < l2 then some (1, S) else (bd (f_X3_agree N (rf l0 10) l2 (rf l0 8) S) (fun r2 S3 => (if r2 = 0 then some (0, S3) else (if l1 ≤ l2 then b_X9_futureAgrees_49 N (b_X9_futureAgrees_10 N n) l0 l1 l2 S3 else (if isC 1 (rg S3 0) = true then (bd (f_X1_passDay N (rg S3 0) (rf l0 8) S3) (fun r8 S9 => b_X9_futureAgrees_49 N (b_X9_futureAgrees_10 N n) l0 l1 l2 S9)) else none))))))
def f_X9_futureAgrees (N : Nat) (l0 : Nat) (S : am_S) : Option (Int32 × am_S) := (bd (f_X3_lastDay N (rf l0 10) S) (fun r1 S2 => b_X9_futureAgrees_10 N N l0 r1 0 S2))
theorem u_X9_futureAgrees_49 {G : am_G} {N : Nat} {h0 : am_H} {out : Int32 × am_S} {k10 : Nat → Int32 → Int32 → am_S → Option (Int32 × am_S)} (hk10 : ∀ (l0 : Nat) (l1 : Int32) (l2 : Int32) (S : am_S), isC 9 l0 = true → k10 l0 l1 l2 S = some out → Ev G (am_R 6 0 0) (am_Φ G h0 0 0 (q_i out) q_n) mX9_futureAgrees 0 0 10 [some (.ref l0), some (.int l1), some (.int l2)] [] (hp S)) (l0 : Nat) (l1 : Int32) (l2 : Int32) (S : am_S) (hl0 : isC 9 l0 = true) (hB : b_X9_futureAgrees_49 N k10 l0 l1 l2 S = some out) : Ev G (am_R 6 0 0) (am_Φ G h0 0 0 (q_i out) q_n) mX9_futureAgrees 0 0 49 [some (.ref l0), some (.int l1), some (.int l2)] [] (hp S) := by
  unfold b_X9_futureAgrees_49 at hB
  refine es_iinc 1 dX9_futureAgrees_49 rfl (by decide) (by decide) rfl ?_
  refine ev_goto 10 dX9_futureAgrees_52 (by decide) ?_
  exact ev_ls (hk10 l0 l1 (l2 + 1) S hl0 hB) (And.intro rfl (And.intro rfl (And.intro rfl trivial)))
theorem u_X9_futureAgrees_10 {G : am_G} {N : Nat} {h0 : am_H} {out : Int32 × am_S} : ∀ (n : Nat) (l0 : Nat) (l1 : Int32) (l2 : Int32) (S : am_S), isC 9 l0 = true → b_X9_futureAgrees_10 N n l0 l1 l2 S = some out → Ev G (am_R 6 0 0) (am_Φ G h0 0 0 (q_i out) q_n) mX9_futureAgrees 0 0 10 [some (.ref l0), some (.int l1), some (.int l2)] [] (hp S) := by
  intro n
  induction n with
  | zero =>
    intro l0 l1 l2 S hl0 hB
    exact absurd (show none = some out from hB) (fun q => by cases q)
  | succ n ih =>
    intro l0 l1 l2 S hl0 hB
    unfold b_X9_futureAgrees_10 at hB
    refine ev_iload_n dX9_futureAgrees_10 rfl ?_
    refine ev_iload_n dX9_futureAgrees_11 rfl ?_
    refine ev_icmpgt 55 dX9_futureAgrees_12 (by decide) (fun q1 => ?_) (fun q1 => ?_)
    · rw [if_pos q1] at hB
      refine ev_iconst 1 dX9_futureAgrees_55 (by decide) ?_
      obtain rfl := Option.some.inj hB
      exact ev_zret dX9_futureAgrees_56 rfl (by rfl) (Nat.zero_le _) (Nat.zero_le _) (fun z => absurd z (hp_sealed _)) ⟨rfl, rfl⟩
    · rw [if_neg q1] at hB
      refine ev_aload_n dX9_futureAgrees_15 rfl ?_
      refine es_getr k_9 10 dX9_futureAgrees_16 (by decide) rfl (Or.inl w_588) hl0 rfl ?_
      refine ev_iload_n dX9_futureAgrees_19 rfl ?_
      refine ev_aload_n dX9_futureAgrees_20 rfl ?_
      refine es_getr k_9 8 dX9_futureAgrees_21 (by decide) rfl (Or.inl w_586) hl0 rfl ?_
      obtain ⟨r2, S3, e4, hB⟩ := bd_of hB
      refine es_callVi (As := [.int l2, .ref (rf l0 8)]) (t_X3_agree (tr_9_10 hl0) (tr_9_8 hl0) e4) dX9_futureAgrees_24 oX3_agree w_1378 rfl (tr_9_10 hl0) rfl rfl (Nat.le_of_ble_eq_true rfl) rfl (am_fit.of (by decide)) ⟨Nat.zero_le _, Nat.zero_le _⟩ ?_
      refine ev_ifne 32 dX9_futureAgrees_27 (by decide) (fun q5 => ?_) (fun q5 => ?_)
      · rw [if_neg q5] at hB
        refine ev_iload_n dX9_futureAgrees_32 rfl ?_
        refine ev_iload_n dX9_futureAgrees_33 rfl ?_
        refine ev_icmpge 49 dX9_futureAgrees_34 (by decide) (fun q6 => ?_) (fun q6 => ?_)
        · rw [if_pos q6] at hB
          exact ev_ls (u_X9_futureAgrees_49 ih l0 l1 l2 S3 hl0 hB) (And.intro rfl (And.intro rfl (And.intro rfl trivial)))
        · rw [if_neg q6] at hB
          refine ev_aload_n dX9_futureAgrees_37 rfl ?_
          refine es_getd 0 k_9 5 dX9_futureAgrees_38 (by decide) rfl (Or.inl w_583) hl0 rfl ?_
          obtain ⟨c7, hB⟩ := ck_of hB
          refine ev_aload_n dX9_futureAgrees_41 rfl ?_
          refine es_getr k_9 8 dX9_futureAgrees_42 (by decide) rfl (Or.inl w_586) hl0 rfl ?_
          obtain ⟨r8, S9, e10, hB⟩ := bd_of hB
          refine es_callVi (As := [.ref (rf l0 8)]) (t_X1_passDay c7 (tr_9_8 hl0) e10) dX9_futureAgrees_45 oX1_passDay w_662 rfl c7 rfl rfl (Nat.le_of_ble_eq_true rfl) rfl (am_fit.of (by decide)) ⟨Nat.zero_le _, Nat.zero_le _⟩ ?_
          refine ev_pop dX9_futureAgrees_48 rfl ?_
          exact ev_ls (u_X9_futureAgrees_49 ih l0 l1 l2 S9 hl0 hB) (And.intro rfl (And.intro rfl (And.intro rfl trivial)))
      · rw [if_pos q5] at hB
        refine ev_iconst 0 dX9_futureAgrees_30 (by decide) ?_
        obtain rfl := Option.some.inj hB
        exact ev_zret dX9_futureAgrees_31 rfl (by rfl) (Nat.zero_le _) (Nat.zero_le _) (fun z => absurd z (hp_sealed _)) ⟨rfl, rfl⟩
theorem t_X9_futureAgrees {G : am_G} {N : Nat} {l0 : Nat} {S : am_S} {out : Int32 × am_S} (hl0 : isC 9 l0 = true) (hB : f_X9_futureAgrees N l0 S = some out) : am_Met G 6 mX9_futureAgrees 0 0 [.ref l0] (hp S) (q_i out) q_n := by
  refine am_of (by decide +kernel) rfl rfl rfl (Nat.le_of_ble_eq_true rfl) ?_
  unfold f_X9_futureAgrees at hB
  refine ev_aload_n dX9_futureAgrees_0 rfl ?_
  refine es_getr k_9 10 dX9_futureAgrees_1 (by decide) rfl (Or.inl w_588) hl0 rfl ?_
  obtain ⟨r1, S2, e3, hB⟩ := bd_of hB
  refine es_callVi (As := []) (t_X3_lastDay (tr_9_10 hl0) e3) dX9_futureAgrees_4 oX3_lastDay w_1373 rfl (tr_9_10 hl0) rfl rfl (Nat.le_of_ble_eq_true rfl) rfl (am_fit.of (by decide)) ⟨Nat.zero_le _, Nat.zero_le _⟩ ?_
  refine ev_istore_n dX9_futureAgrees_7 (by decide) rfl ?_
  refine ev_iconst 0 dX9_futureAgrees_8 (by decide) ?_
  refine ev_istore_n dX9_futureAgrees_9 (by decide) rfl ?_
  exact ev_ls (u_X9_futureAgrees_10 N l0 r1 0 S2 hl0 hB) (And.intro rfl (And.intro rfl (And.intro rfl trivial)))
def b_X9_turnFuture_17 (N : Nat)  (S : am_S) : Option (Int32 × am_S) := some (0, S)
def f_X9_turnFuture (N : Nat) (l0 : Nat) (l1 : Int32) (l2 : Int32) (S : am_S) : Option (Int32 × am_S) := (if l2 = l1 then b_X9_turnFuture_17 N S else (bd (f_X7_atOf N (rf l0 7) l1 S) (fun r2 S3 => (if l2 = r2 then b_X9_turnFuture_17 N S3 else (bv (f_X7_copyFrom N (rf l0 8) (rf l0 7) S3) (fun S7 => (bv (f_X7_turnTo N (rf l0 8) l1 l2 S7) (fun S10 => some (1, S10)))))))))
theorem u_X9_turnFuture_17 {G : am_G} {N : Nat} {h0 : am_H} {out : Int32 × am_S}  (S : am_S) (hB : b_X9_turnFuture_17 N  S = some out) : Ev G (am_R 2 0 0) (am_Φ G h0 0 0 (q_i out) q_n) mX9_turnFuture 0 0 17 [none, none, none] [] (hp S) := by
  unfold b_X9_turnFuture_17 at hB
  refine ev_iconst 0 dX9_turnFuture_17 (by decide) ?_
  obtain rfl := Option.some.inj hB
  exact ev_zret dX9_turnFuture_18 rfl (by rfl) (Nat.zero_le _) (Nat.zero_le _) (fun z => absurd z (hp_sealed _)) ⟨rfl, rfl⟩
theorem t_X9_turnFuture {G : am_G} {N : Nat} {l0 : Nat} {l1 : Int32} {l2 : Int32} {S : am_S} {out : Int32 × am_S} (hl0 : isC 9 l0 = true) (hB : f_X9_turnFuture N l0 l1 l2 S = some out) : am_Met G 2 mX9_turnFuture 0 0 [.ref l0, .int l1, .int l2] (hp S) (q_i out) q_n := by
  refine am_of (by decide +kernel) rfl rfl rfl (Nat.le_of_ble_eq_true rfl) ?_
  unfold f_X9_turnFuture at hB
  refine ev_iload_n dX9_turnFuture_0 rfl ?_
  refine ev_iload_n dX9_turnFuture_1 rfl ?_
  refine ev_icmpeq 17 dX9_turnFuture_2 (by decide) (fun q1 => ?_) (fun q1 => ?_)
  · rw [if_pos q1] at hB
    exact ev_ls (u_X9_turnFuture_17 S hB) trivial
  · rw [if_neg q1] at hB
    refine ev_iload_n dX9_turnFuture_5 rfl ?_
    refine ev_aload_n dX9_turnFuture_6 rfl ?_
    refine es_getr k_9 7 dX9_turnFuture_7 (by decide) rfl (Or.inl w_585) hl0 rfl ?_
    refine ev_iload_n dX9_turnFuture_10 rfl ?_
    obtain ⟨r2, S3, e4, hB⟩ := bd_of hB
    refine es_callVi (As := [.int l1]) (t_X7_atOf (tr_9_7 hl0) e4) dX9_turnFuture_11 oX7_atOf w_1151 rfl (tr_9_7 hl0) rfl rfl (Nat.le_of_ble_eq_true rfl) rfl (am_fit.of (by decide)) ⟨Nat.zero_le _, Nat.zero_le _⟩ ?_
    refine ev_icmpne 19 dX9_turnFuture_14 (by decide) (fun q5 => ?_) (fun q5 => ?_)
    · rw [if_neg q5] at hB
      refine ev_aload_n dX9_turnFuture_19 rfl ?_
      refine es_getr k_9 8 dX9_turnFuture_20 (by decide) rfl (Or.inl w_586) hl0 rfl ?_
      refine ev_aload_n dX9_turnFuture_23 rfl ?_
      refine es_getr k_9 7 dX9_turnFuture_24 (by decide) rfl (Or.inl w_585) hl0 rfl ?_
      obtain ⟨S7, e8, hB⟩ := bv_of hB
      refine es_callVv (As := [.ref (rf l0 7)]) (t_X7_copyFrom (tr_9_8 hl0) (tr_9_7 hl0) e8) dX9_turnFuture_27 oX7_copyFrom w_803 rfl (tr_9_8 hl0) rfl rfl (Nat.le_of_ble_eq_true rfl) rfl (am_fit.of (by decide)) ⟨Nat.zero_le _, Nat.zero_le _⟩ ?_
      refine ev_aload_n dX9_turnFuture_30 rfl ?_
      refine es_getr k_9 8 dX9_turnFuture_31 (by decide) rfl (Or.inl w_586) hl0 rfl ?_
      refine ev_iload_n dX9_turnFuture_34 rfl ?_
      refine ev_iload_n dX9_turnFuture_35 rfl ?_
      obtain ⟨S10, e11, hB⟩ := bv_of hB
      refine es_callVv (As := [.int l1, .int l2]) (t_X7_turnTo (tr_9_8 hl0) e11) dX9_turnFuture_36 oX7_turnTo w_1197 rfl (tr_9_8 hl0) rfl rfl (Nat.le_of_ble_eq_true rfl) rfl (am_fit.of (by decide)) ⟨Nat.zero_le _, Nat.zero_le _⟩ ?_
      refine ev_iconst 1 dX9_turnFuture_39 (by decide) ?_
      obtain rfl := Option.some.inj hB
      exact ev_zret dX9_turnFuture_40 rfl (by rfl) (Nat.zero_le _) (Nat.zero_le _) (fun z => absurd z (hp_sealed _)) ⟨rfl, rfl⟩
    · rw [if_pos q5] at hB
      exact ev_ls (u_X9_turnFuture_17 S3 hB) trivial
def b_X9_thought_33 (N : Nat) (z0 : Int32) (S : am_S) : Option (am_T) := some (.inl z0, S)
def b_X9_thought_107 (N : Nat) (k41 : Nat → Int32 → Int32 → Int32 → Int32 → am_S → Option (am_T)) (k56 : Nat → Int32 → Int32 → Int32 → Int32 → Int32 → am_S → Option (am_T)) (l0 : Nat) (l1 : Int32) (l2 : Int32) (l3 : Int32) (l4 : Int32) (l5 : Int32) (S : am_S) : Option (am_T) := k56 l0 l1 l2 l3 l4 (l5 + 1) S
def b_X9_thought_106 (N : Nat) (k41 : Nat → Int32 → Int32 → Int32 → Int32 → am_S → Option (am_T)) (k56 : Nat → Int32 → Int32 → Int32 → Int32 → Int32 → am_S → Option (am_T)) (l0 : Nat) (l1 : Int32) (l2 : Int32) (l4 : Int32) (l5 : Int32) (z0 : Int32) (S : am_S) : Option (am_T) := b_X9_thought_107 N (k41) (k56) l0 l1 l2 z0 l4 l5 S
def b_X9_thought_56 (N : Nat) (k41 : Nat → Int32 → Int32 → Int32 → Int32 → am_S → Option (am_T)) : Nat → Nat → Int32 → Int32 → Int32 → Int32 → Int32 → am_S → Option (am_T)
  | 0, _, _, _, _, _, _, _ => none
  | n + 1, l0, l1, l2, l3, l4, l5, S => (if isC 1 (rg S 0) = true then (if (sg S (rg S 0) 3) ≤ l5 then k41 l0 l1 l2 l3 (l4 + 1) S else (bd (f_X9_turnFuture N l0 l4 l5 S) (fun r3 S4 => (if r3 = 0 then b_X9_thought_107 N (k41) (b_X9_thought_56 N k41 n) l0 l1 l2 l3 l4 l5 S4 else (bd (f_X9_futureAgrees N l0 S4) (fun r7 S8 => (if r7 = 0 then b_X9_thought_107 N (k41) (b_X9_thought_56 N k41 n) l0 l1 l2 l3 l4 l5 S8 else (if l3 = (-1) then b_X9_thought_106 N (k41) (b_X9_thought_56 N k41 n) l0 l1 (l2 + 1) l4 l5 ((10 * l4) + l5) S8 else b_X9_thought_106 N (k41) (b_X9_thought_56 N k41 n) l0 l1 (l2 + 1) l4 l5 l3 S8)))))))) else none)
def b_X9_thought_128 (N : Nat) (z0 : Int32) (S : am_S) : Option (am_T) := some (.inl z0, S)
def b_X9_thought_41 (N : Nat) : Nat → Nat → Int32 → Int32 → Int32 → Int32 → am_S → Option (am_T)
  | 0, _, _, _, _, _, _ => none
  | n + 1, l0, l1, l2, l3, l4, S => (if isC 1 (rg S 0) = true then (if (sg S (rg S 0) 3) ≤ l4 then (if l1 = 0 then b_X9_thought_128 N l2 S else b_X9_thought_128 N l3 S) else b_X9_thought_56 N (b_X9_thought_41 N n) N l0 l1 l2 l3 l4 0 S) else none)
def f_X9_thought (N : Nat) (l0 : Nat) (l1 : Int32) (S : am_S) : Option (am_T) := (bt (f_X9_needWhat N l1 2 S) (fun r1 S2 => (if l1 = 2 then (bv (f_X7_copyFrom N (rf l0 8) (rf l0 7) S2) (fun S7 => (bd (f_X9_futureAgrees N l0 S7) (fun r9 S10 => (if r9 = 0 then b_X9_thought_33 N 0 S10 else b_X9_thought_33 N 1 S10))))) else b_X9_thought_41 N N l0 l1 0 (-1) 0 S2)))
theorem u_X9_thought_33 {G : am_G} {N : Nat} {h0 : am_H} {out : am_T} (z0 : Int32) (S : am_S) (hB : b_X9_thought_33 N z0 S = some out) : Ev G (am_R 8 (t_c out) (t_s out)) (am_Φ G h0 (t_c out) (t_s out) (q_ti out) (q_tx out)) mX9_thought 0 0 33 [none, none, none, none, none, none] [.int z0] (hp S) := by
  unfold b_X9_thought_33 at hB
  obtain rfl := Option.some.inj hB
  exact ev_iret dX9_thought_33 rfl (Nat.zero_le _) (Nat.zero_le _) (fun z => absurd z (hp_sealed _)) ⟨_, rfl, rfl, rfl⟩
theorem u_X9_thought_107 {G : am_G} {N : Nat} {h0 : am_H} {out : am_T} {k41 : Nat → Int32 → Int32 → Int32 → Int32 → am_S → Option (am_T)} {k56 : Nat → Int32 → Int32 → Int32 → Int32 → Int32 → am_S → Option (am_T)} (hk41 : ∀ (l0 : Nat) (l1 : Int32) (l2 : Int32) (l3 : Int32) (l4 : Int32) (S : am_S), isC 9 l0 = true → k41 l0 l1 l2 l3 l4 S = some out → Ev G (am_R 8 (t_c out) (t_s out)) (am_Φ G h0 (t_c out) (t_s out) (q_ti out) (q_tx out)) mX9_thought 0 0 41 [some (.ref l0), some (.int l1), some (.int l2), some (.int l3), some (.int l4), none] [] (hp S)) (hk56 : ∀ (l0 : Nat) (l1 : Int32) (l2 : Int32) (l3 : Int32) (l4 : Int32) (l5 : Int32) (S : am_S), isC 9 l0 = true → k56 l0 l1 l2 l3 l4 l5 S = some out → Ev G (am_R 8 (t_c out) (t_s out)) (am_Φ G h0 (t_c out) (t_s out) (q_ti out) (q_tx out)) mX9_thought 0 0 56 [some (.ref l0), some (.int l1), some (.int l2), some (.int l3), some (.int l4), some (.int l5)] [] (hp S)) (l0 : Nat) (l1 : Int32) (l2 : Int32) (l3 : Int32) (l4 : Int32) (l5 : Int32) (S : am_S) (hl0 : isC 9 l0 = true) (hB : b_X9_thought_107 N k41 k56 l0 l1 l2 l3 l4 l5 S = some out) : Ev G (am_R 8 (t_c out) (t_s out)) (am_Φ G h0 (t_c out) (t_s out) (q_ti out) (q_tx out)) mX9_thought 0 0 107 [some (.ref l0), some (.int l1), some (.int l2), some (.int l3), some (.int l4), some (.int l5)] [] (hp S) := by
  unfold b_X9_thought_107 at hB
  refine es_iinc 1 dX9_thought_107 rfl (by decide) (by decide) rfl ?_
  refine ev_goto 56 dX9_thought_110 (by decide) ?_
  exact ev_ls (hk56 l0 l1 l2 l3 l4 (l5 + 1) S hl0 hB) (And.intro rfl (And.intro rfl (And.intro rfl (And.intro rfl (And.intro rfl (And.intro rfl trivial))))))
theorem u_X9_thought_106 {G : am_G} {N : Nat} {h0 : am_H} {out : am_T} {k41 : Nat → Int32 → Int32 → Int32 → Int32 → am_S → Option (am_T)} {k56 : Nat → Int32 → Int32 → Int32 → Int32 → Int32 → am_S → Option (am_T)} (hk41 : ∀ (l0 : Nat) (l1 : Int32) (l2 : Int32) (l3 : Int32) (l4 : Int32) (S : am_S), isC 9 l0 = true → k41 l0 l1 l2 l3 l4 S = some out → Ev G (am_R 8 (t_c out) (t_s out)) (am_Φ G h0 (t_c out) (t_s out) (q_ti out) (q_tx out)) mX9_thought 0 0 41 [some (.ref l0), some (.int l1), some (.int l2), some (.int l3), some (.int l4), none] [] (hp S)) (hk56 : ∀ (l0 : Nat) (l1 : Int32) (l2 : Int32) (l3 : Int32) (l4 : Int32) (l5 : Int32) (S : am_S), isC 9 l0 = true → k56 l0 l1 l2 l3 l4 l5 S = some out → Ev G (am_R 8 (t_c out) (t_s out)) (am_Φ G h0 (t_c out) (t_s out) (q_ti out) (q_tx out)) mX9_thought 0 0 56 [some (.ref l0), some (.int l1), some (.int l2), some (.int l3), some (.int l4), some (.int l5)] [] (hp S)) (l0 : Nat) (l1 : Int32) (l2 : Int32) (l4 : Int32) (l5 : Int32) (z0 : Int32) (S : am_S) (hl0 : isC 9 l0 = true) (hB : b_X9_thought_106 N k41 k56 l0 l1 l2 l4 l5 z0 S = some out) : Ev G (am_R 8 (t_c out) (t_s out)) (am_Φ G h0 (t_c out) (t_s out) (q_ti out) (q_tx out)) mX9_thought 0 0 106 [some (.ref l0), some (.int l1), some (.int l2), none, some (.int l4), some (.int l5)] [.int z0] (hp S) := by
  unfold b_X9_thought_106 at hB
  refine ev_istore_n dX9_thought_106 (by decide) rfl ?_
  exact ev_ls (u_X9_thought_107 hk41 hk56 l0 l1 l2 z0 l4 l5 S hl0 hB) (And.intro rfl (And.intro rfl (And.intro rfl (And.intro rfl (And.intro rfl (And.intro rfl trivial))))))
theorem u_X9_thought_56 {G : am_G} {N : Nat} {h0 : am_H} {out : am_T} {k41 : Nat → Int32 → Int32 → Int32 → Int32 → am_S → Option (am_T)} (hk41 : ∀ (l0 : Nat) (l1 : Int32) (l2 : Int32) (l3 : Int32) (l4 : Int32) (S : am_S), isC 9 l0 = true → k41 l0 l1 l2 l3 l4 S = some out → Ev G (am_R 8 (t_c out) (t_s out)) (am_Φ G h0 (t_c out) (t_s out) (q_ti out) (q_tx out)) mX9_thought 0 0 41 [some (.ref l0), some (.int l1), some (.int l2), some (.int l3), some (.int l4), none] [] (hp S)) : ∀ (n : Nat) (l0 : Nat) (l1 : Int32) (l2 : Int32) (l3 : Int32) (l4 : Int32) (l5 : Int32) (S : am_S), isC 9 l0 = true → b_X9_thought_56 N k41 n l0 l1 l2 l3 l4 l5 S = some out → Ev G (am_R 8 (t_c out) (t_s out)) (am_Φ G h0 (t_c out) (t_s out) (q_ti out) (q_tx out)) mX9_thought 0 0 56 [some (.ref l0), some (.int l1), some (.int l2), some (.int l3), some (.int l4), some (.int l5)] [] (hp S) := by
  intro n
  induction n with
  | zero =>
    intro l0 l1 l2 l3 l4 l5 S hl0 hB
    exact absurd (show none = some out from hB) (fun q => by cases q)
  | succ n ih =>
    intro l0 l1 l2 l3 l4 l5 S hl0 hB
    unfold b_X9_thought_56 at hB
    refine ev_iload dX9_thought_56 rfl ?_
    refine ev_aload_n dX9_thought_58 rfl ?_
    refine es_getd 0 k_9 5 dX9_thought_59 (by decide) rfl (Or.inl w_583) hl0 rfl ?_
    obtain ⟨c1, hB⟩ := ck_of hB
    refine es_geti k_1 3 dX9_thought_62 (by decide) rfl (Or.inr ⟨_, n_143⟩) c1 rfl ?_
    refine ev_icmpge 113 dX9_thought_65 (by decide) (fun q2 => ?_) (fun q2 => ?_)
    · rw [if_pos q2] at hB
      refine es_iinc 1 dX9_thought_113 rfl (by decide) (by decide) rfl ?_
      refine ev_goto 41 dX9_thought_116 (by decide) ?_
      exact ev_ls (hk41 l0 l1 l2 l3 (l4 + 1) S hl0 hB) (And.intro rfl (And.intro rfl (And.intro rfl (And.intro rfl (And.intro rfl trivial)))))
    · rw [if_neg q2] at hB
      refine ev_aload_n dX9_thought_68 rfl ?_
      refine ev_iload dX9_thought_69 rfl ?_
      refine ev_iload dX9_thought_71 rfl ?_
      obtain ⟨r3, S4, e5, hB⟩ := bd_of hB
      refine es_callVi (As := [.int l4, .int l5]) (t_X9_turnFuture hl0 e5) dX9_thought_73 oX9_turnFuture w_1383 rfl hl0 rfl rfl (Nat.le_of_ble_eq_true rfl) rfl (am_fit.of (by decide)) ⟨Nat.zero_le _, Nat.zero_le _⟩ ?_
      refine ev_ifeq 107 dX9_thought_76 (by decide) (fun q6 => ?_) (fun q6 => ?_)
      · rw [if_pos q6] at hB
        exact ev_ls (u_X9_thought_107 hk41 ih l0 l1 l2 l3 l4 l5 S4 hl0 hB) (And.intro rfl (And.intro rfl (And.intro rfl (And.intro rfl (And.intro rfl (And.intro rfl trivial))))))
      · rw [if_neg q6] at hB
        refine ev_aload_n dX9_thought_79 rfl ?_
        obtain ⟨r7, S8, e9, hB⟩ := bd_of hB
        refine es_callVi (As := []) (t_X9_futureAgrees hl0 e9) dX9_thought_80 oX9_futureAgrees w_1369 rfl hl0 rfl rfl (Nat.le_of_ble_eq_true rfl) rfl (am_fit.of (by decide)) ⟨Nat.zero_le _, Nat.zero_le _⟩ ?_
        refine ev_ifeq 107 dX9_thought_83 (by decide) (fun q10 => ?_) (fun q10 => ?_)
        · rw [if_pos q10] at hB
          exact ev_ls (u_X9_thought_107 hk41 ih l0 l1 l2 l3 l4 l5 S8 hl0 hB) (And.intro rfl (And.intro rfl (And.intro rfl (And.intro rfl (And.intro rfl (And.intro rfl trivial))))))
        · rw [if_neg q10] at hB
          refine es_iinc 1 dX9_thought_86 rfl (by decide) (by decide) rfl ?_
          refine ev_iload_n dX9_thought_89 rfl ?_
          refine ev_iconst (-1) dX9_thought_90 (by decide) ?_
          refine ev_icmpne 105 dX9_thought_91 (by decide) (fun q11 => ?_) (fun q11 => ?_)
          · rw [if_neg q11] at hB
            refine ev_iload_n dX9_thought_105 rfl ?_
            exact ev_ls (u_X9_thought_106 hk41 ih l0 l1 (l2 + 1) l4 l5 l3 S8 hl0 hB) (And.intro rfl (And.intro rfl (And.intro rfl (And.intro rfl (And.intro rfl trivial)))))
          · rw [if_pos q11] at hB
            refine ev_bipush 10 dX9_thought_94 (by decide) ?_
            refine ev_iload dX9_thought_96 rfl ?_
            refine ev_imul dX9_thought_98 ?_
            refine ev_iload dX9_thought_99 rfl ?_
            refine ev_iadd dX9_thought_101 ?_
            refine ev_goto 106 dX9_thought_102 (by decide) ?_
            exact ev_ls (u_X9_thought_106 hk41 ih l0 l1 (l2 + 1) l4 l5 ((10 * l4) + l5) S8 hl0 hB) (And.intro rfl (And.intro rfl (And.intro rfl (And.intro rfl (And.intro rfl trivial)))))
theorem u_X9_thought_128 {G : am_G} {N : Nat} {h0 : am_H} {out : am_T} (z0 : Int32) (S : am_S) (hB : b_X9_thought_128 N z0 S = some out) : Ev G (am_R 8 (t_c out) (t_s out)) (am_Φ G h0 (t_c out) (t_s out) (q_ti out) (q_tx out)) mX9_thought 0 0 128 [none, none, none, none, none, none] [.int z0] (hp S) := by
  unfold b_X9_thought_128 at hB
  obtain rfl := Option.some.inj hB
  exact ev_iret dX9_thought_128 rfl (Nat.zero_le _) (Nat.zero_le _) (fun z => absurd z (hp_sealed _)) ⟨_, rfl, rfl, rfl⟩
theorem u_X9_thought_41 {G : am_G} {N : Nat} {h0 : am_H} {out : am_T} : ∀ (n : Nat) (l0 : Nat) (l1 : Int32) (l2 : Int32) (l3 : Int32) (l4 : Int32) (S : am_S), isC 9 l0 = true → b_X9_thought_41 N n l0 l1 l2 l3 l4 S = some out → Ev G (am_R 8 (t_c out) (t_s out)) (am_Φ G h0 (t_c out) (t_s out) (q_ti out) (q_tx out)) mX9_thought 0 0 41 [some (.ref l0), some (.int l1), some (.int l2), some (.int l3), some (.int l4), none] [] (hp S) := by
  intro n
  induction n with
  | zero =>
    intro l0 l1 l2 l3 l4 S hl0 hB
    exact absurd (show none = some out from hB) (fun q => by cases q)
  | succ n ih =>
    intro l0 l1 l2 l3 l4 S hl0 hB
    unfold b_X9_thought_41 at hB
    refine ev_iload dX9_thought_41 rfl ?_
    refine ev_aload_n dX9_thought_43 rfl ?_
    refine es_getd 0 k_9 5 dX9_thought_44 (by decide) rfl (Or.inl w_583) hl0 rfl ?_
    obtain ⟨c1, hB⟩ := ck_of hB
    refine es_geti k_1 3 dX9_thought_47 (by decide) rfl (Or.inr ⟨_, n_143⟩) c1 rfl ?_
    refine ev_icmpge 119 dX9_thought_50 (by decide) (fun q2 => ?_) (fun q2 => ?_)
    · rw [if_pos q2] at hB
      refine ev_iload_n dX9_thought_119 rfl ?_
      refine ev_ifne 127 dX9_thought_120 (by decide) (fun q3 => ?_) (fun q3 => ?_)
      · rw [if_neg q3] at hB
        refine ev_iload_n dX9_thought_127 rfl ?_
        exact ev_ls (u_X9_thought_128 l3 S hB) trivial
      · rw [if_pos q3] at hB
        refine ev_iload_n dX9_thought_123 rfl ?_
        refine ev_goto 128 dX9_thought_124 (by decide) ?_
        exact ev_ls (u_X9_thought_128 l2 S hB) trivial
    · rw [if_neg q2] at hB
      refine ev_iconst 0 dX9_thought_53 (by decide) ?_
      refine ev_istore dX9_thought_54 (by decide) rfl ?_
      exact ev_ls (u_X9_thought_56 ih N l0 l1 l2 l3 l4 0 S hl0 hB) (And.intro rfl (And.intro rfl (And.intro rfl (And.intro rfl (And.intro rfl (And.intro rfl trivial))))))
theorem t_X9_thought {G : am_G} {N : Nat} {l0 : Nat} {l1 : Int32} {S : am_S} {out : am_T} (hl0 : isC 9 l0 = true) (hB : f_X9_thought N l0 l1 S = some out) : am_Met G 8 mX9_thought (t_c out) (t_s out) [.ref l0, .int l1] (hp S) (q_ti out) (q_tx out) := by
  refine am_of (by decide +kernel) rfl rfl rfl (Nat.le_of_ble_eq_true rfl) ?_
  unfold f_X9_thought at hB
  refine ev_iload_n dX9_thought_0 rfl ?_
  refine ev_iconst 2 dX9_thought_1 (by decide) ?_
  rcases bt_of hB with ⟨r1, S2, e3, hB⟩ | ⟨x4, S2, e3, rfl⟩
  rotate_left
  · exact es_callSx (As := [.int l1, .int 2]) (t_X9_needWhat e3) nq_v dX9_thought_2 oX9_needWhat w_1208 rfl (Nat.le_of_ble_eq_true rfl) rfl (am_fit.of (by decide)) rfl
  refine es_callStv (As := [.int l1, .int 2]) (t_X9_needWhat e3) dX9_thought_2 oX9_needWhat w_1208 rfl (Nat.le_of_ble_eq_true rfl) rfl (am_fit.of (by decide)) ⟨Nat.zero_le _, Nat.zero_le _⟩ ?_
  refine ev_iload_n dX9_thought_5 rfl ?_
  refine ev_iconst 2 dX9_thought_6 (by decide) ?_
  refine ev_icmpne 34 dX9_thought_7 (by decide) (fun q5 => ?_) (fun q5 => ?_)
  · rw [if_neg q5] at hB
    refine ev_iconst 0 dX9_thought_34 (by decide) ?_
    refine ev_istore_n dX9_thought_35 (by decide) rfl ?_
    refine ev_iconst (-1) dX9_thought_36 (by decide) ?_
    refine ev_istore_n dX9_thought_37 (by decide) rfl ?_
    refine ev_iconst 0 dX9_thought_38 (by decide) ?_
    refine ev_istore dX9_thought_39 (by decide) rfl ?_
    exact ev_ls (u_X9_thought_41 N l0 l1 0 (-1) 0 S2 hl0 hB) (And.intro rfl (And.intro rfl (And.intro rfl (And.intro rfl (And.intro rfl trivial)))))
  · rw [if_pos q5] at hB
    refine ev_aload_n dX9_thought_10 rfl ?_
    refine es_getr k_9 8 dX9_thought_11 (by decide) rfl (Or.inl w_586) hl0 rfl ?_
    refine ev_aload_n dX9_thought_14 rfl ?_
    refine es_getr k_9 7 dX9_thought_15 (by decide) rfl (Or.inl w_585) hl0 rfl ?_
    obtain ⟨S7, e8, hB⟩ := bv_of hB
    refine es_callVv (As := [.ref (rf l0 7)]) (t_X7_copyFrom (tr_9_8 hl0) (tr_9_7 hl0) e8) dX9_thought_18 oX7_copyFrom w_803 rfl (tr_9_8 hl0) rfl rfl (Nat.le_of_ble_eq_true rfl) rfl (am_fit.of (by decide)) ⟨Nat.zero_le _, Nat.zero_le _⟩ ?_
    refine ev_aload_n dX9_thought_21 rfl ?_
    obtain ⟨r9, S10, e11, hB⟩ := bd_of hB
    refine es_callVi (As := []) (t_X9_futureAgrees hl0 e11) dX9_thought_22 oX9_futureAgrees w_1369 rfl hl0 rfl rfl (Nat.le_of_ble_eq_true rfl) rfl (am_fit.of (by decide)) ⟨Nat.zero_le _, Nat.zero_le _⟩ ?_
    refine ev_ifeq 32 dX9_thought_25 (by decide) (fun q12 => ?_) (fun q12 => ?_)
    · rw [if_pos q12] at hB
      refine ev_iconst 0 dX9_thought_32 (by decide) ?_
      exact ev_ls (u_X9_thought_33 0 S10 hB) trivial
    · rw [if_neg q12] at hB
      refine ev_iconst 1 dX9_thought_28 (by decide) ?_
      refine ev_goto 33 dX9_thought_29 (by decide) ?_
      exact ev_ls (u_X9_thought_33 1 S10 hB) trivial
def b_X9_lookAheadTurned_23 (N : Nat) : Nat → Nat → Int32 → Int32 → am_S → Option (am_S)
  | 0, _, _, _, _ => none
  | n + 1, l0, l3, l4, S => (if l3 ≤ l4 then some S else (if isC 1 (rg S 0) = true then (bd (f_X1_passDay N (rg S 0) (rf l0 8) S) (fun r3 S4 => b_X9_lookAheadTurned_23 N n l0 l3 (l4 + 1) S4)) else none))
def f_X9_lookAheadTurned (N : Nat) (l0 : Nat) (l1 : Int32) (l2 : Int32) (l3 : Int32) (S : am_S) : Option (am_S) := (bv (f_X7_copyFrom N (rf l0 8) (rf l0 7) S) (fun S2 => (bv (f_X7_turnTo N (rf l0 8) l1 l2 S2) (fun S5 => b_X9_lookAheadTurned_23 N N l0 l3 0 S5))))
theorem u_X9_lookAheadTurned_23 {G : am_G} {N : Nat} {h0 : am_H} {out : am_S} : ∀ (n : Nat) (l0 : Nat) (l3 : Int32) (l4 : Int32) (S : am_S), isC 9 l0 = true → b_X9_lookAheadTurned_23 N n l0 l3 l4 S = some out → Ev G (am_R 6 0 0) (am_Φ G h0 0 0 (q_v out) q_n) mX9_lookAheadTurned 0 0 23 [some (.ref l0), none, none, some (.int l3), some (.int l4)] [] (hp S) := by
  intro n
  induction n with
  | zero =>
    intro l0 l3 l4 S hl0 hB
    exact absurd (show none = some out from hB) (fun q => by cases q)
  | succ n ih =>
    intro l0 l3 l4 S hl0 hB
    unfold b_X9_lookAheadTurned_23 at hB
    refine ev_iload dX9_lookAheadTurned_23 rfl ?_
    refine ev_iload_n dX9_lookAheadTurned_25 rfl ?_
    refine ev_icmpge 47 dX9_lookAheadTurned_26 (by decide) (fun q1 => ?_) (fun q1 => ?_)
    · rw [if_pos q1] at hB
      obtain rfl := Option.some.inj hB
      exact ev_vret dX9_lookAheadTurned_47 rfl (Nat.zero_le _) (Nat.zero_le _) (fun z => absurd z (hp_sealed _)) ⟨rfl, rfl⟩
    · rw [if_neg q1] at hB
      refine ev_aload_n dX9_lookAheadTurned_29 rfl ?_
      refine es_getd 0 k_9 5 dX9_lookAheadTurned_30 (by decide) rfl (Or.inl w_583) hl0 rfl ?_
      obtain ⟨c2, hB⟩ := ck_of hB
      refine ev_aload_n dX9_lookAheadTurned_33 rfl ?_
      refine es_getr k_9 8 dX9_lookAheadTurned_34 (by decide) rfl (Or.inl w_586) hl0 rfl ?_
      obtain ⟨r3, S4, e5, hB⟩ := bd_of hB
      refine es_callVi (As := [.ref (rf l0 8)]) (t_X1_passDay c2 (tr_9_8 hl0) e5) dX9_lookAheadTurned_37 oX1_passDay w_662 rfl c2 rfl rfl (Nat.le_of_ble_eq_true rfl) rfl (am_fit.of (by decide)) ⟨Nat.zero_le _, Nat.zero_le _⟩ ?_
      refine ev_pop dX9_lookAheadTurned_40 rfl ?_
      refine es_iinc 1 dX9_lookAheadTurned_41 rfl (by decide) (by decide) rfl ?_
      refine ev_goto 23 dX9_lookAheadTurned_44 (by decide) ?_
      exact ev_ls (ih l0 l3 (l4 + 1) S4 hl0 hB) (And.intro rfl (And.intro rfl (And.intro rfl trivial)))
theorem t_X9_lookAheadTurned {G : am_G} {N : Nat} {l0 : Nat} {l1 : Int32} {l2 : Int32} {l3 : Int32} {S : am_S} {out : am_S} (hl0 : isC 9 l0 = true) (hB : f_X9_lookAheadTurned N l0 l1 l2 l3 S = some out) : am_Met G 6 mX9_lookAheadTurned 0 0 [.ref l0, .int l1, .int l2, .int l3] (hp S) (q_v out) q_n := by
  refine am_of (by decide +kernel) rfl rfl rfl (Nat.le_of_ble_eq_true rfl) ?_
  unfold f_X9_lookAheadTurned at hB
  refine ev_aload_n dX9_lookAheadTurned_0 rfl ?_
  refine es_getr k_9 8 dX9_lookAheadTurned_1 (by decide) rfl (Or.inl w_586) hl0 rfl ?_
  refine ev_aload_n dX9_lookAheadTurned_4 rfl ?_
  refine es_getr k_9 7 dX9_lookAheadTurned_5 (by decide) rfl (Or.inl w_585) hl0 rfl ?_
  obtain ⟨S2, e3, hB⟩ := bv_of hB
  refine es_callVv (As := [.ref (rf l0 7)]) (t_X7_copyFrom (tr_9_8 hl0) (tr_9_7 hl0) e3) dX9_lookAheadTurned_8 oX7_copyFrom w_803 rfl (tr_9_8 hl0) rfl rfl (Nat.le_of_ble_eq_true rfl) rfl (am_fit.of (by decide)) ⟨Nat.zero_le _, Nat.zero_le _⟩ ?_
  refine ev_aload_n dX9_lookAheadTurned_11 rfl ?_
  refine es_getr k_9 8 dX9_lookAheadTurned_12 (by decide) rfl (Or.inl w_586) hl0 rfl ?_
  refine ev_iload_n dX9_lookAheadTurned_15 rfl ?_
  refine ev_iload_n dX9_lookAheadTurned_16 rfl ?_
  obtain ⟨S5, e6, hB⟩ := bv_of hB
  refine es_callVv (As := [.int l1, .int l2]) (t_X7_turnTo (tr_9_8 hl0) e6) dX9_lookAheadTurned_17 oX7_turnTo w_1197 rfl (tr_9_8 hl0) rfl rfl (Nat.le_of_ble_eq_true rfl) rfl (am_fit.of (by decide)) ⟨Nat.zero_le _, Nat.zero_le _⟩ ?_
  refine ev_iconst 0 dX9_lookAheadTurned_20 (by decide) ?_
  refine ev_istore dX9_lookAheadTurned_21 (by decide) rfl ?_
  exact ev_ls (u_X9_lookAheadTurned_23 N l0 l3 0 S5 hl0 hB) (And.intro rfl (And.intro rfl (And.intro rfl trivial)))
def b_X9_gatherHeardByThoughts_102 (N : Nat) (k4 : Nat → Int32 → Int32 → am_S → Option (Int32 × am_S)) (k17 : Nat → Int32 → Int32 → Int32 → am_S → Option (Int32 × am_S)) (l0 : Nat) (l1 : Int32) (l2 : Int32) (l3 : Int32) (S : am_S) : Option (Int32 × am_S) := k17 l0 l1 l2 (l3 + 1) S
def b_X9_gatherHeardByThoughts_60 (N : Nat) (k4 : Nat → Int32 → Int32 → am_S → Option (Int32 × am_S)) (k17 : Nat → Int32 → Int32 → Int32 → am_S → Option (Int32 × am_S)) : Nat → Nat → Int32 → Int32 → Int32 → Int32 → am_S → Option (Int32 × am_S)
  | 0, _, _, _, _, _, _ => none
  | n + 1, l0, l1, l2, l3, l4, S => (if isC 1 (rg S 0) = true then (if (sg S (rg S 0) 3) ≤ l4 then b_X9_gatherHeardByThoughts_102 N (k4) (k17) l0 (l1 + 1) l2 l3 S else (bd (f_X7_heardBy N (rf l0 8) l4 S) (fun r3 S4 => (if inb ((l1 * 8) + l4) (ln (rf l0 16)) = true then b_X9_gatherHeardByThoughts_60 N k4 k17 n l0 l1 l2 l3 (l4 + 1) (sp S4 (rf l0 16) (Int32.toNatClampNeg ((l1 * 8) + l4)) r3) else none)))) else none)
def b_X9_gatherHeardByThoughts_17 (N : Nat) (k4 : Nat → Int32 → Int32 → am_S → Option (Int32 × am_S)) : Nat → Nat → Int32 → Int32 → Int32 → am_S → Option (Int32 × am_S)
  | 0, _, _, _, _, _ => none
  | n + 1, l0, l1, l2, l3, S => (if isC 1 (rg S 0) = true then (if (sg S (rg S 0) 3) ≤ l3 then k4 l0 l1 (l2 + 1) S else (bd (f_X9_turnFuture N l0 l2 l3 S) (fun r3 S4 => (if r3 = 0 then b_X9_gatherHeardByThoughts_102 N (k4) (b_X9_gatherHeardByThoughts_17 N k4 n) l0 l1 l2 l3 S4 else (bd (f_X9_futureAgrees N l0 S4) (fun r7 S8 => (if r7 = 0 then b_X9_gatherHeardByThoughts_102 N (k4) (b_X9_gatherHeardByThoughts_17 N k4 n) l0 l1 l2 l3 S8 else (if 64 ≤ l1 then b_X9_gatherHeardByThoughts_102 N (k4) (b_X9_gatherHeardByThoughts_17 N k4 n) l0 l1 l2 l3 S8 else (bv (f_X9_lookAheadTurned N l0 l2 l3 5 S8) (fun S13 => b_X9_gatherHeardByThoughts_60 N (k4) (b_X9_gatherHeardByThoughts_17 N k4 n) N l0 l1 l2 l3 0 S13)))))))))) else none)
def b_X9_gatherHeardByThoughts_4 (N : Nat) : Nat → Nat → Int32 → Int32 → am_S → Option (Int32 × am_S)
  | 0, _, _, _, _ => none
  | n + 1, l0, l1, l2, S => (if isC 1 (rg S 0) = true then (if (sg S (rg S 0) 3) ≤ l2 then some (l1, S) else b_X9_gatherHeardByThoughts_17 N (b_X9_gatherHeardByThoughts_4 N n) N l0 l1 l2 0 S) else none)
def f_X9_gatherHeardByThoughts (N : Nat) (l0 : Nat) (S : am_S) : Option (Int32 × am_S) := b_X9_gatherHeardByThoughts_4 N N l0 0 0 S
theorem u_X9_gatherHeardByThoughts_102 {G : am_G} {N : Nat} {h0 : am_H} {out : Int32 × am_S} {k4 : Nat → Int32 → Int32 → am_S → Option (Int32 × am_S)} {k17 : Nat → Int32 → Int32 → Int32 → am_S → Option (Int32 × am_S)} (hk4 : ∀ (l0 : Nat) (l1 : Int32) (l2 : Int32) (S : am_S), isC 9 l0 = true → k4 l0 l1 l2 S = some out → Ev G (am_R 7 0 0) (am_Φ G h0 0 0 (q_i out) q_n) mX9_gatherHeardByThoughts 0 0 4 [some (.ref l0), some (.int l1), some (.int l2), none, none] [] (hp S)) (hk17 : ∀ (l0 : Nat) (l1 : Int32) (l2 : Int32) (l3 : Int32) (S : am_S), isC 9 l0 = true → k17 l0 l1 l2 l3 S = some out → Ev G (am_R 7 0 0) (am_Φ G h0 0 0 (q_i out) q_n) mX9_gatherHeardByThoughts 0 0 17 [some (.ref l0), some (.int l1), some (.int l2), some (.int l3), none] [] (hp S)) (l0 : Nat) (l1 : Int32) (l2 : Int32) (l3 : Int32) (S : am_S) (hl0 : isC 9 l0 = true) (hB : b_X9_gatherHeardByThoughts_102 N k4 k17 l0 l1 l2 l3 S = some out) : Ev G (am_R 7 0 0) (am_Φ G h0 0 0 (q_i out) q_n) mX9_gatherHeardByThoughts 0 0 102 [some (.ref l0), some (.int l1), some (.int l2), some (.int l3), none] [] (hp S) := by
  unfold b_X9_gatherHeardByThoughts_102 at hB
  refine es_iinc 1 dX9_gatherHeardByThoughts_102 rfl (by decide) (by decide) rfl ?_
  refine ev_goto 17 dX9_gatherHeardByThoughts_105 (by decide) ?_
  exact ev_ls (hk17 l0 l1 l2 (l3 + 1) S hl0 hB) (And.intro rfl (And.intro rfl (And.intro rfl (And.intro rfl trivial))))
theorem u_X9_gatherHeardByThoughts_60 {G : am_G} {N : Nat} {h0 : am_H} {out : Int32 × am_S} {k4 : Nat → Int32 → Int32 → am_S → Option (Int32 × am_S)} {k17 : Nat → Int32 → Int32 → Int32 → am_S → Option (Int32 × am_S)} (hk4 : ∀ (l0 : Nat) (l1 : Int32) (l2 : Int32) (S : am_S), isC 9 l0 = true → k4 l0 l1 l2 S = some out → Ev G (am_R 7 0 0) (am_Φ G h0 0 0 (q_i out) q_n) mX9_gatherHeardByThoughts 0 0 4 [some (.ref l0), some (.int l1), some (.int l2), none, none] [] (hp S)) (hk17 : ∀ (l0 : Nat) (l1 : Int32) (l2 : Int32) (l3 : Int32) (S : am_S), isC 9 l0 = true → k17 l0 l1 l2 l3 S = some out → Ev G (am_R 7 0 0) (am_Φ G h0 0 0 (q_i out) q_n) mX9_gatherHeardByThoughts 0 0 17 [some (.ref l0), some (.int l1), some (.int l2), some (.int l3), none] [] (hp S)) : ∀ (n : Nat) (l0 : Nat) (l1 : Int32) (l2 : Int32) (l3 : Int32) (l4 : Int32) (S : am_S), isC 9 l0 = true → b_X9_gatherHeardByThoughts_60 N k4 k17 n l0 l1 l2 l3 l4 S = some out → Ev G (am_R 7 0 0) (am_Φ G h0 0 0 (q_i out) q_n) mX9_gatherHeardByThoughts 0 0 60 [some (.ref l0), some (.int l1), some (.int l2), some (.int l3), some (.int l4)] [] (hp S) := by
  intro n
  induction n with
  | zero =>
    intro l0 l1 l2 l3 l4 S hl0 hB
    exact absurd (show none = some out from hB) (fun q => by cases q)
  | succ n ih =>
    intro l0 l1 l2 l3 l4 S hl0 hB
    unfold b_X9_gatherHeardByThoughts_60 at hB
    refine ev_iload dX9_gatherHeardByThoughts_60 rfl ?_
    refine ev_aload_n dX9_gatherHeardByThoughts_62 rfl ?_
    refine es_getd 0 k_9 5 dX9_gatherHeardByThoughts_63 (by decide) rfl (Or.inl w_583) hl0 rfl ?_
    obtain ⟨c1, hB⟩ := ck_of hB
    refine es_geti k_1 3 dX9_gatherHeardByThoughts_66 (by decide) rfl (Or.inr ⟨_, n_143⟩) c1 rfl ?_
    refine ev_icmpge 99 dX9_gatherHeardByThoughts_69 (by decide) (fun q2 => ?_) (fun q2 => ?_)
    · rw [if_pos q2] at hB
      refine es_iinc 1 dX9_gatherHeardByThoughts_99 rfl (by decide) (by decide) rfl ?_
      exact ev_ls (u_X9_gatherHeardByThoughts_102 hk4 hk17 l0 (l1 + 1) l2 l3 S hl0 hB) (And.intro rfl (And.intro rfl (And.intro rfl (And.intro rfl trivial))))
    · rw [if_neg q2] at hB
      refine ev_aload_n dX9_gatherHeardByThoughts_72 rfl ?_
      refine es_getr k_9 16 dX9_gatherHeardByThoughts_73 (by decide) rfl (Or.inl w_594) hl0 rfl ?_
      refine ev_iload_n dX9_gatherHeardByThoughts_76 rfl ?_
      refine ev_bipush 8 dX9_gatherHeardByThoughts_77 (by decide) ?_
      refine ev_imul dX9_gatherHeardByThoughts_79 ?_
      refine ev_iload dX9_gatherHeardByThoughts_80 rfl ?_
      refine ev_iadd dX9_gatherHeardByThoughts_82 ?_
      refine ev_aload_n dX9_gatherHeardByThoughts_83 rfl ?_
      refine es_getr k_9 8 dX9_gatherHeardByThoughts_84 (by decide) rfl (Or.inl w_586) hl0 rfl ?_
      refine ev_iload dX9_gatherHeardByThoughts_87 rfl ?_
      obtain ⟨r3, S4, e5, hB⟩ := bd_of hB
      refine es_callVi (As := [.int l4]) (t_X7_heardBy (tr_9_8 hl0) e5) dX9_gatherHeardByThoughts_89 oX7_heardBy w_1153 rfl (tr_9_8 hl0) rfl rfl (Nat.le_of_ble_eq_true rfl) rfl (am_fit.of (by decide)) ⟨Nat.zero_le _, Nat.zero_le _⟩ ?_
      obtain ⟨c6, hB⟩ := ck_of hB
      refine es_iast dX9_gatherHeardByThoughts_92 (tr_9_16 hl0) c6 ?_
      refine es_iinc 1 dX9_gatherHeardByThoughts_93 rfl (by decide) (by decide) rfl ?_
      refine ev_goto 60 dX9_gatherHeardByThoughts_96 (by decide) ?_
      exact ev_ls (ih l0 l1 l2 l3 (l4 + 1) (sp S4 (rf l0 16) (Int32.toNatClampNeg ((l1 * 8) + l4)) r3) hl0 hB) (And.intro rfl (And.intro rfl (And.intro rfl (And.intro rfl (And.intro rfl trivial)))))
theorem u_X9_gatherHeardByThoughts_17 {G : am_G} {N : Nat} {h0 : am_H} {out : Int32 × am_S} {k4 : Nat → Int32 → Int32 → am_S → Option (Int32 × am_S)} (hk4 : ∀ (l0 : Nat) (l1 : Int32) (l2 : Int32) (S : am_S), isC 9 l0 = true → k4 l0 l1 l2 S = some out → Ev G (am_R 7 0 0) (am_Φ G h0 0 0 (q_i out) q_n) mX9_gatherHeardByThoughts 0 0 4 [some (.ref l0), some (.int l1), some (.int l2), none, none] [] (hp S)) : ∀ (n : Nat) (l0 : Nat) (l1 : Int32) (l2 : Int32) (l3 : Int32) (S : am_S), isC 9 l0 = true → b_X9_gatherHeardByThoughts_17 N k4 n l0 l1 l2 l3 S = some out → Ev G (am_R 7 0 0) (am_Φ G h0 0 0 (q_i out) q_n) mX9_gatherHeardByThoughts 0 0 17 [some (.ref l0), some (.int l1), some (.int l2), some (.int l3), none] [] (hp S) := by
  intro n
  induction n with
  | zero =>
    intro l0 l1 l2 l3 S hl0 hB
    exact absurd (show none = some out from hB) (fun q => by cases q)
  | succ n ih =>
    intro l0 l1 l2 l3 S hl0 hB
    unfold b_X9_gatherHeardByThoughts_17 at hB
    refine ev_iload_n dX9_gatherHeardByThoughts_17 rfl ?_
    refine ev_aload_n dX9_gatherHeardByThoughts_18 rfl ?_
    refine es_getd 0 k_9 5 dX9_gatherHeardByThoughts_19 (by decide) rfl (Or.inl w_583) hl0 rfl ?_
    obtain ⟨c1, hB⟩ := ck_of hB
    refine es_geti k_1 3 dX9_gatherHeardByThoughts_22 (by decide) rfl (Or.inr ⟨_, n_143⟩) c1 rfl ?_
    refine ev_icmpge 108 dX9_gatherHeardByThoughts_25 (by decide) (fun q2 => ?_) (fun q2 => ?_)
    · rw [if_pos q2] at hB
      refine es_iinc 1 dX9_gatherHeardByThoughts_108 rfl (by decide) (by decide) rfl ?_
      refine ev_goto 4 dX9_gatherHeardByThoughts_111 (by decide) ?_
      exact ev_ls (hk4 l0 l1 (l2 + 1) S hl0 hB) (And.intro rfl (And.intro rfl (And.intro rfl trivial)))
    · rw [if_neg q2] at hB
      refine ev_aload_n dX9_gatherHeardByThoughts_28 rfl ?_
      refine ev_iload_n dX9_gatherHeardByThoughts_29 rfl ?_
      refine ev_iload_n dX9_gatherHeardByThoughts_30 rfl ?_
      obtain ⟨r3, S4, e5, hB⟩ := bd_of hB
      refine es_callVi (As := [.int l2, .int l3]) (t_X9_turnFuture hl0 e5) dX9_gatherHeardByThoughts_31 oX9_turnFuture w_1383 rfl hl0 rfl rfl (Nat.le_of_ble_eq_true rfl) rfl (am_fit.of (by decide)) ⟨Nat.zero_le _, Nat.zero_le _⟩ ?_
      refine ev_ifeq 102 dX9_gatherHeardByThoughts_34 (by decide) (fun q6 => ?_) (fun q6 => ?_)
      · rw [if_pos q6] at hB
        exact ev_ls (u_X9_gatherHeardByThoughts_102 hk4 ih l0 l1 l2 l3 S4 hl0 hB) (And.intro rfl (And.intro rfl (And.intro rfl (And.intro rfl trivial))))
      · rw [if_neg q6] at hB
        refine ev_aload_n dX9_gatherHeardByThoughts_37 rfl ?_
        obtain ⟨r7, S8, e9, hB⟩ := bd_of hB
        refine es_callVi (As := []) (t_X9_futureAgrees hl0 e9) dX9_gatherHeardByThoughts_38 oX9_futureAgrees w_1369 rfl hl0 rfl rfl (Nat.le_of_ble_eq_true rfl) rfl (am_fit.of (by decide)) ⟨Nat.zero_le _, Nat.zero_le _⟩ ?_
        refine ev_ifeq 102 dX9_gatherHeardByThoughts_41 (by decide) (fun q10 => ?_) (fun q10 => ?_)
        · rw [if_pos q10] at hB
          exact ev_ls (u_X9_gatherHeardByThoughts_102 hk4 ih l0 l1 l2 l3 S8 hl0 hB) (And.intro rfl (And.intro rfl (And.intro rfl (And.intro rfl trivial))))
        · rw [if_neg q10] at hB
          refine ev_iload_n dX9_gatherHeardByThoughts_44 rfl ?_
          refine ev_bipush 64 dX9_gatherHeardByThoughts_45 (by decide) ?_
          refine ev_icmpge 102 dX9_gatherHeardByThoughts_47 (by decide) (fun q11 => ?_) (fun q11 => ?_)
          · rw [if_pos q11] at hB
            exact ev_ls (u_X9_gatherHeardByThoughts_102 hk4 ih l0 l1 l2 l3 S8 hl0 hB) (And.intro rfl (And.intro rfl (And.intro rfl (And.intro rfl trivial))))
          · rw [if_neg q11] at hB
            refine ev_aload_n dX9_gatherHeardByThoughts_50 rfl ?_
            refine ev_iload_n dX9_gatherHeardByThoughts_51 rfl ?_
            refine ev_iload_n dX9_gatherHeardByThoughts_52 rfl ?_
            refine ev_iconst 5 dX9_gatherHeardByThoughts_53 (by decide) ?_
            obtain ⟨S13, e14, hB⟩ := bv_of hB
            refine es_callVv (As := [.int l2, .int l3, .int 5]) (t_X9_lookAheadTurned hl0 e14) dX9_gatherHeardByThoughts_54 oX9_lookAheadTurned w_1398 rfl hl0 rfl rfl (Nat.le_of_ble_eq_true rfl) rfl (am_fit.of (by decide)) ⟨Nat.zero_le _, Nat.zero_le _⟩ ?_
            refine ev_iconst 0 dX9_gatherHeardByThoughts_57 (by decide) ?_
            refine ev_istore dX9_gatherHeardByThoughts_58 (by decide) rfl ?_
            exact ev_ls (u_X9_gatherHeardByThoughts_60 hk4 ih N l0 l1 l2 l3 0 S13 hl0 hB) (And.intro rfl (And.intro rfl (And.intro rfl (And.intro rfl (And.intro rfl trivial)))))
theorem u_X9_gatherHeardByThoughts_4 {G : am_G} {N : Nat} {h0 : am_H} {out : Int32 × am_S} : ∀ (n : Nat) (l0 : Nat) (l1 : Int32) (l2 : Int32) (S : am_S), isC 9 l0 = true → b_X9_gatherHeardByThoughts_4 N n l0 l1 l2 S = some out → Ev G (am_R 7 0 0) (am_Φ G h0 0 0 (q_i out) q_n) mX9_gatherHeardByThoughts 0 0 4 [some (.ref l0), some (.int l1), some (.int l2), none, none] [] (hp S) := by
  intro n
  induction n with
  | zero =>
    intro l0 l1 l2 S hl0 hB
    exact absurd (show none = some out from hB) (fun q => by cases q)
  | succ n ih =>
    intro l0 l1 l2 S hl0 hB
    unfold b_X9_gatherHeardByThoughts_4 at hB
    refine ev_iload_n dX9_gatherHeardByThoughts_4 rfl ?_
    refine ev_aload_n dX9_gatherHeardByThoughts_5 rfl ?_
    refine es_getd 0 k_9 5 dX9_gatherHeardByThoughts_6 (by decide) rfl (Or.inl w_583) hl0 rfl ?_
    obtain ⟨c1, hB⟩ := ck_of hB
    refine es_geti k_1 3 dX9_gatherHeardByThoughts_9 (by decide) rfl (Or.inr ⟨_, n_143⟩) c1 rfl ?_
    refine ev_icmpge 114 dX9_gatherHeardByThoughts_12 (by decide) (fun q2 => ?_) (fun q2 => ?_)
    · rw [if_pos q2] at hB
      refine ev_iload_n dX9_gatherHeardByThoughts_114 rfl ?_
      obtain rfl := Option.some.inj hB
      exact ev_iret dX9_gatherHeardByThoughts_115 rfl (Nat.zero_le _) (Nat.zero_le _) (fun z => absurd z (hp_sealed _)) ⟨rfl, rfl⟩
    · rw [if_neg q2] at hB
      refine ev_iconst 0 dX9_gatherHeardByThoughts_15 (by decide) ?_
      refine ev_istore_n dX9_gatherHeardByThoughts_16 (by decide) rfl ?_
      exact ev_ls (u_X9_gatherHeardByThoughts_17 ih N l0 l1 l2 0 S hl0 hB) (And.intro rfl (And.intro rfl (And.intro rfl (And.intro rfl trivial))))
theorem t_X9_gatherHeardByThoughts {G : am_G} {N : Nat} {l0 : Nat} {S : am_S} {out : Int32 × am_S} (hl0 : isC 9 l0 = true) (hB : f_X9_gatherHeardByThoughts N l0 S = some out) : am_Met G 7 mX9_gatherHeardByThoughts 0 0 [.ref l0] (hp S) (q_i out) q_n := by
  refine am_of (by decide +kernel) rfl rfl rfl (Nat.le_of_ble_eq_true rfl) ?_
  unfold f_X9_gatherHeardByThoughts at hB
  refine ev_iconst 0 dX9_gatherHeardByThoughts_0 (by decide) ?_
  refine ev_istore_n dX9_gatherHeardByThoughts_1 (by decide) rfl ?_
  refine ev_iconst 0 dX9_gatherHeardByThoughts_2 (by decide) ?_
  refine ev_istore_n dX9_gatherHeardByThoughts_3 (by decide) rfl ?_
  exact ev_ls (u_X9_gatherHeardByThoughts_4 N l0 0 0 S hl0 hB) (And.intro rfl (And.intro rfl (And.intro rfl trivial)))
def b_X9_isNewSum_15 (N : Nat) : Nat → Nat → Int32 → Int32 → Int32 → Int32 → am_S → Option (Int32 × am_S)
  | 0, _, _, _, _, _, _ => none
  | n + 1, l0, l1, l2, l3, l4, S => (if l2 ≤ l4 then some (1, S) else (if inb ((l4 * 8) + l1) (ln (rf l0 16)) = true then (if (sg S (rf l0 16) (Int32.toNatClampNeg ((l4 * 8) + l1))) = l3 then some (0, S) else b_X9_isNewSum_15 N n l0 l1 l2 l3 (l4 + 1) S) else none))
def f_X9_isNewSum (N : Nat) (l0 : Nat) (l1 : Int32) (l2 : Int32) (S : am_S) : Option (Int32 × am_S) := (if inb ((l2 * 8) + l1) (ln (rf l0 16)) = true then b_X9_isNewSum_15 N N l0 l1 l2 (sg S (rf l0 16) (Int32.toNatClampNeg ((l2 * 8) + l1))) 0 S else none)
theorem u_X9_isNewSum_15 {G : am_G} {N : Nat} {h0 : am_H} {out : Int32 × am_S} : ∀ (n : Nat) (l0 : Nat) (l1 : Int32) (l2 : Int32) (l3 : Int32) (l4 : Int32) (S : am_S), isC 9 l0 = true → b_X9_isNewSum_15 N n l0 l1 l2 l3 l4 S = some out → Ev G (am_R 1 0 0) (am_Φ G h0 0 0 (q_i out) q_n) mX9_isNewSum 0 0 15 [some (.ref l0), some (.int l1), some (.int l2), some (.int l3), some (.int l4)] [] (hp S) := by
  intro n
  induction n with
  | zero =>
    intro l0 l1 l2 l3 l4 S hl0 hB
    exact absurd (show none = some out from hB) (fun q => by cases q)
  | succ n ih =>
    intro l0 l1 l2 l3 l4 S hl0 hB
    unfold b_X9_isNewSum_15 at hB
    refine ev_iload dX9_isNewSum_15 rfl ?_
    refine ev_iload_n dX9_isNewSum_17 rfl ?_
    refine ev_icmpge 45 dX9_isNewSum_18 (by decide) (fun q1 => ?_) (fun q1 => ?_)
    · rw [if_pos q1] at hB
      refine ev_iconst 1 dX9_isNewSum_45 (by decide) ?_
      obtain rfl := Option.some.inj hB
      exact ev_zret dX9_isNewSum_46 rfl (by rfl) (Nat.zero_le _) (Nat.zero_le _) (fun z => absurd z (hp_sealed _)) ⟨rfl, rfl⟩
    · rw [if_neg q1] at hB
      refine ev_aload_n dX9_isNewSum_21 rfl ?_
      refine es_getr k_9 16 dX9_isNewSum_22 (by decide) rfl (Or.inl w_594) hl0 rfl ?_
      refine ev_iload dX9_isNewSum_25 rfl ?_
      refine ev_bipush 8 dX9_isNewSum_27 (by decide) ?_
      refine ev_imul dX9_isNewSum_29 ?_
      refine ev_iload_n dX9_isNewSum_30 rfl ?_
      refine ev_iadd dX9_isNewSum_31 ?_
      obtain ⟨c2, hB⟩ := ck_of hB
      refine es_iald dX9_isNewSum_32 (tr_9_16 hl0) c2 ?_
      refine ev_iload_n dX9_isNewSum_33 rfl ?_
      refine ev_icmpne 39 dX9_isNewSum_34 (by decide) (fun q3 => ?_) (fun q3 => ?_)
      · rw [if_neg q3] at hB
        refine es_iinc 1 dX9_isNewSum_39 rfl (by decide) (by decide) rfl ?_
        refine ev_goto 15 dX9_isNewSum_42 (by decide) ?_
        exact ev_ls (ih l0 l1 l2 l3 (l4 + 1) S hl0 hB) (And.intro rfl (And.intro rfl (And.intro rfl (And.intro rfl (And.intro rfl trivial)))))
      · rw [if_pos q3] at hB
        refine ev_iconst 0 dX9_isNewSum_37 (by decide) ?_
        obtain rfl := Option.some.inj hB
        exact ev_zret dX9_isNewSum_38 rfl (by rfl) (Nat.zero_le _) (Nat.zero_le _) (fun z => absurd z (hp_sealed _)) ⟨rfl, rfl⟩
theorem t_X9_isNewSum {G : am_G} {N : Nat} {l0 : Nat} {l1 : Int32} {l2 : Int32} {S : am_S} {out : Int32 × am_S} (hl0 : isC 9 l0 = true) (hB : f_X9_isNewSum N l0 l1 l2 S = some out) : am_Met G 1 mX9_isNewSum 0 0 [.ref l0, .int l1, .int l2] (hp S) (q_i out) q_n := by
  refine am_of (by decide +kernel) rfl rfl rfl (Nat.le_of_ble_eq_true rfl) ?_
  unfold f_X9_isNewSum at hB
  refine ev_aload_n dX9_isNewSum_0 rfl ?_
  refine es_getr k_9 16 dX9_isNewSum_1 (by decide) rfl (Or.inl w_594) hl0 rfl ?_
  refine ev_iload_n dX9_isNewSum_4 rfl ?_
  refine ev_bipush 8 dX9_isNewSum_5 (by decide) ?_
  refine ev_imul dX9_isNewSum_7 ?_
  refine ev_iload_n dX9_isNewSum_8 rfl ?_
  refine ev_iadd dX9_isNewSum_9 ?_
  obtain ⟨c1, hB⟩ := ck_of hB
  refine es_iald dX9_isNewSum_10 (tr_9_16 hl0) c1 ?_
  refine ev_istore_n dX9_isNewSum_11 (by decide) rfl ?_
  refine ev_iconst 0 dX9_isNewSum_12 (by decide) ?_
  refine ev_istore dX9_isNewSum_13 (by decide) rfl ?_
  exact ev_ls (u_X9_isNewSum_15 N l0 l1 l2 (sg S (rf l0 16) (Int32.toNatClampNeg ((l2 * 8) + l1))) 0 S hl0 hB) (And.intro rfl (And.intro rfl (And.intro rfl (And.intro rfl (And.intro rfl trivial)))))
def b_X9_countUnlike_24 (N : Nat) (k5 : Nat → Int32 → Int32 → Int32 → Int32 → am_S → Option (Int32 × am_S)) (l0 : Nat) (l1 : Int32) (l2 : Int32) (l3 : Int32) (l4 : Int32) (S : am_S) : Option (Int32 × am_S) := k5 l0 l1 l2 l3 (l4 + 1) S
def b_X9_countUnlike_5 (N : Nat) : Nat → Nat → Int32 → Int32 → Int32 → Int32 → am_S → Option (Int32 × am_S)
  | 0, _, _, _, _, _, _ => none
  | n + 1, l0, l1, l2, l3, l4, S => (if l2 ≤ l4 then some (l3, S) else (bd (f_X9_isNewSum N l0 l1 l4 S) (fun r2 S3 => (if r2 = 0 then b_X9_countUnlike_24 N (b_X9_countUnlike_5 N n) l0 l1 l2 l3 l4 S3 else b_X9_countUnlike_24 N (b_X9_countUnlike_5 N n) l0 l1 l2 (l3 + 1) l4 S3))))
def f_X9_countUnlike (N : Nat) (l0 : Nat) (l1 : Int32) (l2 : Int32) (S : am_S) : Option (Int32 × am_S) := b_X9_countUnlike_5 N N l0 l1 l2 0 0 S
theorem u_X9_countUnlike_24 {G : am_G} {N : Nat} {h0 : am_H} {out : Int32 × am_S} {k5 : Nat → Int32 → Int32 → Int32 → Int32 → am_S → Option (Int32 × am_S)} (hk5 : ∀ (l0 : Nat) (l1 : Int32) (l2 : Int32) (l3 : Int32) (l4 : Int32) (S : am_S), isC 9 l0 = true → k5 l0 l1 l2 l3 l4 S = some out → Ev G (am_R 2 0 0) (am_Φ G h0 0 0 (q_i out) q_n) mX9_countUnlike 0 0 5 [some (.ref l0), some (.int l1), some (.int l2), some (.int l3), some (.int l4)] [] (hp S)) (l0 : Nat) (l1 : Int32) (l2 : Int32) (l3 : Int32) (l4 : Int32) (S : am_S) (hl0 : isC 9 l0 = true) (hB : b_X9_countUnlike_24 N k5 l0 l1 l2 l3 l4 S = some out) : Ev G (am_R 2 0 0) (am_Φ G h0 0 0 (q_i out) q_n) mX9_countUnlike 0 0 24 [some (.ref l0), some (.int l1), some (.int l2), some (.int l3), some (.int l4)] [] (hp S) := by
  unfold b_X9_countUnlike_24 at hB
  refine es_iinc 1 dX9_countUnlike_24 rfl (by decide) (by decide) rfl ?_
  refine ev_goto 5 dX9_countUnlike_27 (by decide) ?_
  exact ev_ls (hk5 l0 l1 l2 l3 (l4 + 1) S hl0 hB) (And.intro rfl (And.intro rfl (And.intro rfl (And.intro rfl (And.intro rfl trivial)))))
theorem u_X9_countUnlike_5 {G : am_G} {N : Nat} {h0 : am_H} {out : Int32 × am_S} : ∀ (n : Nat) (l0 : Nat) (l1 : Int32) (l2 : Int32) (l3 : Int32) (l4 : Int32) (S : am_S), isC 9 l0 = true → b_X9_countUnlike_5 N n l0 l1 l2 l3 l4 S = some out → Ev G (am_R 2 0 0) (am_Φ G h0 0 0 (q_i out) q_n) mX9_countUnlike 0 0 5 [some (.ref l0), some (.int l1), some (.int l2), some (.int l3), some (.int l4)] [] (hp S) := by
  intro n
  induction n with
  | zero =>
    intro l0 l1 l2 l3 l4 S hl0 hB
    exact absurd (show none = some out from hB) (fun q => by cases q)
  | succ n ih =>
    intro l0 l1 l2 l3 l4 S hl0 hB
    unfold b_X9_countUnlike_5 at hB
    refine ev_iload dX9_countUnlike_5 rfl ?_
    refine ev_iload_n dX9_countUnlike_7 rfl ?_
    refine ev_icmpge 30 dX9_countUnlike_8 (by decide) (fun q1 => ?_) (fun q1 => ?_)
    · rw [if_pos q1] at hB
      refine ev_iload_n dX9_countUnlike_30 rfl ?_
      obtain rfl := Option.some.inj hB
      exact ev_iret dX9_countUnlike_31 rfl (Nat.zero_le _) (Nat.zero_le _) (fun z => absurd z (hp_sealed _)) ⟨rfl, rfl⟩
    · rw [if_neg q1] at hB
      refine ev_aload_n dX9_countUnlike_11 rfl ?_
      refine ev_iload_n dX9_countUnlike_12 rfl ?_
      refine ev_iload dX9_countUnlike_13 rfl ?_
      obtain ⟨r2, S3, e4, hB⟩ := bd_of hB
      refine es_callVi (As := [.int l1, .int l4]) (t_X9_isNewSum hl0 e4) dX9_countUnlike_15 oX9_isNewSum w_1406 rfl hl0 rfl rfl (Nat.le_of_ble_eq_true rfl) rfl (am_fit.of (by decide)) ⟨Nat.zero_le _, Nat.zero_le _⟩ ?_
      refine ev_ifeq 24 dX9_countUnlike_18 (by decide) (fun q5 => ?_) (fun q5 => ?_)
      · rw [if_pos q5] at hB
        exact ev_ls (u_X9_countUnlike_24 ih l0 l1 l2 l3 l4 S3 hl0 hB) (And.intro rfl (And.intro rfl (And.intro rfl (And.intro rfl (And.intro rfl trivial)))))
      · rw [if_neg q5] at hB
        refine es_iinc 1 dX9_countUnlike_21 rfl (by decide) (by decide) rfl ?_
        exact ev_ls (u_X9_countUnlike_24 ih l0 l1 l2 (l3 + 1) l4 S3 hl0 hB) (And.intro rfl (And.intro rfl (And.intro rfl (And.intro rfl (And.intro rfl trivial)))))
theorem t_X9_countUnlike {G : am_G} {N : Nat} {l0 : Nat} {l1 : Int32} {l2 : Int32} {S : am_S} {out : Int32 × am_S} (hl0 : isC 9 l0 = true) (hB : f_X9_countUnlike N l0 l1 l2 S = some out) : am_Met G 2 mX9_countUnlike 0 0 [.ref l0, .int l1, .int l2] (hp S) (q_i out) q_n := by
  refine am_of (by decide +kernel) rfl rfl rfl (Nat.le_of_ble_eq_true rfl) ?_
  unfold f_X9_countUnlike at hB
  refine ev_iconst 0 dX9_countUnlike_0 (by decide) ?_
  refine ev_istore_n dX9_countUnlike_1 (by decide) rfl ?_
  refine ev_iconst 0 dX9_countUnlike_2 (by decide) ?_
  refine ev_istore dX9_countUnlike_3 (by decide) rfl ?_
  exact ev_ls (u_X9_countUnlike_5 N l0 l1 l2 0 0 S hl0 hB) (And.intro rfl (And.intro rfl (And.intro rfl (And.intro rfl (And.intro rfl trivial)))))
def b_X9_ask_53 (N : Nat) (k18 : Nat → Int32 → Int32 → Int32 → Int32 → Int32 → am_S → Option (am_T)) (l0 : Nat) (l1 : Int32) (l2 : Int32) (l3 : Int32) (l4 : Int32) (l5 : Int32) (S : am_S) : Option (am_T) := k18 l0 l1 l2 l3 l4 (l5 + 1) S
def b_X9_ask_69 (N : Nat) (z0 : Int32) (S : am_S) : Option (am_T) := some (.inl z0, S)
def b_X9_ask_18 (N : Nat) : Nat → Nat → Int32 → Int32 → Int32 → Int32 → Int32 → am_S → Option (am_T)
  | 0, _, _, _, _, _, _, _ => none
  | n + 1, l0, l1, l2, l3, l4, l5, S => (if isC 1 (rg S 0) = true then (if (sg S (rg S 0) 3) ≤ l5 then (if l1 = 0 then b_X9_ask_69 N l3 S else b_X9_ask_69 N l4 S) else (bd (f_X9_countUnlike N l0 l5 l2 S) (fun r4 S5 => (if r4 ≤ l4 then b_X9_ask_53 N (b_X9_ask_18 N n) l0 l1 l2 l3 l4 l5 S5 else b_X9_ask_53 N (b_X9_ask_18 N n) l0 l1 l2 l5 r4 l5 S5)))) else none)
def f_X9_ask (N : Nat) (l0 : Nat) (l1 : Int32) (S : am_S) : Option (am_T) := (bt (f_X9_needWhat N l1 1 S) (fun r1 S2 => (bd (f_X9_gatherHeardByThoughts N l0 S2) (fun r5 S6 => b_X9_ask_18 N N l0 l1 r5 (-1) 0 0 S6))))
theorem u_X9_ask_53 {G : am_G} {N : Nat} {h0 : am_H} {out : am_T} {k18 : Nat → Int32 → Int32 → Int32 → Int32 → Int32 → am_S → Option (am_T)} (hk18 : ∀ (l0 : Nat) (l1 : Int32) (l2 : Int32) (l3 : Int32) (l4 : Int32) (l5 : Int32) (S : am_S), isC 9 l0 = true → k18 l0 l1 l2 l3 l4 l5 S = some out → Ev G (am_R 8 (t_c out) (t_s out)) (am_Φ G h0 (t_c out) (t_s out) (q_ti out) (q_tx out)) mX9_ask 0 0 18 [some (.ref l0), some (.int l1), some (.int l2), some (.int l3), some (.int l4), some (.int l5), none] [] (hp S)) (l0 : Nat) (l1 : Int32) (l2 : Int32) (l3 : Int32) (l4 : Int32) (l5 : Int32) (S : am_S) (hl0 : isC 9 l0 = true) (hB : b_X9_ask_53 N k18 l0 l1 l2 l3 l4 l5 S = some out) : Ev G (am_R 8 (t_c out) (t_s out)) (am_Φ G h0 (t_c out) (t_s out) (q_ti out) (q_tx out)) mX9_ask 0 0 53 [some (.ref l0), some (.int l1), some (.int l2), some (.int l3), some (.int l4), some (.int l5), none] [] (hp S) := by
  unfold b_X9_ask_53 at hB
  refine es_iinc 1 dX9_ask_53 rfl (by decide) (by decide) rfl ?_
  refine ev_goto 18 dX9_ask_56 (by decide) ?_
  exact ev_ls (hk18 l0 l1 l2 l3 l4 (l5 + 1) S hl0 hB) (And.intro rfl (And.intro rfl (And.intro rfl (And.intro rfl (And.intro rfl (And.intro rfl trivial))))))
theorem u_X9_ask_69 {G : am_G} {N : Nat} {h0 : am_H} {out : am_T} (z0 : Int32) (S : am_S) (hB : b_X9_ask_69 N z0 S = some out) : Ev G (am_R 8 (t_c out) (t_s out)) (am_Φ G h0 (t_c out) (t_s out) (q_ti out) (q_tx out)) mX9_ask 0 0 69 [none, none, none, none, none, none, none] [.int z0] (hp S) := by
  unfold b_X9_ask_69 at hB
  obtain rfl := Option.some.inj hB
  exact ev_iret dX9_ask_69 rfl (Nat.zero_le _) (Nat.zero_le _) (fun z => absurd z (hp_sealed _)) ⟨_, rfl, rfl, rfl⟩
theorem u_X9_ask_18 {G : am_G} {N : Nat} {h0 : am_H} {out : am_T} : ∀ (n : Nat) (l0 : Nat) (l1 : Int32) (l2 : Int32) (l3 : Int32) (l4 : Int32) (l5 : Int32) (S : am_S), isC 9 l0 = true → b_X9_ask_18 N n l0 l1 l2 l3 l4 l5 S = some out → Ev G (am_R 8 (t_c out) (t_s out)) (am_Φ G h0 (t_c out) (t_s out) (q_ti out) (q_tx out)) mX9_ask 0 0 18 [some (.ref l0), some (.int l1), some (.int l2), some (.int l3), some (.int l4), some (.int l5), none] [] (hp S) := by
  intro n
  induction n with
  | zero =>
    intro l0 l1 l2 l3 l4 l5 S hl0 hB
    exact absurd (show none = some out from hB) (fun q => by cases q)
  | succ n ih =>
    intro l0 l1 l2 l3 l4 l5 S hl0 hB
    unfold b_X9_ask_18 at hB
    refine ev_iload dX9_ask_18 rfl ?_
    refine ev_aload_n dX9_ask_20 rfl ?_
    refine es_getd 0 k_9 5 dX9_ask_21 (by decide) rfl (Or.inl w_583) hl0 rfl ?_
    obtain ⟨c1, hB⟩ := ck_of hB
    refine es_geti k_1 3 dX9_ask_24 (by decide) rfl (Or.inr ⟨_, n_143⟩) c1 rfl ?_
    refine ev_icmpge 59 dX9_ask_27 (by decide) (fun q2 => ?_) (fun q2 => ?_)
    · rw [if_pos q2] at hB
      refine ev_iload_n dX9_ask_59 rfl ?_
      refine ev_ifne 67 dX9_ask_60 (by decide) (fun q3 => ?_) (fun q3 => ?_)
      · rw [if_neg q3] at hB
        refine ev_iload dX9_ask_67 rfl ?_
        exact ev_ls (u_X9_ask_69 l4 S hB) trivial
      · rw [if_pos q3] at hB
        refine ev_iload_n dX9_ask_63 rfl ?_
        refine ev_goto 69 dX9_ask_64 (by decide) ?_
        exact ev_ls (u_X9_ask_69 l3 S hB) trivial
    · rw [if_neg q2] at hB
      refine ev_aload_n dX9_ask_30 rfl ?_
      refine ev_iload dX9_ask_31 rfl ?_
      refine ev_iload_n dX9_ask_33 rfl ?_
      obtain ⟨r4, S5, e6, hB⟩ := bd_of hB
      refine es_callVi (As := [.int l5, .int l2]) (t_X9_countUnlike hl0 e6) dX9_ask_34 oX9_countUnlike w_1402 rfl hl0 rfl rfl (Nat.le_of_ble_eq_true rfl) rfl (am_fit.of (by decide)) ⟨Nat.zero_le _, Nat.zero_le _⟩ ?_
      refine ev_istore dX9_ask_37 (by decide) rfl ?_
      refine ev_iload dX9_ask_39 rfl ?_
      refine ev_iload dX9_ask_41 rfl ?_
      refine ev_icmple 53 dX9_ask_43 (by decide) (fun q7 => ?_) (fun q7 => ?_)
      · rw [if_pos q7] at hB
        exact ev_ls (u_X9_ask_53 ih l0 l1 l2 l3 l4 l5 S5 hl0 hB) (And.intro rfl (And.intro rfl (And.intro rfl (And.intro rfl (And.intro rfl (And.intro rfl trivial))))))
      · rw [if_neg q7] at hB
        refine ev_iload dX9_ask_46 rfl ?_
        refine ev_istore_n dX9_ask_48 (by decide) rfl ?_
        refine ev_iload dX9_ask_49 rfl ?_
        refine ev_istore dX9_ask_51 (by decide) rfl ?_
        exact ev_ls (u_X9_ask_53 ih l0 l1 l2 l5 r4 l5 S5 hl0 hB) (And.intro rfl (And.intro rfl (And.intro rfl (And.intro rfl (And.intro rfl (And.intro rfl trivial))))))
theorem t_X9_ask {G : am_G} {N : Nat} {l0 : Nat} {l1 : Int32} {S : am_S} {out : am_T} (hl0 : isC 9 l0 = true) (hB : f_X9_ask N l0 l1 S = some out) : am_Met G 8 mX9_ask (t_c out) (t_s out) [.ref l0, .int l1] (hp S) (q_ti out) (q_tx out) := by
  refine am_of (by decide +kernel) rfl rfl rfl (Nat.le_of_ble_eq_true rfl) ?_
  unfold f_X9_ask at hB
  refine ev_iload_n dX9_ask_0 rfl ?_
  refine ev_iconst 1 dX9_ask_1 (by decide) ?_
  rcases bt_of hB with ⟨r1, S2, e3, hB⟩ | ⟨x4, S2, e3, rfl⟩
  rotate_left
  · exact es_callSx (As := [.int l1, .int 1]) (t_X9_needWhat e3) nq_v dX9_ask_2 oX9_needWhat w_1208 rfl (Nat.le_of_ble_eq_true rfl) rfl (am_fit.of (by decide)) rfl
  refine es_callStv (As := [.int l1, .int 1]) (t_X9_needWhat e3) dX9_ask_2 oX9_needWhat w_1208 rfl (Nat.le_of_ble_eq_true rfl) rfl (am_fit.of (by decide)) ⟨Nat.zero_le _, Nat.zero_le _⟩ ?_
  refine ev_aload_n dX9_ask_5 rfl ?_
  obtain ⟨r5, S6, e7, hB⟩ := bd_of hB
  refine es_callVi (As := []) (t_X9_gatherHeardByThoughts hl0 e7) dX9_ask_6 oX9_gatherHeardByThoughts w_1394 rfl hl0 rfl rfl (Nat.le_of_ble_eq_true rfl) rfl (am_fit.of (by decide)) ⟨Nat.zero_le _, Nat.zero_le _⟩ ?_
  refine ev_istore_n dX9_ask_9 (by decide) rfl ?_
  refine ev_iconst (-1) dX9_ask_10 (by decide) ?_
  refine ev_istore_n dX9_ask_11 (by decide) rfl ?_
  refine ev_iconst 0 dX9_ask_12 (by decide) ?_
  refine ev_istore dX9_ask_13 (by decide) rfl ?_
  refine ev_iconst 0 dX9_ask_15 (by decide) ?_
  refine ev_istore dX9_ask_16 (by decide) rfl ?_
  exact ev_ls (u_X9_ask_18 N l0 l1 r5 (-1) 0 0 S6 hl0 hB) (And.intro rfl (And.intro rfl (And.intro rfl (And.intro rfl (And.intro rfl (And.intro rfl trivial))))))
def b_X9_weightOf_30 (N : Nat) (k5 : Int32 → Int32 → Int32 → Int32 → Int32 → am_S → Option (Int32 × am_S)) (l0 : Int32) (l1 : Int32) (l2 : Int32) (l4 : Int32) (z0 : Int32) (z1 : Int32) (S : am_S) : Option (Int32 × am_S) := k5 l0 l1 l2 (z0 * z1) (l4 + 1) S
def b_X9_weightOf_5 (N : Nat) : Nat → Int32 → Int32 → Int32 → Int32 → Int32 → am_S → Option (Int32 × am_S)
  | 0, _, _, _, _, _, _ => none
  | n + 1, l0, l1, l2, l3, l4, S => (if l1 ≤ l4 then some (l3, S) else (if ((l0 >>> (l4 &&& (31 : Int32))) &&& 1) = 1 then b_X9_weightOf_30 N (b_X9_weightOf_5 N n) l0 l1 l2 l4 l3 l2 S else b_X9_weightOf_30 N (b_X9_weightOf_5 N n) l0 l1 l2 l4 l3 (10 - l2) S))
def f_X9_weightOf (N : Nat) (l0 : Int32) (l1 : Int32) (l2 : Int32) (S : am_S) : Option (Int32 × am_S) := b_X9_weightOf_5 N N l0 l1 l2 1 0 S
theorem u_X9_weightOf_30 {G : am_G} {N : Nat} {h0 : am_H} {out : Int32 × am_S} {k5 : Int32 → Int32 → Int32 → Int32 → Int32 → am_S → Option (Int32 × am_S)} (hk5 : ∀ (l0 : Int32) (l1 : Int32) (l2 : Int32) (l3 : Int32) (l4 : Int32) (S : am_S), k5 l0 l1 l2 l3 l4 S = some out → Ev G (am_R 1 0 0) (am_Φ G h0 0 0 (q_i out) q_n) mX9_weightOf 0 0 5 [some (.int l0), some (.int l1), some (.int l2), some (.int l3), some (.int l4)] [] (hp S)) (l0 : Int32) (l1 : Int32) (l2 : Int32) (l4 : Int32) (z0 : Int32) (z1 : Int32) (S : am_S) (hB : b_X9_weightOf_30 N k5 l0 l1 l2 l4 z0 z1 S = some out) : Ev G (am_R 1 0 0) (am_Φ G h0 0 0 (q_i out) q_n) mX9_weightOf 0 0 30 [some (.int l0), some (.int l1), some (.int l2), none, some (.int l4)] [.int z1, .int z0] (hp S) := by
  unfold b_X9_weightOf_30 at hB
  refine ev_imul dX9_weightOf_30 ?_
  refine ev_istore_n dX9_weightOf_31 (by decide) rfl ?_
  refine es_iinc 1 dX9_weightOf_32 rfl (by decide) (by decide) rfl ?_
  refine ev_goto 5 dX9_weightOf_35 (by decide) ?_
  exact ev_ls (hk5 l0 l1 l2 (z0 * z1) (l4 + 1) S hB) (And.intro rfl (And.intro rfl (And.intro rfl (And.intro rfl (And.intro rfl trivial)))))
theorem u_X9_weightOf_5 {G : am_G} {N : Nat} {h0 : am_H} {out : Int32 × am_S} : ∀ (n : Nat) (l0 : Int32) (l1 : Int32) (l2 : Int32) (l3 : Int32) (l4 : Int32) (S : am_S), b_X9_weightOf_5 N n l0 l1 l2 l3 l4 S = some out → Ev G (am_R 1 0 0) (am_Φ G h0 0 0 (q_i out) q_n) mX9_weightOf 0 0 5 [some (.int l0), some (.int l1), some (.int l2), some (.int l3), some (.int l4)] [] (hp S) := by
  intro n
  induction n with
  | zero =>
    intro l0 l1 l2 l3 l4 S hB
    exact absurd (show none = some out from hB) (fun q => by cases q)
  | succ n ih =>
    intro l0 l1 l2 l3 l4 S hB
    unfold b_X9_weightOf_5 at hB
    refine ev_iload dX9_weightOf_5 rfl ?_
    refine ev_iload_n dX9_weightOf_7 rfl ?_
    refine ev_icmpge 38 dX9_weightOf_8 (by decide) (fun q1 => ?_) (fun q1 => ?_)
    · rw [if_pos q1] at hB
      refine ev_iload_n dX9_weightOf_38 rfl ?_
      obtain rfl := Option.some.inj hB
      exact ev_iret dX9_weightOf_39 rfl (Nat.zero_le _) (Nat.zero_le _) (fun z => absurd z (hp_sealed _)) ⟨rfl, rfl⟩
    · rw [if_neg q1] at hB
      refine ev_iload_n dX9_weightOf_11 rfl ?_
      refine ev_iload_n dX9_weightOf_12 rfl ?_
      refine ev_iload dX9_weightOf_13 rfl ?_
      refine ev_ishr dX9_weightOf_15 ?_
      refine ev_iconst 1 dX9_weightOf_16 (by decide) ?_
      refine ev_iand dX9_weightOf_17 ?_
      refine ev_iconst 1 dX9_weightOf_18 (by decide) ?_
      refine ev_icmpne 26 dX9_weightOf_19 (by decide) (fun q2 => ?_) (fun q2 => ?_)
      · rw [if_neg q2] at hB
        refine ev_bipush 10 dX9_weightOf_26 (by decide) ?_
        refine ev_iload_n dX9_weightOf_28 rfl ?_
        refine ev_isub dX9_weightOf_29 ?_
        exact ev_ls (u_X9_weightOf_30 ih l0 l1 l2 l4 l3 (10 - l2) S hB) (And.intro rfl (And.intro rfl (And.intro rfl (And.intro rfl trivial))))
      · rw [if_pos q2] at hB
        refine ev_iload_n dX9_weightOf_22 rfl ?_
        refine ev_goto 30 dX9_weightOf_23 (by decide) ?_
        exact ev_ls (u_X9_weightOf_30 ih l0 l1 l2 l4 l3 l2 S hB) (And.intro rfl (And.intro rfl (And.intro rfl (And.intro rfl trivial))))
theorem t_X9_weightOf {G : am_G} {N : Nat} {l0 : Int32} {l1 : Int32} {l2 : Int32} {S : am_S} {out : Int32 × am_S} (hB : f_X9_weightOf N l0 l1 l2 S = some out) : am_Met G 1 mX9_weightOf 0 0 [.int l0, .int l1, .int l2] (hp S) (q_i out) q_n := by
  refine am_of (by decide +kernel) rfl rfl rfl (Nat.le_of_ble_eq_true rfl) ?_
  unfold f_X9_weightOf at hB
  refine ev_iconst 1 dX9_weightOf_0 (by decide) ?_
  refine ev_istore_n dX9_weightOf_1 (by decide) rfl ?_
  refine ev_iconst 0 dX9_weightOf_2 (by decide) ?_
  refine ev_istore dX9_weightOf_3 (by decide) rfl ?_
  exact ev_ls (u_X9_weightOf_5 N l0 l1 l2 1 0 S hB) (And.intro rfl (And.intro rfl (And.intro rfl (And.intro rfl (And.intro rfl trivial)))))
def b_X9_heardByNights_36 (N : Nat) (k14 : Nat → Int32 → Int32 → Int32 → Int32 → am_S → Option (Int32 × am_S)) (l0 : Nat) (l1 : Int32) (l2 : Int32) (l3 : Int32) (l4 : Int32) (z0 : Int32) (S : am_S) : Option (Int32 × am_S) := (if isC 1 (rg S 0) = true then (if isC 1 (rg S 0) = true then (bd (f_X7_dayNow N (rf l0 8) S) (fun r3 S4 => (bd (f_X1_boxOn N (rg S 0) r3 S4) (fun r6 S7 => (bd (f_X1_passDayWith N (rg S 0) (rf l0 8) z0 r6 S7) (fun r9 S10 => k14 l0 l1 l2 l3 (l4 + 1) S10)))))) else none) else none)
def b_X9_heardByNights_14 (N : Nat) : Nat → Nat → Int32 → Int32 → Int32 → Int32 → am_S → Option (Int32 × am_S)
  | 0, _, _, _, _, _, _ => none
  | n + 1, l0, l1, l2, l3, l4, S => (if l3 ≤ l4 then (bd (f_X7_heardBy N (rf l0 8) l1 S) (fun r2 S3 => some (r2, S3))) else (if ((l2 >>> (l4 &&& (31 : Int32))) &&& 1) = 1 then b_X9_heardByNights_36 N (b_X9_heardByNights_14 N n) l0 l1 l2 l3 l4 9 S else b_X9_heardByNights_36 N (b_X9_heardByNights_14 N n) l0 l1 l2 l3 l4 0 S))
def f_X9_heardByNights (N : Nat) (l0 : Nat) (l1 : Int32) (l2 : Int32) (l3 : Int32) (S : am_S) : Option (Int32 × am_S) := (bv (f_X7_copyFrom N (rf l0 8) (rf l0 7) S) (fun S2 => b_X9_heardByNights_14 N N l0 l1 l2 l3 0 S2))
theorem u_X9_heardByNights_36 {G : am_G} {N : Nat} {h0 : am_H} {out : Int32 × am_S} {k14 : Nat → Int32 → Int32 → Int32 → Int32 → am_S → Option (Int32 × am_S)} (hk14 : ∀ (l0 : Nat) (l1 : Int32) (l2 : Int32) (l3 : Int32) (l4 : Int32) (S : am_S), isC 9 l0 = true → k14 l0 l1 l2 l3 l4 S = some out → Ev G (am_R 5 0 0) (am_Φ G h0 0 0 (q_i out) q_n) mX9_heardByNights 0 0 14 [some (.ref l0), some (.int l1), some (.int l2), some (.int l3), some (.int l4), none] [] (hp S)) (l0 : Nat) (l1 : Int32) (l2 : Int32) (l3 : Int32) (l4 : Int32) (z0 : Int32) (S : am_S) (hl0 : isC 9 l0 = true) (hB : b_X9_heardByNights_36 N k14 l0 l1 l2 l3 l4 z0 S = some out) : Ev G (am_R 5 0 0) (am_Φ G h0 0 0 (q_i out) q_n) mX9_heardByNights 0 0 36 [some (.ref l0), some (.int l1), some (.int l2), some (.int l3), some (.int l4), none] [.int z0] (hp S) := by
  unfold b_X9_heardByNights_36 at hB
  refine ev_istore dX9_heardByNights_36 (by decide) rfl ?_
  refine ev_aload_n dX9_heardByNights_38 rfl ?_
  refine es_getd 0 k_9 5 dX9_heardByNights_39 (by decide) rfl (Or.inl w_583) hl0 rfl ?_
  obtain ⟨c1, hB⟩ := ck_of hB
  refine ev_aload_n dX9_heardByNights_42 rfl ?_
  refine es_getr k_9 8 dX9_heardByNights_43 (by decide) rfl (Or.inl w_586) hl0 rfl ?_
  refine ev_iload dX9_heardByNights_46 rfl ?_
  refine ev_aload_n dX9_heardByNights_48 rfl ?_
  refine es_getd 0 k_9 5 dX9_heardByNights_49 (by decide) rfl (Or.inl w_583) hl0 rfl ?_
  obtain ⟨c2, hB⟩ := ck_of hB
  refine ev_aload_n dX9_heardByNights_52 rfl ?_
  refine es_getr k_9 8 dX9_heardByNights_53 (by decide) rfl (Or.inl w_586) hl0 rfl ?_
  obtain ⟨r3, S4, e5, hB⟩ := bd_of hB
  refine es_callVi (As := []) (t_X7_dayNow (tr_9_8 hl0) e5) dX9_heardByNights_56 oX7_dayNow w_652 rfl (tr_9_8 hl0) rfl rfl (Nat.le_of_ble_eq_true rfl) rfl (am_fit.of (by decide)) ⟨Nat.zero_le _, Nat.zero_le _⟩ ?_
  obtain ⟨r6, S7, e8, hB⟩ := bd_of hB
  refine es_callVi (As := [.int r3]) (t_X1_boxOn c2 e8) dX9_heardByNights_59 oX1_boxOn w_1080 rfl c2 rfl rfl (Nat.le_of_ble_eq_true rfl) rfl (am_fit.of (by decide)) ⟨Nat.zero_le _, Nat.zero_le _⟩ ?_
  obtain ⟨r9, S10, e11, hB⟩ := bd_of hB
  refine es_callVi (As := [.ref (rf l0 8), .int z0, .int r6]) (t_X1_passDayWith c1 (tr_9_8 hl0) e11) dX9_heardByNights_62 oX1_passDayWith w_1424 rfl c1 rfl rfl (Nat.le_of_ble_eq_true rfl) rfl (am_fit.of (by decide)) ⟨Nat.zero_le _, Nat.zero_le _⟩ ?_
  refine ev_pop dX9_heardByNights_65 rfl ?_
  refine es_iinc 1 dX9_heardByNights_66 rfl (by decide) (by decide) rfl ?_
  refine ev_goto 14 dX9_heardByNights_69 (by decide) ?_
  exact ev_ls (hk14 l0 l1 l2 l3 (l4 + 1) S10 hl0 hB) (And.intro rfl (And.intro rfl (And.intro rfl (And.intro rfl (And.intro rfl trivial)))))
theorem u_X9_heardByNights_14 {G : am_G} {N : Nat} {h0 : am_H} {out : Int32 × am_S} : ∀ (n : Nat) (l0 : Nat) (l1 : Int32) (l2 : Int32) (l3 : Int32) (l4 : Int32) (S : am_S), isC 9 l0 = true → b_X9_heardByNights_14 N n l0 l1 l2 l3 l4 S = some out → Ev G (am_R 5 0 0) (am_Φ G h0 0 0 (q_i out) q_n) mX9_heardByNights 0 0 14 [some (.ref l0), some (.int l1), some (.int l2), some (.int l3), some (.int l4), none] [] (hp S) := by
  intro n
  induction n with
  | zero =>
    intro l0 l1 l2 l3 l4 S hl0 hB
    exact absurd (show none = some out from hB) (fun q => by cases q)
  | succ n ih =>
    intro l0 l1 l2 l3 l4 S hl0 hB
    unfold b_X9_heardByNights_14 at hB
    refine ev_iload dX9_heardByNights_14 rfl ?_
    refine ev_iload_n dX9_heardByNights_16 rfl ?_
    refine ev_icmpge 72 dX9_heardByNights_17 (by decide) (fun q1 => ?_) (fun q1 => ?_)
    · rw [if_pos q1] at hB
      refine ev_aload_n dX9_heardByNights_72 rfl ?_
      refine es_getr k_9 8 dX9_heardByNights_73 (by decide) rfl (Or.inl w_586) hl0 rfl ?_
      refine ev_iload_n dX9_heardByNights_76 rfl ?_
      obtain ⟨r2, S3, e4, hB⟩ := bd_of hB
      refine es_callVi (As := [.int l1]) (t_X7_heardBy (tr_9_8 hl0) e4) dX9_heardByNights_77 oX7_heardBy w_1153 rfl (tr_9_8 hl0) rfl rfl (Nat.le_of_ble_eq_true rfl) rfl (am_fit.of (by decide)) ⟨Nat.zero_le _, Nat.zero_le _⟩ ?_
      obtain rfl := Option.some.inj hB
      exact ev_iret dX9_heardByNights_80 rfl (Nat.zero_le _) (Nat.zero_le _) (fun z => absurd z (hp_sealed _)) ⟨rfl, rfl⟩
    · rw [if_neg q1] at hB
      refine ev_iload_n dX9_heardByNights_20 rfl ?_
      refine ev_iload dX9_heardByNights_21 rfl ?_
      refine ev_ishr dX9_heardByNights_23 ?_
      refine ev_iconst 1 dX9_heardByNights_24 (by decide) ?_
      refine ev_iand dX9_heardByNights_25 ?_
      refine ev_iconst 1 dX9_heardByNights_26 (by decide) ?_
      refine ev_icmpne 35 dX9_heardByNights_27 (by decide) (fun q5 => ?_) (fun q5 => ?_)
      · rw [if_neg q5] at hB
        refine ev_iconst 0 dX9_heardByNights_35 (by decide) ?_
        exact ev_ls (u_X9_heardByNights_36 ih l0 l1 l2 l3 l4 0 S hl0 hB) (And.intro rfl (And.intro rfl (And.intro rfl (And.intro rfl (And.intro rfl trivial)))))
      · rw [if_pos q5] at hB
        refine ev_bipush 9 dX9_heardByNights_30 (by decide) ?_
        refine ev_goto 36 dX9_heardByNights_32 (by decide) ?_
        exact ev_ls (u_X9_heardByNights_36 ih l0 l1 l2 l3 l4 9 S hl0 hB) (And.intro rfl (And.intro rfl (And.intro rfl (And.intro rfl (And.intro rfl trivial)))))
theorem t_X9_heardByNights {G : am_G} {N : Nat} {l0 : Nat} {l1 : Int32} {l2 : Int32} {l3 : Int32} {S : am_S} {out : Int32 × am_S} (hl0 : isC 9 l0 = true) (hB : f_X9_heardByNights N l0 l1 l2 l3 S = some out) : am_Met G 5 mX9_heardByNights 0 0 [.ref l0, .int l1, .int l2, .int l3] (hp S) (q_i out) q_n := by
  refine am_of (by decide +kernel) rfl rfl rfl (Nat.le_of_ble_eq_true rfl) ?_
  unfold f_X9_heardByNights at hB
  refine ev_aload_n dX9_heardByNights_0 rfl ?_
  refine es_getr k_9 8 dX9_heardByNights_1 (by decide) rfl (Or.inl w_586) hl0 rfl ?_
  refine ev_aload_n dX9_heardByNights_4 rfl ?_
  refine es_getr k_9 7 dX9_heardByNights_5 (by decide) rfl (Or.inl w_585) hl0 rfl ?_
  obtain ⟨S2, e3, hB⟩ := bv_of hB
  refine es_callVv (As := [.ref (rf l0 7)]) (t_X7_copyFrom (tr_9_8 hl0) (tr_9_7 hl0) e3) dX9_heardByNights_8 oX7_copyFrom w_803 rfl (tr_9_8 hl0) rfl rfl (Nat.le_of_ble_eq_true rfl) rfl (am_fit.of (by decide)) ⟨Nat.zero_le _, Nat.zero_le _⟩ ?_
  refine ev_iconst 0 dX9_heardByNights_11 (by decide) ?_
  refine ev_istore dX9_heardByNights_12 (by decide) rfl ?_
  exact ev_ls (u_X9_heardByNights_14 N l0 l1 l2 l3 0 S2 hl0 hB) (And.intro rfl (And.intro rfl (And.intro rfl (And.intro rfl (And.intro rfl trivial)))))
def b_X9_wetNights_75 (N : Nat) (k33 : Nat → Int32 → Int32 → Int32 → Int32 → Int32 → Int32 → am_S → Option (am_T)) (l0 : Nat) (l1 : Int32) (l2 : Int32) (l3 : Int32) (l4 : Int32) (l5 : Int32) (l6 : Int32) (S : am_S) : Option (am_T) := k33 l0 l1 l2 l3 l4 l5 (l6 + 1) S
def b_X9_wetNights_33 (N : Nat) : Nat → Nat → Int32 → Int32 → Int32 → Int32 → Int32 → Int32 → am_S → Option (am_T)
  | 0, _, _, _, _, _, _, _, _ => none
  | n + 1, l0, l1, l2, l3, l4, l5, l6, S => (if ((1 : Int32) <<< (l3 &&& (31 : Int32))) ≤ l6 then some (.inl l5, S) else (bd (f_X9_weightOf N l6 l3 l4 S) (fun r2 S3 => (if r2 ≤ 0 then b_X9_wetNights_75 N (b_X9_wetNights_33 N n) l0 l1 l2 l3 l4 l5 l6 S3 else (bd (f_X9_heardByNights N l0 l1 l6 l3 S3) (fun r6 S7 => (if r6 < l2 then b_X9_wetNights_75 N (b_X9_wetNights_33 N n) l0 l1 l2 l3 l4 l5 l6 S7 else b_X9_wetNights_75 N (b_X9_wetNights_33 N n) l0 l1 l2 l3 l4 (l5 + r2) l6 S7)))))))
def f_X9_wetNights (N : Nat) (l0 : Nat) (l1 : Int32) (l2 : Int32) (l3 : Int32) (l4 : Int32) (S : am_S) : Option (am_T) := (bt (f_X9_needPerson N l0 l1 S) (fun r1 S2 => (bt (f_X9_needRange N l2 0 9999 S2) (fun r5 S6 => (bt (f_X9_needRange N l3 1 5 S6) (fun r9 S10 => (bt (f_X9_needRange N l4 0 10 S10) (fun r13 S14 => b_X9_wetNights_33 N N l0 l1 l2 l3 l4 0 0 S14))))))))
theorem u_X9_wetNights_75 {G : am_G} {N : Nat} {h0 : am_H} {out : am_T} {k33 : Nat → Int32 → Int32 → Int32 → Int32 → Int32 → Int32 → am_S → Option (am_T)} (hk33 : ∀ (l0 : Nat) (l1 : Int32) (l2 : Int32) (l3 : Int32) (l4 : Int32) (l5 : Int32) (l6 : Int32) (S : am_S), isC 9 l0 = true → k33 l0 l1 l2 l3 l4 l5 l6 S = some out → Ev G (am_R 8 (t_c out) (t_s out)) (am_Φ G h0 (t_c out) (t_s out) (q_ti out) (q_tx out)) mX9_wetNights 0 0 33 [some (.ref l0), some (.int l1), some (.int l2), some (.int l3), some (.int l4), some (.int l5), some (.int l6), none] [] (hp S)) (l0 : Nat) (l1 : Int32) (l2 : Int32) (l3 : Int32) (l4 : Int32) (l5 : Int32) (l6 : Int32) (S : am_S) (hl0 : isC 9 l0 = true) (hB : b_X9_wetNights_75 N k33 l0 l1 l2 l3 l4 l5 l6 S = some out) : Ev G (am_R 8 (t_c out) (t_s out)) (am_Φ G h0 (t_c out) (t_s out) (q_ti out) (q_tx out)) mX9_wetNights 0 0 75 [some (.ref l0), some (.int l1), some (.int l2), some (.int l3), some (.int l4), some (.int l5), some (.int l6), none] [] (hp S) := by
  unfold b_X9_wetNights_75 at hB
  refine es_iinc 1 dX9_wetNights_75 rfl (by decide) (by decide) rfl ?_
  refine ev_goto 33 dX9_wetNights_78 (by decide) ?_
  exact ev_ls (hk33 l0 l1 l2 l3 l4 l5 (l6 + 1) S hl0 hB) (And.intro rfl (And.intro rfl (And.intro rfl (And.intro rfl (And.intro rfl (And.intro rfl (And.intro rfl trivial)))))))
theorem u_X9_wetNights_33 {G : am_G} {N : Nat} {h0 : am_H} {out : am_T} : ∀ (n : Nat) (l0 : Nat) (l1 : Int32) (l2 : Int32) (l3 : Int32) (l4 : Int32) (l5 : Int32) (l6 : Int32) (S : am_S), isC 9 l0 = true → b_X9_wetNights_33 N n l0 l1 l2 l3 l4 l5 l6 S = some out → Ev G (am_R 8 (t_c out) (t_s out)) (am_Φ G h0 (t_c out) (t_s out) (q_ti out) (q_tx out)) mX9_wetNights 0 0 33 [some (.ref l0), some (.int l1), some (.int l2), some (.int l3), some (.int l4), some (.int l5), some (.int l6), none] [] (hp S) := by
  intro n
  induction n with
  | zero =>
    intro l0 l1 l2 l3 l4 l5 l6 S hl0 hB
    exact absurd (show none = some out from hB) (fun q => by cases q)
  | succ n ih =>
    intro l0 l1 l2 l3 l4 l5 l6 S hl0 hB
    unfold b_X9_wetNights_33 at hB
    refine ev_iload dX9_wetNights_33 rfl ?_
    refine ev_iconst 1 dX9_wetNights_35 (by decide) ?_
    refine ev_iload_n dX9_wetNights_36 rfl ?_
    refine ev_ishl dX9_wetNights_37 ?_
    refine ev_icmpge 81 dX9_wetNights_38 (by decide) (fun q1 => ?_) (fun q1 => ?_)
    · rw [if_pos q1] at hB
      refine ev_iload dX9_wetNights_81 rfl ?_
      obtain rfl := Option.some.inj hB
      exact ev_iret dX9_wetNights_83 rfl (Nat.zero_le _) (Nat.zero_le _) (fun z => absurd z (hp_sealed _)) ⟨_, rfl, rfl, rfl⟩
    · rw [if_neg q1] at hB
      refine ev_iload dX9_wetNights_41 rfl ?_
      refine ev_iload_n dX9_wetNights_43 rfl ?_
      refine ev_iload dX9_wetNights_44 rfl ?_
      obtain ⟨r2, S3, e4, hB⟩ := bd_of hB
      refine es_callSi (As := [.int l6, .int l3, .int l4]) (t_X9_weightOf e4) dX9_wetNights_46 oX9_weightOf w_1417 rfl (Nat.le_of_ble_eq_true rfl) rfl (am_fit.of (by decide)) ⟨Nat.zero_le _, Nat.zero_le _⟩ ?_
      refine ev_istore dX9_wetNights_49 (by decide) rfl ?_
      refine ev_iload dX9_wetNights_51 rfl ?_
      refine ev_ifle 75 dX9_wetNights_53 (by decide) (fun q5 => ?_) (fun q5 => ?_)
      · rw [if_pos q5] at hB
        exact ev_ls (u_X9_wetNights_75 ih l0 l1 l2 l3 l4 l5 l6 S3 hl0 hB) (And.intro rfl (And.intro rfl (And.intro rfl (And.intro rfl (And.intro rfl (And.intro rfl (And.intro rfl trivial)))))))
      · rw [if_neg q5] at hB
        refine ev_aload_n dX9_wetNights_56 rfl ?_
        refine ev_iload_n dX9_wetNights_57 rfl ?_
        refine ev_iload dX9_wetNights_58 rfl ?_
        refine ev_iload_n dX9_wetNights_60 rfl ?_
        obtain ⟨r6, S7, e8, hB⟩ := bd_of hB
        refine es_callVi (As := [.int l1, .int l6, .int l3]) (t_X9_heardByNights hl0 e8) dX9_wetNights_61 oX9_heardByNights w_1420 rfl hl0 rfl rfl (Nat.le_of_ble_eq_true rfl) rfl (am_fit.of (by decide)) ⟨Nat.zero_le _, Nat.zero_le _⟩ ?_
        refine ev_iload_n dX9_wetNights_64 rfl ?_
        refine ev_icmplt 75 dX9_wetNights_65 (by decide) (fun q9 => ?_) (fun q9 => ?_)
        · rw [if_pos q9] at hB
          exact ev_ls (u_X9_wetNights_75 ih l0 l1 l2 l3 l4 l5 l6 S7 hl0 hB) (And.intro rfl (And.intro rfl (And.intro rfl (And.intro rfl (And.intro rfl (And.intro rfl (And.intro rfl trivial)))))))
        · rw [if_neg q9] at hB
          refine ev_iload dX9_wetNights_68 rfl ?_
          refine ev_iload dX9_wetNights_70 rfl ?_
          refine ev_iadd dX9_wetNights_72 ?_
          refine ev_istore dX9_wetNights_73 (by decide) rfl ?_
          exact ev_ls (u_X9_wetNights_75 ih l0 l1 l2 l3 l4 (l5 + r2) l6 S7 hl0 hB) (And.intro rfl (And.intro rfl (And.intro rfl (And.intro rfl (And.intro rfl (And.intro rfl (And.intro rfl trivial)))))))
theorem t_X9_wetNights {G : am_G} {N : Nat} {l0 : Nat} {l1 : Int32} {l2 : Int32} {l3 : Int32} {l4 : Int32} {S : am_S} {out : am_T} (hl0 : isC 9 l0 = true) (hB : f_X9_wetNights N l0 l1 l2 l3 l4 S = some out) : am_Met G 8 mX9_wetNights (t_c out) (t_s out) [.ref l0, .int l1, .int l2, .int l3, .int l4] (hp S) (q_ti out) (q_tx out) := by
  refine am_of (by decide +kernel) rfl rfl rfl (Nat.le_of_ble_eq_true rfl) ?_
  unfold f_X9_wetNights at hB
  refine ev_aload_n dX9_wetNights_0 rfl ?_
  refine ev_iload_n dX9_wetNights_1 rfl ?_
  rcases bt_of hB with ⟨r1, S2, e3, hB⟩ | ⟨x4, S2, e3, rfl⟩
  rotate_left
  · exact es_callVx (As := [.int l1]) (t_X9_needPerson hl0 e3) nq_v dX9_wetNights_2 oX9_needPerson w_1146 rfl hl0 rfl rfl (Nat.le_of_ble_eq_true rfl) rfl (am_fit.of (by decide)) rfl
  refine es_callVtv (As := [.int l1]) (t_X9_needPerson hl0 e3) dX9_wetNights_2 oX9_needPerson w_1146 rfl hl0 rfl rfl (Nat.le_of_ble_eq_true rfl) rfl (am_fit.of (by decide)) ⟨Nat.zero_le _, Nat.zero_le _⟩ ?_
  refine ev_iload_n dX9_wetNights_5 rfl ?_
  refine ev_iconst 0 dX9_wetNights_6 (by decide) ?_
  refine ev_sipush 9999 dX9_wetNights_7 (by decide) ?_
  rcases bt_of hB with ⟨r5, S6, e7, hB⟩ | ⟨x8, S6, e7, rfl⟩
  rotate_left
  · exact es_callSx (As := [.int l2, .int 0, .int 9999]) (t_X9_needRange e7) nq_v dX9_wetNights_10 oX9_needRange w_1211 rfl (Nat.le_of_ble_eq_true rfl) rfl (am_fit.of (by decide)) rfl
  refine es_callStv (As := [.int l2, .int 0, .int 9999]) (t_X9_needRange e7) dX9_wetNights_10 oX9_needRange w_1211 rfl (Nat.le_of_ble_eq_true rfl) rfl (am_fit.of (by decide)) ⟨Nat.zero_le _, Nat.zero_le _⟩ ?_
  refine ev_iload_n dX9_wetNights_13 rfl ?_
  refine ev_iconst 1 dX9_wetNights_14 (by decide) ?_
  refine ev_iconst 5 dX9_wetNights_15 (by decide) ?_
  rcases bt_of hB with ⟨r9, S10, e11, hB⟩ | ⟨x12, S10, e11, rfl⟩
  rotate_left
  · exact es_callSx (As := [.int l3, .int 1, .int 5]) (t_X9_needRange e11) nq_v dX9_wetNights_16 oX9_needRange w_1211 rfl (Nat.le_of_ble_eq_true rfl) rfl (am_fit.of (by decide)) rfl
  refine es_callStv (As := [.int l3, .int 1, .int 5]) (t_X9_needRange e11) dX9_wetNights_16 oX9_needRange w_1211 rfl (Nat.le_of_ble_eq_true rfl) rfl (am_fit.of (by decide)) ⟨Nat.zero_le _, Nat.zero_le _⟩ ?_
  refine ev_iload dX9_wetNights_19 rfl ?_
  refine ev_iconst 0 dX9_wetNights_21 (by decide) ?_
  refine ev_bipush 10 dX9_wetNights_22 (by decide) ?_
  rcases bt_of hB with ⟨r13, S14, e15, hB⟩ | ⟨x16, S14, e15, rfl⟩
  rotate_left
  · exact es_callSx (As := [.int l4, .int 0, .int 10]) (t_X9_needRange e15) nq_v dX9_wetNights_24 oX9_needRange w_1211 rfl (Nat.le_of_ble_eq_true rfl) rfl (am_fit.of (by decide)) rfl
  refine es_callStv (As := [.int l4, .int 0, .int 10]) (t_X9_needRange e15) dX9_wetNights_24 oX9_needRange w_1211 rfl (Nat.le_of_ble_eq_true rfl) rfl (am_fit.of (by decide)) ⟨Nat.zero_le _, Nat.zero_le _⟩ ?_
  refine ev_iconst 0 dX9_wetNights_27 (by decide) ?_
  refine ev_istore dX9_wetNights_28 (by decide) rfl ?_
  refine ev_iconst 0 dX9_wetNights_30 (by decide) ?_
  refine ev_istore dX9_wetNights_31 (by decide) rfl ?_
  exact ev_ls (u_X9_wetNights_33 N l0 l1 l2 l3 l4 0 0 S14 hl0 hB) (And.intro rfl (And.intro rfl (And.intro rfl (And.intro rfl (And.intro rfl (And.intro rfl (And.intro rfl trivial)))))))
def f_X9_gainOf (N : Nat) (l0 : Nat) (l1 : Int32) (l2 : Int32) (S : am_S) : Option (Int32 × am_S) := (bd (f_X7_heardBy N (rf l0 8) l1 S) (fun r1 S2 => (bd (f_X7_regretOf N (rf l0 8) l1 S2) (fun r5 S6 => some ((((r1 / 5) - (r5 / 5)) - (2 * l2)), S6)))))
theorem t_X9_gainOf {G : am_G} {N : Nat} {l0 : Nat} {l1 : Int32} {l2 : Int32} {S : am_S} {out : Int32 × am_S} (hl0 : isC 9 l0 = true) (hB : f_X9_gainOf N l0 l1 l2 S = some out) : am_Met G 2 mX9_gainOf 0 0 [.ref l0, .int l1, .int l2] (hp S) (q_i out) q_n := by
  refine am_of (by decide +kernel) rfl rfl rfl (Nat.le_of_ble_eq_true rfl) ?_
  unfold f_X9_gainOf at hB
  refine ev_aload_n dX9_gainOf_0 rfl ?_
  refine es_getr k_9 8 dX9_gainOf_1 (by decide) rfl (Or.inl w_586) hl0 rfl ?_
  refine ev_iload_n dX9_gainOf_4 rfl ?_
  obtain ⟨r1, S2, e3, hB⟩ := bd_of hB
  refine es_callVi (As := [.int l1]) (t_X7_heardBy (tr_9_8 hl0) e3) dX9_gainOf_5 oX7_heardBy w_1153 rfl (tr_9_8 hl0) rfl rfl (Nat.le_of_ble_eq_true rfl) rfl (am_fit.of (by decide)) ⟨Nat.zero_le _, Nat.zero_le _⟩ ?_
  refine ev_iconst 5 dX9_gainOf_8 (by decide) ?_
  refine ev_idiv dX9_gainOf_9 (by decide) ?_
  refine ev_aload_n dX9_gainOf_10 rfl ?_
  refine es_getr k_9 8 dX9_gainOf_11 (by decide) rfl (Or.inl w_586) hl0 rfl ?_
  refine ev_iload_n dX9_gainOf_14 rfl ?_
  obtain ⟨r5, S6, e7, hB⟩ := bd_of hB
  refine es_callVi (As := [.int l1]) (t_X7_regretOf (tr_9_8 hl0) e7) dX9_gainOf_15 oX7_regretOf w_1152 rfl (tr_9_8 hl0) rfl rfl (Nat.le_of_ble_eq_true rfl) rfl (am_fit.of (by decide)) ⟨Nat.zero_le _, Nat.zero_le _⟩ ?_
  refine ev_iconst 5 dX9_gainOf_18 (by decide) ?_
  refine ev_idiv dX9_gainOf_19 (by decide) ?_
  refine ev_isub dX9_gainOf_20 ?_
  refine ev_iconst 2 dX9_gainOf_21 (by decide) ?_
  refine ev_iload_n dX9_gainOf_22 rfl ?_
  refine ev_imul dX9_gainOf_23 ?_
  refine ev_isub dX9_gainOf_24 ?_
  obtain rfl := Option.some.inj hB
  exact ev_iret dX9_gainOf_25 rfl (Nat.zero_le _) (Nat.zero_le _) (fun z => absurd z (hp_sealed _)) ⟨rfl, rfl⟩
def b_X9_weighCouple_71 (N : Nat) (k26 : Nat → Int32 → Int32 → Int32 → Int32 → Int32 → Int32 → am_S → Option (am_S)) (l0 : Nat) (l1 : Int32) (l2 : Int32) (l3 : Int32) (l4 : Int32) (l5 : Int32) (l6 : Int32) (S : am_S) : Option (am_S) := k26 l0 l1 l2 l3 l4 l5 (l6 + 1) S
def b_X9_weighCouple_62 (N : Nat) (k26 : Nat → Int32 → Int32 → Int32 → Int32 → Int32 → Int32 → am_S → Option (am_S)) (l0 : Nat) (l1 : Int32) (l2 : Int32) (l3 : Int32) (l4 : Int32) (l5 : Int32) (l6 : Int32) (S : am_S) : Option (am_S) := (bv (f_X7_sendLetter N (rf l0 8) l6 S) (fun S2 => b_X9_weighCouple_71 N (k26) l0 l1 l2 l3 l4 l5 l6 S2))
def b_X9_weighCouple_50 (N : Nat) (k26 : Nat → Int32 → Int32 → Int32 → Int32 → Int32 → Int32 → am_S → Option (am_S)) (l0 : Nat) (l1 : Int32) (l2 : Int32) (l3 : Int32) (l4 : Int32) (l5 : Int32) (l6 : Int32) (S : am_S) : Option (am_S) := (if l6 = l2 then (if l5 = 1 then b_X9_weighCouple_62 N (k26) l0 l1 l2 l3 l4 l5 l6 S else b_X9_weighCouple_71 N (k26) l0 l1 l2 l3 l4 l5 l6 S) else b_X9_weighCouple_71 N (k26) l0 l1 l2 l3 l4 l5 l6 S)
def b_X9_weighCouple_80 (N : Nat) : Nat → Nat → Int32 → Int32 → Int32 → Int32 → Int32 → Int32 → am_S → Option (am_S)
  | 0, _, _, _, _, _, _, _, _ => none
  | n + 1, l0, l1, l2, l3, l4, l5, l6, S => (if 3 ≤ l6 then (bd (f_X9_gainOf N l0 l1 l4 S) (fun r2 S3 => (if inb (2 * l3) (ln (rf l0 17)) = true then (bd (f_X9_gainOf N l0 l2 l5 (sp S3 (rf l0 17) (Int32.toNatClampNeg (2 * l3)) r2)) (fun r6 S7 => (if inb ((2 * l3) + 1) (ln (rf l0 17)) = true then some (sp S7 (rf l0 17) (Int32.toNatClampNeg ((2 * l3) + 1)) r6) else none))) else none))) else (if isC 1 (rg S 0) = true then (bd (f_X1_passDay N (rg S 0) (rf l0 8) S) (fun r11 S12 => b_X9_weighCouple_80 N n l0 l1 l2 l3 l4 l5 (l6 + 1) S12)) else none))
def b_X9_weighCouple_26 (N : Nat) : Nat → Nat → Int32 → Int32 → Int32 → Int32 → Int32 → Int32 → am_S → Option (am_S)
  | 0, _, _, _, _, _, _, _, _ => none
  | n + 1, l0, l1, l2, l3, l4, l5, l6, S => (if isC 1 (rg S 0) = true then (if (sg S (rg S 0) 3) ≤ l6 then b_X9_weighCouple_80 N N l0 l1 l2 l3 l4 l5 0 S else (if l6 = l1 then (if l4 = 1 then b_X9_weighCouple_62 N (b_X9_weighCouple_26 N n) l0 l1 l2 l3 l4 l5 l6 S else b_X9_weighCouple_50 N (b_X9_weighCouple_26 N n) l0 l1 l2 l3 l4 l5 l6 S) else b_X9_weighCouple_50 N (b_X9_weighCouple_26 N n) l0 l1 l2 l3 l4 l5 l6 S)) else none)
def f_X9_weighCouple (N : Nat) (l0 : Nat) (l1 : Int32) (l2 : Int32) (l3 : Int32) (S : am_S) : Option (am_S) := (bv (f_X7_copyFrom N (rf l0 8) (rf l0 7) S) (fun S2 => b_X9_weighCouple_26 N N l0 l1 l2 l3 ((l3 >>> (1 &&& (31 : Int32))) &&& 1) (l3 &&& 1) 0 S2))
theorem u_X9_weighCouple_71 {G : am_G} {N : Nat} {h0 : am_H} {out : am_S} {k26 : Nat → Int32 → Int32 → Int32 → Int32 → Int32 → Int32 → am_S → Option (am_S)} (hk26 : ∀ (l0 : Nat) (l1 : Int32) (l2 : Int32) (l3 : Int32) (l4 : Int32) (l5 : Int32) (l6 : Int32) (S : am_S), isC 9 l0 = true → k26 l0 l1 l2 l3 l4 l5 l6 S = some out → Ev G (am_R 6 0 0) (am_Φ G h0 0 0 (q_v out) q_n) mX9_weighCouple 0 0 26 [some (.ref l0), some (.int l1), some (.int l2), some (.int l3), some (.int l4), some (.int l5), some (.int l6)] [] (hp S)) (l0 : Nat) (l1 : Int32) (l2 : Int32) (l3 : Int32) (l4 : Int32) (l5 : Int32) (l6 : Int32) (S : am_S) (hl0 : isC 9 l0 = true) (hB : b_X9_weighCouple_71 N k26 l0 l1 l2 l3 l4 l5 l6 S = some out) : Ev G (am_R 6 0 0) (am_Φ G h0 0 0 (q_v out) q_n) mX9_weighCouple 0 0 71 [some (.ref l0), some (.int l1), some (.int l2), some (.int l3), some (.int l4), some (.int l5), some (.int l6)] [] (hp S) := by
  unfold b_X9_weighCouple_71 at hB
  refine es_iinc 1 dX9_weighCouple_71 rfl (by decide) (by decide) rfl ?_
  refine ev_goto 26 dX9_weighCouple_74 (by decide) ?_
  exact ev_ls (hk26 l0 l1 l2 l3 l4 l5 (l6 + 1) S hl0 hB) (And.intro rfl (And.intro rfl (And.intro rfl (And.intro rfl (And.intro rfl (And.intro rfl (And.intro rfl trivial)))))))
theorem u_X9_weighCouple_62 {G : am_G} {N : Nat} {h0 : am_H} {out : am_S} {k26 : Nat → Int32 → Int32 → Int32 → Int32 → Int32 → Int32 → am_S → Option (am_S)} (hk26 : ∀ (l0 : Nat) (l1 : Int32) (l2 : Int32) (l3 : Int32) (l4 : Int32) (l5 : Int32) (l6 : Int32) (S : am_S), isC 9 l0 = true → k26 l0 l1 l2 l3 l4 l5 l6 S = some out → Ev G (am_R 6 0 0) (am_Φ G h0 0 0 (q_v out) q_n) mX9_weighCouple 0 0 26 [some (.ref l0), some (.int l1), some (.int l2), some (.int l3), some (.int l4), some (.int l5), some (.int l6)] [] (hp S)) (l0 : Nat) (l1 : Int32) (l2 : Int32) (l3 : Int32) (l4 : Int32) (l5 : Int32) (l6 : Int32) (S : am_S) (hl0 : isC 9 l0 = true) (hB : b_X9_weighCouple_62 N k26 l0 l1 l2 l3 l4 l5 l6 S = some out) : Ev G (am_R 6 0 0) (am_Φ G h0 0 0 (q_v out) q_n) mX9_weighCouple 0 0 62 [some (.ref l0), some (.int l1), some (.int l2), some (.int l3), some (.int l4), some (.int l5), some (.int l6)] [] (hp S) := by
  unfold b_X9_weighCouple_62 at hB
  refine ev_aload_n dX9_weighCouple_62 rfl ?_
  refine es_getr k_9 8 dX9_weighCouple_63 (by decide) rfl (Or.inl w_586) hl0 rfl ?_
  refine ev_iload dX9_weighCouple_66 rfl ?_
  obtain ⟨S2, e3, hB⟩ := bv_of hB
  refine es_callVv (As := [.int l6]) (t_X7_sendLetter (tr_9_8 hl0) e3) dX9_weighCouple_68 oX7_sendLetter w_1175 rfl (tr_9_8 hl0) rfl rfl (Nat.le_of_ble_eq_true rfl) rfl (am_fit.of (by decide)) ⟨Nat.zero_le _, Nat.zero_le _⟩ ?_
  exact ev_ls (u_X9_weighCouple_71 hk26 l0 l1 l2 l3 l4 l5 l6 S2 hl0 hB) (And.intro rfl (And.intro rfl (And.intro rfl (And.intro rfl (And.intro rfl (And.intro rfl (And.intro rfl trivial)))))))
theorem u_X9_weighCouple_50 {G : am_G} {N : Nat} {h0 : am_H} {out : am_S} {k26 : Nat → Int32 → Int32 → Int32 → Int32 → Int32 → Int32 → am_S → Option (am_S)} (hk26 : ∀ (l0 : Nat) (l1 : Int32) (l2 : Int32) (l3 : Int32) (l4 : Int32) (l5 : Int32) (l6 : Int32) (S : am_S), isC 9 l0 = true → k26 l0 l1 l2 l3 l4 l5 l6 S = some out → Ev G (am_R 6 0 0) (am_Φ G h0 0 0 (q_v out) q_n) mX9_weighCouple 0 0 26 [some (.ref l0), some (.int l1), some (.int l2), some (.int l3), some (.int l4), some (.int l5), some (.int l6)] [] (hp S)) (l0 : Nat) (l1 : Int32) (l2 : Int32) (l3 : Int32) (l4 : Int32) (l5 : Int32) (l6 : Int32) (S : am_S) (hl0 : isC 9 l0 = true) (hB : b_X9_weighCouple_50 N k26 l0 l1 l2 l3 l4 l5 l6 S = some out) : Ev G (am_R 6 0 0) (am_Φ G h0 0 0 (q_v out) q_n) mX9_weighCouple 0 0 50 [some (.ref l0), some (.int l1), some (.int l2), some (.int l3), some (.int l4), some (.int l5), some (.int l6)] [] (hp S) := by
  unfold b_X9_weighCouple_50 at hB
  refine ev_iload dX9_weighCouple_50 rfl ?_
  refine ev_iload_n dX9_weighCouple_52 rfl ?_
  refine ev_icmpne 71 dX9_weighCouple_53 (by decide) (fun q1 => ?_) (fun q1 => ?_)
  · rw [if_neg q1] at hB
    exact ev_ls (u_X9_weighCouple_71 hk26 l0 l1 l2 l3 l4 l5 l6 S hl0 hB) (And.intro rfl (And.intro rfl (And.intro rfl (And.intro rfl (And.intro rfl (And.intro rfl (And.intro rfl trivial)))))))
  · rw [if_pos q1] at hB
    refine ev_iload dX9_weighCouple_56 rfl ?_
    refine ev_iconst 1 dX9_weighCouple_58 (by decide) ?_
    refine ev_icmpne 71 dX9_weighCouple_59 (by decide) (fun q2 => ?_) (fun q2 => ?_)
    · rw [if_neg q2] at hB
      exact ev_ls (u_X9_weighCouple_71 hk26 l0 l1 l2 l3 l4 l5 l6 S hl0 hB) (And.intro rfl (And.intro rfl (And.intro rfl (And.intro rfl (And.intro rfl (And.intro rfl (And.intro rfl trivial)))))))
    · rw [if_pos q2] at hB
      exact ev_ls (u_X9_weighCouple_62 hk26 l0 l1 l2 l3 l4 l5 l6 S hl0 hB) (And.intro rfl (And.intro rfl (And.intro rfl (And.intro rfl (And.intro rfl (And.intro rfl (And.intro rfl trivial)))))))
theorem u_X9_weighCouple_80 {G : am_G} {N : Nat} {h0 : am_H} {out : am_S} : ∀ (n : Nat) (l0 : Nat) (l1 : Int32) (l2 : Int32) (l3 : Int32) (l4 : Int32) (l5 : Int32) (l6 : Int32) (S : am_S), isC 9 l0 = true → b_X9_weighCouple_80 N n l0 l1 l2 l3 l4 l5 l6 S = some out → Ev G (am_R 6 0 0) (am_Φ G h0 0 0 (q_v out) q_n) mX9_weighCouple 0 0 80 [some (.ref l0), some (.int l1), some (.int l2), some (.int l3), some (.int l4), some (.int l5), some (.int l6)] [] (hp S) := by
  intro n
  induction n with
  | zero =>
    intro l0 l1 l2 l3 l4 l5 l6 S hl0 hB
    exact absurd (show none = some out from hB) (fun q => by cases q)
  | succ n ih =>
    intro l0 l1 l2 l3 l4 l5 l6 S hl0 hB
    unfold b_X9_weighCouple_80 at hB
    refine ev_iload dX9_weighCouple_80 rfl ?_
    refine ev_iconst 3 dX9_weighCouple_82 (by decide) ?_
    refine ev_icmpge 104 dX9_weighCouple_83 (by decide) (fun q1 => ?_) (fun q1 => ?_)
    · rw [if_pos q1] at hB
      refine ev_aload_n dX9_weighCouple_104 rfl ?_
      refine es_getr k_9 17 dX9_weighCouple_105 (by decide) rfl (Or.inl w_595) hl0 rfl ?_
      refine ev_iconst 2 dX9_weighCouple_108 (by decide) ?_
      refine ev_iload_n dX9_weighCouple_109 rfl ?_
      refine ev_imul dX9_weighCouple_110 ?_
      refine ev_aload_n dX9_weighCouple_111 rfl ?_
      refine ev_iload_n dX9_weighCouple_112 rfl ?_
      refine ev_iload dX9_weighCouple_113 rfl ?_
      obtain ⟨r2, S3, e4, hB⟩ := bd_of hB
      refine es_callVi (As := [.int l1, .int l4]) (t_X9_gainOf hl0 e4) dX9_weighCouple_115 oX9_gainOf w_1437 rfl hl0 rfl rfl (Nat.le_of_ble_eq_true rfl) rfl (am_fit.of (by decide)) ⟨Nat.zero_le _, Nat.zero_le _⟩ ?_
      obtain ⟨c5, hB⟩ := ck_of hB
      refine es_iast dX9_weighCouple_118 (tr_9_17 hl0) c5 ?_
      refine ev_aload_n dX9_weighCouple_119 rfl ?_
      refine es_getr k_9 17 dX9_weighCouple_120 (by decide) rfl (Or.inl w_595) hl0 rfl ?_
      refine ev_iconst 2 dX9_weighCouple_123 (by decide) ?_
      refine ev_iload_n dX9_weighCouple_124 rfl ?_
      refine ev_imul dX9_weighCouple_125 ?_
      refine ev_iconst 1 dX9_weighCouple_126 (by decide) ?_
      refine ev_iadd dX9_weighCouple_127 ?_
      refine ev_aload_n dX9_weighCouple_128 rfl ?_
      refine ev_iload_n dX9_weighCouple_129 rfl ?_
      refine ev_iload dX9_weighCouple_130 rfl ?_
      obtain ⟨r6, S7, e8, hB⟩ := bd_of hB
      refine es_callVi (As := [.int l2, .int l5]) (t_X9_gainOf hl0 e8) dX9_weighCouple_132 oX9_gainOf w_1437 rfl hl0 rfl rfl (Nat.le_of_ble_eq_true rfl) rfl (am_fit.of (by decide)) ⟨Nat.zero_le _, Nat.zero_le _⟩ ?_
      obtain ⟨c9, hB⟩ := ck_of hB
      refine es_iast dX9_weighCouple_135 (tr_9_17 hl0) c9 ?_
      obtain rfl := Option.some.inj hB
      exact ev_vret dX9_weighCouple_136 rfl (Nat.zero_le _) (Nat.zero_le _) (fun z => absurd z (hp_sealed _)) ⟨rfl, rfl⟩
    · rw [if_neg q1] at hB
      refine ev_aload_n dX9_weighCouple_86 rfl ?_
      refine es_getd 0 k_9 5 dX9_weighCouple_87 (by decide) rfl (Or.inl w_583) hl0 rfl ?_
      obtain ⟨c10, hB⟩ := ck_of hB
      refine ev_aload_n dX9_weighCouple_90 rfl ?_
      refine es_getr k_9 8 dX9_weighCouple_91 (by decide) rfl (Or.inl w_586) hl0 rfl ?_
      obtain ⟨r11, S12, e13, hB⟩ := bd_of hB
      refine es_callVi (As := [.ref (rf l0 8)]) (t_X1_passDay c10 (tr_9_8 hl0) e13) dX9_weighCouple_94 oX1_passDay w_662 rfl c10 rfl rfl (Nat.le_of_ble_eq_true rfl) rfl (am_fit.of (by decide)) ⟨Nat.zero_le _, Nat.zero_le _⟩ ?_
      refine ev_pop dX9_weighCouple_97 rfl ?_
      refine es_iinc 1 dX9_weighCouple_98 rfl (by decide) (by decide) rfl ?_
      refine ev_goto 80 dX9_weighCouple_101 (by decide) ?_
      exact ev_ls (ih l0 l1 l2 l3 l4 l5 (l6 + 1) S12 hl0 hB) (And.intro rfl (And.intro rfl (And.intro rfl (And.intro rfl (And.intro rfl (And.intro rfl (And.intro rfl trivial)))))))
theorem u_X9_weighCouple_26 {G : am_G} {N : Nat} {h0 : am_H} {out : am_S} : ∀ (n : Nat) (l0 : Nat) (l1 : Int32) (l2 : Int32) (l3 : Int32) (l4 : Int32) (l5 : Int32) (l6 : Int32) (S : am_S), isC 9 l0 = true → b_X9_weighCouple_26 N n l0 l1 l2 l3 l4 l5 l6 S = some out → Ev G (am_R 6 0 0) (am_Φ G h0 0 0 (q_v out) q_n) mX9_weighCouple 0 0 26 [some (.ref l0), some (.int l1), some (.int l2), some (.int l3), some (.int l4), some (.int l5), some (.int l6)] [] (hp S) := by
  intro n
  induction n with
  | zero =>
    intro l0 l1 l2 l3 l4 l5 l6 S hl0 hB
    exact absurd (show none = some out from hB) (fun q => by cases q)
  | succ n ih =>
    intro l0 l1 l2 l3 l4 l5 l6 S hl0 hB
    unfold b_X9_weighCouple_26 at hB
    refine ev_iload dX9_weighCouple_26 rfl ?_
    refine ev_aload_n dX9_weighCouple_28 rfl ?_
    refine es_getd 0 k_9 5 dX9_weighCouple_29 (by decide) rfl (Or.inl w_583) hl0 rfl ?_
    obtain ⟨c1, hB⟩ := ck_of hB
    refine es_geti k_1 3 dX9_weighCouple_32 (by decide) rfl (Or.inr ⟨_, n_143⟩) c1 rfl ?_
    refine ev_icmpge 77 dX9_weighCouple_35 (by decide) (fun q2 => ?_) (fun q2 => ?_)
    · rw [if_pos q2] at hB
      refine ev_iconst 0 dX9_weighCouple_77 (by decide) ?_
      refine ev_istore dX9_weighCouple_78 (by decide) rfl ?_
      exact ev_ls (u_X9_weighCouple_80 N l0 l1 l2 l3 l4 l5 0 S hl0 hB) (And.intro rfl (And.intro rfl (And.intro rfl (And.intro rfl (And.intro rfl (And.intro rfl (And.intro rfl trivial)))))))
    · rw [if_neg q2] at hB
      refine ev_iload dX9_weighCouple_38 rfl ?_
      refine ev_iload_n dX9_weighCouple_40 rfl ?_
      refine ev_icmpne 50 dX9_weighCouple_41 (by decide) (fun q3 => ?_) (fun q3 => ?_)
      · rw [if_neg q3] at hB
        exact ev_ls (u_X9_weighCouple_50 ih l0 l1 l2 l3 l4 l5 l6 S hl0 hB) (And.intro rfl (And.intro rfl (And.intro rfl (And.intro rfl (And.intro rfl (And.intro rfl (And.intro rfl trivial)))))))
      · rw [if_pos q3] at hB
        refine ev_iload dX9_weighCouple_44 rfl ?_
        refine ev_iconst 1 dX9_weighCouple_46 (by decide) ?_
        refine ev_icmpeq 62 dX9_weighCouple_47 (by decide) (fun q4 => ?_) (fun q4 => ?_)
        · rw [if_pos q4] at hB
          exact ev_ls (u_X9_weighCouple_62 ih l0 l1 l2 l3 l4 l5 l6 S hl0 hB) (And.intro rfl (And.intro rfl (And.intro rfl (And.intro rfl (And.intro rfl (And.intro rfl (And.intro rfl trivial)))))))
        · rw [if_neg q4] at hB
          exact ev_ls (u_X9_weighCouple_50 ih l0 l1 l2 l3 l4 l5 l6 S hl0 hB) (And.intro rfl (And.intro rfl (And.intro rfl (And.intro rfl (And.intro rfl (And.intro rfl (And.intro rfl trivial)))))))
theorem t_X9_weighCouple {G : am_G} {N : Nat} {l0 : Nat} {l1 : Int32} {l2 : Int32} {l3 : Int32} {S : am_S} {out : am_S} (hl0 : isC 9 l0 = true) (hB : f_X9_weighCouple N l0 l1 l2 l3 S = some out) : am_Met G 6 mX9_weighCouple 0 0 [.ref l0, .int l1, .int l2, .int l3] (hp S) (q_v out) q_n := by
  refine am_of (by decide +kernel) rfl rfl rfl (Nat.le_of_ble_eq_true rfl) ?_
  unfold f_X9_weighCouple at hB
  refine ev_iload_n dX9_weighCouple_0 rfl ?_
  refine ev_iconst 1 dX9_weighCouple_1 (by decide) ?_
  refine ev_ishr dX9_weighCouple_2 ?_
  refine ev_iconst 1 dX9_weighCouple_3 (by decide) ?_
  refine ev_iand dX9_weighCouple_4 ?_
  refine ev_istore dX9_weighCouple_5 (by decide) rfl ?_
  refine ev_iload_n dX9_weighCouple_7 rfl ?_
  refine ev_iconst 1 dX9_weighCouple_8 (by decide) ?_
  refine ev_iand dX9_weighCouple_9 ?_
  refine ev_istore dX9_weighCouple_10 (by decide) rfl ?_
  refine ev_aload_n dX9_weighCouple_12 rfl ?_
  refine es_getr k_9 8 dX9_weighCouple_13 (by decide) rfl (Or.inl w_586) hl0 rfl ?_
  refine ev_aload_n dX9_weighCouple_16 rfl ?_
  refine es_getr k_9 7 dX9_weighCouple_17 (by decide) rfl (Or.inl w_585) hl0 rfl ?_
  obtain ⟨S2, e3, hB⟩ := bv_of hB
  refine es_callVv (As := [.ref (rf l0 7)]) (t_X7_copyFrom (tr_9_8 hl0) (tr_9_7 hl0) e3) dX9_weighCouple_20 oX7_copyFrom w_803 rfl (tr_9_8 hl0) rfl rfl (Nat.le_of_ble_eq_true rfl) rfl (am_fit.of (by decide)) ⟨Nat.zero_le _, Nat.zero_le _⟩ ?_
  refine ev_iconst 0 dX9_weighCouple_23 (by decide) ?_
  refine ev_istore dX9_weighCouple_24 (by decide) rfl ?_
  exact ev_ls (u_X9_weighCouple_26 N l0 l1 l2 l3 ((l3 >>> (1 &&& (31 : Int32))) &&& 1) (l3 &&& 1) 0 S2 hl0 hB) (And.intro rfl (And.intro rfl (And.intro rfl (And.intro rfl (And.intro rfl (And.intro rfl (And.intro rfl trivial)))))))
def b_X9_coupleRests_71 (N : Nat) (z0 : Int32) (S : am_S) : Option (Int32 × am_S) := (if isB z0 = true then some (z0, S) else none)
def b_X9_coupleRests_70 (N : Nat)  (S : am_S) : Option (Int32 × am_S) := b_X9_coupleRests_71 N 0 S
def b_X9_coupleRests_57 (N : Nat) (l2 : Int32) (z0 : Int32) (S : am_S) : Option (Int32 × am_S) := (if l2 = 0 then b_X9_coupleRests_70 N S else (if z0 = 0 then b_X9_coupleRests_70 N S else b_X9_coupleRests_71 N 1 S))
def b_X9_coupleRests_26 (N : Nat) (l0 : Nat) (l1 : Int32) (z0 : Int32) (S : am_S) : Option (Int32 × am_S) := (if inb ((2 * l1) + 1) (ln (rf l0 17)) = true then (if inb ((2 * (l1 ^^^ 1)) + 1) (ln (rf l0 17)) = true then (if (sg S (rf l0 17) (Int32.toNatClampNeg ((2 * l1) + 1))) < (sg S (rf l0 17) (Int32.toNatClampNeg ((2 * (l1 ^^^ 1)) + 1))) then b_X9_coupleRests_57 N z0 0 S else b_X9_coupleRests_57 N z0 1 S) else none) else none)
def f_X9_coupleRests (N : Nat) (l0 : Nat) (l1 : Int32) (S : am_S) : Option (Int32 × am_S) := (if inb (2 * l1) (ln (rf l0 17)) = true then (if inb (2 * (l1 ^^^ 2)) (ln (rf l0 17)) = true then (if (sg S (rf l0 17) (Int32.toNatClampNeg (2 * l1))) < (sg S (rf l0 17) (Int32.toNatClampNeg (2 * (l1 ^^^ 2)))) then b_X9_coupleRests_26 N l0 l1 0 S else b_X9_coupleRests_26 N l0 l1 1 S) else none) else none)
theorem u_X9_coupleRests_71 {G : am_G} {N : Nat} {h0 : am_H} {out : Int32 × am_S} (z0 : Int32) (S : am_S) (hB : b_X9_coupleRests_71 N z0 S = some out) : Ev G (am_R 1 0 0) (am_Φ G h0 0 0 (q_i out) q_n) mX9_coupleRests 0 0 71 [none, none, none, none] [.int z0] (hp S) := by
  unfold b_X9_coupleRests_71 at hB
  obtain ⟨c1, hB⟩ := ck_of hB
  obtain rfl := Option.some.inj hB
  exact ev_zret dX9_coupleRests_71 rfl (isB_nar c1) (Nat.zero_le _) (Nat.zero_le _) (fun z => absurd z (hp_sealed _)) ⟨rfl, rfl⟩
theorem u_X9_coupleRests_70 {G : am_G} {N : Nat} {h0 : am_H} {out : Int32 × am_S}  (S : am_S) (hB : b_X9_coupleRests_70 N  S = some out) : Ev G (am_R 1 0 0) (am_Φ G h0 0 0 (q_i out) q_n) mX9_coupleRests 0 0 70 [none, none, none, none] [] (hp S) := by
  unfold b_X9_coupleRests_70 at hB
  refine ev_iconst 0 dX9_coupleRests_70 (by decide) ?_
  exact ev_ls (u_X9_coupleRests_71 0 S hB) trivial
theorem u_X9_coupleRests_57 {G : am_G} {N : Nat} {h0 : am_H} {out : Int32 × am_S} (l2 : Int32) (z0 : Int32) (S : am_S) (hB : b_X9_coupleRests_57 N l2 z0 S = some out) : Ev G (am_R 1 0 0) (am_Φ G h0 0 0 (q_i out) q_n) mX9_coupleRests 0 0 57 [none, none, some (.int l2), none] [.int z0] (hp S) := by
  unfold b_X9_coupleRests_57 at hB
  refine ev_istore_n dX9_coupleRests_57 (by decide) rfl ?_
  refine ev_iload_n dX9_coupleRests_58 rfl ?_
  refine ev_ifeq 70 dX9_coupleRests_59 (by decide) (fun q1 => ?_) (fun q1 => ?_)
  · rw [if_pos q1] at hB
    exact ev_ls (u_X9_coupleRests_70 S hB) trivial
  · rw [if_neg q1] at hB
    refine ev_iload_n dX9_coupleRests_62 rfl ?_
    refine ev_ifeq 70 dX9_coupleRests_63 (by decide) (fun q2 => ?_) (fun q2 => ?_)
    · rw [if_pos q2] at hB
      exact ev_ls (u_X9_coupleRests_70 S hB) trivial
    · rw [if_neg q2] at hB
      refine ev_iconst 1 dX9_coupleRests_66 (by decide) ?_
      refine ev_goto 71 dX9_coupleRests_67 (by decide) ?_
      exact ev_ls (u_X9_coupleRests_71 1 S hB) trivial
theorem u_X9_coupleRests_26 {G : am_G} {N : Nat} {h0 : am_H} {out : Int32 × am_S} (l0 : Nat) (l1 : Int32) (z0 : Int32) (S : am_S) (hl0 : isC 9 l0 = true) (hB : b_X9_coupleRests_26 N l0 l1 z0 S = some out) : Ev G (am_R 1 0 0) (am_Φ G h0 0 0 (q_i out) q_n) mX9_coupleRests 0 0 26 [some (.ref l0), some (.int l1), none, none] [.int z0] (hp S) := by
  unfold b_X9_coupleRests_26 at hB
  refine ev_istore_n dX9_coupleRests_26 (by decide) rfl ?_
  refine ev_aload_n dX9_coupleRests_27 rfl ?_
  refine es_getr k_9 17 dX9_coupleRests_28 (by decide) rfl (Or.inl w_595) hl0 rfl ?_
  refine ev_iconst 2 dX9_coupleRests_31 (by decide) ?_
  refine ev_iload_n dX9_coupleRests_32 rfl ?_
  refine ev_imul dX9_coupleRests_33 ?_
  refine ev_iconst 1 dX9_coupleRests_34 (by decide) ?_
  refine ev_iadd dX9_coupleRests_35 ?_
  obtain ⟨c1, hB⟩ := ck_of hB
  refine es_iald dX9_coupleRests_36 (tr_9_17 hl0) c1 ?_
  refine ev_aload_n dX9_coupleRests_37 rfl ?_
  refine es_getr k_9 17 dX9_coupleRests_38 (by decide) rfl (Or.inl w_595) hl0 rfl ?_
  refine ev_iconst 2 dX9_coupleRests_41 (by decide) ?_
  refine ev_iload_n dX9_coupleRests_42 rfl ?_
  refine ev_iconst 1 dX9_coupleRests_43 (by decide) ?_
  refine ev_ixor dX9_coupleRests_44 ?_
  refine ev_imul dX9_coupleRests_45 ?_
  refine ev_iconst 1 dX9_coupleRests_46 (by decide) ?_
  refine ev_iadd dX9_coupleRests_47 ?_
  obtain ⟨c2, hB⟩ := ck_of hB
  refine es_iald dX9_coupleRests_48 (tr_9_17 hl0) c2 ?_
  refine ev_icmplt 56 dX9_coupleRests_49 (by decide) (fun q3 => ?_) (fun q3 => ?_)
  · rw [if_pos q3] at hB
    refine ev_iconst 0 dX9_coupleRests_56 (by decide) ?_
    exact ev_ls (u_X9_coupleRests_57 z0 0 S hB) (And.intro rfl trivial)
  · rw [if_neg q3] at hB
    refine ev_iconst 1 dX9_coupleRests_52 (by decide) ?_
    refine ev_goto 57 dX9_coupleRests_53 (by decide) ?_
    exact ev_ls (u_X9_coupleRests_57 z0 1 S hB) (And.intro rfl trivial)
theorem t_X9_coupleRests {G : am_G} {N : Nat} {l0 : Nat} {l1 : Int32} {S : am_S} {out : Int32 × am_S} (hl0 : isC 9 l0 = true) (hB : f_X9_coupleRests N l0 l1 S = some out) : am_Met G 1 mX9_coupleRests 0 0 [.ref l0, .int l1] (hp S) (q_i out) q_n := by
  refine am_of (by decide +kernel) rfl rfl rfl (Nat.le_of_ble_eq_true rfl) ?_
  unfold f_X9_coupleRests at hB
  refine ev_aload_n dX9_coupleRests_0 rfl ?_
  refine es_getr k_9 17 dX9_coupleRests_1 (by decide) rfl (Or.inl w_595) hl0 rfl ?_
  refine ev_iconst 2 dX9_coupleRests_4 (by decide) ?_
  refine ev_iload_n dX9_coupleRests_5 rfl ?_
  refine ev_imul dX9_coupleRests_6 ?_
  obtain ⟨c1, hB⟩ := ck_of hB
  refine es_iald dX9_coupleRests_7 (tr_9_17 hl0) c1 ?_
  refine ev_aload_n dX9_coupleRests_8 rfl ?_
  refine es_getr k_9 17 dX9_coupleRests_9 (by decide) rfl (Or.inl w_595) hl0 rfl ?_
  refine ev_iconst 2 dX9_coupleRests_12 (by decide) ?_
  refine ev_iload_n dX9_coupleRests_13 rfl ?_
  refine ev_iconst 2 dX9_coupleRests_14 (by decide) ?_
  refine ev_ixor dX9_coupleRests_15 ?_
  refine ev_imul dX9_coupleRests_16 ?_
  obtain ⟨c2, hB⟩ := ck_of hB
  refine es_iald dX9_coupleRests_17 (tr_9_17 hl0) c2 ?_
  refine ev_icmplt 25 dX9_coupleRests_18 (by decide) (fun q3 => ?_) (fun q3 => ?_)
  · rw [if_pos q3] at hB
    refine ev_iconst 0 dX9_coupleRests_25 (by decide) ?_
    exact ev_ls (u_X9_coupleRests_26 l0 l1 0 S hl0 hB) (And.intro rfl (And.intro rfl trivial))
  · rw [if_neg q3] at hB
    refine ev_iconst 1 dX9_coupleRests_21 (by decide) ?_
    refine ev_goto 26 dX9_coupleRests_22 (by decide) ?_
    exact ev_ls (u_X9_coupleRests_26 l0 l1 1 S hl0 hB) (And.intro rfl (And.intro rfl trivial))
def b_X9_game_55 (N : Nat)  (S : am_S) : Option (am_T) := some (.inl (-1), S)
def b_X9_game_132 (N : Nat) (k89 : Nat → Int32 → Int32 → Int32 → Int32 → am_S → Option (am_T)) (l0 : Nat) (l3 : Int32) (l4 : Int32) (l5 : Int32) (l6 : Int32) (S : am_S) : Option (am_T) := k89 l0 l3 l4 l5 (l6 + 1) S
def b_X9_game_130 (N : Nat) (k89 : Nat → Int32 → Int32 → Int32 → Int32 → am_S → Option (am_T)) (l0 : Nat) (l3 : Int32) (l4 : Int32) (l6 : Int32) (z0 : Int32) (S : am_S) : Option (am_T) := b_X9_game_132 N (k89) l0 l3 l4 z0 l6 S
def b_X9_game_149 (N : Nat) (z0 : Int32) (S : am_S) : Option (am_T) := some (.inl z0, S)
def b_X9_game_89 (N : Nat) : Nat → Nat → Int32 → Int32 → Int32 → Int32 → am_S → Option (am_T)
  | 0, _, _, _, _, _, _ => none
  | n + 1, l0, l3, l4, l5, l6, S => (if 4 ≤ l6 then (if l3 = 0 then b_X9_game_149 N l4 S else b_X9_game_149 N l5 S) else (bd (f_X9_coupleRests N l0 l6 S) (fun r3 S4 => (if r3 = 0 then b_X9_game_132 N (b_X9_game_89 N n) l0 l3 l4 l5 l6 S4 else (if l5 = (-1) then b_X9_game_130 N (b_X9_game_89 N n) l0 l3 (l4 + 1) l6 ((10 * (l6 >>> (1 &&& (31 : Int32)))) + (l6 &&& 1)) S4 else b_X9_game_130 N (b_X9_game_89 N n) l0 l3 (l4 + 1) l6 l5 S4)))))
def b_X9_game_60 (N : Nat) : Nat → Nat → Int32 → Int32 → Int32 → Int32 → am_S → Option (am_T)
  | 0, _, _, _, _, _, _ => none
  | n + 1, l0, l1, l2, l3, l4, S => (if 4 ≤ l4 then b_X9_game_89 N N l0 l3 0 (-1) 0 S else (bv (f_X9_weighCouple N l0 l1 l2 l4 S) (fun S3 => b_X9_game_60 N n l0 l1 l2 l3 (l4 + 1) S3)))
def f_X9_game (N : Nat) (l0 : Nat) (l1 : Int32) (l2 : Int32) (l3 : Int32) (S : am_S) : Option (am_T) := (bt (f_X9_needPerson N l0 l1 S) (fun r1 S2 => (bt (f_X9_needPerson N l0 l2 S2) (fun r5 S6 => (bt (f_X9_needWhat N l3 1 S6) (fun r9 S10 => (if l1 = l2 then some (.inr 1, S10) else (bd (f_X7_atOf N (rf l0 7) l1 S10) (fun r14 S15 => (if r14 = (-1) then b_X9_game_55 N S15 else (bd (f_X7_atOf N (rf l0 7) l2 S15) (fun r18 S19 => (if r18 = (-1) then b_X9_game_55 N S19 else b_X9_game_60 N N l0 l1 l2 l3 0 S19)))))))))))))
theorem u_X9_game_55 {G : am_G} {N : Nat} {h0 : am_H} {out : am_T}  (S : am_S) (hB : b_X9_game_55 N  S = some out) : Ev G (am_R 8 (t_c out) (t_s out)) (am_Φ G h0 (t_c out) (t_s out) (q_ti out) (q_tx out)) mX9_game 0 0 55 [none, none, none, none, none, none, none] [] (hp S) := by
  unfold b_X9_game_55 at hB
  refine ev_iconst (-1) dX9_game_55 (by decide) ?_
  obtain rfl := Option.some.inj hB
  exact ev_iret dX9_game_56 rfl (Nat.zero_le _) (Nat.zero_le _) (fun z => absurd z (hp_sealed _)) ⟨_, rfl, rfl, rfl⟩
theorem u_X9_game_132 {G : am_G} {N : Nat} {h0 : am_H} {out : am_T} {k89 : Nat → Int32 → Int32 → Int32 → Int32 → am_S → Option (am_T)} (hk89 : ∀ (l0 : Nat) (l3 : Int32) (l4 : Int32) (l5 : Int32) (l6 : Int32) (S : am_S), isC 9 l0 = true → k89 l0 l3 l4 l5 l6 S = some out → Ev G (am_R 8 (t_c out) (t_s out)) (am_Φ G h0 (t_c out) (t_s out) (q_ti out) (q_tx out)) mX9_game 0 0 89 [some (.ref l0), none, none, some (.int l3), some (.int l4), some (.int l5), some (.int l6)] [] (hp S)) (l0 : Nat) (l3 : Int32) (l4 : Int32) (l5 : Int32) (l6 : Int32) (S : am_S) (hl0 : isC 9 l0 = true) (hB : b_X9_game_132 N k89 l0 l3 l4 l5 l6 S = some out) : Ev G (am_R 8 (t_c out) (t_s out)) (am_Φ G h0 (t_c out) (t_s out) (q_ti out) (q_tx out)) mX9_game 0 0 132 [some (.ref l0), none, none, some (.int l3), some (.int l4), some (.int l5), some (.int l6)] [] (hp S) := by
  unfold b_X9_game_132 at hB
  refine es_iinc 1 dX9_game_132 rfl (by decide) (by decide) rfl ?_
  refine ev_goto 89 dX9_game_135 (by decide) ?_
  exact ev_ls (hk89 l0 l3 l4 l5 (l6 + 1) S hl0 hB) (And.intro rfl (And.intro rfl (And.intro rfl (And.intro rfl (And.intro rfl trivial)))))
theorem u_X9_game_130 {G : am_G} {N : Nat} {h0 : am_H} {out : am_T} {k89 : Nat → Int32 → Int32 → Int32 → Int32 → am_S → Option (am_T)} (hk89 : ∀ (l0 : Nat) (l3 : Int32) (l4 : Int32) (l5 : Int32) (l6 : Int32) (S : am_S), isC 9 l0 = true → k89 l0 l3 l4 l5 l6 S = some out → Ev G (am_R 8 (t_c out) (t_s out)) (am_Φ G h0 (t_c out) (t_s out) (q_ti out) (q_tx out)) mX9_game 0 0 89 [some (.ref l0), none, none, some (.int l3), some (.int l4), some (.int l5), some (.int l6)] [] (hp S)) (l0 : Nat) (l3 : Int32) (l4 : Int32) (l6 : Int32) (z0 : Int32) (S : am_S) (hl0 : isC 9 l0 = true) (hB : b_X9_game_130 N k89 l0 l3 l4 l6 z0 S = some out) : Ev G (am_R 8 (t_c out) (t_s out)) (am_Φ G h0 (t_c out) (t_s out) (q_ti out) (q_tx out)) mX9_game 0 0 130 [some (.ref l0), none, none, some (.int l3), some (.int l4), none, some (.int l6)] [.int z0] (hp S) := by
  unfold b_X9_game_130 at hB
  refine ev_istore dX9_game_130 (by decide) rfl ?_
  exact ev_ls (u_X9_game_132 hk89 l0 l3 l4 z0 l6 S hl0 hB) (And.intro rfl (And.intro rfl (And.intro rfl (And.intro rfl (And.intro rfl trivial)))))
theorem u_X9_game_149 {G : am_G} {N : Nat} {h0 : am_H} {out : am_T} (z0 : Int32) (S : am_S) (hB : b_X9_game_149 N z0 S = some out) : Ev G (am_R 8 (t_c out) (t_s out)) (am_Φ G h0 (t_c out) (t_s out) (q_ti out) (q_tx out)) mX9_game 0 0 149 [none, none, none, none, none, none, none] [.int z0] (hp S) := by
  unfold b_X9_game_149 at hB
  obtain rfl := Option.some.inj hB
  exact ev_iret dX9_game_149 rfl (Nat.zero_le _) (Nat.zero_le _) (fun z => absurd z (hp_sealed _)) ⟨_, rfl, rfl, rfl⟩
theorem u_X9_game_89 {G : am_G} {N : Nat} {h0 : am_H} {out : am_T} : ∀ (n : Nat) (l0 : Nat) (l3 : Int32) (l4 : Int32) (l5 : Int32) (l6 : Int32) (S : am_S), isC 9 l0 = true → b_X9_game_89 N n l0 l3 l4 l5 l6 S = some out → Ev G (am_R 8 (t_c out) (t_s out)) (am_Φ G h0 (t_c out) (t_s out) (q_ti out) (q_tx out)) mX9_game 0 0 89 [some (.ref l0), none, none, some (.int l3), some (.int l4), some (.int l5), some (.int l6)] [] (hp S) := by
  intro n
  induction n with
  | zero =>
    intro l0 l3 l4 l5 l6 S hl0 hB
    exact absurd (show none = some out from hB) (fun q => by cases q)
  | succ n ih =>
    intro l0 l3 l4 l5 l6 S hl0 hB
    unfold b_X9_game_89 at hB
    refine ev_iload dX9_game_89 rfl ?_
    refine ev_iconst 4 dX9_game_91 (by decide) ?_
    refine ev_icmpge 138 dX9_game_92 (by decide) (fun q1 => ?_) (fun q1 => ?_)
    · rw [if_pos q1] at hB
      refine ev_iload_n dX9_game_138 rfl ?_
      refine ev_ifne 147 dX9_game_139 (by decide) (fun q2 => ?_) (fun q2 => ?_)
      · rw [if_neg q2] at hB
        refine ev_iload dX9_game_147 rfl ?_
        exact ev_ls (u_X9_game_149 l5 S hB) trivial
      · rw [if_pos q2] at hB
        refine ev_iload dX9_game_142 rfl ?_
        refine ev_goto 149 dX9_game_144 (by decide) ?_
        exact ev_ls (u_X9_game_149 l4 S hB) trivial
    · rw [if_neg q1] at hB
      refine ev_aload_n dX9_game_95 rfl ?_
      refine ev_iload dX9_game_96 rfl ?_
      obtain ⟨r3, S4, e5, hB⟩ := bd_of hB
      refine es_callVi (As := [.int l6]) (t_X9_coupleRests hl0 e5) dX9_game_98 oX9_coupleRests w_1441 rfl hl0 rfl rfl (Nat.le_of_ble_eq_true rfl) rfl (am_fit.of (by decide)) ⟨Nat.zero_le _, Nat.zero_le _⟩ ?_
      refine ev_ifeq 132 dX9_game_101 (by decide) (fun q6 => ?_) (fun q6 => ?_)
      · rw [if_pos q6] at hB
        exact ev_ls (u_X9_game_132 ih l0 l3 l4 l5 l6 S4 hl0 hB) (And.intro rfl (And.intro rfl (And.intro rfl (And.intro rfl (And.intro rfl trivial)))))
      · rw [if_neg q6] at hB
        refine es_iinc 1 dX9_game_104 rfl (by decide) (by decide) rfl ?_
        refine ev_iload dX9_game_107 rfl ?_
        refine ev_iconst (-1) dX9_game_109 (by decide) ?_
        refine ev_icmpne 128 dX9_game_110 (by decide) (fun q7 => ?_) (fun q7 => ?_)
        · rw [if_neg q7] at hB
          refine ev_iload dX9_game_128 rfl ?_
          exact ev_ls (u_X9_game_130 ih l0 l3 (l4 + 1) l6 l5 S4 hl0 hB) (And.intro rfl (And.intro rfl (And.intro rfl (And.intro rfl trivial))))
        · rw [if_pos q7] at hB
          refine ev_bipush 10 dX9_game_113 (by decide) ?_
          refine ev_iload dX9_game_115 rfl ?_
          refine ev_iconst 1 dX9_game_117 (by decide) ?_
          refine ev_ishr dX9_game_118 ?_
          refine ev_imul dX9_game_119 ?_
          refine ev_iload dX9_game_120 rfl ?_
          refine ev_iconst 1 dX9_game_122 (by decide) ?_
          refine ev_iand dX9_game_123 ?_
          refine ev_iadd dX9_game_124 ?_
          refine ev_goto 130 dX9_game_125 (by decide) ?_
          exact ev_ls (u_X9_game_130 ih l0 l3 (l4 + 1) l6 ((10 * (l6 >>> (1 &&& (31 : Int32)))) + (l6 &&& 1)) S4 hl0 hB) (And.intro rfl (And.intro rfl (And.intro rfl (And.intro rfl trivial))))
theorem u_X9_game_60 {G : am_G} {N : Nat} {h0 : am_H} {out : am_T} : ∀ (n : Nat) (l0 : Nat) (l1 : Int32) (l2 : Int32) (l3 : Int32) (l4 : Int32) (S : am_S), isC 9 l0 = true → b_X9_game_60 N n l0 l1 l2 l3 l4 S = some out → Ev G (am_R 8 (t_c out) (t_s out)) (am_Φ G h0 (t_c out) (t_s out) (q_ti out) (q_tx out)) mX9_game 0 0 60 [some (.ref l0), some (.int l1), some (.int l2), some (.int l3), some (.int l4), none, none] [] (hp S) := by
  intro n
  induction n with
  | zero =>
    intro l0 l1 l2 l3 l4 S hl0 hB
    exact absurd (show none = some out from hB) (fun q => by cases q)
  | succ n ih =>
    intro l0 l1 l2 l3 l4 S hl0 hB
    unfold b_X9_game_60 at hB
    refine ev_iload dX9_game_60 rfl ?_
    refine ev_iconst 4 dX9_game_62 (by decide) ?_
    refine ev_icmpge 80 dX9_game_63 (by decide) (fun q1 => ?_) (fun q1 => ?_)
    · rw [if_pos q1] at hB
      refine ev_iconst 0 dX9_game_80 (by decide) ?_
      refine ev_istore dX9_game_81 (by decide) rfl ?_
      refine ev_iconst (-1) dX9_game_83 (by decide) ?_
      refine ev_istore dX9_game_84 (by decide) rfl ?_
      refine ev_iconst 0 dX9_game_86 (by decide) ?_
      refine ev_istore dX9_game_87 (by decide) rfl ?_
      exact ev_ls (u_X9_game_89 N l0 l3 0 (-1) 0 S hl0 hB) (And.intro rfl (And.intro rfl (And.intro rfl (And.intro rfl (And.intro rfl trivial)))))
    · rw [if_neg q1] at hB
      refine ev_aload_n dX9_game_66 rfl ?_
      refine ev_iload_n dX9_game_67 rfl ?_
      refine ev_iload_n dX9_game_68 rfl ?_
      refine ev_iload dX9_game_69 rfl ?_
      obtain ⟨S3, e4, hB⟩ := bv_of hB
      refine es_callVv (As := [.int l1, .int l2, .int l4]) (t_X9_weighCouple hl0 e4) dX9_game_71 oX9_weighCouple w_1433 rfl hl0 rfl rfl (Nat.le_of_ble_eq_true rfl) rfl (am_fit.of (by decide)) ⟨Nat.zero_le _, Nat.zero_le _⟩ ?_
      refine es_iinc 1 dX9_game_74 rfl (by decide) (by decide) rfl ?_
      refine ev_goto 60 dX9_game_77 (by decide) ?_
      exact ev_ls (ih l0 l1 l2 l3 (l4 + 1) S3 hl0 hB) (And.intro rfl (And.intro rfl (And.intro rfl (And.intro rfl (And.intro rfl trivial)))))
theorem t_X9_game {G : am_G} {N : Nat} {l0 : Nat} {l1 : Int32} {l2 : Int32} {l3 : Int32} {S : am_S} {out : am_T} (hl0 : isC 9 l0 = true) (hB : f_X9_game N l0 l1 l2 l3 S = some out) : am_Met G 8 mX9_game (t_c out) (t_s out) [.ref l0, .int l1, .int l2, .int l3] (hp S) (q_ti out) (q_tx out) := by
  refine am_of (by decide +kernel) rfl rfl rfl (Nat.le_of_ble_eq_true rfl) ?_
  unfold f_X9_game at hB
  refine ev_aload_n dX9_game_0 rfl ?_
  refine ev_iload_n dX9_game_1 rfl ?_
  rcases bt_of hB with ⟨r1, S2, e3, hB⟩ | ⟨x4, S2, e3, rfl⟩
  rotate_left
  · exact es_callVx (As := [.int l1]) (t_X9_needPerson hl0 e3) nq_v dX9_game_2 oX9_needPerson w_1146 rfl hl0 rfl rfl (Nat.le_of_ble_eq_true rfl) rfl (am_fit.of (by decide)) rfl
  refine es_callVtv (As := [.int l1]) (t_X9_needPerson hl0 e3) dX9_game_2 oX9_needPerson w_1146 rfl hl0 rfl rfl (Nat.le_of_ble_eq_true rfl) rfl (am_fit.of (by decide)) ⟨Nat.zero_le _, Nat.zero_le _⟩ ?_
  refine ev_aload_n dX9_game_5 rfl ?_
  refine ev_iload_n dX9_game_6 rfl ?_
  rcases bt_of hB with ⟨r5, S6, e7, hB⟩ | ⟨x8, S6, e7, rfl⟩
  rotate_left
  · exact es_callVx (As := [.int l2]) (t_X9_needPerson hl0 e7) nq_v dX9_game_7 oX9_needPerson w_1146 rfl hl0 rfl rfl (Nat.le_of_ble_eq_true rfl) rfl (am_fit.of (by decide)) rfl
  refine es_callVtv (As := [.int l2]) (t_X9_needPerson hl0 e7) dX9_game_7 oX9_needPerson w_1146 rfl hl0 rfl rfl (Nat.le_of_ble_eq_true rfl) rfl (am_fit.of (by decide)) ⟨Nat.zero_le _, Nat.zero_le _⟩ ?_
  refine ev_iload_n dX9_game_10 rfl ?_
  refine ev_iconst 1 dX9_game_11 (by decide) ?_
  rcases bt_of hB with ⟨r9, S10, e11, hB⟩ | ⟨x12, S10, e11, rfl⟩
  rotate_left
  · exact es_callSx (As := [.int l3, .int 1]) (t_X9_needWhat e11) nq_v dX9_game_12 oX9_needWhat w_1208 rfl (Nat.le_of_ble_eq_true rfl) rfl (am_fit.of (by decide)) rfl
  refine es_callStv (As := [.int l3, .int 1]) (t_X9_needWhat e11) dX9_game_12 oX9_needWhat w_1208 rfl (Nat.le_of_ble_eq_true rfl) rfl (am_fit.of (by decide)) ⟨Nat.zero_le _, Nat.zero_le _⟩ ?_
  refine ev_iload_n dX9_game_15 rfl ?_
  refine ev_iload_n dX9_game_16 rfl ?_
  refine ev_icmpne 31 dX9_game_17 (by decide) (fun q13 => ?_) (fun q13 => ?_)
  · rw [if_neg q13] at hB
    refine ev_aload_n dX9_game_31 rfl ?_
    refine es_getr k_9 7 dX9_game_32 (by decide) rfl (Or.inl w_585) hl0 rfl ?_
    refine ev_iload_n dX9_game_35 rfl ?_
    obtain ⟨r14, S15, e16, hB⟩ := bd_of hB
    refine es_callVi (As := [.int l1]) (t_X7_atOf (tr_9_7 hl0) e16) dX9_game_36 oX7_atOf w_1151 rfl (tr_9_7 hl0) rfl rfl (Nat.le_of_ble_eq_true rfl) rfl (am_fit.of (by decide)) ⟨Nat.zero_le _, Nat.zero_le _⟩ ?_
    refine ev_iconst (-1) dX9_game_39 (by decide) ?_
    refine ev_icmpeq 55 dX9_game_40 (by decide) (fun q17 => ?_) (fun q17 => ?_)
    · rw [if_pos q17] at hB
      exact ev_ls (u_X9_game_55 S15 hB) trivial
    · rw [if_neg q17] at hB
      refine ev_aload_n dX9_game_43 rfl ?_
      refine es_getr k_9 7 dX9_game_44 (by decide) rfl (Or.inl w_585) hl0 rfl ?_
      refine ev_iload_n dX9_game_47 rfl ?_
      obtain ⟨r18, S19, e20, hB⟩ := bd_of hB
      refine es_callVi (As := [.int l2]) (t_X7_atOf (tr_9_7 hl0) e20) dX9_game_48 oX7_atOf w_1151 rfl (tr_9_7 hl0) rfl rfl (Nat.le_of_ble_eq_true rfl) rfl (am_fit.of (by decide)) ⟨Nat.zero_le _, Nat.zero_le _⟩ ?_
      refine ev_iconst (-1) dX9_game_51 (by decide) ?_
      refine ev_icmpne 57 dX9_game_52 (by decide) (fun q21 => ?_) (fun q21 => ?_)
      · rw [if_neg q21] at hB
        refine ev_iconst 0 dX9_game_57 (by decide) ?_
        refine ev_istore dX9_game_58 (by decide) rfl ?_
        exact ev_ls (u_X9_game_60 N l0 l1 l2 l3 0 S19 hl0 hB) (And.intro rfl (And.intro rfl (And.intro rfl (And.intro rfl (And.intro rfl trivial)))))
      · rw [if_pos q21] at hB
        exact ev_ls (u_X9_game_55 S19 hB) trivial
  · rw [if_pos q13] at hB
    obtain rfl := Option.some.inj hB
    exact es_thrW1 24 dX9_game_20 dX9_game_23 dX9_game_24 dX9_game_27 dX9_game_30 rfl rfl rfl (Nat.le_of_ble_eq_true rfl) (by decide)
def b_X9_draw_38 (N : Nat) (z0 : Int32) (S : am_S) : Option (Int32 × am_S) := some (z0, S)
def f_X9_draw (N : Nat) (l0 : Nat) (l1 : Int32) (S : am_S) : Option (Int32 × am_S) := (if 1 ≤ l1 then (if l1 = 0 then none else b_X9_draw_38 N (((jushr (sg (sp S l0 18 (((sg S l0 18) * 1103515245) + 12345)) l0 18) 16) &&& 32767) - ((jushr (sg (sp S l0 18 (((sg S l0 18) * 1103515245) + 12345)) l0 18) 16) &&& 32767) / l1 * l1) (sp S l0 18 (((sg S l0 18) * 1103515245) + 12345))) else b_X9_draw_38 N 0 (sp S l0 18 (((sg S l0 18) * 1103515245) + 12345)))
theorem u_X9_draw_38 {G : am_G} {N : Nat} {h0 : am_H} {out : Int32 × am_S} (z0 : Int32) (S : am_S) (hB : b_X9_draw_38 N z0 S = some out) : Ev G (am_R 1 0 0) (am_Φ G h0 0 0 (q_i out) q_n) mX9_draw 0 0 38 [none, none] [.int z0] (hp S) := by
  unfold b_X9_draw_38 at hB
  obtain rfl := Option.some.inj hB
  exact ev_iret dX9_draw_38 rfl (Nat.zero_le _) (Nat.zero_le _) (fun z => absurd z (hp_sealed _)) ⟨rfl, rfl⟩
theorem t_X9_draw {G : am_G} {N : Nat} {l0 : Nat} {l1 : Int32} {S : am_S} {out : Int32 × am_S} (hl0 : isC 9 l0 = true) (hB : f_X9_draw N l0 l1 S = some out) : am_Met G 1 mX9_draw 0 0 [.ref l0, .int l1] (hp S) (q_i out) q_n := by
  refine am_of (by decide +kernel) rfl rfl rfl (Nat.le_of_ble_eq_true rfl) ?_
  unfold f_X9_draw at hB
  refine ev_aload_n dX9_draw_0 rfl ?_
  refine ev_aload_n dX9_draw_1 rfl ?_
  refine es_geti k_9 18 dX9_draw_2 (by decide) rfl (Or.inl w_596) hl0 rfl ?_
  refine ev_ldcw (v := 1103515245) dX9_draw_5 w_1456 ?_
  refine ev_imul dX9_draw_8 ?_
  refine ev_sipush 12345 dX9_draw_9 (by decide) ?_
  refine ev_iadd dX9_draw_12 ?_
  refine es_puti k_9 18 dX9_draw_13 (by decide) rfl (Or.inl w_596) rfl rfl hl0 rfl ?_
  refine ev_iload_n dX9_draw_16 rfl ?_
  refine ev_iconst 1 dX9_draw_17 (by decide) ?_
  refine ev_icmpge 25 dX9_draw_18 (by decide) (fun q1 => ?_) (fun q1 => ?_)
  · rw [if_pos q1] at hB
    refine ev_aload_n dX9_draw_25 rfl ?_
    refine es_geti k_9 18 dX9_draw_26 (by decide) rfl (Or.inl w_596) hl0 rfl ?_
    refine ev_bipush 16 dX9_draw_29 (by decide) ?_
    refine ev_iushr dX9_draw_31 ?_
    refine ev_sipush 32767 dX9_draw_32 (by decide) ?_
    refine ev_iand dX9_draw_35 ?_
    refine ev_iload_n dX9_draw_36 rfl ?_
    obtain ⟨c2, hB⟩ := ckn_of hB
    refine ev_irem dX9_draw_37 c2 ?_
    exact ev_ls (u_X9_draw_38 (((jushr (sg (sp S l0 18 (((sg S l0 18) * 1103515245) + 12345)) l0 18) 16) &&& 32767) - ((jushr (sg (sp S l0 18 (((sg S l0 18) * 1103515245) + 12345)) l0 18) 16) &&& 32767) / l1 * l1) (sp S l0 18 (((sg S l0 18) * 1103515245) + 12345)) hB) trivial
  · rw [if_neg q1] at hB
    refine ev_iconst 0 dX9_draw_21 (by decide) ?_
    refine ev_goto 38 dX9_draw_22 (by decide) ?_
    exact ev_ls (u_X9_draw_38 0 (sp S l0 18 (((sg S l0 18) * 1103515245) + 12345)) hB) trivial
def b_X9_drawAct_99 (N : Nat)  (S : am_S) : Option (am_S) := some S
def b_X9_drawAct_66 (N : Nat) (z0 : Nat) (z1 : Int32) (z2 : Int32) (S : am_S) : Option (am_S) := (bv (f_X7_turnTo N z0 z1 z2 S) (fun S2 => b_X9_drawAct_99 N S2))
def b_X9_drawAct_96 (N : Nat) (z0 : Nat) (z1 : Int32) (S : am_S) : Option (am_S) := (bv (f_X7_setStrike N z0 z1 S) (fun S2 => b_X9_drawAct_99 N S2))
def f_X9_drawAct (N : Nat) (l0 : Nat) (S : am_S) : Option (am_S) := (if isC 1 (rg S 0) = true then (bd (f_X9_draw N l0 (sg S (rg S 0) 3) S) (fun r2 S3 => (bd (f_X9_draw N l0 6 S3) (fun r5 S6 => (if r5 = 0 then (bv (f_X7_sendLetter N (rf l0 8) r2 S6) (fun S21 => b_X9_drawAct_99 N S21)) else (if r5 = 1 then (if isC 1 (rg S6 0) = true then (bd (f_X9_draw N l0 (sg S6 (rg S6 0) 3) S6) (fun r16 S17 => (if r16 = r2 then b_X9_drawAct_66 N (rf l0 8) r2 (-1) S17 else b_X9_drawAct_66 N (rf l0 8) r2 r16 S17))) else none) else (if r5 = 2 then (bd (f_X7_onStrike N (rf l0 8) S6) (fun r11 S12 => (if r11 = 0 then b_X9_drawAct_96 N (rf l0 8) 1 S12 else b_X9_drawAct_96 N (rf l0 8) 0 S12))) else b_X9_drawAct_99 N S6))))))) else none)
theorem u_X9_drawAct_99 {G : am_G} {N : Nat} {h0 : am_H} {out : am_S}  (S : am_S) (hB : b_X9_drawAct_99 N  S = some out) : Ev G (am_R 3 0 0) (am_Φ G h0 0 0 (q_v out) q_n) mX9_drawAct 0 0 99 [none, none, none, none] [] (hp S) := by
  unfold b_X9_drawAct_99 at hB
  obtain rfl := Option.some.inj hB
  exact ev_vret dX9_drawAct_99 rfl (Nat.zero_le _) (Nat.zero_le _) (fun z => absurd z (hp_sealed _)) ⟨rfl, rfl⟩
theorem u_X9_drawAct_66 {G : am_G} {N : Nat} {h0 : am_H} {out : am_S} (z0 : Nat) (z1 : Int32) (z2 : Int32) (S : am_S) (hz0 : isC 7 z0 = true) (hB : b_X9_drawAct_66 N z0 z1 z2 S = some out) : Ev G (am_R 3 0 0) (am_Φ G h0 0 0 (q_v out) q_n) mX9_drawAct 0 0 66 [none, none, none, none] [.int z2, .int z1, .ref z0] (hp S) := by
  unfold b_X9_drawAct_66 at hB
  obtain ⟨S2, e3, hB⟩ := bv_of hB
  refine es_callVv (As := [.int z1, .int z2]) (t_X7_turnTo hz0 e3) dX9_drawAct_66 oX7_turnTo w_1197 rfl hz0 rfl rfl (Nat.le_of_ble_eq_true rfl) rfl (am_fit.of (by decide)) ⟨Nat.zero_le _, Nat.zero_le _⟩ ?_
  refine ev_goto 99 dX9_drawAct_69 (by decide) ?_
  exact ev_ls (u_X9_drawAct_99 S2 hB) trivial
theorem u_X9_drawAct_96 {G : am_G} {N : Nat} {h0 : am_H} {out : am_S} (z0 : Nat) (z1 : Int32) (S : am_S) (hz0 : isC 7 z0 = true) (hB : b_X9_drawAct_96 N z0 z1 S = some out) : Ev G (am_R 3 0 0) (am_Φ G h0 0 0 (q_v out) q_n) mX9_drawAct 0 0 96 [none, none, none, none] [.int z1, .ref z0] (hp S) := by
  unfold b_X9_drawAct_96 at hB
  obtain ⟨S2, e3, hB⟩ := bv_of hB
  refine es_callVv (As := [.int z1]) (t_X7_setStrike hz0 e3) dX9_drawAct_96 oX7_setStrike w_766 rfl hz0 rfl rfl (Nat.le_of_ble_eq_true rfl) rfl (am_fit.of (by decide)) ⟨Nat.zero_le _, Nat.zero_le _⟩ ?_
  exact ev_ls (u_X9_drawAct_99 S2 hB) trivial
theorem t_X9_drawAct {G : am_G} {N : Nat} {l0 : Nat} {S : am_S} {out : am_S} (hl0 : isC 9 l0 = true) (hB : f_X9_drawAct N l0 S = some out) : am_Met G 3 mX9_drawAct 0 0 [.ref l0] (hp S) (q_v out) q_n := by
  refine am_of (by decide +kernel) rfl rfl rfl (Nat.le_of_ble_eq_true rfl) ?_
  unfold f_X9_drawAct at hB
  refine ev_aload_n dX9_drawAct_0 rfl ?_
  refine ev_aload_n dX9_drawAct_1 rfl ?_
  refine es_getd 0 k_9 5 dX9_drawAct_2 (by decide) rfl (Or.inl w_583) hl0 rfl ?_
  obtain ⟨c1, hB⟩ := ck_of hB
  refine es_geti k_1 3 dX9_drawAct_5 (by decide) rfl (Or.inr ⟨_, n_143⟩) c1 rfl ?_
  obtain ⟨r2, S3, e4, hB⟩ := bd_of hB
  refine es_callVi (As := [.int (sg S (rg S 0) 3)]) (t_X9_draw hl0 e4) dX9_drawAct_8 oX9_draw w_1452 rfl hl0 rfl rfl (Nat.le_of_ble_eq_true rfl) rfl (am_fit.of (by decide)) ⟨Nat.zero_le _, Nat.zero_le _⟩ ?_
  refine ev_istore_n dX9_drawAct_11 (by decide) rfl ?_
  refine ev_aload_n dX9_drawAct_12 rfl ?_
  refine ev_bipush 6 dX9_drawAct_13 (by decide) ?_
  obtain ⟨r5, S6, e7, hB⟩ := bd_of hB
  refine es_callVi (As := [.int 6]) (t_X9_draw hl0 e7) dX9_drawAct_15 oX9_draw w_1452 rfl hl0 rfl rfl (Nat.le_of_ble_eq_true rfl) rfl (am_fit.of (by decide)) ⟨Nat.zero_le _, Nat.zero_le _⟩ ?_
  refine ev_istore_n dX9_drawAct_18 (by decide) rfl ?_
  refine ev_iload_n dX9_drawAct_19 rfl ?_
  refine ev_ifne 34 dX9_drawAct_20 (by decide) (fun q8 => ?_) (fun q8 => ?_)
  · rw [if_neg q8] at hB
    refine ev_iload_n dX9_drawAct_34 rfl ?_
    refine ev_iconst 1 dX9_drawAct_35 (by decide) ?_
    refine ev_icmpne 72 dX9_drawAct_36 (by decide) (fun q9 => ?_) (fun q9 => ?_)
    · rw [if_neg q9] at hB
      refine ev_iload_n dX9_drawAct_72 rfl ?_
      refine ev_iconst 2 dX9_drawAct_73 (by decide) ?_
      refine ev_icmpne 99 dX9_drawAct_74 (by decide) (fun q10 => ?_) (fun q10 => ?_)
      · rw [if_neg q10] at hB
        exact ev_ls (u_X9_drawAct_99 S6 hB) trivial
      · rw [if_pos q10] at hB
        refine ev_aload_n dX9_drawAct_77 rfl ?_
        refine es_getr k_9 8 dX9_drawAct_78 (by decide) rfl (Or.inl w_586) hl0 rfl ?_
        refine ev_aload_n dX9_drawAct_81 rfl ?_
        refine es_getr k_9 8 dX9_drawAct_82 (by decide) rfl (Or.inl w_586) hl0 rfl ?_
        obtain ⟨r11, S12, e13, hB⟩ := bd_of hB
        refine es_callVi (As := []) (t_X7_onStrike (tr_9_8 hl0) e13) dX9_drawAct_85 oX7_onStrike w_765 rfl (tr_9_8 hl0) rfl rfl (Nat.le_of_ble_eq_true rfl) rfl (am_fit.of (by decide)) ⟨Nat.zero_le _, Nat.zero_le _⟩ ?_
        refine ev_ifne 95 dX9_drawAct_88 (by decide) (fun q14 => ?_) (fun q14 => ?_)
        · rw [if_neg q14] at hB
          refine ev_iconst 0 dX9_drawAct_95 (by decide) ?_
          exact ev_ls (u_X9_drawAct_96 (rf l0 8) 0 S12 (tr_9_8 hl0) hB) trivial
        · rw [if_pos q14] at hB
          refine ev_iconst 1 dX9_drawAct_91 (by decide) ?_
          refine ev_goto 96 dX9_drawAct_92 (by decide) ?_
          exact ev_ls (u_X9_drawAct_96 (rf l0 8) 1 S12 (tr_9_8 hl0) hB) trivial
    · rw [if_pos q9] at hB
      refine ev_aload_n dX9_drawAct_39 rfl ?_
      refine ev_aload_n dX9_drawAct_40 rfl ?_
      refine es_getd 0 k_9 5 dX9_drawAct_41 (by decide) rfl (Or.inl w_583) hl0 rfl ?_
      obtain ⟨c15, hB⟩ := ck_of hB
      refine es_geti k_1 3 dX9_drawAct_44 (by decide) rfl (Or.inr ⟨_, n_143⟩) c15 rfl ?_
      obtain ⟨r16, S17, e18, hB⟩ := bd_of hB
      refine es_callVi (As := [.int (sg S6 (rg S6 0) 3)]) (t_X9_draw hl0 e18) dX9_drawAct_47 oX9_draw w_1452 rfl hl0 rfl rfl (Nat.le_of_ble_eq_true rfl) rfl (am_fit.of (by decide)) ⟨Nat.zero_le _, Nat.zero_le _⟩ ?_
      refine ev_istore_n dX9_drawAct_50 (by decide) rfl ?_
      refine ev_aload_n dX9_drawAct_51 rfl ?_
      refine es_getr k_9 8 dX9_drawAct_52 (by decide) rfl (Or.inl w_586) hl0 rfl ?_
      refine ev_iload_n dX9_drawAct_55 rfl ?_
      refine ev_iload_n dX9_drawAct_56 rfl ?_
      refine ev_iload_n dX9_drawAct_57 rfl ?_
      refine ev_icmpne 65 dX9_drawAct_58 (by decide) (fun q19 => ?_) (fun q19 => ?_)
      · rw [if_neg q19] at hB
        refine ev_iload_n dX9_drawAct_65 rfl ?_
        exact ev_ls (u_X9_drawAct_66 (rf l0 8) r2 r16 S17 (tr_9_8 hl0) hB) trivial
      · rw [if_pos q19] at hB
        refine ev_iconst (-1) dX9_drawAct_61 (by decide) ?_
        refine ev_goto 66 dX9_drawAct_62 (by decide) ?_
        exact ev_ls (u_X9_drawAct_66 (rf l0 8) r2 (-1) S17 (tr_9_8 hl0) hB) trivial
  · rw [if_pos q8] at hB
    refine ev_aload_n dX9_drawAct_23 rfl ?_
    refine es_getr k_9 8 dX9_drawAct_24 (by decide) rfl (Or.inl w_586) hl0 rfl ?_
    refine ev_iload_n dX9_drawAct_27 rfl ?_
    obtain ⟨S21, e22, hB⟩ := bv_of hB
    refine es_callVv (As := [.int r2]) (t_X7_sendLetter (tr_9_8 hl0) e22) dX9_drawAct_28 oX7_sendLetter w_1175 rfl (tr_9_8 hl0) rfl rfl (Nat.le_of_ble_eq_true rfl) rfl (am_fit.of (by decide)) ⟨Nat.zero_le _, Nat.zero_le _⟩ ?_
    refine ev_goto 99 dX9_drawAct_31 (by decide) ?_
    exact ev_ls (u_X9_drawAct_99 S21 hB) trivial
def b_X9_years_59 (N : Nat) (k31 : Nat → Int32 → Int32 → Int32 → am_S → Option (am_T)) (l0 : Nat) (l2 : Int32) (l3 : Int32) (l4 : Int32) (l5 : Int32) (S : am_S) : Option (am_T) := (if isC 1 (rg S 0) = true then (if isC 1 (rg S 0) = true then (bd (f_X7_dayNow N (rf l0 8) S) (fun r3 S4 => (bd (f_X1_boxOn N (rg S 0) r3 S4) (fun r6 S7 => (bd (f_X1_passDayWith N (rg S 0) (rf l0 8) l5 r6 S7) (fun r9 S10 => k31 l0 l2 l3 (l4 + 1) S10)))))) else none) else none)
def b_X9_years_31 (N : Nat) : Nat → Nat → Int32 → Int32 → Int32 → am_S → Option (am_T)
  | 0, _, _, _, _, _ => none
  | n + 1, l0, l2, l3, l4, S => (if l2 ≤ l4 then (if l3 = 0 then (bd (f_X7_heardByAll N (rf l0 8) S) (fun r2 S3 => (bd (f_X7_heardByAll N (rf l0 7) S3) (fun r5 S6 => some (.inl (r2 - r5), S6))))) else (if l3 = 1 then (bd (f_X7_regretOfAll N (rf l0 8) S) (fun r9 S10 => some (.inl r9, S10))) else (bd (f_X7_heldInAll N (rf l0 8) S) (fun r13 S14 => some (.inl r13, S14))))) else (bd (f_X9_draw N l0 10 S) (fun r16 S17 => (if isC 1 (rg S17 0) = true then (if (sg S17 (rg S17 0) 3) ≤ 0 then b_X9_years_59 N (b_X9_years_31 N n) l0 l2 l3 l4 r16 S17 else (bv (f_X9_drawAct N l0 S17) (fun S22 => b_X9_years_59 N (b_X9_years_31 N n) l0 l2 l3 l4 r16 S22))) else none))))
def f_X9_years (N : Nat) (l0 : Nat) (l1 : Int32) (l2 : Int32) (l3 : Int32) (S : am_S) : Option (am_T) := (bt (f_X9_needWhat N l3 2 S) (fun r1 S2 => (bt (f_X9_needRange N l2 0 40 S2) (fun r5 S6 => (bv (f_X7_copyFrom N (rf l0 8) (rf l0 7) S6) (fun S10 => b_X9_years_31 N N l0 l2 l3 0 (sp S10 l0 18 l1)))))))
theorem u_X9_years_59 {G : am_G} {N : Nat} {h0 : am_H} {out : am_T} {k31 : Nat → Int32 → Int32 → Int32 → am_S → Option (am_T)} (hk31 : ∀ (l0 : Nat) (l2 : Int32) (l3 : Int32) (l4 : Int32) (S : am_S), isC 9 l0 = true → k31 l0 l2 l3 l4 S = some out → Ev G (am_R 8 (t_c out) (t_s out)) (am_Φ G h0 (t_c out) (t_s out) (q_ti out) (q_tx out)) mX9_years 0 0 31 [some (.ref l0), none, some (.int l2), some (.int l3), some (.int l4), none] [] (hp S)) (l0 : Nat) (l2 : Int32) (l3 : Int32) (l4 : Int32) (l5 : Int32) (S : am_S) (hl0 : isC 9 l0 = true) (hB : b_X9_years_59 N k31 l0 l2 l3 l4 l5 S = some out) : Ev G (am_R 8 (t_c out) (t_s out)) (am_Φ G h0 (t_c out) (t_s out) (q_ti out) (q_tx out)) mX9_years 0 0 59 [some (.ref l0), none, some (.int l2), some (.int l3), some (.int l4), some (.int l5)] [] (hp S) := by
  unfold b_X9_years_59 at hB
  refine ev_aload_n dX9_years_59 rfl ?_
  refine es_getd 0 k_9 5 dX9_years_60 (by decide) rfl (Or.inl w_583) hl0 rfl ?_
  obtain ⟨c1, hB⟩ := ck_of hB
  refine ev_aload_n dX9_years_63 rfl ?_
  refine es_getr k_9 8 dX9_years_64 (by decide) rfl (Or.inl w_586) hl0 rfl ?_
  refine ev_iload dX9_years_67 rfl ?_
  refine ev_aload_n dX9_years_69 rfl ?_
  refine es_getd 0 k_9 5 dX9_years_70 (by decide) rfl (Or.inl w_583) hl0 rfl ?_
  obtain ⟨c2, hB⟩ := ck_of hB
  refine ev_aload_n dX9_years_73 rfl ?_
  refine es_getr k_9 8 dX9_years_74 (by decide) rfl (Or.inl w_586) hl0 rfl ?_
  obtain ⟨r3, S4, e5, hB⟩ := bd_of hB
  refine es_callVi (As := []) (t_X7_dayNow (tr_9_8 hl0) e5) dX9_years_77 oX7_dayNow w_652 rfl (tr_9_8 hl0) rfl rfl (Nat.le_of_ble_eq_true rfl) rfl (am_fit.of (by decide)) ⟨Nat.zero_le _, Nat.zero_le _⟩ ?_
  obtain ⟨r6, S7, e8, hB⟩ := bd_of hB
  refine es_callVi (As := [.int r3]) (t_X1_boxOn c2 e8) dX9_years_80 oX1_boxOn w_1080 rfl c2 rfl rfl (Nat.le_of_ble_eq_true rfl) rfl (am_fit.of (by decide)) ⟨Nat.zero_le _, Nat.zero_le _⟩ ?_
  obtain ⟨r9, S10, e11, hB⟩ := bd_of hB
  refine es_callVi (As := [.ref (rf l0 8), .int l5, .int r6]) (t_X1_passDayWith c1 (tr_9_8 hl0) e11) dX9_years_83 oX1_passDayWith w_1424 rfl c1 rfl rfl (Nat.le_of_ble_eq_true rfl) rfl (am_fit.of (by decide)) ⟨Nat.zero_le _, Nat.zero_le _⟩ ?_
  refine ev_pop dX9_years_86 rfl ?_
  refine es_iinc 1 dX9_years_87 rfl (by decide) (by decide) rfl ?_
  refine ev_goto 31 dX9_years_90 (by decide) ?_
  exact ev_ls (hk31 l0 l2 l3 (l4 + 1) S10 hl0 hB) (And.intro rfl (And.intro rfl (And.intro rfl (And.intro rfl trivial))))
theorem u_X9_years_31 {G : am_G} {N : Nat} {h0 : am_H} {out : am_T} : ∀ (n : Nat) (l0 : Nat) (l2 : Int32) (l3 : Int32) (l4 : Int32) (S : am_S), isC 9 l0 = true → b_X9_years_31 N n l0 l2 l3 l4 S = some out → Ev G (am_R 8 (t_c out) (t_s out)) (am_Φ G h0 (t_c out) (t_s out) (q_ti out) (q_tx out)) mX9_years 0 0 31 [some (.ref l0), none, some (.int l2), some (.int l3), some (.int l4), none] [] (hp S) := by
  intro n
  induction n with
  | zero =>
    intro l0 l2 l3 l4 S hl0 hB
    exact absurd (show none = some out from hB) (fun q => by cases q)
  | succ n ih =>
    intro l0 l2 l3 l4 S hl0 hB
    unfold b_X9_years_31 at hB
    refine ev_iload dX9_years_31 rfl ?_
    refine ev_iload_n dX9_years_33 rfl ?_
    refine ev_icmpge 93 dX9_years_34 (by decide) (fun q1 => ?_) (fun q1 => ?_)
    · rw [if_pos q1] at hB
      refine ev_iload_n dX9_years_93 rfl ?_
      by_cases q8 : l3 = 0
      · rw [if_pos q8] at hB
        refine ev_lookup (off := 26) 120 dX9_years_94 (by decide) (by rw [q8]; rfl) (by decide) ?_
        refine ev_aload_n dX9_years_120 rfl ?_
        refine es_getr k_9 8 dX9_years_121 (by decide) rfl (Or.inl w_586) hl0 rfl ?_
        obtain ⟨r2, S3, e4, hB⟩ := bd_of hB
        refine es_callVi (As := []) (t_X7_heardByAll (tr_9_8 hl0) e4) dX9_years_124 oX7_heardByAll w_1085 rfl (tr_9_8 hl0) rfl rfl (Nat.le_of_ble_eq_true rfl) rfl (am_fit.of (by decide)) ⟨Nat.zero_le _, Nat.zero_le _⟩ ?_
        refine ev_aload_n dX9_years_127 rfl ?_
        refine es_getr k_9 7 dX9_years_128 (by decide) rfl (Or.inl w_585) hl0 rfl ?_
        obtain ⟨r5, S6, e7, hB⟩ := bd_of hB
        refine es_callVi (As := []) (t_X7_heardByAll (tr_9_7 hl0) e7) dX9_years_131 oX7_heardByAll w_1085 rfl (tr_9_7 hl0) rfl rfl (Nat.le_of_ble_eq_true rfl) rfl (am_fit.of (by decide)) ⟨Nat.zero_le _, Nat.zero_le _⟩ ?_
        refine ev_isub dX9_years_134 ?_
        obtain rfl := Option.some.inj hB
        exact ev_iret dX9_years_135 rfl (Nat.zero_le _) (Nat.zero_le _) (fun z => absurd z (hp_sealed _)) ⟨_, rfl, rfl, rfl⟩
      rw [if_neg q8] at hB
      have tq8 : ¬ _ = _ := am_nt (k := 0) q8 (by decide)
      by_cases q12 : l3 = 1
      · rw [if_pos q12] at hB
        refine ev_lookup (off := 42) 136 dX9_years_94 (by decide) (by rw [q12]; rfl) (by decide) ?_
        refine ev_aload_n dX9_years_136 rfl ?_
        refine es_getr k_9 8 dX9_years_137 (by decide) rfl (Or.inl w_586) hl0 rfl ?_
        obtain ⟨r9, S10, e11, hB⟩ := bd_of hB
        refine es_callVi (As := []) (t_X7_regretOfAll (tr_9_8 hl0) e11) dX9_years_140 oX7_regretOfAll w_1461 rfl (tr_9_8 hl0) rfl rfl (Nat.le_of_ble_eq_true rfl) rfl (am_fit.of (by decide)) ⟨Nat.zero_le _, Nat.zero_le _⟩ ?_
        obtain rfl := Option.some.inj hB
        exact ev_iret dX9_years_143 rfl (Nat.zero_le _) (Nat.zero_le _) (fun z => absurd z (hp_sealed _)) ⟨_, rfl, rfl, rfl⟩
      rw [if_neg q12] at hB
      have tq12 : ¬ _ = _ := am_nt (k := 1) q12 (by decide)
      refine ev_lookup (off := 50) 144 dX9_years_94 (by decide) (by simp [Op.lookupswitch.offset, tq8, Ne.symm tq8, tq12, Ne.symm tq12]) (by decide) ?_
      refine ev_aload_n dX9_years_144 rfl ?_
      refine es_getr k_9 8 dX9_years_145 (by decide) rfl (Or.inl w_586) hl0 rfl ?_
      obtain ⟨r13, S14, e15, hB⟩ := bd_of hB
      refine es_callVi (As := []) (t_X7_heldInAll (tr_9_8 hl0) e15) dX9_years_148 oX7_heldInAll w_1081 rfl (tr_9_8 hl0) rfl rfl (Nat.le_of_ble_eq_true rfl) rfl (am_fit.of (by decide)) ⟨Nat.zero_le _, Nat.zero_le _⟩ ?_
      obtain rfl := Option.some.inj hB
      exact ev_iret dX9_years_151 rfl (Nat.zero_le _) (Nat.zero_le _) (fun z => absurd z (hp_sealed _)) ⟨_, rfl, rfl, rfl⟩
    · rw [if_neg q1] at hB
      refine ev_aload_n dX9_years_37 rfl ?_
      refine ev_bipush 10 dX9_years_38 (by decide) ?_
      obtain ⟨r16, S17, e18, hB⟩ := bd_of hB
      refine es_callVi (As := [.int 10]) (t_X9_draw hl0 e18) dX9_years_40 oX9_draw w_1452 rfl hl0 rfl rfl (Nat.le_of_ble_eq_true rfl) rfl (am_fit.of (by decide)) ⟨Nat.zero_le _, Nat.zero_le _⟩ ?_
      refine ev_istore dX9_years_43 (by decide) rfl ?_
      refine ev_aload_n dX9_years_45 rfl ?_
      refine es_getd 0 k_9 5 dX9_years_46 (by decide) rfl (Or.inl w_583) hl0 rfl ?_
      obtain ⟨c19, hB⟩ := ck_of hB
      refine es_geti k_1 3 dX9_years_49 (by decide) rfl (Or.inr ⟨_, n_143⟩) c19 rfl ?_
      refine ev_ifle 59 dX9_years_52 (by decide) (fun q20 => ?_) (fun q20 => ?_)
      · rw [if_pos q20] at hB
        exact ev_ls (u_X9_years_59 ih l0 l2 l3 l4 r16 S17 hl0 hB) (And.intro rfl (And.intro rfl (And.intro rfl (And.intro rfl (And.intro rfl trivial)))))
      · rw [if_neg q20] at hB
        refine ev_aload_n dX9_years_55 rfl ?_
        obtain ⟨S22, e23, hB⟩ := bv_of hB
        refine es_callVv (As := []) (t_X9_drawAct hl0 e23) dX9_years_56 oX9_drawAct w_1457 rfl hl0 rfl rfl (Nat.le_of_ble_eq_true rfl) rfl (am_fit.of (by decide)) ⟨Nat.zero_le _, Nat.zero_le _⟩ ?_
        exact ev_ls (u_X9_years_59 ih l0 l2 l3 l4 r16 S22 hl0 hB) (And.intro rfl (And.intro rfl (And.intro rfl (And.intro rfl (And.intro rfl trivial)))))
theorem t_X9_years {G : am_G} {N : Nat} {l0 : Nat} {l1 : Int32} {l2 : Int32} {l3 : Int32} {S : am_S} {out : am_T} (hl0 : isC 9 l0 = true) (hB : f_X9_years N l0 l1 l2 l3 S = some out) : am_Met G 8 mX9_years (t_c out) (t_s out) [.ref l0, .int l1, .int l2, .int l3] (hp S) (q_ti out) (q_tx out) := by
  refine am_of (by decide +kernel) rfl rfl rfl (Nat.le_of_ble_eq_true rfl) ?_
  unfold f_X9_years at hB
  refine ev_iload_n dX9_years_0 rfl ?_
  refine ev_iconst 2 dX9_years_1 (by decide) ?_
  rcases bt_of hB with ⟨r1, S2, e3, hB⟩ | ⟨x4, S2, e3, rfl⟩
  rotate_left
  · exact es_callSx (As := [.int l3, .int 2]) (t_X9_needWhat e3) nq_v dX9_years_2 oX9_needWhat w_1208 rfl (Nat.le_of_ble_eq_true rfl) rfl (am_fit.of (by decide)) rfl
  refine es_callStv (As := [.int l3, .int 2]) (t_X9_needWhat e3) dX9_years_2 oX9_needWhat w_1208 rfl (Nat.le_of_ble_eq_true rfl) rfl (am_fit.of (by decide)) ⟨Nat.zero_le _, Nat.zero_le _⟩ ?_
  refine ev_iload_n dX9_years_5 rfl ?_
  refine ev_iconst 0 dX9_years_6 (by decide) ?_
  refine ev_bipush 40 dX9_years_7 (by decide) ?_
  rcases bt_of hB with ⟨r5, S6, e7, hB⟩ | ⟨x8, S6, e7, rfl⟩
  rotate_left
  · exact es_callSx (As := [.int l2, .int 0, .int 40]) (t_X9_needRange e7) nq_v dX9_years_9 oX9_needRange w_1211 rfl (Nat.le_of_ble_eq_true rfl) rfl (am_fit.of (by decide)) rfl
  refine es_callStv (As := [.int l2, .int 0, .int 40]) (t_X9_needRange e7) dX9_years_9 oX9_needRange w_1211 rfl (Nat.le_of_ble_eq_true rfl) rfl (am_fit.of (by decide)) ⟨Nat.zero_le _, Nat.zero_le _⟩ ?_
  refine ev_aload_n dX9_years_12 rfl ?_
  refine es_getr k_9 8 dX9_years_13 (by decide) rfl (Or.inl w_586) hl0 rfl ?_
  refine ev_aload_n dX9_years_16 rfl ?_
  refine es_getr k_9 7 dX9_years_17 (by decide) rfl (Or.inl w_585) hl0 rfl ?_
  obtain ⟨S10, e11, hB⟩ := bv_of hB
  refine es_callVv (As := [.ref (rf l0 7)]) (t_X7_copyFrom (tr_9_8 hl0) (tr_9_7 hl0) e11) dX9_years_20 oX7_copyFrom w_803 rfl (tr_9_8 hl0) rfl rfl (Nat.le_of_ble_eq_true rfl) rfl (am_fit.of (by decide)) ⟨Nat.zero_le _, Nat.zero_le _⟩ ?_
  refine ev_aload_n dX9_years_23 rfl ?_
  refine ev_iload_n dX9_years_24 rfl ?_
  refine es_puti k_9 18 dX9_years_25 (by decide) rfl (Or.inl w_596) rfl rfl hl0 rfl ?_
  refine ev_iconst 0 dX9_years_28 (by decide) ?_
  refine ev_istore dX9_years_29 (by decide) rfl ?_
  exact ev_ls (u_X9_years_31 N l0 l2 l3 0 (sp S10 l0 18 l1) hl0 hB) (And.intro rfl (And.intro rfl (And.intro rfl (And.intro rfl trivial))))
def b_X9_pale_25 (N : Nat) : Nat → Nat → Int32 → Int32 → Int32 → am_S → Option (am_T)
  | 0, _, _, _, _, _ => none
  | n + 1, l0, l1, l2, l3, S => (if 40 < l3 then some (.inl (-1), S) else (bd (f_X7_redOf N (rf l0 8) l1 S) (fun r2 S3 => (if l2 < r2 then (if isC 1 (rg S3 0) = true then (bd (f_X1_passDay N (rg S3 0) (rf l0 8) S3) (fun r7 S8 => b_X9_pale_25 N n l0 l1 l2 (l3 + 1) S8)) else none) else some (.inl l3, S3)))))
def f_X9_pale (N : Nat) (l0 : Nat) (l1 : Int32) (l2 : Int32) (S : am_S) : Option (am_T) := (bt (f_X9_needBox N l0 l1 S) (fun r1 S2 => (bt (f_X9_needRange N l2 0 99 S2) (fun r5 S6 => (bv (f_X7_copyFrom N (rf l0 8) (rf l0 7) S6) (fun S10 => b_X9_pale_25 N N l0 l1 l2 0 S10))))))
theorem u_X9_pale_25 {G : am_G} {N : Nat} {h0 : am_H} {out : am_T} : ∀ (n : Nat) (l0 : Nat) (l1 : Int32) (l2 : Int32) (l3 : Int32) (S : am_S), isC 9 l0 = true → b_X9_pale_25 N n l0 l1 l2 l3 S = some out → Ev G (am_R 8 (t_c out) (t_s out)) (am_Φ G h0 (t_c out) (t_s out) (q_ti out) (q_tx out)) mX9_pale 0 0 25 [some (.ref l0), some (.int l1), some (.int l2), some (.int l3)] [] (hp S) := by
  intro n
  induction n with
  | zero =>
    intro l0 l1 l2 l3 S hl0 hB
    exact absurd (show none = some out from hB) (fun q => by cases q)
  | succ n ih =>
    intro l0 l1 l2 l3 S hl0 hB
    unfold b_X9_pale_25 at hB
    refine ev_iload_n dX9_pale_25 rfl ?_
    refine ev_bipush 40 dX9_pale_26 (by decide) ?_
    refine ev_icmpgt 63 dX9_pale_28 (by decide) (fun q1 => ?_) (fun q1 => ?_)
    · rw [if_pos q1] at hB
      refine ev_iconst (-1) dX9_pale_63 (by decide) ?_
      obtain rfl := Option.some.inj hB
      exact ev_iret dX9_pale_64 rfl (Nat.zero_le _) (Nat.zero_le _) (fun z => absurd z (hp_sealed _)) ⟨_, rfl, rfl, rfl⟩
    · rw [if_neg q1] at hB
      refine ev_aload_n dX9_pale_31 rfl ?_
      refine es_getr k_9 8 dX9_pale_32 (by decide) rfl (Or.inl w_586) hl0 rfl ?_
      refine ev_iload_n dX9_pale_35 rfl ?_
      obtain ⟨r2, S3, e4, hB⟩ := bd_of hB
      refine es_callVi (As := [.int l1]) (t_X7_redOf (tr_9_8 hl0) e4) dX9_pale_36 oX7_redOf w_1129 rfl (tr_9_8 hl0) rfl rfl (Nat.le_of_ble_eq_true rfl) rfl (am_fit.of (by decide)) ⟨Nat.zero_le _, Nat.zero_le _⟩ ?_
      refine ev_iload_n dX9_pale_39 rfl ?_
      refine ev_icmpgt 45 dX9_pale_40 (by decide) (fun q5 => ?_) (fun q5 => ?_)
      · rw [if_pos q5] at hB
        refine ev_aload_n dX9_pale_45 rfl ?_
        refine es_getd 0 k_9 5 dX9_pale_46 (by decide) rfl (Or.inl w_583) hl0 rfl ?_
        obtain ⟨c6, hB⟩ := ck_of hB
        refine ev_aload_n dX9_pale_49 rfl ?_
        refine es_getr k_9 8 dX9_pale_50 (by decide) rfl (Or.inl w_586) hl0 rfl ?_
        obtain ⟨r7, S8, e9, hB⟩ := bd_of hB
        refine es_callVi (As := [.ref (rf l0 8)]) (t_X1_passDay c6 (tr_9_8 hl0) e9) dX9_pale_53 oX1_passDay w_662 rfl c6 rfl rfl (Nat.le_of_ble_eq_true rfl) rfl (am_fit.of (by decide)) ⟨Nat.zero_le _, Nat.zero_le _⟩ ?_
        refine ev_pop dX9_pale_56 rfl ?_
        refine es_iinc 1 dX9_pale_57 rfl (by decide) (by decide) rfl ?_
        refine ev_goto 25 dX9_pale_60 (by decide) ?_
        exact ev_ls (ih l0 l1 l2 (l3 + 1) S8 hl0 hB) (And.intro rfl (And.intro rfl (And.intro rfl (And.intro rfl trivial))))
      · rw [if_neg q5] at hB
        refine ev_iload_n dX9_pale_43 rfl ?_
        obtain rfl := Option.some.inj hB
        exact ev_iret dX9_pale_44 rfl (Nat.zero_le _) (Nat.zero_le _) (fun z => absurd z (hp_sealed _)) ⟨_, rfl, rfl, rfl⟩
theorem t_X9_pale {G : am_G} {N : Nat} {l0 : Nat} {l1 : Int32} {l2 : Int32} {S : am_S} {out : am_T} (hl0 : isC 9 l0 = true) (hB : f_X9_pale N l0 l1 l2 S = some out) : am_Met G 8 mX9_pale (t_c out) (t_s out) [.ref l0, .int l1, .int l2] (hp S) (q_ti out) (q_tx out) := by
  refine am_of (by decide +kernel) rfl rfl rfl (Nat.le_of_ble_eq_true rfl) ?_
  unfold f_X9_pale at hB
  refine ev_aload_n dX9_pale_0 rfl ?_
  refine ev_iload_n dX9_pale_1 rfl ?_
  rcases bt_of hB with ⟨r1, S2, e3, hB⟩ | ⟨x4, S2, e3, rfl⟩
  rotate_left
  · exact es_callVx (As := [.int l1]) (t_X9_needBox hl0 e3) nq_v dX9_pale_2 oX9_needBox w_1124 rfl hl0 rfl rfl (Nat.le_of_ble_eq_true rfl) rfl (am_fit.of (by decide)) rfl
  refine es_callVtv (As := [.int l1]) (t_X9_needBox hl0 e3) dX9_pale_2 oX9_needBox w_1124 rfl hl0 rfl rfl (Nat.le_of_ble_eq_true rfl) rfl (am_fit.of (by decide)) ⟨Nat.zero_le _, Nat.zero_le _⟩ ?_
  refine ev_iload_n dX9_pale_5 rfl ?_
  refine ev_iconst 0 dX9_pale_6 (by decide) ?_
  refine ev_bipush 99 dX9_pale_7 (by decide) ?_
  rcases bt_of hB with ⟨r5, S6, e7, hB⟩ | ⟨x8, S6, e7, rfl⟩
  rotate_left
  · exact es_callSx (As := [.int l2, .int 0, .int 99]) (t_X9_needRange e7) nq_v dX9_pale_9 oX9_needRange w_1211 rfl (Nat.le_of_ble_eq_true rfl) rfl (am_fit.of (by decide)) rfl
  refine es_callStv (As := [.int l2, .int 0, .int 99]) (t_X9_needRange e7) dX9_pale_9 oX9_needRange w_1211 rfl (Nat.le_of_ble_eq_true rfl) rfl (am_fit.of (by decide)) ⟨Nat.zero_le _, Nat.zero_le _⟩ ?_
  refine ev_aload_n dX9_pale_12 rfl ?_
  refine es_getr k_9 8 dX9_pale_13 (by decide) rfl (Or.inl w_586) hl0 rfl ?_
  refine ev_aload_n dX9_pale_16 rfl ?_
  refine es_getr k_9 7 dX9_pale_17 (by decide) rfl (Or.inl w_585) hl0 rfl ?_
  obtain ⟨S10, e11, hB⟩ := bv_of hB
  refine es_callVv (As := [.ref (rf l0 7)]) (t_X7_copyFrom (tr_9_8 hl0) (tr_9_7 hl0) e11) dX9_pale_20 oX7_copyFrom w_803 rfl (tr_9_8 hl0) rfl rfl (Nat.le_of_ble_eq_true rfl) rfl (am_fit.of (by decide)) ⟨Nat.zero_le _, Nat.zero_le _⟩ ?_
  refine ev_iconst 0 dX9_pale_23 (by decide) ?_
  refine ev_istore_n dX9_pale_24 (by decide) rfl ?_
  exact ev_ls (u_X9_pale_25 N l0 l1 l2 0 S10 hl0 hB) (And.intro rfl (And.intro rfl (And.intro rfl (And.intro rfl trivial))))
def b_X9_visits_47 (N : Nat) (k17 : Nat → Int32 → Int32 → Int32 → Int32 → am_S → Option (am_T)) (l0 : Nat) (l1 : Int32) (l2 : Int32) (l3 : Int32) (l4 : Int32) (S : am_S) : Option (am_T) := k17 l0 l1 l2 l3 (l4 + 1) S
def b_X9_visits_17 (N : Nat) : Nat → Nat → Int32 → Int32 → Int32 → Int32 → am_S → Option (am_T)
  | 0, _, _, _, _, _, _ => none
  | n + 1, l0, l1, l2, l3, l4, S => (if l2 ≤ l4 then some (.inl l3, S) else (if isC 1 (rg S 0) = true then (bd (f_X7_dayNow N (rf l0 7) S) (fun r3 S4 => (bd (f_X1_boxOn N (rg S 0) (r3 + l4) S4) (fun r6 S7 => (if r6 = l1 then b_X9_visits_47 N (b_X9_visits_17 N n) l0 l1 l2 (l3 + 1) l4 S7 else b_X9_visits_47 N (b_X9_visits_17 N n) l0 l1 l2 l3 l4 S7))))) else none))
def f_X9_visits (N : Nat) (l0 : Nat) (l1 : Int32) (l2 : Int32) (S : am_S) : Option (am_T) := (bt (f_X9_needBox N l0 l1 S) (fun r1 S2 => (bt (f_X9_needRange N l2 1 60 S2) (fun r5 S6 => b_X9_visits_17 N N l0 l1 l2 0 0 S6))))
theorem u_X9_visits_47 {G : am_G} {N : Nat} {h0 : am_H} {out : am_T} {k17 : Nat → Int32 → Int32 → Int32 → Int32 → am_S → Option (am_T)} (hk17 : ∀ (l0 : Nat) (l1 : Int32) (l2 : Int32) (l3 : Int32) (l4 : Int32) (S : am_S), isC 9 l0 = true → k17 l0 l1 l2 l3 l4 S = some out → Ev G (am_R 8 (t_c out) (t_s out)) (am_Φ G h0 (t_c out) (t_s out) (q_ti out) (q_tx out)) mX9_visits 0 0 17 [some (.ref l0), some (.int l1), some (.int l2), some (.int l3), some (.int l4)] [] (hp S)) (l0 : Nat) (l1 : Int32) (l2 : Int32) (l3 : Int32) (l4 : Int32) (S : am_S) (hl0 : isC 9 l0 = true) (hB : b_X9_visits_47 N k17 l0 l1 l2 l3 l4 S = some out) : Ev G (am_R 8 (t_c out) (t_s out)) (am_Φ G h0 (t_c out) (t_s out) (q_ti out) (q_tx out)) mX9_visits 0 0 47 [some (.ref l0), some (.int l1), some (.int l2), some (.int l3), some (.int l4)] [] (hp S) := by
  unfold b_X9_visits_47 at hB
  refine es_iinc 1 dX9_visits_47 rfl (by decide) (by decide) rfl ?_
  refine ev_goto 17 dX9_visits_50 (by decide) ?_
  exact ev_ls (hk17 l0 l1 l2 l3 (l4 + 1) S hl0 hB) (And.intro rfl (And.intro rfl (And.intro rfl (And.intro rfl (And.intro rfl trivial)))))
theorem u_X9_visits_17 {G : am_G} {N : Nat} {h0 : am_H} {out : am_T} : ∀ (n : Nat) (l0 : Nat) (l1 : Int32) (l2 : Int32) (l3 : Int32) (l4 : Int32) (S : am_S), isC 9 l0 = true → b_X9_visits_17 N n l0 l1 l2 l3 l4 S = some out → Ev G (am_R 8 (t_c out) (t_s out)) (am_Φ G h0 (t_c out) (t_s out) (q_ti out) (q_tx out)) mX9_visits 0 0 17 [some (.ref l0), some (.int l1), some (.int l2), some (.int l3), some (.int l4)] [] (hp S) := by
  intro n
  induction n with
  | zero =>
    intro l0 l1 l2 l3 l4 S hl0 hB
    exact absurd (show none = some out from hB) (fun q => by cases q)
  | succ n ih =>
    intro l0 l1 l2 l3 l4 S hl0 hB
    unfold b_X9_visits_17 at hB
    refine ev_iload dX9_visits_17 rfl ?_
    refine ev_iload_n dX9_visits_19 rfl ?_
    refine ev_icmpge 53 dX9_visits_20 (by decide) (fun q1 => ?_) (fun q1 => ?_)
    · rw [if_pos q1] at hB
      refine ev_iload_n dX9_visits_53 rfl ?_
      obtain rfl := Option.some.inj hB
      exact ev_iret dX9_visits_54 rfl (Nat.zero_le _) (Nat.zero_le _) (fun z => absurd z (hp_sealed _)) ⟨_, rfl, rfl, rfl⟩
    · rw [if_neg q1] at hB
      refine ev_aload_n dX9_visits_23 rfl ?_
      refine es_getd 0 k_9 5 dX9_visits_24 (by decide) rfl (Or.inl w_583) hl0 rfl ?_
      obtain ⟨c2, hB⟩ := ck_of hB
      refine ev_aload_n dX9_visits_27 rfl ?_
      refine es_getr k_9 7 dX9_visits_28 (by decide) rfl (Or.inl w_585) hl0 rfl ?_
      obtain ⟨r3, S4, e5, hB⟩ := bd_of hB
      refine es_callVi (As := []) (t_X7_dayNow (tr_9_7 hl0) e5) dX9_visits_31 oX7_dayNow w_652 rfl (tr_9_7 hl0) rfl rfl (Nat.le_of_ble_eq_true rfl) rfl (am_fit.of (by decide)) ⟨Nat.zero_le _, Nat.zero_le _⟩ ?_
      refine ev_iload dX9_visits_34 rfl ?_
      refine ev_iadd dX9_visits_36 ?_
      obtain ⟨r6, S7, e8, hB⟩ := bd_of hB
      refine es_callVi (As := [.int (r3 + l4)]) (t_X1_boxOn c2 e8) dX9_visits_37 oX1_boxOn w_1080 rfl c2 rfl rfl (Nat.le_of_ble_eq_true rfl) rfl (am_fit.of (by decide)) ⟨Nat.zero_le _, Nat.zero_le _⟩ ?_
      refine ev_iload_n dX9_visits_40 rfl ?_
      refine ev_icmpne 47 dX9_visits_41 (by decide) (fun q9 => ?_) (fun q9 => ?_)
      · rw [if_neg q9] at hB
        exact ev_ls (u_X9_visits_47 ih l0 l1 l2 l3 l4 S7 hl0 hB) (And.intro rfl (And.intro rfl (And.intro rfl (And.intro rfl (And.intro rfl trivial)))))
      · rw [if_pos q9] at hB
        refine es_iinc 1 dX9_visits_44 rfl (by decide) (by decide) rfl ?_
        exact ev_ls (u_X9_visits_47 ih l0 l1 l2 (l3 + 1) l4 S7 hl0 hB) (And.intro rfl (And.intro rfl (And.intro rfl (And.intro rfl (And.intro rfl trivial)))))
theorem t_X9_visits {G : am_G} {N : Nat} {l0 : Nat} {l1 : Int32} {l2 : Int32} {S : am_S} {out : am_T} (hl0 : isC 9 l0 = true) (hB : f_X9_visits N l0 l1 l2 S = some out) : am_Met G 8 mX9_visits (t_c out) (t_s out) [.ref l0, .int l1, .int l2] (hp S) (q_ti out) (q_tx out) := by
  refine am_of (by decide +kernel) rfl rfl rfl (Nat.le_of_ble_eq_true rfl) ?_
  unfold f_X9_visits at hB
  refine ev_aload_n dX9_visits_0 rfl ?_
  refine ev_iload_n dX9_visits_1 rfl ?_
  rcases bt_of hB with ⟨r1, S2, e3, hB⟩ | ⟨x4, S2, e3, rfl⟩
  rotate_left
  · exact es_callVx (As := [.int l1]) (t_X9_needBox hl0 e3) nq_v dX9_visits_2 oX9_needBox w_1124 rfl hl0 rfl rfl (Nat.le_of_ble_eq_true rfl) rfl (am_fit.of (by decide)) rfl
  refine es_callVtv (As := [.int l1]) (t_X9_needBox hl0 e3) dX9_visits_2 oX9_needBox w_1124 rfl hl0 rfl rfl (Nat.le_of_ble_eq_true rfl) rfl (am_fit.of (by decide)) ⟨Nat.zero_le _, Nat.zero_le _⟩ ?_
  refine ev_iload_n dX9_visits_5 rfl ?_
  refine ev_iconst 1 dX9_visits_6 (by decide) ?_
  refine ev_bipush 60 dX9_visits_7 (by decide) ?_
  rcases bt_of hB with ⟨r5, S6, e7, hB⟩ | ⟨x8, S6, e7, rfl⟩
  rotate_left
  · exact es_callSx (As := [.int l2, .int 1, .int 60]) (t_X9_needRange e7) nq_v dX9_visits_9 oX9_needRange w_1211 rfl (Nat.le_of_ble_eq_true rfl) rfl (am_fit.of (by decide)) rfl
  refine es_callStv (As := [.int l2, .int 1, .int 60]) (t_X9_needRange e7) dX9_visits_9 oX9_needRange w_1211 rfl (Nat.le_of_ble_eq_true rfl) rfl (am_fit.of (by decide)) ⟨Nat.zero_le _, Nat.zero_le _⟩ ?_
  refine ev_iconst 0 dX9_visits_12 (by decide) ?_
  refine ev_istore_n dX9_visits_13 (by decide) rfl ?_
  refine ev_iconst 0 dX9_visits_14 (by decide) ?_
  refine ev_istore dX9_visits_15 (by decide) rfl ?_
  exact ev_ls (u_X9_visits_17 N l0 l1 l2 0 0 S6 hl0 hB) (And.intro rfl (And.intro rfl (And.intro rfl (And.intro rfl (And.intro rfl trivial)))))
def b_X9_steps_50 (N : Nat)  (S : am_S) : Option (am_T) := some (.inl (-1), S)
def b_X9_steps_15 (N : Nat) : Nat → Nat → Int32 → Int32 → Int32 → am_S → Option (am_T)
  | 0, _, _, _, _, _ => none
  | n + 1, l0, l2, l3, l4, S => (if 8 ≤ l4 then b_X9_steps_50 N S else (if l3 = (-1) then b_X9_steps_50 N S else (if l3 = l2 then some (.inl l4, S) else (bd (f_X7_atOf N (rf l0 7) l3 S) (fun r4 S5 => b_X9_steps_15 N n l0 l2 r4 (l4 + 1) S5)))))
def f_X9_steps (N : Nat) (l0 : Nat) (l1 : Int32) (l2 : Int32) (S : am_S) : Option (am_T) := (bt (f_X9_needPerson N l0 l1 S) (fun r1 S2 => (bt (f_X9_needPerson N l0 l2 S2) (fun r5 S6 => b_X9_steps_15 N N l0 l2 l1 0 S6))))
theorem u_X9_steps_50 {G : am_G} {N : Nat} {h0 : am_H} {out : am_T}  (S : am_S) (hB : b_X9_steps_50 N  S = some out) : Ev G (am_R 8 (t_c out) (t_s out)) (am_Φ G h0 (t_c out) (t_s out) (q_ti out) (q_tx out)) mX9_steps 0 0 50 [none, none, none, none, none] [] (hp S) := by
  unfold b_X9_steps_50 at hB
  refine ev_iconst (-1) dX9_steps_50 (by decide) ?_
  obtain rfl := Option.some.inj hB
  exact ev_iret dX9_steps_51 rfl (Nat.zero_le _) (Nat.zero_le _) (fun z => absurd z (hp_sealed _)) ⟨_, rfl, rfl, rfl⟩
theorem u_X9_steps_15 {G : am_G} {N : Nat} {h0 : am_H} {out : am_T} : ∀ (n : Nat) (l0 : Nat) (l2 : Int32) (l3 : Int32) (l4 : Int32) (S : am_S), isC 9 l0 = true → b_X9_steps_15 N n l0 l2 l3 l4 S = some out → Ev G (am_R 8 (t_c out) (t_s out)) (am_Φ G h0 (t_c out) (t_s out) (q_ti out) (q_tx out)) mX9_steps 0 0 15 [some (.ref l0), none, some (.int l2), some (.int l3), some (.int l4)] [] (hp S) := by
  intro n
  induction n with
  | zero =>
    intro l0 l2 l3 l4 S hl0 hB
    exact absurd (show none = some out from hB) (fun q => by cases q)
  | succ n ih =>
    intro l0 l2 l3 l4 S hl0 hB
    unfold b_X9_steps_15 at hB
    refine ev_iload dX9_steps_15 rfl ?_
    refine ev_bipush 8 dX9_steps_17 (by decide) ?_
    refine ev_icmpge 50 dX9_steps_19 (by decide) (fun q1 => ?_) (fun q1 => ?_)
    · rw [if_pos q1] at hB
      exact ev_ls (u_X9_steps_50 S hB) trivial
    · rw [if_neg q1] at hB
      refine ev_iload_n dX9_steps_22 rfl ?_
      refine ev_iconst (-1) dX9_steps_23 (by decide) ?_
      refine ev_icmpeq 50 dX9_steps_24 (by decide) (fun q2 => ?_) (fun q2 => ?_)
      · rw [if_pos q2] at hB
        exact ev_ls (u_X9_steps_50 S hB) trivial
      · rw [if_neg q2] at hB
        refine ev_iload_n dX9_steps_27 rfl ?_
        refine ev_iload_n dX9_steps_28 rfl ?_
        refine ev_icmpne 35 dX9_steps_29 (by decide) (fun q3 => ?_) (fun q3 => ?_)
        · rw [if_neg q3] at hB
          refine ev_aload_n dX9_steps_35 rfl ?_
          refine es_getr k_9 7 dX9_steps_36 (by decide) rfl (Or.inl w_585) hl0 rfl ?_
          refine ev_iload_n dX9_steps_39 rfl ?_
          obtain ⟨r4, S5, e6, hB⟩ := bd_of hB
          refine es_callVi (As := [.int l3]) (t_X7_atOf (tr_9_7 hl0) e6) dX9_steps_40 oX7_atOf w_1151 rfl (tr_9_7 hl0) rfl rfl (Nat.le_of_ble_eq_true rfl) rfl (am_fit.of (by decide)) ⟨Nat.zero_le _, Nat.zero_le _⟩ ?_
          refine ev_istore_n dX9_steps_43 (by decide) rfl ?_
          refine es_iinc 1 dX9_steps_44 rfl (by decide) (by decide) rfl ?_
          refine ev_goto 15 dX9_steps_47 (by decide) ?_
          exact ev_ls (ih l0 l2 r4 (l4 + 1) S5 hl0 hB) (And.intro rfl (And.intro rfl (And.intro rfl (And.intro rfl trivial))))
        · rw [if_pos q3] at hB
          refine ev_iload dX9_steps_32 rfl ?_
          obtain rfl := Option.some.inj hB
          exact ev_iret dX9_steps_34 rfl (Nat.zero_le _) (Nat.zero_le _) (fun z => absurd z (hp_sealed _)) ⟨_, rfl, rfl, rfl⟩
theorem t_X9_steps {G : am_G} {N : Nat} {l0 : Nat} {l1 : Int32} {l2 : Int32} {S : am_S} {out : am_T} (hl0 : isC 9 l0 = true) (hB : f_X9_steps N l0 l1 l2 S = some out) : am_Met G 8 mX9_steps (t_c out) (t_s out) [.ref l0, .int l1, .int l2] (hp S) (q_ti out) (q_tx out) := by
  refine am_of (by decide +kernel) rfl rfl rfl (Nat.le_of_ble_eq_true rfl) ?_
  unfold f_X9_steps at hB
  refine ev_aload_n dX9_steps_0 rfl ?_
  refine ev_iload_n dX9_steps_1 rfl ?_
  rcases bt_of hB with ⟨r1, S2, e3, hB⟩ | ⟨x4, S2, e3, rfl⟩
  rotate_left
  · exact es_callVx (As := [.int l1]) (t_X9_needPerson hl0 e3) nq_v dX9_steps_2 oX9_needPerson w_1146 rfl hl0 rfl rfl (Nat.le_of_ble_eq_true rfl) rfl (am_fit.of (by decide)) rfl
  refine es_callVtv (As := [.int l1]) (t_X9_needPerson hl0 e3) dX9_steps_2 oX9_needPerson w_1146 rfl hl0 rfl rfl (Nat.le_of_ble_eq_true rfl) rfl (am_fit.of (by decide)) ⟨Nat.zero_le _, Nat.zero_le _⟩ ?_
  refine ev_aload_n dX9_steps_5 rfl ?_
  refine ev_iload_n dX9_steps_6 rfl ?_
  rcases bt_of hB with ⟨r5, S6, e7, hB⟩ | ⟨x8, S6, e7, rfl⟩
  rotate_left
  · exact es_callVx (As := [.int l2]) (t_X9_needPerson hl0 e7) nq_v dX9_steps_7 oX9_needPerson w_1146 rfl hl0 rfl rfl (Nat.le_of_ble_eq_true rfl) rfl (am_fit.of (by decide)) rfl
  refine es_callVtv (As := [.int l2]) (t_X9_needPerson hl0 e7) dX9_steps_7 oX9_needPerson w_1146 rfl hl0 rfl rfl (Nat.le_of_ble_eq_true rfl) rfl (am_fit.of (by decide)) ⟨Nat.zero_le _, Nat.zero_le _⟩ ?_
  refine ev_iload_n dX9_steps_10 rfl ?_
  refine ev_istore_n dX9_steps_11 (by decide) rfl ?_
  refine ev_iconst 0 dX9_steps_12 (by decide) ?_
  refine ev_istore dX9_steps_13 (by decide) rfl ?_
  exact ev_ls (u_X9_steps_15 N l0 l2 l1 0 S6 hl0 hB) (And.intro rfl (And.intro rfl (And.intro rfl (And.intro rfl trivial))))
def b_X9_quiet_80 (N : Nat) (k31 : Nat → Int32 → Int32 → Int32 → Int32 → Int32 → am_S → Option (am_T)) (l0 : Nat) (l1 : Int32) (l2 : Int32) (l3 : Int32) (l5 : Int32) (z0 : Int32) (S : am_S) : Option (am_T) := k31 l0 l1 l2 (jmax l3 z0) z0 (l5 + 1) S
def b_X9_quiet_31 (N : Nat) : Nat → Nat → Int32 → Int32 → Int32 → Int32 → Int32 → am_S → Option (am_T)
  | 0, _, _, _, _, _, _, _ => none
  | n + 1, l0, l1, l2, l3, l4, l5, S => (if l2 ≤ l5 then some (.inl l3, S) else (bd (f_X7_heardBy N (rf l0 8) l1 S) (fun r2 S3 => (if isC 1 (rg S3 0) = true then (bd (f_X1_passDay N (rg S3 0) (rf l0 8) S3) (fun r6 S7 => (bd (f_X7_heardBy N (rf l0 8) l1 S7) (fun r9 S10 => (if r9 = r2 then b_X9_quiet_80 N (b_X9_quiet_31 N n) l0 l1 l2 l3 l5 (l4 + 1) S10 else b_X9_quiet_80 N (b_X9_quiet_31 N n) l0 l1 l2 l3 l5 0 S10))))) else none))))
def f_X9_quiet (N : Nat) (l0 : Nat) (l1 : Int32) (l2 : Int32) (S : am_S) : Option (am_T) := (bt (f_X9_needPerson N l0 l1 S) (fun r1 S2 => (bt (f_X9_needRange N l2 1 40 S2) (fun r5 S6 => (bv (f_X7_copyFrom N (rf l0 8) (rf l0 7) S6) (fun S10 => b_X9_quiet_31 N N l0 l1 l2 0 0 0 S10))))))
theorem u_X9_quiet_80 {G : am_G} {N : Nat} {h0 : am_H} {out : am_T} {k31 : Nat → Int32 → Int32 → Int32 → Int32 → Int32 → am_S → Option (am_T)} (hk31 : ∀ (l0 : Nat) (l1 : Int32) (l2 : Int32) (l3 : Int32) (l4 : Int32) (l5 : Int32) (S : am_S), isC 9 l0 = true → k31 l0 l1 l2 l3 l4 l5 S = some out → Ev G (am_R 8 (t_c out) (t_s out)) (am_Φ G h0 (t_c out) (t_s out) (q_ti out) (q_tx out)) mX9_quiet 0 0 31 [some (.ref l0), some (.int l1), some (.int l2), some (.int l3), some (.int l4), some (.int l5), none] [] (hp S)) (l0 : Nat) (l1 : Int32) (l2 : Int32) (l3 : Int32) (l5 : Int32) (z0 : Int32) (S : am_S) (hl0 : isC 9 l0 = true) (hB : b_X9_quiet_80 N k31 l0 l1 l2 l3 l5 z0 S = some out) : Ev G (am_R 8 (t_c out) (t_s out)) (am_Φ G h0 (t_c out) (t_s out) (q_ti out) (q_tx out)) mX9_quiet 0 0 80 [some (.ref l0), some (.int l1), some (.int l2), some (.int l3), none, some (.int l5), none] [.int z0] (hp S) := by
  unfold b_X9_quiet_80 at hB
  refine ev_istore dX9_quiet_80 (by decide) rfl ?_
  refine ev_iload_n dX9_quiet_82 rfl ?_
  refine ev_iload dX9_quiet_83 rfl ?_
  refine es_max dX9_quiet_85 w_1493 (Nat.le_of_ble_eq_true rfl) (am_fit.of (by decide)) ⟨Nat.zero_le _, Nat.zero_le _⟩ ?_
  refine ev_istore_n dX9_quiet_88 (by decide) rfl ?_
  refine es_iinc 1 dX9_quiet_89 rfl (by decide) (by decide) rfl ?_
  refine ev_goto 31 dX9_quiet_92 (by decide) ?_
  exact ev_ls (hk31 l0 l1 l2 (jmax l3 z0) z0 (l5 + 1) S hl0 hB) (And.intro rfl (And.intro rfl (And.intro rfl (And.intro rfl (And.intro rfl (And.intro rfl trivial))))))
theorem u_X9_quiet_31 {G : am_G} {N : Nat} {h0 : am_H} {out : am_T} : ∀ (n : Nat) (l0 : Nat) (l1 : Int32) (l2 : Int32) (l3 : Int32) (l4 : Int32) (l5 : Int32) (S : am_S), isC 9 l0 = true → b_X9_quiet_31 N n l0 l1 l2 l3 l4 l5 S = some out → Ev G (am_R 8 (t_c out) (t_s out)) (am_Φ G h0 (t_c out) (t_s out) (q_ti out) (q_tx out)) mX9_quiet 0 0 31 [some (.ref l0), some (.int l1), some (.int l2), some (.int l3), some (.int l4), some (.int l5), none] [] (hp S) := by
  intro n
  induction n with
  | zero =>
    intro l0 l1 l2 l3 l4 l5 S hl0 hB
    exact absurd (show none = some out from hB) (fun q => by cases q)
  | succ n ih =>
    intro l0 l1 l2 l3 l4 l5 S hl0 hB
    unfold b_X9_quiet_31 at hB
    refine ev_iload dX9_quiet_31 rfl ?_
    refine ev_iload_n dX9_quiet_33 rfl ?_
    refine ev_icmpge 95 dX9_quiet_34 (by decide) (fun q1 => ?_) (fun q1 => ?_)
    · rw [if_pos q1] at hB
      refine ev_iload_n dX9_quiet_95 rfl ?_
      obtain rfl := Option.some.inj hB
      exact ev_iret dX9_quiet_96 rfl (Nat.zero_le _) (Nat.zero_le _) (fun z => absurd z (hp_sealed _)) ⟨_, rfl, rfl, rfl⟩
    · rw [if_neg q1] at hB
      refine ev_aload_n dX9_quiet_37 rfl ?_
      refine es_getr k_9 8 dX9_quiet_38 (by decide) rfl (Or.inl w_586) hl0 rfl ?_
      refine ev_iload_n dX9_quiet_41 rfl ?_
      obtain ⟨r2, S3, e4, hB⟩ := bd_of hB
      refine es_callVi (As := [.int l1]) (t_X7_heardBy (tr_9_8 hl0) e4) dX9_quiet_42 oX7_heardBy w_1153 rfl (tr_9_8 hl0) rfl rfl (Nat.le_of_ble_eq_true rfl) rfl (am_fit.of (by decide)) ⟨Nat.zero_le _, Nat.zero_le _⟩ ?_
      refine ev_istore dX9_quiet_45 (by decide) rfl ?_
      refine ev_aload_n dX9_quiet_47 rfl ?_
      refine es_getd 0 k_9 5 dX9_quiet_48 (by decide) rfl (Or.inl w_583) hl0 rfl ?_
      obtain ⟨c5, hB⟩ := ck_of hB
      refine ev_aload_n dX9_quiet_51 rfl ?_
      refine es_getr k_9 8 dX9_quiet_52 (by decide) rfl (Or.inl w_586) hl0 rfl ?_
      obtain ⟨r6, S7, e8, hB⟩ := bd_of hB
      refine es_callVi (As := [.ref (rf l0 8)]) (t_X1_passDay c5 (tr_9_8 hl0) e8) dX9_quiet_55 oX1_passDay w_662 rfl c5 rfl rfl (Nat.le_of_ble_eq_true rfl) rfl (am_fit.of (by decide)) ⟨Nat.zero_le _, Nat.zero_le _⟩ ?_
      refine ev_pop dX9_quiet_58 rfl ?_
      refine ev_aload_n dX9_quiet_59 rfl ?_
      refine es_getr k_9 8 dX9_quiet_60 (by decide) rfl (Or.inl w_586) hl0 rfl ?_
      refine ev_iload_n dX9_quiet_63 rfl ?_
      obtain ⟨r9, S10, e11, hB⟩ := bd_of hB
      refine es_callVi (As := [.int l1]) (t_X7_heardBy (tr_9_8 hl0) e11) dX9_quiet_64 oX7_heardBy w_1153 rfl (tr_9_8 hl0) rfl rfl (Nat.le_of_ble_eq_true rfl) rfl (am_fit.of (by decide)) ⟨Nat.zero_le _, Nat.zero_le _⟩ ?_
      refine ev_iload dX9_quiet_67 rfl ?_
      refine ev_icmpne 79 dX9_quiet_69 (by decide) (fun q12 => ?_) (fun q12 => ?_)
      · rw [if_neg q12] at hB
        refine ev_iconst 0 dX9_quiet_79 (by decide) ?_
        exact ev_ls (u_X9_quiet_80 ih l0 l1 l2 l3 l5 0 S10 hl0 hB) (And.intro rfl (And.intro rfl (And.intro rfl (And.intro rfl (And.intro rfl trivial)))))
      · rw [if_pos q12] at hB
        refine ev_iload dX9_quiet_72 rfl ?_
        refine ev_iconst 1 dX9_quiet_74 (by decide) ?_
        refine ev_iadd dX9_quiet_75 ?_
        refine ev_goto 80 dX9_quiet_76 (by decide) ?_
        exact ev_ls (u_X9_quiet_80 ih l0 l1 l2 l3 l5 (l4 + 1) S10 hl0 hB) (And.intro rfl (And.intro rfl (And.intro rfl (And.intro rfl (And.intro rfl trivial)))))
theorem t_X9_quiet {G : am_G} {N : Nat} {l0 : Nat} {l1 : Int32} {l2 : Int32} {S : am_S} {out : am_T} (hl0 : isC 9 l0 = true) (hB : f_X9_quiet N l0 l1 l2 S = some out) : am_Met G 8 mX9_quiet (t_c out) (t_s out) [.ref l0, .int l1, .int l2] (hp S) (q_ti out) (q_tx out) := by
  refine am_of (by decide +kernel) rfl rfl rfl (Nat.le_of_ble_eq_true rfl) ?_
  unfold f_X9_quiet at hB
  refine ev_aload_n dX9_quiet_0 rfl ?_
  refine ev_iload_n dX9_quiet_1 rfl ?_
  rcases bt_of hB with ⟨r1, S2, e3, hB⟩ | ⟨x4, S2, e3, rfl⟩
  rotate_left
  · exact es_callVx (As := [.int l1]) (t_X9_needPerson hl0 e3) nq_v dX9_quiet_2 oX9_needPerson w_1146 rfl hl0 rfl rfl (Nat.le_of_ble_eq_true rfl) rfl (am_fit.of (by decide)) rfl
  refine es_callVtv (As := [.int l1]) (t_X9_needPerson hl0 e3) dX9_quiet_2 oX9_needPerson w_1146 rfl hl0 rfl rfl (Nat.le_of_ble_eq_true rfl) rfl (am_fit.of (by decide)) ⟨Nat.zero_le _, Nat.zero_le _⟩ ?_
  refine ev_iload_n dX9_quiet_5 rfl ?_
  refine ev_iconst 1 dX9_quiet_6 (by decide) ?_
  refine ev_bipush 40 dX9_quiet_7 (by decide) ?_
  rcases bt_of hB with ⟨r5, S6, e7, hB⟩ | ⟨x8, S6, e7, rfl⟩
  rotate_left
  · exact es_callSx (As := [.int l2, .int 1, .int 40]) (t_X9_needRange e7) nq_v dX9_quiet_9 oX9_needRange w_1211 rfl (Nat.le_of_ble_eq_true rfl) rfl (am_fit.of (by decide)) rfl
  refine es_callStv (As := [.int l2, .int 1, .int 40]) (t_X9_needRange e7) dX9_quiet_9 oX9_needRange w_1211 rfl (Nat.le_of_ble_eq_true rfl) rfl (am_fit.of (by decide)) ⟨Nat.zero_le _, Nat.zero_le _⟩ ?_
  refine ev_aload_n dX9_quiet_12 rfl ?_
  refine es_getr k_9 8 dX9_quiet_13 (by decide) rfl (Or.inl w_586) hl0 rfl ?_
  refine ev_aload_n dX9_quiet_16 rfl ?_
  refine es_getr k_9 7 dX9_quiet_17 (by decide) rfl (Or.inl w_585) hl0 rfl ?_
  obtain ⟨S10, e11, hB⟩ := bv_of hB
  refine es_callVv (As := [.ref (rf l0 7)]) (t_X7_copyFrom (tr_9_8 hl0) (tr_9_7 hl0) e11) dX9_quiet_20 oX7_copyFrom w_803 rfl (tr_9_8 hl0) rfl rfl (Nat.le_of_ble_eq_true rfl) rfl (am_fit.of (by decide)) ⟨Nat.zero_le _, Nat.zero_le _⟩ ?_
  refine ev_iconst 0 dX9_quiet_23 (by decide) ?_
  refine ev_istore_n dX9_quiet_24 (by decide) rfl ?_
  refine ev_iconst 0 dX9_quiet_25 (by decide) ?_
  refine ev_istore dX9_quiet_26 (by decide) rfl ?_
  refine ev_iconst 0 dX9_quiet_28 (by decide) ?_
  refine ev_istore dX9_quiet_29 (by decide) rfl ?_
  exact ev_ls (u_X9_quiet_31 N l0 l1 l2 0 0 0 S10 hl0 hB) (And.intro rfl (And.intro rfl (And.intro rfl (And.intro rfl (And.intro rfl (And.intro rfl trivial))))))
def f_X9_middle (N : Nat) (l0 : Nat) (S : am_S) : Option (Int32 × am_S) := (if isC 1 (rg S 0) = true then (bd (f_X1_bestPlace N (rg S 0) 0 S) (fun r2 S3 => some (r2, S3))) else none)
theorem t_X9_middle {G : am_G} {N : Nat} {l0 : Nat} {S : am_S} {out : Int32 × am_S} (hl0 : isC 9 l0 = true) (hB : f_X9_middle N l0 S = some out) : am_Met G 3 mX9_middle 0 0 [.ref l0] (hp S) (q_i out) q_n := by
  refine am_of (by decide +kernel) rfl rfl rfl (Nat.le_of_ble_eq_true rfl) ?_
  unfold f_X9_middle at hB
  refine ev_aload_n dX9_middle_0 rfl ?_
  refine es_getd 0 k_9 5 dX9_middle_1 (by decide) rfl (Or.inl w_583) hl0 rfl ?_
  obtain ⟨c1, hB⟩ := ck_of hB
  refine ev_iconst 0 dX9_middle_4 (by decide) ?_
  obtain ⟨r2, S3, e4, hB⟩ := bd_of hB
  refine es_callVi (As := [.int 0]) (t_X1_bestPlace c1 e4) dX9_middle_5 oX1_bestPlace w_790 rfl c1 rfl rfl (Nat.le_of_ble_eq_true rfl) rfl (am_fit.of (by decide)) ⟨Nat.zero_le _, Nat.zero_le _⟩ ?_
  obtain rfl := Option.some.inj hB
  exact ev_iret dX9_middle_8 rfl (Nat.zero_le _) (Nat.zero_le _) (fun z => absurd z (hp_sealed _)) ⟨rfl, rfl⟩
def b_X9_bestAt_74 (N : Nat) (k20 : Nat → Int32 → Int32 → Int32 → Int32 → Int32 → am_S → Option (am_T)) (l0 : Nat) (l1 : Int32) (l2 : Int32) (l3 : Int32) (l4 : Int32) (l5 : Int32) (S : am_S) : Option (am_T) := k20 l0 l1 l2 l3 l4 (l5 + 1) S
def b_X9_bestAt_20 (N : Nat) : Nat → Nat → Int32 → Int32 → Int32 → Int32 → Int32 → am_S → Option (am_T)
  | 0, _, _, _, _, _, _, _ => none
  | n + 1, l0, l1, l2, l3, l4, l5, S => (if isC 1 (rg S 0) = true then (if (sg S (rg S 0) 3) ≤ l5 then some (.inl l3, S) else (if l5 = l1 then b_X9_bestAt_74 N (b_X9_bestAt_20 N n) l0 l1 l2 l3 l4 l5 S else (bv (f_X9_lookAheadTurned N l0 l1 l5 l2 S) (fun S5 => (bd (f_X7_heardBy N (rf l0 8) l5 S5) (fun r7 S8 => (if r7 ≤ l4 then b_X9_bestAt_74 N (b_X9_bestAt_20 N n) l0 l1 l2 l3 l4 l5 S8 else (bd (f_X7_heardBy N (rf l0 8) l5 S8) (fun r11 S12 => b_X9_bestAt_74 N (b_X9_bestAt_20 N n) l0 l1 l2 l5 r11 l5 S12))))))))) else none)
def f_X9_bestAt (N : Nat) (l0 : Nat) (l1 : Int32) (l2 : Int32) (S : am_S) : Option (am_T) := (bt (f_X9_needPerson N l0 l1 S) (fun r1 S2 => (bt (f_X9_needRange N l2 1 40 S2) (fun r5 S6 => b_X9_bestAt_20 N N l0 l1 l2 (-1) (-1) 0 S6))))
theorem u_X9_bestAt_74 {G : am_G} {N : Nat} {h0 : am_H} {out : am_T} {k20 : Nat → Int32 → Int32 → Int32 → Int32 → Int32 → am_S → Option (am_T)} (hk20 : ∀ (l0 : Nat) (l1 : Int32) (l2 : Int32) (l3 : Int32) (l4 : Int32) (l5 : Int32) (S : am_S), isC 9 l0 = true → k20 l0 l1 l2 l3 l4 l5 S = some out → Ev G (am_R 8 (t_c out) (t_s out)) (am_Φ G h0 (t_c out) (t_s out) (q_ti out) (q_tx out)) mX9_bestAt 0 0 20 [some (.ref l0), some (.int l1), some (.int l2), some (.int l3), some (.int l4), some (.int l5)] [] (hp S)) (l0 : Nat) (l1 : Int32) (l2 : Int32) (l3 : Int32) (l4 : Int32) (l5 : Int32) (S : am_S) (hl0 : isC 9 l0 = true) (hB : b_X9_bestAt_74 N k20 l0 l1 l2 l3 l4 l5 S = some out) : Ev G (am_R 8 (t_c out) (t_s out)) (am_Φ G h0 (t_c out) (t_s out) (q_ti out) (q_tx out)) mX9_bestAt 0 0 74 [some (.ref l0), some (.int l1), some (.int l2), some (.int l3), some (.int l4), some (.int l5)] [] (hp S) := by
  unfold b_X9_bestAt_74 at hB
  refine es_iinc 1 dX9_bestAt_74 rfl (by decide) (by decide) rfl ?_
  refine ev_goto 20 dX9_bestAt_77 (by decide) ?_
  exact ev_ls (hk20 l0 l1 l2 l3 l4 (l5 + 1) S hl0 hB) (And.intro rfl (And.intro rfl (And.intro rfl (And.intro rfl (And.intro rfl (And.intro rfl trivial))))))
theorem u_X9_bestAt_20 {G : am_G} {N : Nat} {h0 : am_H} {out : am_T} : ∀ (n : Nat) (l0 : Nat) (l1 : Int32) (l2 : Int32) (l3 : Int32) (l4 : Int32) (l5 : Int32) (S : am_S), isC 9 l0 = true → b_X9_bestAt_20 N n l0 l1 l2 l3 l4 l5 S = some out → Ev G (am_R 8 (t_c out) (t_s out)) (am_Φ G h0 (t_c out) (t_s out) (q_ti out) (q_tx out)) mX9_bestAt 0 0 20 [some (.ref l0), some (.int l1), some (.int l2), some (.int l3), some (.int l4), some (.int l5)] [] (hp S) := by
  intro n
  induction n with
  | zero =>
    intro l0 l1 l2 l3 l4 l5 S hl0 hB
    exact absurd (show none = some out from hB) (fun q => by cases q)
  | succ n ih =>
    intro l0 l1 l2 l3 l4 l5 S hl0 hB
    unfold b_X9_bestAt_20 at hB
    refine ev_iload dX9_bestAt_20 rfl ?_
    refine ev_aload_n dX9_bestAt_22 rfl ?_
    refine es_getd 0 k_9 5 dX9_bestAt_23 (by decide) rfl (Or.inl w_583) hl0 rfl ?_
    obtain ⟨c1, hB⟩ := ck_of hB
    refine es_geti k_1 3 dX9_bestAt_26 (by decide) rfl (Or.inr ⟨_, n_143⟩) c1 rfl ?_
    refine ev_icmpge 80 dX9_bestAt_29 (by decide) (fun q2 => ?_) (fun q2 => ?_)
    · rw [if_pos q2] at hB
      refine ev_iload_n dX9_bestAt_80 rfl ?_
      obtain rfl := Option.some.inj hB
      exact ev_iret dX9_bestAt_81 rfl (Nat.zero_le _) (Nat.zero_le _) (fun z => absurd z (hp_sealed _)) ⟨_, rfl, rfl, rfl⟩
    · rw [if_neg q2] at hB
      refine ev_iload dX9_bestAt_32 rfl ?_
      refine ev_iload_n dX9_bestAt_34 rfl ?_
      refine ev_icmpeq 74 dX9_bestAt_35 (by decide) (fun q3 => ?_) (fun q3 => ?_)
      · rw [if_pos q3] at hB
        exact ev_ls (u_X9_bestAt_74 ih l0 l1 l2 l3 l4 l5 S hl0 hB) (And.intro rfl (And.intro rfl (And.intro rfl (And.intro rfl (And.intro rfl (And.intro rfl trivial))))))
      · rw [if_neg q3] at hB
        refine ev_aload_n dX9_bestAt_38 rfl ?_
        refine ev_iload_n dX9_bestAt_39 rfl ?_
        refine ev_iload dX9_bestAt_40 rfl ?_
        refine ev_iload_n dX9_bestAt_42 rfl ?_
        obtain ⟨S5, e6, hB⟩ := bv_of hB
        refine es_callVv (As := [.int l1, .int l5, .int l2]) (t_X9_lookAheadTurned hl0 e6) dX9_bestAt_43 oX9_lookAheadTurned w_1398 rfl hl0 rfl rfl (Nat.le_of_ble_eq_true rfl) rfl (am_fit.of (by decide)) ⟨Nat.zero_le _, Nat.zero_le _⟩ ?_
        refine ev_aload_n dX9_bestAt_46 rfl ?_
        refine es_getr k_9 8 dX9_bestAt_47 (by decide) rfl (Or.inl w_586) hl0 rfl ?_
        refine ev_iload dX9_bestAt_50 rfl ?_
        obtain ⟨r7, S8, e9, hB⟩ := bd_of hB
        refine es_callVi (As := [.int l5]) (t_X7_heardBy (tr_9_8 hl0) e9) dX9_bestAt_52 oX7_heardBy w_1153 rfl (tr_9_8 hl0) rfl rfl (Nat.le_of_ble_eq_true rfl) rfl (am_fit.of (by decide)) ⟨Nat.zero_le _, Nat.zero_le _⟩ ?_
        refine ev_iload dX9_bestAt_55 rfl ?_
        refine ev_icmple 74 dX9_bestAt_57 (by decide) (fun q10 => ?_) (fun q10 => ?_)
        · rw [if_pos q10] at hB
          exact ev_ls (u_X9_bestAt_74 ih l0 l1 l2 l3 l4 l5 S8 hl0 hB) (And.intro rfl (And.intro rfl (And.intro rfl (And.intro rfl (And.intro rfl (And.intro rfl trivial))))))
        · rw [if_neg q10] at hB
          refine ev_iload dX9_bestAt_60 rfl ?_
          refine ev_istore_n dX9_bestAt_62 (by decide) rfl ?_
          refine ev_aload_n dX9_bestAt_63 rfl ?_
          refine es_getr k_9 8 dX9_bestAt_64 (by decide) rfl (Or.inl w_586) hl0 rfl ?_
          refine ev_iload dX9_bestAt_67 rfl ?_
          obtain ⟨r11, S12, e13, hB⟩ := bd_of hB
          refine es_callVi (As := [.int l5]) (t_X7_heardBy (tr_9_8 hl0) e13) dX9_bestAt_69 oX7_heardBy w_1153 rfl (tr_9_8 hl0) rfl rfl (Nat.le_of_ble_eq_true rfl) rfl (am_fit.of (by decide)) ⟨Nat.zero_le _, Nat.zero_le _⟩ ?_
          refine ev_istore dX9_bestAt_72 (by decide) rfl ?_
          exact ev_ls (u_X9_bestAt_74 ih l0 l1 l2 l5 r11 l5 S12 hl0 hB) (And.intro rfl (And.intro rfl (And.intro rfl (And.intro rfl (And.intro rfl (And.intro rfl trivial))))))
theorem t_X9_bestAt {G : am_G} {N : Nat} {l0 : Nat} {l1 : Int32} {l2 : Int32} {S : am_S} {out : am_T} (hl0 : isC 9 l0 = true) (hB : f_X9_bestAt N l0 l1 l2 S = some out) : am_Met G 8 mX9_bestAt (t_c out) (t_s out) [.ref l0, .int l1, .int l2] (hp S) (q_ti out) (q_tx out) := by
  refine am_of (by decide +kernel) rfl rfl rfl (Nat.le_of_ble_eq_true rfl) ?_
  unfold f_X9_bestAt at hB
  refine ev_aload_n dX9_bestAt_0 rfl ?_
  refine ev_iload_n dX9_bestAt_1 rfl ?_
  rcases bt_of hB with ⟨r1, S2, e3, hB⟩ | ⟨x4, S2, e3, rfl⟩
  rotate_left
  · exact es_callVx (As := [.int l1]) (t_X9_needPerson hl0 e3) nq_v dX9_bestAt_2 oX9_needPerson w_1146 rfl hl0 rfl rfl (Nat.le_of_ble_eq_true rfl) rfl (am_fit.of (by decide)) rfl
  refine es_callVtv (As := [.int l1]) (t_X9_needPerson hl0 e3) dX9_bestAt_2 oX9_needPerson w_1146 rfl hl0 rfl rfl (Nat.le_of_ble_eq_true rfl) rfl (am_fit.of (by decide)) ⟨Nat.zero_le _, Nat.zero_le _⟩ ?_
  refine ev_iload_n dX9_bestAt_5 rfl ?_
  refine ev_iconst 1 dX9_bestAt_6 (by decide) ?_
  refine ev_bipush 40 dX9_bestAt_7 (by decide) ?_
  rcases bt_of hB with ⟨r5, S6, e7, hB⟩ | ⟨x8, S6, e7, rfl⟩
  rotate_left
  · exact es_callSx (As := [.int l2, .int 1, .int 40]) (t_X9_needRange e7) nq_v dX9_bestAt_9 oX9_needRange w_1211 rfl (Nat.le_of_ble_eq_true rfl) rfl (am_fit.of (by decide)) rfl
  refine es_callStv (As := [.int l2, .int 1, .int 40]) (t_X9_needRange e7) dX9_bestAt_9 oX9_needRange w_1211 rfl (Nat.le_of_ble_eq_true rfl) rfl (am_fit.of (by decide)) ⟨Nat.zero_le _, Nat.zero_le _⟩ ?_
  refine ev_iconst (-1) dX9_bestAt_12 (by decide) ?_
  refine ev_istore_n dX9_bestAt_13 (by decide) rfl ?_
  refine ev_iconst (-1) dX9_bestAt_14 (by decide) ?_
  refine ev_istore dX9_bestAt_15 (by decide) rfl ?_
  refine ev_iconst 0 dX9_bestAt_17 (by decide) ?_
  refine ev_istore dX9_bestAt_18 (by decide) rfl ?_
  exact ev_ls (u_X9_bestAt_20 N l0 l1 l2 (-1) (-1) 0 S6 hl0 hB) (And.intro rfl (And.intro rfl (And.intro rfl (And.intro rfl (And.intro rfl (And.intro rfl trivial))))))
def f_X9_reds (N : Nat) (l0 : Nat) (l1 : Int32) (S : am_S) : Option (am_T) := (bt (f_X9_needRange N l1 0 40 S) (fun r1 S2 => (bd (f_X9_lookAhead N l0 l1 S2) (fun r5 S6 => (bd (f_X7_redOfAll N (rf l0 8) S6) (fun r8 S9 => some (.inl r8, S9)))))))
theorem t_X9_reds {G : am_G} {N : Nat} {l0 : Nat} {l1 : Int32} {S : am_S} {out : am_T} (hl0 : isC 9 l0 = true) (hB : f_X9_reds N l0 l1 S = some out) : am_Met G 8 mX9_reds (t_c out) (t_s out) [.ref l0, .int l1] (hp S) (q_ti out) (q_tx out) := by
  refine am_of (by decide +kernel) rfl rfl rfl (Nat.le_of_ble_eq_true rfl) ?_
  unfold f_X9_reds at hB
  refine ev_iload_n dX9_reds_0 rfl ?_
  refine ev_iconst 0 dX9_reds_1 (by decide) ?_
  refine ev_bipush 40 dX9_reds_2 (by decide) ?_
  rcases bt_of hB with ⟨r1, S2, e3, hB⟩ | ⟨x4, S2, e3, rfl⟩
  rotate_left
  · exact es_callSx (As := [.int l1, .int 0, .int 40]) (t_X9_needRange e3) nq_v dX9_reds_4 oX9_needRange w_1211 rfl (Nat.le_of_ble_eq_true rfl) rfl (am_fit.of (by decide)) rfl
  refine es_callStv (As := [.int l1, .int 0, .int 40]) (t_X9_needRange e3) dX9_reds_4 oX9_needRange w_1211 rfl (Nat.le_of_ble_eq_true rfl) rfl (am_fit.of (by decide)) ⟨Nat.zero_le _, Nat.zero_le _⟩ ?_
  refine ev_aload_n dX9_reds_7 rfl ?_
  refine ev_iload_n dX9_reds_8 rfl ?_
  obtain ⟨r5, S6, e7, hB⟩ := bd_of hB
  refine es_callVi (As := [.int l1]) (t_X9_lookAhead hl0 e7) dX9_reds_9 oX9_lookAhead w_1215 rfl hl0 rfl rfl (Nat.le_of_ble_eq_true rfl) rfl (am_fit.of (by decide)) ⟨Nat.zero_le _, Nat.zero_le _⟩ ?_
  refine ev_pop dX9_reds_12 rfl ?_
  refine ev_aload_n dX9_reds_13 rfl ?_
  refine es_getr k_9 8 dX9_reds_14 (by decide) rfl (Or.inl w_586) hl0 rfl ?_
  obtain ⟨r8, S9, e10, hB⟩ := bd_of hB
  refine es_callVi (As := []) (t_X7_redOfAll (tr_9_8 hl0) e10) dX9_reds_17 oX7_redOfAll w_1508 rfl (tr_9_8 hl0) rfl rfl (Nat.le_of_ble_eq_true rfl) rfl (am_fit.of (by decide)) ⟨Nat.zero_le _, Nat.zero_le _⟩ ?_
  obtain rfl := Option.some.inj hB
  exact ev_iret dX9_reds_20 rfl (Nat.zero_le _) (Nat.zero_le _) (fun z => absurd z (hp_sealed _)) ⟨_, rfl, rfl, rfl⟩
def b_X9_whose_52 (N : Nat) (k12 : Nat → Int32 → Int32 → Int32 → Int32 → am_S → Option (am_T)) (l0 : Nat) (l1 : Int32) (l2 : Int32) (l3 : Int32) (l4 : Int32) (S : am_S) : Option (am_T) := k12 l0 l1 l2 l3 (l4 + 1) S
def b_X9_whose_12 (N : Nat) : Nat → Nat → Int32 → Int32 → Int32 → Int32 → am_S → Option (am_T)
  | 0, _, _, _, _, _, _ => none
  | n + 1, l0, l1, l2, l3, l4, S => (if isC 1 (rg S 0) = true then (if (sg S (rg S 0) 3) ≤ l4 then some (.inl l2, S) else (bd (f_X7_heldOf N (rf l0 7) l1 l4 S) (fun r3 S4 => (if r3 ≤ l3 then b_X9_whose_52 N (b_X9_whose_12 N n) l0 l1 l2 l3 l4 S4 else (bd (f_X7_heldOf N (rf l0 7) l1 l4 S4) (fun r7 S8 => b_X9_whose_52 N (b_X9_whose_12 N n) l0 l1 l4 r7 l4 S8)))))) else none)
def f_X9_whose (N : Nat) (l0 : Nat) (l1 : Int32) (S : am_S) : Option (am_T) := (bt (f_X9_needBox N l0 l1 S) (fun r1 S2 => b_X9_whose_12 N N l0 l1 (-1) 0 0 S2))
theorem u_X9_whose_52 {G : am_G} {N : Nat} {h0 : am_H} {out : am_T} {k12 : Nat → Int32 → Int32 → Int32 → Int32 → am_S → Option (am_T)} (hk12 : ∀ (l0 : Nat) (l1 : Int32) (l2 : Int32) (l3 : Int32) (l4 : Int32) (S : am_S), isC 9 l0 = true → k12 l0 l1 l2 l3 l4 S = some out → Ev G (am_R 8 (t_c out) (t_s out)) (am_Φ G h0 (t_c out) (t_s out) (q_ti out) (q_tx out)) mX9_whose 0 0 12 [some (.ref l0), some (.int l1), some (.int l2), some (.int l3), some (.int l4)] [] (hp S)) (l0 : Nat) (l1 : Int32) (l2 : Int32) (l3 : Int32) (l4 : Int32) (S : am_S) (hl0 : isC 9 l0 = true) (hB : b_X9_whose_52 N k12 l0 l1 l2 l3 l4 S = some out) : Ev G (am_R 8 (t_c out) (t_s out)) (am_Φ G h0 (t_c out) (t_s out) (q_ti out) (q_tx out)) mX9_whose 0 0 52 [some (.ref l0), some (.int l1), some (.int l2), some (.int l3), some (.int l4)] [] (hp S) := by
  unfold b_X9_whose_52 at hB
  refine es_iinc 1 dX9_whose_52 rfl (by decide) (by decide) rfl ?_
  refine ev_goto 12 dX9_whose_55 (by decide) ?_
  exact ev_ls (hk12 l0 l1 l2 l3 (l4 + 1) S hl0 hB) (And.intro rfl (And.intro rfl (And.intro rfl (And.intro rfl (And.intro rfl trivial)))))
theorem u_X9_whose_12 {G : am_G} {N : Nat} {h0 : am_H} {out : am_T} : ∀ (n : Nat) (l0 : Nat) (l1 : Int32) (l2 : Int32) (l3 : Int32) (l4 : Int32) (S : am_S), isC 9 l0 = true → b_X9_whose_12 N n l0 l1 l2 l3 l4 S = some out → Ev G (am_R 8 (t_c out) (t_s out)) (am_Φ G h0 (t_c out) (t_s out) (q_ti out) (q_tx out)) mX9_whose 0 0 12 [some (.ref l0), some (.int l1), some (.int l2), some (.int l3), some (.int l4)] [] (hp S) := by
  intro n
  induction n with
  | zero =>
    intro l0 l1 l2 l3 l4 S hl0 hB
    exact absurd (show none = some out from hB) (fun q => by cases q)
  | succ n ih =>
    intro l0 l1 l2 l3 l4 S hl0 hB
    unfold b_X9_whose_12 at hB
    refine ev_iload dX9_whose_12 rfl ?_
    refine ev_aload_n dX9_whose_14 rfl ?_
    refine es_getd 0 k_9 5 dX9_whose_15 (by decide) rfl (Or.inl w_583) hl0 rfl ?_
    obtain ⟨c1, hB⟩ := ck_of hB
    refine es_geti k_1 3 dX9_whose_18 (by decide) rfl (Or.inr ⟨_, n_143⟩) c1 rfl ?_
    refine ev_icmpge 58 dX9_whose_21 (by decide) (fun q2 => ?_) (fun q2 => ?_)
    · rw [if_pos q2] at hB
      refine ev_iload_n dX9_whose_58 rfl ?_
      obtain rfl := Option.some.inj hB
      exact ev_iret dX9_whose_59 rfl (Nat.zero_le _) (Nat.zero_le _) (fun z => absurd z (hp_sealed _)) ⟨_, rfl, rfl, rfl⟩
    · rw [if_neg q2] at hB
      refine ev_aload_n dX9_whose_24 rfl ?_
      refine es_getr k_9 7 dX9_whose_25 (by decide) rfl (Or.inl w_585) hl0 rfl ?_
      refine ev_iload_n dX9_whose_28 rfl ?_
      refine ev_iload dX9_whose_29 rfl ?_
      obtain ⟨r3, S4, e5, hB⟩ := bd_of hB
      refine es_callVi (As := [.int l1, .int l4]) (t_X7_heldOf (tr_9_7 hl0) e5) dX9_whose_31 oX7_heldOf w_1167 rfl (tr_9_7 hl0) rfl rfl (Nat.le_of_ble_eq_true rfl) rfl (am_fit.of (by decide)) ⟨Nat.zero_le _, Nat.zero_le _⟩ ?_
      refine ev_iload_n dX9_whose_34 rfl ?_
      refine ev_icmple 52 dX9_whose_35 (by decide) (fun q6 => ?_) (fun q6 => ?_)
      · rw [if_pos q6] at hB
        exact ev_ls (u_X9_whose_52 ih l0 l1 l2 l3 l4 S4 hl0 hB) (And.intro rfl (And.intro rfl (And.intro rfl (And.intro rfl (And.intro rfl trivial)))))
      · rw [if_neg q6] at hB
        refine ev_iload dX9_whose_38 rfl ?_
        refine ev_istore_n dX9_whose_40 (by decide) rfl ?_
        refine ev_aload_n dX9_whose_41 rfl ?_
        refine es_getr k_9 7 dX9_whose_42 (by decide) rfl (Or.inl w_585) hl0 rfl ?_
        refine ev_iload_n dX9_whose_45 rfl ?_
        refine ev_iload dX9_whose_46 rfl ?_
        obtain ⟨r7, S8, e9, hB⟩ := bd_of hB
        refine es_callVi (As := [.int l1, .int l4]) (t_X7_heldOf (tr_9_7 hl0) e9) dX9_whose_48 oX7_heldOf w_1167 rfl (tr_9_7 hl0) rfl rfl (Nat.le_of_ble_eq_true rfl) rfl (am_fit.of (by decide)) ⟨Nat.zero_le _, Nat.zero_le _⟩ ?_
        refine ev_istore_n dX9_whose_51 (by decide) rfl ?_
        exact ev_ls (u_X9_whose_52 ih l0 l1 l4 r7 l4 S8 hl0 hB) (And.intro rfl (And.intro rfl (And.intro rfl (And.intro rfl (And.intro rfl trivial)))))
theorem t_X9_whose {G : am_G} {N : Nat} {l0 : Nat} {l1 : Int32} {S : am_S} {out : am_T} (hl0 : isC 9 l0 = true) (hB : f_X9_whose N l0 l1 S = some out) : am_Met G 8 mX9_whose (t_c out) (t_s out) [.ref l0, .int l1] (hp S) (q_ti out) (q_tx out) := by
  refine am_of (by decide +kernel) rfl rfl rfl (Nat.le_of_ble_eq_true rfl) ?_
  unfold f_X9_whose at hB
  refine ev_aload_n dX9_whose_0 rfl ?_
  refine ev_iload_n dX9_whose_1 rfl ?_
  rcases bt_of hB with ⟨r1, S2, e3, hB⟩ | ⟨x4, S2, e3, rfl⟩
  rotate_left
  · exact es_callVx (As := [.int l1]) (t_X9_needBox hl0 e3) nq_v dX9_whose_2 oX9_needBox w_1124 rfl hl0 rfl rfl (Nat.le_of_ble_eq_true rfl) rfl (am_fit.of (by decide)) rfl
  refine es_callVtv (As := [.int l1]) (t_X9_needBox hl0 e3) dX9_whose_2 oX9_needBox w_1124 rfl hl0 rfl rfl (Nat.le_of_ble_eq_true rfl) rfl (am_fit.of (by decide)) ⟨Nat.zero_le _, Nat.zero_le _⟩ ?_
  refine ev_iconst (-1) dX9_whose_5 (by decide) ?_
  refine ev_istore_n dX9_whose_6 (by decide) rfl ?_
  refine ev_iconst 0 dX9_whose_7 (by decide) ?_
  refine ev_istore_n dX9_whose_8 (by decide) rfl ?_
  refine ev_iconst 0 dX9_whose_9 (by decide) ?_
  refine ev_istore dX9_whose_10 (by decide) rfl ?_
  exact ev_ls (u_X9_whose_12 N l0 l1 (-1) 0 0 S2 hl0 hB) (And.intro rfl (And.intro rfl (And.intro rfl (And.intro rfl (And.intro rfl trivial)))))
def f_X9_image (N : Nat) (l0 : Nat) (S : am_S) : Option (am_S) := (bv (f_X7_copyFrom N (rf l0 12) (rf l0 7) S) (fun S2 => (bv (f_X0_copyFrom N (rf l0 13) (rf l0 9) S2) (fun S5 => (bv (f_X3_copyFrom N (rf l0 14) (rf l0 10) S5) (fun S8 => some (sp S8 l0 11 1)))))))
theorem t_X9_image {G : am_G} {N : Nat} {l0 : Nat} {S : am_S} {out : am_S} (hl0 : isC 9 l0 = true) (hB : f_X9_image N l0 S = some out) : am_Met G 2 mX9_image 0 0 [.ref l0] (hp S) (q_v out) q_n := by
  refine am_of (by decide +kernel) rfl rfl rfl (Nat.le_of_ble_eq_true rfl) ?_
  unfold f_X9_image at hB
  refine ev_aload_n dX9_image_0 rfl ?_
  refine es_getr k_9 12 dX9_image_1 (by decide) rfl (Or.inl w_590) hl0 rfl ?_
  refine ev_aload_n dX9_image_4 rfl ?_
  refine es_getr k_9 7 dX9_image_5 (by decide) rfl (Or.inl w_585) hl0 rfl ?_
  obtain ⟨S2, e3, hB⟩ := bv_of hB
  refine es_callVv (As := [.ref (rf l0 7)]) (t_X7_copyFrom (tr_9_12 hl0) (tr_9_7 hl0) e3) dX9_image_8 oX7_copyFrom w_803 rfl (tr_9_12 hl0) rfl rfl (Nat.le_of_ble_eq_true rfl) rfl (am_fit.of (by decide)) ⟨Nat.zero_le _, Nat.zero_le _⟩ ?_
  refine ev_aload_n dX9_image_11 rfl ?_
  refine es_getr k_9 13 dX9_image_12 (by decide) rfl (Or.inl w_591) hl0 rfl ?_
  refine ev_aload_n dX9_image_15 rfl ?_
  refine es_getr k_9 9 dX9_image_16 (by decide) rfl (Or.inl w_587) hl0 rfl ?_
  obtain ⟨S5, e6, hB⟩ := bv_of hB
  refine es_callVv (As := [.ref (rf l0 9)]) (t_X0_copyFrom (tr_9_13 hl0) (tr_9_9 hl0) e6) dX9_image_19 oX0_copyFrom w_808 rfl (tr_9_13 hl0) rfl rfl (Nat.le_of_ble_eq_true rfl) rfl (am_fit.of (by decide)) ⟨Nat.zero_le _, Nat.zero_le _⟩ ?_
  refine ev_aload_n dX9_image_22 rfl ?_
  refine es_getr k_9 14 dX9_image_23 (by decide) rfl (Or.inl w_592) hl0 rfl ?_
  refine ev_aload_n dX9_image_26 rfl ?_
  refine es_getr k_9 10 dX9_image_27 (by decide) rfl (Or.inl w_588) hl0 rfl ?_
  obtain ⟨S8, e9, hB⟩ := bv_of hB
  refine es_callVv (As := [.ref (rf l0 10)]) (t_X3_copyFrom (tr_9_14 hl0) (tr_9_10 hl0) e9) dX9_image_30 oX3_copyFrom w_812 rfl (tr_9_14 hl0) rfl rfl (Nat.le_of_ble_eq_true rfl) rfl (am_fit.of (by decide)) ⟨Nat.zero_le _, Nat.zero_le _⟩ ?_
  refine ev_aload_n dX9_image_33 rfl ?_
  refine ev_iconst 1 dX9_image_34 (by decide) ?_
  refine es_putz k_9 11 dX9_image_35 (by decide) rfl (Or.inl w_589) rfl rfl (Or.inr rfl) hl0 rfl ?_
  obtain rfl := Option.some.inj hB
  exact ev_vret dX9_image_38 rfl (Nat.zero_le _) (Nat.zero_le _) (fun z => absurd z (hp_sealed _)) ⟨rfl, rfl⟩
def f_X9_restore (N : Nat) (l0 : Nat) (S : am_S) : Option (Int32 × am_S) := (if (sg S l0 11) = 0 then some (0, S) else (bv (f_X7_copyFrom N (rf l0 7) (rf l0 12) S) (fun S3 => (bv (f_X0_copyFrom N (rf l0 9) (rf l0 13) S3) (fun S6 => (bv (f_X3_copyFrom N (rf l0 10) (rf l0 14) S6) (fun S9 => some (1, S9))))))))
theorem t_X9_restore {G : am_G} {N : Nat} {l0 : Nat} {S : am_S} {out : Int32 × am_S} (hl0 : isC 9 l0 = true) (hB : f_X9_restore N l0 S = some out) : am_Met G 2 mX9_restore 0 0 [.ref l0] (hp S) (q_i out) q_n := by
  refine am_of (by decide +kernel) rfl rfl rfl (Nat.le_of_ble_eq_true rfl) ?_
  unfold f_X9_restore at hB
  refine ev_aload_n dX9_restore_0 rfl ?_
  refine es_geti k_9 11 dX9_restore_1 (by decide) rfl (Or.inl w_589) hl0 rfl ?_
  refine ev_ifne 9 dX9_restore_4 (by decide) (fun q1 => ?_) (fun q1 => ?_)
  · rw [if_neg q1] at hB
    refine ev_aload_n dX9_restore_9 rfl ?_
    refine es_getr k_9 7 dX9_restore_10 (by decide) rfl (Or.inl w_585) hl0 rfl ?_
    refine ev_aload_n dX9_restore_13 rfl ?_
    refine es_getr k_9 12 dX9_restore_14 (by decide) rfl (Or.inl w_590) hl0 rfl ?_
    obtain ⟨S3, e4, hB⟩ := bv_of hB
    refine es_callVv (As := [.ref (rf l0 12)]) (t_X7_copyFrom (tr_9_7 hl0) (tr_9_12 hl0) e4) dX9_restore_17 oX7_copyFrom w_803 rfl (tr_9_7 hl0) rfl rfl (Nat.le_of_ble_eq_true rfl) rfl (am_fit.of (by decide)) ⟨Nat.zero_le _, Nat.zero_le _⟩ ?_
    refine ev_aload_n dX9_restore_20 rfl ?_
    refine es_getr k_9 9 dX9_restore_21 (by decide) rfl (Or.inl w_587) hl0 rfl ?_
    refine ev_aload_n dX9_restore_24 rfl ?_
    refine es_getr k_9 13 dX9_restore_25 (by decide) rfl (Or.inl w_591) hl0 rfl ?_
    obtain ⟨S6, e7, hB⟩ := bv_of hB
    refine es_callVv (As := [.ref (rf l0 13)]) (t_X0_copyFrom (tr_9_9 hl0) (tr_9_13 hl0) e7) dX9_restore_28 oX0_copyFrom w_808 rfl (tr_9_9 hl0) rfl rfl (Nat.le_of_ble_eq_true rfl) rfl (am_fit.of (by decide)) ⟨Nat.zero_le _, Nat.zero_le _⟩ ?_
    refine ev_aload_n dX9_restore_31 rfl ?_
    refine es_getr k_9 10 dX9_restore_32 (by decide) rfl (Or.inl w_588) hl0 rfl ?_
    refine ev_aload_n dX9_restore_35 rfl ?_
    refine es_getr k_9 14 dX9_restore_36 (by decide) rfl (Or.inl w_592) hl0 rfl ?_
    obtain ⟨S9, e10, hB⟩ := bv_of hB
    refine es_callVv (As := [.ref (rf l0 14)]) (t_X3_copyFrom (tr_9_10 hl0) (tr_9_14 hl0) e10) dX9_restore_39 oX3_copyFrom w_812 rfl (tr_9_10 hl0) rfl rfl (Nat.le_of_ble_eq_true rfl) rfl (am_fit.of (by decide)) ⟨Nat.zero_le _, Nat.zero_le _⟩ ?_
    refine ev_iconst 1 dX9_restore_42 (by decide) ?_
    obtain rfl := Option.some.inj hB
    exact ev_zret dX9_restore_43 rfl (by rfl) (Nat.zero_le _) (Nat.zero_le _) (fun z => absurd z (hp_sealed _)) ⟨rfl, rfl⟩
  · rw [if_pos q1] at hB
    refine ev_iconst 0 dX9_restore_7 (by decide) ?_
    obtain rfl := Option.some.inj hB
    exact ev_zret dX9_restore_8 rfl (by rfl) (Nat.zero_le _) (Nat.zero_le _) (fun z => absurd z (hp_sealed _)) ⟨rfl, rfl⟩
