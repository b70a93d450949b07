def f_X10_thrown (N : Nat) (l0 : Nat) (S : am_S) : Option (Int32 × am_S) := some ((sg S l0 0), S)
theorem t_X10_thrown {G : am_G} {N : Nat} {l0 : Nat} {S : am_S} {out : Int32 × am_S} (hl0 : isC 10 l0 = true) (hB : f_X10_thrown N l0 S = some out) : am_Met G 1 mX10_thrown 0 0 [.ref l0] (hp S) (q_i out) q_n := by
  refine am_of (by decide +kernel) rfl rfl rfl (Nat.le_of_ble_eq_true rfl) ?_
  unfold f_X10_thrown at hB
  refine ev_aload_n dX10_thrown_0 rfl ?_
  refine es_geti k_10 0 dX10_thrown_1 (by decide) rfl (Or.inl w_1525) hl0 rfl ?_
  obtain rfl := Option.some.inj hB
  exact ev_iret dX10_thrown_4 rfl (Nat.zero_le _) (Nat.zero_le _) (fun z => absurd z (hp_sealed _)) ⟨rfl, rfl⟩
def b_X10_right_28 (N : Nat) (z0 : Int32) (S : am_S) : Option (Int32 × am_S) := (if isB z0 = true then some (z0, S) else none)
def b_X10_right_16 (N : Nat) (l0 : Nat) (S : am_S) : Option (Int32 × am_S) := (if (sg S l0 0) = 0 then b_X10_right_28 N 1 S else b_X10_right_28 N 0 S)
def f_X10_right (N : Nat) (l0 : Nat) (l1 : Int32) (l2 : Int32) (S : am_S) : Option (Int32 × am_S) := (if (sg S l0 0) = 0 then (if l1 = 0 then b_X10_right_16 N l0 (sp S l0 0 l2) else b_X10_right_16 N l0 S) else b_X10_right_16 N l0 S)
theorem u_X10_right_28 {G : am_G} {N : Nat} {h0 : am_H} {out : Int32 × am_S} (z0 : Int32) (S : am_S) (hB : b_X10_right_28 N z0 S = some out) : Ev G (am_R 1 0 0) (am_Φ G h0 0 0 (q_i out) q_n) mX10_right 0 0 28 [none, none, none] [.int z0] (hp S) := by
  unfold b_X10_right_28 at hB
  obtain ⟨c1, hB⟩ := ck_of hB
  obtain rfl := Option.some.inj hB
  exact ev_zret dX10_right_28 rfl (isB_nar c1) (Nat.zero_le _) (Nat.zero_le _) (fun z => absurd z (hp_sealed _)) ⟨rfl, rfl⟩
theorem u_X10_right_16 {G : am_G} {N : Nat} {h0 : am_H} {out : Int32 × am_S} (l0 : Nat) (S : am_S) (hl0 : isC 10 l0 = true) (hB : b_X10_right_16 N l0 S = some out) : Ev G (am_R 1 0 0) (am_Φ G h0 0 0 (q_i out) q_n) mX10_right 0 0 16 [some (.ref l0), none, none] [] (hp S) := by
  unfold b_X10_right_16 at hB
  refine ev_aload_n dX10_right_16 rfl ?_
  refine es_geti k_10 0 dX10_right_17 (by decide) rfl (Or.inl w_1525) hl0 rfl ?_
  refine ev_ifne 27 dX10_right_20 (by decide) (fun q1 => ?_) (fun q1 => ?_)
  · rw [if_neg q1] at hB
    refine ev_iconst 0 dX10_right_27 (by decide) ?_
    exact ev_ls (u_X10_right_28 0 S hB) trivial
  · rw [if_pos q1] at hB
    refine ev_iconst 1 dX10_right_23 (by decide) ?_
    refine ev_goto 28 dX10_right_24 (by decide) ?_
    exact ev_ls (u_X10_right_28 1 S hB) trivial
theorem t_X10_right {G : am_G} {N : Nat} {l0 : Nat} {l1 : Int32} {l2 : Int32} {S : am_S} {out : Int32 × am_S} (hl0 : isC 10 l0 = true) (hB : f_X10_right N l0 l1 l2 S = some out) : am_Met G 1 mX10_right 0 0 [.ref l0, .int l1, .int l2] (hp S) (q_i out) q_n := by
  refine am_of (by decide +kernel) rfl rfl rfl (Nat.le_of_ble_eq_true rfl) ?_
  unfold f_X10_right at hB
  refine ev_aload_n dX10_right_0 rfl ?_
  refine es_geti k_10 0 dX10_right_1 (by decide) rfl (Or.inl w_1525) hl0 rfl ?_
  refine ev_ifne 16 dX10_right_4 (by decide) (fun q1 => ?_) (fun q1 => ?_)
  · rw [if_neg q1] at hB
    exact ev_ls (u_X10_right_16 l0 S hl0 hB) (And.intro rfl trivial)
  · rw [if_pos q1] at hB
    refine ev_iload_n dX10_right_7 rfl ?_
    refine ev_ifne 16 dX10_right_8 (by decide) (fun q2 => ?_) (fun q2 => ?_)
    · rw [if_neg q2] at hB
      exact ev_ls (u_X10_right_16 l0 S hl0 hB) (And.intro rfl trivial)
    · rw [if_pos q2] at hB
      refine ev_aload_n dX10_right_11 rfl ?_
      refine ev_iload_n dX10_right_12 rfl ?_
      refine es_puti k_10 0 dX10_right_13 (by decide) rfl (Or.inl w_1525) rfl rfl hl0 rfl ?_
      exact ev_ls (u_X10_right_16 l0 (sp S l0 0 l2) hl0 hB) (And.intro rfl trivial)
def b_X10_within_15 (N : Nat) (z0 : Int32) (S : am_S) : Option (Int32 × am_S) := (if isB z0 = true then some (z0, S) else none)
def b_X10_within_14 (N : Nat)  (S : am_S) : Option (Int32 × am_S) := b_X10_within_15 N 0 S
def f_X10_within (N : Nat) (l0 : Int32) (l1 : Int32) (l2 : Int32) (S : am_S) : Option (Int32 × am_S) := (if l0 < l1 then b_X10_within_14 N S else (if l2 < l0 then b_X10_within_14 N S else b_X10_within_15 N 1 S))
theorem u_X10_within_15 {G : am_G} {N : Nat} {h0 : am_H} {out : Int32 × am_S} (z0 : Int32) (S : am_S) (hB : b_X10_within_15 N z0 S = some out) : Ev G (am_R 1 0 0) (am_Φ G h0 0 0 (q_i out) q_n) mX10_within 0 0 15 [none, none, none] [.int z0] (hp S) := by
  unfold b_X10_within_15 at hB
  obtain ⟨c1, hB⟩ := ck_of hB
  obtain rfl := Option.some.inj hB
  exact ev_zret dX10_within_15 rfl (isB_nar c1) (Nat.zero_le _) (Nat.zero_le _) (fun z => absurd z (hp_sealed _)) ⟨rfl, rfl⟩
theorem u_X10_within_14 {G : am_G} {N : Nat} {h0 : am_H} {out : Int32 × am_S}  (S : am_S) (hB : b_X10_within_14 N  S = some out) : Ev G (am_R 1 0 0) (am_Φ G h0 0 0 (q_i out) q_n) mX10_within 0 0 14 [none, none, none] [] (hp S) := by
  unfold b_X10_within_14 at hB
  refine ev_iconst 0 dX10_within_14 (by decide) ?_
  exact ev_ls (u_X10_within_15 0 S hB) trivial
theorem t_X10_within {G : am_G} {N : Nat} {l0 : Int32} {l1 : Int32} {l2 : Int32} {S : am_S} {out : Int32 × am_S} (hB : f_X10_within N l0 l1 l2 S = some out) : am_Met G 1 mX10_within 0 0 [.int l0, .int l1, .int l2] (hp S) (q_i out) q_n := by
  refine am_of (by decide +kernel) rfl rfl rfl (Nat.le_of_ble_eq_true rfl) ?_
  unfold f_X10_within at hB
  refine ev_iload_n dX10_within_0 rfl ?_
  refine ev_iload_n dX10_within_1 rfl ?_
  refine ev_icmplt 14 dX10_within_2 (by decide) (fun q1 => ?_) (fun q1 => ?_)
  · rw [if_pos q1] at hB
    exact ev_ls (u_X10_within_14 S hB) trivial
  · rw [if_neg q1] at hB
    refine ev_iload_n dX10_within_5 rfl ?_
    refine ev_iload_n dX10_within_6 rfl ?_
    refine ev_icmpgt 14 dX10_within_7 (by decide) (fun q2 => ?_) (fun q2 => ?_)
    · rw [if_pos q2] at hB
      exact ev_ls (u_X10_within_14 S hB) trivial
    · rw [if_neg q2] at hB
      refine ev_iconst 1 dX10_within_10 (by decide) ?_
      refine ev_goto 15 dX10_within_11 (by decide) ?_
      exact ev_ls (u_X10_within_15 1 S hB) trivial
def b_X10_bounded_19 (N : Nat) (z0 : Int32) (S : am_S) : Option (Int32 × am_S) := some (z0, S)
def f_X10_bounded (N : Nat) (l0 : Int32) (l1 : Int32) (l2 : Int32) (S : am_S) : Option (Int32 × am_S) := (if l1 ≤ l0 then (if l0 ≤ l2 then b_X10_bounded_19 N l0 S else b_X10_bounded_19 N l2 S) else b_X10_bounded_19 N l1 S)
theorem u_X10_bounded_19 {G : am_G} {N : Nat} {h0 : am_H} {out : Int32 × am_S} (z0 : Int32) (S : am_S) (hB : b_X10_bounded_19 N z0 S = some out) : Ev G (am_R 1 0 0) (am_Φ G h0 0 0 (q_i out) q_n) mX10_bounded 0 0 19 [none, none, none] [.int z0] (hp S) := by
  unfold b_X10_bounded_19 at hB
  obtain rfl := Option.some.inj hB
  exact ev_iret dX10_bounded_19 rfl (Nat.zero_le _) (Nat.zero_le _) (fun z => absurd z (hp_sealed _)) ⟨rfl, rfl⟩
theorem t_X10_bounded {G : am_G} {N : Nat} {l0 : Int32} {l1 : Int32} {l2 : Int32} {S : am_S} {out : Int32 × am_S} (hB : f_X10_bounded N l0 l1 l2 S = some out) : am_Met G 1 mX10_bounded 0 0 [.int l0, .int l1, .int l2] (hp S) (q_i out) q_n := by
  refine am_of (by decide +kernel) rfl rfl rfl (Nat.le_of_ble_eq_true rfl) ?_
  unfold f_X10_bounded at hB
  refine ev_iload_n dX10_bounded_0 rfl ?_
  refine ev_iload_n dX10_bounded_1 rfl ?_
  refine ev_icmpge 9 dX10_bounded_2 (by decide) (fun q1 => ?_) (fun q1 => ?_)
  · rw [if_pos q1] at hB
    refine ev_iload_n dX10_bounded_9 rfl ?_
    refine ev_iload_n dX10_bounded_10 rfl ?_
    refine ev_icmple 18 dX10_bounded_11 (by decide) (fun q2 => ?_) (fun q2 => ?_)
    · rw [if_pos q2] at hB
      refine ev_iload_n dX10_bounded_18 rfl ?_
      exact ev_ls (u_X10_bounded_19 l0 S hB) trivial
    · rw [if_neg q2] at hB
      refine ev_iload_n dX10_bounded_14 rfl ?_
      refine ev_goto 19 dX10_bounded_15 (by decide) ?_
      exact ev_ls (u_X10_bounded_19 l2 S hB) trivial
  · rw [if_neg q1] at hB
    refine ev_iload_n dX10_bounded_5 rfl ?_
    refine ev_goto 19 dX10_bounded_6 (by decide) ?_
    exact ev_ls (u_X10_bounded_19 l1 S hB) trivial
def b_X10_lesser_10 (N : Nat) (z0 : Int32) (S : am_S) : Option (Int32 × am_S) := some (z0, S)
def f_X10_lesser (N : Nat) (l0 : Int32) (l1 : Int32) (S : am_S) : Option (Int32 × am_S) := (if l1 ≤ l0 then b_X10_lesser_10 N l1 S else b_X10_lesser_10 N l0 S)
theorem u_X10_lesser_10 {G : am_G} {N : Nat} {h0 : am_H} {out : Int32 × am_S} (z0 : Int32) (S : am_S) (hB : b_X10_lesser_10 N z0 S = some out) : Ev G (am_R 1 0 0) (am_Φ G h0 0 0 (q_i out) q_n) mX10_lesser 0 0 10 [none, none] [.int z0] (hp S) := by
  unfold b_X10_lesser_10 at hB
  obtain rfl := Option.some.inj hB
  exact ev_iret dX10_lesser_10 rfl (Nat.zero_le _) (Nat.zero_le _) (fun z => absurd z (hp_sealed _)) ⟨rfl, rfl⟩
theorem t_X10_lesser {G : am_G} {N : Nat} {l0 : Int32} {l1 : Int32} {S : am_S} {out : Int32 × am_S} (hB : f_X10_lesser N l0 l1 S = some out) : am_Met G 1 mX10_lesser 0 0 [.int l0, .int l1] (hp S) (q_i out) q_n := by
  refine am_of (by decide +kernel) rfl rfl rfl (Nat.le_of_ble_eq_true rfl) ?_
  unfold f_X10_lesser at hB
  refine ev_iload_n dX10_lesser_0 rfl ?_
  refine ev_iload_n dX10_lesser_1 rfl ?_
  refine ev_icmpge 9 dX10_lesser_2 (by decide) (fun q1 => ?_) (fun q1 => ?_)
  · rw [if_pos q1] at hB
    refine ev_iload_n dX10_lesser_9 rfl ?_
    exact ev_ls (u_X10_lesser_10 l1 S hB) trivial
  · rw [if_neg q1] at hB
    refine ev_iload_n dX10_lesser_5 rfl ?_
    refine ev_goto 10 dX10_lesser_6 (by decide) ?_
    exact ev_ls (u_X10_lesser_10 l0 S hB) trivial
def b_X10_off_14 (N : Nat) (z0 : Int32) (S : am_S) : Option (Int32 × am_S) := some (z0, S)
def f_X10_off (N : Nat) (l0 : Int32) (l1 : Int32) (S : am_S) : Option (Int32 × am_S) := (if l1 ≤ l0 then b_X10_off_14 N (l0 - l1) S else b_X10_off_14 N (l1 - l0) S)
theorem u_X10_off_14 {G : am_G} {N : Nat} {h0 : am_H} {out : Int32 × am_S} (z0 : Int32) (S : am_S) (hB : b_X10_off_14 N z0 S = some out) : Ev G (am_R 1 0 0) (am_Φ G h0 0 0 (q_i out) q_n) mX10_off 0 0 14 [none, none] [.int z0] (hp S) := by
  unfold b_X10_off_14 at hB
  obtain rfl := Option.some.inj hB
  exact ev_iret dX10_off_14 rfl (Nat.zero_le _) (Nat.zero_le _) (fun z => absurd z (hp_sealed _)) ⟨rfl, rfl⟩
theorem t_X10_off {G : am_G} {N : Nat} {l0 : Int32} {l1 : Int32} {S : am_S} {out : Int32 × am_S} (hB : f_X10_off N l0 l1 S = some out) : am_Met G 1 mX10_off 0 0 [.int l0, .int l1] (hp S) (q_i out) q_n := by
  refine am_of (by decide +kernel) rfl rfl rfl (Nat.le_of_ble_eq_true rfl) ?_
  unfold f_X10_off at hB
  refine ev_iload_n dX10_off_0 rfl ?_
  refine ev_iload_n dX10_off_1 rfl ?_
  refine ev_icmpge 11 dX10_off_2 (by decide) (fun q1 => ?_) (fun q1 => ?_)
  · rw [if_pos q1] at hB
    refine ev_iload_n dX10_off_11 rfl ?_
    refine ev_iload_n dX10_off_12 rfl ?_
    refine ev_isub dX10_off_13 ?_
    exact ev_ls (u_X10_off_14 (l0 - l1) S hB) trivial
  · rw [if_neg q1] at hB
    refine ev_iload_n dX10_off_5 rfl ?_
    refine ev_iload_n dX10_off_6 rfl ?_
    refine ev_isub dX10_off_7 ?_
    refine ev_goto 14 dX10_off_8 (by decide) ?_
    exact ev_ls (u_X10_off_14 (l1 - l0) S hB) trivial
def b_X10_copies_2 (N : Nat) : Nat → Nat → Nat → Int32 → am_S → Option (am_S)
  | 0, _, _, _, _ => none
  | n + 1, l1, l2, l3, S => (if (nI (ln l1)) ≤ l3 then some S else (if inb l3 (ln l1) = true then (if inb l3 (ln l2) = true then b_X10_copies_2 N n l1 l2 (l3 + 1) (sp S l2 (Int32.toNatClampNeg l3) (sg S l1 (Int32.toNatClampNeg l3))) else none) else none))
def f_X10_copies (N : Nat) (l0 : Nat) (l1 : Nat) (l2 : Nat) (S : am_S) : Option (am_S) := b_X10_copies_2 N N l1 l2 0 S
theorem u_X10_copies_2 {G : am_G} {N : Nat} {h0 : am_H} {out : am_S} : ∀ (n : Nat) (l1 : Nat) (l2 : Nat) (l3 : Int32) (S : am_S), isAr 1 l1 = true → isAr 1 l2 = true → b_X10_copies_2 N n l1 l2 l3 S = some out → Ev G (am_R 1 0 0) (am_Φ G h0 0 0 (q_v out) q_n) mX10_copies 0 0 2 [none, some (.ref l1), some (.ref l2), some (.int l3)] [] (hp S) := by
  intro n
  induction n with
  | zero =>
    intro l1 l2 l3 S hl1 hl2 hB
    exact absurd (show none = some out from hB) (fun q => by cases q)
  | succ n ih =>
    intro l1 l2 l3 S hl1 hl2 hB
    unfold b_X10_copies_2 at hB
    refine ev_iload_n dX10_copies_2 rfl ?_
    refine ev_aload_n dX10_copies_3 rfl ?_
    refine es_alen dX10_copies_4 hl1 rfl ?_
    refine ev_icmpge 20 dX10_copies_5 (by decide) (fun q1 => ?_) (fun q1 => ?_)
    · rw [if_pos q1] at hB
      obtain rfl := Option.some.inj hB
      exact ev_vret dX10_copies_20 rfl (Nat.zero_le _) (Nat.zero_le _) (fun z => absurd z (hp_sealed _)) ⟨rfl, rfl⟩
    · rw [if_neg q1] at hB
      refine ev_aload_n dX10_copies_8 rfl ?_
      refine ev_iload_n dX10_copies_9 rfl ?_
      refine ev_aload_n dX10_copies_10 rfl ?_
      refine ev_iload_n dX10_copies_11 rfl ?_
      obtain ⟨c2, hB⟩ := ck_of hB
      refine es_iald dX10_copies_12 hl1 c2 ?_
      obtain ⟨c3, hB⟩ := ck_of hB
      refine es_iast dX10_copies_13 hl2 c3 ?_
      refine es_iinc 1 dX10_copies_14 rfl (by decide) (by decide) rfl ?_
      refine ev_goto 2 dX10_copies_17 (by decide) ?_
      exact ev_ls (ih l1 l2 (l3 + 1) (sp S l2 (Int32.toNatClampNeg l3) (sg S l1 (Int32.toNatClampNeg l3))) hl1 hl2 hB) (And.intro rfl (And.intro rfl (And.intro rfl trivial)))
theorem t_X10_copies {G : am_G} {N : Nat} {l0 : Nat} {l1 : Nat} {l2 : Nat} {S : am_S} {out : am_S} (hl0 : isC 10 l0 = true) (hl1 : isAr 1 l1 = true) (hl2 : isAr 1 l2 = true) (hB : f_X10_copies N l0 l1 l2 S = some out) : am_Met G 1 mX10_copies 0 0 [.ref l0, .ref l1, .ref l2] (hp S) (q_v out) q_n := by
  refine am_of (by decide +kernel) rfl rfl rfl (Nat.le_of_ble_eq_true rfl) ?_
  unfold f_X10_copies at hB
  refine ev_iconst 0 dX10_copies_0 (by decide) ?_
  refine ev_istore_n dX10_copies_1 (by decide) rfl ?_
  exact ev_ls (u_X10_copies_2 N l1 l2 0 S hl1 hl2 hB) (And.intro rfl (And.intro rfl (And.intro rfl trivial)))
def b_X10_bits_4 (N : Nat) : Nat → Int32 → Int32 → Int32 → am_S → Option (Int32 × am_S)
  | 0, _, _, _, _ => none
  | n + 1, l0, l1, l2, S => (if 8 ≤ l2 then some (l1, S) else b_X10_bits_4 N n l0 (l1 + ((l0 >>> (l2 &&& (31 : Int32))) &&& 1)) (l2 + 1) S)
def f_X10_bits (N : Nat) (l0 : Int32) (S : am_S) : Option (Int32 × am_S) := b_X10_bits_4 N N l0 0 0 S
theorem u_X10_bits_4 {G : am_G} {N : Nat} {h0 : am_H} {out : Int32 × am_S} : ∀ (n : Nat) (l0 : Int32) (l1 : Int32) (l2 : Int32) (S : am_S), b_X10_bits_4 N n l0 l1 l2 S = some out → Ev G (am_R 1 0 0) (am_Φ G h0 0 0 (q_i out) q_n) mX10_bits 0 0 4 [some (.int l0), some (.int l1), some (.int l2)] [] (hp S) := by
  intro n
  induction n with
  | zero =>
    intro l0 l1 l2 S hB
    exact absurd (show none = some out from hB) (fun q => by cases q)
  | succ n ih =>
    intro l0 l1 l2 S hB
    unfold b_X10_bits_4 at hB
    refine ev_iload_n dX10_bits_4 rfl ?_
    refine ev_bipush 8 dX10_bits_5 (by decide) ?_
    refine ev_icmpge 24 dX10_bits_7 (by decide) (fun q1 => ?_) (fun q1 => ?_)
    · rw [if_pos q1] at hB
      refine ev_iload_n dX10_bits_24 rfl ?_
      obtain rfl := Option.some.inj hB
      exact ev_iret dX10_bits_25 rfl (Nat.zero_le _) (Nat.zero_le _) (fun z => absurd z (hp_sealed _)) ⟨rfl, rfl⟩
    · rw [if_neg q1] at hB
      refine ev_iload_n dX10_bits_10 rfl ?_
      refine ev_iload_n dX10_bits_11 rfl ?_
      refine ev_iload_n dX10_bits_12 rfl ?_
      refine ev_ishr dX10_bits_13 ?_
      refine ev_iconst 1 dX10_bits_14 (by decide) ?_
      refine ev_iand dX10_bits_15 ?_
      refine ev_iadd dX10_bits_16 ?_
      refine ev_istore_n dX10_bits_17 (by decide) rfl ?_
      refine es_iinc 1 dX10_bits_18 rfl (by decide) (by decide) rfl ?_
      refine ev_goto 4 dX10_bits_21 (by decide) ?_
      exact ev_ls (ih l0 (l1 + ((l0 >>> (l2 &&& (31 : Int32))) &&& 1)) (l2 + 1) S hB) (And.intro rfl (And.intro rfl (And.intro rfl trivial)))
theorem t_X10_bits {G : am_G} {N : Nat} {l0 : Int32} {S : am_S} {out : Int32 × am_S} (hB : f_X10_bits N l0 S = some out) : am_Met G 1 mX10_bits 0 0 [.int l0] (hp S) (q_i out) q_n := by
  refine am_of (by decide +kernel) rfl rfl rfl (Nat.le_of_ble_eq_true rfl) ?_
  unfold f_X10_bits at hB
  refine ev_iconst 0 dX10_bits_0 (by decide) ?_
  refine ev_istore_n dX10_bits_1 (by decide) rfl ?_
  refine ev_iconst 0 dX10_bits_2 (by decide) ?_
  refine ev_istore_n dX10_bits_3 (by decide) rfl ?_
  exact ev_ls (u_X10_bits_4 N l0 0 0 S hB) (And.intro rfl (And.intro rfl (And.intro rfl trivial)))
def b_X10_lays_3 (N : Nat) : Nat → Nat → Int32 → Int32 → am_S → Option (am_S)
  | 0, _, _, _, _ => none
  | n + 1, l0, l1, l2, S => (if l2 < 0 then some S else (if inb (sg S l0 14) (ln (rf l0 13)) = true then b_X10_lays_3 N n l0 l1 (l2 + (-8)) (sp (sp S (rf l0 13) (Int32.toNatClampNeg (sg S l0 14)) ((l1 >>> (l2 &&& (31 : Int32))) &&& 255)) l0 14 ((sg (sp S (rf l0 13) (Int32.toNatClampNeg (sg S l0 14)) ((l1 >>> (l2 &&& (31 : Int32))) &&& 255)) l0 14) + 1)) else none))
def f_X10_lays (N : Nat) (l0 : Nat) (l1 : Int32) (S : am_S) : Option (am_S) := b_X10_lays_3 N N l0 l1 24 S
theorem u_X10_lays_3 {G : am_G} {N : Nat} {h0 : am_H} {out : am_S} : ∀ (n : Nat) (l0 : Nat) (l1 : Int32) (l2 : Int32) (S : am_S), isC 10 l0 = true → b_X10_lays_3 N n l0 l1 l2 S = some out → Ev G (am_R 1 0 0) (am_Φ G h0 0 0 (q_v out) q_n) mX10_lays 0 0 3 [some (.ref l0), some (.int l1), some (.int l2)] [] (hp S) := by
  intro n
  induction n with
  | zero =>
    intro l0 l1 l2 S hl0 hB
    exact absurd (show none = some out from hB) (fun q => by cases q)
  | succ n ih =>
    intro l0 l1 l2 S hl0 hB
    unfold b_X10_lays_3 at hB
    refine ev_iload_n dX10_lays_3 rfl ?_
    refine ev_iflt 39 dX10_lays_4 (by decide) (fun q1 => ?_) (fun q1 => ?_)
    · rw [if_pos q1] at hB
      obtain rfl := Option.some.inj hB
      exact ev_vret dX10_lays_39 rfl (Nat.zero_le _) (Nat.zero_le _) (fun z => absurd z (hp_sealed _)) ⟨rfl, rfl⟩
    · rw [if_neg q1] at hB
      refine ev_aload_n dX10_lays_7 rfl ?_
      refine es_getr k_10 13 dX10_lays_8 (by decide) rfl (Or.inl w_1538) hl0 rfl ?_
      refine ev_aload_n dX10_lays_11 rfl ?_
      refine es_geti k_10 14 dX10_lays_12 (by decide) rfl (Or.inl w_1539) hl0 rfl ?_
      refine ev_iload_n dX10_lays_15 rfl ?_
      refine ev_iload_n dX10_lays_16 rfl ?_
      refine ev_ishr dX10_lays_17 ?_
      refine ev_sipush 255 dX10_lays_18 (by decide) ?_
      refine ev_iand dX10_lays_21 ?_
      obtain ⟨c2, hB⟩ := ck_of hB
      refine es_iast dX10_lays_22 (tr_10_13 hl0) c2 ?_
      refine ev_aload_n dX10_lays_23 rfl ?_
      refine ev_dup dX10_lays_24 rfl ?_
      refine es_geti k_10 14 dX10_lays_25 (by decide) rfl (Or.inl w_1539) hl0 rfl ?_
      refine ev_iconst 1 dX10_lays_28 (by decide) ?_
      refine ev_iadd dX10_lays_29 ?_
      refine es_puti k_10 14 dX10_lays_30 (by decide) rfl (Or.inl w_1539) rfl rfl hl0 rfl ?_
      refine es_iinc (-8) dX10_lays_33 rfl (by decide) (by decide) rfl ?_
      refine ev_goto 3 dX10_lays_36 (by decide) ?_
      exact ev_ls (ih l0 l1 (l2 + (-8)) (sp (sp S (rf l0 13) (Int32.toNatClampNeg (sg S l0 14)) ((l1 >>> (l2 &&& (31 : Int32))) &&& 255)) l0 14 ((sg (sp S (rf l0 13) (Int32.toNatClampNeg (sg S l0 14)) ((l1 >>> (l2 &&& (31 : Int32))) &&& 255)) l0 14) + 1)) hl0 hB) (And.intro rfl (And.intro rfl (And.intro rfl trivial)))
theorem t_X10_lays {G : am_G} {N : Nat} {l0 : Nat} {l1 : Int32} {S : am_S} {out : am_S} (hl0 : isC 10 l0 = true) (hB : f_X10_lays N l0 l1 S = some out) : am_Met G 1 mX10_lays 0 0 [.ref l0, .int l1] (hp S) (q_v out) q_n := by
  refine am_of (by decide +kernel) rfl rfl rfl (Nat.le_of_ble_eq_true rfl) ?_
  unfold f_X10_lays at hB
  refine ev_bipush 24 dX10_lays_0 (by decide) ?_
  refine ev_istore_n dX10_lays_2 (by decide) rfl ?_
  exact ev_ls (u_X10_lays_3 N l0 l1 24 S hl0 hB) (And.intro rfl (And.intro rfl (And.intro rfl trivial)))
def f_X10_feed (N : Nat) (l0 : Nat) (l1 : Int32) (l2 : Int32) (l3 : Int32) (l4 : Int32) (l5 : Int32) (S : am_S) : Option (Int32 × am_S) := (if ((sg (sp S l0 0 0) l0 14) + 20) ≤ 700 then (bv (f_X10_lays N l0 l1 (sp S l0 0 0)) (fun S3 => (bv (f_X10_lays N l0 l2 S3) (fun S6 => (bv (f_X10_lays N l0 l3 S6) (fun S9 => (bv (f_X10_lays N l0 l4 S9) (fun S12 => (bv (f_X10_lays N l0 l5 S12) (fun S15 => some ((sg S15 l0 14), S15))))))))))) else some ((-1), (sp S l0 0 0)))
theorem t_X10_feed {G : am_G} {N : Nat} {l0 : Nat} {l1 : Int32} {l2 : Int32} {l3 : Int32} {l4 : Int32} {l5 : Int32} {S : am_S} {out : Int32 × am_S} (hl0 : isC 10 l0 = true) (hB : f_X10_feed N l0 l1 l2 l3 l4 l5 S = some out) : am_Met G 2 mX10_feed 0 0 [.ref l0, .int l1, .int l2, .int l3, .int l4, .int l5] (hp S) (q_i out) q_n := by
  refine am_of (by decide +kernel) rfl rfl rfl (Nat.le_of_ble_eq_true rfl) ?_
  unfold f_X10_feed at hB
  refine ev_aload_n dX10_feed_0 rfl ?_
  refine ev_iconst 0 dX10_feed_1 (by decide) ?_
  refine es_puti k_10 0 dX10_feed_2 (by decide) rfl (Or.inl w_1525) rfl rfl hl0 rfl ?_
  refine ev_aload_n dX10_feed_5 rfl ?_
  refine es_geti k_10 14 dX10_feed_6 (by decide) rfl (Or.inl w_1539) hl0 rfl ?_
  refine ev_bipush 20 dX10_feed_9 (by decide) ?_
  refine ev_iadd dX10_feed_11 ?_
  refine ev_sipush 700 dX10_feed_12 (by decide) ?_
  refine ev_icmple 20 dX10_feed_15 (by decide) (fun q1 => ?_) (fun q1 => ?_)
  · rw [if_pos q1] at hB
    refine ev_aload_n dX10_feed_20 rfl ?_
    refine ev_iload_n dX10_feed_21 rfl ?_
    obtain ⟨S3, e4, hB⟩ := bv_of hB
    refine es_callVv (As := [.int l1]) (t_X10_lays hl0 e4) dX10_feed_22 oX10_lays w_1736 rfl hl0 rfl rfl (Nat.le_of_ble_eq_true rfl) rfl (am_fit.of (by decide)) ⟨Nat.zero_le _, Nat.zero_le _⟩ ?_
    refine ev_aload_n dX10_feed_25 rfl ?_
    refine ev_iload_n dX10_feed_26 rfl ?_
    obtain ⟨S6, e7, hB⟩ := bv_of hB
    refine es_callVv (As := [.int l2]) (t_X10_lays hl0 e7) dX10_feed_27 oX10_lays w_1736 rfl hl0 rfl rfl (Nat.le_of_ble_eq_true rfl) rfl (am_fit.of (by decide)) ⟨Nat.zero_le _, Nat.zero_le _⟩ ?_
    refine ev_aload_n dX10_feed_30 rfl ?_
    refine ev_iload_n dX10_feed_31 rfl ?_
    obtain ⟨S9, e10, hB⟩ := bv_of hB
    refine es_callVv (As := [.int l3]) (t_X10_lays hl0 e10) dX10_feed_32 oX10_lays w_1736 rfl hl0 rfl rfl (Nat.le_of_ble_eq_true rfl) rfl (am_fit.of (by decide)) ⟨Nat.zero_le _, Nat.zero_le _⟩ ?_
    refine ev_aload_n dX10_feed_35 rfl ?_
    refine ev_iload dX10_feed_36 rfl ?_
    obtain ⟨S12, e13, hB⟩ := bv_of hB
    refine es_callVv (As := [.int l4]) (t_X10_lays hl0 e13) dX10_feed_38 oX10_lays w_1736 rfl hl0 rfl rfl (Nat.le_of_ble_eq_true rfl) rfl (am_fit.of (by decide)) ⟨Nat.zero_le _, Nat.zero_le _⟩ ?_
    refine ev_aload_n dX10_feed_41 rfl ?_
    refine ev_iload dX10_feed_42 rfl ?_
    obtain ⟨S15, e16, hB⟩ := bv_of hB
    refine es_callVv (As := [.int l5]) (t_X10_lays hl0 e16) dX10_feed_44 oX10_lays w_1736 rfl hl0 rfl rfl (Nat.le_of_ble_eq_true rfl) rfl (am_fit.of (by decide)) ⟨Nat.zero_le _, Nat.zero_le _⟩ ?_
    refine ev_aload_n dX10_feed_47 rfl ?_
    refine es_geti k_10 14 dX10_feed_48 (by decide) rfl (Or.inl w_1539) hl0 rfl ?_
    obtain rfl := Option.some.inj hB
    exact ev_iret dX10_feed_51 rfl (Nat.zero_le _) (Nat.zero_le _) (fun z => absurd z (hp_sealed _)) ⟨rfl, rfl⟩
  · rw [if_neg q1] at hB
    refine ev_iconst (-1) dX10_feed_18 (by decide) ?_
    obtain rfl := Option.some.inj hB
    exact ev_iret dX10_feed_19 rfl (Nat.zero_le _) (Nat.zero_le _) (fun z => absurd z (hp_sealed _)) ⟨rfl, rfl⟩
def b_X10_byteAt_18 (N : Nat) (z0 : Int32) (S : am_S) : Option (Int32 × am_S) := some (z0, S)
def f_X10_byteAt (N : Nat) (l0 : Nat) (l1 : Int32) (S : am_S) : Option (Int32 × am_S) := (if (sg S l0 18) ≤ l1 then b_X10_byteAt_18 N 0 S else (if inb l1 (ln (rf l0 13)) = true then b_X10_byteAt_18 N (sg S (rf l0 13) (Int32.toNatClampNeg l1)) S else none))
theorem u_X10_byteAt_18 {G : am_G} {N : Nat} {h0 : am_H} {out : Int32 × am_S} (z0 : Int32) (S : am_S) (hB : b_X10_byteAt_18 N z0 S = some out) : Ev G (am_R 1 0 0) (am_Φ G h0 0 0 (q_i out) q_n) mX10_byteAt 0 0 18 [none, none] [.int z0] (hp S) := by
  unfold b_X10_byteAt_18 at hB
  obtain rfl := Option.some.inj hB
  exact ev_iret dX10_byteAt_18 rfl (Nat.zero_le _) (Nat.zero_le _) (fun z => absurd z (hp_sealed _)) ⟨rfl, rfl⟩
theorem t_X10_byteAt {G : am_G} {N : Nat} {l0 : Nat} {l1 : Int32} {S : am_S} {out : Int32 × am_S} (hl0 : isC 10 l0 = true) (hB : f_X10_byteAt N l0 l1 S = some out) : am_Met G 1 mX10_byteAt 0 0 [.ref l0, .int l1] (hp S) (q_i out) q_n := by
  refine am_of (by decide +kernel) rfl rfl rfl (Nat.le_of_ble_eq_true rfl) ?_
  unfold f_X10_byteAt at hB
  refine ev_iload_n dX10_byteAt_0 rfl ?_
  refine ev_aload_n dX10_byteAt_1 rfl ?_
  refine es_geti k_10 18 dX10_byteAt_2 (by decide) rfl (Or.inl w_1543) hl0 rfl ?_
  refine ev_icmpge 17 dX10_byteAt_5 (by decide) (fun q1 => ?_) (fun q1 => ?_)
  · rw [if_pos q1] at hB
    refine ev_iconst 0 dX10_byteAt_17 (by decide) ?_
    exact ev_ls (u_X10_byteAt_18 0 S hB) trivial
  · rw [if_neg q1] at hB
    refine ev_aload_n dX10_byteAt_8 rfl ?_
    refine es_getr k_10 13 dX10_byteAt_9 (by decide) rfl (Or.inl w_1538) hl0 rfl ?_
    refine ev_iload_n dX10_byteAt_12 rfl ?_
    obtain ⟨c2, hB⟩ := ck_of hB
    refine es_iald dX10_byteAt_13 (tr_10_13 hl0) c2 ?_
    refine ev_goto 18 dX10_byteAt_14 (by decide) ?_
    exact ev_ls (u_X10_byteAt_18 (sg S (rf l0 13) (Int32.toNatClampNeg l1)) S hB) trivial
def b_X10_isLetter_17 (N : Nat) (z0 : Int32) (S : am_S) : Option (Int32 × am_S) := (if isB z0 = true then some (z0, S) else none)
def b_X10_isLetter_16 (N : Nat)  (S : am_S) : Option (Int32 × am_S) := b_X10_isLetter_17 N 0 S
def f_X10_isLetter (N : Nat) (l0 : Int32) (S : am_S) : Option (Int32 × am_S) := (if l0 < 97 then b_X10_isLetter_16 N S else (if 122 < l0 then b_X10_isLetter_16 N S else b_X10_isLetter_17 N 1 S))
theorem u_X10_isLetter_17 {G : am_G} {N : Nat} {h0 : am_H} {out : Int32 × am_S} (z0 : Int32) (S : am_S) (hB : b_X10_isLetter_17 N z0 S = some out) : Ev G (am_R 1 0 0) (am_Φ G h0 0 0 (q_i out) q_n) mX10_isLetter 0 0 17 [none] [.int z0] (hp S) := by
  unfold b_X10_isLetter_17 at hB
  obtain ⟨c1, hB⟩ := ck_of hB
  obtain rfl := Option.some.inj hB
  exact ev_zret dX10_isLetter_17 rfl (isB_nar c1) (Nat.zero_le _) (Nat.zero_le _) (fun z => absurd z (hp_sealed _)) ⟨rfl, rfl⟩
theorem u_X10_isLetter_16 {G : am_G} {N : Nat} {h0 : am_H} {out : Int32 × am_S}  (S : am_S) (hB : b_X10_isLetter_16 N  S = some out) : Ev G (am_R 1 0 0) (am_Φ G h0 0 0 (q_i out) q_n) mX10_isLetter 0 0 16 [none] [] (hp S) := by
  unfold b_X10_isLetter_16 at hB
  refine ev_iconst 0 dX10_isLetter_16 (by decide) ?_
  exact ev_ls (u_X10_isLetter_17 0 S hB) trivial
theorem t_X10_isLetter {G : am_G} {N : Nat} {l0 : Int32} {S : am_S} {out : Int32 × am_S} (hB : f_X10_isLetter N l0 S = some out) : am_Met G 1 mX10_isLetter 0 0 [.int l0] (hp S) (q_i out) q_n := by
  refine am_of (by decide +kernel) rfl rfl rfl (Nat.le_of_ble_eq_true rfl) ?_
  unfold f_X10_isLetter at hB
  refine ev_iload_n dX10_isLetter_0 rfl ?_
  refine ev_bipush 97 dX10_isLetter_1 (by decide) ?_
  refine ev_icmplt 16 dX10_isLetter_3 (by decide) (fun q1 => ?_) (fun q1 => ?_)
  · rw [if_pos q1] at hB
    exact ev_ls (u_X10_isLetter_16 S hB) trivial
  · rw [if_neg q1] at hB
    refine ev_iload_n dX10_isLetter_6 rfl ?_
    refine ev_bipush 122 dX10_isLetter_7 (by decide) ?_
    refine ev_icmpgt 16 dX10_isLetter_9 (by decide) (fun q2 => ?_) (fun q2 => ?_)
    · rw [if_pos q2] at hB
      exact ev_ls (u_X10_isLetter_16 S hB) trivial
    · rw [if_neg q2] at hB
      refine ev_iconst 1 dX10_isLetter_12 (by decide) ?_
      refine ev_goto 17 dX10_isLetter_13 (by decide) ?_
      exact ev_ls (u_X10_isLetter_17 1 S hB) trivial
def b_X10_isDigit_17 (N : Nat) (z0 : Int32) (S : am_S) : Option (Int32 × am_S) := (if isB z0 = true then some (z0, S) else none)
def b_X10_isDigit_16 (N : Nat)  (S : am_S) : Option (Int32 × am_S) := b_X10_isDigit_17 N 0 S
def f_X10_isDigit (N : Nat) (l0 : Int32) (S : am_S) : Option (Int32 × am_S) := (if l0 < 48 then b_X10_isDigit_16 N S else (if 57 < l0 then b_X10_isDigit_16 N S else b_X10_isDigit_17 N 1 S))
theorem u_X10_isDigit_17 {G : am_G} {N : Nat} {h0 : am_H} {out : Int32 × am_S} (z0 : Int32) (S : am_S) (hB : b_X10_isDigit_17 N z0 S = some out) : Ev G (am_R 1 0 0) (am_Φ G h0 0 0 (q_i out) q_n) mX10_isDigit 0 0 17 [none] [.int z0] (hp S) := by
  unfold b_X10_isDigit_17 at hB
  obtain ⟨c1, hB⟩ := ck_of hB
  obtain rfl := Option.some.inj hB
  exact ev_zret dX10_isDigit_17 rfl (isB_nar c1) (Nat.zero_le _) (Nat.zero_le _) (fun z => absurd z (hp_sealed _)) ⟨rfl, rfl⟩
theorem u_X10_isDigit_16 {G : am_G} {N : Nat} {h0 : am_H} {out : Int32 × am_S}  (S : am_S) (hB : b_X10_isDigit_16 N  S = some out) : Ev G (am_R 1 0 0) (am_Φ G h0 0 0 (q_i out) q_n) mX10_isDigit 0 0 16 [none] [] (hp S) := by
  unfold b_X10_isDigit_16 at hB
  refine ev_iconst 0 dX10_isDigit_16 (by decide) ?_
  exact ev_ls (u_X10_isDigit_17 0 S hB) trivial
theorem t_X10_isDigit {G : am_G} {N : Nat} {l0 : Int32} {S : am_S} {out : Int32 × am_S} (hB : f_X10_isDigit N l0 S = some out) : am_Met G 1 mX10_isDigit 0 0 [.int l0] (hp S) (q_i out) q_n := by
  refine am_of (by decide +kernel) rfl rfl rfl (Nat.le_of_ble_eq_true rfl) ?_
  unfold f_X10_isDigit at hB
  refine ev_iload_n dX10_isDigit_0 rfl ?_
  refine ev_bipush 48 dX10_isDigit_1 (by decide) ?_
  refine ev_icmplt 16 dX10_isDigit_3 (by decide) (fun q1 => ?_) (fun q1 => ?_)
  · rw [if_pos q1] at hB
    exact ev_ls (u_X10_isDigit_16 S hB) trivial
  · rw [if_neg q1] at hB
    refine ev_iload_n dX10_isDigit_6 rfl ?_
    refine ev_bipush 57 dX10_isDigit_7 (by decide) ?_
    refine ev_icmpgt 16 dX10_isDigit_9 (by decide) (fun q2 => ?_) (fun q2 => ?_)
    · rw [if_pos q2] at hB
      exact ev_ls (u_X10_isDigit_16 S hB) trivial
    · rw [if_neg q2] at hB
      refine ev_iconst 1 dX10_isDigit_12 (by decide) ?_
      refine ev_goto 17 dX10_isDigit_13 (by decide) ?_
      exact ev_ls (u_X10_isDigit_17 1 S hB) trivial
def b_X10_goes_37 (N : Nat) (k0 : Nat → am_S → Option (am_S)) (l0 : Nat) (S : am_S) : Option (am_S) := k0 l0 (sp S l0 19 ((sg S l0 19) + 1))
def b_X10_goes_331 (N : Nat) (l0 : Nat) (S : am_S) : Option (am_S) := some (sp S l0 22 ((sg S l0 19) - (sg S l0 21)))
def b_X10_goes_159 (N : Nat) (k108 : Nat → am_S → Option (am_S)) (l0 : Nat) (S : am_S) : Option (am_S) := k108 l0 (sp S l0 19 ((sg S l0 19) + 1))
def b_X10_goes_108 (N : Nat) : Nat → Nat → am_S → Option (am_S)
  | 0, _, _ => none
  | n + 1, l0, S => (bd (f_X10_byteAt N l0 (sg S l0 19) S) (fun r1 S2 => (bd (f_X10_isLetter N r1 S2) (fun r4 S5 => (if r4 = 0 then b_X10_goes_331 N l0 (sp S5 l0 20 1) else (if 7 ≤ ((sg S5 l0 19) - (sg S5 l0 21)) then b_X10_goes_159 N (b_X10_goes_108 N n) l0 S5 else (bd (f_X10_byteAt N l0 (sg S5 l0 19) S5) (fun r9 S10 => b_X10_goes_159 N (b_X10_goes_108 N n) l0 (lp S10 0 (((lg S5 0) <<< (Int32.toInt64 5 &&& (63 : Int64))) ||| (Int32.toInt64 (r9 - 96))))))))))))
def b_X10_goes_237 (N : Nat) (k187 : Nat → am_S → Option (am_S)) (l0 : Nat) (S : am_S) : Option (am_S) := k187 l0 (sp S l0 19 ((sg S l0 19) + 1))
def b_X10_goes_187 (N : Nat) : Nat → Nat → am_S → Option (am_S)
  | 0, _, _ => none
  | n + 1, l0, S => (bd (f_X10_byteAt N l0 (sg S l0 19) S) (fun r1 S2 => (bd (f_X10_isDigit N r1 S2) (fun r4 S5 => (if r4 = 0 then b_X10_goes_331 N l0 (sp S5 l0 20 2) else (if 4 ≤ ((sg S5 l0 19) - (sg S5 l0 21)) then b_X10_goes_237 N (b_X10_goes_187 N n) l0 S5 else (bd (f_X10_byteAt N l0 (sg S5 l0 19) S5) (fun r9 S10 => b_X10_goes_237 N (b_X10_goes_187 N n) l0 (sp S10 l0 23 (((10 * (sg S5 l0 23)) + r9) - 48))))))))))
def b_X10_goes_328 (N : Nat) (l0 : Nat) (z0 : Nat) (z1 : Int32) (S : am_S) : Option (am_S) := b_X10_goes_331 N l0 (sp S z0 20 z1)
def b_X10_goes_323 (N : Nat) (l0 : Nat) (z0 : Nat) (S : am_S) : Option (am_S) := b_X10_goes_328 N l0 z0 3 S
def b_X10_goes_50 (N : Nat) (l0 : Nat) (S : am_S) : Option (am_S) := (bd (f_X10_byteAt N l0 (sg (sp (lp (sp S l0 21 (sg S l0 19)) 0 0) l0 23 0) l0 19) (sp (lp (sp S l0 21 (sg S l0 19)) 0 0) l0 23 0)) (fun r1 S2 => (if (sg (sp S2 l0 24 r1) l0 19) < (sg (sp S2 l0 24 r1) l0 18) then (bd (f_X10_isLetter N r1 (sp S2 l0 24 r1)) (fun r5 S6 => (if r5 = 0 then (bd (f_X10_isDigit N r1 S6) (fun r9 S10 => (if r9 = 0 then (if r1 = 59 then b_X10_goes_323 N l0 l0 (sp S10 l0 19 ((sg S10 l0 19) + 1)) else (if r1 = 40 then b_X10_goes_323 N l0 l0 (sp S10 l0 19 ((sg S10 l0 19) + 1)) else (if r1 = 41 then b_X10_goes_323 N l0 l0 (sp S10 l0 19 ((sg S10 l0 19) + 1)) else (if r1 = 43 then b_X10_goes_323 N l0 l0 (sp S10 l0 19 ((sg S10 l0 19) + 1)) else (if r1 = 45 then b_X10_goes_323 N l0 l0 (sp S10 l0 19 ((sg S10 l0 19) + 1)) else (if r1 = 42 then b_X10_goes_323 N l0 l0 (sp S10 l0 19 ((sg S10 l0 19) + 1)) else (if r1 = 47 then b_X10_goes_323 N l0 l0 (sp S10 l0 19 ((sg S10 l0 19) + 1)) else (if r1 = 60 then b_X10_goes_323 N l0 l0 (sp S10 l0 19 ((sg S10 l0 19) + 1)) else (if r1 = 61 then b_X10_goes_323 N l0 l0 (sp S10 l0 19 ((sg S10 l0 19) + 1)) else b_X10_goes_328 N l0 l0 4 (sp S10 l0 19 ((sg S10 l0 19) + 1))))))))))) else b_X10_goes_187 N N l0 S10))) else b_X10_goes_108 N N l0 S6))) else b_X10_goes_331 N l0 (sp (sp S2 l0 24 r1) l0 20 0))))
def b_X10_goes_0 (N : Nat) : Nat → Nat → am_S → Option (am_S)
  | 0, _, _ => none
  | n + 1, l0, S => (if (sg S l0 18) ≤ (sg S l0 19) then b_X10_goes_50 N l0 S else (bd (f_X10_byteAt N l0 (sg S l0 19) S) (fun r2 S3 => (if r2 = 32 then b_X10_goes_37 N (b_X10_goes_0 N n) l0 S3 else (bd (f_X10_byteAt N l0 (sg S3 l0 19) S3) (fun r6 S7 => (if r6 = 10 then b_X10_goes_37 N (b_X10_goes_0 N n) l0 S7 else b_X10_goes_50 N l0 S7)))))))
def f_X10_goes (N : Nat) (l0 : Nat) (S : am_S) : Option (am_S) := b_X10_goes_0 N N l0 S
theorem u_X10_goes_37 {G : am_G} {N : Nat} {h0 : am_H} {out : am_S} {k0 : Nat → am_S → Option (am_S)} (hk0 : ∀ (l0 : Nat) (S : am_S), isC 10 l0 = true → k0 l0 S = some out → Ev G (am_R 2 0 0) (am_Φ G h0 0 0 (q_v out) q_n) mX10_goes 0 0 0 [some (.ref l0), none] [] (hp S)) (l0 : Nat) (S : am_S) (hl0 : isC 10 l0 = true) (hB : b_X10_goes_37 N k0 l0 S = some out) : Ev G (am_R 2 0 0) (am_Φ G h0 0 0 (q_v out) q_n) mX10_goes 0 0 37 [some (.ref l0), none] [] (hp S) := by
  unfold b_X10_goes_37 at hB
  refine ev_aload_n dX10_goes_37 rfl ?_
  refine ev_dup dX10_goes_38 rfl ?_
  refine es_geti k_10 19 dX10_goes_39 (by decide) rfl (Or.inl w_1544) hl0 rfl ?_
  refine ev_iconst 1 dX10_goes_42 (by decide) ?_
  refine ev_iadd dX10_goes_43 ?_
  refine es_puti k_10 19 dX10_goes_44 (by decide) rfl (Or.inl w_1544) rfl rfl hl0 rfl ?_
  refine ev_goto 0 dX10_goes_47 (by decide) ?_
  exact ev_ls (hk0 l0 (sp S l0 19 ((sg S l0 19) + 1)) hl0 hB) (And.intro rfl trivial)
theorem u_X10_goes_331 {G : am_G} {N : Nat} {h0 : am_H} {out : am_S} (l0 : Nat) (S : am_S) (hl0 : isC 10 l0 = true) (hB : b_X10_goes_331 N l0 S = some out) : Ev G (am_R 2 0 0) (am_Φ G h0 0 0 (q_v out) q_n) mX10_goes 0 0 331 [some (.ref l0), none] [] (hp S) := by
  unfold b_X10_goes_331 at hB
  refine ev_aload_n dX10_goes_331 rfl ?_
  refine ev_aload_n dX10_goes_332 rfl ?_
  refine es_geti k_10 19 dX10_goes_333 (by decide) rfl (Or.inl w_1544) hl0 rfl ?_
  refine ev_aload_n dX10_goes_336 rfl ?_
  refine es_geti k_10 21 dX10_goes_337 (by decide) rfl (Or.inl w_1546) hl0 rfl ?_
  refine ev_isub dX10_goes_340 ?_
  refine es_puti k_10 22 dX10_goes_341 (by decide) rfl (Or.inl w_1547) rfl rfl hl0 rfl ?_
  obtain rfl := Option.some.inj hB
  exact ev_vret dX10_goes_344 rfl (Nat.zero_le _) (Nat.zero_le _) (fun z => absurd z (hp_sealed _)) ⟨rfl, rfl⟩
theorem u_X10_goes_159 {G : am_G} {N : Nat} {h0 : am_H} {out : am_S} {k108 : Nat → am_S → Option (am_S)} (hk108 : ∀ (l0 : Nat) (S : am_S), isC 10 l0 = true → k108 l0 S = some out → Ev G (am_R 2 0 0) (am_Φ G h0 0 0 (q_v out) q_n) mX10_goes 0 0 108 [some (.ref l0), none] [] (hp S)) (l0 : Nat) (S : am_S) (hl0 : isC 10 l0 = true) (hB : b_X10_goes_159 N k108 l0 S = some out) : Ev G (am_R 2 0 0) (am_Φ G h0 0 0 (q_v out) q_n) mX10_goes 0 0 159 [some (.ref l0), none] [] (hp S) := by
  unfold b_X10_goes_159 at hB
  refine ev_aload_n dX10_goes_159 rfl ?_
  refine ev_dup dX10_goes_160 rfl ?_
  refine es_geti k_10 19 dX10_goes_161 (by decide) rfl (Or.inl w_1544) hl0 rfl ?_
  refine ev_iconst 1 dX10_goes_164 (by decide) ?_
  refine ev_iadd dX10_goes_165 ?_
  refine es_puti k_10 19 dX10_goes_166 (by decide) rfl (Or.inl w_1544) rfl rfl hl0 rfl ?_
  refine ev_goto 108 dX10_goes_169 (by decide) ?_
  exact ev_ls (hk108 l0 (sp S l0 19 ((sg S l0 19) + 1)) hl0 hB) (And.intro rfl trivial)
theorem u_X10_goes_108 {G : am_G} {N : Nat} {h0 : am_H} {out : am_S} : ∀ (n : Nat) (l0 : Nat) (S : am_S), isC 10 l0 = true → b_X10_goes_108 N n l0 S = some out → Ev G (am_R 2 0 0) (am_Φ G h0 0 0 (q_v out) q_n) mX10_goes 0 0 108 [some (.ref l0), none] [] (hp S) := by
  intro n
  induction n with
  | zero =>
    intro l0 S hl0 hB
    exact absurd (show none = some out from hB) (fun q => by cases q)
  | succ n ih =>
    intro l0 S hl0 hB
    unfold b_X10_goes_108 at hB
    refine ev_aload_n dX10_goes_108 rfl ?_
    refine ev_aload_n dX10_goes_109 rfl ?_
    refine es_geti k_10 19 dX10_goes_110 (by decide) rfl (Or.inl w_1544) hl0 rfl ?_
    obtain ⟨r1, S2, e3, hB⟩ := bd_of hB
    refine es_callVi (As := [.int (sg S l0 19)]) (t_X10_byteAt hl0 e3) dX10_goes_113 oX10_byteAt w_1752 rfl hl0 rfl rfl (Nat.le_of_ble_eq_true rfl) rfl (am_fit.of (by decide)) ⟨Nat.zero_le _, Nat.zero_le _⟩ ?_
    obtain ⟨r4, S5, e6, hB⟩ := bd_of hB
    refine es_callSi (As := [.int r1]) (t_X10_isLetter e6) dX10_goes_116 oX10_isLetter w_1756 rfl (Nat.le_of_ble_eq_true rfl) rfl (am_fit.of (by decide)) ⟨Nat.zero_le _, Nat.zero_le _⟩ ?_
    refine ev_ifeq 172 dX10_goes_119 (by decide) (fun q7 => ?_) (fun q7 => ?_)
    · rw [if_pos q7] at hB
      refine ev_aload_n dX10_goes_172 rfl ?_
      refine ev_iconst 1 dX10_goes_173 (by decide) ?_
      refine es_puti k_10 20 dX10_goes_174 (by decide) rfl (Or.inl w_1545) rfl rfl hl0 rfl ?_
      refine ev_goto 331 dX10_goes_177 (by decide) ?_
      exact ev_ls (u_X10_goes_331 l0 (sp S5 l0 20 1) hl0 hB) (And.intro rfl trivial)
    · rw [if_neg q7] at hB
      refine ev_aload_n dX10_goes_122 rfl ?_
      refine es_geti k_10 19 dX10_goes_123 (by decide) rfl (Or.inl w_1544) hl0 rfl ?_
      refine ev_aload_n dX10_goes_126 rfl ?_
      refine es_geti k_10 21 dX10_goes_127 (by decide) rfl (Or.inl w_1546) hl0 rfl ?_
      refine ev_isub dX10_goes_130 ?_
      refine ev_bipush 7 dX10_goes_131 (by decide) ?_
      refine ev_icmpge 159 dX10_goes_133 (by decide) (fun q8 => ?_) (fun q8 => ?_)
      · rw [if_pos q8] at hB
        exact ev_ls (u_X10_goes_159 ih l0 S5 hl0 hB) (And.intro rfl trivial)
      · rw [if_neg q8] at hB
        refine ev_aload_n dX10_goes_136 rfl ?_
        refine ev_aload_n dX10_goes_137 rfl ?_
        refine es_getl k_10 25 dX10_goes_138 (by decide) rfl (Or.inl w_1550) hl0 rfl ?_
        refine ev_iconst 5 dX10_goes_141 (by decide) ?_
        refine ev_lshl dX10_goes_142 ?_
        refine ev_aload_n dX10_goes_143 rfl ?_
        refine ev_aload_n dX10_goes_144 rfl ?_
        refine es_geti k_10 19 dX10_goes_145 (by decide) rfl (Or.inl w_1544) hl0 rfl ?_
        obtain ⟨r9, S10, e11, hB⟩ := bd_of hB
        refine es_callVi (As := [.int (sg S5 l0 19)]) (t_X10_byteAt hl0 e11) dX10_goes_148 oX10_byteAt w_1752 rfl hl0 rfl rfl (Nat.le_of_ble_eq_true rfl) rfl (am_fit.of (by decide)) ⟨Nat.zero_le _, Nat.zero_le _⟩ ?_
        refine ev_bipush 96 dX10_goes_151 (by decide) ?_
        refine ev_isub dX10_goes_153 ?_
        refine ev_i2l dX10_goes_154 ?_
        refine ev_lor dX10_goes_155 ?_
        refine es_putl k_10 25 dX10_goes_156 (by decide) rfl (Or.inl w_1550) rfl rfl hl0 rfl (on_l hl0) onL ?_
        exact ev_ls (u_X10_goes_159 ih l0 (lp S10 0 (((lg S5 0) <<< (Int32.toInt64 5 &&& (63 : Int64))) ||| (Int32.toInt64 (r9 - 96)))) hl0 hB) (And.intro rfl trivial)
theorem u_X10_goes_237 {G : am_G} {N : Nat} {h0 : am_H} {out : am_S} {k187 : Nat → am_S → Option (am_S)} (hk187 : ∀ (l0 : Nat) (S : am_S), isC 10 l0 = true → k187 l0 S = some out → Ev G (am_R 2 0 0) (am_Φ G h0 0 0 (q_v out) q_n) mX10_goes 0 0 187 [some (.ref l0), none] [] (hp S)) (l0 : Nat) (S : am_S) (hl0 : isC 10 l0 = true) (hB : b_X10_goes_237 N k187 l0 S = some out) : Ev G (am_R 2 0 0) (am_Φ G h0 0 0 (q_v out) q_n) mX10_goes 0 0 237 [some (.ref l0), none] [] (hp S) := by
  unfold b_X10_goes_237 at hB
  refine ev_aload_n dX10_goes_237 rfl ?_
  refine ev_dup dX10_goes_238 rfl ?_
  refine es_geti k_10 19 dX10_goes_239 (by decide) rfl (Or.inl w_1544) hl0 rfl ?_
  refine ev_iconst 1 dX10_goes_242 (by decide) ?_
  refine ev_iadd dX10_goes_243 ?_
  refine es_puti k_10 19 dX10_goes_244 (by decide) rfl (Or.inl w_1544) rfl rfl hl0 rfl ?_
  refine ev_goto 187 dX10_goes_247 (by decide) ?_
  exact ev_ls (hk187 l0 (sp S l0 19 ((sg S l0 19) + 1)) hl0 hB) (And.intro rfl trivial)
theorem u_X10_goes_187 {G : am_G} {N : Nat} {h0 : am_H} {out : am_S} : ∀ (n : Nat) (l0 : Nat) (S : am_S), isC 10 l0 = true → b_X10_goes_187 N n l0 S = some out → Ev G (am_R 2 0 0) (am_Φ G h0 0 0 (q_v out) q_n) mX10_goes 0 0 187 [some (.ref l0), none] [] (hp S) := by
  intro n
  induction n with
  | zero =>
    intro l0 S hl0 hB
    exact absurd (show none = some out from hB) (fun q => by cases q)
  | succ n ih =>
    intro l0 S hl0 hB
    unfold b_X10_goes_187 at hB
    refine ev_aload_n dX10_goes_187 rfl ?_
    refine ev_aload_n dX10_goes_188 rfl ?_
    refine es_geti k_10 19 dX10_goes_189 (by decide) rfl (Or.inl w_1544) hl0 rfl ?_
    obtain ⟨r1, S2, e3, hB⟩ := bd_of hB
    refine es_callVi (As := [.int (sg S l0 19)]) (t_X10_byteAt hl0 e3) dX10_goes_192 oX10_byteAt w_1752 rfl hl0 rfl rfl (Nat.le_of_ble_eq_true rfl) rfl (am_fit.of (by decide)) ⟨Nat.zero_le _, Nat.zero_le _⟩ ?_
    obtain ⟨r4, S5, e6, hB⟩ := bd_of hB
    refine es_callSi (As := [.int r1]) (t_X10_isDigit e6) dX10_goes_195 oX10_isDigit w_1759 rfl (Nat.le_of_ble_eq_true rfl) rfl (am_fit.of (by decide)) ⟨Nat.zero_le _, Nat.zero_le _⟩ ?_
    refine ev_ifeq 250 dX10_goes_198 (by decide) (fun q7 => ?_) (fun q7 => ?_)
    · rw [if_pos q7] at hB
      refine ev_aload_n dX10_goes_250 rfl ?_
      refine ev_iconst 2 dX10_goes_251 (by decide) ?_
      refine es_puti k_10 20 dX10_goes_252 (by decide) rfl (Or.inl w_1545) rfl rfl hl0 rfl ?_
      refine ev_goto 331 dX10_goes_255 (by decide) ?_
      exact ev_ls (u_X10_goes_331 l0 (sp S5 l0 20 2) hl0 hB) (And.intro rfl trivial)
    · rw [if_neg q7] at hB
      refine ev_aload_n dX10_goes_201 rfl ?_
      refine es_geti k_10 19 dX10_goes_202 (by decide) rfl (Or.inl w_1544) hl0 rfl ?_
      refine ev_aload_n dX10_goes_205 rfl ?_
      refine es_geti k_10 21 dX10_goes_206 (by decide) rfl (Or.inl w_1546) hl0 rfl ?_
      refine ev_isub dX10_goes_209 ?_
      refine ev_iconst 4 dX10_goes_210 (by decide) ?_
      refine ev_icmpge 237 dX10_goes_211 (by decide) (fun q8 => ?_) (fun q8 => ?_)
      · rw [if_pos q8] at hB
        exact ev_ls (u_X10_goes_237 ih l0 S5 hl0 hB) (And.intro rfl trivial)
      · rw [if_neg q8] at hB
        refine ev_aload_n dX10_goes_214 rfl ?_
        refine ev_bipush 10 dX10_goes_215 (by decide) ?_
        refine ev_aload_n dX10_goes_217 rfl ?_
        refine es_geti k_10 23 dX10_goes_218 (by decide) rfl (Or.inl w_1548) hl0 rfl ?_
        refine ev_imul dX10_goes_221 ?_
        refine ev_aload_n dX10_goes_222 rfl ?_
        refine ev_aload_n dX10_goes_223 rfl ?_
        refine es_geti k_10 19 dX10_goes_224 (by decide) rfl (Or.inl w_1544) hl0 rfl ?_
        obtain ⟨r9, S10, e11, hB⟩ := bd_of hB
        refine es_callVi (As := [.int (sg S5 l0 19)]) (t_X10_byteAt hl0 e11) dX10_goes_227 oX10_byteAt w_1752 rfl hl0 rfl rfl (Nat.le_of_ble_eq_true rfl) rfl (am_fit.of (by decide)) ⟨Nat.zero_le _, Nat.zero_le _⟩ ?_
        refine ev_iadd dX10_goes_230 ?_
        refine ev_bipush 48 dX10_goes_231 (by decide) ?_
        refine ev_isub dX10_goes_233 ?_
        refine es_puti k_10 23 dX10_goes_234 (by decide) rfl (Or.inl w_1548) rfl rfl hl0 rfl ?_
        exact ev_ls (u_X10_goes_237 ih l0 (sp S10 l0 23 (((10 * (sg S5 l0 23)) + r9) - 48)) hl0 hB) (And.intro rfl trivial)
theorem u_X10_goes_328 {G : am_G} {N : Nat} {h0 : am_H} {out : am_S} (l0 : Nat) (z0 : Nat) (z1 : Int32) (S : am_S) (hl0 : isC 10 l0 = true) (hz0 : isC 10 z0 = true) (hB : b_X10_goes_328 N l0 z0 z1 S = some out) : Ev G (am_R 2 0 0) (am_Φ G h0 0 0 (q_v out) q_n) mX10_goes 0 0 328 [some (.ref l0), none] [.int z1, .ref z0] (hp S) := by
  unfold b_X10_goes_328 at hB
  refine es_puti k_10 20 dX10_goes_328 (by decide) rfl (Or.inl w_1545) rfl rfl hz0 rfl ?_
  exact ev_ls (u_X10_goes_331 l0 (sp S z0 20 z1) hl0 hB) (And.intro rfl trivial)
theorem u_X10_goes_323 {G : am_G} {N : Nat} {h0 : am_H} {out : am_S} (l0 : Nat) (z0 : Nat) (S : am_S) (hl0 : isC 10 l0 = true) (hz0 : isC 10 z0 = true) (hB : b_X10_goes_323 N l0 z0 S = some out) : Ev G (am_R 2 0 0) (am_Φ G h0 0 0 (q_v out) q_n) mX10_goes 0 0 323 [some (.ref l0), none] [.ref z0] (hp S) := by
  unfold b_X10_goes_323 at hB
  refine ev_iconst 3 dX10_goes_323 (by decide) ?_
  refine ev_goto 328 dX10_goes_324 (by decide) ?_
  exact ev_ls (u_X10_goes_328 l0 z0 3 S hl0 hz0 hB) (And.intro rfl trivial)
theorem u_X10_goes_50 {G : am_G} {N : Nat} {h0 : am_H} {out : am_S} (l0 : Nat) (S : am_S) (hl0 : isC 10 l0 = true) (hB : b_X10_goes_50 N l0 S = some out) : Ev G (am_R 2 0 0) (am_Φ G h0 0 0 (q_v out) q_n) mX10_goes 0 0 50 [some (.ref l0), none] [] (hp S) := by
  unfold b_X10_goes_50 at hB
  refine ev_aload_n dX10_goes_50 rfl ?_
  refine ev_aload_n dX10_goes_51 rfl ?_
  refine es_geti k_10 19 dX10_goes_52 (by decide) rfl (Or.inl w_1544) hl0 rfl ?_
  refine es_puti k_10 21 dX10_goes_55 (by decide) rfl (Or.inl w_1546) rfl rfl hl0 rfl ?_
  refine ev_aload_n dX10_goes_58 rfl ?_
  refine ev_lconst 0 dX10_goes_59 (by decide) ?_
  refine es_putl k_10 25 dX10_goes_60 (by decide) rfl (Or.inl w_1550) rfl rfl hl0 rfl (on_l hl0) onL ?_
  refine ev_aload_n dX10_goes_63 rfl ?_
  refine ev_iconst 0 dX10_goes_64 (by decide) ?_
  refine es_puti k_10 23 dX10_goes_65 (by decide) rfl (Or.inl w_1548) rfl rfl hl0 rfl ?_
  refine ev_aload_n dX10_goes_68 rfl ?_
  refine ev_aload_n dX10_goes_69 rfl ?_
  refine es_geti k_10 19 dX10_goes_70 (by decide) rfl (Or.inl w_1544) hl0 rfl ?_
  obtain ⟨r1, S2, e3, hB⟩ := bd_of hB
  refine es_callVi (As := [.int (sg (sp (lp (sp S l0 21 (sg S l0 19)) 0 0) l0 23 0) l0 19)]) (t_X10_byteAt hl0 e3) dX10_goes_73 oX10_byteAt w_1752 rfl hl0 rfl rfl (Nat.le_of_ble_eq_true rfl) rfl (am_fit.of (by decide)) ⟨Nat.zero_le _, Nat.zero_le _⟩ ?_
  refine ev_istore_n dX10_goes_76 (by decide) rfl ?_
  refine ev_aload_n dX10_goes_77 rfl ?_
  refine ev_iload_n dX10_goes_78 rfl ?_
  refine es_puti k_10 24 dX10_goes_79 (by decide) rfl (Or.inl w_1549) rfl rfl hl0 rfl ?_
  refine ev_aload_n dX10_goes_82 rfl ?_
  refine es_geti k_10 19 dX10_goes_83 (by decide) rfl (Or.inl w_1544) hl0 rfl ?_
  refine ev_aload_n dX10_goes_86 rfl ?_
  refine es_geti k_10 18 dX10_goes_87 (by decide) rfl (Or.inl w_1543) hl0 rfl ?_
  refine ev_icmplt 101 dX10_goes_90 (by decide) (fun q4 => ?_) (fun q4 => ?_)
  · rw [if_pos q4] at hB
    refine ev_iload_n dX10_goes_101 rfl ?_
    obtain ⟨r5, S6, e7, hB⟩ := bd_of hB
    refine es_callSi (As := [.int r1]) (t_X10_isLetter e7) dX10_goes_102 oX10_isLetter w_1756 rfl (Nat.le_of_ble_eq_true rfl) rfl (am_fit.of (by decide)) ⟨Nat.zero_le _, Nat.zero_le _⟩ ?_
    refine ev_ifeq 180 dX10_goes_105 (by decide) (fun q8 => ?_) (fun q8 => ?_)
    · rw [if_pos q8] at hB
      refine ev_iload_n dX10_goes_180 rfl ?_
      obtain ⟨r9, S10, e11, hB⟩ := bd_of hB
      refine es_callSi (As := [.int r1]) (t_X10_isDigit e11) dX10_goes_181 oX10_isDigit w_1759 rfl (Nat.le_of_ble_eq_true rfl) rfl (am_fit.of (by decide)) ⟨Nat.zero_le _, Nat.zero_le _⟩ ?_
      refine ev_ifeq 258 dX10_goes_184 (by decide) (fun q12 => ?_) (fun q12 => ?_)
      · rw [if_pos q12] at hB
        refine ev_aload_n dX10_goes_258 rfl ?_
        refine ev_dup dX10_goes_259 rfl ?_
        refine es_geti k_10 19 dX10_goes_260 (by decide) rfl (Or.inl w_1544) hl0 rfl ?_
        refine ev_iconst 1 dX10_goes_263 (by decide) ?_
        refine ev_iadd dX10_goes_264 ?_
        refine es_puti k_10 19 dX10_goes_265 (by decide) rfl (Or.inl w_1544) rfl rfl hl0 rfl ?_
        refine ev_aload_n dX10_goes_268 rfl ?_
        refine ev_iload_n dX10_goes_269 rfl ?_
        refine ev_bipush 59 dX10_goes_270 (by decide) ?_
        refine ev_icmpeq 323 dX10_goes_272 (by decide) (fun q13 => ?_) (fun q13 => ?_)
        · rw [if_pos q13] at hB
          exact ev_ls (u_X10_goes_323 l0 l0 (sp S10 l0 19 ((sg S10 l0 19) + 1)) hl0 hl0 hB) (And.intro rfl trivial)
        · rw [if_neg q13] at hB
          refine ev_iload_n dX10_goes_275 rfl ?_
          refine ev_bipush 40 dX10_goes_276 (by decide) ?_
          refine ev_icmpeq 323 dX10_goes_278 (by decide) (fun q14 => ?_) (fun q14 => ?_)
          · rw [if_pos q14] at hB
            exact ev_ls (u_X10_goes_323 l0 l0 (sp S10 l0 19 ((sg S10 l0 19) + 1)) hl0 hl0 hB) (And.intro rfl trivial)
          · rw [if_neg q14] at hB
            refine ev_iload_n dX10_goes_281 rfl ?_
            refine ev_bipush 41 dX10_goes_282 (by decide) ?_
            refine ev_icmpeq 323 dX10_goes_284 (by decide) (fun q15 => ?_) (fun q15 => ?_)
            · rw [if_pos q15] at hB
              exact ev_ls (u_X10_goes_323 l0 l0 (sp S10 l0 19 ((sg S10 l0 19) + 1)) hl0 hl0 hB) (And.intro rfl trivial)
            · rw [if_neg q15] at hB
              refine ev_iload_n dX10_goes_287 rfl ?_
              refine ev_bipush 43 dX10_goes_288 (by decide) ?_
              refine ev_icmpeq 323 dX10_goes_290 (by decide) (fun q16 => ?_) (fun q16 => ?_)
              · rw [if_pos q16] at hB
                exact ev_ls (u_X10_goes_323 l0 l0 (sp S10 l0 19 ((sg S10 l0 19) + 1)) hl0 hl0 hB) (And.intro rfl trivial)
              · rw [if_neg q16] at hB
                refine ev_iload_n dX10_goes_293 rfl ?_
                refine ev_bipush 45 dX10_goes_294 (by decide) ?_
                refine ev_icmpeq 323 dX10_goes_296 (by decide) (fun q17 => ?_) (fun q17 => ?_)
                · rw [if_pos q17] at hB
                  exact ev_ls (u_X10_goes_323 l0 l0 (sp S10 l0 19 ((sg S10 l0 19) + 1)) hl0 hl0 hB) (And.intro rfl trivial)
                · rw [if_neg q17] at hB
                  refine ev_iload_n dX10_goes_299 rfl ?_
                  refine ev_bipush 42 dX10_goes_300 (by decide) ?_
                  refine ev_icmpeq 323 dX10_goes_302 (by decide) (fun q18 => ?_) (fun q18 => ?_)
                  · rw [if_pos q18] at hB
                    exact ev_ls (u_X10_goes_323 l0 l0 (sp S10 l0 19 ((sg S10 l0 19) + 1)) hl0 hl0 hB) (And.intro rfl trivial)
                  · rw [if_neg q18] at hB
                    refine ev_iload_n dX10_goes_305 rfl ?_
                    refine ev_bipush 47 dX10_goes_306 (by decide) ?_
                    refine ev_icmpeq 323 dX10_goes_308 (by decide) (fun q19 => ?_) (fun q19 => ?_)
                    · rw [if_pos q19] at hB
                      exact ev_ls (u_X10_goes_323 l0 l0 (sp S10 l0 19 ((sg S10 l0 19) + 1)) hl0 hl0 hB) (And.intro rfl trivial)
                    · rw [if_neg q19] at hB
                      refine ev_iload_n dX10_goes_311 rfl ?_
                      refine ev_bipush 60 dX10_goes_312 (by decide) ?_
                      refine ev_icmpeq 323 dX10_goes_314 (by decide) (fun q20 => ?_) (fun q20 => ?_)
                      · rw [if_pos q20] at hB
                        exact ev_ls (u_X10_goes_323 l0 l0 (sp S10 l0 19 ((sg S10 l0 19) + 1)) hl0 hl0 hB) (And.intro rfl trivial)
                      · rw [if_neg q20] at hB
                        refine ev_iload_n dX10_goes_317 rfl ?_
                        refine ev_bipush 61 dX10_goes_318 (by decide) ?_
                        refine ev_icmpne 327 dX10_goes_320 (by decide) (fun q21 => ?_) (fun q21 => ?_)
                        · rw [if_neg q21] at hB
                          refine ev_iconst 4 dX10_goes_327 (by decide) ?_
                          exact ev_ls (u_X10_goes_328 l0 l0 4 (sp S10 l0 19 ((sg S10 l0 19) + 1)) hl0 hl0 hB) (And.intro rfl trivial)
                        · rw [if_pos q21] at hB
                          exact ev_ls (u_X10_goes_323 l0 l0 (sp S10 l0 19 ((sg S10 l0 19) + 1)) hl0 hl0 hB) (And.intro rfl trivial)
      · rw [if_neg q12] at hB
        exact ev_ls (u_X10_goes_187 N l0 S10 hl0 hB) (And.intro rfl trivial)
    · rw [if_neg q8] at hB
      exact ev_ls (u_X10_goes_108 N l0 S6 hl0 hB) (And.intro rfl trivial)
  · rw [if_neg q4] at hB
    refine ev_aload_n dX10_goes_93 rfl ?_
    refine ev_iconst 0 dX10_goes_94 (by decide) ?_
    refine es_puti k_10 20 dX10_goes_95 (by decide) rfl (Or.inl w_1545) rfl rfl hl0 rfl ?_
    refine ev_goto 331 dX10_goes_98 (by decide) ?_
    exact ev_ls (u_X10_goes_331 l0 (sp (sp S2 l0 24 r1) l0 20 0) hl0 hB) (And.intro rfl trivial)
theorem u_X10_goes_0 {G : am_G} {N : Nat} {h0 : am_H} {out : am_S} : ∀ (n : Nat) (l0 : Nat) (S : am_S), isC 10 l0 = true → b_X10_goes_0 N n l0 S = some out → Ev G (am_R 2 0 0) (am_Φ G h0 0 0 (q_v out) q_n) mX10_goes 0 0 0 [some (.ref l0), none] [] (hp S) := by
  intro n
  induction n with
  | zero =>
    intro l0 S hl0 hB
    exact absurd (show none = some out from hB) (fun q => by cases q)
  | succ n ih =>
    intro l0 S hl0 hB
    unfold b_X10_goes_0 at hB
    refine ev_aload_n dX10_goes_0 rfl ?_
    refine es_geti k_10 19 dX10_goes_1 (by decide) rfl (Or.inl w_1544) hl0 rfl ?_
    refine ev_aload_n dX10_goes_4 rfl ?_
    refine es_geti k_10 18 dX10_goes_5 (by decide) rfl (Or.inl w_1543) hl0 rfl ?_
    refine ev_icmpge 50 dX10_goes_8 (by decide) (fun q1 => ?_) (fun q1 => ?_)
    · rw [if_pos q1] at hB
      exact ev_ls (u_X10_goes_50 l0 S hl0 hB) (And.intro rfl trivial)
    · rw [if_neg q1] at hB
      refine ev_aload_n dX10_goes_11 rfl ?_
      refine ev_aload_n dX10_goes_12 rfl ?_
      refine es_geti k_10 19 dX10_goes_13 (by decide) rfl (Or.inl w_1544) hl0 rfl ?_
      obtain ⟨r2, S3, e4, hB⟩ := bd_of hB
      refine es_callVi (As := [.int (sg S l0 19)]) (t_X10_byteAt hl0 e4) dX10_goes_16 oX10_byteAt w_1752 rfl hl0 rfl rfl (Nat.le_of_ble_eq_true rfl) rfl (am_fit.of (by decide)) ⟨Nat.zero_le _, Nat.zero_le _⟩ ?_
      refine ev_bipush 32 dX10_goes_19 (by decide) ?_
      refine ev_icmpeq 37 dX10_goes_21 (by decide) (fun q5 => ?_) (fun q5 => ?_)
      · rw [if_pos q5] at hB
        exact ev_ls (u_X10_goes_37 ih l0 S3 hl0 hB) (And.intro rfl trivial)
      · rw [if_neg q5] at hB
        refine ev_aload_n dX10_goes_24 rfl ?_
        refine ev_aload_n dX10_goes_25 rfl ?_
        refine es_geti k_10 19 dX10_goes_26 (by decide) rfl (Or.inl w_1544) hl0 rfl ?_
        obtain ⟨r6, S7, e8, hB⟩ := bd_of hB
        refine es_callVi (As := [.int (sg S3 l0 19)]) (t_X10_byteAt hl0 e8) dX10_goes_29 oX10_byteAt w_1752 rfl hl0 rfl rfl (Nat.le_of_ble_eq_true rfl) rfl (am_fit.of (by decide)) ⟨Nat.zero_le _, Nat.zero_le _⟩ ?_
        refine ev_bipush 10 dX10_goes_32 (by decide) ?_
        refine ev_icmpne 50 dX10_goes_34 (by decide) (fun q9 => ?_) (fun q9 => ?_)
        · rw [if_neg q9] at hB
          exact ev_ls (u_X10_goes_50 l0 S7 hl0 hB) (And.intro rfl trivial)
        · rw [if_pos q9] at hB
          exact ev_ls (u_X10_goes_37 ih l0 S7 hl0 hB) (And.intro rfl trivial)
theorem t_X10_goes {G : am_G} {N : Nat} {l0 : Nat} {S : am_S} {out : am_S} (hl0 : isC 10 l0 = true) (hB : f_X10_goes N l0 S = some out) : am_Met G 2 mX10_goes 0 0 [.ref l0] (hp S) (q_v out) q_n := by
  refine am_of (by decide +kernel) rfl rfl rfl (Nat.le_of_ble_eq_true rfl) ?_
  unfold f_X10_goes at hB
  exact ev_ls (u_X10_goes_0 N l0 S hl0 hB) (And.intro rfl trivial)
def b_X10_spelled_102 (N : Nat) (l7 : Int64) (S : am_S) : Option (Int64 × am_S) := some (l7, S)
def b_X10_spelled_84 (N : Nat) (l6 : Int32) (l7 : Int64) (S : am_S) : Option (Int64 × am_S) := (if l6 = 0 then b_X10_spelled_102 N l7 S else b_X10_spelled_102 N ((l7 <<< (Int32.toInt64 5 &&& (63 : Int64))) ||| (Int32.toInt64 (l6 - 96))) S)
def b_X10_spelled_66 (N : Nat) (l5 : Int32) (l6 : Int32) (l7 : Int64) (S : am_S) : Option (Int64 × am_S) := (if l5 = 0 then b_X10_spelled_84 N l6 l7 S else b_X10_spelled_84 N l6 ((l7 <<< (Int32.toInt64 5 &&& (63 : Int64))) ||| (Int32.toInt64 (l5 - 96))) S)
def b_X10_spelled_48 (N : Nat) (l4 : Int32) (l5 : Int32) (l6 : Int32) (l7 : Int64) (S : am_S) : Option (Int64 × am_S) := (if l4 = 0 then b_X10_spelled_66 N l5 l6 l7 S else b_X10_spelled_66 N l5 l6 ((l7 <<< (Int32.toInt64 5 &&& (63 : Int64))) ||| (Int32.toInt64 (l4 - 96))) S)
def b_X10_spelled_32 (N : Nat) (l3 : Int32) (l4 : Int32) (l5 : Int32) (l6 : Int32) (l7 : Int64) (S : am_S) : Option (Int64 × am_S) := (if l3 = 0 then b_X10_spelled_48 N l4 l5 l6 l7 S else b_X10_spelled_48 N l4 l5 l6 ((l7 <<< (Int32.toInt64 5 &&& (63 : Int64))) ||| (Int32.toInt64 (l3 - 96))) S)
def f_X10_spelled (N : Nat) (l0 : Int32) (l1 : Int32) (l2 : Int32) (l3 : Int32) (l4 : Int32) (l5 : Int32) (l6 : Int32) (S : am_S) : Option (Int64 × am_S) := (if l2 = 0 then b_X10_spelled_32 N l3 l4 l5 l6 ((((Int32.toInt64 l0) - 96) <<< (Int32.toInt64 5 &&& (63 : Int64))) ||| (Int32.toInt64 (l1 - 96))) S else b_X10_spelled_32 N l3 l4 l5 l6 ((((((Int32.toInt64 l0) - 96) <<< (Int32.toInt64 5 &&& (63 : Int64))) ||| (Int32.toInt64 (l1 - 96))) <<< (Int32.toInt64 5 &&& (63 : Int64))) ||| (Int32.toInt64 (l2 - 96))) S)
theorem u_X10_spelled_102 {G : am_G} {N : Nat} {h0 : am_H} {out : Int64 × am_S} (l7 : Int64) (S : am_S) (hB : b_X10_spelled_102 N l7 S = some out) : Ev G (am_R 1 0 0) (am_Φ G h0 0 0 (q_l out) q_n) mX10_spelled 0 0 102 [none, none, none, none, none, none, none, some (.long l7), none] [] (hp S) := by
  unfold b_X10_spelled_102 at hB
  refine ev_lload dX10_spelled_102 rfl ?_
  obtain rfl := Option.some.inj hB
  exact ev_lret dX10_spelled_104 rfl (Nat.zero_le _) (Nat.zero_le _) (fun z => absurd z (hp_sealed _)) ⟨rfl, rfl⟩
theorem u_X10_spelled_84 {G : am_G} {N : Nat} {h0 : am_H} {out : Int64 × am_S} (l6 : Int32) (l7 : Int64) (S : am_S) (hB : b_X10_spelled_84 N l6 l7 S = some out) : Ev G (am_R 1 0 0) (am_Φ G h0 0 0 (q_l out) q_n) mX10_spelled 0 0 84 [none, none, none, none, none, none, some (.int l6), some (.long l7), none] [] (hp S) := by
  unfold b_X10_spelled_84 at hB
  refine ev_iload dX10_spelled_84 rfl ?_
  refine ev_ifeq 102 dX10_spelled_86 (by decide) (fun q1 => ?_) (fun q1 => ?_)
  · rw [if_pos q1] at hB
    exact ev_ls (u_X10_spelled_102 l7 S hB) (And.intro rfl trivial)
  · rw [if_neg q1] at hB
    refine ev_lload dX10_spelled_89 rfl ?_
    refine ev_iconst 5 dX10_spelled_91 (by decide) ?_
    refine ev_lshl dX10_spelled_92 ?_
    refine ev_iload dX10_spelled_93 rfl ?_
    refine ev_bipush 96 dX10_spelled_95 (by decide) ?_
    refine ev_isub dX10_spelled_97 ?_
    refine ev_i2l dX10_spelled_98 ?_
    refine ev_lor dX10_spelled_99 ?_
    refine ev_lstore dX10_spelled_100 (by decide) rfl ?_
    exact ev_ls (u_X10_spelled_102 ((l7 <<< (Int32.toInt64 5 &&& (63 : Int64))) ||| (Int32.toInt64 (l6 - 96))) S hB) (And.intro rfl trivial)
theorem u_X10_spelled_66 {G : am_G} {N : Nat} {h0 : am_H} {out : Int64 × am_S} (l5 : Int32) (l6 : Int32) (l7 : Int64) (S : am_S) (hB : b_X10_spelled_66 N l5 l6 l7 S = some out) : Ev G (am_R 1 0 0) (am_Φ G h0 0 0 (q_l out) q_n) mX10_spelled 0 0 66 [none, none, none, none, none, some (.int l5), some (.int l6), some (.long l7), none] [] (hp S) := by
  unfold b_X10_spelled_66 at hB
  refine ev_iload dX10_spelled_66 rfl ?_
  refine ev_ifeq 84 dX10_spelled_68 (by decide) (fun q1 => ?_) (fun q1 => ?_)
  · rw [if_pos q1] at hB
    exact ev_ls (u_X10_spelled_84 l6 l7 S hB) (And.intro rfl (And.intro rfl trivial))
  · rw [if_neg q1] at hB
    refine ev_lload dX10_spelled_71 rfl ?_
    refine ev_iconst 5 dX10_spelled_73 (by decide) ?_
    refine ev_lshl dX10_spelled_74 ?_
    refine ev_iload dX10_spelled_75 rfl ?_
    refine ev_bipush 96 dX10_spelled_77 (by decide) ?_
    refine ev_isub dX10_spelled_79 ?_
    refine ev_i2l dX10_spelled_80 ?_
    refine ev_lor dX10_spelled_81 ?_
    refine ev_lstore dX10_spelled_82 (by decide) rfl ?_
    exact ev_ls (u_X10_spelled_84 l6 ((l7 <<< (Int32.toInt64 5 &&& (63 : Int64))) ||| (Int32.toInt64 (l5 - 96))) S hB) (And.intro rfl (And.intro rfl trivial))
theorem u_X10_spelled_48 {G : am_G} {N : Nat} {h0 : am_H} {out : Int64 × am_S} (l4 : Int32) (l5 : Int32) (l6 : Int32) (l7 : Int64) (S : am_S) (hB : b_X10_spelled_48 N l4 l5 l6 l7 S = some out) : Ev G (am_R 1 0 0) (am_Φ G h0 0 0 (q_l out) q_n) mX10_spelled 0 0 48 [none, none, none, none, some (.int l4), some (.int l5), some (.int l6), some (.long l7), none] [] (hp S) := by
  unfold b_X10_spelled_48 at hB
  refine ev_iload dX10_spelled_48 rfl ?_
  refine ev_ifeq 66 dX10_spelled_50 (by decide) (fun q1 => ?_) (fun q1 => ?_)
  · rw [if_pos q1] at hB
    exact ev_ls (u_X10_spelled_66 l5 l6 l7 S hB) (And.intro rfl (And.intro rfl (And.intro rfl trivial)))
  · rw [if_neg q1] at hB
    refine ev_lload dX10_spelled_53 rfl ?_
    refine ev_iconst 5 dX10_spelled_55 (by decide) ?_
    refine ev_lshl dX10_spelled_56 ?_
    refine ev_iload dX10_spelled_57 rfl ?_
    refine ev_bipush 96 dX10_spelled_59 (by decide) ?_
    refine ev_isub dX10_spelled_61 ?_
    refine ev_i2l dX10_spelled_62 ?_
    refine ev_lor dX10_spelled_63 ?_
    refine ev_lstore dX10_spelled_64 (by decide) rfl ?_
    exact ev_ls (u_X10_spelled_66 l5 l6 ((l7 <<< (Int32.toInt64 5 &&& (63 : Int64))) ||| (Int32.toInt64 (l4 - 96))) S hB) (And.intro rfl (And.intro rfl (And.intro rfl trivial)))
theorem u_X10_spelled_32 {G : am_G} {N : Nat} {h0 : am_H} {out : Int64 × am_S} (l3 : Int32) (l4 : Int32) (l5 : Int32) (l6 : Int32) (l7 : Int64) (S : am_S) (hB : b_X10_spelled_32 N l3 l4 l5 l6 l7 S = some out) : Ev G (am_R 1 0 0) (am_Φ G h0 0 0 (q_l out) q_n) mX10_spelled 0 0 32 [none, none, none, some (.int l3), some (.int l4), some (.int l5), some (.int l6), some (.long l7), none] [] (hp S) := by
  unfold b_X10_spelled_32 at hB
  refine ev_iload_n dX10_spelled_32 rfl ?_
  refine ev_ifeq 48 dX10_spelled_33 (by decide) (fun q1 => ?_) (fun q1 => ?_)
  · rw [if_pos q1] at hB
    exact ev_ls (u_X10_spelled_48 l4 l5 l6 l7 S hB) (And.intro rfl (And.intro rfl (And.intro rfl (And.intro rfl trivial))))
  · rw [if_neg q1] at hB
    refine ev_lload dX10_spelled_36 rfl ?_
    refine ev_iconst 5 dX10_spelled_38 (by decide) ?_
    refine ev_lshl dX10_spelled_39 ?_
    refine ev_iload_n dX10_spelled_40 rfl ?_
    refine ev_bipush 96 dX10_spelled_41 (by decide) ?_
    refine ev_isub dX10_spelled_43 ?_
    refine ev_i2l dX10_spelled_44 ?_
    refine ev_lor dX10_spelled_45 ?_
    refine ev_lstore dX10_spelled_46 (by decide) rfl ?_
    exact ev_ls (u_X10_spelled_48 l4 l5 l6 ((l7 <<< (Int32.toInt64 5 &&& (63 : Int64))) ||| (Int32.toInt64 (l3 - 96))) S hB) (And.intro rfl (And.intro rfl (And.intro rfl (And.intro rfl trivial))))
theorem t_X10_spelled {G : am_G} {N : Nat} {l0 : Int32} {l1 : Int32} {l2 : Int32} {l3 : Int32} {l4 : Int32} {l5 : Int32} {l6 : Int32} {S : am_S} {out : Int64 × am_S} (hB : f_X10_spelled N l0 l1 l2 l3 l4 l5 l6 S = some out) : am_Met G 1 mX10_spelled 0 0 [.int l0, .int l1, .int l2, .int l3, .int l4, .int l5, .int l6] (hp S) (q_l out) q_n := by
  refine am_of (by decide +kernel) rfl rfl rfl (Nat.le_of_ble_eq_true rfl) ?_
  unfold f_X10_spelled at hB
  refine ev_iload_n dX10_spelled_0 rfl ?_
  refine ev_i2l dX10_spelled_1 ?_
  refine ev_ldc2 (v := 96) dX10_spelled_2 w_1780 ?_
  refine ev_lsub dX10_spelled_5 ?_
  refine ev_iconst 5 dX10_spelled_6 (by decide) ?_
  refine ev_lshl dX10_spelled_7 ?_
  refine ev_iload_n dX10_spelled_8 rfl ?_
  refine ev_bipush 96 dX10_spelled_9 (by decide) ?_
  refine ev_isub dX10_spelled_11 ?_
  refine ev_i2l dX10_spelled_12 ?_
  refine ev_lor dX10_spelled_13 ?_
  refine ev_lstore dX10_spelled_14 (by decide) rfl ?_
  refine ev_iload_n dX10_spelled_16 rfl ?_
  refine ev_ifeq 32 dX10_spelled_17 (by decide) (fun q1 => ?_) (fun q1 => ?_)
  · rw [if_pos q1] at hB
    exact ev_ls (u_X10_spelled_32 l3 l4 l5 l6 ((((Int32.toInt64 l0) - 96) <<< (Int32.toInt64 5 &&& (63 : Int64))) ||| (Int32.toInt64 (l1 - 96))) S hB) (And.intro rfl (And.intro rfl (And.intro rfl (And.intro rfl (And.intro rfl trivial)))))
  · rw [if_neg q1] at hB
    refine ev_lload dX10_spelled_20 rfl ?_
    refine ev_iconst 5 dX10_spelled_22 (by decide) ?_
    refine ev_lshl dX10_spelled_23 ?_
    refine ev_iload_n dX10_spelled_24 rfl ?_
    refine ev_bipush 96 dX10_spelled_25 (by decide) ?_
    refine ev_isub dX10_spelled_27 ?_
    refine ev_i2l dX10_spelled_28 ?_
    refine ev_lor dX10_spelled_29 ?_
    refine ev_lstore dX10_spelled_30 (by decide) rfl ?_
    exact ev_ls (u_X10_spelled_32 l3 l4 l5 l6 ((((((Int32.toInt64 l0) - 96) <<< (Int32.toInt64 5 &&& (63 : Int64))) ||| (Int32.toInt64 (l1 - 96))) <<< (Int32.toInt64 5 &&& (63 : Int64))) ||| (Int32.toInt64 (l2 - 96))) S hB) (And.intro rfl (And.intro rfl (And.intro rfl (And.intro rfl (And.intro rfl trivial)))))
def f_X10_letters (N : Nat) (l0 : Int32) (S : am_S) : Option (Int64 × am_S) := (if l0 = 0 then (bd (f_X10_spelled N 112 101 110 115 105 118 101 S) (fun r1 S2 => some (r1, S2))) else (if l0 = 1 then (bd (f_X10_spelled N 114 101 103 114 101 116 0 S) (fun r5 S6 => some (r5, S6))) else (if l0 = 2 then (bd (f_X10_spelled N 114 101 100 0 0 0 0 S) (fun r9 S10 => some (r9, S10))) else (if l0 = 3 then (bd (f_X10_spelled N 104 101 108 100 0 0 0 S) (fun r13 S14 => some (r13, S14))) else (if l0 = 4 then (bd (f_X10_spelled N 104 101 97 114 100 0 0 S) (fun r17 S18 => some (r17, S18))) else (if l0 = 5 then (bd (f_X10_spelled N 100 97 121 0 0 0 0 S) (fun r21 S22 => some (r21, S22))) else (if l0 = 6 then (bd (f_X10_spelled N 109 117 99 104 0 0 0 S) (fun r25 S26 => some (r25, S26))) else (if l0 = 7 then (bd (f_X10_spelled N 102 97 114 0 0 0 0 S) (fun r29 S30 => some (r29, S30))) else (if l0 = 8 then (bd (f_X10_spelled N 119 101 116 0 0 0 0 S) (fun r33 S34 => some (r33, S34))) else (if l0 = 9 then (bd (f_X10_spelled N 98 111 120 0 0 0 0 S) (fun r37 S38 => some (r37, S38))) else (if l0 = 10 then (bd (f_X10_spelled N 112 101 114 115 111 110 0 S) (fun r41 S42 => some (r41, S42))) else (if l0 = 11 then (bd (f_X10_spelled N 97 116 0 0 0 0 0 S) (fun r45 S46 => some (r45, S46))) else (if l0 = 12 then (bd (f_X10_spelled N 114 111 117 110 100 0 0 S) (fun r49 S50 => some (r49, S50))) else (if l0 = 13 then (bd (f_X10_spelled N 116 104 105 110 107 115 0 S) (fun r53 S54 => some (r53, S54))) else (if l0 = 14 then (bd (f_X10_spelled N 115 111 117 110 100 115 0 S) (fun r57 S58 => some (r57, S58))) else (if l0 = 15 then (bd (f_X10_spelled N 97 110 100 0 0 0 0 S) (fun r61 S62 => some (r61, S62))) else (if l0 = 16 then (bd (f_X10_spelled N 111 114 0 0 0 0 0 S) (fun r65 S66 => some (r65, S66))) else (bd (f_X10_spelled N 110 111 116 0 0 0 0 S) (fun r69 S70 => some (r69, S70))))))))))))))))))))
theorem t_X10_letters {G : am_G} {N : Nat} {l0 : Int32} {S : am_S} {out : Int64 × am_S} (hB : f_X10_letters N l0 S = some out) : am_Met G 2 mX10_letters 0 0 [.int l0] (hp S) (q_l out) q_n := by
  refine am_of (by decide +kernel) rfl rfl rfl (Nat.le_of_ble_eq_true rfl) ?_
  unfold f_X10_letters at hB
  refine ev_iload_n dX10_letters_0 rfl ?_
  by_cases q4 : l0 = 0
  · rw [if_pos q4] at hB
    refine ev_tableIn (off := 83) 84 dX10_letters_1 (by rw [q4]; decide) (by rw [q4]; decide) (by rw [q4]; rfl) (by decide) ?_
    refine ev_bipush 112 dX10_letters_84 (by decide) ?_
    refine ev_bipush 101 dX10_letters_86 (by decide) ?_
    refine ev_bipush 110 dX10_letters_88 (by decide) ?_
    refine ev_bipush 115 dX10_letters_90 (by decide) ?_
    refine ev_bipush 105 dX10_letters_92 (by decide) ?_
    refine ev_bipush 118 dX10_letters_94 (by decide) ?_
    refine ev_bipush 101 dX10_letters_96 (by decide) ?_
    obtain ⟨r1, S2, e3, hB⟩ := bd_of hB
    refine es_callSl (As := [.int 112, .int 101, .int 110, .int 115, .int 105, .int 118, .int 101]) (t_X10_spelled e3) dX10_letters_98 oX10_spelled w_1777 rfl (Nat.le_of_ble_eq_true rfl) rfl (am_fit.of (by decide)) ⟨Nat.zero_le _, Nat.zero_le _⟩ ?_
    obtain rfl := Option.some.inj hB
    exact ev_lret dX10_letters_101 rfl (Nat.zero_le _) (Nat.zero_le _) (fun z => absurd z (hp_sealed _)) ⟨rfl, rfl⟩
  rw [if_neg q4] at hB
  have tq4 := am_nt (k := 0) q4 (by decide)
  by_cases q8 : l0 = 1
  · rw [if_pos q8] at hB
    refine ev_tableIn (off := 101) 102 dX10_letters_1 (by rw [q8]; decide) (by rw [q8]; decide) (by rw [q8]; rfl) (by decide) ?_
    refine ev_bipush 114 dX10_letters_102 (by decide) ?_
    refine ev_bipush 101 dX10_letters_104 (by decide) ?_
    refine ev_bipush 103 dX10_letters_106 (by decide) ?_
    refine ev_bipush 114 dX10_letters_108 (by decide) ?_
    refine ev_bipush 101 dX10_letters_110 (by decide) ?_
    refine ev_bipush 116 dX10_letters_112 (by decide) ?_
    refine ev_iconst 0 dX10_letters_114 (by decide) ?_
    obtain ⟨r5, S6, e7, hB⟩ := bd_of hB
    refine es_callSl (As := [.int 114, .int 101, .int 103, .int 114, .int 101, .int 116, .int 0]) (t_X10_spelled e7) dX10_letters_115 oX10_spelled w_1777 rfl (Nat.le_of_ble_eq_true rfl) rfl (am_fit.of (by decide)) ⟨Nat.zero_le _, Nat.zero_le _⟩ ?_
    obtain rfl := Option.some.inj hB
    exact ev_lret dX10_letters_118 rfl (Nat.zero_le _) (Nat.zero_le _) (fun z => absurd z (hp_sealed _)) ⟨rfl, rfl⟩
  rw [if_neg q8] at hB
  have tq8 := am_nt (k := 1) q8 (by decide)
  by_cases q12 : l0 = 2
  · rw [if_pos q12] at hB
    refine ev_tableIn (off := 118) 119 dX10_letters_1 (by rw [q12]; decide) (by rw [q12]; decide) (by rw [q12]; rfl) (by decide) ?_
    refine ev_bipush 114 dX10_letters_119 (by decide) ?_
    refine ev_bipush 101 dX10_letters_121 (by decide) ?_
    refine ev_bipush 100 dX10_letters_123 (by decide) ?_
    refine ev_iconst 0 dX10_letters_125 (by decide) ?_
    refine ev_iconst 0 dX10_letters_126 (by decide) ?_
    refine ev_iconst 0 dX10_letters_127 (by decide) ?_
    refine ev_iconst 0 dX10_letters_128 (by decide) ?_
    obtain ⟨r9, S10, e11, hB⟩ := bd_of hB
    refine es_callSl (As := [.int 114, .int 101, .int 100, .int 0, .int 0, .int 0, .int 0]) (t_X10_spelled e11) dX10_letters_129 oX10_spelled w_1777 rfl (Nat.le_of_ble_eq_true rfl) rfl (am_fit.of (by decide)) ⟨Nat.zero_le _, Nat.zero_le _⟩ ?_
    obtain rfl := Option.some.inj hB
    exact ev_lret dX10_letters_132 rfl (Nat.zero_le _) (Nat.zero_le _) (fun z => absurd z (hp_sealed _)) ⟨rfl, rfl⟩
  rw [if_neg q12] at hB
  have tq12 := am_nt (k := 2) q12 (by decide)
  by_cases q16 : l0 = 3
  · rw [if_pos q16] at hB
    refine ev_tableIn (off := 132) 133 dX10_letters_1 (by rw [q16]; decide) (by rw [q16]; decide) (by rw [q16]; rfl) (by decide) ?_
    refine ev_bipush 104 dX10_letters_133 (by decide) ?_
    refine ev_bipush 101 dX10_letters_135 (by decide) ?_
    refine ev_bipush 108 dX10_letters_137 (by decide) ?_
    refine ev_bipush 100 dX10_letters_139 (by decide) ?_
    refine ev_iconst 0 dX10_letters_141 (by decide) ?_
    refine ev_iconst 0 dX10_letters_142 (by decide) ?_
    refine ev_iconst 0 dX10_letters_143 (by decide) ?_
    obtain ⟨r13, S14, e15, hB⟩ := bd_of hB
    refine es_callSl (As := [.int 104, .int 101, .int 108, .int 100, .int 0, .int 0, .int 0]) (t_X10_spelled e15) dX10_letters_144 oX10_spelled w_1777 rfl (Nat.le_of_ble_eq_true rfl) rfl (am_fit.of (by decide)) ⟨Nat.zero_le _, Nat.zero_le _⟩ ?_
    obtain rfl := Option.some.inj hB
    exact ev_lret dX10_letters_147 rfl (Nat.zero_le _) (Nat.zero_le _) (fun z => absurd z (hp_sealed _)) ⟨rfl, rfl⟩
  rw [if_neg q16] at hB
  have tq16 := am_nt (k := 3) q16 (by decide)
  by_cases q20 : l0 = 4
  · rw [if_pos q20] at hB
    refine ev_tableIn (off := 147) 148 dX10_letters_1 (by rw [q20]; decide) (by rw [q20]; decide) (by rw [q20]; rfl) (by decide) ?_
    refine ev_bipush 104 dX10_letters_148 (by decide) ?_
    refine ev_bipush 101 dX10_letters_150 (by decide) ?_
    refine ev_bipush 97 dX10_letters_152 (by decide) ?_
    refine ev_bipush 114 dX10_letters_154 (by decide) ?_
    refine ev_bipush 100 dX10_letters_156 (by decide) ?_
    refine ev_iconst 0 dX10_letters_158 (by decide) ?_
    refine ev_iconst 0 dX10_letters_159 (by decide) ?_
    obtain ⟨r17, S18, e19, hB⟩ := bd_of hB
    refine es_callSl (As := [.int 104, .int 101, .int 97, .int 114, .int 100, .int 0, .int 0]) (t_X10_spelled e19) dX10_letters_160 oX10_spelled w_1777 rfl (Nat.le_of_ble_eq_true rfl) rfl (am_fit.of (by decide)) ⟨Nat.zero_le _, Nat.zero_le _⟩ ?_
    obtain rfl := Option.some.inj hB
    exact ev_lret dX10_letters_163 rfl (Nat.zero_le _) (Nat.zero_le _) (fun z => absurd z (hp_sealed _)) ⟨rfl, rfl⟩
  rw [if_neg q20] at hB
  have tq20 := am_nt (k := 4) q20 (by decide)
  by_cases q24 : l0 = 5
  · rw [if_pos q24] at hB
    refine ev_tableIn (off := 163) 164 dX10_letters_1 (by rw [q24]; decide) (by rw [q24]; decide) (by rw [q24]; rfl) (by decide) ?_
    refine ev_bipush 100 dX10_letters_164 (by decide) ?_
    refine ev_bipush 97 dX10_letters_166 (by decide) ?_
    refine ev_bipush 121 dX10_letters_168 (by decide) ?_
    refine ev_iconst 0 dX10_letters_170 (by decide) ?_
    refine ev_iconst 0 dX10_letters_171 (by decide) ?_
    refine ev_iconst 0 dX10_letters_172 (by decide) ?_
    refine ev_iconst 0 dX10_letters_173 (by decide) ?_
    obtain ⟨r21, S22, e23, hB⟩ := bd_of hB
    refine es_callSl (As := [.int 100, .int 97, .int 121, .int 0, .int 0, .int 0, .int 0]) (t_X10_spelled e23) dX10_letters_174 oX10_spelled w_1777 rfl (Nat.le_of_ble_eq_true rfl) rfl (am_fit.of (by decide)) ⟨Nat.zero_le _, Nat.zero_le _⟩ ?_
    obtain rfl := Option.some.inj hB
    exact ev_lret dX10_letters_177 rfl (Nat.zero_le _) (Nat.zero_le _) (fun z => absurd z (hp_sealed _)) ⟨rfl, rfl⟩
  rw [if_neg q24] at hB
  have tq24 := am_nt (k := 5) q24 (by decide)
  by_cases q28 : l0 = 6
  · rw [if_pos q28] at hB
    refine ev_tableIn (off := 177) 178 dX10_letters_1 (by rw [q28]; decide) (by rw [q28]; decide) (by rw [q28]; rfl) (by decide) ?_
    refine ev_bipush 109 dX10_letters_178 (by decide) ?_
    refine ev_bipush 117 dX10_letters_180 (by decide) ?_
    refine ev_bipush 99 dX10_letters_182 (by decide) ?_
    refine ev_bipush 104 dX10_letters_184 (by decide) ?_
    refine ev_iconst 0 dX10_letters_186 (by decide) ?_
    refine ev_iconst 0 dX10_letters_187 (by decide) ?_
    refine ev_iconst 0 dX10_letters_188 (by decide) ?_
    obtain ⟨r25, S26, e27, hB⟩ := bd_of hB
    refine es_callSl (As := [.int 109, .int 117, .int 99, .int 104, .int 0, .int 0, .int 0]) (t_X10_spelled e27) dX10_letters_189 oX10_spelled w_1777 rfl (Nat.le_of_ble_eq_true rfl) rfl (am_fit.of (by decide)) ⟨Nat.zero_le _, Nat.zero_le _⟩ ?_
    obtain rfl := Option.some.inj hB
    exact ev_lret dX10_letters_192 rfl (Nat.zero_le _) (Nat.zero_le _) (fun z => absurd z (hp_sealed _)) ⟨rfl, rfl⟩
  rw [if_neg q28] at hB
  have tq28 := am_nt (k := 6) q28 (by decide)
  by_cases q32 : l0 = 7
  · rw [if_pos q32] at hB
    refine ev_tableIn (off := 192) 193 dX10_letters_1 (by rw [q32]; decide) (by rw [q32]; decide) (by rw [q32]; rfl) (by decide) ?_
    refine ev_bipush 102 dX10_letters_193 (by decide) ?_
    refine ev_bipush 97 dX10_letters_195 (by decide) ?_
    refine ev_bipush 114 dX10_letters_197 (by decide) ?_
    refine ev_iconst 0 dX10_letters_199 (by decide) ?_
    refine ev_iconst 0 dX10_letters_200 (by decide) ?_
    refine ev_iconst 0 dX10_letters_201 (by decide) ?_
    refine ev_iconst 0 dX10_letters_202 (by decide) ?_
    obtain ⟨r29, S30, e31, hB⟩ := bd_of hB
    refine es_callSl (As := [.int 102, .int 97, .int 114, .int 0, .int 0, .int 0, .int 0]) (t_X10_spelled e31) dX10_letters_203 oX10_spelled w_1777 rfl (Nat.le_of_ble_eq_true rfl) rfl (am_fit.of (by decide)) ⟨Nat.zero_le _, Nat.zero_le _⟩ ?_
    obtain rfl := Option.some.inj hB
    exact ev_lret dX10_letters_206 rfl (Nat.zero_le _) (Nat.zero_le _) (fun z => absurd z (hp_sealed _)) ⟨rfl, rfl⟩
  rw [if_neg q32] at hB
  have tq32 := am_nt (k := 7) q32 (by decide)
  by_cases q36 : l0 = 8
  · rw [if_pos q36] at hB
    refine ev_tableIn (off := 206) 207 dX10_letters_1 (by rw [q36]; decide) (by rw [q36]; decide) (by rw [q36]; rfl) (by decide) ?_
    refine ev_bipush 119 dX10_letters_207 (by decide) ?_
    refine ev_bipush 101 dX10_letters_209 (by decide) ?_
    refine ev_bipush 116 dX10_letters_211 (by decide) ?_
    refine ev_iconst 0 dX10_letters_213 (by decide) ?_
    refine ev_iconst 0 dX10_letters_214 (by decide) ?_
    refine ev_iconst 0 dX10_letters_215 (by decide) ?_
    refine ev_iconst 0 dX10_letters_216 (by decide) ?_
    obtain ⟨r33, S34, e35, hB⟩ := bd_of hB
    refine es_callSl (As := [.int 119, .int 101, .int 116, .int 0, .int 0, .int 0, .int 0]) (t_X10_spelled e35) dX10_letters_217 oX10_spelled w_1777 rfl (Nat.le_of_ble_eq_true rfl) rfl (am_fit.of (by decide)) ⟨Nat.zero_le _, Nat.zero_le _⟩ ?_
    obtain rfl := Option.some.inj hB
    exact ev_lret dX10_letters_220 rfl (Nat.zero_le _) (Nat.zero_le _) (fun z => absurd z (hp_sealed _)) ⟨rfl, rfl⟩
  rw [if_neg q36] at hB
  have tq36 := am_nt (k := 8) q36 (by decide)
  by_cases q40 : l0 = 9
  · rw [if_pos q40] at hB
    refine ev_tableIn (off := 220) 221 dX10_letters_1 (by rw [q40]; decide) (by rw [q40]; decide) (by rw [q40]; rfl) (by decide) ?_
    refine ev_bipush 98 dX10_letters_221 (by decide) ?_
    refine ev_bipush 111 dX10_letters_223 (by decide) ?_
    refine ev_bipush 120 dX10_letters_225 (by decide) ?_
    refine ev_iconst 0 dX10_letters_227 (by decide) ?_
    refine ev_iconst 0 dX10_letters_228 (by decide) ?_
    refine ev_iconst 0 dX10_letters_229 (by decide) ?_
    refine ev_iconst 0 dX10_letters_230 (by decide) ?_
    obtain ⟨r37, S38, e39, hB⟩ := bd_of hB
    refine es_callSl (As := [.int 98, .int 111, .int 120, .int 0, .int 0, .int 0, .int 0]) (t_X10_spelled e39) dX10_letters_231 oX10_spelled w_1777 rfl (Nat.le_of_ble_eq_true rfl) rfl (am_fit.of (by decide)) ⟨Nat.zero_le _, Nat.zero_le _⟩ ?_
    obtain rfl := Option.some.inj hB
    exact ev_lret dX10_letters_234 rfl (Nat.zero_le _) (Nat.zero_le _) (fun z => absurd z (hp_sealed _)) ⟨rfl, rfl⟩
  rw [if_neg q40] at hB
  have tq40 := am_nt (k := 9) q40 (by decide)
  by_cases q44 : l0 = 10
  · rw [if_pos q44] at hB
    refine ev_tableIn (off := 234) 235 dX10_letters_1 (by rw [q44]; decide) (by rw [q44]; decide) (by rw [q44]; rfl) (by decide) ?_
    refine ev_bipush 112 dX10_letters_235 (by decide) ?_
    refine ev_bipush 101 dX10_letters_237 (by decide) ?_
    refine ev_bipush 114 dX10_letters_239 (by decide) ?_
    refine ev_bipush 115 dX10_letters_241 (by decide) ?_
    refine ev_bipush 111 dX10_letters_243 (by decide) ?_
    refine ev_bipush 110 dX10_letters_245 (by decide) ?_
    refine ev_iconst 0 dX10_letters_247 (by decide) ?_
    obtain ⟨r41, S42, e43, hB⟩ := bd_of hB
    refine es_callSl (As := [.int 112, .int 101, .int 114, .int 115, .int 111, .int 110, .int 0]) (t_X10_spelled e43) dX10_letters_248 oX10_spelled w_1777 rfl (Nat.le_of_ble_eq_true rfl) rfl (am_fit.of (by decide)) ⟨Nat.zero_le _, Nat.zero_le _⟩ ?_
    obtain rfl := Option.some.inj hB
    exact ev_lret dX10_letters_251 rfl (Nat.zero_le _) (Nat.zero_le _) (fun z => absurd z (hp_sealed _)) ⟨rfl, rfl⟩
  rw [if_neg q44] at hB
  have tq44 := am_nt (k := 10) q44 (by decide)
  by_cases q48 : l0 = 11
  · rw [if_pos q48] at hB
    refine ev_tableIn (off := 251) 252 dX10_letters_1 (by rw [q48]; decide) (by rw [q48]; decide) (by rw [q48]; rfl) (by decide) ?_
    refine ev_bipush 97 dX10_letters_252 (by decide) ?_
    refine ev_bipush 116 dX10_letters_254 (by decide) ?_
    refine ev_iconst 0 dX10_letters_256 (by decide) ?_
    refine ev_iconst 0 dX10_letters_257 (by decide) ?_
    refine ev_iconst 0 dX10_letters_258 (by decide) ?_
    refine ev_iconst 0 dX10_letters_259 (by decide) ?_
    refine ev_iconst 0 dX10_letters_260 (by decide) ?_
    obtain ⟨r45, S46, e47, hB⟩ := bd_of hB
    refine es_callSl (As := [.int 97, .int 116, .int 0, .int 0, .int 0, .int 0, .int 0]) (t_X10_spelled e47) dX10_letters_261 oX10_spelled w_1777 rfl (Nat.le_of_ble_eq_true rfl) rfl (am_fit.of (by decide)) ⟨Nat.zero_le _, Nat.zero_le _⟩ ?_
    obtain rfl := Option.some.inj hB
    exact ev_lret dX10_letters_264 rfl (Nat.zero_le _) (Nat.zero_le _) (fun z => absurd z (hp_sealed _)) ⟨rfl, rfl⟩
  rw [if_neg q48] at hB
  have tq48 := am_nt (k := 11) q48 (by decide)
  by_cases q52 : l0 = 12
  · rw [if_pos q52] at hB
    refine ev_tableIn (off := 264) 265 dX10_letters_1 (by rw [q52]; decide) (by rw [q52]; decide) (by rw [q52]; rfl) (by decide) ?_
    refine ev_bipush 114 dX10_letters_265 (by decide) ?_
    refine ev_bipush 111 dX10_letters_267 (by decide) ?_
    refine ev_bipush 117 dX10_letters_269 (by decide) ?_
    refine ev_bipush 110 dX10_letters_271 (by decide) ?_
    refine ev_bipush 100 dX10_letters_273 (by decide) ?_
    refine ev_iconst 0 dX10_letters_275 (by decide) ?_
    refine ev_iconst 0 dX10_letters_276 (by decide) ?_
    obtain ⟨r49, S50, e51, hB⟩ := bd_of hB
    refine es_callSl (As := [.int 114, .int 111, .int 117, .int 110, .int 100, .int 0, .int 0]) (t_X10_spelled e51) dX10_letters_277 oX10_spelled w_1777 rfl (Nat.le_of_ble_eq_true rfl) rfl (am_fit.of (by decide)) ⟨Nat.zero_le _, Nat.zero_le _⟩ ?_
    obtain rfl := Option.some.inj hB
    exact ev_lret dX10_letters_280 rfl (Nat.zero_le _) (Nat.zero_le _) (fun z => absurd z (hp_sealed _)) ⟨rfl, rfl⟩
  rw [if_neg q52] at hB
  have tq52 := am_nt (k := 12) q52 (by decide)
  by_cases q56 : l0 = 13
  · rw [if_pos q56] at hB
    refine ev_tableIn (off := 280) 281 dX10_letters_1 (by rw [q56]; decide) (by rw [q56]; decide) (by rw [q56]; rfl) (by decide) ?_
    refine ev_bipush 116 dX10_letters_281 (by decide) ?_
    refine ev_bipush 104 dX10_letters_283 (by decide) ?_
    refine ev_bipush 105 dX10_letters_285 (by decide) ?_
    refine ev_bipush 110 dX10_letters_287 (by decide) ?_
    refine ev_bipush 107 dX10_letters_289 (by decide) ?_
    refine ev_bipush 115 dX10_letters_291 (by decide) ?_
    refine ev_iconst 0 dX10_letters_293 (by decide) ?_
    obtain ⟨r53, S54, e55, hB⟩ := bd_of hB
    refine es_callSl (As := [.int 116, .int 104, .int 105, .int 110, .int 107, .int 115, .int 0]) (t_X10_spelled e55) dX10_letters_294 oX10_spelled w_1777 rfl (Nat.le_of_ble_eq_true rfl) rfl (am_fit.of (by decide)) ⟨Nat.zero_le _, Nat.zero_le _⟩ ?_
    obtain rfl := Option.some.inj hB
    exact ev_lret dX10_letters_297 rfl (Nat.zero_le _) (Nat.zero_le _) (fun z => absurd z (hp_sealed _)) ⟨rfl, rfl⟩
  rw [if_neg q56] at hB
  have tq56 := am_nt (k := 13) q56 (by decide)
  by_cases q60 : l0 = 14
  · rw [if_pos q60] at hB
    refine ev_tableIn (off := 297) 298 dX10_letters_1 (by rw [q60]; decide) (by rw [q60]; decide) (by rw [q60]; rfl) (by decide) ?_
    refine ev_bipush 115 dX10_letters_298 (by decide) ?_
    refine ev_bipush 111 dX10_letters_300 (by decide) ?_
    refine ev_bipush 117 dX10_letters_302 (by decide) ?_
    refine ev_bipush 110 dX10_letters_304 (by decide) ?_
    refine ev_bipush 100 dX10_letters_306 (by decide) ?_
    refine ev_bipush 115 dX10_letters_308 (by decide) ?_
    refine ev_iconst 0 dX10_letters_310 (by decide) ?_
    obtain ⟨r57, S58, e59, hB⟩ := bd_of hB
    refine es_callSl (As := [.int 115, .int 111, .int 117, .int 110, .int 100, .int 115, .int 0]) (t_X10_spelled e59) dX10_letters_311 oX10_spelled w_1777 rfl (Nat.le_of_ble_eq_true rfl) rfl (am_fit.of (by decide)) ⟨Nat.zero_le _, Nat.zero_le _⟩ ?_
    obtain rfl := Option.some.inj hB
    exact ev_lret dX10_letters_314 rfl (Nat.zero_le _) (Nat.zero_le _) (fun z => absurd z (hp_sealed _)) ⟨rfl, rfl⟩
  rw [if_neg q60] at hB
  have tq60 := am_nt (k := 14) q60 (by decide)
  by_cases q64 : l0 = 15
  · rw [if_pos q64] at hB
    refine ev_tableIn (off := 314) 315 dX10_letters_1 (by rw [q64]; decide) (by rw [q64]; decide) (by rw [q64]; rfl) (by decide) ?_
    refine ev_bipush 97 dX10_letters_315 (by decide) ?_
    refine ev_bipush 110 dX10_letters_317 (by decide) ?_
    refine ev_bipush 100 dX10_letters_319 (by decide) ?_
    refine ev_iconst 0 dX10_letters_321 (by decide) ?_
    refine ev_iconst 0 dX10_letters_322 (by decide) ?_
    refine ev_iconst 0 dX10_letters_323 (by decide) ?_
    refine ev_iconst 0 dX10_letters_324 (by decide) ?_
    obtain ⟨r61, S62, e63, hB⟩ := bd_of hB
    refine es_callSl (As := [.int 97, .int 110, .int 100, .int 0, .int 0, .int 0, .int 0]) (t_X10_spelled e63) dX10_letters_325 oX10_spelled w_1777 rfl (Nat.le_of_ble_eq_true rfl) rfl (am_fit.of (by decide)) ⟨Nat.zero_le _, Nat.zero_le _⟩ ?_
    obtain rfl := Option.some.inj hB
    exact ev_lret dX10_letters_328 rfl (Nat.zero_le _) (Nat.zero_le _) (fun z => absurd z (hp_sealed _)) ⟨rfl, rfl⟩
  rw [if_neg q64] at hB
  have tq64 := am_nt (k := 15) q64 (by decide)
  by_cases q68 : l0 = 16
  · rw [if_pos q68] at hB
    refine ev_tableIn (off := 328) 329 dX10_letters_1 (by rw [q68]; decide) (by rw [q68]; decide) (by rw [q68]; rfl) (by decide) ?_
    refine ev_bipush 111 dX10_letters_329 (by decide) ?_
    refine ev_bipush 114 dX10_letters_331 (by decide) ?_
    refine ev_iconst 0 dX10_letters_333 (by decide) ?_
    refine ev_iconst 0 dX10_letters_334 (by decide) ?_
    refine ev_iconst 0 dX10_letters_335 (by decide) ?_
    refine ev_iconst 0 dX10_letters_336 (by decide) ?_
    refine ev_iconst 0 dX10_letters_337 (by decide) ?_
    obtain ⟨r65, S66, e67, hB⟩ := bd_of hB
    refine es_callSl (As := [.int 111, .int 114, .int 0, .int 0, .int 0, .int 0, .int 0]) (t_X10_spelled e67) dX10_letters_338 oX10_spelled w_1777 rfl (Nat.le_of_ble_eq_true rfl) rfl (am_fit.of (by decide)) ⟨Nat.zero_le _, Nat.zero_le _⟩ ?_
    obtain rfl := Option.some.inj hB
    exact ev_lret dX10_letters_341 rfl (Nat.zero_le _) (Nat.zero_le _) (fun z => absurd z (hp_sealed _)) ⟨rfl, rfl⟩
  rw [if_neg q68] at hB
  have tq68 := am_nt (k := 16) q68 (by decide)
  refine ev_tableOut 342 dX10_letters_1 (by omega) (by decide) ?_
  refine ev_bipush 110 dX10_letters_342 (by decide) ?_
  refine ev_bipush 111 dX10_letters_344 (by decide) ?_
  refine ev_bipush 116 dX10_letters_346 (by decide) ?_
  refine ev_iconst 0 dX10_letters_348 (by decide) ?_
  refine ev_iconst 0 dX10_letters_349 (by decide) ?_
  refine ev_iconst 0 dX10_letters_350 (by decide) ?_
  refine ev_iconst 0 dX10_letters_351 (by decide) ?_
  obtain ⟨r69, S70, e71, hB⟩ := bd_of hB
  refine es_callSl (As := [.int 110, .int 111, .int 116, .int 0, .int 0, .int 0, .int 0]) (t_X10_spelled e71) dX10_letters_352 oX10_spelled w_1777 rfl (Nat.le_of_ble_eq_true rfl) rfl (am_fit.of (by decide)) ⟨Nat.zero_le _, Nat.zero_le _⟩ ?_
  obtain rfl := Option.some.inj hB
  exact ev_lret dX10_letters_355 rfl (Nat.zero_le _) (Nat.zero_le _) (fun z => absurd z (hp_sealed _)) ⟨rfl, rfl⟩
def b_X10_knownWord_17 (N : Nat)  (S : am_S) : Option (Int32 × am_S) := some ((-1), S)
def b_X10_knownWord_21 (N : Nat) : Nat → Nat → Int32 → am_S → Option (Int32 × am_S)
  | 0, _, _, _ => none
  | n + 1, l0, l1, S => (if 18 ≤ l1 then some ((-1), S) else (bd (f_X10_letters N l1 S) (fun r2 S3 => (if (lg_cmp r2 (lg S3 0)) = 0 then some (l1, S3) else b_X10_knownWord_21 N n l0 (l1 + 1) S3))))
def f_X10_knownWord (N : Nat) (l0 : Nat) (S : am_S) : Option (Int32 × am_S) := (if (sg S l0 20) = 1 then (if (sg S l0 22) ≤ 7 then b_X10_knownWord_21 N N l0 0 S else b_X10_knownWord_17 N S) else b_X10_knownWord_17 N S)
theorem u_X10_knownWord_17 {G : am_G} {N : Nat} {h0 : am_H} {out : Int32 × am_S}  (S : am_S) (hB : b_X10_knownWord_17 N  S = some out) : Ev G (am_R 3 0 0) (am_Φ G h0 0 0 (q_i out) q_n) mX10_knownWord 0 0 17 [none, none] [] (hp S) := by
  unfold b_X10_knownWord_17 at hB
  refine ev_iconst (-1) dX10_knownWord_17 (by decide) ?_
  obtain rfl := Option.some.inj hB
  exact ev_iret dX10_knownWord_18 rfl (Nat.zero_le _) (Nat.zero_le _) (fun z => absurd z (hp_sealed _)) ⟨rfl, rfl⟩
theorem u_X10_knownWord_21 {G : am_G} {N : Nat} {h0 : am_H} {out : Int32 × am_S} : ∀ (n : Nat) (l0 : Nat) (l1 : Int32) (S : am_S), isC 10 l0 = true → b_X10_knownWord_21 N n l0 l1 S = some out → Ev G (am_R 3 0 0) (am_Φ G h0 0 0 (q_i out) q_n) mX10_knownWord 0 0 21 [some (.ref l0), some (.int l1)] [] (hp S) := by
  intro n
  induction n with
  | zero =>
    intro l0 l1 S hl0 hB
    exact absurd (show none = some out from hB) (fun q => by cases q)
  | succ n ih =>
    intro l0 l1 S hl0 hB
    unfold b_X10_knownWord_21 at hB
    refine ev_iload_n dX10_knownWord_21 rfl ?_
    refine ev_bipush 18 dX10_knownWord_22 (by decide) ?_
    refine ev_icmpge 47 dX10_knownWord_24 (by decide) (fun q1 => ?_) (fun q1 => ?_)
    · rw [if_pos q1] at hB
      refine ev_iconst (-1) dX10_knownWord_47 (by decide) ?_
      obtain rfl := Option.some.inj hB
      exact ev_iret dX10_knownWord_48 rfl (Nat.zero_le _) (Nat.zero_le _) (fun z => absurd z (hp_sealed _)) ⟨rfl, rfl⟩
    · rw [if_neg q1] at hB
      refine ev_iload_n dX10_knownWord_27 rfl ?_
      obtain ⟨r2, S3, e4, hB⟩ := bd_of hB
      refine es_callSl (As := [.int l1]) (t_X10_letters e4) dX10_knownWord_28 oX10_letters w_1774 rfl (Nat.le_of_ble_eq_true rfl) rfl (am_fit.of (by decide)) ⟨Nat.zero_le _, Nat.zero_le _⟩ ?_
      refine ev_aload_n dX10_knownWord_31 rfl ?_
      refine es_getl k_10 25 dX10_knownWord_32 (by decide) rfl (Or.inl w_1550) hl0 rfl ?_
      refine ev_lcmp dX10_knownWord_35 ?_
      refine ev_ifne 41 dX10_knownWord_36 (by decide) (fun q5 => ?_) (fun q5 => ?_)
      · rw [if_neg q5] at hB
        refine es_iinc 1 dX10_knownWord_41 rfl (by decide) (by decide) rfl ?_
        refine ev_goto 21 dX10_knownWord_44 (by decide) ?_
        exact ev_ls (ih l0 (l1 + 1) S3 hl0 hB) (And.intro rfl (And.intro rfl trivial))
      · rw [if_pos q5] at hB
        refine ev_iload_n dX10_knownWord_39 rfl ?_
        obtain rfl := Option.some.inj hB
        exact ev_iret dX10_knownWord_40 rfl (Nat.zero_le _) (Nat.zero_le _) (fun z => absurd z (hp_sealed _)) ⟨rfl, rfl⟩
theorem t_X10_knownWord {G : am_G} {N : Nat} {l0 : Nat} {S : am_S} {out : Int32 × am_S} (hl0 : isC 10 l0 = true) (hB : f_X10_knownWord N l0 S = some out) : am_Met G 3 mX10_knownWord 0 0 [.ref l0] (hp S) (q_i out) q_n := by
  refine am_of (by decide +kernel) rfl rfl rfl (Nat.le_of_ble_eq_true rfl) ?_
  unfold f_X10_knownWord at hB
  refine ev_aload_n dX10_knownWord_0 rfl ?_
  refine es_geti k_10 20 dX10_knownWord_1 (by decide) rfl (Or.inl w_1545) hl0 rfl ?_
  refine ev_iconst 1 dX10_knownWord_4 (by decide) ?_
  refine ev_icmpne 17 dX10_knownWord_5 (by decide) (fun q1 => ?_) (fun q1 => ?_)
  · rw [if_neg q1] at hB
    exact ev_ls (u_X10_knownWord_17 S hB) trivial
  · rw [if_pos q1] at hB
    refine ev_aload_n dX10_knownWord_8 rfl ?_
    refine es_geti k_10 22 dX10_knownWord_9 (by decide) rfl (Or.inl w_1547) hl0 rfl ?_
    refine ev_bipush 7 dX10_knownWord_12 (by decide) ?_
    refine ev_icmple 19 dX10_knownWord_14 (by decide) (fun q2 => ?_) (fun q2 => ?_)
    · rw [if_pos q2] at hB
      refine ev_iconst 0 dX10_knownWord_19 (by decide) ?_
      refine ev_istore_n dX10_knownWord_20 (by decide) rfl ?_
      exact ev_ls (u_X10_knownWord_21 N l0 0 S hl0 hB) (And.intro rfl (And.intro rfl trivial))
    · rw [if_neg q2] at hB
      exact ev_ls (u_X10_knownWord_17 S hB) trivial
def f_X10_wrong (N : Nat) (l0 : Nat) (l1 : Int32) (S : am_S) : Option (am_S) := (if (sg S l0 15) = 0 then some (sp (sp S l0 15 l1) l0 16 (sg (sp S l0 15 l1) l0 21)) else some S)
theorem t_X10_wrong {G : am_G} {N : Nat} {l0 : Nat} {l1 : Int32} {S : am_S} {out : am_S} (hl0 : isC 10 l0 = true) (hB : f_X10_wrong N l0 l1 S = some out) : am_Met G 1 mX10_wrong 0 0 [.ref l0, .int l1] (hp S) (q_v out) q_n := by
  refine am_of (by decide +kernel) rfl rfl rfl (Nat.le_of_ble_eq_true rfl) ?_
  unfold f_X10_wrong at hB
  refine ev_aload_n dX10_wrong_0 rfl ?_
  refine es_geti k_10 15 dX10_wrong_1 (by decide) rfl (Or.inl w_1540) hl0 rfl ?_
  refine ev_ifeq 8 dX10_wrong_4 (by decide) (fun q1 => ?_) (fun q1 => ?_)
  · rw [if_pos q1] at hB
    refine ev_aload_n dX10_wrong_8 rfl ?_
    refine ev_iload_n dX10_wrong_9 rfl ?_
    refine es_puti k_10 15 dX10_wrong_10 (by decide) rfl (Or.inl w_1540) rfl rfl hl0 rfl ?_
    refine ev_aload_n dX10_wrong_13 rfl ?_
    refine ev_aload_n dX10_wrong_14 rfl ?_
    refine es_geti k_10 21 dX10_wrong_15 (by decide) rfl (Or.inl w_1546) hl0 rfl ?_
    refine es_puti k_10 16 dX10_wrong_18 (by decide) rfl (Or.inl w_1541) rfl rfl hl0 rfl ?_
    obtain rfl := Option.some.inj hB
    exact ev_vret dX10_wrong_21 rfl (Nat.zero_le _) (Nat.zero_le _) (fun z => absurd z (hp_sealed _)) ⟨rfl, rfl⟩
  · rw [if_neg q1] at hB
    obtain rfl := Option.some.inj hB
    exact ev_vret dX10_wrong_7 rfl (Nat.zero_le _) (Nat.zero_le _) (fun z => absurd z (hp_sealed _)) ⟨rfl, rfl⟩
def b_X10_isGood_12 (N : Nat) (z0 : Int32) (S : am_S) : Option (Int32 × am_S) := (if isB z0 = true then some (z0, S) else none)
def f_X10_isGood (N : Nat) (l0 : Nat) (S : am_S) : Option (Int32 × am_S) := (if (sg S l0 15) = 0 then b_X10_isGood_12 N 1 S else b_X10_isGood_12 N 0 S)
theorem u_X10_isGood_12 {G : am_G} {N : Nat} {h0 : am_H} {out : Int32 × am_S} (z0 : Int32) (S : am_S) (hB : b_X10_isGood_12 N z0 S = some out) : Ev G (am_R 1 0 0) (am_Φ G h0 0 0 (q_i out) q_n) mX10_isGood 0 0 12 [none] [.int z0] (hp S) := by
  unfold b_X10_isGood_12 at hB
  obtain ⟨c1, hB⟩ := ck_of hB
  obtain rfl := Option.some.inj hB
  exact ev_zret dX10_isGood_12 rfl (isB_nar c1) (Nat.zero_le _) (Nat.zero_le _) (fun z => absurd z (hp_sealed _)) ⟨rfl, rfl⟩
theorem t_X10_isGood {G : am_G} {N : Nat} {l0 : Nat} {S : am_S} {out : Int32 × am_S} (hl0 : isC 10 l0 = true) (hB : f_X10_isGood N l0 S = some out) : am_Met G 1 mX10_isGood 0 0 [.ref l0] (hp S) (q_i out) q_n := by
  refine am_of (by decide +kernel) rfl rfl rfl (Nat.le_of_ble_eq_true rfl) ?_
  unfold f_X10_isGood at hB
  refine ev_aload_n dX10_isGood_0 rfl ?_
  refine es_geti k_10 15 dX10_isGood_1 (by decide) rfl (Or.inl w_1540) hl0 rfl ?_
  refine ev_ifne 11 dX10_isGood_4 (by decide) (fun q1 => ?_) (fun q1 => ?_)
  · rw [if_neg q1] at hB
    refine ev_iconst 0 dX10_isGood_11 (by decide) ?_
    exact ev_ls (u_X10_isGood_12 0 S hB) trivial
  · rw [if_pos q1] at hB
    refine ev_iconst 1 dX10_isGood_7 (by decide) ?_
    refine ev_goto 12 dX10_isGood_8 (by decide) ?_
    exact ev_ls (u_X10_isGood_12 1 S hB) trivial
def b_X10_isSign_21 (N : Nat) (z0 : Int32) (S : am_S) : Option (Int32 × am_S) := (if isB z0 = true then some (z0, S) else none)
def b_X10_isSign_20 (N : Nat)  (S : am_S) : Option (Int32 × am_S) := b_X10_isSign_21 N 0 S
def f_X10_isSign (N : Nat) (l0 : Nat) (l1 : Int32) (S : am_S) : Option (Int32 × am_S) := (if (sg S l0 20) = 3 then (if (sg S l0 24) = l1 then b_X10_isSign_21 N 1 S else b_X10_isSign_20 N S) else b_X10_isSign_20 N S)
theorem u_X10_isSign_21 {G : am_G} {N : Nat} {h0 : am_H} {out : Int32 × am_S} (z0 : Int32) (S : am_S) (hB : b_X10_isSign_21 N z0 S = some out) : Ev G (am_R 1 0 0) (am_Φ G h0 0 0 (q_i out) q_n) mX10_isSign 0 0 21 [none, none] [.int z0] (hp S) := by
  unfold b_X10_isSign_21 at hB
  obtain ⟨c1, hB⟩ := ck_of hB
  obtain rfl := Option.some.inj hB
  exact ev_zret dX10_isSign_21 rfl (isB_nar c1) (Nat.zero_le _) (Nat.zero_le _) (fun z => absurd z (hp_sealed _)) ⟨rfl, rfl⟩
theorem u_X10_isSign_20 {G : am_G} {N : Nat} {h0 : am_H} {out : Int32 × am_S}  (S : am_S) (hB : b_X10_isSign_20 N  S = some out) : Ev G (am_R 1 0 0) (am_Φ G h0 0 0 (q_i out) q_n) mX10_isSign 0 0 20 [none, none] [] (hp S) := by
  unfold b_X10_isSign_20 at hB
  refine ev_iconst 0 dX10_isSign_20 (by decide) ?_
  exact ev_ls (u_X10_isSign_21 0 S hB) trivial
theorem t_X10_isSign {G : am_G} {N : Nat} {l0 : Nat} {l1 : Int32} {S : am_S} {out : Int32 × am_S} (hl0 : isC 10 l0 = true) (hB : f_X10_isSign N l0 l1 S = some out) : am_Met G 1 mX10_isSign 0 0 [.ref l0, .int l1] (hp S) (q_i out) q_n := by
  refine am_of (by decide +kernel) rfl rfl rfl (Nat.le_of_ble_eq_true rfl) ?_
  unfold f_X10_isSign at hB
  refine ev_aload_n dX10_isSign_0 rfl ?_
  refine es_geti k_10 20 dX10_isSign_1 (by decide) rfl (Or.inl w_1545) hl0 rfl ?_
  refine ev_iconst 3 dX10_isSign_4 (by decide) ?_
  refine ev_icmpne 20 dX10_isSign_5 (by decide) (fun q1 => ?_) (fun q1 => ?_)
  · rw [if_neg q1] at hB
    exact ev_ls (u_X10_isSign_20 S hB) trivial
  · rw [if_pos q1] at hB
    refine ev_aload_n dX10_isSign_8 rfl ?_
    refine es_geti k_10 24 dX10_isSign_9 (by decide) rfl (Or.inl w_1549) hl0 rfl ?_
    refine ev_iload_n dX10_isSign_12 rfl ?_
    refine ev_icmpne 20 dX10_isSign_13 (by decide) (fun q2 => ?_) (fun q2 => ?_)
    · rw [if_neg q2] at hB
      exact ev_ls (u_X10_isSign_20 S hB) trivial
    · rw [if_pos q2] at hB
      refine ev_iconst 1 dX10_isSign_16 (by decide) ?_
      refine ev_goto 21 dX10_isSign_17 (by decide) ?_
      exact ev_ls (u_X10_isSign_21 1 S hB) trivial
def b_X10_need_24 (N : Nat)  (S : am_S) : Option (am_S) := some S
def f_X10_need (N : Nat) (l0 : Nat) (l1 : Int32) (S : am_S) : Option (am_S) := (bd (f_X10_isGood N l0 S) (fun r1 S2 => (if r1 = 0 then some S2 else (if l1 = 0 then (bv (f_X10_wrong N l0 1 S2) (fun S7 => b_X10_need_24 N S7)) else (bv (f_X10_goes N l0 S2) (fun S10 => b_X10_need_24 N S10))))))
theorem u_X10_need_24 {G : am_G} {N : Nat} {h0 : am_H} {out : am_S}  (S : am_S) (hB : b_X10_need_24 N  S = some out) : Ev G (am_R 3 0 0) (am_Φ G h0 0 0 (q_v out) q_n) mX10_need 0 0 24 [none, none] [] (hp S) := by
  unfold b_X10_need_24 at hB
  obtain rfl := Option.some.inj hB
  exact ev_vret dX10_need_24 rfl (Nat.zero_le _) (Nat.zero_le _) (fun z => absurd z (hp_sealed _)) ⟨rfl, rfl⟩
theorem t_X10_need {G : am_G} {N : Nat} {l0 : Nat} {l1 : Int32} {S : am_S} {out : am_S} (hl0 : isC 10 l0 = true) (hB : f_X10_need N l0 l1 S = some out) : am_Met G 3 mX10_need 0 0 [.ref l0, .int l1] (hp S) (q_v out) q_n := by
  refine am_of (by decide +kernel) rfl rfl rfl (Nat.le_of_ble_eq_true rfl) ?_
  unfold f_X10_need at hB
  refine ev_aload_n dX10_need_0 rfl ?_
  obtain ⟨r1, S2, e3, hB⟩ := bd_of hB
  refine es_callVi (As := []) (t_X10_isGood hl0 e3) dX10_need_1 oX10_isGood w_1762 rfl hl0 rfl rfl (Nat.le_of_ble_eq_true rfl) rfl (am_fit.of (by decide)) ⟨Nat.zero_le _, Nat.zero_le _⟩ ?_
  refine ev_ifne 8 dX10_need_4 (by decide) (fun q4 => ?_) (fun q4 => ?_)
  · rw [if_neg q4] at hB
    refine ev_iload_n dX10_need_8 rfl ?_
    refine ev_ifeq 19 dX10_need_9 (by decide) (fun q5 => ?_) (fun q5 => ?_)
    · rw [if_pos q5] at hB
      refine ev_aload_n dX10_need_19 rfl ?_
      refine ev_iconst 1 dX10_need_20 (by decide) ?_
      obtain ⟨S7, e8, hB⟩ := bv_of hB
      refine es_callVv (As := [.int 1]) (t_X10_wrong hl0 e8) dX10_need_21 oX10_wrong w_1785 rfl hl0 rfl rfl (Nat.le_of_ble_eq_true rfl) rfl (am_fit.of (by decide)) ⟨Nat.zero_le _, Nat.zero_le _⟩ ?_
      exact ev_ls (u_X10_need_24 S7 hB) trivial
    · rw [if_neg q5] at hB
      refine ev_aload_n dX10_need_12 rfl ?_
      obtain ⟨S10, e11, hB⟩ := bv_of hB
      refine es_callVv (As := []) (t_X10_goes hl0 e11) dX10_need_13 oX10_goes w_1748 rfl hl0 rfl rfl (Nat.le_of_ble_eq_true rfl) rfl (am_fit.of (by decide)) ⟨Nat.zero_le _, Nat.zero_le _⟩ ?_
      refine ev_goto 24 dX10_need_16 (by decide) ?_
      exact ev_ls (u_X10_need_24 S10 hB) trivial
  · rw [if_pos q4] at hB
    obtain rfl := Option.some.inj hB
    exact ev_vret dX10_need_7 rfl (Nat.zero_le _) (Nat.zero_le _) (fun z => absurd z (hp_sealed _)) ⟨rfl, rfl⟩
def b_X10_number_70 (N : Nat) (l3 : Int32) (S : am_S) : Option (Int32 × am_S) := some (l3, S)
def b_X10_number_54 (N : Nat) (l0 : Nat) (S : am_S) : Option (Int32 × am_S) := (bd (f_X10_isGood N l0 S) (fun r1 S2 => (if r1 = 0 then b_X10_number_70 N (sg S l0 23) S2 else (bv (f_X10_goes N l0 S2) (fun S6 => b_X10_number_70 N (sg S l0 23) S6)))))
def b_X10_number_49 (N : Nat) (l0 : Nat) (S : am_S) : Option (Int32 × am_S) := (bv (f_X10_wrong N l0 2 S) (fun S2 => b_X10_number_54 N l0 S2))
def f_X10_number (N : Nat) (l0 : Nat) (l1 : Int32) (l2 : Int32) (S : am_S) : Option (Int32 × am_S) := (bd (f_X10_isGood N l0 S) (fun r1 S2 => (if r1 = 0 then some (0, S2) else (if (sg S2 l0 20) = 2 then (if 4 < (sg S2 l0 22) then b_X10_number_49 N l0 S2 else (if (sg S2 l0 23) < l1 then b_X10_number_49 N l0 S2 else (if (sg S2 l0 23) ≤ l2 then b_X10_number_54 N l0 S2 else b_X10_number_49 N l0 S2))) else (bv (f_X10_wrong N l0 1 S2) (fun S10 => b_X10_number_54 N l0 S10))))))
theorem u_X10_number_70 {G : am_G} {N : Nat} {h0 : am_H} {out : Int32 × am_S} (l3 : Int32) (S : am_S) (hB : b_X10_number_70 N l3 S = some out) : Ev G (am_R 3 0 0) (am_Φ G h0 0 0 (q_i out) q_n) mX10_number 0 0 70 [none, none, none, some (.int l3)] [] (hp S) := by
  unfold b_X10_number_70 at hB
  refine ev_iload_n dX10_number_70 rfl ?_
  obtain rfl := Option.some.inj hB
  exact ev_iret dX10_number_71 rfl (Nat.zero_le _) (Nat.zero_le _) (fun z => absurd z (hp_sealed _)) ⟨rfl, rfl⟩
theorem u_X10_number_54 {G : am_G} {N : Nat} {h0 : am_H} {out : Int32 × am_S} (l0 : Nat) (S : am_S) (hl0 : isC 10 l0 = true) (hB : b_X10_number_54 N l0 S = some out) : Ev G (am_R 3 0 0) (am_Φ G h0 0 0 (q_i out) q_n) mX10_number 0 0 54 [some (.ref l0), none, none, none] [] (hp S) := by
  unfold b_X10_number_54 at hB
  refine ev_aload_n dX10_number_54 rfl ?_
  refine es_geti k_10 23 dX10_number_55 (by decide) rfl (Or.inl w_1548) hl0 rfl ?_
  refine ev_istore_n dX10_number_58 (by decide) rfl ?_
  refine ev_aload_n dX10_number_59 rfl ?_
  obtain ⟨r1, S2, e3, hB⟩ := bd_of hB
  refine es_callVi (As := []) (t_X10_isGood hl0 e3) dX10_number_60 oX10_isGood w_1762 rfl hl0 rfl rfl (Nat.le_of_ble_eq_true rfl) rfl (am_fit.of (by decide)) ⟨Nat.zero_le _, Nat.zero_le _⟩ ?_
  refine ev_ifeq 70 dX10_number_63 (by decide) (fun q4 => ?_) (fun q4 => ?_)
  · rw [if_pos q4] at hB
    exact ev_ls (u_X10_number_70 (sg S l0 23) S2 hB) (And.intro rfl trivial)
  · rw [if_neg q4] at hB
    refine ev_aload_n dX10_number_66 rfl ?_
    obtain ⟨S6, e7, hB⟩ := bv_of hB
    refine es_callVv (As := []) (t_X10_goes hl0 e7) dX10_number_67 oX10_goes w_1748 rfl hl0 rfl rfl (Nat.le_of_ble_eq_true rfl) rfl (am_fit.of (by decide)) ⟨Nat.zero_le _, Nat.zero_le _⟩ ?_
    exact ev_ls (u_X10_number_70 (sg S l0 23) S6 hB) (And.intro rfl trivial)
theorem u_X10_number_49 {G : am_G} {N : Nat} {h0 : am_H} {out : Int32 × am_S} (l0 : Nat) (S : am_S) (hl0 : isC 10 l0 = true) (hB : b_X10_number_49 N l0 S = some out) : Ev G (am_R 3 0 0) (am_Φ G h0 0 0 (q_i out) q_n) mX10_number 0 0 49 [some (.ref l0), none, none, none] [] (hp S) := by
  unfold b_X10_number_49 at hB
  refine ev_aload_n dX10_number_49 rfl ?_
  refine ev_iconst 2 dX10_number_50 (by decide) ?_
  obtain ⟨S2, e3, hB⟩ := bv_of hB
  refine es_callVv (As := [.int 2]) (t_X10_wrong hl0 e3) dX10_number_51 oX10_wrong w_1785 rfl hl0 rfl rfl (Nat.le_of_ble_eq_true rfl) rfl (am_fit.of (by decide)) ⟨Nat.zero_le _, Nat.zero_le _⟩ ?_
  exact ev_ls (u_X10_number_54 l0 S2 hl0 hB) (And.intro rfl trivial)
theorem t_X10_number {G : am_G} {N : Nat} {l0 : Nat} {l1 : Int32} {l2 : Int32} {S : am_S} {out : Int32 × am_S} (hl0 : isC 10 l0 = true) (hB : f_X10_number N l0 l1 l2 S = some out) : am_Met G 3 mX10_number 0 0 [.ref l0, .int l1, .int l2] (hp S) (q_i out) q_n := by
  refine am_of (by decide +kernel) rfl rfl rfl (Nat.le_of_ble_eq_true rfl) ?_
  unfold f_X10_number at hB
  refine ev_aload_n dX10_number_0 rfl ?_
  obtain ⟨r1, S2, e3, hB⟩ := bd_of hB
  refine es_callVi (As := []) (t_X10_isGood hl0 e3) dX10_number_1 oX10_isGood w_1762 rfl hl0 rfl rfl (Nat.le_of_ble_eq_true rfl) rfl (am_fit.of (by decide)) ⟨Nat.zero_le _, Nat.zero_le _⟩ ?_
  refine ev_ifne 9 dX10_number_4 (by decide) (fun q4 => ?_) (fun q4 => ?_)
  · rw [if_neg q4] at hB
    refine ev_aload_n dX10_number_9 rfl ?_
    refine es_geti k_10 20 dX10_number_10 (by decide) rfl (Or.inl w_1545) hl0 rfl ?_
    refine ev_iconst 2 dX10_number_13 (by decide) ?_
    refine ev_icmpeq 25 dX10_number_14 (by decide) (fun q5 => ?_) (fun q5 => ?_)
    · rw [if_pos q5] at hB
      refine ev_aload_n dX10_number_25 rfl ?_
      refine es_geti k_10 22 dX10_number_26 (by decide) rfl (Or.inl w_1547) hl0 rfl ?_
      refine ev_iconst 4 dX10_number_29 (by decide) ?_
      refine ev_icmpgt 49 dX10_number_30 (by decide) (fun q6 => ?_) (fun q6 => ?_)
      · rw [if_pos q6] at hB
        exact ev_ls (u_X10_number_49 l0 S2 hl0 hB) (And.intro rfl trivial)
      · rw [if_neg q6] at hB
        refine ev_aload_n dX10_number_33 rfl ?_
        refine es_geti k_10 23 dX10_number_34 (by decide) rfl (Or.inl w_1548) hl0 rfl ?_
        refine ev_iload_n dX10_number_37 rfl ?_
        refine ev_icmplt 49 dX10_number_38 (by decide) (fun q7 => ?_) (fun q7 => ?_)
        · rw [if_pos q7] at hB
          exact ev_ls (u_X10_number_49 l0 S2 hl0 hB) (And.intro rfl trivial)
        · rw [if_neg q7] at hB
          refine ev_aload_n dX10_number_41 rfl ?_
          refine es_geti k_10 23 dX10_number_42 (by decide) rfl (Or.inl w_1548) hl0 rfl ?_
          refine ev_iload_n dX10_number_45 rfl ?_
          refine ev_icmple 54 dX10_number_46 (by decide) (fun q8 => ?_) (fun q8 => ?_)
          · rw [if_pos q8] at hB
            exact ev_ls (u_X10_number_54 l0 S2 hl0 hB) (And.intro rfl trivial)
          · rw [if_neg q8] at hB
            exact ev_ls (u_X10_number_49 l0 S2 hl0 hB) (And.intro rfl trivial)
    · rw [if_neg q5] at hB
      refine ev_aload_n dX10_number_17 rfl ?_
      refine ev_iconst 1 dX10_number_18 (by decide) ?_
      obtain ⟨S10, e11, hB⟩ := bv_of hB
      refine es_callVv (As := [.int 1]) (t_X10_wrong hl0 e11) dX10_number_19 oX10_wrong w_1785 rfl hl0 rfl rfl (Nat.le_of_ble_eq_true rfl) rfl (am_fit.of (by decide)) ⟨Nat.zero_le _, Nat.zero_le _⟩ ?_
      refine ev_goto 54 dX10_number_22 (by decide) ?_
      exact ev_ls (u_X10_number_54 l0 S10 hl0 hB) (And.intro rfl trivial)
  · rw [if_pos q4] at hB
    refine ev_iconst 0 dX10_number_7 (by decide) ?_
    obtain rfl := Option.some.inj hB
    exact ev_iret dX10_number_8 rfl (Nat.zero_le _) (Nat.zero_le _) (fun z => absurd z (hp_sealed _)) ⟨rfl, rfl⟩
def f_X10_puts (N : Nat) (l0 : Nat) (l1 : Int32) (S : am_S) : Option (am_S) := (if inb (sg S l0 32) (ln (rf l0 43)) = true then some (sp (sp S (rf l0 43) (Int32.toNatClampNeg (sg S l0 32)) l1) l0 32 ((sg (sp S (rf l0 43) (Int32.toNatClampNeg (sg S l0 32)) l1) l0 32) + 1)) else none)
theorem t_X10_puts {G : am_G} {N : Nat} {l0 : Nat} {l1 : Int32} {S : am_S} {out : am_S} (hl0 : isC 10 l0 = true) (hB : f_X10_puts N l0 l1 S = some out) : am_Met G 1 mX10_puts 0 0 [.ref l0, .int l1] (hp S) (q_v out) q_n := by
  refine am_of (by decide +kernel) rfl rfl rfl (Nat.le_of_ble_eq_true rfl) ?_
  unfold f_X10_puts at hB
  refine ev_aload_n dX10_puts_0 rfl ?_
  refine es_getr k_10 43 dX10_puts_1 (by decide) rfl (Or.inl w_1568) hl0 rfl ?_
  refine ev_aload_n dX10_puts_4 rfl ?_
  refine es_geti k_10 32 dX10_puts_5 (by decide) rfl (Or.inl w_1557) hl0 rfl ?_
  refine ev_iload_n dX10_puts_8 rfl ?_
  obtain ⟨c1, hB⟩ := ck_of hB
  refine es_iast dX10_puts_9 (tr_10_43 hl0) c1 ?_
  refine ev_aload_n dX10_puts_10 rfl ?_
  refine ev_dup dX10_puts_11 rfl ?_
  refine es_geti k_10 32 dX10_puts_12 (by decide) rfl (Or.inl w_1557) hl0 rfl ?_
  refine ev_iconst 1 dX10_puts_15 (by decide) ?_
  refine ev_iadd dX10_puts_16 ?_
  refine es_puti k_10 32 dX10_puts_17 (by decide) rfl (Or.inl w_1557) rfl rfl hl0 rfl ?_
  obtain rfl := Option.some.inj hB
  exact ev_vret dX10_puts_20 rfl (Nat.zero_le _) (Nat.zero_le _) (fun z => absurd z (hp_sealed _)) ⟨rfl, rfl⟩
def b_X10_isOpen_11 (N : Nat) (z0 : Int32) (S : am_S) : Option (Int32 × am_S) := (if isB z0 = true then some (z0, S) else none)
def f_X10_isOpen (N : Nat) (l0 : Int32) (S : am_S) : Option (Int32 × am_S) := (if l0 < 14 then b_X10_isOpen_11 N 0 S else b_X10_isOpen_11 N 1 S)
theorem u_X10_isOpen_11 {G : am_G} {N : Nat} {h0 : am_H} {out : Int32 × am_S} (z0 : Int32) (S : am_S) (hB : b_X10_isOpen_11 N z0 S = some out) : Ev G (am_R 1 0 0) (am_Φ G h0 0 0 (q_i out) q_n) mX10_isOpen 0 0 11 [none] [.int z0] (hp S) := by
  unfold b_X10_isOpen_11 at hB
  obtain ⟨c1, hB⟩ := ck_of hB
  obtain rfl := Option.some.inj hB
  exact ev_zret dX10_isOpen_11 rfl (isB_nar c1) (Nat.zero_le _) (Nat.zero_le _) (fun z => absurd z (hp_sealed _)) ⟨rfl, rfl⟩
theorem t_X10_isOpen {G : am_G} {N : Nat} {l0 : Int32} {S : am_S} {out : Int32 × am_S} (hB : f_X10_isOpen N l0 S = some out) : am_Met G 1 mX10_isOpen 0 0 [.int l0] (hp S) (q_i out) q_n := by
  refine am_of (by decide +kernel) rfl rfl rfl (Nat.le_of_ble_eq_true rfl) ?_
  unfold f_X10_isOpen at hB
  refine ev_iload_n dX10_isOpen_0 rfl ?_
  refine ev_bipush 14 dX10_isOpen_1 (by decide) ?_
  refine ev_icmplt 10 dX10_isOpen_3 (by decide) (fun q1 => ?_) (fun q1 => ?_)
  · rw [if_pos q1] at hB
    refine ev_iconst 0 dX10_isOpen_10 (by decide) ?_
    exact ev_ls (u_X10_isOpen_11 0 S hB) trivial
  · rw [if_neg q1] at hB
    refine ev_iconst 1 dX10_isOpen_6 (by decide) ?_
    refine ev_goto 11 dX10_isOpen_7 (by decide) ?_
    exact ev_ls (u_X10_isOpen_11 1 S hB) trivial
def b_X10_strength_61 (N : Nat) (z0 : Int32) (S : am_S) : Option (Int32 × am_S) := some (z0, S)
def b_X10_strength_39 (N : Nat)  (S : am_S) : Option (Int32 × am_S) := b_X10_strength_61 N 4 S
def b_X10_strength_55 (N : Nat)  (S : am_S) : Option (Int32 × am_S) := b_X10_strength_61 N 5 S
def f_X10_strength (N : Nat) (l0 : Int32) (S : am_S) : Option (Int32 × am_S) := (if l0 = 5 then b_X10_strength_61 N 1 S else (if l0 = 4 then b_X10_strength_61 N 2 S else (if l0 = 3 then b_X10_strength_61 N 3 S else (if l0 = 6 then b_X10_strength_39 N S else (if l0 = 7 then b_X10_strength_39 N S else (if l0 = 8 then b_X10_strength_55 N S else (if l0 = 9 then b_X10_strength_55 N S else b_X10_strength_61 N 6 S)))))))
theorem u_X10_strength_61 {G : am_G} {N : Nat} {h0 : am_H} {out : Int32 × am_S} (z0 : Int32) (S : am_S) (hB : b_X10_strength_61 N z0 S = some out) : Ev G (am_R 1 0 0) (am_Φ G h0 0 0 (q_i out) q_n) mX10_strength 0 0 61 [none] [.int z0] (hp S) := by
  unfold b_X10_strength_61 at hB
  obtain rfl := Option.some.inj hB
  exact ev_iret dX10_strength_61 rfl (Nat.zero_le _) (Nat.zero_le _) (fun z => absurd z (hp_sealed _)) ⟨rfl, rfl⟩
theorem u_X10_strength_39 {G : am_G} {N : Nat} {h0 : am_H} {out : Int32 × am_S}  (S : am_S) (hB : b_X10_strength_39 N  S = some out) : Ev G (am_R 1 0 0) (am_Φ G h0 0 0 (q_i out) q_n) mX10_strength 0 0 39 [none] [] (hp S) := by
  unfold b_X10_strength_39 at hB
  refine ev_iconst 4 dX10_strength_39 (by decide) ?_
  refine ev_goto 61 dX10_strength_40 (by decide) ?_
  exact ev_ls (u_X10_strength_61 4 S hB) trivial
theorem u_X10_strength_55 {G : am_G} {N : Nat} {h0 : am_H} {out : Int32 × am_S}  (S : am_S) (hB : b_X10_strength_55 N  S = some out) : Ev G (am_R 1 0 0) (am_Φ G h0 0 0 (q_i out) q_n) mX10_strength 0 0 55 [none] [] (hp S) := by
  unfold b_X10_strength_55 at hB
  refine ev_iconst 5 dX10_strength_55 (by decide) ?_
  refine ev_goto 61 dX10_strength_56 (by decide) ?_
  exact ev_ls (u_X10_strength_61 5 S hB) trivial
theorem t_X10_strength {G : am_G} {N : Nat} {l0 : Int32} {S : am_S} {out : Int32 × am_S} (hB : f_X10_strength N l0 S = some out) : am_Met G 1 mX10_strength 0 0 [.int l0] (hp S) (q_i out) q_n := by
  refine am_of (by decide +kernel) rfl rfl rfl (Nat.le_of_ble_eq_true rfl) ?_
  unfold f_X10_strength at hB
  refine ev_iload_n dX10_strength_0 rfl ?_
  refine ev_iconst 5 dX10_strength_1 (by decide) ?_
  refine ev_icmpne 9 dX10_strength_2 (by decide) (fun q1 => ?_) (fun q1 => ?_)
  · rw [if_neg q1] at hB
    refine ev_iload_n dX10_strength_9 rfl ?_
    refine ev_iconst 4 dX10_strength_10 (by decide) ?_
    refine ev_icmpne 18 dX10_strength_11 (by decide) (fun q2 => ?_) (fun q2 => ?_)
    · rw [if_neg q2] at hB
      refine ev_iload_n dX10_strength_18 rfl ?_
      refine ev_iconst 3 dX10_strength_19 (by decide) ?_
      refine ev_icmpne 27 dX10_strength_20 (by decide) (fun q3 => ?_) (fun q3 => ?_)
      · rw [if_neg q3] at hB
        refine ev_iload_n dX10_strength_27 rfl ?_
        refine ev_bipush 6 dX10_strength_28 (by decide) ?_
        refine ev_icmpeq 39 dX10_strength_30 (by decide) (fun q4 => ?_) (fun q4 => ?_)
        · rw [if_pos q4] at hB
          exact ev_ls (u_X10_strength_39 S hB) trivial
        · rw [if_neg q4] at hB
          refine ev_iload_n dX10_strength_33 rfl ?_
          refine ev_bipush 7 dX10_strength_34 (by decide) ?_
          refine ev_icmpne 43 dX10_strength_36 (by decide) (fun q5 => ?_) (fun q5 => ?_)
          · rw [if_neg q5] at hB
            refine ev_iload_n dX10_strength_43 rfl ?_
            refine ev_bipush 8 dX10_strength_44 (by decide) ?_
            refine ev_icmpeq 55 dX10_strength_46 (by decide) (fun q6 => ?_) (fun q6 => ?_)
            · rw [if_pos q6] at hB
              exact ev_ls (u_X10_strength_55 S hB) trivial
            · rw [if_neg q6] at hB
              refine ev_iload_n dX10_strength_49 rfl ?_
              refine ev_bipush 9 dX10_strength_50 (by decide) ?_
              refine ev_icmpne 59 dX10_strength_52 (by decide) (fun q7 => ?_) (fun q7 => ?_)
              · rw [if_neg q7] at hB
                refine ev_bipush 6 dX10_strength_59 (by decide) ?_
                exact ev_ls (u_X10_strength_61 6 S hB) trivial
              · rw [if_pos q7] at hB
                exact ev_ls (u_X10_strength_55 S hB) trivial
          · rw [if_pos q5] at hB
            exact ev_ls (u_X10_strength_39 S hB) trivial
      · rw [if_pos q3] at hB
        refine ev_iconst 3 dX10_strength_23 (by decide) ?_
        refine ev_goto 61 dX10_strength_24 (by decide) ?_
        exact ev_ls (u_X10_strength_61 3 S hB) trivial
    · rw [if_pos q2] at hB
      refine ev_iconst 2 dX10_strength_14 (by decide) ?_
      refine ev_goto 61 dX10_strength_15 (by decide) ?_
      exact ev_ls (u_X10_strength_61 2 S hB) trivial
  · rw [if_pos q1] at hB
    refine ev_iconst 1 dX10_strength_5 (by decide) ?_
    refine ev_goto 61 dX10_strength_6 (by decide) ?_
    exact ev_ls (u_X10_strength_61 1 S hB) trivial
def b_X10_drops_68 (N : Nat)  (S : am_S) : Option (am_S) := some S
def b_X10_drops_0 (N : Nat) : Nat → Nat → Int32 → am_S → Option (am_S)
  | 0, _, _, _ => none
  | n + 1, l0, l1, S => (if (sg S l0 35) ≤ 0 then b_X10_drops_68 N S else (if inb ((sg S l0 35) - 1) (ln (rf l0 44)) = true then (bd (f_X10_isOpen N (sg S (rf l0 44) (Int32.toNatClampNeg ((sg S l0 35) - 1))) S) (fun r3 S4 => (if r3 = 0 then (if inb ((sg S4 l0 35) - 1) (ln (rf l0 44)) = true then (bd (f_X10_strength N (sg S4 (rf l0 44) (Int32.toNatClampNeg ((sg S4 l0 35) - 1))) S4) (fun r8 S9 => (if r8 < l1 then b_X10_drops_68 N S9 else (if inb (sg (sp S9 l0 35 ((sg S9 l0 35) - 1)) l0 35) (ln (rf l0 44)) = true then (bv (f_X10_puts N l0 (sg (sp S9 l0 35 ((sg S9 l0 35) - 1)) (rf l0 44) (Int32.toNatClampNeg (sg (sp S9 l0 35 ((sg S9 l0 35) - 1)) l0 35))) (sp S9 l0 35 ((sg S9 l0 35) - 1))) (fun S14 => b_X10_drops_0 N n l0 l1 S14)) else none)))) else none) else b_X10_drops_68 N S4))) else none))
def f_X10_drops (N : Nat) (l0 : Nat) (l1 : Int32) (S : am_S) : Option (am_S) := b_X10_drops_0 N N l0 l1 S
theorem u_X10_drops_68 {G : am_G} {N : Nat} {h0 : am_H} {out : am_S}  (S : am_S) (hB : b_X10_drops_68 N  S = some out) : Ev G (am_R 2 0 0) (am_Φ G h0 0 0 (q_v out) q_n) mX10_drops 0 0 68 [none, none] [] (hp S) := by
  unfold b_X10_drops_68 at hB
  obtain rfl := Option.some.inj hB
  exact ev_vret dX10_drops_68 rfl (Nat.zero_le _) (Nat.zero_le _) (fun z => absurd z (hp_sealed _)) ⟨rfl, rfl⟩
theorem u_X10_drops_0 {G : am_G} {N : Nat} {h0 : am_H} {out : am_S} : ∀ (n : Nat) (l0 : Nat) (l1 : Int32) (S : am_S), isC 10 l0 = true → b_X10_drops_0 N n l0 l1 S = some out → Ev G (am_R 2 0 0) (am_Φ G h0 0 0 (q_v out) q_n) mX10_drops 0 0 0 [some (.ref l0), some (.int l1)] [] (hp S) := by
  intro n
  induction n with
  | zero =>
    intro l0 l1 S hl0 hB
    exact absurd (show none = some out from hB) (fun q => by cases q)
  | succ n ih =>
    intro l0 l1 S hl0 hB
    unfold b_X10_drops_0 at hB
    refine ev_aload_n dX10_drops_0 rfl ?_
    refine es_geti k_10 35 dX10_drops_1 (by decide) rfl (Or.inl w_1560) hl0 rfl ?_
    refine ev_ifle 68 dX10_drops_4 (by decide) (fun q1 => ?_) (fun q1 => ?_)
    · rw [if_pos q1] at hB
      exact ev_ls (u_X10_drops_68 S hB) trivial
    · rw [if_neg q1] at hB
      refine ev_aload_n dX10_drops_7 rfl ?_
      refine es_getr k_10 44 dX10_drops_8 (by decide) rfl (Or.inl w_1569) hl0 rfl ?_
      refine ev_aload_n dX10_drops_11 rfl ?_
      refine es_geti k_10 35 dX10_drops_12 (by decide) rfl (Or.inl w_1560) hl0 rfl ?_
      refine ev_iconst 1 dX10_drops_15 (by decide) ?_
      refine ev_isub dX10_drops_16 ?_
      obtain ⟨c2, hB⟩ := ck_of hB
      refine es_iald dX10_drops_17 (tr_10_44 hl0) c2 ?_
      obtain ⟨r3, S4, e5, hB⟩ := bd_of hB
      refine es_callSi (As := [.int (sg S (rf l0 44) (Int32.toNatClampNeg ((sg S l0 35) - 1)))]) (t_X10_isOpen e5) dX10_drops_18 oX10_isOpen w_1841 rfl (Nat.le_of_ble_eq_true rfl) rfl (am_fit.of (by decide)) ⟨Nat.zero_le _, Nat.zero_le _⟩ ?_
      refine ev_ifne 68 dX10_drops_21 (by decide) (fun q6 => ?_) (fun q6 => ?_)
      · rw [if_neg q6] at hB
        exact ev_ls (u_X10_drops_68 S4 hB) trivial
      · rw [if_pos q6] at hB
        refine ev_aload_n dX10_drops_24 rfl ?_
        refine es_getr k_10 44 dX10_drops_25 (by decide) rfl (Or.inl w_1569) hl0 rfl ?_
        refine ev_aload_n dX10_drops_28 rfl ?_
        refine es_geti k_10 35 dX10_drops_29 (by decide) rfl (Or.inl w_1560) hl0 rfl ?_
        refine ev_iconst 1 dX10_drops_32 (by decide) ?_
        refine ev_isub dX10_drops_33 ?_
        obtain ⟨c7, hB⟩ := ck_of hB
        refine es_iald dX10_drops_34 (tr_10_44 hl0) c7 ?_
        obtain ⟨r8, S9, e10, hB⟩ := bd_of hB
        refine es_callSi (As := [.int (sg S4 (rf l0 44) (Int32.toNatClampNeg ((sg S4 l0 35) - 1)))]) (t_X10_strength e10) dX10_drops_35 oX10_strength w_1844 rfl (Nat.le_of_ble_eq_true rfl) rfl (am_fit.of (by decide)) ⟨Nat.zero_le _, Nat.zero_le _⟩ ?_
        refine ev_iload_n dX10_drops_38 rfl ?_
        refine ev_icmplt 68 dX10_drops_39 (by decide) (fun q11 => ?_) (fun q11 => ?_)
        · rw [if_pos q11] at hB
          exact ev_ls (u_X10_drops_68 S9 hB) trivial
        · rw [if_neg q11] at hB
          refine ev_aload_n dX10_drops_42 rfl ?_
          refine ev_dup dX10_drops_43 rfl ?_
          refine es_geti k_10 35 dX10_drops_44 (by decide) rfl (Or.inl w_1560) hl0 rfl ?_
          refine ev_iconst 1 dX10_drops_47 (by decide) ?_
          refine ev_isub dX10_drops_48 ?_
          refine es_puti k_10 35 dX10_drops_49 (by decide) rfl (Or.inl w_1560) rfl rfl hl0 rfl ?_
          refine ev_aload_n dX10_drops_52 rfl ?_
          refine ev_aload_n dX10_drops_53 rfl ?_
          refine es_getr k_10 44 dX10_drops_54 (by decide) rfl (Or.inl w_1569) hl0 rfl ?_
          refine ev_aload_n dX10_drops_57 rfl ?_
          refine es_geti k_10 35 dX10_drops_58 (by decide) rfl (Or.inl w_1560) hl0 rfl ?_
          obtain ⟨c12, hB⟩ := ck_of hB
          refine es_iald dX10_drops_61 (tr_10_44 hl0) c12 ?_
          obtain ⟨S14, e15, hB⟩ := bv_of hB
          refine es_callVv (As := [.int (sg (sp S9 l0 35 ((sg S9 l0 35) - 1)) (rf l0 44) (Int32.toNatClampNeg (sg (sp S9 l0 35 ((sg S9 l0 35) - 1)) l0 35)))]) (t_X10_puts hl0 e15) dX10_drops_62 oX10_puts w_1833 rfl hl0 rfl rfl (Nat.le_of_ble_eq_true rfl) rfl (am_fit.of (by decide)) ⟨Nat.zero_le _, Nat.zero_le _⟩ ?_
          refine ev_goto 0 dX10_drops_65 (by decide) ?_
          exact ev_ls (ih l0 l1 S14 hl0 hB) (And.intro rfl (And.intro rfl trivial))
theorem t_X10_drops {G : am_G} {N : Nat} {l0 : Nat} {l1 : Int32} {S : am_S} {out : am_S} (hl0 : isC 10 l0 = true) (hB : f_X10_drops N l0 l1 S = some out) : am_Met G 2 mX10_drops 0 0 [.ref l0, .int l1] (hp S) (q_v out) q_n := by
  refine am_of (by decide +kernel) rfl rfl rfl (Nat.le_of_ble_eq_true rfl) ?_
  unfold f_X10_drops at hB
  exact ev_ls (u_X10_drops_0 N l0 l1 S hl0 hB) (And.intro rfl (And.intro rfl trivial))
def f_X10_waitsFor (N : Nat) (l0 : Nat) (l1 : Int32) (S : am_S) : Option (am_S) := (if inb (sg S l0 35) (ln (rf l0 44)) = true then some (sp (sp S (rf l0 44) (Int32.toNatClampNeg (sg S l0 35)) l1) l0 35 ((sg (sp S (rf l0 44) (Int32.toNatClampNeg (sg S l0 35)) l1) l0 35) + 1)) else none)
theorem t_X10_waitsFor {G : am_G} {N : Nat} {l0 : Nat} {l1 : Int32} {S : am_S} {out : am_S} (hl0 : isC 10 l0 = true) (hB : f_X10_waitsFor N l0 l1 S = some out) : am_Met G 1 mX10_waitsFor 0 0 [.ref l0, .int l1] (hp S) (q_v out) q_n := by
  refine am_of (by decide +kernel) rfl rfl rfl (Nat.le_of_ble_eq_true rfl) ?_
  unfold f_X10_waitsFor at hB
  refine ev_aload_n dX10_waitsFor_0 rfl ?_
  refine es_getr k_10 44 dX10_waitsFor_1 (by decide) rfl (Or.inl w_1569) hl0 rfl ?_
  refine ev_aload_n dX10_waitsFor_4 rfl ?_
  refine es_geti k_10 35 dX10_waitsFor_5 (by decide) rfl (Or.inl w_1560) hl0 rfl ?_
  refine ev_iload_n dX10_waitsFor_8 rfl ?_
  obtain ⟨c1, hB⟩ := ck_of hB
  refine es_iast dX10_waitsFor_9 (tr_10_44 hl0) c1 ?_
  refine ev_aload_n dX10_waitsFor_10 rfl ?_
  refine ev_dup dX10_waitsFor_11 rfl ?_
  refine es_geti k_10 35 dX10_waitsFor_12 (by decide) rfl (Or.inl w_1560) hl0 rfl ?_
  refine ev_iconst 1 dX10_waitsFor_15 (by decide) ?_
  refine ev_iadd dX10_waitsFor_16 ?_
  refine es_puti k_10 35 dX10_waitsFor_17 (by decide) rfl (Or.inl w_1560) rfl rfl hl0 rfl ?_
  obtain rfl := Option.some.inj hB
  exact ev_vret dX10_waitsFor_20 rfl (Nat.zero_le _) (Nat.zero_le _) (fun z => absurd z (hp_sealed _)) ⟨rfl, rfl⟩
def b_X10_part_108 (N : Nat)  (S : am_S) : Option (am_S) := some S
def b_X10_part_97 (N : Nat) (l0 : Nat) (S : am_S) : Option (am_S) := (bd (f_X10_isGood N l0 S) (fun r1 S2 => (if r1 = 0 then b_X10_part_108 N S2 else (bv (f_X10_goes N l0 S2) (fun S6 => b_X10_part_108 N S6)))))
def b_X10_part_29 (N : Nat) (l0 : Nat) (S : am_S) : Option (am_S) := (bv (f_X10_puts N l0 1 S) (fun S2 => (bv (f_X10_puts N l0 (sg S2 l0 23) S2) (fun S5 => b_X10_part_97 N l0 S5))))
def b_X10_part_79 (N : Nat) (l0 : Nat) (l1 : Int32) (S : am_S) : Option (am_S) := (bv (f_X10_puts N l0 2 S) (fun S2 => (bv (f_X10_puts N l0 l1 S2) (fun S5 => b_X10_part_97 N l0 S5))))
def b_X10_part_74 (N : Nat) (l0 : Nat) (l1 : Int32) (S : am_S) : Option (am_S) := (bv (f_X10_wrong N l0 3 S) (fun S2 => b_X10_part_79 N l0 l1 S2))
def f_X10_part (N : Nat) (l0 : Nat) (S : am_S) : Option (am_S) := (bd (f_X10_isGood N l0 S) (fun r1 S2 => (if r1 = 0 then some S2 else (if (sg S2 l0 20) = 2 then (if (sg S2 l0 22) ≤ 4 then b_X10_part_29 N l0 S2 else (bv (f_X10_wrong N l0 2 S2) (fun S17 => b_X10_part_29 N l0 S17))) else (if (sg S2 l0 20) = 1 then (bd (f_X10_knownWord N l0 S2) (fun r10 S11 => (if r10 < (sg S11 l0 33) then b_X10_part_74 N l0 r10 S11 else (if r10 ≤ (sg S11 l0 34) then b_X10_part_79 N l0 r10 S11 else b_X10_part_74 N l0 r10 S11)))) else (bv (f_X10_wrong N l0 1 S2) (fun S8 => b_X10_part_97 N l0 S8)))))))
theorem u_X10_part_108 {G : am_G} {N : Nat} {h0 : am_H} {out : am_S}  (S : am_S) (hB : b_X10_part_108 N  S = some out) : Ev G (am_R 4 0 0) (am_Φ G h0 0 0 (q_v out) q_n) mX10_part 0 0 108 [none, none] [] (hp S) := by
  unfold b_X10_part_108 at hB
  obtain rfl := Option.some.inj hB
  exact ev_vret dX10_part_108 rfl (Nat.zero_le _) (Nat.zero_le _) (fun z => absurd z (hp_sealed _)) ⟨rfl, rfl⟩
theorem u_X10_part_97 {G : am_G} {N : Nat} {h0 : am_H} {out : am_S} (l0 : Nat) (S : am_S) (hl0 : isC 10 l0 = true) (hB : b_X10_part_97 N l0 S = some out) : Ev G (am_R 4 0 0) (am_Φ G h0 0 0 (q_v out) q_n) mX10_part 0 0 97 [some (.ref l0), none] [] (hp S) := by
  unfold b_X10_part_97 at hB
  refine ev_aload_n dX10_part_97 rfl ?_
  obtain ⟨r1, S2, e3, hB⟩ := bd_of hB
  refine es_callVi (As := []) (t_X10_isGood hl0 e3) dX10_part_98 oX10_isGood w_1762 rfl hl0 rfl rfl (Nat.le_of_ble_eq_true rfl) rfl (am_fit.of (by decide)) ⟨Nat.zero_le _, Nat.zero_le _⟩ ?_
  refine ev_ifeq 108 dX10_part_101 (by decide) (fun q4 => ?_) (fun q4 => ?_)
  · rw [if_pos q4] at hB
    exact ev_ls (u_X10_part_108 S2 hB) trivial
  · rw [if_neg q4] at hB
    refine ev_aload_n dX10_part_104 rfl ?_
    obtain ⟨S6, e7, hB⟩ := bv_of hB
    refine es_callVv (As := []) (t_X10_goes hl0 e7) dX10_part_105 oX10_goes w_1748 rfl hl0 rfl rfl (Nat.le_of_ble_eq_true rfl) rfl (am_fit.of (by decide)) ⟨Nat.zero_le _, Nat.zero_le _⟩ ?_
    exact ev_ls (u_X10_part_108 S6 hB) trivial
theorem u_X10_part_29 {G : am_G} {N : Nat} {h0 : am_H} {out : am_S} (l0 : Nat) (S : am_S) (hl0 : isC 10 l0 = true) (hB : b_X10_part_29 N l0 S = some out) : Ev G (am_R 4 0 0) (am_Φ G h0 0 0 (q_v out) q_n) mX10_part 0 0 29 [some (.ref l0), none] [] (hp S) := by
  unfold b_X10_part_29 at hB
  refine ev_aload_n dX10_part_29 rfl ?_
  refine ev_iconst 1 dX10_part_30 (by decide) ?_
  obtain ⟨S2, e3, hB⟩ := bv_of hB
  refine es_callVv (As := [.int 1]) (t_X10_puts hl0 e3) dX10_part_31 oX10_puts w_1833 rfl hl0 rfl rfl (Nat.le_of_ble_eq_true rfl) rfl (am_fit.of (by decide)) ⟨Nat.zero_le _, Nat.zero_le _⟩ ?_
  refine ev_aload_n dX10_part_34 rfl ?_
  refine ev_aload_n dX10_part_35 rfl ?_
  refine es_geti k_10 23 dX10_part_36 (by decide) rfl (Or.inl w_1548) hl0 rfl ?_
  obtain ⟨S5, e6, hB⟩ := bv_of hB
  refine es_callVv (As := [.int (sg S2 l0 23)]) (t_X10_puts hl0 e6) dX10_part_39 oX10_puts w_1833 rfl hl0 rfl rfl (Nat.le_of_ble_eq_true rfl) rfl (am_fit.of (by decide)) ⟨Nat.zero_le _, Nat.zero_le _⟩ ?_
  refine ev_goto 97 dX10_part_42 (by decide) ?_
  exact ev_ls (u_X10_part_97 l0 S5 hl0 hB) (And.intro rfl trivial)
theorem u_X10_part_79 {G : am_G} {N : Nat} {h0 : am_H} {out : am_S} (l0 : Nat) (l1 : Int32) (S : am_S) (hl0 : isC 10 l0 = true) (hB : b_X10_part_79 N l0 l1 S = some out) : Ev G (am_R 4 0 0) (am_Φ G h0 0 0 (q_v out) q_n) mX10_part 0 0 79 [some (.ref l0), some (.int l1)] [] (hp S) := by
  unfold b_X10_part_79 at hB
  refine ev_aload_n dX10_part_79 rfl ?_
  refine ev_iconst 2 dX10_part_80 (by decide) ?_
  obtain ⟨S2, e3, hB⟩ := bv_of hB
  refine es_callVv (As := [.int 2]) (t_X10_puts hl0 e3) dX10_part_81 oX10_puts w_1833 rfl hl0 rfl rfl (Nat.le_of_ble_eq_true rfl) rfl (am_fit.of (by decide)) ⟨Nat.zero_le _, Nat.zero_le _⟩ ?_
  refine ev_aload_n dX10_part_84 rfl ?_
  refine ev_iload_n dX10_part_85 rfl ?_
  obtain ⟨S5, e6, hB⟩ := bv_of hB
  refine es_callVv (As := [.int l1]) (t_X10_puts hl0 e6) dX10_part_86 oX10_puts w_1833 rfl hl0 rfl rfl (Nat.le_of_ble_eq_true rfl) rfl (am_fit.of (by decide)) ⟨Nat.zero_le _, Nat.zero_le _⟩ ?_
  refine ev_goto 97 dX10_part_89 (by decide) ?_
  exact ev_ls (u_X10_part_97 l0 S5 hl0 hB) (And.intro rfl trivial)
theorem u_X10_part_74 {G : am_G} {N : Nat} {h0 : am_H} {out : am_S} (l0 : Nat) (l1 : Int32) (S : am_S) (hl0 : isC 10 l0 = true) (hB : b_X10_part_74 N l0 l1 S = some out) : Ev G (am_R 4 0 0) (am_Φ G h0 0 0 (q_v out) q_n) mX10_part 0 0 74 [some (.ref l0), some (.int l1)] [] (hp S) := by
  unfold b_X10_part_74 at hB
  refine ev_aload_n dX10_part_74 rfl ?_
  refine ev_iconst 3 dX10_part_75 (by decide) ?_
  obtain ⟨S2, e3, hB⟩ := bv_of hB
  refine es_callVv (As := [.int 3]) (t_X10_wrong hl0 e3) dX10_part_76 oX10_wrong w_1785 rfl hl0 rfl rfl (Nat.le_of_ble_eq_true rfl) rfl (am_fit.of (by decide)) ⟨Nat.zero_le _, Nat.zero_le _⟩ ?_
  exact ev_ls (u_X10_part_79 l0 l1 S2 hl0 hB) (And.intro rfl (And.intro rfl trivial))
theorem t_X10_part {G : am_G} {N : Nat} {l0 : Nat} {S : am_S} {out : am_S} (hl0 : isC 10 l0 = true) (hB : f_X10_part N l0 S = some out) : am_Met G 4 mX10_part 0 0 [.ref l0] (hp S) (q_v out) q_n := by
  refine am_of (by decide +kernel) rfl rfl rfl (Nat.le_of_ble_eq_true rfl) ?_
  unfold f_X10_part at hB
  refine ev_aload_n dX10_part_0 rfl ?_
  obtain ⟨r1, S2, e3, hB⟩ := bd_of hB
  refine es_callVi (As := []) (t_X10_isGood hl0 e3) dX10_part_1 oX10_isGood w_1762 rfl hl0 rfl rfl (Nat.le_of_ble_eq_true rfl) rfl (am_fit.of (by decide)) ⟨Nat.zero_le _, Nat.zero_le _⟩ ?_
  refine ev_ifne 8 dX10_part_4 (by decide) (fun q4 => ?_) (fun q4 => ?_)
  · rw [if_neg q4] at hB
    refine ev_aload_n dX10_part_8 rfl ?_
    refine es_geti k_10 20 dX10_part_9 (by decide) rfl (Or.inl w_1545) hl0 rfl ?_
    refine ev_iconst 2 dX10_part_12 (by decide) ?_
    refine ev_icmpne 45 dX10_part_13 (by decide) (fun q5 => ?_) (fun q5 => ?_)
    · rw [if_neg q5] at hB
      refine ev_aload_n dX10_part_45 rfl ?_
      refine es_geti k_10 20 dX10_part_46 (by decide) rfl (Or.inl w_1545) hl0 rfl ?_
      refine ev_iconst 1 dX10_part_49 (by decide) ?_
      refine ev_icmpne 92 dX10_part_50 (by decide) (fun q6 => ?_) (fun q6 => ?_)
      · rw [if_neg q6] at hB
        refine ev_aload_n dX10_part_92 rfl ?_
        refine ev_iconst 1 dX10_part_93 (by decide) ?_
        obtain ⟨S8, e9, hB⟩ := bv_of hB
        refine es_callVv (As := [.int 1]) (t_X10_wrong hl0 e9) dX10_part_94 oX10_wrong w_1785 rfl hl0 rfl rfl (Nat.le_of_ble_eq_true rfl) rfl (am_fit.of (by decide)) ⟨Nat.zero_le _, Nat.zero_le _⟩ ?_
        exact ev_ls (u_X10_part_97 l0 S8 hl0 hB) (And.intro rfl trivial)
      · rw [if_pos q6] at hB
        refine ev_aload_n dX10_part_53 rfl ?_
        obtain ⟨r10, S11, e12, hB⟩ := bd_of hB
        refine es_callVi (As := []) (t_X10_knownWord hl0 e12) dX10_part_54 oX10_knownWord w_1770 rfl hl0 rfl rfl (Nat.le_of_ble_eq_true rfl) rfl (am_fit.of (by decide)) ⟨Nat.zero_le _, Nat.zero_le _⟩ ?_
        refine ev_istore_n dX10_part_57 (by decide) rfl ?_
        refine ev_iload_n dX10_part_58 rfl ?_
        refine ev_aload_n dX10_part_59 rfl ?_
        refine es_geti k_10 33 dX10_part_60 (by decide) rfl (Or.inl w_1558) hl0 rfl ?_
        refine ev_icmplt 74 dX10_part_63 (by decide) (fun q13 => ?_) (fun q13 => ?_)
        · rw [if_pos q13] at hB
          exact ev_ls (u_X10_part_74 l0 r10 S11 hl0 hB) (And.intro rfl (And.intro rfl trivial))
        · rw [if_neg q13] at hB
          refine ev_iload_n dX10_part_66 rfl ?_
          refine ev_aload_n dX10_part_67 rfl ?_
          refine es_geti k_10 34 dX10_part_68 (by decide) rfl (Or.inl w_1559) hl0 rfl ?_
          refine ev_icmple 79 dX10_part_71 (by decide) (fun q14 => ?_) (fun q14 => ?_)
          · rw [if_pos q14] at hB
            exact ev_ls (u_X10_part_79 l0 r10 S11 hl0 hB) (And.intro rfl (And.intro rfl trivial))
          · rw [if_neg q14] at hB
            exact ev_ls (u_X10_part_74 l0 r10 S11 hl0 hB) (And.intro rfl (And.intro rfl trivial))
    · rw [if_pos q5] at hB
      refine ev_aload_n dX10_part_16 rfl ?_
      refine es_geti k_10 22 dX10_part_17 (by decide) rfl (Or.inl w_1547) hl0 rfl ?_
      refine ev_iconst 4 dX10_part_20 (by decide) ?_
      refine ev_icmple 29 dX10_part_21 (by decide) (fun q15 => ?_) (fun q15 => ?_)
      · rw [if_pos q15] at hB
        exact ev_ls (u_X10_part_29 l0 S2 hl0 hB) (And.intro rfl trivial)
      · rw [if_neg q15] at hB
        refine ev_aload_n dX10_part_24 rfl ?_
        refine ev_iconst 2 dX10_part_25 (by decide) ?_
        obtain ⟨S17, e18, hB⟩ := bv_of hB
        refine es_callVv (As := [.int 2]) (t_X10_wrong hl0 e18) dX10_part_26 oX10_wrong w_1785 rfl hl0 rfl rfl (Nat.le_of_ble_eq_true rfl) rfl (am_fit.of (by decide)) ⟨Nat.zero_le _, Nat.zero_le _⟩ ?_
        exact ev_ls (u_X10_part_29 l0 S17 hl0 hB) (And.intro rfl trivial)
  · rw [if_pos q4] at hB
    obtain rfl := Option.some.inj hB
    exact ev_vret dX10_part_7 rfl (Nat.zero_le _) (Nat.zero_le _) (fun z => absurd z (hp_sealed _)) ⟨rfl, rfl⟩
def b_X10_deeper_61 (N : Nat) (z0 : Nat) (z1 : Int32) (S : am_S) : Option (am_S) := (bv (f_X10_wrong N z0 z1 S) (fun S2 => some S2))
def b_X10_deeper_56 (N : Nat) (z0 : Nat) (S : am_S) : Option (am_S) := b_X10_deeper_61 N z0 2 S
def f_X10_deeper (N : Nat) (l0 : Nat) (S : am_S) : Option (am_S) := (if 6 ≤ (sg S l0 36) then (if (sg S l0 20) = 2 then b_X10_deeper_56 N l0 S else (if (sg S l0 20) = 1 then b_X10_deeper_56 N l0 S else (bd (f_X10_isSign N l0 40 S) (fun r4 S5 => (if r4 = 0 then b_X10_deeper_61 N l0 1 S5 else b_X10_deeper_56 N l0 S5))))) else (if inb (sg (sp S l0 36 ((sg S l0 36) + 1)) l0 36) (ln (rf l0 45)) = true then some (sp (sp S l0 36 ((sg S l0 36) + 1)) (rf l0 45) (Int32.toNatClampNeg (sg (sp S l0 36 ((sg S l0 36) + 1)) l0 36)) (vp_nar .boolean 0)) else none))
theorem u_X10_deeper_61 {G : am_G} {N : Nat} {h0 : am_H} {out : am_S} (z0 : Nat) (z1 : Int32) (S : am_S) (hz0 : isC 10 z0 = true) (hB : b_X10_deeper_61 N z0 z1 S = some out) : Ev G (am_R 2 0 0) (am_Φ G h0 0 0 (q_v out) q_n) mX10_deeper 0 0 61 [none] [.int z1, .ref z0] (hp S) := by
  unfold b_X10_deeper_61 at hB
  obtain ⟨S2, e3, hB⟩ := bv_of hB
  refine es_callVv (As := [.int z1]) (t_X10_wrong hz0 e3) dX10_deeper_61 oX10_wrong w_1785 rfl hz0 rfl rfl (Nat.le_of_ble_eq_true rfl) rfl (am_fit.of (by decide)) ⟨Nat.zero_le _, Nat.zero_le _⟩ ?_
  obtain rfl := Option.some.inj hB
  exact ev_vret dX10_deeper_64 rfl (Nat.zero_le _) (Nat.zero_le _) (fun z => absurd z (hp_sealed _)) ⟨rfl, rfl⟩
theorem u_X10_deeper_56 {G : am_G} {N : Nat} {h0 : am_H} {out : am_S} (z0 : Nat) (S : am_S) (hz0 : isC 10 z0 = true) (hB : b_X10_deeper_56 N z0 S = some out) : Ev G (am_R 2 0 0) (am_Φ G h0 0 0 (q_v out) q_n) mX10_deeper 0 0 56 [none] [.ref z0] (hp S) := by
  unfold b_X10_deeper_56 at hB
  refine ev_iconst 2 dX10_deeper_56 (by decide) ?_
  refine ev_goto 61 dX10_deeper_57 (by decide) ?_
  exact ev_ls (u_X10_deeper_61 z0 2 S hz0 hB) trivial
theorem t_X10_deeper {G : am_G} {N : Nat} {l0 : Nat} {S : am_S} {out : am_S} (hl0 : isC 10 l0 = true) (hB : f_X10_deeper N l0 S = some out) : am_Met G 2 mX10_deeper 0 0 [.ref l0] (hp S) (q_v out) q_n := by
  refine am_of (by decide +kernel) rfl rfl rfl (Nat.le_of_ble_eq_true rfl) ?_
  unfold f_X10_deeper at hB
  refine ev_aload_n dX10_deeper_0 rfl ?_
  refine es_geti k_10 36 dX10_deeper_1 (by decide) rfl (Or.inl w_1561) hl0 rfl ?_
  refine ev_bipush 6 dX10_deeper_4 (by decide) ?_
  refine ev_icmpge 30 dX10_deeper_6 (by decide) (fun q1 => ?_) (fun q1 => ?_)
  · rw [if_pos q1] at hB
    refine ev_aload_n dX10_deeper_30 rfl ?_
    refine ev_aload_n dX10_deeper_31 rfl ?_
    refine es_geti k_10 20 dX10_deeper_32 (by decide) rfl (Or.inl w_1545) hl0 rfl ?_
    refine ev_iconst 2 dX10_deeper_35 (by decide) ?_
    refine ev_icmpeq 56 dX10_deeper_36 (by decide) (fun q2 => ?_) (fun q2 => ?_)
    · rw [if_pos q2] at hB
      exact ev_ls (u_X10_deeper_56 l0 S hl0 hB) trivial
    · rw [if_neg q2] at hB
      refine ev_aload_n dX10_deeper_39 rfl ?_
      refine es_geti k_10 20 dX10_deeper_40 (by decide) rfl (Or.inl w_1545) hl0 rfl ?_
      refine ev_iconst 1 dX10_deeper_43 (by decide) ?_
      refine ev_icmpeq 56 dX10_deeper_44 (by decide) (fun q3 => ?_) (fun q3 => ?_)
      · rw [if_pos q3] at hB
        exact ev_ls (u_X10_deeper_56 l0 S hl0 hB) trivial
      · rw [if_neg q3] at hB
        refine ev_aload_n dX10_deeper_47 rfl ?_
        refine ev_bipush 40 dX10_deeper_48 (by decide) ?_
        obtain ⟨r4, S5, e6, hB⟩ := bd_of hB
        refine es_callVi (As := [.int 40]) (t_X10_isSign hl0 e6) dX10_deeper_50 oX10_isSign w_1817 rfl hl0 rfl rfl (Nat.le_of_ble_eq_true rfl) rfl (am_fit.of (by decide)) ⟨Nat.zero_le _, Nat.zero_le _⟩ ?_
        refine ev_ifeq 60 dX10_deeper_53 (by decide) (fun q7 => ?_) (fun q7 => ?_)
        · rw [if_pos q7] at hB
          refine ev_iconst 1 dX10_deeper_60 (by decide) ?_
          exact ev_ls (u_X10_deeper_61 l0 1 S5 hl0 hB) trivial
        · rw [if_neg q7] at hB
          exact ev_ls (u_X10_deeper_56 l0 S5 hl0 hB) trivial
  · rw [if_neg q1] at hB
    refine ev_aload_n dX10_deeper_9 rfl ?_
    refine ev_dup dX10_deeper_10 rfl ?_
    refine es_geti k_10 36 dX10_deeper_11 (by decide) rfl (Or.inl w_1561) hl0 rfl ?_
    refine ev_iconst 1 dX10_deeper_14 (by decide) ?_
    refine ev_iadd dX10_deeper_15 ?_
    refine es_puti k_10 36 dX10_deeper_16 (by decide) rfl (Or.inl w_1561) rfl rfl hl0 rfl ?_
    refine ev_aload_n dX10_deeper_19 rfl ?_
    refine es_getr k_10 45 dX10_deeper_20 (by decide) rfl (Or.inl w_1570) hl0 rfl ?_
    refine ev_aload_n dX10_deeper_23 rfl ?_
    refine es_geti k_10 36 dX10_deeper_24 (by decide) rfl (Or.inl w_1561) hl0 rfl ?_
    refine ev_iconst 0 dX10_deeper_27 (by decide) ?_
    obtain ⟨c8, hB⟩ := ck_of hB
    refine es_zast dX10_deeper_28 (tr_10_45 hl0) c8 ?_
    obtain rfl := Option.some.inj hB
    exact ev_vret dX10_deeper_29 rfl (Nat.zero_le _) (Nat.zero_le _) (fun z => absurd z (hp_sealed _)) ⟨rfl, rfl⟩
def b_X10_operand_50 (N : Nat) (k4 : Nat → Int32 → Int32 → am_S → Option (am_S)) (k18 : Nat → Int32 → Int32 → am_S → Option (am_S)) (l0 : Nat) (l2 : Int32) (l4 : Int32) (S : am_S) : Option (am_S) := (bd (f_X10_isGood N l0 S) (fun r1 S2 => (if r1 = 0 then k18 l0 l2 (l4 + 1) S2 else (bv (f_X10_waitsFor N l0 3 S2) (fun S6 => (bv (f_X10_goes N l0 S6) (fun S9 => k18 l0 l2 (l4 + 1) S9)))))))
def b_X10_operand_117 (N : Nat) (k4 : Nat → Int32 → Int32 → am_S → Option (am_S)) (l0 : Nat) (l2 : Int32) (l3 : Int32) (S : am_S) : Option (am_S) := k4 l0 l2 l3 S
def b_X10_operand_96 (N : Nat) (k4 : Nat → Int32 → Int32 → am_S → Option (am_S)) (l0 : Nat) (l2 : Int32) (z0 : Int32) (S : am_S) : Option (am_S) := (if z0 = 0 then b_X10_operand_117 N (k4) l0 l2 z0 S else (bv (f_X10_waitsFor N l0 14 S) (fun S3 => (bv (f_X10_goes N l0 S3) (fun S6 => (bv (f_X10_deeper N l0 S6) (fun S9 => b_X10_operand_117 N (k4) l0 1 z0 S9)))))))
def b_X10_operand_95 (N : Nat) (k4 : Nat → Int32 → Int32 → am_S → Option (am_S)) (l0 : Nat) (l2 : Int32) (S : am_S) : Option (am_S) := b_X10_operand_96 N (k4) l0 l2 0 S
def b_X10_operand_75 (N : Nat) (k4 : Nat → Int32 → Int32 → am_S → Option (am_S)) (l0 : Nat) (l2 : Int32) (S : am_S) : Option (am_S) := (bd (f_X10_isGood N l0 S) (fun r1 S2 => (if r1 = 0 then b_X10_operand_95 N (k4) l0 l2 S2 else (bd (f_X10_isSign N l0 40 S2) (fun r5 S6 => (if r5 = 0 then b_X10_operand_95 N (k4) l0 l2 S6 else b_X10_operand_96 N (k4) l0 l2 1 S6))))))
def b_X10_operand_18 (N : Nat) (k4 : Nat → Int32 → Int32 → am_S → Option (am_S)) : Nat → Nat → Int32 → Int32 → am_S → Option (am_S)
  | 0, _, _, _, _ => none
  | n + 1, l0, l2, l4, S => (bd (f_X10_isGood N l0 S) (fun r1 S2 => (if r1 = 0 then b_X10_operand_75 N (k4) l0 l2 S2 else (if l2 = 0 then b_X10_operand_75 N (k4) l0 l2 S2 else (bd (f_X10_knownWord N l0 S2) (fun r6 S7 => (if r6 = 17 then (if l4 = 6 then (bv (f_X10_wrong N l0 2 S7) (fun S12 => b_X10_operand_50 N (k4) (b_X10_operand_18 N k4 n) l0 l2 l4 S12)) else b_X10_operand_50 N (k4) (b_X10_operand_18 N k4 n) l0 l2 l4 S7) else b_X10_operand_75 N (k4) l0 l2 S7)))))))
def b_X10_operand_120 (N : Nat) (l0 : Nat) (S : am_S) : Option (am_S) := (bv (f_X10_part N l0 S) (fun S2 => some S2))
def b_X10_operand_4 (N : Nat) : Nat → Nat → Int32 → Int32 → am_S → Option (am_S)
  | 0, _, _, _, _ => none
  | n + 1, l0, l2, l3, S => (if l3 = 0 then b_X10_operand_120 N l0 S else (bd (f_X10_isGood N l0 S) (fun r2 S3 => (if r2 = 0 then b_X10_operand_120 N l0 S3 else b_X10_operand_18 N (b_X10_operand_4 N n) N l0 l2 0 S3))))
def f_X10_operand (N : Nat) (l0 : Nat) (l1 : Int32) (S : am_S) : Option (am_S) := b_X10_operand_4 N N l0 l1 1 S
theorem u_X10_operand_50 {G : am_G} {N : Nat} {h0 : am_H} {out : am_S} {k4 : Nat → Int32 → Int32 → am_S → Option (am_S)} {k18 : Nat → Int32 → Int32 → am_S → Option (am_S)} (hk4 : ∀ (l0 : Nat) (l2 : Int32) (l3 : Int32) (S : am_S), isC 10 l0 = true → k4 l0 l2 l3 S = some out → Ev G (am_R 5 0 0) (am_Φ G h0 0 0 (q_v out) q_n) mX10_operand 0 0 4 [some (.ref l0), none, some (.int l2), some (.int l3), none] [] (hp S)) (hk18 : ∀ (l0 : Nat) (l2 : Int32) (l4 : Int32) (S : am_S), isC 10 l0 = true → k18 l0 l2 l4 S = some out → Ev G (am_R 5 0 0) (am_Φ G h0 0 0 (q_v out) q_n) mX10_operand 0 0 18 [some (.ref l0), none, some (.int l2), none, some (.int l4)] [] (hp S)) (l0 : Nat) (l2 : Int32) (l4 : Int32) (S : am_S) (hl0 : isC 10 l0 = true) (hB : b_X10_operand_50 N k4 k18 l0 l2 l4 S = some out) : Ev G (am_R 5 0 0) (am_Φ G h0 0 0 (q_v out) q_n) mX10_operand 0 0 50 [some (.ref l0), none, some (.int l2), none, some (.int l4)] [] (hp S) := by
  unfold b_X10_operand_50 at hB
  refine es_iinc 1 dX10_operand_50 rfl (by decide) (by decide) rfl ?_
  refine ev_aload_n dX10_operand_53 rfl ?_
  obtain ⟨r1, S2, e3, hB⟩ := bd_of hB
  refine es_callVi (As := []) (t_X10_isGood hl0 e3) dX10_operand_54 oX10_isGood w_1762 rfl hl0 rfl rfl (Nat.le_of_ble_eq_true rfl) rfl (am_fit.of (by decide)) ⟨Nat.zero_le _, Nat.zero_le _⟩ ?_
  refine ev_ifne 63 dX10_operand_57 (by decide) (fun q4 => ?_) (fun q4 => ?_)
  · rw [if_neg q4] at hB
    refine ev_aload_n dX10_operand_63 rfl ?_
    refine ev_iconst 3 dX10_operand_64 (by decide) ?_
    obtain ⟨S6, e7, hB⟩ := bv_of hB
    refine es_callVv (As := [.int 3]) (t_X10_waitsFor hl0 e7) dX10_operand_65 oX10_waitsFor w_1825 rfl hl0 rfl rfl (Nat.le_of_ble_eq_true rfl) rfl (am_fit.of (by decide)) ⟨Nat.zero_le _, Nat.zero_le _⟩ ?_
    refine ev_aload_n dX10_operand_68 rfl ?_
    obtain ⟨S9, e10, hB⟩ := bv_of hB
    refine es_callVv (As := []) (t_X10_goes hl0 e10) dX10_operand_69 oX10_goes w_1748 rfl hl0 rfl rfl (Nat.le_of_ble_eq_true rfl) rfl (am_fit.of (by decide)) ⟨Nat.zero_le _, Nat.zero_le _⟩ ?_
    refine ev_goto 18 dX10_operand_72 (by decide) ?_
    exact ev_ls (hk18 l0 l2 (l4 + 1) S9 hl0 hB) (And.intro rfl (And.intro rfl (And.intro rfl trivial)))
  · rw [if_pos q4] at hB
    refine ev_goto 18 dX10_operand_60 (by decide) ?_
    exact ev_ls (hk18 l0 l2 (l4 + 1) S2 hl0 hB) (And.intro rfl (And.intro rfl (And.intro rfl trivial)))
theorem u_X10_operand_117 {G : am_G} {N : Nat} {h0 : am_H} {out : am_S} {k4 : Nat → Int32 → Int32 → am_S → Option (am_S)} (hk4 : ∀ (l0 : Nat) (l2 : Int32) (l3 : Int32) (S : am_S), isC 10 l0 = true → k4 l0 l2 l3 S = some out → Ev G (am_R 5 0 0) (am_Φ G h0 0 0 (q_v out) q_n) mX10_operand 0 0 4 [some (.ref l0), none, some (.int l2), some (.int l3), none] [] (hp S)) (l0 : Nat) (l2 : Int32) (l3 : Int32) (S : am_S) (hl0 : isC 10 l0 = true) (hB : b_X10_operand_117 N k4 l0 l2 l3 S = some out) : Ev G (am_R 5 0 0) (am_Φ G h0 0 0 (q_v out) q_n) mX10_operand 0 0 117 [some (.ref l0), none, some (.int l2), some (.int l3), none] [] (hp S) := by
  unfold b_X10_operand_117 at hB
  refine ev_goto 4 dX10_operand_117 (by decide) ?_
  exact ev_ls (hk4 l0 l2 l3 S hl0 hB) (And.intro rfl (And.intro rfl (And.intro rfl trivial)))
theorem u_X10_operand_96 {G : am_G} {N : Nat} {h0 : am_H} {out : am_S} {k4 : Nat → Int32 → Int32 → am_S → Option (am_S)} (hk4 : ∀ (l0 : Nat) (l2 : Int32) (l3 : Int32) (S : am_S), isC 10 l0 = true → k4 l0 l2 l3 S = some out → Ev G (am_R 5 0 0) (am_Φ G h0 0 0 (q_v out) q_n) mX10_operand 0 0 4 [some (.ref l0), none, some (.int l2), some (.int l3), none] [] (hp S)) (l0 : Nat) (l2 : Int32) (z0 : Int32) (S : am_S) (hl0 : isC 10 l0 = true) (hB : b_X10_operand_96 N k4 l0 l2 z0 S = some out) : Ev G (am_R 5 0 0) (am_Φ G h0 0 0 (q_v out) q_n) mX10_operand 0 0 96 [some (.ref l0), none, some (.int l2), none, none] [.int z0] (hp S) := by
  unfold b_X10_operand_96 at hB
  refine ev_istore_n dX10_operand_96 (by decide) rfl ?_
  refine ev_iload_n dX10_operand_97 rfl ?_
  refine ev_ifeq 117 dX10_operand_98 (by decide) (fun q1 => ?_) (fun q1 => ?_)
  · rw [if_pos q1] at hB
    exact ev_ls (u_X10_operand_117 hk4 l0 l2 z0 S hl0 hB) (And.intro rfl (And.intro rfl (And.intro rfl trivial)))
  · rw [if_neg q1] at hB
    refine ev_aload_n dX10_operand_101 rfl ?_
    refine ev_bipush 14 dX10_operand_102 (by decide) ?_
    obtain ⟨S3, e4, hB⟩ := bv_of hB
    refine es_callVv (As := [.int 14]) (t_X10_waitsFor hl0 e4) dX10_operand_104 oX10_waitsFor w_1825 rfl hl0 rfl rfl (Nat.le_of_ble_eq_true rfl) rfl (am_fit.of (by decide)) ⟨Nat.zero_le _, Nat.zero_le _⟩ ?_
    refine ev_aload_n dX10_operand_107 rfl ?_
    obtain ⟨S6, e7, hB⟩ := bv_of hB
    refine es_callVv (As := []) (t_X10_goes hl0 e7) dX10_operand_108 oX10_goes w_1748 rfl hl0 rfl rfl (Nat.le_of_ble_eq_true rfl) rfl (am_fit.of (by decide)) ⟨Nat.zero_le _, Nat.zero_le _⟩ ?_
    refine ev_aload_n dX10_operand_111 rfl ?_
    obtain ⟨S9, e10, hB⟩ := bv_of hB
    refine es_callVv (As := []) (t_X10_deeper hl0 e10) dX10_operand_112 oX10_deeper w_1813 rfl hl0 rfl rfl (Nat.le_of_ble_eq_true rfl) rfl (am_fit.of (by decide)) ⟨Nat.zero_le _, Nat.zero_le _⟩ ?_
    refine ev_iconst 1 dX10_operand_115 (by decide) ?_
    refine ev_istore_n dX10_operand_116 (by decide) rfl ?_
    exact ev_ls (u_X10_operand_117 hk4 l0 1 z0 S9 hl0 hB) (And.intro rfl (And.intro rfl (And.intro rfl trivial)))
theorem u_X10_operand_95 {G : am_G} {N : Nat} {h0 : am_H} {out : am_S} {k4 : Nat → Int32 → Int32 → am_S → Option (am_S)} (hk4 : ∀ (l0 : Nat) (l2 : Int32) (l3 : Int32) (S : am_S), isC 10 l0 = true → k4 l0 l2 l3 S = some out → Ev G (am_R 5 0 0) (am_Φ G h0 0 0 (q_v out) q_n) mX10_operand 0 0 4 [some (.ref l0), none, some (.int l2), some (.int l3), none] [] (hp S)) (l0 : Nat) (l2 : Int32) (S : am_S) (hl0 : isC 10 l0 = true) (hB : b_X10_operand_95 N k4 l0 l2 S = some out) : Ev G (am_R 5 0 0) (am_Φ G h0 0 0 (q_v out) q_n) mX10_operand 0 0 95 [some (.ref l0), none, some (.int l2), none, none] [] (hp S) := by
  unfold b_X10_operand_95 at hB
  refine ev_iconst 0 dX10_operand_95 (by decide) ?_
  exact ev_ls (u_X10_operand_96 hk4 l0 l2 0 S hl0 hB) (And.intro rfl (And.intro rfl trivial))
theorem u_X10_operand_75 {G : am_G} {N : Nat} {h0 : am_H} {out : am_S} {k4 : Nat → Int32 → Int32 → am_S → Option (am_S)} (hk4 : ∀ (l0 : Nat) (l2 : Int32) (l3 : Int32) (S : am_S), isC 10 l0 = true → k4 l0 l2 l3 S = some out → Ev G (am_R 5 0 0) (am_Φ G h0 0 0 (q_v out) q_n) mX10_operand 0 0 4 [some (.ref l0), none, some (.int l2), some (.int l3), none] [] (hp S)) (l0 : Nat) (l2 : Int32) (S : am_S) (hl0 : isC 10 l0 = true) (hB : b_X10_operand_75 N k4 l0 l2 S = some out) : Ev G (am_R 5 0 0) (am_Φ G h0 0 0 (q_v out) q_n) mX10_operand 0 0 75 [some (.ref l0), none, some (.int l2), none, none] [] (hp S) := by
  unfold b_X10_operand_75 at hB
  refine ev_aload_n dX10_operand_75 rfl ?_
  obtain ⟨r1, S2, e3, hB⟩ := bd_of hB
  refine es_callVi (As := []) (t_X10_isGood hl0 e3) dX10_operand_76 oX10_isGood w_1762 rfl hl0 rfl rfl (Nat.le_of_ble_eq_true rfl) rfl (am_fit.of (by decide)) ⟨Nat.zero_le _, Nat.zero_le _⟩ ?_
  refine ev_ifeq 95 dX10_operand_79 (by decide) (fun q4 => ?_) (fun q4 => ?_)
  · rw [if_pos q4] at hB
    exact ev_ls (u_X10_operand_95 hk4 l0 l2 S2 hl0 hB) (And.intro rfl (And.intro rfl trivial))
  · rw [if_neg q4] at hB
    refine ev_aload_n dX10_operand_82 rfl ?_
    refine ev_bipush 40 dX10_operand_83 (by decide) ?_
    obtain ⟨r5, S6, e7, hB⟩ := bd_of hB
    refine es_callVi (As := [.int 40]) (t_X10_isSign hl0 e7) dX10_operand_85 oX10_isSign w_1817 rfl hl0 rfl rfl (Nat.le_of_ble_eq_true rfl) rfl (am_fit.of (by decide)) ⟨Nat.zero_le _, Nat.zero_le _⟩ ?_
    refine ev_ifeq 95 dX10_operand_88 (by decide) (fun q8 => ?_) (fun q8 => ?_)
    · rw [if_pos q8] at hB
      exact ev_ls (u_X10_operand_95 hk4 l0 l2 S6 hl0 hB) (And.intro rfl (And.intro rfl trivial))
    · rw [if_neg q8] at hB
      refine ev_iconst 1 dX10_operand_91 (by decide) ?_
      refine ev_goto 96 dX10_operand_92 (by decide) ?_
      exact ev_ls (u_X10_operand_96 hk4 l0 l2 1 S6 hl0 hB) (And.intro rfl (And.intro rfl trivial))
theorem u_X10_operand_18 {G : am_G} {N : Nat} {h0 : am_H} {out : am_S} {k4 : Nat → Int32 → Int32 → am_S → Option (am_S)} (hk4 : ∀ (l0 : Nat) (l2 : Int32) (l3 : Int32) (S : am_S), isC 10 l0 = true → k4 l0 l2 l3 S = some out → Ev G (am_R 5 0 0) (am_Φ G h0 0 0 (q_v out) q_n) mX10_operand 0 0 4 [some (.ref l0), none, some (.int l2), some (.int l3), none] [] (hp S)) : ∀ (n : Nat) (l0 : Nat) (l2 : Int32) (l4 : Int32) (S : am_S), isC 10 l0 = true → b_X10_operand_18 N k4 n l0 l2 l4 S = some out → Ev G (am_R 5 0 0) (am_Φ G h0 0 0 (q_v out) q_n) mX10_operand 0 0 18 [some (.ref l0), none, some (.int l2), none, some (.int l4)] [] (hp S) := by
  intro n
  induction n with
  | zero =>
    intro l0 l2 l4 S hl0 hB
    exact absurd (show none = some out from hB) (fun q => by cases q)
  | succ n ih =>
    intro l0 l2 l4 S hl0 hB
    unfold b_X10_operand_18 at hB
    refine ev_aload_n dX10_operand_18 rfl ?_
    obtain ⟨r1, S2, e3, hB⟩ := bd_of hB
    refine es_callVi (As := []) (t_X10_isGood hl0 e3) dX10_operand_19 oX10_isGood w_1762 rfl hl0 rfl rfl (Nat.le_of_ble_eq_true rfl) rfl (am_fit.of (by decide)) ⟨Nat.zero_le _, Nat.zero_le _⟩ ?_
    refine ev_ifeq 75 dX10_operand_22 (by decide) (fun q4 => ?_) (fun q4 => ?_)
    · rw [if_pos q4] at hB
      exact ev_ls (u_X10_operand_75 hk4 l0 l2 S2 hl0 hB) (And.intro rfl (And.intro rfl trivial))
    · rw [if_neg q4] at hB
      refine ev_iload_n dX10_operand_25 rfl ?_
      refine ev_ifeq 75 dX10_operand_26 (by decide) (fun q5 => ?_) (fun q5 => ?_)
      · rw [if_pos q5] at hB
        exact ev_ls (u_X10_operand_75 hk4 l0 l2 S2 hl0 hB) (And.intro rfl (And.intro rfl trivial))
      · rw [if_neg q5] at hB
        refine ev_aload_n dX10_operand_29 rfl ?_
        obtain ⟨r6, S7, e8, hB⟩ := bd_of hB
        refine es_callVi (As := []) (t_X10_knownWord hl0 e8) dX10_operand_30 oX10_knownWord w_1770 rfl hl0 rfl rfl (Nat.le_of_ble_eq_true rfl) rfl (am_fit.of (by decide)) ⟨Nat.zero_le _, Nat.zero_le _⟩ ?_
        refine ev_bipush 17 dX10_operand_33 (by decide) ?_
        refine ev_icmpne 75 dX10_operand_35 (by decide) (fun q9 => ?_) (fun q9 => ?_)
        · rw [if_neg q9] at hB
          exact ev_ls (u_X10_operand_75 hk4 l0 l2 S7 hl0 hB) (And.intro rfl (And.intro rfl trivial))
        · rw [if_pos q9] at hB
          refine ev_iload dX10_operand_38 rfl ?_
          refine ev_bipush 6 dX10_operand_40 (by decide) ?_
          refine ev_icmpne 50 dX10_operand_42 (by decide) (fun q10 => ?_) (fun q10 => ?_)
          · rw [if_neg q10] at hB
            exact ev_ls (u_X10_operand_50 hk4 ih l0 l2 l4 S7 hl0 hB) (And.intro rfl (And.intro rfl (And.intro rfl trivial)))
          · rw [if_pos q10] at hB
            refine ev_aload_n dX10_operand_45 rfl ?_
            refine ev_iconst 2 dX10_operand_46 (by decide) ?_
            obtain ⟨S12, e13, hB⟩ := bv_of hB
            refine es_callVv (As := [.int 2]) (t_X10_wrong hl0 e13) dX10_operand_47 oX10_wrong w_1785 rfl hl0 rfl rfl (Nat.le_of_ble_eq_true rfl) rfl (am_fit.of (by decide)) ⟨Nat.zero_le _, Nat.zero_le _⟩ ?_
            exact ev_ls (u_X10_operand_50 hk4 ih l0 l2 l4 S12 hl0 hB) (And.intro rfl (And.intro rfl (And.intro rfl trivial)))
theorem u_X10_operand_120 {G : am_G} {N : Nat} {h0 : am_H} {out : am_S} (l0 : Nat) (S : am_S) (hl0 : isC 10 l0 = true) (hB : b_X10_operand_120 N l0 S = some out) : Ev G (am_R 5 0 0) (am_Φ G h0 0 0 (q_v out) q_n) mX10_operand 0 0 120 [some (.ref l0), none, none, none, none] [] (hp S) := by
  unfold b_X10_operand_120 at hB
  refine ev_aload_n dX10_operand_120 rfl ?_
  obtain ⟨S2, e3, hB⟩ := bv_of hB
  refine es_callVv (As := []) (t_X10_part hl0 e3) dX10_operand_121 oX10_part w_1829 rfl hl0 rfl rfl (Nat.le_of_ble_eq_true rfl) rfl (am_fit.of (by decide)) ⟨Nat.zero_le _, Nat.zero_le _⟩ ?_
  obtain rfl := Option.some.inj hB
  exact ev_vret dX10_operand_124 rfl (Nat.zero_le _) (Nat.zero_le _) (fun z => absurd z (hp_sealed _)) ⟨rfl, rfl⟩
theorem u_X10_operand_4 {G : am_G} {N : Nat} {h0 : am_H} {out : am_S} : ∀ (n : Nat) (l0 : Nat) (l2 : Int32) (l3 : Int32) (S : am_S), isC 10 l0 = true → b_X10_operand_4 N n l0 l2 l3 S = some out → Ev G (am_R 5 0 0) (am_Φ G h0 0 0 (q_v out) q_n) mX10_operand 0 0 4 [some (.ref l0), none, some (.int l2), some (.int l3), none] [] (hp S) := by
  intro n
  induction n with
  | zero =>
    intro l0 l2 l3 S hl0 hB
    exact absurd (show none = some out from hB) (fun q => by cases q)
  | succ n ih =>
    intro l0 l2 l3 S hl0 hB
    unfold b_X10_operand_4 at hB
    refine ev_iload_n dX10_operand_4 rfl ?_
    refine ev_ifeq 120 dX10_operand_5 (by decide) (fun q1 => ?_) (fun q1 => ?_)
    · rw [if_pos q1] at hB
      exact ev_ls (u_X10_operand_120 l0 S hl0 hB) (And.intro rfl trivial)
    · rw [if_neg q1] at hB
      refine ev_aload_n dX10_operand_8 rfl ?_
      obtain ⟨r2, S3, e4, hB⟩ := bd_of hB
      refine es_callVi (As := []) (t_X10_isGood hl0 e4) dX10_operand_9 oX10_isGood w_1762 rfl hl0 rfl rfl (Nat.le_of_ble_eq_true rfl) rfl (am_fit.of (by decide)) ⟨Nat.zero_le _, Nat.zero_le _⟩ ?_
      refine ev_ifeq 120 dX10_operand_12 (by decide) (fun q5 => ?_) (fun q5 => ?_)
      · rw [if_pos q5] at hB
        exact ev_ls (u_X10_operand_120 l0 S3 hl0 hB) (And.intro rfl trivial)
      · rw [if_neg q5] at hB
        refine ev_iconst 0 dX10_operand_15 (by decide) ?_
        refine ev_istore dX10_operand_16 (by decide) rfl ?_
        exact ev_ls (u_X10_operand_18 ih N l0 l2 0 S3 hl0 hB) (And.intro rfl (And.intro rfl (And.intro rfl trivial)))
theorem t_X10_operand {G : am_G} {N : Nat} {l0 : Nat} {l1 : Int32} {S : am_S} {out : am_S} (hl0 : isC 10 l0 = true) (hB : f_X10_operand N l0 l1 S = some out) : am_Met G 5 mX10_operand 0 0 [.ref l0, .int l1] (hp S) (q_v out) q_n := by
  refine am_of (by decide +kernel) rfl rfl rfl (Nat.le_of_ble_eq_true rfl) ?_
  unfold f_X10_operand at hB
  refine ev_iload_n dX10_operand_0 rfl ?_
  refine ev_istore_n dX10_operand_1 (by decide) rfl ?_
  refine ev_iconst 1 dX10_operand_2 (by decide) ?_
  refine ev_istore_n dX10_operand_3 (by decide) rfl ?_
  exact ev_ls (u_X10_operand_4 N l0 l1 1 S hl0 hB) (And.intro rfl (And.intro rfl (And.intro rfl trivial)))
