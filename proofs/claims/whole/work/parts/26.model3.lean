def b_X10_daysGo_2 (N : Nat) : Nat → Nat → Int32 → Int32 → am_S → Option (am_S)
  | 0, _, _, _, _ => none
  | n + 1, l0, l1, l2, S => (if l1 ≤ l2 then some S else (bv (f_X10_dayGoes N l0 80 S) (fun S3 => b_X10_daysGo_2 N n l0 l1 (l2 + 1) S3)))
def f_X10_daysGo (N : Nat) (l0 : Nat) (l1 : Int32) (S : am_S) : Option (am_S) := b_X10_daysGo_2 N N l0 l1 0 S
theorem u_X10_daysGo_2 {G : am_G} {N : Nat} {h0 : am_H} {out : am_S} : ∀ (n : Nat) (l0 : Nat) (l1 : Int32) (l2 : Int32) (S : am_S), isC 10 l0 = true → b_X10_daysGo_2 N n l0 l1 l2 S = some out → Ev G (am_R 6 0 0) (am_Φ G h0 0 0 (q_v out) q_n) mX10_daysGo 0 0 2 [some (.ref l0), some (.int l1), some (.int l2)] [] (hp S) := by
  intro n
  induction n with
  | zero =>
    intro l0 l1 l2 S hl0 hB
    exact absurd (show none = some out from hB) (fun q => by cases q)
  | succ n ih =>
    intro l0 l1 l2 S hl0 hB
    unfold b_X10_daysGo_2 at hB
    refine ev_iload_n dX10_daysGo_2 rfl ?_
    refine ev_iload_n dX10_daysGo_3 rfl ?_
    refine ev_icmpge 19 dX10_daysGo_4 (by decide) (fun q1 => ?_) (fun q1 => ?_)
    · rw [if_pos q1] at hB
      obtain rfl := Option.some.inj hB
      exact ev_vret dX10_daysGo_19 rfl (Nat.zero_le _) (Nat.zero_le _) (fun z => absurd z (hp_sealed _)) ⟨rfl, rfl⟩
    · rw [if_neg q1] at hB
      refine ev_aload_n dX10_daysGo_7 rfl ?_
      refine ev_bipush 80 dX10_daysGo_8 (by decide) ?_
      obtain ⟨S3, e4, hB⟩ := bv_of hB
      refine es_callVv (As := [.int 80]) (t_X10_dayGoes hl0 e4) dX10_daysGo_10 oX10_dayGoes w_1961 rfl hl0 rfl rfl (Nat.le_of_ble_eq_true rfl) rfl (am_fit.of (by decide)) ⟨Nat.zero_le _, Nat.zero_le _⟩ ?_
      refine es_iinc 1 dX10_daysGo_13 rfl (by decide) (by decide) rfl ?_
      refine ev_goto 2 dX10_daysGo_16 (by decide) ?_
      exact ev_ls (ih l0 l1 (l2 + 1) S3 hl0 hB) (And.intro rfl (And.intro rfl (And.intro rfl trivial)))
theorem t_X10_daysGo {G : am_G} {N : Nat} {l0 : Nat} {l1 : Int32} {S : am_S} {out : am_S} (hl0 : isC 10 l0 = true) (hB : f_X10_daysGo N l0 l1 S = some out) : am_Met G 6 mX10_daysGo 0 0 [.ref l0, .int l1] (hp S) (q_v out) q_n := by
  refine am_of (by decide +kernel) rfl rfl rfl (Nat.le_of_ble_eq_true rfl) ?_
  unfold f_X10_daysGo at hB
  refine ev_iconst 0 dX10_daysGo_0 (by decide) ?_
  refine ev_istore_n dX10_daysGo_1 (by decide) rfl ?_
  exact ev_ls (u_X10_daysGo_2 N l0 l1 0 S hl0 hB) (And.intro rfl (And.intro rfl (And.intro rfl trivial)))
def b_X10_fansOf_33 (N : Nat) (k4 : Nat → Int32 → Int32 → Int32 → am_S → Option (Int32 × am_S)) (l0 : Nat) (l1 : Int32) (l3 : Int32) (z0 : Int32) (z1 : Int32) (S : am_S) : Option (Int32 × am_S) := k4 l0 l1 (z0 ||| z1) (l3 + 1) S
def b_X10_fansOf_4 (N : Nat) : Nat → Nat → Int32 → Int32 → Int32 → am_S → Option (Int32 × am_S)
  | 0, _, _, _, _, _ => none
  | n + 1, l0, l1, l2, l3, S => (if (sg S l0 2) ≤ l3 then some (l2, S) else (if inb (72 + l3) (ln (rf l0 46)) = true then (if (sg S (rf l0 46) (Int32.toNatClampNeg (72 + l3))) = l1 then b_X10_fansOf_33 N (b_X10_fansOf_4 N n) l0 l1 l3 l2 ((1 : Int32) <<< (l3 &&& (31 : Int32))) S else b_X10_fansOf_33 N (b_X10_fansOf_4 N n) l0 l1 l3 l2 0 S) else none))
def f_X10_fansOf (N : Nat) (l0 : Nat) (l1 : Int32) (S : am_S) : Option (Int32 × am_S) := b_X10_fansOf_4 N N l0 l1 0 0 S
theorem u_X10_fansOf_33 {G : am_G} {N : Nat} {h0 : am_H} {out : Int32 × am_S} {k4 : Nat → Int32 → Int32 → Int32 → am_S → Option (Int32 × am_S)} (hk4 : ∀ (l0 : Nat) (l1 : Int32) (l2 : Int32) (l3 : Int32) (S : am_S), isC 10 l0 = true → k4 l0 l1 l2 l3 S = some out → Ev G (am_R 1 0 0) (am_Φ G h0 0 0 (q_i out) q_n) mX10_fansOf 0 0 4 [some (.ref l0), some (.int l1), some (.int l2), some (.int l3)] [] (hp S)) (l0 : Nat) (l1 : Int32) (l3 : Int32) (z0 : Int32) (z1 : Int32) (S : am_S) (hl0 : isC 10 l0 = true) (hB : b_X10_fansOf_33 N k4 l0 l1 l3 z0 z1 S = some out) : Ev G (am_R 1 0 0) (am_Φ G h0 0 0 (q_i out) q_n) mX10_fansOf 0 0 33 [some (.ref l0), some (.int l1), none, some (.int l3)] [.int z1, .int z0] (hp S) := by
  unfold b_X10_fansOf_33 at hB
  refine ev_ior dX10_fansOf_33 ?_
  refine ev_istore_n dX10_fansOf_34 (by decide) rfl ?_
  refine es_iinc 1 dX10_fansOf_35 rfl (by decide) (by decide) rfl ?_
  refine ev_goto 4 dX10_fansOf_38 (by decide) ?_
  exact ev_ls (hk4 l0 l1 (z0 ||| z1) (l3 + 1) S hl0 hB) (And.intro rfl (And.intro rfl (And.intro rfl (And.intro rfl trivial))))
theorem u_X10_fansOf_4 {G : am_G} {N : Nat} {h0 : am_H} {out : Int32 × am_S} : ∀ (n : Nat) (l0 : Nat) (l1 : Int32) (l2 : Int32) (l3 : Int32) (S : am_S), isC 10 l0 = true → b_X10_fansOf_4 N n l0 l1 l2 l3 S = some out → Ev G (am_R 1 0 0) (am_Φ G h0 0 0 (q_i out) q_n) mX10_fansOf 0 0 4 [some (.ref l0), some (.int l1), some (.int l2), some (.int l3)] [] (hp S) := by
  intro n
  induction n with
  | zero =>
    intro l0 l1 l2 l3 S hl0 hB
    exact absurd (show none = some out from hB) (fun q => by cases q)
  | succ n ih =>
    intro l0 l1 l2 l3 S hl0 hB
    unfold b_X10_fansOf_4 at hB
    refine ev_iload_n dX10_fansOf_4 rfl ?_
    refine ev_aload_n dX10_fansOf_5 rfl ?_
    refine es_geti k_10 2 dX10_fansOf_6 (by decide) rfl (Or.inl w_1527) hl0 rfl ?_
    refine ev_icmpge 41 dX10_fansOf_9 (by decide) (fun q1 => ?_) (fun q1 => ?_)
    · rw [if_pos q1] at hB
      refine ev_iload_n dX10_fansOf_41 rfl ?_
      obtain rfl := Option.some.inj hB
      exact ev_iret dX10_fansOf_42 rfl (Nat.zero_le _) (Nat.zero_le _) (fun z => absurd z (hp_sealed _)) ⟨rfl, rfl⟩
    · rw [if_neg q1] at hB
      refine ev_iload_n dX10_fansOf_12 rfl ?_
      refine ev_aload_n dX10_fansOf_13 rfl ?_
      refine es_getr k_10 46 dX10_fansOf_14 (by decide) rfl (Or.inl w_1571) hl0 rfl ?_
      refine ev_bipush 72 dX10_fansOf_17 (by decide) ?_
      refine ev_iload_n dX10_fansOf_19 rfl ?_
      refine ev_iadd dX10_fansOf_20 ?_
      obtain ⟨c2, hB⟩ := ck_of hB
      refine es_iald dX10_fansOf_21 (tr_10_46 hl0) c2 ?_
      refine ev_iload_n dX10_fansOf_22 rfl ?_
      refine ev_icmpne 32 dX10_fansOf_23 (by decide) (fun q3 => ?_) (fun q3 => ?_)
      · rw [if_neg q3] at hB
        refine ev_iconst 0 dX10_fansOf_32 (by decide) ?_
        exact ev_ls (u_X10_fansOf_33 ih l0 l1 l3 l2 0 S hl0 hB) (And.intro rfl (And.intro rfl (And.intro rfl trivial)))
      · rw [if_pos q3] at hB
        refine ev_iconst 1 dX10_fansOf_26 (by decide) ?_
        refine ev_iload_n dX10_fansOf_27 rfl ?_
        refine ev_ishl dX10_fansOf_28 ?_
        refine ev_goto 33 dX10_fansOf_29 (by decide) ?_
        exact ev_ls (u_X10_fansOf_33 ih l0 l1 l3 l2 ((1 : Int32) <<< (l3 &&& (31 : Int32))) S hl0 hB) (And.intro rfl (And.intro rfl (And.intro rfl trivial)))
theorem t_X10_fansOf {G : am_G} {N : Nat} {l0 : Nat} {l1 : Int32} {S : am_S} {out : Int32 × am_S} (hl0 : isC 10 l0 = true) (hB : f_X10_fansOf N l0 l1 S = some out) : am_Met G 1 mX10_fansOf 0 0 [.ref l0, .int l1] (hp S) (q_i out) q_n := by
  refine am_of (by decide +kernel) rfl rfl rfl (Nat.le_of_ble_eq_true rfl) ?_
  unfold f_X10_fansOf at hB
  refine ev_iconst 0 dX10_fansOf_0 (by decide) ?_
  refine ev_istore_n dX10_fansOf_1 (by decide) rfl ?_
  refine ev_iconst 0 dX10_fansOf_2 (by decide) ?_
  refine ev_istore_n dX10_fansOf_3 (by decide) rfl ?_
  exact ev_ls (u_X10_fansOf_4 N l0 l1 0 0 S hl0 hB) (And.intro rfl (And.intro rfl (And.intro rfl (And.intro rfl trivial))))
def b_X10_mutual_51 (N : Nat) (k4 : Nat → Int32 → Int32 → am_S → Option (Int32 × am_S)) (k14 : Nat → Int32 → Int32 → Int32 → am_S → Option (Int32 × am_S)) (l0 : Nat) (l2 : Int32) (l3 : Int32) (z0 : Int32) (z1 : Int32) (S : am_S) : Option (Int32 × am_S) := k14 l0 (z0 + z1) l2 (l3 + 1) S
def b_X10_mutual_50 (N : Nat) (k4 : Nat → Int32 → Int32 → am_S → Option (Int32 × am_S)) (k14 : Nat → Int32 → Int32 → Int32 → am_S → Option (Int32 × am_S)) (l0 : Nat) (l2 : Int32) (l3 : Int32) (z0 : Int32) (S : am_S) : Option (Int32 × am_S) := b_X10_mutual_51 N (k4) (k14) l0 l2 l3 z0 0 S
def b_X10_mutual_14 (N : Nat) (k4 : Nat → Int32 → Int32 → am_S → Option (Int32 × am_S)) : Nat → Nat → Int32 → Int32 → Int32 → am_S → Option (Int32 × am_S)
  | 0, _, _, _, _, _ => none
  | n + 1, l0, l1, l2, l3, S => (if l2 ≤ l3 then k4 l0 l1 (l2 + 1) S else (if inb (72 + l2) (ln (rf l0 46)) = true then (if (sg S (rf l0 46) (Int32.toNatClampNeg (72 + l2))) = l3 then (if inb (72 + l3) (ln (rf l0 46)) = true then (if (sg S (rf l0 46) (Int32.toNatClampNeg (72 + l3))) = l2 then b_X10_mutual_51 N (k4) (b_X10_mutual_14 N k4 n) l0 l2 l3 l1 1 S else b_X10_mutual_50 N (k4) (b_X10_mutual_14 N k4 n) l0 l2 l3 l1 S) else none) else b_X10_mutual_50 N (k4) (b_X10_mutual_14 N k4 n) l0 l2 l3 l1 S) else none))
def b_X10_mutual_4 (N : Nat) : Nat → Nat → Int32 → Int32 → am_S → Option (Int32 × am_S)
  | 0, _, _, _, _ => none
  | n + 1, l0, l1, l2, S => (if (sg S l0 2) ≤ l2 then some (l1, S) else b_X10_mutual_14 N (b_X10_mutual_4 N n) N l0 l1 l2 0 S)
def f_X10_mutual (N : Nat) (l0 : Nat) (S : am_S) : Option (Int32 × am_S) := b_X10_mutual_4 N N l0 0 0 S
theorem u_X10_mutual_51 {G : am_G} {N : Nat} {h0 : am_H} {out : Int32 × am_S} {k4 : Nat → Int32 → Int32 → am_S → Option (Int32 × am_S)} {k14 : Nat → Int32 → Int32 → Int32 → am_S → Option (Int32 × am_S)} (hk4 : ∀ (l0 : Nat) (l1 : Int32) (l2 : Int32) (S : am_S), isC 10 l0 = true → k4 l0 l1 l2 S = some out → Ev G (am_R 1 0 0) (am_Φ G h0 0 0 (q_i out) q_n) mX10_mutual 0 0 4 [some (.ref l0), some (.int l1), some (.int l2), none] [] (hp S)) (hk14 : ∀ (l0 : Nat) (l1 : Int32) (l2 : Int32) (l3 : Int32) (S : am_S), isC 10 l0 = true → k14 l0 l1 l2 l3 S = some out → Ev G (am_R 1 0 0) (am_Φ G h0 0 0 (q_i out) q_n) mX10_mutual 0 0 14 [some (.ref l0), some (.int l1), some (.int l2), some (.int l3)] [] (hp S)) (l0 : Nat) (l2 : Int32) (l3 : Int32) (z0 : Int32) (z1 : Int32) (S : am_S) (hl0 : isC 10 l0 = true) (hB : b_X10_mutual_51 N k4 k14 l0 l2 l3 z0 z1 S = some out) : Ev G (am_R 1 0 0) (am_Φ G h0 0 0 (q_i out) q_n) mX10_mutual 0 0 51 [some (.ref l0), none, some (.int l2), some (.int l3)] [.int z1, .int z0] (hp S) := by
  unfold b_X10_mutual_51 at hB
  refine ev_iadd dX10_mutual_51 ?_
  refine ev_istore_n dX10_mutual_52 (by decide) rfl ?_
  refine es_iinc 1 dX10_mutual_53 rfl (by decide) (by decide) rfl ?_
  refine ev_goto 14 dX10_mutual_56 (by decide) ?_
  exact ev_ls (hk14 l0 (z0 + z1) l2 (l3 + 1) S hl0 hB) (And.intro rfl (And.intro rfl (And.intro rfl (And.intro rfl trivial))))
theorem u_X10_mutual_50 {G : am_G} {N : Nat} {h0 : am_H} {out : Int32 × am_S} {k4 : Nat → Int32 → Int32 → am_S → Option (Int32 × am_S)} {k14 : Nat → Int32 → Int32 → Int32 → am_S → Option (Int32 × am_S)} (hk4 : ∀ (l0 : Nat) (l1 : Int32) (l2 : Int32) (S : am_S), isC 10 l0 = true → k4 l0 l1 l2 S = some out → Ev G (am_R 1 0 0) (am_Φ G h0 0 0 (q_i out) q_n) mX10_mutual 0 0 4 [some (.ref l0), some (.int l1), some (.int l2), none] [] (hp S)) (hk14 : ∀ (l0 : Nat) (l1 : Int32) (l2 : Int32) (l3 : Int32) (S : am_S), isC 10 l0 = true → k14 l0 l1 l2 l3 S = some out → Ev G (am_R 1 0 0) (am_Φ G h0 0 0 (q_i out) q_n) mX10_mutual 0 0 14 [some (.ref l0), some (.int l1), some (.int l2), some (.int l3)] [] (hp S)) (l0 : Nat) (l2 : Int32) (l3 : Int32) (z0 : Int32) (S : am_S) (hl0 : isC 10 l0 = true) (hB : b_X10_mutual_50 N k4 k14 l0 l2 l3 z0 S = some out) : Ev G (am_R 1 0 0) (am_Φ G h0 0 0 (q_i out) q_n) mX10_mutual 0 0 50 [some (.ref l0), none, some (.int l2), some (.int l3)] [.int z0] (hp S) := by
  unfold b_X10_mutual_50 at hB
  refine ev_iconst 0 dX10_mutual_50 (by decide) ?_
  exact ev_ls (u_X10_mutual_51 hk4 hk14 l0 l2 l3 z0 0 S hl0 hB) (And.intro rfl (And.intro rfl (And.intro rfl trivial)))
theorem u_X10_mutual_14 {G : am_G} {N : Nat} {h0 : am_H} {out : Int32 × am_S} {k4 : Nat → Int32 → Int32 → am_S → Option (Int32 × am_S)} (hk4 : ∀ (l0 : Nat) (l1 : Int32) (l2 : Int32) (S : am_S), isC 10 l0 = true → k4 l0 l1 l2 S = some out → Ev G (am_R 1 0 0) (am_Φ G h0 0 0 (q_i out) q_n) mX10_mutual 0 0 4 [some (.ref l0), some (.int l1), some (.int l2), none] [] (hp S)) : ∀ (n : Nat) (l0 : Nat) (l1 : Int32) (l2 : Int32) (l3 : Int32) (S : am_S), isC 10 l0 = true → b_X10_mutual_14 N k4 n l0 l1 l2 l3 S = some out → Ev G (am_R 1 0 0) (am_Φ G h0 0 0 (q_i out) q_n) mX10_mutual 0 0 14 [some (.ref l0), some (.int l1), some (.int l2), some (.int l3)] [] (hp S) := by
  intro n
  induction n with
  | zero =>
    intro l0 l1 l2 l3 S hl0 hB
    exact absurd (show none = some out from hB) (fun q => by cases q)
  | succ n ih =>
    intro l0 l1 l2 l3 S hl0 hB
    unfold b_X10_mutual_14 at hB
    refine ev_iload_n dX10_mutual_14 rfl ?_
    refine ev_iload_n dX10_mutual_15 rfl ?_
    refine ev_icmpge 59 dX10_mutual_16 (by decide) (fun q1 => ?_) (fun q1 => ?_)
    · rw [if_pos q1] at hB
      refine es_iinc 1 dX10_mutual_59 rfl (by decide) (by decide) rfl ?_
      refine ev_goto 4 dX10_mutual_62 (by decide) ?_
      exact ev_ls (hk4 l0 l1 (l2 + 1) S hl0 hB) (And.intro rfl (And.intro rfl (And.intro rfl trivial)))
    · rw [if_neg q1] at hB
      refine ev_iload_n dX10_mutual_19 rfl ?_
      refine ev_aload_n dX10_mutual_20 rfl ?_
      refine es_getr k_10 46 dX10_mutual_21 (by decide) rfl (Or.inl w_1571) hl0 rfl ?_
      refine ev_bipush 72 dX10_mutual_24 (by decide) ?_
      refine ev_iload_n dX10_mutual_26 rfl ?_
      refine ev_iadd dX10_mutual_27 ?_
      obtain ⟨c2, hB⟩ := ck_of hB
      refine es_iald dX10_mutual_28 (tr_10_46 hl0) c2 ?_
      refine ev_iload_n dX10_mutual_29 rfl ?_
      refine ev_icmpne 50 dX10_mutual_30 (by decide) (fun q3 => ?_) (fun q3 => ?_)
      · rw [if_neg q3] at hB
        exact ev_ls (u_X10_mutual_50 hk4 ih l0 l2 l3 l1 S hl0 hB) (And.intro rfl (And.intro rfl (And.intro rfl trivial)))
      · rw [if_pos q3] at hB
        refine ev_aload_n dX10_mutual_33 rfl ?_
        refine es_getr k_10 46 dX10_mutual_34 (by decide) rfl (Or.inl w_1571) hl0 rfl ?_
        refine ev_bipush 72 dX10_mutual_37 (by decide) ?_
        refine ev_iload_n dX10_mutual_39 rfl ?_
        refine ev_iadd dX10_mutual_40 ?_
        obtain ⟨c4, hB⟩ := ck_of hB
        refine es_iald dX10_mutual_41 (tr_10_46 hl0) c4 ?_
        refine ev_iload_n dX10_mutual_42 rfl ?_
        refine ev_icmpne 50 dX10_mutual_43 (by decide) (fun q5 => ?_) (fun q5 => ?_)
        · rw [if_neg q5] at hB
          exact ev_ls (u_X10_mutual_50 hk4 ih l0 l2 l3 l1 S hl0 hB) (And.intro rfl (And.intro rfl (And.intro rfl trivial)))
        · rw [if_pos q5] at hB
          refine ev_iconst 1 dX10_mutual_46 (by decide) ?_
          refine ev_goto 51 dX10_mutual_47 (by decide) ?_
          exact ev_ls (u_X10_mutual_51 hk4 ih l0 l2 l3 l1 1 S hl0 hB) (And.intro rfl (And.intro rfl (And.intro rfl trivial)))
theorem u_X10_mutual_4 {G : am_G} {N : Nat} {h0 : am_H} {out : Int32 × am_S} : ∀ (n : Nat) (l0 : Nat) (l1 : Int32) (l2 : Int32) (S : am_S), isC 10 l0 = true → b_X10_mutual_4 N n l0 l1 l2 S = some out → Ev G (am_R 1 0 0) (am_Φ G h0 0 0 (q_i out) q_n) mX10_mutual 0 0 4 [some (.ref l0), some (.int l1), some (.int l2), none] [] (hp S) := by
  intro n
  induction n with
  | zero =>
    intro l0 l1 l2 S hl0 hB
    exact absurd (show none = some out from hB) (fun q => by cases q)
  | succ n ih =>
    intro l0 l1 l2 S hl0 hB
    unfold b_X10_mutual_4 at hB
    refine ev_iload_n dX10_mutual_4 rfl ?_
    refine ev_aload_n dX10_mutual_5 rfl ?_
    refine es_geti k_10 2 dX10_mutual_6 (by decide) rfl (Or.inl w_1527) hl0 rfl ?_
    refine ev_icmpge 65 dX10_mutual_9 (by decide) (fun q1 => ?_) (fun q1 => ?_)
    · rw [if_pos q1] at hB
      refine ev_iload_n dX10_mutual_65 rfl ?_
      obtain rfl := Option.some.inj hB
      exact ev_iret dX10_mutual_66 rfl (Nat.zero_le _) (Nat.zero_le _) (fun z => absurd z (hp_sealed _)) ⟨rfl, rfl⟩
    · rw [if_neg q1] at hB
      refine ev_iconst 0 dX10_mutual_12 (by decide) ?_
      refine ev_istore_n dX10_mutual_13 (by decide) rfl ?_
      exact ev_ls (u_X10_mutual_14 ih N l0 l1 l2 0 S hl0 hB) (And.intro rfl (And.intro rfl (And.intro rfl (And.intro rfl trivial))))
theorem t_X10_mutual {G : am_G} {N : Nat} {l0 : Nat} {S : am_S} {out : Int32 × am_S} (hl0 : isC 10 l0 = true) (hB : f_X10_mutual N l0 S = some out) : am_Met G 1 mX10_mutual 0 0 [.ref l0] (hp S) (q_i out) q_n := by
  refine am_of (by decide +kernel) rfl rfl rfl (Nat.le_of_ble_eq_true rfl) ?_
  unfold f_X10_mutual at hB
  refine ev_iconst 0 dX10_mutual_0 (by decide) ?_
  refine ev_istore_n dX10_mutual_1 (by decide) rfl ?_
  refine ev_iconst 0 dX10_mutual_2 (by decide) ?_
  refine ev_istore_n dX10_mutual_3 (by decide) rfl ?_
  exact ev_ls (u_X10_mutual_4 N l0 0 0 S hl0 hB) (And.intro rfl (And.intro rfl (And.intro rfl trivial)))
def b_X10_unthought_28 (N : Nat) (k4 : Nat → Int32 → Int32 → am_S → Option (Int32 × am_S)) (l0 : Nat) (l2 : Int32) (z0 : Int32) (z1 : Int32) (S : am_S) : Option (Int32 × am_S) := k4 l0 (z0 ||| z1) (l2 + 1) S
def b_X10_unthought_4 (N : Nat) : Nat → Nat → Int32 → Int32 → am_S → Option (Int32 × am_S)
  | 0, _, _, _, _ => none
  | n + 1, l0, l1, l2, S => (if (sg S l0 2) ≤ l2 then some (l1, S) else (bd (f_X10_fansOf N l0 l2 S) (fun r2 S3 => (if r2 = 0 then b_X10_unthought_28 N (b_X10_unthought_4 N n) l0 l2 l1 ((1 : Int32) <<< (l2 &&& (31 : Int32))) S3 else b_X10_unthought_28 N (b_X10_unthought_4 N n) l0 l2 l1 0 S3))))
def f_X10_unthought (N : Nat) (l0 : Nat) (S : am_S) : Option (Int32 × am_S) := b_X10_unthought_4 N N l0 0 0 S
theorem u_X10_unthought_28 {G : am_G} {N : Nat} {h0 : am_H} {out : Int32 × am_S} {k4 : Nat → Int32 → Int32 → am_S → Option (Int32 × am_S)} (hk4 : ∀ (l0 : Nat) (l1 : Int32) (l2 : Int32) (S : am_S), isC 10 l0 = true → k4 l0 l1 l2 S = some out → Ev G (am_R 2 0 0) (am_Φ G h0 0 0 (q_i out) q_n) mX10_unthought 0 0 4 [some (.ref l0), some (.int l1), some (.int l2)] [] (hp S)) (l0 : Nat) (l2 : Int32) (z0 : Int32) (z1 : Int32) (S : am_S) (hl0 : isC 10 l0 = true) (hB : b_X10_unthought_28 N k4 l0 l2 z0 z1 S = some out) : Ev G (am_R 2 0 0) (am_Φ G h0 0 0 (q_i out) q_n) mX10_unthought 0 0 28 [some (.ref l0), none, some (.int l2)] [.int z1, .int z0] (hp S) := by
  unfold b_X10_unthought_28 at hB
  refine ev_ior dX10_unthought_28 ?_
  refine ev_istore_n dX10_unthought_29 (by decide) rfl ?_
  refine es_iinc 1 dX10_unthought_30 rfl (by decide) (by decide) rfl ?_
  refine ev_goto 4 dX10_unthought_33 (by decide) ?_
  exact ev_ls (hk4 l0 (z0 ||| z1) (l2 + 1) S hl0 hB) (And.intro rfl (And.intro rfl (And.intro rfl trivial)))
theorem u_X10_unthought_4 {G : am_G} {N : Nat} {h0 : am_H} {out : Int32 × am_S} : ∀ (n : Nat) (l0 : Nat) (l1 : Int32) (l2 : Int32) (S : am_S), isC 10 l0 = true → b_X10_unthought_4 N n l0 l1 l2 S = some out → Ev G (am_R 2 0 0) (am_Φ G h0 0 0 (q_i out) q_n) mX10_unthought 0 0 4 [some (.ref l0), some (.int l1), some (.int l2)] [] (hp S) := by
  intro n
  induction n with
  | zero =>
    intro l0 l1 l2 S hl0 hB
    exact absurd (show none = some out from hB) (fun q => by cases q)
  | succ n ih =>
    intro l0 l1 l2 S hl0 hB
    unfold b_X10_unthought_4 at hB
    refine ev_iload_n dX10_unthought_4 rfl ?_
    refine ev_aload_n dX10_unthought_5 rfl ?_
    refine es_geti k_10 2 dX10_unthought_6 (by decide) rfl (Or.inl w_1527) hl0 rfl ?_
    refine ev_icmpge 36 dX10_unthought_9 (by decide) (fun q1 => ?_) (fun q1 => ?_)
    · rw [if_pos q1] at hB
      refine ev_iload_n dX10_unthought_36 rfl ?_
      obtain rfl := Option.some.inj hB
      exact ev_iret dX10_unthought_37 rfl (Nat.zero_le _) (Nat.zero_le _) (fun z => absurd z (hp_sealed _)) ⟨rfl, rfl⟩
    · rw [if_neg q1] at hB
      refine ev_iload_n dX10_unthought_12 rfl ?_
      refine ev_aload_n dX10_unthought_13 rfl ?_
      refine ev_iload_n dX10_unthought_14 rfl ?_
      obtain ⟨r2, S3, e4, hB⟩ := bd_of hB
      refine es_callVi (As := [.int l2]) (t_X10_fansOf hl0 e4) dX10_unthought_15 oX10_fansOf w_1906 rfl hl0 rfl rfl (Nat.le_of_ble_eq_true rfl) rfl (am_fit.of (by decide)) ⟨Nat.zero_le _, Nat.zero_le _⟩ ?_
      refine ev_ifne 27 dX10_unthought_18 (by decide) (fun q5 => ?_) (fun q5 => ?_)
      · rw [if_neg q5] at hB
        refine ev_iconst 0 dX10_unthought_27 (by decide) ?_
        exact ev_ls (u_X10_unthought_28 ih l0 l2 l1 0 S3 hl0 hB) (And.intro rfl (And.intro rfl trivial))
      · rw [if_pos q5] at hB
        refine ev_iconst 1 dX10_unthought_21 (by decide) ?_
        refine ev_iload_n dX10_unthought_22 rfl ?_
        refine ev_ishl dX10_unthought_23 ?_
        refine ev_goto 28 dX10_unthought_24 (by decide) ?_
        exact ev_ls (u_X10_unthought_28 ih l0 l2 l1 ((1 : Int32) <<< (l2 &&& (31 : Int32))) S3 hl0 hB) (And.intro rfl (And.intro rfl trivial))
theorem t_X10_unthought {G : am_G} {N : Nat} {l0 : Nat} {S : am_S} {out : Int32 × am_S} (hl0 : isC 10 l0 = true) (hB : f_X10_unthought N l0 S = some out) : am_Met G 2 mX10_unthought 0 0 [.ref l0] (hp S) (q_i out) q_n := by
  refine am_of (by decide +kernel) rfl rfl rfl (Nat.le_of_ble_eq_true rfl) ?_
  unfold f_X10_unthought at hB
  refine ev_iconst 0 dX10_unthought_0 (by decide) ?_
  refine ev_istore_n dX10_unthought_1 (by decide) rfl ?_
  refine ev_iconst 0 dX10_unthought_2 (by decide) ?_
  refine ev_istore_n dX10_unthought_3 (by decide) rfl ?_
  exact ev_ls (u_X10_unthought_4 N l0 0 0 S hl0 hB) (And.intro rfl (And.intro rfl (And.intro rfl trivial)))
def f_X10_count (N : Nat) (l0 : Nat) (l1 : Int32) (S : am_S) : Option (Int32 × am_S) := (bd (f_X10_within N l1 0 15 (sp S l0 0 0)) (fun r1 S2 => (bd (f_X10_right N l0 r1 1 S2) (fun r4 S5 => (if r4 = 0 then some (0, S5) else (if l1 = 0 then some ((sg S5 l0 1), S5) else (if l1 = 1 then some ((sg S5 l0 2), S5) else (if l1 = 2 then (if inb 0 (ln (rf l0 46)) = true then some ((sg S5 (rf l0 46) (Int32.toNatClampNeg 0)), S5) else none) else (if l1 = 3 then (bd (f_X10_wetIn N l0 0 S5) (fun r12 S13 => some (r12, S13))) else (if l1 = 4 then (if inb 1 (ln (rf l0 46)) = true then some ((sg S5 (rf l0 46) (Int32.toNatClampNeg 1)), S5) else none) else (if l1 = 5 then (if inb 0 (ln (rf l0 46)) = true then (bd (f_X10_comesOn N l0 (sg S5 (rf l0 46) (Int32.toNatClampNeg 0)) S5) (fun r19 S20 => some (r19, S20))) else none) else (if l1 = 6 then (bd (f_X10_heldAll N l0 0 S5) (fun r23 S24 => some (r23, S24))) else (if l1 = 7 then (bd (f_X10_sumOf N l0 0 64 S5) (fun r27 S28 => some (r27, S28))) else (if l1 = 8 then (bd (f_X10_mutual N l0 S5) (fun r31 S32 => some (r31, S32))) else (if l1 = 9 then (bd (f_X10_unthought N l0 S5) (fun r35 S36 => some (r35, S36))) else (if l1 = 10 then some ((sg S5 l0 48), S5) else (if l1 = 11 then some ((sg S5 l0 56), S5) else (if l1 = 12 then some ((sg S5 l0 14), S5) else (if inb (l1 - 13) (ln (rf l0 17)) = true then some ((sg S5 (rf l0 17) (Int32.toNatClampNeg (l1 - 13))), S5) else none)))))))))))))))))))
theorem t_X10_count {G : am_G} {N : Nat} {l0 : Nat} {l1 : Int32} {S : am_S} {out : Int32 × am_S} (hl0 : isC 10 l0 = true) (hB : f_X10_count N l0 l1 S = some out) : am_Met G 3 mX10_count 0 0 [.ref l0, .int l1] (hp S) (q_i out) q_n := by
  refine am_of (by decide +kernel) rfl rfl rfl (Nat.le_of_ble_eq_true rfl) ?_
  unfold f_X10_count at hB
  refine ev_aload_n dX10_count_0 rfl ?_
  refine ev_iconst 0 dX10_count_1 (by decide) ?_
  refine es_puti k_10 0 dX10_count_2 (by decide) rfl (Or.inl w_1525) rfl rfl hl0 rfl ?_
  refine ev_aload_n dX10_count_5 rfl ?_
  refine ev_iload_n dX10_count_6 rfl ?_
  refine ev_iconst 0 dX10_count_7 (by decide) ?_
  refine ev_bipush 15 dX10_count_8 (by decide) ?_
  obtain ⟨r1, S2, e3, hB⟩ := bd_of hB
  refine es_callSi (As := [.int l1, .int 0, .int 15]) (t_X10_within e3) dX10_count_10 oX10_within w_1875 rfl (Nat.le_of_ble_eq_true rfl) rfl (am_fit.of (by decide)) ⟨Nat.zero_le _, Nat.zero_le _⟩ ?_
  refine ev_iconst 1 dX10_count_13 (by decide) ?_
  obtain ⟨r4, S5, e6, hB⟩ := bd_of hB
  refine es_callVi (As := [.int r1, .int 1]) (t_X10_right hl0 e6) dX10_count_14 oX10_right w_1744 rfl hl0 rfl rfl (Nat.le_of_ble_eq_true rfl) rfl (am_fit.of (by decide)) ⟨Nat.zero_le _, Nat.zero_le _⟩ ?_
  refine ev_ifne 22 dX10_count_17 (by decide) (fun q7 => ?_) (fun q7 => ?_)
  · rw [if_neg q7] at hB
    refine ev_iload_n dX10_count_22 rfl ?_
    by_cases q8 : l1 = 0
    · rw [if_pos q8] at hB
      refine ev_tableIn (off := 65) 88 dX10_count_23 (by rw [q8]; decide) (by rw [q8]; decide) (by rw [q8]; rfl) (by decide) ?_
      refine ev_aload_n dX10_count_88 rfl ?_
      refine es_geti k_10 1 dX10_count_89 (by decide) rfl (Or.inl w_1526) hl0 rfl ?_
      obtain rfl := Option.some.inj hB
      exact ev_iret dX10_count_92 rfl (Nat.zero_le _) (Nat.zero_le _) (fun z => absurd z (hp_sealed _)) ⟨rfl, rfl⟩
    rw [if_neg q8] at hB
    have tq8 := am_nt (k := 0) q8 (by decide)
    by_cases q9 : l1 = 1
    · rw [if_pos q9] at hB
      refine ev_tableIn (off := 70) 93 dX10_count_23 (by rw [q9]; decide) (by rw [q9]; decide) (by rw [q9]; rfl) (by decide) ?_
      refine ev_aload_n dX10_count_93 rfl ?_
      refine es_geti k_10 2 dX10_count_94 (by decide) rfl (Or.inl w_1527) hl0 rfl ?_
      obtain rfl := Option.some.inj hB
      exact ev_iret dX10_count_97 rfl (Nat.zero_le _) (Nat.zero_le _) (fun z => absurd z (hp_sealed _)) ⟨rfl, rfl⟩
    rw [if_neg q9] at hB
    have tq9 := am_nt (k := 1) q9 (by decide)
    by_cases q11 : l1 = 2
    · rw [if_pos q11] at hB
      refine ev_tableIn (off := 75) 98 dX10_count_23 (by rw [q11]; decide) (by rw [q11]; decide) (by rw [q11]; rfl) (by decide) ?_
      refine ev_aload_n dX10_count_98 rfl ?_
      refine es_getr k_10 46 dX10_count_99 (by decide) rfl (Or.inl w_1571) hl0 rfl ?_
      refine ev_iconst 0 dX10_count_102 (by decide) ?_
      obtain ⟨c10, hB⟩ := ck_of hB
      refine es_iald dX10_count_103 (tr_10_46 hl0) c10 ?_
      obtain rfl := Option.some.inj hB
      exact ev_iret dX10_count_104 rfl (Nat.zero_le _) (Nat.zero_le _) (fun z => absurd z (hp_sealed _)) ⟨rfl, rfl⟩
    rw [if_neg q11] at hB
    have tq11 := am_nt (k := 2) q11 (by decide)
    by_cases q15 : l1 = 3
    · rw [if_pos q15] at hB
      refine ev_tableIn (off := 82) 105 dX10_count_23 (by rw [q15]; decide) (by rw [q15]; decide) (by rw [q15]; rfl) (by decide) ?_
      refine ev_aload_n dX10_count_105 rfl ?_
      refine ev_iconst 0 dX10_count_106 (by decide) ?_
      obtain ⟨r12, S13, e14, hB⟩ := bd_of hB
      refine es_callVi (As := [.int 0]) (t_X10_wetIn hl0 e14) dX10_count_107 oX10_wetIn w_1878 rfl hl0 rfl rfl (Nat.le_of_ble_eq_true rfl) rfl (am_fit.of (by decide)) ⟨Nat.zero_le _, Nat.zero_le _⟩ ?_
      obtain rfl := Option.some.inj hB
      exact ev_iret dX10_count_110 rfl (Nat.zero_le _) (Nat.zero_le _) (fun z => absurd z (hp_sealed _)) ⟨rfl, rfl⟩
    rw [if_neg q15] at hB
    have tq15 := am_nt (k := 3) q15 (by decide)
    by_cases q17 : l1 = 4
    · rw [if_pos q17] at hB
      refine ev_tableIn (off := 88) 111 dX10_count_23 (by rw [q17]; decide) (by rw [q17]; decide) (by rw [q17]; rfl) (by decide) ?_
      refine ev_aload_n dX10_count_111 rfl ?_
      refine es_getr k_10 46 dX10_count_112 (by decide) rfl (Or.inl w_1571) hl0 rfl ?_
      refine ev_iconst 1 dX10_count_115 (by decide) ?_
      obtain ⟨c16, hB⟩ := ck_of hB
      refine es_iald dX10_count_116 (tr_10_46 hl0) c16 ?_
      obtain rfl := Option.some.inj hB
      exact ev_iret dX10_count_117 rfl (Nat.zero_le _) (Nat.zero_le _) (fun z => absurd z (hp_sealed _)) ⟨rfl, rfl⟩
    rw [if_neg q17] at hB
    have tq17 := am_nt (k := 4) q17 (by decide)
    by_cases q22 : l1 = 5
    · rw [if_pos q22] at hB
      refine ev_tableIn (off := 95) 118 dX10_count_23 (by rw [q22]; decide) (by rw [q22]; decide) (by rw [q22]; rfl) (by decide) ?_
      refine ev_aload_n dX10_count_118 rfl ?_
      refine ev_aload_n dX10_count_119 rfl ?_
      refine es_getr k_10 46 dX10_count_120 (by decide) rfl (Or.inl w_1571) hl0 rfl ?_
      refine ev_iconst 0 dX10_count_123 (by decide) ?_
      obtain ⟨c18, hB⟩ := ck_of hB
      refine es_iald dX10_count_124 (tr_10_46 hl0) c18 ?_
      obtain ⟨r19, S20, e21, hB⟩ := bd_of hB
      refine es_callVi (As := [.int (sg S5 (rf l0 46) (Int32.toNatClampNeg 0))]) (t_X10_comesOn hl0 e21) dX10_count_125 oX10_comesOn w_1882 rfl hl0 rfl rfl (Nat.le_of_ble_eq_true rfl) rfl (am_fit.of (by decide)) ⟨Nat.zero_le _, Nat.zero_le _⟩ ?_
      obtain rfl := Option.some.inj hB
      exact ev_iret dX10_count_128 rfl (Nat.zero_le _) (Nat.zero_le _) (fun z => absurd z (hp_sealed _)) ⟨rfl, rfl⟩
    rw [if_neg q22] at hB
    have tq22 := am_nt (k := 5) q22 (by decide)
    by_cases q26 : l1 = 6
    · rw [if_pos q26] at hB
      refine ev_tableIn (off := 106) 129 dX10_count_23 (by rw [q26]; decide) (by rw [q26]; decide) (by rw [q26]; rfl) (by decide) ?_
      refine ev_aload_n dX10_count_129 rfl ?_
      refine ev_iconst 0 dX10_count_130 (by decide) ?_
      obtain ⟨r23, S24, e25, hB⟩ := bd_of hB
      refine es_callVi (As := [.int 0]) (t_X10_heldAll hl0 e25) dX10_count_131 oX10_heldAll w_1886 rfl hl0 rfl rfl (Nat.le_of_ble_eq_true rfl) rfl (am_fit.of (by decide)) ⟨Nat.zero_le _, Nat.zero_le _⟩ ?_
      obtain rfl := Option.some.inj hB
      exact ev_iret dX10_count_134 rfl (Nat.zero_le _) (Nat.zero_le _) (fun z => absurd z (hp_sealed _)) ⟨rfl, rfl⟩
    rw [if_neg q26] at hB
    have tq26 := am_nt (k := 6) q26 (by decide)
    by_cases q30 : l1 = 7
    · rw [if_pos q30] at hB
      refine ev_tableIn (off := 112) 135 dX10_count_23 (by rw [q30]; decide) (by rw [q30]; decide) (by rw [q30]; rfl) (by decide) ?_
      refine ev_aload_n dX10_count_135 rfl ?_
      refine ev_iconst 0 dX10_count_136 (by decide) ?_
      refine ev_bipush 64 dX10_count_137 (by decide) ?_
      obtain ⟨r27, S28, e29, hB⟩ := bd_of hB
      refine es_callVi (As := [.int 0, .int 64]) (t_X10_sumOf hl0 e29) dX10_count_139 oX10_sumOf w_1894 rfl hl0 rfl rfl (Nat.le_of_ble_eq_true rfl) rfl (am_fit.of (by decide)) ⟨Nat.zero_le _, Nat.zero_le _⟩ ?_
      obtain rfl := Option.some.inj hB
      exact ev_iret dX10_count_142 rfl (Nat.zero_le _) (Nat.zero_le _) (fun z => absurd z (hp_sealed _)) ⟨rfl, rfl⟩
    rw [if_neg q30] at hB
    have tq30 := am_nt (k := 7) q30 (by decide)
    by_cases q34 : l1 = 8
    · rw [if_pos q34] at hB
      refine ev_tableIn (off := 120) 143 dX10_count_23 (by rw [q34]; decide) (by rw [q34]; decide) (by rw [q34]; rfl) (by decide) ?_
      refine ev_aload_n dX10_count_143 rfl ?_
      obtain ⟨r31, S32, e33, hB⟩ := bd_of hB
      refine es_callVi (As := []) (t_X10_mutual hl0 e33) dX10_count_144 oX10_mutual w_1898 rfl hl0 rfl rfl (Nat.le_of_ble_eq_true rfl) rfl (am_fit.of (by decide)) ⟨Nat.zero_le _, Nat.zero_le _⟩ ?_
      obtain rfl := Option.some.inj hB
      exact ev_iret dX10_count_147 rfl (Nat.zero_le _) (Nat.zero_le _) (fun z => absurd z (hp_sealed _)) ⟨rfl, rfl⟩
    rw [if_neg q34] at hB
    have tq34 := am_nt (k := 8) q34 (by decide)
    by_cases q38 : l1 = 9
    · rw [if_pos q38] at hB
      refine ev_tableIn (off := 125) 148 dX10_count_23 (by rw [q38]; decide) (by rw [q38]; decide) (by rw [q38]; rfl) (by decide) ?_
      refine ev_aload_n dX10_count_148 rfl ?_
      obtain ⟨r35, S36, e37, hB⟩ := bd_of hB
      refine es_callVi (As := []) (t_X10_unthought hl0 e37) dX10_count_149 oX10_unthought w_1902 rfl hl0 rfl rfl (Nat.le_of_ble_eq_true rfl) rfl (am_fit.of (by decide)) ⟨Nat.zero_le _, Nat.zero_le _⟩ ?_
      obtain rfl := Option.some.inj hB
      exact ev_iret dX10_count_152 rfl (Nat.zero_le _) (Nat.zero_le _) (fun z => absurd z (hp_sealed _)) ⟨rfl, rfl⟩
    rw [if_neg q38] at hB
    have tq38 := am_nt (k := 9) q38 (by decide)
    by_cases q39 : l1 = 10
    · rw [if_pos q39] at hB
      refine ev_tableIn (off := 130) 153 dX10_count_23 (by rw [q39]; decide) (by rw [q39]; decide) (by rw [q39]; rfl) (by decide) ?_
      refine ev_aload_n dX10_count_153 rfl ?_
      refine es_geti k_10 48 dX10_count_154 (by decide) rfl (Or.inl w_1573) hl0 rfl ?_
      obtain rfl := Option.some.inj hB
      exact ev_iret dX10_count_157 rfl (Nat.zero_le _) (Nat.zero_le _) (fun z => absurd z (hp_sealed _)) ⟨rfl, rfl⟩
    rw [if_neg q39] at hB
    have tq39 := am_nt (k := 10) q39 (by decide)
    by_cases q40 : l1 = 11
    · rw [if_pos q40] at hB
      refine ev_tableIn (off := 135) 158 dX10_count_23 (by rw [q40]; decide) (by rw [q40]; decide) (by rw [q40]; rfl) (by decide) ?_
      refine ev_aload_n dX10_count_158 rfl ?_
      refine es_geti k_10 56 dX10_count_159 (by decide) rfl (Or.inl w_1581) hl0 rfl ?_
      obtain rfl := Option.some.inj hB
      exact ev_iret dX10_count_162 rfl (Nat.zero_le _) (Nat.zero_le _) (fun z => absurd z (hp_sealed _)) ⟨rfl, rfl⟩
    rw [if_neg q40] at hB
    have tq40 := am_nt (k := 11) q40 (by decide)
    by_cases q41 : l1 = 12
    · rw [if_pos q41] at hB
      refine ev_tableIn (off := 140) 163 dX10_count_23 (by rw [q41]; decide) (by rw [q41]; decide) (by rw [q41]; rfl) (by decide) ?_
      refine ev_aload_n dX10_count_163 rfl ?_
      refine es_geti k_10 14 dX10_count_164 (by decide) rfl (Or.inl w_1539) hl0 rfl ?_
      obtain rfl := Option.some.inj hB
      exact ev_iret dX10_count_167 rfl (Nat.zero_le _) (Nat.zero_le _) (fun z => absurd z (hp_sealed _)) ⟨rfl, rfl⟩
    rw [if_neg q41] at hB
    have tq41 := am_nt (k := 12) q41 (by decide)
    refine ev_tableOut 168 dX10_count_23 (by omega) (by decide) ?_
    refine ev_aload_n dX10_count_168 rfl ?_
    refine es_getr k_10 17 dX10_count_169 (by decide) rfl (Or.inl w_1542) hl0 rfl ?_
    refine ev_iload_n dX10_count_172 rfl ?_
    refine ev_bipush 13 dX10_count_173 (by decide) ?_
    refine ev_isub dX10_count_175 ?_
    obtain ⟨c42, hB⟩ := ck_of hB
    refine es_iald dX10_count_176 (tr_10_17 hl0) c42 ?_
    obtain rfl := Option.some.inj hB
    exact ev_iret dX10_count_177 rfl (Nat.zero_le _) (Nat.zero_le _) (fun z => absurd z (hp_sealed _)) ⟨rfl, rfl⟩
  · rw [if_pos q7] at hB
    refine ev_iconst 0 dX10_count_20 (by decide) ?_
    obtain rfl := Option.some.inj hB
    exact ev_iret dX10_count_21 rfl (Nat.zero_le _) (Nat.zero_le _) (fun z => absurd z (hp_sealed _)) ⟨rfl, rfl⟩
def b_X10_isBox_18 (N : Nat) (z0 : Nat) (z1 : Int32) (S : am_S) : Option (Int32 × am_S) := (bd (f_X10_right N z0 z1 1 S) (fun r1 S2 => (if isB r1 = true then some (r1, S2) else none)))
def b_X10_isBox_17 (N : Nat) (z0 : Nat) (S : am_S) : Option (Int32 × am_S) := b_X10_isBox_18 N z0 0 S
def f_X10_isBox (N : Nat) (l0 : Nat) (l1 : Int32) (S : am_S) : Option (Int32 × am_S) := (if l1 < 0 then b_X10_isBox_17 N l0 S else (if (sg S l0 1) ≤ l1 then b_X10_isBox_17 N l0 S else b_X10_isBox_18 N l0 1 S))
theorem u_X10_isBox_18 {G : am_G} {N : Nat} {h0 : am_H} {out : Int32 × am_S} (z0 : Nat) (z1 : Int32) (S : am_S) (hz0 : isC 10 z0 = true) (hB : b_X10_isBox_18 N z0 z1 S = some out) : Ev G (am_R 2 0 0) (am_Φ G h0 0 0 (q_i out) q_n) mX10_isBox 0 0 18 [none, none] [.int z1, .ref z0] (hp S) := by
  unfold b_X10_isBox_18 at hB
  refine ev_iconst 1 dX10_isBox_18 (by decide) ?_
  obtain ⟨r1, S2, e3, hB⟩ := bd_of hB
  refine es_callVi (As := [.int z1, .int 1]) (t_X10_right hz0 e3) dX10_isBox_19 oX10_right w_1744 rfl hz0 rfl rfl (Nat.le_of_ble_eq_true rfl) rfl (am_fit.of (by decide)) ⟨Nat.zero_le _, Nat.zero_le _⟩ ?_
  obtain ⟨c4, hB⟩ := ck_of hB
  obtain rfl := Option.some.inj hB
  exact ev_zret dX10_isBox_22 rfl (isB_nar c4) (Nat.zero_le _) (Nat.zero_le _) (fun z => absurd z (hp_sealed _)) ⟨rfl, rfl⟩
theorem u_X10_isBox_17 {G : am_G} {N : Nat} {h0 : am_H} {out : Int32 × am_S} (z0 : Nat) (S : am_S) (hz0 : isC 10 z0 = true) (hB : b_X10_isBox_17 N z0 S = some out) : Ev G (am_R 2 0 0) (am_Φ G h0 0 0 (q_i out) q_n) mX10_isBox 0 0 17 [none, none] [.ref z0] (hp S) := by
  unfold b_X10_isBox_17 at hB
  refine ev_iconst 0 dX10_isBox_17 (by decide) ?_
  exact ev_ls (u_X10_isBox_18 z0 0 S hz0 hB) trivial
theorem t_X10_isBox {G : am_G} {N : Nat} {l0 : Nat} {l1 : Int32} {S : am_S} {out : Int32 × am_S} (hl0 : isC 10 l0 = true) (hB : f_X10_isBox N l0 l1 S = some out) : am_Met G 2 mX10_isBox 0 0 [.ref l0, .int l1] (hp S) (q_i out) q_n := by
  refine am_of (by decide +kernel) rfl rfl rfl (Nat.le_of_ble_eq_true rfl) ?_
  unfold f_X10_isBox at hB
  refine ev_aload_n dX10_isBox_0 rfl ?_
  refine ev_iload_n dX10_isBox_1 rfl ?_
  refine ev_iflt 17 dX10_isBox_2 (by decide) (fun q1 => ?_) (fun q1 => ?_)
  · rw [if_pos q1] at hB
    exact ev_ls (u_X10_isBox_17 l0 S hl0 hB) trivial
  · rw [if_neg q1] at hB
    refine ev_iload_n dX10_isBox_5 rfl ?_
    refine ev_aload_n dX10_isBox_6 rfl ?_
    refine es_geti k_10 1 dX10_isBox_7 (by decide) rfl (Or.inl w_1526) hl0 rfl ?_
    refine ev_icmpge 17 dX10_isBox_10 (by decide) (fun q2 => ?_) (fun q2 => ?_)
    · rw [if_pos q2] at hB
      exact ev_ls (u_X10_isBox_17 l0 S hl0 hB) trivial
    · rw [if_neg q2] at hB
      refine ev_iconst 1 dX10_isBox_13 (by decide) ?_
      refine ev_goto 18 dX10_isBox_14 (by decide) ?_
      exact ev_ls (u_X10_isBox_18 l0 1 S hl0 hB) trivial
def b_X10_isPerson_18 (N : Nat) (z0 : Nat) (z1 : Int32) (S : am_S) : Option (Int32 × am_S) := (bd (f_X10_right N z0 z1 1 S) (fun r1 S2 => (if isB r1 = true then some (r1, S2) else none)))
def b_X10_isPerson_17 (N : Nat) (z0 : Nat) (S : am_S) : Option (Int32 × am_S) := b_X10_isPerson_18 N z0 0 S
def f_X10_isPerson (N : Nat) (l0 : Nat) (l1 : Int32) (S : am_S) : Option (Int32 × am_S) := (if l1 < 0 then b_X10_isPerson_17 N l0 S else (if (sg S l0 2) ≤ l1 then b_X10_isPerson_17 N l0 S else b_X10_isPerson_18 N l0 1 S))
theorem u_X10_isPerson_18 {G : am_G} {N : Nat} {h0 : am_H} {out : Int32 × am_S} (z0 : Nat) (z1 : Int32) (S : am_S) (hz0 : isC 10 z0 = true) (hB : b_X10_isPerson_18 N z0 z1 S = some out) : Ev G (am_R 2 0 0) (am_Φ G h0 0 0 (q_i out) q_n) mX10_isPerson 0 0 18 [none, none] [.int z1, .ref z0] (hp S) := by
  unfold b_X10_isPerson_18 at hB
  refine ev_iconst 1 dX10_isPerson_18 (by decide) ?_
  obtain ⟨r1, S2, e3, hB⟩ := bd_of hB
  refine es_callVi (As := [.int z1, .int 1]) (t_X10_right hz0 e3) dX10_isPerson_19 oX10_right w_1744 rfl hz0 rfl rfl (Nat.le_of_ble_eq_true rfl) rfl (am_fit.of (by decide)) ⟨Nat.zero_le _, Nat.zero_le _⟩ ?_
  obtain ⟨c4, hB⟩ := ck_of hB
  obtain rfl := Option.some.inj hB
  exact ev_zret dX10_isPerson_22 rfl (isB_nar c4) (Nat.zero_le _) (Nat.zero_le _) (fun z => absurd z (hp_sealed _)) ⟨rfl, rfl⟩
theorem u_X10_isPerson_17 {G : am_G} {N : Nat} {h0 : am_H} {out : Int32 × am_S} (z0 : Nat) (S : am_S) (hz0 : isC 10 z0 = true) (hB : b_X10_isPerson_17 N z0 S = some out) : Ev G (am_R 2 0 0) (am_Φ G h0 0 0 (q_i out) q_n) mX10_isPerson 0 0 17 [none, none] [.ref z0] (hp S) := by
  unfold b_X10_isPerson_17 at hB
  refine ev_iconst 0 dX10_isPerson_17 (by decide) ?_
  exact ev_ls (u_X10_isPerson_18 z0 0 S hz0 hB) trivial
theorem t_X10_isPerson {G : am_G} {N : Nat} {l0 : Nat} {l1 : Int32} {S : am_S} {out : Int32 × am_S} (hl0 : isC 10 l0 = true) (hB : f_X10_isPerson N l0 l1 S = some out) : am_Met G 2 mX10_isPerson 0 0 [.ref l0, .int l1] (hp S) (q_i out) q_n := by
  refine am_of (by decide +kernel) rfl rfl rfl (Nat.le_of_ble_eq_true rfl) ?_
  unfold f_X10_isPerson at hB
  refine ev_aload_n dX10_isPerson_0 rfl ?_
  refine ev_iload_n dX10_isPerson_1 rfl ?_
  refine ev_iflt 17 dX10_isPerson_2 (by decide) (fun q1 => ?_) (fun q1 => ?_)
  · rw [if_pos q1] at hB
    exact ev_ls (u_X10_isPerson_17 l0 S hl0 hB) trivial
  · rw [if_neg q1] at hB
    refine ev_iload_n dX10_isPerson_5 rfl ?_
    refine ev_aload_n dX10_isPerson_6 rfl ?_
    refine es_geti k_10 2 dX10_isPerson_7 (by decide) rfl (Or.inl w_1527) hl0 rfl ?_
    refine ev_icmpge 17 dX10_isPerson_10 (by decide) (fun q2 => ?_) (fun q2 => ?_)
    · rw [if_pos q2] at hB
      exact ev_ls (u_X10_isPerson_17 l0 S hl0 hB) trivial
    · rw [if_neg q2] at hB
      refine ev_iconst 1 dX10_isPerson_13 (by decide) ?_
      refine ev_goto 18 dX10_isPerson_14 (by decide) ?_
      exact ev_ls (u_X10_isPerson_18 l0 1 S hl0 hB) trivial
def f_X10_isWhat (N : Nat) (l0 : Nat) (l1 : Int32) (l2 : Int32) (S : am_S) : Option (Int32 × am_S) := (bd (f_X10_within N l1 0 l2 S) (fun r1 S2 => (bd (f_X10_right N l0 r1 1 S2) (fun r4 S5 => (if isB r4 = true then some (r4, S5) else none)))))
theorem t_X10_isWhat {G : am_G} {N : Nat} {l0 : Nat} {l1 : Int32} {l2 : Int32} {S : am_S} {out : Int32 × am_S} (hl0 : isC 10 l0 = true) (hB : f_X10_isWhat N l0 l1 l2 S = some out) : am_Met G 2 mX10_isWhat 0 0 [.ref l0, .int l1, .int l2] (hp S) (q_i out) q_n := by
  refine am_of (by decide +kernel) rfl rfl rfl (Nat.le_of_ble_eq_true rfl) ?_
  unfold f_X10_isWhat at hB
  refine ev_aload_n dX10_isWhat_0 rfl ?_
  refine ev_iload_n dX10_isWhat_1 rfl ?_
  refine ev_iconst 0 dX10_isWhat_2 (by decide) ?_
  refine ev_iload_n dX10_isWhat_3 rfl ?_
  obtain ⟨r1, S2, e3, hB⟩ := bd_of hB
  refine es_callSi (As := [.int l1, .int 0, .int l2]) (t_X10_within e3) dX10_isWhat_4 oX10_within w_1875 rfl (Nat.le_of_ble_eq_true rfl) rfl (am_fit.of (by decide)) ⟨Nat.zero_le _, Nat.zero_le _⟩ ?_
  refine ev_iconst 1 dX10_isWhat_7 (by decide) ?_
  obtain ⟨r4, S5, e6, hB⟩ := bd_of hB
  refine es_callVi (As := [.int r1, .int 1]) (t_X10_right hl0 e6) dX10_isWhat_8 oX10_right w_1744 rfl hl0 rfl rfl (Nat.le_of_ble_eq_true rfl) rfl (am_fit.of (by decide)) ⟨Nat.zero_le _, Nat.zero_le _⟩ ?_
  obtain ⟨c7, hB⟩ := ck_of hB
  obtain rfl := Option.some.inj hB
  exact ev_zret dX10_isWhat_11 rfl (isB_nar c7) (Nat.zero_le _) (Nat.zero_le _) (fun z => absurd z (hp_sealed _)) ⟨rfl, rfl⟩
def f_X10_isDays (N : Nat) (l0 : Nat) (l1 : Int32) (l2 : Int32) (l3 : Int32) (S : am_S) : Option (Int32 × am_S) := (bd (f_X10_within N l1 l2 40 S) (fun r1 S2 => (bd (f_X10_right N l0 r1 l3 S2) (fun r4 S5 => (if isB r4 = true then some (r4, S5) else none)))))
theorem t_X10_isDays {G : am_G} {N : Nat} {l0 : Nat} {l1 : Int32} {l2 : Int32} {l3 : Int32} {S : am_S} {out : Int32 × am_S} (hl0 : isC 10 l0 = true) (hB : f_X10_isDays N l0 l1 l2 l3 S = some out) : am_Met G 2 mX10_isDays 0 0 [.ref l0, .int l1, .int l2, .int l3] (hp S) (q_i out) q_n := by
  refine am_of (by decide +kernel) rfl rfl rfl (Nat.le_of_ble_eq_true rfl) ?_
  unfold f_X10_isDays at hB
  refine ev_aload_n dX10_isDays_0 rfl ?_
  refine ev_iload_n dX10_isDays_1 rfl ?_
  refine ev_iload_n dX10_isDays_2 rfl ?_
  refine ev_bipush 40 dX10_isDays_3 (by decide) ?_
  obtain ⟨r1, S2, e3, hB⟩ := bd_of hB
  refine es_callSi (As := [.int l1, .int l2, .int 40]) (t_X10_within e3) dX10_isDays_5 oX10_within w_1875 rfl (Nat.le_of_ble_eq_true rfl) rfl (am_fit.of (by decide)) ⟨Nat.zero_le _, Nat.zero_le _⟩ ?_
  refine ev_iload_n dX10_isDays_8 rfl ?_
  obtain ⟨r4, S5, e6, hB⟩ := bd_of hB
  refine es_callVi (As := [.int r1, .int l3]) (t_X10_right hl0 e6) dX10_isDays_9 oX10_right w_1744 rfl hl0 rfl rfl (Nat.le_of_ble_eq_true rfl) rfl (am_fit.of (by decide)) ⟨Nat.zero_le _, Nat.zero_le _⟩ ?_
  obtain ⟨c7, hB⟩ := ck_of hB
  obtain rfl := Option.some.inj hB
  exact ev_zret dX10_isDays_12 rfl (isB_nar c7) (Nat.zero_le _) (Nat.zero_le _) (fun z => absurd z (hp_sealed _)) ⟨rfl, rfl⟩
def b_X10_nearBy_29 (N : Nat) (k4 : Nat → Int32 → Int32 → Int32 → am_S → Option (Int32 × am_S)) (l0 : Nat) (l1 : Int32) (l3 : Int32) (z0 : Int32) (z1 : Int32) (S : am_S) : Option (Int32 × am_S) := k4 l0 l1 (z0 ||| z1) (l3 + 1) S
def b_X10_nearBy_4 (N : Nat) : Nat → Nat → Int32 → Int32 → Int32 → am_S → Option (Int32 × am_S)
  | 0, _, _, _, _, _ => none
  | n + 1, l0, l1, l2, l3, S => (if (sg S l0 2) ≤ l3 then some (l2, S) else (bd (f_X10_boxOf N l0 l3 S) (fun r2 S3 => (if r2 = l1 then b_X10_nearBy_29 N (b_X10_nearBy_4 N n) l0 l1 l3 l2 ((1 : Int32) <<< (l3 &&& (31 : Int32))) S3 else b_X10_nearBy_29 N (b_X10_nearBy_4 N n) l0 l1 l3 l2 0 S3))))
def f_X10_nearBy (N : Nat) (l0 : Nat) (l1 : Int32) (S : am_S) : Option (Int32 × am_S) := b_X10_nearBy_4 N N l0 l1 0 0 S
theorem u_X10_nearBy_29 {G : am_G} {N : Nat} {h0 : am_H} {out : Int32 × am_S} {k4 : Nat → Int32 → Int32 → Int32 → am_S → Option (Int32 × am_S)} (hk4 : ∀ (l0 : Nat) (l1 : Int32) (l2 : Int32) (l3 : Int32) (S : am_S), isC 10 l0 = true → k4 l0 l1 l2 l3 S = some out → Ev G (am_R 3 0 0) (am_Φ G h0 0 0 (q_i out) q_n) mX10_nearBy 0 0 4 [some (.ref l0), some (.int l1), some (.int l2), some (.int l3)] [] (hp S)) (l0 : Nat) (l1 : Int32) (l3 : Int32) (z0 : Int32) (z1 : Int32) (S : am_S) (hl0 : isC 10 l0 = true) (hB : b_X10_nearBy_29 N k4 l0 l1 l3 z0 z1 S = some out) : Ev G (am_R 3 0 0) (am_Φ G h0 0 0 (q_i out) q_n) mX10_nearBy 0 0 29 [some (.ref l0), some (.int l1), none, some (.int l3)] [.int z1, .int z0] (hp S) := by
  unfold b_X10_nearBy_29 at hB
  refine ev_ior dX10_nearBy_29 ?_
  refine ev_istore_n dX10_nearBy_30 (by decide) rfl ?_
  refine es_iinc 1 dX10_nearBy_31 rfl (by decide) (by decide) rfl ?_
  refine ev_goto 4 dX10_nearBy_34 (by decide) ?_
  exact ev_ls (hk4 l0 l1 (z0 ||| z1) (l3 + 1) S hl0 hB) (And.intro rfl (And.intro rfl (And.intro rfl (And.intro rfl trivial))))
theorem u_X10_nearBy_4 {G : am_G} {N : Nat} {h0 : am_H} {out : Int32 × am_S} : ∀ (n : Nat) (l0 : Nat) (l1 : Int32) (l2 : Int32) (l3 : Int32) (S : am_S), isC 10 l0 = true → b_X10_nearBy_4 N n l0 l1 l2 l3 S = some out → Ev G (am_R 3 0 0) (am_Φ G h0 0 0 (q_i out) q_n) mX10_nearBy 0 0 4 [some (.ref l0), some (.int l1), some (.int l2), some (.int l3)] [] (hp S) := by
  intro n
  induction n with
  | zero =>
    intro l0 l1 l2 l3 S hl0 hB
    exact absurd (show none = some out from hB) (fun q => by cases q)
  | succ n ih =>
    intro l0 l1 l2 l3 S hl0 hB
    unfold b_X10_nearBy_4 at hB
    refine ev_iload_n dX10_nearBy_4 rfl ?_
    refine ev_aload_n dX10_nearBy_5 rfl ?_
    refine es_geti k_10 2 dX10_nearBy_6 (by decide) rfl (Or.inl w_1527) hl0 rfl ?_
    refine ev_icmpge 37 dX10_nearBy_9 (by decide) (fun q1 => ?_) (fun q1 => ?_)
    · rw [if_pos q1] at hB
      refine ev_iload_n dX10_nearBy_37 rfl ?_
      obtain rfl := Option.some.inj hB
      exact ev_iret dX10_nearBy_38 rfl (Nat.zero_le _) (Nat.zero_le _) (fun z => absurd z (hp_sealed _)) ⟨rfl, rfl⟩
    · rw [if_neg q1] at hB
      refine ev_iload_n dX10_nearBy_12 rfl ?_
      refine ev_aload_n dX10_nearBy_13 rfl ?_
      refine ev_iload_n dX10_nearBy_14 rfl ?_
      obtain ⟨r2, S3, e4, hB⟩ := bd_of hB
      refine es_callVi (As := [.int l3]) (t_X10_boxOf hl0 e4) dX10_nearBy_15 oX10_boxOf w_1926 rfl hl0 rfl rfl (Nat.le_of_ble_eq_true rfl) rfl (am_fit.of (by decide)) ⟨Nat.zero_le _, Nat.zero_le _⟩ ?_
      refine ev_iload_n dX10_nearBy_18 rfl ?_
      refine ev_icmpne 28 dX10_nearBy_19 (by decide) (fun q5 => ?_) (fun q5 => ?_)
      · rw [if_neg q5] at hB
        refine ev_iconst 0 dX10_nearBy_28 (by decide) ?_
        exact ev_ls (u_X10_nearBy_29 ih l0 l1 l3 l2 0 S3 hl0 hB) (And.intro rfl (And.intro rfl (And.intro rfl trivial)))
      · rw [if_pos q5] at hB
        refine ev_iconst 1 dX10_nearBy_22 (by decide) ?_
        refine ev_iload_n dX10_nearBy_23 rfl ?_
        refine ev_ishl dX10_nearBy_24 ?_
        refine ev_goto 29 dX10_nearBy_25 (by decide) ?_
        exact ev_ls (u_X10_nearBy_29 ih l0 l1 l3 l2 ((1 : Int32) <<< (l3 &&& (31 : Int32))) S3 hl0 hB) (And.intro rfl (And.intro rfl (And.intro rfl trivial)))
theorem t_X10_nearBy {G : am_G} {N : Nat} {l0 : Nat} {l1 : Int32} {S : am_S} {out : Int32 × am_S} (hl0 : isC 10 l0 = true) (hB : f_X10_nearBy N l0 l1 S = some out) : am_Met G 3 mX10_nearBy 0 0 [.ref l0, .int l1] (hp S) (q_i out) q_n := by
  refine am_of (by decide +kernel) rfl rfl rfl (Nat.le_of_ble_eq_true rfl) ?_
  unfold f_X10_nearBy at hB
  refine ev_iconst 0 dX10_nearBy_0 (by decide) ?_
  refine ev_istore_n dX10_nearBy_1 (by decide) rfl ?_
  refine ev_iconst 0 dX10_nearBy_2 (by decide) ?_
  refine ev_istore_n dX10_nearBy_3 (by decide) rfl ?_
  exact ev_ls (u_X10_nearBy_4 N l0 l1 0 0 S hl0 hB) (And.intro rfl (And.intro rfl (And.intro rfl (And.intro rfl trivial))))
def b_X10_farthest_61 (N : Nat) (k4 : Nat → Int32 → Int32 → Int32 → am_S → Option (Int32 × am_S)) (l0 : Nat) (l1 : Int32) (l2 : Int32) (l3 : Int32) (S : am_S) : Option (Int32 × am_S) := k4 l0 l1 l2 (l3 + 1) S
def b_X10_farthest_59 (N : Nat) (k4 : Nat → Int32 → Int32 → Int32 → am_S → Option (Int32 × am_S)) (l0 : Nat) (l1 : Int32) (l3 : Int32) (S : am_S) : Option (Int32 × am_S) := b_X10_farthest_61 N (k4) l0 l1 l3 l3 S
def b_X10_farthest_4 (N : Nat) : Nat → Nat → Int32 → Int32 → Int32 → am_S → Option (Int32 × am_S)
  | 0, _, _, _, _, _ => none
  | n + 1, l0, l1, l2, l3, S => (if (sg S l0 2) ≤ l3 then some (l2, S) else (bd (f_X10_boxOf N l0 l3 S) (fun r2 S3 => (if r2 = l1 then (if l2 = (-1) then b_X10_farthest_59 N (b_X10_farthest_4 N n) l0 l1 l3 S3 else (if inb l3 (ln (rf l0 8)) = true then (if inb l1 (ln (rf l0 7)) = true then (bd (f_X10_off N (sg S3 (rf l0 8) (Int32.toNatClampNeg l3)) (sg S3 (rf l0 7) (Int32.toNatClampNeg l1)) S3) (fun r9 S10 => (if inb l2 (ln (rf l0 8)) = true then (if inb l1 (ln (rf l0 7)) = true then (bd (f_X10_off N (sg S10 (rf l0 8) (Int32.toNatClampNeg l2)) (sg S10 (rf l0 7) (Int32.toNatClampNeg l1)) S10) (fun r14 S15 => (if r9 ≤ r14 then b_X10_farthest_61 N (b_X10_farthest_4 N n) l0 l1 l2 l3 S15 else b_X10_farthest_59 N (b_X10_farthest_4 N n) l0 l1 l3 S15))) else none) else none))) else none) else none)) else b_X10_farthest_61 N (b_X10_farthest_4 N n) l0 l1 l2 l3 S3))))
def f_X10_farthest (N : Nat) (l0 : Nat) (l1 : Int32) (S : am_S) : Option (Int32 × am_S) := b_X10_farthest_4 N N l0 l1 (-1) 0 S
theorem u_X10_farthest_61 {G : am_G} {N : Nat} {h0 : am_H} {out : Int32 × am_S} {k4 : Nat → Int32 → Int32 → Int32 → am_S → Option (Int32 × am_S)} (hk4 : ∀ (l0 : Nat) (l1 : Int32) (l2 : Int32) (l3 : Int32) (S : am_S), isC 10 l0 = true → k4 l0 l1 l2 l3 S = some out → Ev G (am_R 3 0 0) (am_Φ G h0 0 0 (q_i out) q_n) mX10_farthest 0 0 4 [some (.ref l0), some (.int l1), some (.int l2), some (.int l3)] [] (hp S)) (l0 : Nat) (l1 : Int32) (l2 : Int32) (l3 : Int32) (S : am_S) (hl0 : isC 10 l0 = true) (hB : b_X10_farthest_61 N k4 l0 l1 l2 l3 S = some out) : Ev G (am_R 3 0 0) (am_Φ G h0 0 0 (q_i out) q_n) mX10_farthest 0 0 61 [some (.ref l0), some (.int l1), some (.int l2), some (.int l3)] [] (hp S) := by
  unfold b_X10_farthest_61 at hB
  refine es_iinc 1 dX10_farthest_61 rfl (by decide) (by decide) rfl ?_
  refine ev_goto 4 dX10_farthest_64 (by decide) ?_
  exact ev_ls (hk4 l0 l1 l2 (l3 + 1) S hl0 hB) (And.intro rfl (And.intro rfl (And.intro rfl (And.intro rfl trivial))))
theorem u_X10_farthest_59 {G : am_G} {N : Nat} {h0 : am_H} {out : Int32 × am_S} {k4 : Nat → Int32 → Int32 → Int32 → am_S → Option (Int32 × am_S)} (hk4 : ∀ (l0 : Nat) (l1 : Int32) (l2 : Int32) (l3 : Int32) (S : am_S), isC 10 l0 = true → k4 l0 l1 l2 l3 S = some out → Ev G (am_R 3 0 0) (am_Φ G h0 0 0 (q_i out) q_n) mX10_farthest 0 0 4 [some (.ref l0), some (.int l1), some (.int l2), some (.int l3)] [] (hp S)) (l0 : Nat) (l1 : Int32) (l3 : Int32) (S : am_S) (hl0 : isC 10 l0 = true) (hB : b_X10_farthest_59 N k4 l0 l1 l3 S = some out) : Ev G (am_R 3 0 0) (am_Φ G h0 0 0 (q_i out) q_n) mX10_farthest 0 0 59 [some (.ref l0), some (.int l1), none, some (.int l3)] [] (hp S) := by
  unfold b_X10_farthest_59 at hB
  refine ev_iload_n dX10_farthest_59 rfl ?_
  refine ev_istore_n dX10_farthest_60 (by decide) rfl ?_
  exact ev_ls (u_X10_farthest_61 hk4 l0 l1 l3 l3 S hl0 hB) (And.intro rfl (And.intro rfl (And.intro rfl (And.intro rfl trivial))))
theorem u_X10_farthest_4 {G : am_G} {N : Nat} {h0 : am_H} {out : Int32 × am_S} : ∀ (n : Nat) (l0 : Nat) (l1 : Int32) (l2 : Int32) (l3 : Int32) (S : am_S), isC 10 l0 = true → b_X10_farthest_4 N n l0 l1 l2 l3 S = some out → Ev G (am_R 3 0 0) (am_Φ G h0 0 0 (q_i out) q_n) mX10_farthest 0 0 4 [some (.ref l0), some (.int l1), some (.int l2), some (.int l3)] [] (hp S) := by
  intro n
  induction n with
  | zero =>
    intro l0 l1 l2 l3 S hl0 hB
    exact absurd (show none = some out from hB) (fun q => by cases q)
  | succ n ih =>
    intro l0 l1 l2 l3 S hl0 hB
    unfold b_X10_farthest_4 at hB
    refine ev_iload_n dX10_farthest_4 rfl ?_
    refine ev_aload_n dX10_farthest_5 rfl ?_
    refine es_geti k_10 2 dX10_farthest_6 (by decide) rfl (Or.inl w_1527) hl0 rfl ?_
    refine ev_icmpge 67 dX10_farthest_9 (by decide) (fun q1 => ?_) (fun q1 => ?_)
    · rw [if_pos q1] at hB
      refine ev_iload_n dX10_farthest_67 rfl ?_
      obtain rfl := Option.some.inj hB
      exact ev_iret dX10_farthest_68 rfl (Nat.zero_le _) (Nat.zero_le _) (fun z => absurd z (hp_sealed _)) ⟨rfl, rfl⟩
    · rw [if_neg q1] at hB
      refine ev_aload_n dX10_farthest_12 rfl ?_
      refine ev_iload_n dX10_farthest_13 rfl ?_
      obtain ⟨r2, S3, e4, hB⟩ := bd_of hB
      refine es_callVi (As := [.int l3]) (t_X10_boxOf hl0 e4) dX10_farthest_14 oX10_boxOf w_1926 rfl hl0 rfl rfl (Nat.le_of_ble_eq_true rfl) rfl (am_fit.of (by decide)) ⟨Nat.zero_le _, Nat.zero_le _⟩ ?_
      refine ev_iload_n dX10_farthest_17 rfl ?_
      refine ev_icmpne 61 dX10_farthest_18 (by decide) (fun q5 => ?_) (fun q5 => ?_)
      · rw [if_neg q5] at hB
        exact ev_ls (u_X10_farthest_61 ih l0 l1 l2 l3 S3 hl0 hB) (And.intro rfl (And.intro rfl (And.intro rfl (And.intro rfl trivial))))
      · rw [if_pos q5] at hB
        refine ev_iload_n dX10_farthest_21 rfl ?_
        refine ev_iconst (-1) dX10_farthest_22 (by decide) ?_
        refine ev_icmpeq 59 dX10_farthest_23 (by decide) (fun q6 => ?_) (fun q6 => ?_)
        · rw [if_pos q6] at hB
          exact ev_ls (u_X10_farthest_59 ih l0 l1 l3 S3 hl0 hB) (And.intro rfl (And.intro rfl (And.intro rfl trivial)))
        · rw [if_neg q6] at hB
          refine ev_aload_n dX10_farthest_26 rfl ?_
          refine es_getr k_10 8 dX10_farthest_27 (by decide) rfl (Or.inl w_1533) hl0 rfl ?_
          refine ev_iload_n dX10_farthest_30 rfl ?_
          obtain ⟨c7, hB⟩ := ck_of hB
          refine es_iald dX10_farthest_31 (tr_10_8 hl0) c7 ?_
          refine ev_aload_n dX10_farthest_32 rfl ?_
          refine es_getr k_10 7 dX10_farthest_33 (by decide) rfl (Or.inl w_1532) hl0 rfl ?_
          refine ev_iload_n dX10_farthest_36 rfl ?_
          obtain ⟨c8, hB⟩ := ck_of hB
          refine es_iald dX10_farthest_37 (tr_10_7 hl0) c8 ?_
          obtain ⟨r9, S10, e11, hB⟩ := bd_of hB
          refine es_callSi (As := [.int (sg S3 (rf l0 8) (Int32.toNatClampNeg l3)), .int (sg S3 (rf l0 7) (Int32.toNatClampNeg l1))]) (t_X10_off e11) dX10_farthest_38 oX10_off w_1930 rfl (Nat.le_of_ble_eq_true rfl) rfl (am_fit.of (by decide)) ⟨Nat.zero_le _, Nat.zero_le _⟩ ?_
          refine ev_aload_n dX10_farthest_41 rfl ?_
          refine es_getr k_10 8 dX10_farthest_42 (by decide) rfl (Or.inl w_1533) hl0 rfl ?_
          refine ev_iload_n dX10_farthest_45 rfl ?_
          obtain ⟨c12, hB⟩ := ck_of hB
          refine es_iald dX10_farthest_46 (tr_10_8 hl0) c12 ?_
          refine ev_aload_n dX10_farthest_47 rfl ?_
          refine es_getr k_10 7 dX10_farthest_48 (by decide) rfl (Or.inl w_1532) hl0 rfl ?_
          refine ev_iload_n dX10_farthest_51 rfl ?_
          obtain ⟨c13, hB⟩ := ck_of hB
          refine es_iald dX10_farthest_52 (tr_10_7 hl0) c13 ?_
          obtain ⟨r14, S15, e16, hB⟩ := bd_of hB
          refine es_callSi (As := [.int (sg S10 (rf l0 8) (Int32.toNatClampNeg l2)), .int (sg S10 (rf l0 7) (Int32.toNatClampNeg l1))]) (t_X10_off e16) dX10_farthest_53 oX10_off w_1930 rfl (Nat.le_of_ble_eq_true rfl) rfl (am_fit.of (by decide)) ⟨Nat.zero_le _, Nat.zero_le _⟩ ?_
          refine ev_icmple 61 dX10_farthest_56 (by decide) (fun q17 => ?_) (fun q17 => ?_)
          · rw [if_pos q17] at hB
            exact ev_ls (u_X10_farthest_61 ih l0 l1 l2 l3 S15 hl0 hB) (And.intro rfl (And.intro rfl (And.intro rfl (And.intro rfl trivial))))
          · rw [if_neg q17] at hB
            exact ev_ls (u_X10_farthest_59 ih l0 l1 l3 S15 hl0 hB) (And.intro rfl (And.intro rfl (And.intro rfl trivial)))
theorem t_X10_farthest {G : am_G} {N : Nat} {l0 : Nat} {l1 : Int32} {S : am_S} {out : Int32 × am_S} (hl0 : isC 10 l0 = true) (hB : f_X10_farthest N l0 l1 S = some out) : am_Met G 3 mX10_farthest 0 0 [.ref l0, .int l1] (hp S) (q_i out) q_n := by
  refine am_of (by decide +kernel) rfl rfl rfl (Nat.le_of_ble_eq_true rfl) ?_
  unfold f_X10_farthest at hB
  refine ev_iconst (-1) dX10_farthest_0 (by decide) ?_
  refine ev_istore_n dX10_farthest_1 (by decide) rfl ?_
  refine ev_iconst 0 dX10_farthest_2 (by decide) ?_
  refine ev_istore_n dX10_farthest_3 (by decide) rfl ?_
  exact ev_ls (u_X10_farthest_4 N l0 l1 (-1) 0 S hl0 hB) (And.intro rfl (And.intro rfl (And.intro rfl (And.intro rfl trivial))))
def b_X10_box_22 (N : Nat)  (S : am_S) : Option (Int32 × am_S) := some (0, S)
def b_X10_box_85 (N : Nat) (z0 : Int32) (S : am_S) : Option (Int32 × am_S) := some (z0, S)
def f_X10_box (N : Nat) (l0 : Nat) (l1 : Int32) (l2 : Int32) (S : am_S) : Option (Int32 × am_S) := (bd (f_X10_isBox N l0 l1 (sp S l0 0 0)) (fun r1 S2 => (if r1 = 0 then b_X10_box_22 N S2 else (bd (f_X10_isWhat N l0 l2 4 S2) (fun r5 S6 => (if r5 = 0 then b_X10_box_22 N S6 else (if l2 = 0 then (if inb l1 (ln (rf l0 7)) = true then b_X10_box_85 N (sg S6 (rf l0 7) (Int32.toNatClampNeg l1)) S6 else none) else (if l2 = 1 then (if inb (2 + l1) (ln (rf l0 46)) = true then b_X10_box_85 N (sg S6 (rf l0 46) (Int32.toNatClampNeg (2 + l1))) S6 else none) else (if l2 = 2 then (bd (f_X10_heldIn N l0 0 l1 S6) (fun r19 S20 => b_X10_box_85 N r19 S20)) else (if l2 = 3 then (bd (f_X10_nearBy N l0 l1 S6) (fun r16 S17 => b_X10_box_85 N r16 S17)) else (bd (f_X10_farthest N l0 l1 S6) (fun r13 S14 => b_X10_box_85 N r13 S14))))))))))))
theorem u_X10_box_22 {G : am_G} {N : Nat} {h0 : am_H} {out : Int32 × am_S}  (S : am_S) (hB : b_X10_box_22 N  S = some out) : Ev G (am_R 4 0 0) (am_Φ G h0 0 0 (q_i out) q_n) mX10_box 0 0 22 [none, none, none] [] (hp S) := by
  unfold b_X10_box_22 at hB
  refine ev_iconst 0 dX10_box_22 (by decide) ?_
  obtain rfl := Option.some.inj hB
  exact ev_iret dX10_box_23 rfl (Nat.zero_le _) (Nat.zero_le _) (fun z => absurd z (hp_sealed _)) ⟨rfl, rfl⟩
theorem u_X10_box_85 {G : am_G} {N : Nat} {h0 : am_H} {out : Int32 × am_S} (z0 : Int32) (S : am_S) (hB : b_X10_box_85 N z0 S = some out) : Ev G (am_R 4 0 0) (am_Φ G h0 0 0 (q_i out) q_n) mX10_box 0 0 85 [none, none, none] [.int z0] (hp S) := by
  unfold b_X10_box_85 at hB
  obtain rfl := Option.some.inj hB
  exact ev_iret dX10_box_85 rfl (Nat.zero_le _) (Nat.zero_le _) (fun z => absurd z (hp_sealed _)) ⟨rfl, rfl⟩
theorem t_X10_box {G : am_G} {N : Nat} {l0 : Nat} {l1 : Int32} {l2 : Int32} {S : am_S} {out : Int32 × am_S} (hl0 : isC 10 l0 = true) (hB : f_X10_box N l0 l1 l2 S = some out) : am_Met G 4 mX10_box 0 0 [.ref l0, .int l1, .int l2] (hp S) (q_i out) q_n := by
  refine am_of (by decide +kernel) rfl rfl rfl (Nat.le_of_ble_eq_true rfl) ?_
  unfold f_X10_box at hB
  refine ev_aload_n dX10_box_0 rfl ?_
  refine ev_iconst 0 dX10_box_1 (by decide) ?_
  refine es_puti k_10 0 dX10_box_2 (by decide) rfl (Or.inl w_1525) rfl rfl hl0 rfl ?_
  refine ev_aload_n dX10_box_5 rfl ?_
  refine ev_iload_n dX10_box_6 rfl ?_
  obtain ⟨r1, S2, e3, hB⟩ := bd_of hB
  refine es_callVi (As := [.int l1]) (t_X10_isBox hl0 e3) dX10_box_7 oX10_isBox w_1914 rfl hl0 rfl rfl (Nat.le_of_ble_eq_true rfl) rfl (am_fit.of (by decide)) ⟨Nat.zero_le _, Nat.zero_le _⟩ ?_
  refine ev_ifeq 22 dX10_box_10 (by decide) (fun q4 => ?_) (fun q4 => ?_)
  · rw [if_pos q4] at hB
    exact ev_ls (u_X10_box_22 S2 hB) trivial
  · rw [if_neg q4] at hB
    refine ev_aload_n dX10_box_13 rfl ?_
    refine ev_iload_n dX10_box_14 rfl ?_
    refine ev_iconst 4 dX10_box_15 (by decide) ?_
    obtain ⟨r5, S6, e7, hB⟩ := bd_of hB
    refine es_callVi (As := [.int l2, .int 4]) (t_X10_isWhat hl0 e7) dX10_box_16 oX10_isWhat w_1918 rfl hl0 rfl rfl (Nat.le_of_ble_eq_true rfl) rfl (am_fit.of (by decide)) ⟨Nat.zero_le _, Nat.zero_le _⟩ ?_
    refine ev_ifne 24 dX10_box_19 (by decide) (fun q8 => ?_) (fun q8 => ?_)
    · rw [if_neg q8] at hB
      refine ev_iload_n dX10_box_24 rfl ?_
      refine ev_ifne 37 dX10_box_25 (by decide) (fun q9 => ?_) (fun q9 => ?_)
      · rw [if_neg q9] at hB
        refine ev_iload_n dX10_box_37 rfl ?_
        refine ev_iconst 1 dX10_box_38 (by decide) ?_
        refine ev_icmpne 53 dX10_box_39 (by decide) (fun q10 => ?_) (fun q10 => ?_)
        · rw [if_neg q10] at hB
          refine ev_iload_n dX10_box_53 rfl ?_
          refine ev_iconst 2 dX10_box_54 (by decide) ?_
          refine ev_icmpne 67 dX10_box_55 (by decide) (fun q11 => ?_) (fun q11 => ?_)
          · rw [if_neg q11] at hB
            refine ev_iload_n dX10_box_67 rfl ?_
            refine ev_iconst 3 dX10_box_68 (by decide) ?_
            refine ev_icmpne 80 dX10_box_69 (by decide) (fun q12 => ?_) (fun q12 => ?_)
            · rw [if_neg q12] at hB
              refine ev_aload_n dX10_box_80 rfl ?_
              refine ev_iload_n dX10_box_81 rfl ?_
              obtain ⟨r13, S14, e15, hB⟩ := bd_of hB
              refine es_callVi (As := [.int l1]) (t_X10_farthest hl0 e15) dX10_box_82 oX10_farthest w_1933 rfl hl0 rfl rfl (Nat.le_of_ble_eq_true rfl) rfl (am_fit.of (by decide)) ⟨Nat.zero_le _, Nat.zero_le _⟩ ?_
              exact ev_ls (u_X10_box_85 r13 S14 hB) trivial
            · rw [if_pos q12] at hB
              refine ev_aload_n dX10_box_72 rfl ?_
              refine ev_iload_n dX10_box_73 rfl ?_
              obtain ⟨r16, S17, e18, hB⟩ := bd_of hB
              refine es_callVi (As := [.int l1]) (t_X10_nearBy hl0 e18) dX10_box_74 oX10_nearBy w_1922 rfl hl0 rfl rfl (Nat.le_of_ble_eq_true rfl) rfl (am_fit.of (by decide)) ⟨Nat.zero_le _, Nat.zero_le _⟩ ?_
              refine ev_goto 85 dX10_box_77 (by decide) ?_
              exact ev_ls (u_X10_box_85 r16 S17 hB) trivial
          · rw [if_pos q11] at hB
            refine ev_aload_n dX10_box_58 rfl ?_
            refine ev_iconst 0 dX10_box_59 (by decide) ?_
            refine ev_iload_n dX10_box_60 rfl ?_
            obtain ⟨r19, S20, e21, hB⟩ := bd_of hB
            refine es_callVi (As := [.int 0, .int l1]) (t_X10_heldIn hl0 e21) dX10_box_61 oX10_heldIn w_1890 rfl hl0 rfl rfl (Nat.le_of_ble_eq_true rfl) rfl (am_fit.of (by decide)) ⟨Nat.zero_le _, Nat.zero_le _⟩ ?_
            refine ev_goto 85 dX10_box_64 (by decide) ?_
            exact ev_ls (u_X10_box_85 r19 S20 hB) trivial
        · rw [if_pos q10] at hB
          refine ev_aload_n dX10_box_42 rfl ?_
          refine es_getr k_10 46 dX10_box_43 (by decide) rfl (Or.inl w_1571) hl0 rfl ?_
          refine ev_iconst 2 dX10_box_46 (by decide) ?_
          refine ev_iload_n dX10_box_47 rfl ?_
          refine ev_iadd dX10_box_48 ?_
          obtain ⟨c22, hB⟩ := ck_of hB
          refine es_iald dX10_box_49 (tr_10_46 hl0) c22 ?_
          refine ev_goto 85 dX10_box_50 (by decide) ?_
          exact ev_ls (u_X10_box_85 (sg S6 (rf l0 46) (Int32.toNatClampNeg (2 + l1))) S6 hB) trivial
      · rw [if_pos q9] at hB
        refine ev_aload_n dX10_box_28 rfl ?_
        refine es_getr k_10 7 dX10_box_29 (by decide) rfl (Or.inl w_1532) hl0 rfl ?_
        refine ev_iload_n dX10_box_32 rfl ?_
        obtain ⟨c23, hB⟩ := ck_of hB
        refine es_iald dX10_box_33 (tr_10_7 hl0) c23 ?_
        refine ev_goto 85 dX10_box_34 (by decide) ?_
        exact ev_ls (u_X10_box_85 (sg S6 (rf l0 7) (Int32.toNatClampNeg l1)) S6 hB) trivial
    · rw [if_pos q8] at hB
      exact ev_ls (u_X10_box_22 S6 hB) trivial
def b_X10_person_23 (N : Nat)  (S : am_S) : Option (Int32 × am_S) := some (0, S)
def b_X10_person_152 (N : Nat) (z0 : Int32) (S : am_S) : Option (Int32 × am_S) := some (z0, S)
def f_X10_person (N : Nat) (l0 : Nat) (l1 : Int32) (l2 : Int32) (S : am_S) : Option (Int32 × am_S) := (bd (f_X10_isPerson N l0 l1 (sp S l0 0 0)) (fun r1 S2 => (if r1 = 0 then b_X10_person_23 N S2 else (bd (f_X10_isWhat N l0 l2 7 S2) (fun r5 S6 => (if r5 = 0 then b_X10_person_23 N S6 else (if l2 = 0 then (if inb l1 (ln (rf l0 8)) = true then some ((sg S6 (rf l0 8) (Int32.toNatClampNeg l1)), S6) else none) else (if l2 = 1 then (if inb l1 (ln (rf l0 9)) = true then some ((sg S6 (rf l0 9) (Int32.toNatClampNeg l1)), S6) else none) else (if l2 = 2 then (if inb (72 + l1) (ln (rf l0 46)) = true then some ((sg S6 (rf l0 46) (Int32.toNatClampNeg (72 + l1))), S6) else none) else (if l2 = 3 then (if inb (56 + l1) (ln (rf l0 46)) = true then some ((sg S6 (rf l0 46) (Int32.toNatClampNeg (56 + l1))), S6) else none) else (if l2 = 4 then (if inb (64 + l1) (ln (rf l0 46)) = true then some ((sg S6 (rf l0 46) (Int32.toNatClampNeg (64 + l1))), S6) else none) else (if l2 = 5 then (bd (f_X10_boxOf N l0 l1 S6) (fun r19 S20 => some (r19, S20))) else (if l2 = 6 then (bd (f_X10_fansOf N l0 l1 S6) (fun r23 S24 => some (r23, S24))) else (bd (f_X10_boxOf N l0 l1 S6) (fun r27 S28 => (if r27 = (-1) then b_X10_person_152 N 0 S28 else (bd (f_X10_boxOf N l0 l1 S28) (fun r31 S32 => (bd (f_X10_nearBy N l0 r31 S32) (fun r34 S35 => b_X10_person_152 N (r34 &&& (((1 : Int32) <<< (l1 &&& (31 : Int32))) ^^^ (-1))) S35))))))))))))))))))))
theorem u_X10_person_23 {G : am_G} {N : Nat} {h0 : am_H} {out : Int32 × am_S}  (S : am_S) (hB : b_X10_person_23 N  S = some out) : Ev G (am_R 4 0 0) (am_Φ G h0 0 0 (q_i out) q_n) mX10_person 0 0 23 [none, none, none] [] (hp S) := by
  unfold b_X10_person_23 at hB
  refine ev_iconst 0 dX10_person_23 (by decide) ?_
  obtain rfl := Option.some.inj hB
  exact ev_iret dX10_person_24 rfl (Nat.zero_le _) (Nat.zero_le _) (fun z => absurd z (hp_sealed _)) ⟨rfl, rfl⟩
theorem u_X10_person_152 {G : am_G} {N : Nat} {h0 : am_H} {out : Int32 × am_S} (z0 : Int32) (S : am_S) (hB : b_X10_person_152 N z0 S = some out) : Ev G (am_R 4 0 0) (am_Φ G h0 0 0 (q_i out) q_n) mX10_person 0 0 152 [none, none, none] [.int z0] (hp S) := by
  unfold b_X10_person_152 at hB
  obtain rfl := Option.some.inj hB
  exact ev_iret dX10_person_152 rfl (Nat.zero_le _) (Nat.zero_le _) (fun z => absurd z (hp_sealed _)) ⟨rfl, rfl⟩
theorem t_X10_person {G : am_G} {N : Nat} {l0 : Nat} {l1 : Int32} {l2 : Int32} {S : am_S} {out : Int32 × am_S} (hl0 : isC 10 l0 = true) (hB : f_X10_person N l0 l1 l2 S = some out) : am_Met G 4 mX10_person 0 0 [.ref l0, .int l1, .int l2] (hp S) (q_i out) q_n := by
  refine am_of (by decide +kernel) rfl rfl rfl (Nat.le_of_ble_eq_true rfl) ?_
  unfold f_X10_person at hB
  refine ev_aload_n dX10_person_0 rfl ?_
  refine ev_iconst 0 dX10_person_1 (by decide) ?_
  refine es_puti k_10 0 dX10_person_2 (by decide) rfl (Or.inl w_1525) rfl rfl hl0 rfl ?_
  refine ev_aload_n dX10_person_5 rfl ?_
  refine ev_iload_n dX10_person_6 rfl ?_
  obtain ⟨r1, S2, e3, hB⟩ := bd_of hB
  refine es_callVi (As := [.int l1]) (t_X10_isPerson hl0 e3) dX10_person_7 oX10_isPerson w_1941 rfl hl0 rfl rfl (Nat.le_of_ble_eq_true rfl) rfl (am_fit.of (by decide)) ⟨Nat.zero_le _, Nat.zero_le _⟩ ?_
  refine ev_ifeq 23 dX10_person_10 (by decide) (fun q4 => ?_) (fun q4 => ?_)
  · rw [if_pos q4] at hB
    exact ev_ls (u_X10_person_23 S2 hB) trivial
  · rw [if_neg q4] at hB
    refine ev_aload_n dX10_person_13 rfl ?_
    refine ev_iload_n dX10_person_14 rfl ?_
    refine ev_bipush 7 dX10_person_15 (by decide) ?_
    obtain ⟨r5, S6, e7, hB⟩ := bd_of hB
    refine es_callVi (As := [.int l2, .int 7]) (t_X10_isWhat hl0 e7) dX10_person_17 oX10_isWhat w_1918 rfl hl0 rfl rfl (Nat.le_of_ble_eq_true rfl) rfl (am_fit.of (by decide)) ⟨Nat.zero_le _, Nat.zero_le _⟩ ?_
    refine ev_ifne 25 dX10_person_20 (by decide) (fun q8 => ?_) (fun q8 => ?_)
    · rw [if_neg q8] at hB
      refine ev_iload_n dX10_person_25 rfl ?_
      by_cases q10 : l2 = 0
      · rw [if_pos q10] at hB
        refine ev_tableIn (off := 42) 68 dX10_person_26 (by rw [q10]; decide) (by rw [q10]; decide) (by rw [q10]; rfl) (by decide) ?_
        refine ev_aload_n dX10_person_68 rfl ?_
        refine es_getr k_10 8 dX10_person_69 (by decide) rfl (Or.inl w_1533) hl0 rfl ?_
        refine ev_iload_n dX10_person_72 rfl ?_
        obtain ⟨c9, hB⟩ := ck_of hB
        refine es_iald dX10_person_73 (tr_10_8 hl0) c9 ?_
        obtain rfl := Option.some.inj hB
        exact ev_iret dX10_person_74 rfl (Nat.zero_le _) (Nat.zero_le _) (fun z => absurd z (hp_sealed _)) ⟨rfl, rfl⟩
      rw [if_neg q10] at hB
      have tq10 := am_nt (k := 0) q10 (by decide)
      by_cases q12 : l2 = 1
      · rw [if_pos q12] at hB
        refine ev_tableIn (off := 49) 75 dX10_person_26 (by rw [q12]; decide) (by rw [q12]; decide) (by rw [q12]; rfl) (by decide) ?_
        refine ev_aload_n dX10_person_75 rfl ?_
        refine es_getr k_10 9 dX10_person_76 (by decide) rfl (Or.inl w_1534) hl0 rfl ?_
        refine ev_iload_n dX10_person_79 rfl ?_
        obtain ⟨c11, hB⟩ := ck_of hB
        refine es_iald dX10_person_80 (tr_10_9 hl0) c11 ?_
        obtain rfl := Option.some.inj hB
        exact ev_iret dX10_person_81 rfl (Nat.zero_le _) (Nat.zero_le _) (fun z => absurd z (hp_sealed _)) ⟨rfl, rfl⟩
      rw [if_neg q12] at hB
      have tq12 := am_nt (k := 1) q12 (by decide)
      by_cases q14 : l2 = 2
      · rw [if_pos q14] at hB
        refine ev_tableIn (off := 56) 82 dX10_person_26 (by rw [q14]; decide) (by rw [q14]; decide) (by rw [q14]; rfl) (by decide) ?_
        refine ev_aload_n dX10_person_82 rfl ?_
        refine es_getr k_10 46 dX10_person_83 (by decide) rfl (Or.inl w_1571) hl0 rfl ?_
        refine ev_bipush 72 dX10_person_86 (by decide) ?_
        refine ev_iload_n dX10_person_88 rfl ?_
        refine ev_iadd dX10_person_89 ?_
        obtain ⟨c13, hB⟩ := ck_of hB
        refine es_iald dX10_person_90 (tr_10_46 hl0) c13 ?_
        obtain rfl := Option.some.inj hB
        exact ev_iret dX10_person_91 rfl (Nat.zero_le _) (Nat.zero_le _) (fun z => absurd z (hp_sealed _)) ⟨rfl, rfl⟩
      rw [if_neg q14] at hB
      have tq14 := am_nt (k := 2) q14 (by decide)
      by_cases q16 : l2 = 3
      · rw [if_pos q16] at hB
        refine ev_tableIn (off := 66) 92 dX10_person_26 (by rw [q16]; decide) (by rw [q16]; decide) (by rw [q16]; rfl) (by decide) ?_
        refine ev_aload_n dX10_person_92 rfl ?_
        refine es_getr k_10 46 dX10_person_93 (by decide) rfl (Or.inl w_1571) hl0 rfl ?_
        refine ev_bipush 56 dX10_person_96 (by decide) ?_
        refine ev_iload_n dX10_person_98 rfl ?_
        refine ev_iadd dX10_person_99 ?_
        obtain ⟨c15, hB⟩ := ck_of hB
        refine es_iald dX10_person_100 (tr_10_46 hl0) c15 ?_
        obtain rfl := Option.some.inj hB
        exact ev_iret dX10_person_101 rfl (Nat.zero_le _) (Nat.zero_le _) (fun z => absurd z (hp_sealed _)) ⟨rfl, rfl⟩
      rw [if_neg q16] at hB
      have tq16 := am_nt (k := 3) q16 (by decide)
      by_cases q18 : l2 = 4
      · rw [if_pos q18] at hB
        refine ev_tableIn (off := 76) 102 dX10_person_26 (by rw [q18]; decide) (by rw [q18]; decide) (by rw [q18]; rfl) (by decide) ?_
        refine ev_aload_n dX10_person_102 rfl ?_
        refine es_getr k_10 46 dX10_person_103 (by decide) rfl (Or.inl w_1571) hl0 rfl ?_
        refine ev_bipush 64 dX10_person_106 (by decide) ?_
        refine ev_iload_n dX10_person_108 rfl ?_
        refine ev_iadd dX10_person_109 ?_
        obtain ⟨c17, hB⟩ := ck_of hB
        refine es_iald dX10_person_110 (tr_10_46 hl0) c17 ?_
        obtain rfl := Option.some.inj hB
        exact ev_iret dX10_person_111 rfl (Nat.zero_le _) (Nat.zero_le _) (fun z => absurd z (hp_sealed _)) ⟨rfl, rfl⟩
      rw [if_neg q18] at hB
      have tq18 := am_nt (k := 4) q18 (by decide)
      by_cases q22 : l2 = 5
      · rw [if_pos q22] at hB
        refine ev_tableIn (off := 86) 112 dX10_person_26 (by rw [q22]; decide) (by rw [q22]; decide) (by rw [q22]; rfl) (by decide) ?_
        refine ev_aload_n dX10_person_112 rfl ?_
        refine ev_iload_n dX10_person_113 rfl ?_
        obtain ⟨r19, S20, e21, hB⟩ := bd_of hB
        refine es_callVi (As := [.int l1]) (t_X10_boxOf hl0 e21) dX10_person_114 oX10_boxOf w_1926 rfl hl0 rfl rfl (Nat.le_of_ble_eq_true rfl) rfl (am_fit.of (by decide)) ⟨Nat.zero_le _, Nat.zero_le _⟩ ?_
        obtain rfl := Option.some.inj hB
        exact ev_iret dX10_person_117 rfl (Nat.zero_le _) (Nat.zero_le _) (fun z => absurd z (hp_sealed _)) ⟨rfl, rfl⟩
      rw [if_neg q22] at hB
      have tq22 := am_nt (k := 5) q22 (by decide)
      by_cases q26 : l2 = 6
      · rw [if_pos q26] at hB
        refine ev_tableIn (off := 92) 118 dX10_person_26 (by rw [q26]; decide) (by rw [q26]; decide) (by rw [q26]; rfl) (by decide) ?_
        refine ev_aload_n dX10_person_118 rfl ?_
        refine ev_iload_n dX10_person_119 rfl ?_
        obtain ⟨r23, S24, e25, hB⟩ := bd_of hB
        refine es_callVi (As := [.int l1]) (t_X10_fansOf hl0 e25) dX10_person_120 oX10_fansOf w_1906 rfl hl0 rfl rfl (Nat.le_of_ble_eq_true rfl) rfl (am_fit.of (by decide)) ⟨Nat.zero_le _, Nat.zero_le _⟩ ?_
        obtain rfl := Option.some.inj hB
        exact ev_iret dX10_person_123 rfl (Nat.zero_le _) (Nat.zero_le _) (fun z => absurd z (hp_sealed _)) ⟨rfl, rfl⟩
      rw [if_neg q26] at hB
      have tq26 := am_nt (k := 6) q26 (by decide)
      refine ev_tableOut 124 dX10_person_26 (by omega) (by decide) ?_
      refine ev_aload_n dX10_person_124 rfl ?_
      refine ev_iload_n dX10_person_125 rfl ?_
      obtain ⟨r27, S28, e29, hB⟩ := bd_of hB
      refine es_callVi (As := [.int l1]) (t_X10_boxOf hl0 e29) dX10_person_126 oX10_boxOf w_1926 rfl hl0 rfl rfl (Nat.le_of_ble_eq_true rfl) rfl (am_fit.of (by decide)) ⟨Nat.zero_le _, Nat.zero_le _⟩ ?_
      refine ev_iconst (-1) dX10_person_129 (by decide) ?_
      refine ev_icmpne 137 dX10_person_130 (by decide) (fun q30 => ?_) (fun q30 => ?_)
      · rw [if_neg q30] at hB
        refine ev_aload_n dX10_person_137 rfl ?_
        refine ev_aload_n dX10_person_138 rfl ?_
        refine ev_iload_n dX10_person_139 rfl ?_
        obtain ⟨r31, S32, e33, hB⟩ := bd_of hB
        refine es_callVi (As := [.int l1]) (t_X10_boxOf hl0 e33) dX10_person_140 oX10_boxOf w_1926 rfl hl0 rfl rfl (Nat.le_of_ble_eq_true rfl) rfl (am_fit.of (by decide)) ⟨Nat.zero_le _, Nat.zero_le _⟩ ?_
        obtain ⟨r34, S35, e36, hB⟩ := bd_of hB
        refine es_callVi (As := [.int r31]) (t_X10_nearBy hl0 e36) dX10_person_143 oX10_nearBy w_1922 rfl hl0 rfl rfl (Nat.le_of_ble_eq_true rfl) rfl (am_fit.of (by decide)) ⟨Nat.zero_le _, Nat.zero_le _⟩ ?_
        refine ev_iconst 1 dX10_person_146 (by decide) ?_
        refine ev_iload_n dX10_person_147 rfl ?_
        refine ev_ishl dX10_person_148 ?_
        refine ev_iconst (-1) dX10_person_149 (by decide) ?_
        refine ev_ixor dX10_person_150 ?_
        refine ev_iand dX10_person_151 ?_
        exact ev_ls (u_X10_person_152 (r34 &&& (((1 : Int32) <<< (l1 &&& (31 : Int32))) ^^^ (-1))) S35 hB) trivial
      · rw [if_pos q30] at hB
        refine ev_iconst 0 dX10_person_133 (by decide) ?_
        refine ev_goto 152 dX10_person_134 (by decide) ?_
        exact ev_ls (u_X10_person_152 0 S28 hB) trivial
    · rw [if_pos q8] at hB
      exact ev_ls (u_X10_person_23 S6 hB) trivial
def b_X10_held_39 (N : Nat) (z0 : Int32) (S : am_S) : Option (Int32 × am_S) := some (z0, S)
def b_X10_held_38 (N : Nat)  (S : am_S) : Option (Int32 × am_S) := b_X10_held_39 N 0 S
def f_X10_held (N : Nat) (l0 : Nat) (l1 : Int32) (l2 : Int32) (S : am_S) : Option (Int32 × am_S) := (bd (f_X10_isBox N l0 l1 (sp S l0 0 0)) (fun r1 S2 => (if r1 = 0 then b_X10_held_38 N S2 else (bd (f_X10_isPerson N l0 l2 S2) (fun r5 S6 => (if r5 = 0 then b_X10_held_38 N S6 else (if inb ((8 + (8 * l1)) + l2) (ln (rf l0 46)) = true then b_X10_held_39 N (sg S6 (rf l0 46) (Int32.toNatClampNeg ((8 + (8 * l1)) + l2))) S6 else none)))))))
theorem u_X10_held_39 {G : am_G} {N : Nat} {h0 : am_H} {out : Int32 × am_S} (z0 : Int32) (S : am_S) (hB : b_X10_held_39 N z0 S = some out) : Ev G (am_R 3 0 0) (am_Φ G h0 0 0 (q_i out) q_n) mX10_held 0 0 39 [none, none, none] [.int z0] (hp S) := by
  unfold b_X10_held_39 at hB
  obtain rfl := Option.some.inj hB
  exact ev_iret dX10_held_39 rfl (Nat.zero_le _) (Nat.zero_le _) (fun z => absurd z (hp_sealed _)) ⟨rfl, rfl⟩
theorem u_X10_held_38 {G : am_G} {N : Nat} {h0 : am_H} {out : Int32 × am_S}  (S : am_S) (hB : b_X10_held_38 N  S = some out) : Ev G (am_R 3 0 0) (am_Φ G h0 0 0 (q_i out) q_n) mX10_held 0 0 38 [none, none, none] [] (hp S) := by
  unfold b_X10_held_38 at hB
  refine ev_iconst 0 dX10_held_38 (by decide) ?_
  exact ev_ls (u_X10_held_39 0 S hB) trivial
theorem t_X10_held {G : am_G} {N : Nat} {l0 : Nat} {l1 : Int32} {l2 : Int32} {S : am_S} {out : Int32 × am_S} (hl0 : isC 10 l0 = true) (hB : f_X10_held N l0 l1 l2 S = some out) : am_Met G 3 mX10_held 0 0 [.ref l0, .int l1, .int l2] (hp S) (q_i out) q_n := by
  refine am_of (by decide +kernel) rfl rfl rfl (Nat.le_of_ble_eq_true rfl) ?_
  unfold f_X10_held at hB
  refine ev_aload_n dX10_held_0 rfl ?_
  refine ev_iconst 0 dX10_held_1 (by decide) ?_
  refine es_puti k_10 0 dX10_held_2 (by decide) rfl (Or.inl w_1525) rfl rfl hl0 rfl ?_
  refine ev_aload_n dX10_held_5 rfl ?_
  refine ev_iload_n dX10_held_6 rfl ?_
  obtain ⟨r1, S2, e3, hB⟩ := bd_of hB
  refine es_callVi (As := [.int l1]) (t_X10_isBox hl0 e3) dX10_held_7 oX10_isBox w_1914 rfl hl0 rfl rfl (Nat.le_of_ble_eq_true rfl) rfl (am_fit.of (by decide)) ⟨Nat.zero_le _, Nat.zero_le _⟩ ?_
  refine ev_ifeq 38 dX10_held_10 (by decide) (fun q4 => ?_) (fun q4 => ?_)
  · rw [if_pos q4] at hB
    exact ev_ls (u_X10_held_38 S2 hB) trivial
  · rw [if_neg q4] at hB
    refine ev_aload_n dX10_held_13 rfl ?_
    refine ev_iload_n dX10_held_14 rfl ?_
    obtain ⟨r5, S6, e7, hB⟩ := bd_of hB
    refine es_callVi (As := [.int l2]) (t_X10_isPerson hl0 e7) dX10_held_15 oX10_isPerson w_1941 rfl hl0 rfl rfl (Nat.le_of_ble_eq_true rfl) rfl (am_fit.of (by decide)) ⟨Nat.zero_le _, Nat.zero_le _⟩ ?_
    refine ev_ifeq 38 dX10_held_18 (by decide) (fun q8 => ?_) (fun q8 => ?_)
    · rw [if_pos q8] at hB
      exact ev_ls (u_X10_held_38 S6 hB) trivial
    · rw [if_neg q8] at hB
      refine ev_aload_n dX10_held_21 rfl ?_
      refine es_getr k_10 46 dX10_held_22 (by decide) rfl (Or.inl w_1571) hl0 rfl ?_
      refine ev_bipush 8 dX10_held_25 (by decide) ?_
      refine ev_bipush 8 dX10_held_27 (by decide) ?_
      refine ev_iload_n dX10_held_29 rfl ?_
      refine ev_imul dX10_held_30 ?_
      refine ev_iadd dX10_held_31 ?_
      refine ev_iload_n dX10_held_32 rfl ?_
      refine ev_iadd dX10_held_33 ?_
      obtain ⟨c9, hB⟩ := ck_of hB
      refine es_iald dX10_held_34 (tr_10_46 hl0) c9 ?_
      refine ev_goto 39 dX10_held_35 (by decide) ?_
      exact ev_ls (u_X10_held_39 (sg S6 (rf l0 46) (Int32.toNatClampNeg ((8 + (8 * l1)) + l2))) S6 hB) trivial
def b_X10_days_29 (N : Nat) (l0 : Nat) (S : am_S) : Option (Int32 × am_S) := (bd (f_X10_refuses N l0 1 S) (fun r1 S2 => some (r1, S2)))
def b_X10_days_41 (N : Nat) : Nat → Nat → Int32 → Int32 → am_S → Option (Int32 × am_S)
  | 0, _, _, _, _ => none
  | n + 1, l0, l1, l2, S => (if l1 ≤ l2 then (if inb 0 (ln (rf l0 46)) = true then some ((sg S (rf l0 46) (Int32.toNatClampNeg 0)), S) else none) else (bv (f_X10_dayGoes N l0 0 S) (fun S4 => b_X10_days_41 N n l0 l1 (l2 + 1) S4)))
def f_X10_days (N : Nat) (l0 : Nat) (l1 : Int32) (S : am_S) : Option (Int32 × am_S) := (bd (f_X10_within N l1 1 20 (sp S l0 0 0)) (fun r1 S2 => (if r1 = 0 then b_X10_days_29 N l0 S2 else (if inb 0 (ln (rf l0 46)) = true then (if ((sg S2 (rf l0 46) (Int32.toNatClampNeg 0)) + l1) ≤ 999 then (bv (f_X10_keeps N l0 S2) (fun S8 => b_X10_days_41 N N l0 l1 0 S8)) else b_X10_days_29 N l0 S2) else none))))
theorem u_X10_days_29 {G : am_G} {N : Nat} {h0 : am_H} {out : Int32 × am_S} (l0 : Nat) (S : am_S) (hl0 : isC 10 l0 = true) (hB : b_X10_days_29 N l0 S = some out) : Ev G (am_R 6 0 0) (am_Φ G h0 0 0 (q_i out) q_n) mX10_days 0 0 29 [some (.ref l0), none, none] [] (hp S) := by
  unfold b_X10_days_29 at hB
  refine ev_aload_n dX10_days_29 rfl ?_
  refine ev_iconst 1 dX10_days_30 (by decide) ?_
  obtain ⟨r1, S2, e3, hB⟩ := bd_of hB
  refine es_callVi (As := [.int 1]) (t_X10_refuses hl0 e3) dX10_days_31 oX10_refuses w_1953 rfl hl0 rfl rfl (Nat.le_of_ble_eq_true rfl) rfl (am_fit.of (by decide)) ⟨Nat.zero_le _, Nat.zero_le _⟩ ?_
  obtain rfl := Option.some.inj hB
  exact ev_iret dX10_days_34 rfl (Nat.zero_le _) (Nat.zero_le _) (fun z => absurd z (hp_sealed _)) ⟨rfl, rfl⟩
theorem u_X10_days_41 {G : am_G} {N : Nat} {h0 : am_H} {out : Int32 × am_S} : ∀ (n : Nat) (l0 : Nat) (l1 : Int32) (l2 : Int32) (S : am_S), isC 10 l0 = true → b_X10_days_41 N n l0 l1 l2 S = some out → Ev G (am_R 6 0 0) (am_Φ G h0 0 0 (q_i out) q_n) mX10_days 0 0 41 [some (.ref l0), some (.int l1), some (.int l2)] [] (hp S) := by
  intro n
  induction n with
  | zero =>
    intro l0 l1 l2 S hl0 hB
    exact absurd (show none = some out from hB) (fun q => by cases q)
  | succ n ih =>
    intro l0 l1 l2 S hl0 hB
    unfold b_X10_days_41 at hB
    refine ev_iload_n dX10_days_41 rfl ?_
    refine ev_iload_n dX10_days_42 rfl ?_
    refine ev_icmpge 57 dX10_days_43 (by decide) (fun q1 => ?_) (fun q1 => ?_)
    · rw [if_pos q1] at hB
      refine ev_aload_n dX10_days_57 rfl ?_
      refine es_getr k_10 46 dX10_days_58 (by decide) rfl (Or.inl w_1571) hl0 rfl ?_
      refine ev_iconst 0 dX10_days_61 (by decide) ?_
      obtain ⟨c2, hB⟩ := ck_of hB
      refine es_iald dX10_days_62 (tr_10_46 hl0) c2 ?_
      obtain rfl := Option.some.inj hB
      exact ev_iret dX10_days_63 rfl (Nat.zero_le _) (Nat.zero_le _) (fun z => absurd z (hp_sealed _)) ⟨rfl, rfl⟩
    · rw [if_neg q1] at hB
      refine ev_aload_n dX10_days_46 rfl ?_
      refine ev_iconst 0 dX10_days_47 (by decide) ?_
      obtain ⟨S4, e5, hB⟩ := bv_of hB
      refine es_callVv (As := [.int 0]) (t_X10_dayGoes hl0 e5) dX10_days_48 oX10_dayGoes w_1961 rfl hl0 rfl rfl (Nat.le_of_ble_eq_true rfl) rfl (am_fit.of (by decide)) ⟨Nat.zero_le _, Nat.zero_le _⟩ ?_
      refine es_iinc 1 dX10_days_51 rfl (by decide) (by decide) rfl ?_
      refine ev_goto 41 dX10_days_54 (by decide) ?_
      exact ev_ls (ih l0 l1 (l2 + 1) S4 hl0 hB) (And.intro rfl (And.intro rfl (And.intro rfl trivial)))
theorem t_X10_days {G : am_G} {N : Nat} {l0 : Nat} {l1 : Int32} {S : am_S} {out : Int32 × am_S} (hl0 : isC 10 l0 = true) (hB : f_X10_days N l0 l1 S = some out) : am_Met G 6 mX10_days 0 0 [.ref l0, .int l1] (hp S) (q_i out) q_n := by
  refine am_of (by decide +kernel) rfl rfl rfl (Nat.le_of_ble_eq_true rfl) ?_
  unfold f_X10_days at hB
  refine ev_aload_n dX10_days_0 rfl ?_
  refine ev_iconst 0 dX10_days_1 (by decide) ?_
  refine es_puti k_10 0 dX10_days_2 (by decide) rfl (Or.inl w_1525) rfl rfl hl0 rfl ?_
  refine ev_iload_n dX10_days_5 rfl ?_
  refine ev_iconst 1 dX10_days_6 (by decide) ?_
  refine ev_bipush 20 dX10_days_7 (by decide) ?_
  obtain ⟨r1, S2, e3, hB⟩ := bd_of hB
  refine es_callSi (As := [.int l1, .int 1, .int 20]) (t_X10_within e3) dX10_days_9 oX10_within w_1875 rfl (Nat.le_of_ble_eq_true rfl) rfl (am_fit.of (by decide)) ⟨Nat.zero_le _, Nat.zero_le _⟩ ?_
  refine ev_ifeq 29 dX10_days_12 (by decide) (fun q4 => ?_) (fun q4 => ?_)
  · rw [if_pos q4] at hB
    exact ev_ls (u_X10_days_29 l0 S2 hl0 hB) (And.intro rfl trivial)
  · rw [if_neg q4] at hB
    refine ev_aload_n dX10_days_15 rfl ?_
    refine es_getr k_10 46 dX10_days_16 (by decide) rfl (Or.inl w_1571) hl0 rfl ?_
    refine ev_iconst 0 dX10_days_19 (by decide) ?_
    obtain ⟨c5, hB⟩ := ck_of hB
    refine es_iald dX10_days_20 (tr_10_46 hl0) c5 ?_
    refine ev_iload_n dX10_days_21 rfl ?_
    refine ev_iadd dX10_days_22 ?_
    refine ev_sipush 999 dX10_days_23 (by decide) ?_
    refine ev_icmple 35 dX10_days_26 (by decide) (fun q6 => ?_) (fun q6 => ?_)
    · rw [if_pos q6] at hB
      refine ev_aload_n dX10_days_35 rfl ?_
      obtain ⟨S8, e9, hB⟩ := bv_of hB
      refine es_callVv (As := []) (t_X10_keeps hl0 e9) dX10_days_36 oX10_keeps w_1957 rfl hl0 rfl rfl (Nat.le_of_ble_eq_true rfl) rfl (am_fit.of (by decide)) ⟨Nat.zero_le _, Nat.zero_le _⟩ ?_
      refine ev_iconst 0 dX10_days_39 (by decide) ?_
      refine ev_istore_n dX10_days_40 (by decide) rfl ?_
      exact ev_ls (u_X10_days_41 N l0 l1 0 S8 hl0 hB) (And.intro rfl (And.intro rfl (And.intro rfl trivial)))
    · rw [if_neg q6] at hB
      exact ev_ls (u_X10_days_29 l0 S2 hl0 hB) (And.intro rfl trivial)
def b_X10_writes_27 (N : Nat) : Nat → Nat → Int32 → Int32 → Int32 → am_S → Option (am_S)
  | 0, _, _, _, _, _ => none
  | n + 1, l0, l1, l2, l3, S => (if (sg S l0 1) ≤ l3 then (if inb ((l1 + 56) + l2) (ln (rf l0 46)) = true then some (sp S (rf l0 46) (Int32.toNatClampNeg ((l1 + 56) + l2)) 0) else none) else (if inb (((l1 + 8) + (8 * l3)) + l2) (ln (rf l0 46)) = true then b_X10_writes_27 N n l0 l1 l2 (l3 + 1) (sp S (rf l0 46) (Int32.toNatClampNeg (((l1 + 8) + (8 * l3)) + l2)) 0) else none))
def f_X10_writes (N : Nat) (l0 : Nat) (l1 : Int32) (l2 : Int32) (S : am_S) : Option (am_S) := (if inb ((l1 + 72) + l2) (ln (rf l0 46)) = true then (bd (f_X10_heldOf N l0 l1 l2 S) (fun r2 S3 => (bv (f_X10_hears N l0 l1 (sg S (rf l0 46) (Int32.toNatClampNeg ((l1 + 72) + l2))) (9 + r2) S3) (fun S6 => b_X10_writes_27 N N l0 l1 l2 0 S6)))) else none)
theorem u_X10_writes_27 {G : am_G} {N : Nat} {h0 : am_H} {out : am_S} : ∀ (n : Nat) (l0 : Nat) (l1 : Int32) (l2 : Int32) (l3 : Int32) (S : am_S), isC 10 l0 = true → b_X10_writes_27 N n l0 l1 l2 l3 S = some out → Ev G (am_R 3 0 0) (am_Φ G h0 0 0 (q_v out) q_n) mX10_writes 0 0 27 [some (.ref l0), some (.int l1), some (.int l2), some (.int l3)] [] (hp S) := by
  intro n
  induction n with
  | zero =>
    intro l0 l1 l2 l3 S hl0 hB
    exact absurd (show none = some out from hB) (fun q => by cases q)
  | succ n ih =>
    intro l0 l1 l2 l3 S hl0 hB
    unfold b_X10_writes_27 at hB
    refine ev_iload_n dX10_writes_27 rfl ?_
    refine ev_aload_n dX10_writes_28 rfl ?_
    refine es_geti k_10 1 dX10_writes_29 (by decide) rfl (Or.inl w_1526) hl0 rfl ?_
    refine ev_icmpge 58 dX10_writes_32 (by decide) (fun q1 => ?_) (fun q1 => ?_)
    · rw [if_pos q1] at hB
      refine ev_aload_n dX10_writes_58 rfl ?_
      refine es_getr k_10 46 dX10_writes_59 (by decide) rfl (Or.inl w_1571) hl0 rfl ?_
      refine ev_iload_n dX10_writes_62 rfl ?_
      refine ev_bipush 56 dX10_writes_63 (by decide) ?_
      refine ev_iadd dX10_writes_65 ?_
      refine ev_iload_n dX10_writes_66 rfl ?_
      refine ev_iadd dX10_writes_67 ?_
      refine ev_iconst 0 dX10_writes_68 (by decide) ?_
      obtain ⟨c2, hB⟩ := ck_of hB
      refine es_iast dX10_writes_69 (tr_10_46 hl0) c2 ?_
      obtain rfl := Option.some.inj hB
      exact ev_vret dX10_writes_70 rfl (Nat.zero_le _) (Nat.zero_le _) (fun z => absurd z (hp_sealed _)) ⟨rfl, rfl⟩
    · rw [if_neg q1] at hB
      refine ev_aload_n dX10_writes_35 rfl ?_
      refine es_getr k_10 46 dX10_writes_36 (by decide) rfl (Or.inl w_1571) hl0 rfl ?_
      refine ev_iload_n dX10_writes_39 rfl ?_
      refine ev_bipush 8 dX10_writes_40 (by decide) ?_
      refine ev_iadd dX10_writes_42 ?_
      refine ev_bipush 8 dX10_writes_43 (by decide) ?_
      refine ev_iload_n dX10_writes_45 rfl ?_
      refine ev_imul dX10_writes_46 ?_
      refine ev_iadd dX10_writes_47 ?_
      refine ev_iload_n dX10_writes_48 rfl ?_
      refine ev_iadd dX10_writes_49 ?_
      refine ev_iconst 0 dX10_writes_50 (by decide) ?_
      obtain ⟨c3, hB⟩ := ck_of hB
      refine es_iast dX10_writes_51 (tr_10_46 hl0) c3 ?_
      refine es_iinc 1 dX10_writes_52 rfl (by decide) (by decide) rfl ?_
      refine ev_goto 27 dX10_writes_55 (by decide) ?_
      exact ev_ls (ih l0 l1 l2 (l3 + 1) (sp S (rf l0 46) (Int32.toNatClampNeg (((l1 + 8) + (8 * l3)) + l2)) 0) hl0 hB) (And.intro rfl (And.intro rfl (And.intro rfl (And.intro rfl trivial))))
theorem t_X10_writes {G : am_G} {N : Nat} {l0 : Nat} {l1 : Int32} {l2 : Int32} {S : am_S} {out : am_S} (hl0 : isC 10 l0 = true) (hB : f_X10_writes N l0 l1 l2 S = some out) : am_Met G 3 mX10_writes 0 0 [.ref l0, .int l1, .int l2] (hp S) (q_v out) q_n := by
  refine am_of (by decide +kernel) rfl rfl rfl (Nat.le_of_ble_eq_true rfl) ?_
  unfold f_X10_writes at hB
  refine ev_aload_n dX10_writes_0 rfl ?_
  refine ev_iload_n dX10_writes_1 rfl ?_
  refine ev_aload_n dX10_writes_2 rfl ?_
  refine es_getr k_10 46 dX10_writes_3 (by decide) rfl (Or.inl w_1571) hl0 rfl ?_
  refine ev_iload_n dX10_writes_6 rfl ?_
  refine ev_bipush 72 dX10_writes_7 (by decide) ?_
  refine ev_iadd dX10_writes_9 ?_
  refine ev_iload_n dX10_writes_10 rfl ?_
  refine ev_iadd dX10_writes_11 ?_
  obtain ⟨c1, hB⟩ := ck_of hB
  refine es_iald dX10_writes_12 (tr_10_46 hl0) c1 ?_
  refine ev_bipush 9 dX10_writes_13 (by decide) ?_
  refine ev_aload_n dX10_writes_15 rfl ?_
  refine ev_iload_n dX10_writes_16 rfl ?_
  refine ev_iload_n dX10_writes_17 rfl ?_
  obtain ⟨r2, S3, e4, hB⟩ := bd_of hB
  refine es_callVi (As := [.int l1, .int l2]) (t_X10_heldOf hl0 e4) dX10_writes_18 oX10_heldOf w_2006 rfl hl0 rfl rfl (Nat.le_of_ble_eq_true rfl) rfl (am_fit.of (by decide)) ⟨Nat.zero_le _, Nat.zero_le _⟩ ?_
  refine ev_iadd dX10_writes_21 ?_
  obtain ⟨S6, e7, hB⟩ := bv_of hB
  refine es_callVv (As := [.int l1, .int (sg S (rf l0 46) (Int32.toNatClampNeg ((l1 + 72) + l2))), .int (9 + r2)]) (t_X10_hears hl0 e7) dX10_writes_22 oX10_hears w_1994 rfl hl0 rfl rfl (Nat.le_of_ble_eq_true rfl) rfl (am_fit.of (by decide)) ⟨Nat.zero_le _, Nat.zero_le _⟩ ?_
  refine ev_iconst 0 dX10_writes_25 (by decide) ?_
  refine ev_istore_n dX10_writes_26 (by decide) rfl ?_
  exact ev_ls (u_X10_writes_27 N l0 l1 l2 0 S6 hl0 hB) (And.intro rfl (And.intro rfl (And.intro rfl (And.intro rfl trivial))))
def f_X10_write (N : Nat) (l0 : Nat) (l1 : Int32) (S : am_S) : Option (Int32 × am_S) := (bd (f_X10_isPerson N l0 l1 (sp S l0 0 0)) (fun r1 S2 => (if r1 = 0 then some (0, S2) else (if inb (72 + l1) (ln (rf l0 46)) = true then (if (sg S2 (rf l0 46) (Int32.toNatClampNeg (72 + l1))) = (-1) then (bd (f_X10_refuses N l0 1 S2) (fun r15 S16 => some (r15, S16))) else (bv (f_X10_keeps N l0 S2) (fun S8 => (bv (f_X10_writes N l0 0 l1 S8) (fun S11 => (if inb (72 + l1) (ln (rf l0 46)) = true then (if inb (64 + (sg S11 (rf l0 46) (Int32.toNatClampNeg (72 + l1)))) (ln (rf l0 46)) = true then some ((sg S11 (rf l0 46) (Int32.toNatClampNeg (64 + (sg S11 (rf l0 46) (Int32.toNatClampNeg (72 + l1)))))), S11) else none) else none)))))) else none))))
theorem t_X10_write {G : am_G} {N : Nat} {l0 : Nat} {l1 : Int32} {S : am_S} {out : Int32 × am_S} (hl0 : isC 10 l0 = true) (hB : f_X10_write N l0 l1 S = some out) : am_Met G 4 mX10_write 0 0 [.ref l0, .int l1] (hp S) (q_i out) q_n := by
  refine am_of (by decide +kernel) rfl rfl rfl (Nat.le_of_ble_eq_true rfl) ?_
  unfold f_X10_write at hB
  refine ev_aload_n dX10_write_0 rfl ?_
  refine ev_iconst 0 dX10_write_1 (by decide) ?_
  refine es_puti k_10 0 dX10_write_2 (by decide) rfl (Or.inl w_1525) rfl rfl hl0 rfl ?_
  refine ev_aload_n dX10_write_5 rfl ?_
  refine ev_iload_n dX10_write_6 rfl ?_
  obtain ⟨r1, S2, e3, hB⟩ := bd_of hB
  refine es_callVi (As := [.int l1]) (t_X10_isPerson hl0 e3) dX10_write_7 oX10_isPerson w_1941 rfl hl0 rfl rfl (Nat.le_of_ble_eq_true rfl) rfl (am_fit.of (by decide)) ⟨Nat.zero_le _, Nat.zero_le _⟩ ?_
  refine ev_ifne 15 dX10_write_10 (by decide) (fun q4 => ?_) (fun q4 => ?_)
  · rw [if_neg q4] at hB
    refine ev_aload_n dX10_write_15 rfl ?_
    refine es_getr k_10 46 dX10_write_16 (by decide) rfl (Or.inl w_1571) hl0 rfl ?_
    refine ev_bipush 72 dX10_write_19 (by decide) ?_
    refine ev_iload_n dX10_write_21 rfl ?_
    refine ev_iadd dX10_write_22 ?_
    obtain ⟨c5, hB⟩ := ck_of hB
    refine es_iald dX10_write_23 (tr_10_46 hl0) c5 ?_
    refine ev_iconst (-1) dX10_write_24 (by decide) ?_
    refine ev_icmpne 34 dX10_write_25 (by decide) (fun q6 => ?_) (fun q6 => ?_)
    · rw [if_neg q6] at hB
      refine ev_aload_n dX10_write_34 rfl ?_
      obtain ⟨S8, e9, hB⟩ := bv_of hB
      refine es_callVv (As := []) (t_X10_keeps hl0 e9) dX10_write_35 oX10_keeps w_1957 rfl hl0 rfl rfl (Nat.le_of_ble_eq_true rfl) rfl (am_fit.of (by decide)) ⟨Nat.zero_le _, Nat.zero_le _⟩ ?_
      refine ev_aload_n dX10_write_38 rfl ?_
      refine ev_iconst 0 dX10_write_39 (by decide) ?_
      refine ev_iload_n dX10_write_40 rfl ?_
      obtain ⟨S11, e12, hB⟩ := bv_of hB
      refine es_callVv (As := [.int 0, .int l1]) (t_X10_writes hl0 e12) dX10_write_41 oX10_writes w_2002 rfl hl0 rfl rfl (Nat.le_of_ble_eq_true rfl) rfl (am_fit.of (by decide)) ⟨Nat.zero_le _, Nat.zero_le _⟩ ?_
      refine ev_aload_n dX10_write_44 rfl ?_
      refine es_getr k_10 46 dX10_write_45 (by decide) rfl (Or.inl w_1571) hl0 rfl ?_
      refine ev_bipush 64 dX10_write_48 (by decide) ?_
      refine ev_aload_n dX10_write_50 rfl ?_
      refine es_getr k_10 46 dX10_write_51 (by decide) rfl (Or.inl w_1571) hl0 rfl ?_
      refine ev_bipush 72 dX10_write_54 (by decide) ?_
      refine ev_iload_n dX10_write_56 rfl ?_
      refine ev_iadd dX10_write_57 ?_
      obtain ⟨c13, hB⟩ := ck_of hB
      refine es_iald dX10_write_58 (tr_10_46 hl0) c13 ?_
      refine ev_iadd dX10_write_59 ?_
      obtain ⟨c14, hB⟩ := ck_of hB
      refine es_iald dX10_write_60 (tr_10_46 hl0) c14 ?_
      obtain rfl := Option.some.inj hB
      exact ev_iret dX10_write_61 rfl (Nat.zero_le _) (Nat.zero_le _) (fun z => absurd z (hp_sealed _)) ⟨rfl, rfl⟩
    · rw [if_pos q6] at hB
      refine ev_aload_n dX10_write_28 rfl ?_
      refine ev_iconst 1 dX10_write_29 (by decide) ?_
      obtain ⟨r15, S16, e17, hB⟩ := bd_of hB
      refine es_callVi (As := [.int 1]) (t_X10_refuses hl0 e17) dX10_write_30 oX10_refuses w_1953 rfl hl0 rfl rfl (Nat.le_of_ble_eq_true rfl) rfl (am_fit.of (by decide)) ⟨Nat.zero_le _, Nat.zero_le _⟩ ?_
      obtain rfl := Option.some.inj hB
      exact ev_iret dX10_write_33 rfl (Nat.zero_le _) (Nat.zero_le _) (fun z => absurd z (hp_sealed _)) ⟨rfl, rfl⟩
  · rw [if_pos q4] at hB
    refine ev_iconst 0 dX10_write_13 (by decide) ?_
    obtain rfl := Option.some.inj hB
    exact ev_iret dX10_write_14 rfl (Nat.zero_le _) (Nat.zero_le _) (fun z => absurd z (hp_sealed _)) ⟨rfl, rfl⟩
def f_X10_paint (N : Nat) (l0 : Nat) (l1 : Int32) (S : am_S) : Option (Int32 × am_S) := (bd (f_X10_isBox N l0 l1 (sp S l0 0 0)) (fun r1 S2 => (if r1 = 0 then some (0, S2) else (if inb (2 + l1) (ln (rf l0 46)) = true then (if (sg S2 (rf l0 46) (Int32.toNatClampNeg (2 + l1))) = 99 then (bd (f_X10_refuses N l0 1 S2) (fun r11 S12 => some (r11, S12))) else (bv (f_X10_keeps N l0 S2) (fun S8 => (if inb (2 + l1) (ln (rf l0 46)) = true then some ((sg S2 (rf l0 46) (Int32.toNatClampNeg (2 + l1))), (sp S8 (rf l0 46) (Int32.toNatClampNeg (2 + l1)) 99)) else none)))) else none))))
theorem t_X10_paint {G : am_G} {N : Nat} {l0 : Nat} {l1 : Int32} {S : am_S} {out : Int32 × am_S} (hl0 : isC 10 l0 = true) (hB : f_X10_paint N l0 l1 S = some out) : am_Met G 3 mX10_paint 0 0 [.ref l0, .int l1] (hp S) (q_i out) q_n := by
  refine am_of (by decide +kernel) rfl rfl rfl (Nat.le_of_ble_eq_true rfl) ?_
  unfold f_X10_paint at hB
  refine ev_aload_n dX10_paint_0 rfl ?_
  refine ev_iconst 0 dX10_paint_1 (by decide) ?_
  refine es_puti k_10 0 dX10_paint_2 (by decide) rfl (Or.inl w_1525) rfl rfl hl0 rfl ?_
  refine ev_aload_n dX10_paint_5 rfl ?_
  refine ev_iload_n dX10_paint_6 rfl ?_
  obtain ⟨r1, S2, e3, hB⟩ := bd_of hB
  refine es_callVi (As := [.int l1]) (t_X10_isBox hl0 e3) dX10_paint_7 oX10_isBox w_1914 rfl hl0 rfl rfl (Nat.le_of_ble_eq_true rfl) rfl (am_fit.of (by decide)) ⟨Nat.zero_le _, Nat.zero_le _⟩ ?_
  refine ev_ifne 15 dX10_paint_10 (by decide) (fun q4 => ?_) (fun q4 => ?_)
  · rw [if_neg q4] at hB
    refine ev_aload_n dX10_paint_15 rfl ?_
    refine es_getr k_10 46 dX10_paint_16 (by decide) rfl (Or.inl w_1571) hl0 rfl ?_
    refine ev_iconst 2 dX10_paint_19 (by decide) ?_
    refine ev_iload_n dX10_paint_20 rfl ?_
    refine ev_iadd dX10_paint_21 ?_
    obtain ⟨c5, hB⟩ := ck_of hB
    refine es_iald dX10_paint_22 (tr_10_46 hl0) c5 ?_
    refine ev_istore_n dX10_paint_23 (by decide) rfl ?_
    refine ev_iload_n dX10_paint_24 rfl ?_
    refine ev_bipush 99 dX10_paint_25 (by decide) ?_
    refine ev_icmpne 36 dX10_paint_27 (by decide) (fun q6 => ?_) (fun q6 => ?_)
    · rw [if_neg q6] at hB
      refine ev_aload_n dX10_paint_36 rfl ?_
      obtain ⟨S8, e9, hB⟩ := bv_of hB
      refine es_callVv (As := []) (t_X10_keeps hl0 e9) dX10_paint_37 oX10_keeps w_1957 rfl hl0 rfl rfl (Nat.le_of_ble_eq_true rfl) rfl (am_fit.of (by decide)) ⟨Nat.zero_le _, Nat.zero_le _⟩ ?_
      refine ev_aload_n dX10_paint_40 rfl ?_
      refine es_getr k_10 46 dX10_paint_41 (by decide) rfl (Or.inl w_1571) hl0 rfl ?_
      refine ev_iconst 2 dX10_paint_44 (by decide) ?_
      refine ev_iload_n dX10_paint_45 rfl ?_
      refine ev_iadd dX10_paint_46 ?_
      refine ev_bipush 99 dX10_paint_47 (by decide) ?_
      obtain ⟨c10, hB⟩ := ck_of hB
      refine es_iast dX10_paint_49 (tr_10_46 hl0) c10 ?_
      refine ev_iload_n dX10_paint_50 rfl ?_
      obtain rfl := Option.some.inj hB
      exact ev_iret dX10_paint_51 rfl (Nat.zero_le _) (Nat.zero_le _) (fun z => absurd z (hp_sealed _)) ⟨rfl, rfl⟩
    · rw [if_pos q6] at hB
      refine ev_aload_n dX10_paint_30 rfl ?_
      refine ev_iconst 1 dX10_paint_31 (by decide) ?_
      obtain ⟨r11, S12, e13, hB⟩ := bd_of hB
      refine es_callVi (As := [.int 1]) (t_X10_refuses hl0 e13) dX10_paint_32 oX10_refuses w_1953 rfl hl0 rfl rfl (Nat.le_of_ble_eq_true rfl) rfl (am_fit.of (by decide)) ⟨Nat.zero_le _, Nat.zero_le _⟩ ?_
      obtain rfl := Option.some.inj hB
      exact ev_iret dX10_paint_35 rfl (Nat.zero_le _) (Nat.zero_le _) (fun z => absurd z (hp_sealed _)) ⟨rfl, rfl⟩
  · rw [if_pos q4] at hB
    refine ev_iconst 0 dX10_paint_13 (by decide) ?_
    obtain rfl := Option.some.inj hB
    exact ev_iret dX10_paint_14 rfl (Nat.zero_le _) (Nat.zero_le _) (fun z => absurd z (hp_sealed _)) ⟨rfl, rfl⟩
def b_X10_turn_39 (N : Nat)  (S : am_S) : Option (Int32 × am_S) := some (0, S)
def b_X10_turn_61 (N : Nat) (l0 : Nat) (S : am_S) : Option (Int32 × am_S) := (bd (f_X10_refuses N l0 1 S) (fun r1 S2 => some ((r1 - 1), S2)))
def b_X10_turn_32 (N : Nat) (l0 : Nat) (l1 : Int32) (l2 : Int32) (z0 : Nat) (z1 : Int32) (S : am_S) : Option (Int32 × am_S) := (bd (f_X10_right N z0 z1 1 S) (fun r1 S2 => (if r1 = 0 then b_X10_turn_39 N S2 else (if inb (72 + l1) (ln (rf l0 46)) = true then (if (sg S2 (rf l0 46) (Int32.toNatClampNeg (72 + l1))) = l2 then b_X10_turn_61 N l0 S2 else (if l1 = l2 then b_X10_turn_61 N l0 S2 else (bv (f_X10_keeps N l0 S2) (fun S9 => (if inb (72 + l1) (ln (rf l0 46)) = true then some ((sg S2 (rf l0 46) (Int32.toNatClampNeg (72 + l1))), (sp S9 (rf l0 46) (Int32.toNatClampNeg (72 + l1)) l2)) else none))))) else none))))
def b_X10_turn_31 (N : Nat) (l0 : Nat) (l1 : Int32) (l2 : Int32) (z0 : Nat) (S : am_S) : Option (Int32 × am_S) := b_X10_turn_32 N l0 l1 l2 z0 0 S
def f_X10_turn (N : Nat) (l0 : Nat) (l1 : Int32) (l2 : Int32) (S : am_S) : Option (Int32 × am_S) := (bd (f_X10_isPerson N l0 l1 (sp S l0 0 0)) (fun r1 S2 => (if r1 = 0 then b_X10_turn_39 N S2 else (if l2 < (-1) then b_X10_turn_31 N l0 l1 l2 l0 S2 else (if (sg S2 l0 2) ≤ l2 then b_X10_turn_31 N l0 l1 l2 l0 S2 else b_X10_turn_32 N l0 l1 l2 l0 1 S2)))))
theorem u_X10_turn_39 {G : am_G} {N : Nat} {h0 : am_H} {out : Int32 × am_S}  (S : am_S) (hB : b_X10_turn_39 N  S = some out) : Ev G (am_R 3 0 0) (am_Φ G h0 0 0 (q_i out) q_n) mX10_turn 0 0 39 [none, none, none, none] [] (hp S) := by
  unfold b_X10_turn_39 at hB
  refine ev_iconst 0 dX10_turn_39 (by decide) ?_
  obtain rfl := Option.some.inj hB
  exact ev_iret dX10_turn_40 rfl (Nat.zero_le _) (Nat.zero_le _) (fun z => absurd z (hp_sealed _)) ⟨rfl, rfl⟩
theorem u_X10_turn_61 {G : am_G} {N : Nat} {h0 : am_H} {out : Int32 × am_S} (l0 : Nat) (S : am_S) (hl0 : isC 10 l0 = true) (hB : b_X10_turn_61 N l0 S = some out) : Ev G (am_R 3 0 0) (am_Φ G h0 0 0 (q_i out) q_n) mX10_turn 0 0 61 [some (.ref l0), none, none, none] [] (hp S) := by
  unfold b_X10_turn_61 at hB
  refine ev_aload_n dX10_turn_61 rfl ?_
  refine ev_iconst 1 dX10_turn_62 (by decide) ?_
  obtain ⟨r1, S2, e3, hB⟩ := bd_of hB
  refine es_callVi (As := [.int 1]) (t_X10_refuses hl0 e3) dX10_turn_63 oX10_refuses w_1953 rfl hl0 rfl rfl (Nat.le_of_ble_eq_true rfl) rfl (am_fit.of (by decide)) ⟨Nat.zero_le _, Nat.zero_le _⟩ ?_
  refine ev_iconst 1 dX10_turn_66 (by decide) ?_
  refine ev_isub dX10_turn_67 ?_
  obtain rfl := Option.some.inj hB
  exact ev_iret dX10_turn_68 rfl (Nat.zero_le _) (Nat.zero_le _) (fun z => absurd z (hp_sealed _)) ⟨rfl, rfl⟩
theorem u_X10_turn_32 {G : am_G} {N : Nat} {h0 : am_H} {out : Int32 × am_S} (l0 : Nat) (l1 : Int32) (l2 : Int32) (z0 : Nat) (z1 : Int32) (S : am_S) (hl0 : isC 10 l0 = true) (hz0 : isC 10 z0 = true) (hB : b_X10_turn_32 N l0 l1 l2 z0 z1 S = some out) : Ev G (am_R 3 0 0) (am_Φ G h0 0 0 (q_i out) q_n) mX10_turn 0 0 32 [some (.ref l0), some (.int l1), some (.int l2), none] [.int z1, .ref z0] (hp S) := by
  unfold b_X10_turn_32 at hB
  refine ev_iconst 1 dX10_turn_32 (by decide) ?_
  obtain ⟨r1, S2, e3, hB⟩ := bd_of hB
  refine es_callVi (As := [.int z1, .int 1]) (t_X10_right hz0 e3) dX10_turn_33 oX10_right w_1744 rfl hz0 rfl rfl (Nat.le_of_ble_eq_true rfl) rfl (am_fit.of (by decide)) ⟨Nat.zero_le _, Nat.zero_le _⟩ ?_
  refine ev_ifne 41 dX10_turn_36 (by decide) (fun q4 => ?_) (fun q4 => ?_)
  · rw [if_neg q4] at hB
    refine ev_aload_n dX10_turn_41 rfl ?_
    refine es_getr k_10 46 dX10_turn_42 (by decide) rfl (Or.inl w_1571) hl0 rfl ?_
    refine ev_bipush 72 dX10_turn_45 (by decide) ?_
    refine ev_iload_n dX10_turn_47 rfl ?_
    refine ev_iadd dX10_turn_48 ?_
    obtain ⟨c5, hB⟩ := ck_of hB
    refine es_iald dX10_turn_49 (tr_10_46 hl0) c5 ?_
    refine ev_istore_n dX10_turn_50 (by decide) rfl ?_
    refine ev_iload_n dX10_turn_51 rfl ?_
    refine ev_iload_n dX10_turn_52 rfl ?_
    refine ev_icmpeq 61 dX10_turn_53 (by decide) (fun q6 => ?_) (fun q6 => ?_)
    · rw [if_pos q6] at hB
      exact ev_ls (u_X10_turn_61 l0 S2 hl0 hB) (And.intro rfl trivial)
    · rw [if_neg q6] at hB
      refine ev_iload_n dX10_turn_56 rfl ?_
      refine ev_iload_n dX10_turn_57 rfl ?_
      refine ev_icmpne 69 dX10_turn_58 (by decide) (fun q7 => ?_) (fun q7 => ?_)
      · rw [if_neg q7] at hB
        refine ev_aload_n dX10_turn_69 rfl ?_
        obtain ⟨S9, e10, hB⟩ := bv_of hB
        refine es_callVv (As := []) (t_X10_keeps hl0 e10) dX10_turn_70 oX10_keeps w_1957 rfl hl0 rfl rfl (Nat.le_of_ble_eq_true rfl) rfl (am_fit.of (by decide)) ⟨Nat.zero_le _, Nat.zero_le _⟩ ?_
        refine ev_aload_n dX10_turn_73 rfl ?_
        refine es_getr k_10 46 dX10_turn_74 (by decide) rfl (Or.inl w_1571) hl0 rfl ?_
        refine ev_bipush 72 dX10_turn_77 (by decide) ?_
        refine ev_iload_n dX10_turn_79 rfl ?_
        refine ev_iadd dX10_turn_80 ?_
        refine ev_iload_n dX10_turn_81 rfl ?_
        obtain ⟨c11, hB⟩ := ck_of hB
        refine es_iast dX10_turn_82 (tr_10_46 hl0) c11 ?_
        refine ev_iload_n dX10_turn_83 rfl ?_
        obtain rfl := Option.some.inj hB
        exact ev_iret dX10_turn_84 rfl (Nat.zero_le _) (Nat.zero_le _) (fun z => absurd z (hp_sealed _)) ⟨rfl, rfl⟩
      · rw [if_pos q7] at hB
        exact ev_ls (u_X10_turn_61 l0 S2 hl0 hB) (And.intro rfl trivial)
  · rw [if_pos q4] at hB
    exact ev_ls (u_X10_turn_39 S2 hB) trivial
theorem u_X10_turn_31 {G : am_G} {N : Nat} {h0 : am_H} {out : Int32 × am_S} (l0 : Nat) (l1 : Int32) (l2 : Int32) (z0 : Nat) (S : am_S) (hl0 : isC 10 l0 = true) (hz0 : isC 10 z0 = true) (hB : b_X10_turn_31 N l0 l1 l2 z0 S = some out) : Ev G (am_R 3 0 0) (am_Φ G h0 0 0 (q_i out) q_n) mX10_turn 0 0 31 [some (.ref l0), some (.int l1), some (.int l2), none] [.ref z0] (hp S) := by
  unfold b_X10_turn_31 at hB
  refine ev_iconst 0 dX10_turn_31 (by decide) ?_
  exact ev_ls (u_X10_turn_32 l0 l1 l2 z0 0 S hl0 hz0 hB) (And.intro rfl (And.intro rfl (And.intro rfl trivial)))
theorem t_X10_turn {G : am_G} {N : Nat} {l0 : Nat} {l1 : Int32} {l2 : Int32} {S : am_S} {out : Int32 × am_S} (hl0 : isC 10 l0 = true) (hB : f_X10_turn N l0 l1 l2 S = some out) : am_Met G 3 mX10_turn 0 0 [.ref l0, .int l1, .int l2] (hp S) (q_i out) q_n := by
  refine am_of (by decide +kernel) rfl rfl rfl (Nat.le_of_ble_eq_true rfl) ?_
  unfold f_X10_turn at hB
  refine ev_aload_n dX10_turn_0 rfl ?_
  refine ev_iconst 0 dX10_turn_1 (by decide) ?_
  refine es_puti k_10 0 dX10_turn_2 (by decide) rfl (Or.inl w_1525) rfl rfl hl0 rfl ?_
  refine ev_aload_n dX10_turn_5 rfl ?_
  refine ev_iload_n dX10_turn_6 rfl ?_
  obtain ⟨r1, S2, e3, hB⟩ := bd_of hB
  refine es_callVi (As := [.int l1]) (t_X10_isPerson hl0 e3) dX10_turn_7 oX10_isPerson w_1941 rfl hl0 rfl rfl (Nat.le_of_ble_eq_true rfl) rfl (am_fit.of (by decide)) ⟨Nat.zero_le _, Nat.zero_le _⟩ ?_
  refine ev_ifeq 39 dX10_turn_10 (by decide) (fun q4 => ?_) (fun q4 => ?_)
  · rw [if_pos q4] at hB
    exact ev_ls (u_X10_turn_39 S2 hB) trivial
  · rw [if_neg q4] at hB
    refine ev_aload_n dX10_turn_13 rfl ?_
    refine ev_iload_n dX10_turn_14 rfl ?_
    refine ev_iconst (-1) dX10_turn_15 (by decide) ?_
    refine ev_icmplt 31 dX10_turn_16 (by decide) (fun q5 => ?_) (fun q5 => ?_)
    · rw [if_pos q5] at hB
      exact ev_ls (u_X10_turn_31 l0 l1 l2 l0 S2 hl0 hl0 hB) (And.intro rfl (And.intro rfl (And.intro rfl trivial)))
    · rw [if_neg q5] at hB
      refine ev_iload_n dX10_turn_19 rfl ?_
      refine ev_aload_n dX10_turn_20 rfl ?_
      refine es_geti k_10 2 dX10_turn_21 (by decide) rfl (Or.inl w_1527) hl0 rfl ?_
      refine ev_icmpge 31 dX10_turn_24 (by decide) (fun q6 => ?_) (fun q6 => ?_)
      · rw [if_pos q6] at hB
        exact ev_ls (u_X10_turn_31 l0 l1 l2 l0 S2 hl0 hl0 hB) (And.intro rfl (And.intro rfl (And.intro rfl trivial)))
      · rw [if_neg q6] at hB
        refine ev_iconst 1 dX10_turn_27 (by decide) ?_
        refine ev_goto 32 dX10_turn_28 (by decide) ?_
        exact ev_ls (u_X10_turn_32 l0 l1 l2 l0 1 S2 hl0 hl0 hB) (And.intro rfl (And.intro rfl (And.intro rfl trivial)))
def b_X10_strike_37 (N : Nat) (z0 : Int32) (S : am_S) : Option (Int32 × am_S) := (if isB z0 = true then some (z0, S) else none)
def b_X10_strike_56 (N : Nat) (z0 : Nat) (z1 : Int32) (z2 : Int32) (S : am_S) : Option (Int32 × am_S) := (if inb z1 (ln z0) = true then some (1, (sp S z0 (Int32.toNatClampNeg z1) z2)) else none)
def b_X10_strike_20 (N : Nat) (l0 : Nat) (l1 : Int32) (z0 : Int32) (S : am_S) : Option (Int32 × am_S) := (if z0 = l1 then (bd (f_X10_refuses N l0 1 S) (fun r6 S7 => (if r6 ≤ 0 then b_X10_strike_37 N 0 S7 else b_X10_strike_37 N 1 S7))) else (bv (f_X10_keeps N l0 S) (fun S3 => (if l1 = 0 then b_X10_strike_56 N (rf l0 46) 1 0 S3 else b_X10_strike_56 N (rf l0 46) 1 1 S3))))
def f_X10_strike (N : Nat) (l0 : Nat) (l1 : Int32) (S : am_S) : Option (Int32 × am_S) := (if inb 1 (ln (rf l0 46)) = true then (if (sg (sp S l0 0 0) (rf l0 46) (Int32.toNatClampNeg 1)) = 1 then b_X10_strike_20 N l0 l1 1 (sp S l0 0 0) else b_X10_strike_20 N l0 l1 0 (sp S l0 0 0)) else none)
theorem u_X10_strike_37 {G : am_G} {N : Nat} {h0 : am_H} {out : Int32 × am_S} (z0 : Int32) (S : am_S) (hB : b_X10_strike_37 N z0 S = some out) : Ev G (am_R 2 0 0) (am_Φ G h0 0 0 (q_i out) q_n) mX10_strike 0 0 37 [none, none] [.int z0] (hp S) := by
  unfold b_X10_strike_37 at hB
  obtain ⟨c1, hB⟩ := ck_of hB
  obtain rfl := Option.some.inj hB
  exact ev_zret dX10_strike_37 rfl (isB_nar c1) (Nat.zero_le _) (Nat.zero_le _) (fun z => absurd z (hp_sealed _)) ⟨rfl, rfl⟩
theorem u_X10_strike_56 {G : am_G} {N : Nat} {h0 : am_H} {out : Int32 × am_S} (z0 : Nat) (z1 : Int32) (z2 : Int32) (S : am_S) (hz0 : isAr 1 z0 = true) (hB : b_X10_strike_56 N z0 z1 z2 S = some out) : Ev G (am_R 2 0 0) (am_Φ G h0 0 0 (q_i out) q_n) mX10_strike 0 0 56 [none, none] [.int z2, .int z1, .ref z0] (hp S) := by
  unfold b_X10_strike_56 at hB
  obtain ⟨c1, hB⟩ := ck_of hB
  refine es_iast dX10_strike_56 hz0 c1 ?_
  refine ev_iconst 1 dX10_strike_57 (by decide) ?_
  obtain rfl := Option.some.inj hB
  exact ev_zret dX10_strike_58 rfl (by rfl) (Nat.zero_le _) (Nat.zero_le _) (fun z => absurd z (hp_sealed _)) ⟨rfl, rfl⟩
theorem u_X10_strike_20 {G : am_G} {N : Nat} {h0 : am_H} {out : Int32 × am_S} (l0 : Nat) (l1 : Int32) (z0 : Int32) (S : am_S) (hl0 : isC 10 l0 = true) (hB : b_X10_strike_20 N l0 l1 z0 S = some out) : Ev G (am_R 2 0 0) (am_Φ G h0 0 0 (q_i out) q_n) mX10_strike 0 0 20 [some (.ref l0), some (.int l1)] [.int z0] (hp S) := by
  unfold b_X10_strike_20 at hB
  refine ev_iload_n dX10_strike_20 rfl ?_
  refine ev_icmpne 38 dX10_strike_21 (by decide) (fun q1 => ?_) (fun q1 => ?_)
  · rw [if_neg q1] at hB
    refine ev_aload_n dX10_strike_38 rfl ?_
    obtain ⟨S3, e4, hB⟩ := bv_of hB
    refine es_callVv (As := []) (t_X10_keeps hl0 e4) dX10_strike_39 oX10_keeps w_1957 rfl hl0 rfl rfl (Nat.le_of_ble_eq_true rfl) rfl (am_fit.of (by decide)) ⟨Nat.zero_le _, Nat.zero_le _⟩ ?_
    refine ev_aload_n dX10_strike_42 rfl ?_
    refine es_getr k_10 46 dX10_strike_43 (by decide) rfl (Or.inl w_1571) hl0 rfl ?_
    refine ev_iconst 1 dX10_strike_46 (by decide) ?_
    refine ev_iload_n dX10_strike_47 rfl ?_
    refine ev_ifeq 55 dX10_strike_48 (by decide) (fun q5 => ?_) (fun q5 => ?_)
    · rw [if_pos q5] at hB
      refine ev_iconst 0 dX10_strike_55 (by decide) ?_
      exact ev_ls (u_X10_strike_56 (rf l0 46) 1 0 S3 (tr_10_46 hl0) hB) trivial
    · rw [if_neg q5] at hB
      refine ev_iconst 1 dX10_strike_51 (by decide) ?_
      refine ev_goto 56 dX10_strike_52 (by decide) ?_
      exact ev_ls (u_X10_strike_56 (rf l0 46) 1 1 S3 (tr_10_46 hl0) hB) trivial
  · rw [if_pos q1] at hB
    refine ev_aload_n dX10_strike_24 rfl ?_
    refine ev_iconst 1 dX10_strike_25 (by decide) ?_
    obtain ⟨r6, S7, e8, hB⟩ := bd_of hB
    refine es_callVi (As := [.int 1]) (t_X10_refuses hl0 e8) dX10_strike_26 oX10_refuses w_1953 rfl hl0 rfl rfl (Nat.le_of_ble_eq_true rfl) rfl (am_fit.of (by decide)) ⟨Nat.zero_le _, Nat.zero_le _⟩ ?_
    refine ev_ifle 36 dX10_strike_29 (by decide) (fun q9 => ?_) (fun q9 => ?_)
    · rw [if_pos q9] at hB
      refine ev_iconst 0 dX10_strike_36 (by decide) ?_
      exact ev_ls (u_X10_strike_37 0 S7 hB) trivial
    · rw [if_neg q9] at hB
      refine ev_iconst 1 dX10_strike_32 (by decide) ?_
      refine ev_goto 37 dX10_strike_33 (by decide) ?_
      exact ev_ls (u_X10_strike_37 1 S7 hB) trivial
theorem t_X10_strike {G : am_G} {N : Nat} {l0 : Nat} {l1 : Int32} {S : am_S} {out : Int32 × am_S} (hl0 : isC 10 l0 = true) (hB : f_X10_strike N l0 l1 S = some out) : am_Met G 2 mX10_strike 0 0 [.ref l0, .int l1] (hp S) (q_i out) q_n := by
  refine am_of (by decide +kernel) rfl rfl rfl (Nat.le_of_ble_eq_true rfl) ?_
  unfold f_X10_strike at hB
  refine ev_aload_n dX10_strike_0 rfl ?_
  refine ev_iconst 0 dX10_strike_1 (by decide) ?_
  refine es_puti k_10 0 dX10_strike_2 (by decide) rfl (Or.inl w_1525) rfl rfl hl0 rfl ?_
  refine ev_aload_n dX10_strike_5 rfl ?_
  refine es_getr k_10 46 dX10_strike_6 (by decide) rfl (Or.inl w_1571) hl0 rfl ?_
  refine ev_iconst 1 dX10_strike_9 (by decide) ?_
  obtain ⟨c1, hB⟩ := ck_of hB
  refine es_iald dX10_strike_10 (tr_10_46 hl0) c1 ?_
  refine ev_iconst 1 dX10_strike_11 (by decide) ?_
  refine ev_icmpne 19 dX10_strike_12 (by decide) (fun q2 => ?_) (fun q2 => ?_)
  · rw [if_neg q2] at hB
    refine ev_iconst 0 dX10_strike_19 (by decide) ?_
    exact ev_ls (u_X10_strike_20 l0 l1 0 (sp S l0 0 0) hl0 hB) (And.intro rfl (And.intro rfl trivial))
  · rw [if_pos q2] at hB
    refine ev_iconst 1 dX10_strike_15 (by decide) ?_
    refine ev_goto 20 dX10_strike_16 (by decide) ?_
    exact ev_ls (u_X10_strike_20 l0 l1 1 (sp S l0 0 0) hl0 hB) (And.intro rfl (And.intro rfl trivial))
def f_X10_goesTo (N : Nat) (l0 : Nat) (l1 : Int32) (S : am_S) : Option (am_S) := (bv (f_X10_tries N l0 S) (fun S2 => (bv (f_X10_daysGo N l0 l1 S2) (fun S5 => some S5))))
theorem t_X10_goesTo {G : am_G} {N : Nat} {l0 : Nat} {l1 : Int32} {S : am_S} {out : am_S} (hl0 : isC 10 l0 = true) (hB : f_X10_goesTo N l0 l1 S = some out) : am_Met G 7 mX10_goesTo 0 0 [.ref l0, .int l1] (hp S) (q_v out) q_n := by
  refine am_of (by decide +kernel) rfl rfl rfl (Nat.le_of_ble_eq_true rfl) ?_
  unfold f_X10_goesTo at hB
  refine ev_aload_n dX10_goesTo_0 rfl ?_
  obtain ⟨S2, e3, hB⟩ := bv_of hB
  refine es_callVv (As := []) (t_X10_tries hl0 e3) dX10_goesTo_1 oX10_tries w_2034 rfl hl0 rfl rfl (Nat.le_of_ble_eq_true rfl) rfl (am_fit.of (by decide)) ⟨Nat.zero_le _, Nat.zero_le _⟩ ?_
  refine ev_aload_n dX10_goesTo_4 rfl ?_
  refine ev_iload_n dX10_goesTo_5 rfl ?_
  obtain ⟨S5, e6, hB⟩ := bv_of hB
  refine es_callVv (As := [.int l1]) (t_X10_daysGo hl0 e6) dX10_goesTo_6 oX10_daysGo w_2038 rfl hl0 rfl rfl (Nat.le_of_ble_eq_true rfl) rfl (am_fit.of (by decide)) ⟨Nat.zero_le _, Nat.zero_le _⟩ ?_
  obtain rfl := Option.some.inj hB
  exact ev_vret dX10_goesTo_9 rfl (Nat.zero_le _) (Nat.zero_le _) (fun z => absurd z (hp_sealed _)) ⟨rfl, rfl⟩
def b_X10_then_32 (N : Nat)  (S : am_S) : Option (Int32 × am_S) := some (0, S)
def b_X10_then_62 (N : Nat) (z0 : Int32) (S : am_S) : Option (Int32 × am_S) := some (z0, S)
def f_X10_then (N : Nat) (l0 : Nat) (l1 : Int32) (l2 : Int32) (l3 : Int32) (S : am_S) : Option (Int32 × am_S) := (bd (f_X10_isBox N l0 l1 (sp S l0 0 0)) (fun r1 S2 => (if r1 = 0 then b_X10_then_32 N S2 else (bd (f_X10_isWhat N l0 l3 1 S2) (fun r5 S6 => (if r5 = 0 then b_X10_then_32 N S6 else (bd (f_X10_isDays N l0 l2 0 2 S6) (fun r9 S10 => (if r9 = 0 then b_X10_then_32 N S10 else (bv (f_X10_goesTo N l0 l2 S10) (fun S14 => (if l3 = 0 then (bd (f_X10_heldIn N l0 80 l1 S14) (fun r18 S19 => b_X10_then_62 N r18 S19)) else (if inb (82 + l1) (ln (rf l0 46)) = true then b_X10_then_62 N (sg S14 (rf l0 46) (Int32.toNatClampNeg (82 + l1))) S14 else none)))))))))))))
theorem u_X10_then_32 {G : am_G} {N : Nat} {h0 : am_H} {out : Int32 × am_S}  (S : am_S) (hB : b_X10_then_32 N  S = some out) : Ev G (am_R 8 0 0) (am_Φ G h0 0 0 (q_i out) q_n) mX10_then 0 0 32 [none, none, none, none] [] (hp S) := by
  unfold b_X10_then_32 at hB
  refine ev_iconst 0 dX10_then_32 (by decide) ?_
  obtain rfl := Option.some.inj hB
  exact ev_iret dX10_then_33 rfl (Nat.zero_le _) (Nat.zero_le _) (fun z => absurd z (hp_sealed _)) ⟨rfl, rfl⟩
theorem u_X10_then_62 {G : am_G} {N : Nat} {h0 : am_H} {out : Int32 × am_S} (z0 : Int32) (S : am_S) (hB : b_X10_then_62 N z0 S = some out) : Ev G (am_R 8 0 0) (am_Φ G h0 0 0 (q_i out) q_n) mX10_then 0 0 62 [none, none, none, none] [.int z0] (hp S) := by
  unfold b_X10_then_62 at hB
  obtain rfl := Option.some.inj hB
  exact ev_iret dX10_then_62 rfl (Nat.zero_le _) (Nat.zero_le _) (fun z => absurd z (hp_sealed _)) ⟨rfl, rfl⟩
theorem t_X10_then {G : am_G} {N : Nat} {l0 : Nat} {l1 : Int32} {l2 : Int32} {l3 : Int32} {S : am_S} {out : Int32 × am_S} (hl0 : isC 10 l0 = true) (hB : f_X10_then N l0 l1 l2 l3 S = some out) : am_Met G 8 mX10_then 0 0 [.ref l0, .int l1, .int l2, .int l3] (hp S) (q_i out) q_n := by
  refine am_of (by decide +kernel) rfl rfl rfl (Nat.le_of_ble_eq_true rfl) ?_
  unfold f_X10_then at hB
  refine ev_aload_n dX10_then_0 rfl ?_
  refine ev_iconst 0 dX10_then_1 (by decide) ?_
  refine es_puti k_10 0 dX10_then_2 (by decide) rfl (Or.inl w_1525) rfl rfl hl0 rfl ?_
  refine ev_aload_n dX10_then_5 rfl ?_
  refine ev_iload_n dX10_then_6 rfl ?_
  obtain ⟨r1, S2, e3, hB⟩ := bd_of hB
  refine es_callVi (As := [.int l1]) (t_X10_isBox hl0 e3) dX10_then_7 oX10_isBox w_1914 rfl hl0 rfl rfl (Nat.le_of_ble_eq_true rfl) rfl (am_fit.of (by decide)) ⟨Nat.zero_le _, Nat.zero_le _⟩ ?_
  refine ev_ifeq 32 dX10_then_10 (by decide) (fun q4 => ?_) (fun q4 => ?_)
  · rw [if_pos q4] at hB
    exact ev_ls (u_X10_then_32 S2 hB) trivial
  · rw [if_neg q4] at hB
    refine ev_aload_n dX10_then_13 rfl ?_
    refine ev_iload_n dX10_then_14 rfl ?_
    refine ev_iconst 1 dX10_then_15 (by decide) ?_
    obtain ⟨r5, S6, e7, hB⟩ := bd_of hB
    refine es_callVi (As := [.int l3, .int 1]) (t_X10_isWhat hl0 e7) dX10_then_16 oX10_isWhat w_1918 rfl hl0 rfl rfl (Nat.le_of_ble_eq_true rfl) rfl (am_fit.of (by decide)) ⟨Nat.zero_le _, Nat.zero_le _⟩ ?_
    refine ev_ifeq 32 dX10_then_19 (by decide) (fun q8 => ?_) (fun q8 => ?_)
    · rw [if_pos q8] at hB
      exact ev_ls (u_X10_then_32 S6 hB) trivial
    · rw [if_neg q8] at hB
      refine ev_aload_n dX10_then_22 rfl ?_
      refine ev_iload_n dX10_then_23 rfl ?_
      refine ev_iconst 0 dX10_then_24 (by decide) ?_
      refine ev_iconst 2 dX10_then_25 (by decide) ?_
      obtain ⟨r9, S10, e11, hB⟩ := bd_of hB
      refine es_callVi (As := [.int l2, .int 0, .int 2]) (t_X10_isDays hl0 e11) dX10_then_26 oX10_isDays w_2026 rfl hl0 rfl rfl (Nat.le_of_ble_eq_true rfl) rfl (am_fit.of (by decide)) ⟨Nat.zero_le _, Nat.zero_le _⟩ ?_
      refine ev_ifne 34 dX10_then_29 (by decide) (fun q12 => ?_) (fun q12 => ?_)
      · rw [if_neg q12] at hB
        refine ev_aload_n dX10_then_34 rfl ?_
        refine ev_iload_n dX10_then_35 rfl ?_
        obtain ⟨S14, e15, hB⟩ := bv_of hB
        refine es_callVv (As := [.int l2]) (t_X10_goesTo hl0 e15) dX10_then_36 oX10_goesTo w_2030 rfl hl0 rfl rfl (Nat.le_of_ble_eq_true rfl) rfl (am_fit.of (by decide)) ⟨Nat.zero_le _, Nat.zero_le _⟩ ?_
        refine ev_iload_n dX10_then_39 rfl ?_
        refine ev_ifne 53 dX10_then_40 (by decide) (fun q16 => ?_) (fun q16 => ?_)
        · rw [if_neg q16] at hB
          refine ev_aload_n dX10_then_53 rfl ?_
          refine es_getr k_10 46 dX10_then_54 (by decide) rfl (Or.inl w_1571) hl0 rfl ?_
          refine ev_bipush 82 dX10_then_57 (by decide) ?_
          refine ev_iload_n dX10_then_59 rfl ?_
          refine ev_iadd dX10_then_60 ?_
          obtain ⟨c17, hB⟩ := ck_of hB
          refine es_iald dX10_then_61 (tr_10_46 hl0) c17 ?_
          exact ev_ls (u_X10_then_62 (sg S14 (rf l0 46) (Int32.toNatClampNeg (82 + l1))) S14 hB) trivial
        · rw [if_pos q16] at hB
          refine ev_aload_n dX10_then_43 rfl ?_
          refine ev_bipush 80 dX10_then_44 (by decide) ?_
          refine ev_iload_n dX10_then_46 rfl ?_
          obtain ⟨r18, S19, e20, hB⟩ := bd_of hB
          refine es_callVi (As := [.int 80, .int l1]) (t_X10_heldIn hl0 e20) dX10_then_47 oX10_heldIn w_1890 rfl hl0 rfl rfl (Nat.le_of_ble_eq_true rfl) rfl (am_fit.of (by decide)) ⟨Nat.zero_le _, Nat.zero_le _⟩ ?_
          refine ev_goto 62 dX10_then_50 (by decide) ?_
          exact ev_ls (u_X10_then_62 r18 S19 hB) trivial
      · rw [if_pos q12] at hB
        exact ev_ls (u_X10_then_32 S10 hB) trivial
def b_X10_later_32 (N : Nat)  (S : am_S) : Option (Int32 × am_S) := some (0, S)
def b_X10_later_56 (N : Nat) (l1 : Int32) (z0 : Nat) (z1 : Int32) (z2 : Int32) (S : am_S) : Option (Int32 × am_S) := (if inb ((z1 + z2) + l1) (ln z0) = true then some ((sg S z0 (Int32.toNatClampNeg ((z1 + z2) + l1))), S) else none)
def f_X10_later (N : Nat) (l0 : Nat) (l1 : Int32) (l2 : Int32) (l3 : Int32) (S : am_S) : Option (Int32 × am_S) := (bd (f_X10_isPerson N l0 l1 (sp S l0 0 0)) (fun r1 S2 => (if r1 = 0 then b_X10_later_32 N S2 else (bd (f_X10_isWhat N l0 l3 1 S2) (fun r5 S6 => (if r5 = 0 then b_X10_later_32 N S6 else (bd (f_X10_isDays N l0 l2 0 2 S6) (fun r9 S10 => (if r9 = 0 then b_X10_later_32 N S10 else (bv (f_X10_goesTo N l0 l2 S10) (fun S14 => (if l3 = 0 then b_X10_later_56 N l1 (rf l0 46) 80 56 S14 else b_X10_later_56 N l1 (rf l0 46) 80 64 S14))))))))))))
theorem u_X10_later_32 {G : am_G} {N : Nat} {h0 : am_H} {out : Int32 × am_S}  (S : am_S) (hB : b_X10_later_32 N  S = some out) : Ev G (am_R 8 0 0) (am_Φ G h0 0 0 (q_i out) q_n) mX10_later 0 0 32 [none, none, none, none] [] (hp S) := by
  unfold b_X10_later_32 at hB
  refine ev_iconst 0 dX10_later_32 (by decide) ?_
  obtain rfl := Option.some.inj hB
  exact ev_iret dX10_later_33 rfl (Nat.zero_le _) (Nat.zero_le _) (fun z => absurd z (hp_sealed _)) ⟨rfl, rfl⟩
theorem u_X10_later_56 {G : am_G} {N : Nat} {h0 : am_H} {out : Int32 × am_S} (l1 : Int32) (z0 : Nat) (z1 : Int32) (z2 : Int32) (S : am_S) (hz0 : isAr 1 z0 = true) (hB : b_X10_later_56 N l1 z0 z1 z2 S = some out) : Ev G (am_R 8 0 0) (am_Φ G h0 0 0 (q_i out) q_n) mX10_later 0 0 56 [none, some (.int l1), none, none] [.int z2, .int z1, .ref z0] (hp S) := by
  unfold b_X10_later_56 at hB
  refine ev_iadd dX10_later_56 ?_
  refine ev_iload_n dX10_later_57 rfl ?_
  refine ev_iadd dX10_later_58 ?_
  obtain ⟨c1, hB⟩ := ck_of hB
  refine es_iald dX10_later_59 hz0 c1 ?_
  obtain rfl := Option.some.inj hB
  exact ev_iret dX10_later_60 rfl (Nat.zero_le _) (Nat.zero_le _) (fun z => absurd z (hp_sealed _)) ⟨rfl, rfl⟩
theorem t_X10_later {G : am_G} {N : Nat} {l0 : Nat} {l1 : Int32} {l2 : Int32} {l3 : Int32} {S : am_S} {out : Int32 × am_S} (hl0 : isC 10 l0 = true) (hB : f_X10_later N l0 l1 l2 l3 S = some out) : am_Met G 8 mX10_later 0 0 [.ref l0, .int l1, .int l2, .int l3] (hp S) (q_i out) q_n := by
  refine am_of (by decide +kernel) rfl rfl rfl (Nat.le_of_ble_eq_true rfl) ?_
  unfold f_X10_later at hB
  refine ev_aload_n dX10_later_0 rfl ?_
  refine ev_iconst 0 dX10_later_1 (by decide) ?_
  refine es_puti k_10 0 dX10_later_2 (by decide) rfl (Or.inl w_1525) rfl rfl hl0 rfl ?_
  refine ev_aload_n dX10_later_5 rfl ?_
  refine ev_iload_n dX10_later_6 rfl ?_
  obtain ⟨r1, S2, e3, hB⟩ := bd_of hB
  refine es_callVi (As := [.int l1]) (t_X10_isPerson hl0 e3) dX10_later_7 oX10_isPerson w_1941 rfl hl0 rfl rfl (Nat.le_of_ble_eq_true rfl) rfl (am_fit.of (by decide)) ⟨Nat.zero_le _, Nat.zero_le _⟩ ?_
  refine ev_ifeq 32 dX10_later_10 (by decide) (fun q4 => ?_) (fun q4 => ?_)
  · rw [if_pos q4] at hB
    exact ev_ls (u_X10_later_32 S2 hB) trivial
  · rw [if_neg q4] at hB
    refine ev_aload_n dX10_later_13 rfl ?_
    refine ev_iload_n dX10_later_14 rfl ?_
    refine ev_iconst 1 dX10_later_15 (by decide) ?_
    obtain ⟨r5, S6, e7, hB⟩ := bd_of hB
    refine es_callVi (As := [.int l3, .int 1]) (t_X10_isWhat hl0 e7) dX10_later_16 oX10_isWhat w_1918 rfl hl0 rfl rfl (Nat.le_of_ble_eq_true rfl) rfl (am_fit.of (by decide)) ⟨Nat.zero_le _, Nat.zero_le _⟩ ?_
    refine ev_ifeq 32 dX10_later_19 (by decide) (fun q8 => ?_) (fun q8 => ?_)
    · rw [if_pos q8] at hB
      exact ev_ls (u_X10_later_32 S6 hB) trivial
    · rw [if_neg q8] at hB
      refine ev_aload_n dX10_later_22 rfl ?_
      refine ev_iload_n dX10_later_23 rfl ?_
      refine ev_iconst 0 dX10_later_24 (by decide) ?_
      refine ev_iconst 2 dX10_later_25 (by decide) ?_
      obtain ⟨r9, S10, e11, hB⟩ := bd_of hB
      refine es_callVi (As := [.int l2, .int 0, .int 2]) (t_X10_isDays hl0 e11) dX10_later_26 oX10_isDays w_2026 rfl hl0 rfl rfl (Nat.le_of_ble_eq_true rfl) rfl (am_fit.of (by decide)) ⟨Nat.zero_le _, Nat.zero_le _⟩ ?_
      refine ev_ifne 34 dX10_later_29 (by decide) (fun q12 => ?_) (fun q12 => ?_)
      · rw [if_neg q12] at hB
        refine ev_aload_n dX10_later_34 rfl ?_
        refine ev_iload_n dX10_later_35 rfl ?_
        obtain ⟨S14, e15, hB⟩ := bv_of hB
        refine es_callVv (As := [.int l2]) (t_X10_goesTo hl0 e15) dX10_later_36 oX10_goesTo w_2030 rfl hl0 rfl rfl (Nat.le_of_ble_eq_true rfl) rfl (am_fit.of (by decide)) ⟨Nat.zero_le _, Nat.zero_le _⟩ ?_
        refine ev_aload_n dX10_later_39 rfl ?_
        refine es_getr k_10 46 dX10_later_40 (by decide) rfl (Or.inl w_1571) hl0 rfl ?_
        refine ev_bipush 80 dX10_later_43 (by decide) ?_
        refine ev_iload_n dX10_later_45 rfl ?_
        refine ev_ifne 54 dX10_later_46 (by decide) (fun q16 => ?_) (fun q16 => ?_)
        · rw [if_neg q16] at hB
          refine ev_bipush 64 dX10_later_54 (by decide) ?_
          exact ev_ls (u_X10_later_56 l1 (rf l0 46) 80 64 S14 (tr_10_46 hl0) hB) (And.intro rfl trivial)
        · rw [if_pos q16] at hB
          refine ev_bipush 56 dX10_later_49 (by decide) ?_
          refine ev_goto 56 dX10_later_51 (by decide) ?_
          exact ev_ls (u_X10_later_56 l1 (rf l0 46) 80 56 S14 (tr_10_46 hl0) hB) (And.intro rfl trivial)
      · rw [if_pos q12] at hB
        exact ev_ls (u_X10_later_32 S10 hB) trivial
def b_X10_first_21 (N : Nat) : Nat → Nat → Int32 → Int32 → am_S → Option (Int32 × am_S)
  | 0, _, _, _, _ => none
  | n + 1, l0, l1, l2, S => (if 40 < l2 then some ((-1), S) else (bv (f_X10_dayGoes N l0 80 S) (fun S3 => (if inb (144 + l1) (ln (rf l0 46)) = true then (if inb (64 + l1) (ln (rf l0 46)) = true then (if (sg S3 (rf l0 46) (Int32.toNatClampNeg (144 + l1))) ≤ (sg S3 (rf l0 46) (Int32.toNatClampNeg (64 + l1))) then b_X10_first_21 N n l0 l1 (l2 + 1) S3 else some (l2, S3)) else none) else none))))
def f_X10_first (N : Nat) (l0 : Nat) (l1 : Int32) (S : am_S) : Option (Int32 × am_S) := (bd (f_X10_isPerson N l0 l1 (sp S l0 0 0)) (fun r1 S2 => (if r1 = 0 then some (0, S2) else (bv (f_X10_tries N l0 S2) (fun S6 => b_X10_first_21 N N l0 l1 1 S6)))))
theorem u_X10_first_21 {G : am_G} {N : Nat} {h0 : am_H} {out : Int32 × am_S} : ∀ (n : Nat) (l0 : Nat) (l1 : Int32) (l2 : Int32) (S : am_S), isC 10 l0 = true → b_X10_first_21 N n l0 l1 l2 S = some out → Ev G (am_R 6 0 0) (am_Φ G h0 0 0 (q_i out) q_n) mX10_first 0 0 21 [some (.ref l0), some (.int l1), some (.int l2)] [] (hp S) := by
  intro n
  induction n with
  | zero =>
    intro l0 l1 l2 S hl0 hB
    exact absurd (show none = some out from hB) (fun q => by cases q)
  | succ n ih =>
    intro l0 l1 l2 S hl0 hB
    unfold b_X10_first_21 at hB
    refine ev_iload_n dX10_first_21 rfl ?_
    refine ev_bipush 40 dX10_first_22 (by decide) ?_
    refine ev_icmpgt 63 dX10_first_24 (by decide) (fun q1 => ?_) (fun q1 => ?_)
    · rw [if_pos q1] at hB
      refine ev_iconst (-1) dX10_first_63 (by decide) ?_
      obtain rfl := Option.some.inj hB
      exact ev_iret dX10_first_64 rfl (Nat.zero_le _) (Nat.zero_le _) (fun z => absurd z (hp_sealed _)) ⟨rfl, rfl⟩
    · rw [if_neg q1] at hB
      refine ev_aload_n dX10_first_27 rfl ?_
      refine ev_bipush 80 dX10_first_28 (by decide) ?_
      obtain ⟨S3, e4, hB⟩ := bv_of hB
      refine es_callVv (As := [.int 80]) (t_X10_dayGoes hl0 e4) dX10_first_30 oX10_dayGoes w_1961 rfl hl0 rfl rfl (Nat.le_of_ble_eq_true rfl) rfl (am_fit.of (by decide)) ⟨Nat.zero_le _, Nat.zero_le _⟩ ?_
      refine ev_aload_n dX10_first_33 rfl ?_
      refine es_getr k_10 46 dX10_first_34 (by decide) rfl (Or.inl w_1571) hl0 rfl ?_
      refine ev_sipush 144 dX10_first_37 (by decide) ?_
      refine ev_iload_n dX10_first_40 rfl ?_
      refine ev_iadd dX10_first_41 ?_
      obtain ⟨c5, hB⟩ := ck_of hB
      refine es_iald dX10_first_42 (tr_10_46 hl0) c5 ?_
      refine ev_aload_n dX10_first_43 rfl ?_
      refine es_getr k_10 46 dX10_first_44 (by decide) rfl (Or.inl w_1571) hl0 rfl ?_
      refine ev_bipush 64 dX10_first_47 (by decide) ?_
      refine ev_iload_n dX10_first_49 rfl ?_
      refine ev_iadd dX10_first_50 ?_
      obtain ⟨c6, hB⟩ := ck_of hB
      refine es_iald dX10_first_51 (tr_10_46 hl0) c6 ?_
      refine ev_icmple 57 dX10_first_52 (by decide) (fun q7 => ?_) (fun q7 => ?_)
      · rw [if_pos q7] at hB
        refine es_iinc 1 dX10_first_57 rfl (by decide) (by decide) rfl ?_
        refine ev_goto 21 dX10_first_60 (by decide) ?_
        exact ev_ls (ih l0 l1 (l2 + 1) S3 hl0 hB) (And.intro rfl (And.intro rfl (And.intro rfl trivial)))
      · rw [if_neg q7] at hB
        refine ev_iload_n dX10_first_55 rfl ?_
        obtain rfl := Option.some.inj hB
        exact ev_iret dX10_first_56 rfl (Nat.zero_le _) (Nat.zero_le _) (fun z => absurd z (hp_sealed _)) ⟨rfl, rfl⟩
theorem t_X10_first {G : am_G} {N : Nat} {l0 : Nat} {l1 : Int32} {S : am_S} {out : Int32 × am_S} (hl0 : isC 10 l0 = true) (hB : f_X10_first N l0 l1 S = some out) : am_Met G 6 mX10_first 0 0 [.ref l0, .int l1] (hp S) (q_i out) q_n := by
  refine am_of (by decide +kernel) rfl rfl rfl (Nat.le_of_ble_eq_true rfl) ?_
  unfold f_X10_first at hB
  refine ev_aload_n dX10_first_0 rfl ?_
  refine ev_iconst 0 dX10_first_1 (by decide) ?_
  refine es_puti k_10 0 dX10_first_2 (by decide) rfl (Or.inl w_1525) rfl rfl hl0 rfl ?_
  refine ev_aload_n dX10_first_5 rfl ?_
  refine ev_iload_n dX10_first_6 rfl ?_
  obtain ⟨r1, S2, e3, hB⟩ := bd_of hB
  refine es_callVi (As := [.int l1]) (t_X10_isPerson hl0 e3) dX10_first_7 oX10_isPerson w_1941 rfl hl0 rfl rfl (Nat.le_of_ble_eq_true rfl) rfl (am_fit.of (by decide)) ⟨Nat.zero_le _, Nat.zero_le _⟩ ?_
  refine ev_ifne 15 dX10_first_10 (by decide) (fun q4 => ?_) (fun q4 => ?_)
  · rw [if_neg q4] at hB
    refine ev_aload_n dX10_first_15 rfl ?_
    obtain ⟨S6, e7, hB⟩ := bv_of hB
    refine es_callVv (As := []) (t_X10_tries hl0 e7) dX10_first_16 oX10_tries w_2034 rfl hl0 rfl rfl (Nat.le_of_ble_eq_true rfl) rfl (am_fit.of (by decide)) ⟨Nat.zero_le _, Nat.zero_le _⟩ ?_
    refine ev_iconst 1 dX10_first_19 (by decide) ?_
    refine ev_istore_n dX10_first_20 (by decide) rfl ?_
    exact ev_ls (u_X10_first_21 N l0 l1 1 S6 hl0 hB) (And.intro rfl (And.intro rfl (And.intro rfl trivial)))
  · rw [if_pos q4] at hB
    refine ev_iconst 0 dX10_first_13 (by decide) ?_
    obtain rfl := Option.some.inj hB
    exact ev_iret dX10_first_14 rfl (Nat.zero_le _) (Nat.zero_le _) (fun z => absurd z (hp_sealed _)) ⟨rfl, rfl⟩
def b_X10_full_29 (N : Nat)  (S : am_S) : Option (Int32 × am_S) := some (0, S)
def b_X10_full_37 (N : Nat) : Nat → Nat → Int32 → Int32 → Int32 → am_S → Option (Int32 × am_S)
  | 0, _, _, _, _, _ => none
  | n + 1, l0, l1, l2, l3, S => (if 40 < l3 then some ((-1), S) else (bd (f_X10_heldIn N l0 80 l1 S) (fun r2 S3 => (if r2 < l2 then (bv (f_X10_dayGoes N l0 80 S3) (fun S7 => b_X10_full_37 N n l0 l1 l2 (l3 + 1) S7)) else some (l3, S3)))))
def f_X10_full (N : Nat) (l0 : Nat) (l1 : Int32) (l2 : Int32) (S : am_S) : Option (Int32 × am_S) := (bd (f_X10_isBox N l0 l1 (sp S l0 0 0)) (fun r1 S2 => (if r1 = 0 then b_X10_full_29 N S2 else (bd (f_X10_within N l2 1 792 S2) (fun r5 S6 => (bd (f_X10_right N l0 r5 2 S6) (fun r8 S9 => (if r8 = 0 then b_X10_full_29 N S9 else (bv (f_X10_tries N l0 S9) (fun S13 => b_X10_full_37 N N l0 l1 l2 0 S13))))))))))
theorem u_X10_full_29 {G : am_G} {N : Nat} {h0 : am_H} {out : Int32 × am_S}  (S : am_S) (hB : b_X10_full_29 N  S = some out) : Ev G (am_R 6 0 0) (am_Φ G h0 0 0 (q_i out) q_n) mX10_full 0 0 29 [none, none, none, none] [] (hp S) := by
  unfold b_X10_full_29 at hB
  refine ev_iconst 0 dX10_full_29 (by decide) ?_
  obtain rfl := Option.some.inj hB
  exact ev_iret dX10_full_30 rfl (Nat.zero_le _) (Nat.zero_le _) (fun z => absurd z (hp_sealed _)) ⟨rfl, rfl⟩
theorem u_X10_full_37 {G : am_G} {N : Nat} {h0 : am_H} {out : Int32 × am_S} : ∀ (n : Nat) (l0 : Nat) (l1 : Int32) (l2 : Int32) (l3 : Int32) (S : am_S), isC 10 l0 = true → b_X10_full_37 N n l0 l1 l2 l3 S = some out → Ev G (am_R 6 0 0) (am_Φ G h0 0 0 (q_i out) q_n) mX10_full 0 0 37 [some (.ref l0), some (.int l1), some (.int l2), some (.int l3)] [] (hp S) := by
  intro n
  induction n with
  | zero =>
    intro l0 l1 l2 l3 S hl0 hB
    exact absurd (show none = some out from hB) (fun q => by cases q)
  | succ n ih =>
    intro l0 l1 l2 l3 S hl0 hB
    unfold b_X10_full_37 at hB
    refine ev_iload_n dX10_full_37 rfl ?_
    refine ev_bipush 40 dX10_full_38 (by decide) ?_
    refine ev_icmpgt 68 dX10_full_40 (by decide) (fun q1 => ?_) (fun q1 => ?_)
    · rw [if_pos q1] at hB
      refine ev_iconst (-1) dX10_full_68 (by decide) ?_
      obtain rfl := Option.some.inj hB
      exact ev_iret dX10_full_69 rfl (Nat.zero_le _) (Nat.zero_le _) (fun z => absurd z (hp_sealed _)) ⟨rfl, rfl⟩
    · rw [if_neg q1] at hB
      refine ev_aload_n dX10_full_43 rfl ?_
      refine ev_bipush 80 dX10_full_44 (by decide) ?_
      refine ev_iload_n dX10_full_46 rfl ?_
      obtain ⟨r2, S3, e4, hB⟩ := bd_of hB
      refine es_callVi (As := [.int 80, .int l1]) (t_X10_heldIn hl0 e4) dX10_full_47 oX10_heldIn w_1890 rfl hl0 rfl rfl (Nat.le_of_ble_eq_true rfl) rfl (am_fit.of (by decide)) ⟨Nat.zero_le _, Nat.zero_le _⟩ ?_
      refine ev_iload_n dX10_full_50 rfl ?_
      refine ev_icmplt 56 dX10_full_51 (by decide) (fun q5 => ?_) (fun q5 => ?_)
      · rw [if_pos q5] at hB
        refine ev_aload_n dX10_full_56 rfl ?_
        refine ev_bipush 80 dX10_full_57 (by decide) ?_
        obtain ⟨S7, e8, hB⟩ := bv_of hB
        refine es_callVv (As := [.int 80]) (t_X10_dayGoes hl0 e8) dX10_full_59 oX10_dayGoes w_1961 rfl hl0 rfl rfl (Nat.le_of_ble_eq_true rfl) rfl (am_fit.of (by decide)) ⟨Nat.zero_le _, Nat.zero_le _⟩ ?_
        refine es_iinc 1 dX10_full_62 rfl (by decide) (by decide) rfl ?_
        refine ev_goto 37 dX10_full_65 (by decide) ?_
        exact ev_ls (ih l0 l1 l2 (l3 + 1) S7 hl0 hB) (And.intro rfl (And.intro rfl (And.intro rfl (And.intro rfl trivial))))
      · rw [if_neg q5] at hB
        refine ev_iload_n dX10_full_54 rfl ?_
        obtain rfl := Option.some.inj hB
        exact ev_iret dX10_full_55 rfl (Nat.zero_le _) (Nat.zero_le _) (fun z => absurd z (hp_sealed _)) ⟨rfl, rfl⟩
theorem t_X10_full {G : am_G} {N : Nat} {l0 : Nat} {l1 : Int32} {l2 : Int32} {S : am_S} {out : Int32 × am_S} (hl0 : isC 10 l0 = true) (hB : f_X10_full N l0 l1 l2 S = some out) : am_Met G 6 mX10_full 0 0 [.ref l0, .int l1, .int l2] (hp S) (q_i out) q_n := by
  refine am_of (by decide +kernel) rfl rfl rfl (Nat.le_of_ble_eq_true rfl) ?_
  unfold f_X10_full at hB
  refine ev_aload_n dX10_full_0 rfl ?_
  refine ev_iconst 0 dX10_full_1 (by decide) ?_
  refine es_puti k_10 0 dX10_full_2 (by decide) rfl (Or.inl w_1525) rfl rfl hl0 rfl ?_
  refine ev_aload_n dX10_full_5 rfl ?_
  refine ev_iload_n dX10_full_6 rfl ?_
  obtain ⟨r1, S2, e3, hB⟩ := bd_of hB
  refine es_callVi (As := [.int l1]) (t_X10_isBox hl0 e3) dX10_full_7 oX10_isBox w_1914 rfl hl0 rfl rfl (Nat.le_of_ble_eq_true rfl) rfl (am_fit.of (by decide)) ⟨Nat.zero_le _, Nat.zero_le _⟩ ?_
  refine ev_ifeq 29 dX10_full_10 (by decide) (fun q4 => ?_) (fun q4 => ?_)
  · rw [if_pos q4] at hB
    exact ev_ls (u_X10_full_29 S2 hB) trivial
  · rw [if_neg q4] at hB
    refine ev_aload_n dX10_full_13 rfl ?_
    refine ev_iload_n dX10_full_14 rfl ?_
    refine ev_iconst 1 dX10_full_15 (by decide) ?_
    refine ev_sipush 792 dX10_full_16 (by decide) ?_
    obtain ⟨r5, S6, e7, hB⟩ := bd_of hB
    refine es_callSi (As := [.int l2, .int 1, .int 792]) (t_X10_within e7) dX10_full_19 oX10_within w_1875 rfl (Nat.le_of_ble_eq_true rfl) rfl (am_fit.of (by decide)) ⟨Nat.zero_le _, Nat.zero_le _⟩ ?_
    refine ev_iconst 2 dX10_full_22 (by decide) ?_
    obtain ⟨r8, S9, e10, hB⟩ := bd_of hB
    refine es_callVi (As := [.int r5, .int 2]) (t_X10_right hl0 e10) dX10_full_23 oX10_right w_1744 rfl hl0 rfl rfl (Nat.le_of_ble_eq_true rfl) rfl (am_fit.of (by decide)) ⟨Nat.zero_le _, Nat.zero_le _⟩ ?_
    refine ev_ifne 31 dX10_full_26 (by decide) (fun q11 => ?_) (fun q11 => ?_)
    · rw [if_neg q11] at hB
      refine ev_aload_n dX10_full_31 rfl ?_
      obtain ⟨S13, e14, hB⟩ := bv_of hB
      refine es_callVv (As := []) (t_X10_tries hl0 e14) dX10_full_32 oX10_tries w_2034 rfl hl0 rfl rfl (Nat.le_of_ble_eq_true rfl) rfl (am_fit.of (by decide)) ⟨Nat.zero_le _, Nat.zero_le _⟩ ?_
      refine ev_iconst 0 dX10_full_35 (by decide) ?_
      refine ev_istore_n dX10_full_36 (by decide) rfl ?_
      exact ev_ls (u_X10_full_37 N l0 l1 l2 0 S13 hl0 hB) (And.intro rfl (And.intro rfl (And.intro rfl (And.intro rfl trivial))))
    · rw [if_pos q11] at hB
      exact ev_ls (u_X10_full_29 S9 hB) trivial
def b_X10_fullest_36 (N : Nat) (k4 : Nat → Int32 → Int32 → am_S → Option (Int32 × am_S)) (l0 : Nat) (l1 : Int32) (l2 : Int32) (S : am_S) : Option (Int32 × am_S) := k4 l0 l1 (l2 + 1) S
def b_X10_fullest_34 (N : Nat) (k4 : Nat → Int32 → Int32 → am_S → Option (Int32 × am_S)) (l0 : Nat) (l2 : Int32) (S : am_S) : Option (Int32 × am_S) := b_X10_fullest_36 N (k4) l0 l2 l2 S
def b_X10_fullest_4 (N : Nat) : Nat → Nat → Int32 → Int32 → am_S → Option (Int32 × am_S)
  | 0, _, _, _, _ => none
  | n + 1, l0, l1, l2, S => (if (sg S l0 1) ≤ l2 then some (l1, S) else (if l1 = (-1) then b_X10_fullest_34 N (b_X10_fullest_4 N n) l0 l2 S else (bd (f_X10_heldIn N l0 80 l2 S) (fun r3 S4 => (bd (f_X10_heldIn N l0 80 l1 S4) (fun r6 S7 => (if r3 ≤ r6 then b_X10_fullest_36 N (b_X10_fullest_4 N n) l0 l1 l2 S7 else b_X10_fullest_34 N (b_X10_fullest_4 N n) l0 l2 S7)))))))
def f_X10_fullest (N : Nat) (l0 : Nat) (S : am_S) : Option (Int32 × am_S) := b_X10_fullest_4 N N l0 (-1) 0 S
theorem u_X10_fullest_36 {G : am_G} {N : Nat} {h0 : am_H} {out : Int32 × am_S} {k4 : Nat → Int32 → Int32 → am_S → Option (Int32 × am_S)} (hk4 : ∀ (l0 : Nat) (l1 : Int32) (l2 : Int32) (S : am_S), isC 10 l0 = true → k4 l0 l1 l2 S = some out → Ev G (am_R 2 0 0) (am_Φ G h0 0 0 (q_i out) q_n) mX10_fullest 0 0 4 [some (.ref l0), some (.int l1), some (.int l2)] [] (hp S)) (l0 : Nat) (l1 : Int32) (l2 : Int32) (S : am_S) (hl0 : isC 10 l0 = true) (hB : b_X10_fullest_36 N k4 l0 l1 l2 S = some out) : Ev G (am_R 2 0 0) (am_Φ G h0 0 0 (q_i out) q_n) mX10_fullest 0 0 36 [some (.ref l0), some (.int l1), some (.int l2)] [] (hp S) := by
  unfold b_X10_fullest_36 at hB
  refine es_iinc 1 dX10_fullest_36 rfl (by decide) (by decide) rfl ?_
  refine ev_goto 4 dX10_fullest_39 (by decide) ?_
  exact ev_ls (hk4 l0 l1 (l2 + 1) S hl0 hB) (And.intro rfl (And.intro rfl (And.intro rfl trivial)))
theorem u_X10_fullest_34 {G : am_G} {N : Nat} {h0 : am_H} {out : Int32 × am_S} {k4 : Nat → Int32 → Int32 → am_S → Option (Int32 × am_S)} (hk4 : ∀ (l0 : Nat) (l1 : Int32) (l2 : Int32) (S : am_S), isC 10 l0 = true → k4 l0 l1 l2 S = some out → Ev G (am_R 2 0 0) (am_Φ G h0 0 0 (q_i out) q_n) mX10_fullest 0 0 4 [some (.ref l0), some (.int l1), some (.int l2)] [] (hp S)) (l0 : Nat) (l2 : Int32) (S : am_S) (hl0 : isC 10 l0 = true) (hB : b_X10_fullest_34 N k4 l0 l2 S = some out) : Ev G (am_R 2 0 0) (am_Φ G h0 0 0 (q_i out) q_n) mX10_fullest 0 0 34 [some (.ref l0), none, some (.int l2)] [] (hp S) := by
  unfold b_X10_fullest_34 at hB
  refine ev_iload_n dX10_fullest_34 rfl ?_
  refine ev_istore_n dX10_fullest_35 (by decide) rfl ?_
  exact ev_ls (u_X10_fullest_36 hk4 l0 l2 l2 S hl0 hB) (And.intro rfl (And.intro rfl (And.intro rfl trivial)))
theorem u_X10_fullest_4 {G : am_G} {N : Nat} {h0 : am_H} {out : Int32 × am_S} : ∀ (n : Nat) (l0 : Nat) (l1 : Int32) (l2 : Int32) (S : am_S), isC 10 l0 = true → b_X10_fullest_4 N n l0 l1 l2 S = some out → Ev G (am_R 2 0 0) (am_Φ G h0 0 0 (q_i out) q_n) mX10_fullest 0 0 4 [some (.ref l0), some (.int l1), some (.int l2)] [] (hp S) := by
  intro n
  induction n with
  | zero =>
    intro l0 l1 l2 S hl0 hB
    exact absurd (show none = some out from hB) (fun q => by cases q)
  | succ n ih =>
    intro l0 l1 l2 S hl0 hB
    unfold b_X10_fullest_4 at hB
    refine ev_iload_n dX10_fullest_4 rfl ?_
    refine ev_aload_n dX10_fullest_5 rfl ?_
    refine es_geti k_10 1 dX10_fullest_6 (by decide) rfl (Or.inl w_1526) hl0 rfl ?_
    refine ev_icmpge 42 dX10_fullest_9 (by decide) (fun q1 => ?_) (fun q1 => ?_)
    · rw [if_pos q1] at hB
      refine ev_iload_n dX10_fullest_42 rfl ?_
      obtain rfl := Option.some.inj hB
      exact ev_iret dX10_fullest_43 rfl (Nat.zero_le _) (Nat.zero_le _) (fun z => absurd z (hp_sealed _)) ⟨rfl, rfl⟩
    · rw [if_neg q1] at hB
      refine ev_iload_n dX10_fullest_12 rfl ?_
      refine ev_iconst (-1) dX10_fullest_13 (by decide) ?_
      refine ev_icmpeq 34 dX10_fullest_14 (by decide) (fun q2 => ?_) (fun q2 => ?_)
      · rw [if_pos q2] at hB
        exact ev_ls (u_X10_fullest_34 ih l0 l2 S hl0 hB) (And.intro rfl (And.intro rfl trivial))
      · rw [if_neg q2] at hB
        refine ev_aload_n dX10_fullest_17 rfl ?_
        refine ev_bipush 80 dX10_fullest_18 (by decide) ?_
        refine ev_iload_n dX10_fullest_20 rfl ?_
        obtain ⟨r3, S4, e5, hB⟩ := bd_of hB
        refine es_callVi (As := [.int 80, .int l2]) (t_X10_heldIn hl0 e5) dX10_fullest_21 oX10_heldIn w_1890 rfl hl0 rfl rfl (Nat.le_of_ble_eq_true rfl) rfl (am_fit.of (by decide)) ⟨Nat.zero_le _, Nat.zero_le _⟩ ?_
        refine ev_aload_n dX10_fullest_24 rfl ?_
        refine ev_bipush 80 dX10_fullest_25 (by decide) ?_
        refine ev_iload_n dX10_fullest_27 rfl ?_
        obtain ⟨r6, S7, e8, hB⟩ := bd_of hB
        refine es_callVi (As := [.int 80, .int l1]) (t_X10_heldIn hl0 e8) dX10_fullest_28 oX10_heldIn w_1890 rfl hl0 rfl rfl (Nat.le_of_ble_eq_true rfl) rfl (am_fit.of (by decide)) ⟨Nat.zero_le _, Nat.zero_le _⟩ ?_
        refine ev_icmple 36 dX10_fullest_31 (by decide) (fun q9 => ?_) (fun q9 => ?_)
        · rw [if_pos q9] at hB
          exact ev_ls (u_X10_fullest_36 ih l0 l1 l2 S7 hl0 hB) (And.intro rfl (And.intro rfl (And.intro rfl trivial)))
        · rw [if_neg q9] at hB
          exact ev_ls (u_X10_fullest_34 ih l0 l2 S7 hl0 hB) (And.intro rfl (And.intro rfl trivial))
theorem t_X10_fullest {G : am_G} {N : Nat} {l0 : Nat} {S : am_S} {out : Int32 × am_S} (hl0 : isC 10 l0 = true) (hB : f_X10_fullest N l0 S = some out) : am_Met G 2 mX10_fullest 0 0 [.ref l0] (hp S) (q_i out) q_n := by
  refine am_of (by decide +kernel) rfl rfl rfl (Nat.le_of_ble_eq_true rfl) ?_
  unfold f_X10_fullest at hB
  refine ev_iconst (-1) dX10_fullest_0 (by decide) ?_
  refine ev_istore_n dX10_fullest_1 (by decide) rfl ?_
  refine ev_iconst 0 dX10_fullest_2 (by decide) ?_
  refine ev_istore_n dX10_fullest_3 (by decide) rfl ?_
  exact ev_ls (u_X10_fullest_4 N l0 (-1) 0 S hl0 hB) (And.intro rfl (And.intro rfl (And.intro rfl trivial)))
def b_X10_mostOf_44 (N : Nat) (k4 : Nat → Int32 → Int32 → Int32 → am_S → Option (Int32 × am_S)) (l0 : Nat) (l1 : Int32) (l2 : Int32) (l3 : Int32) (S : am_S) : Option (Int32 × am_S) := k4 l0 l1 l2 (l3 + 1) S
def b_X10_mostOf_42 (N : Nat) (k4 : Nat → Int32 → Int32 → Int32 → am_S → Option (Int32 × am_S)) (l0 : Nat) (l1 : Int32) (l3 : Int32) (S : am_S) : Option (Int32 × am_S) := b_X10_mostOf_44 N (k4) l0 l1 l3 l3 S
def b_X10_mostOf_4 (N : Nat) : Nat → Nat → Int32 → Int32 → Int32 → am_S → Option (Int32 × am_S)
  | 0, _, _, _, _, _ => none
  | n + 1, l0, l1, l2, l3, S => (if (sg S l0 2) ≤ l3 then some (l2, S) else (if l2 = (-1) then b_X10_mostOf_42 N (b_X10_mostOf_4 N n) l0 l1 l3 S else (if inb ((80 + l1) + l3) (ln (rf l0 46)) = true then (if inb ((80 + l1) + l2) (ln (rf l0 46)) = true then (if (sg S (rf l0 46) (Int32.toNatClampNeg ((80 + l1) + l3))) ≤ (sg S (rf l0 46) (Int32.toNatClampNeg ((80 + l1) + l2))) then b_X10_mostOf_44 N (b_X10_mostOf_4 N n) l0 l1 l2 l3 S else b_X10_mostOf_42 N (b_X10_mostOf_4 N n) l0 l1 l3 S) else none) else none)))
def f_X10_mostOf (N : Nat) (l0 : Nat) (l1 : Int32) (S : am_S) : Option (Int32 × am_S) := b_X10_mostOf_4 N N l0 l1 (-1) 0 S
theorem u_X10_mostOf_44 {G : am_G} {N : Nat} {h0 : am_H} {out : Int32 × am_S} {k4 : Nat → Int32 → Int32 → Int32 → am_S → Option (Int32 × am_S)} (hk4 : ∀ (l0 : Nat) (l1 : Int32) (l2 : Int32) (l3 : Int32) (S : am_S), isC 10 l0 = true → k4 l0 l1 l2 l3 S = some out → Ev G (am_R 1 0 0) (am_Φ G h0 0 0 (q_i out) q_n) mX10_mostOf 0 0 4 [some (.ref l0), some (.int l1), some (.int l2), some (.int l3)] [] (hp S)) (l0 : Nat) (l1 : Int32) (l2 : Int32) (l3 : Int32) (S : am_S) (hl0 : isC 10 l0 = true) (hB : b_X10_mostOf_44 N k4 l0 l1 l2 l3 S = some out) : Ev G (am_R 1 0 0) (am_Φ G h0 0 0 (q_i out) q_n) mX10_mostOf 0 0 44 [some (.ref l0), some (.int l1), some (.int l2), some (.int l3)] [] (hp S) := by
  unfold b_X10_mostOf_44 at hB
  refine es_iinc 1 dX10_mostOf_44 rfl (by decide) (by decide) rfl ?_
  refine ev_goto 4 dX10_mostOf_47 (by decide) ?_
  exact ev_ls (hk4 l0 l1 l2 (l3 + 1) S hl0 hB) (And.intro rfl (And.intro rfl (And.intro rfl (And.intro rfl trivial))))
theorem u_X10_mostOf_42 {G : am_G} {N : Nat} {h0 : am_H} {out : Int32 × am_S} {k4 : Nat → Int32 → Int32 → Int32 → am_S → Option (Int32 × am_S)} (hk4 : ∀ (l0 : Nat) (l1 : Int32) (l2 : Int32) (l3 : Int32) (S : am_S), isC 10 l0 = true → k4 l0 l1 l2 l3 S = some out → Ev G (am_R 1 0 0) (am_Φ G h0 0 0 (q_i out) q_n) mX10_mostOf 0 0 4 [some (.ref l0), some (.int l1), some (.int l2), some (.int l3)] [] (hp S)) (l0 : Nat) (l1 : Int32) (l3 : Int32) (S : am_S) (hl0 : isC 10 l0 = true) (hB : b_X10_mostOf_42 N k4 l0 l1 l3 S = some out) : Ev G (am_R 1 0 0) (am_Φ G h0 0 0 (q_i out) q_n) mX10_mostOf 0 0 42 [some (.ref l0), some (.int l1), none, some (.int l3)] [] (hp S) := by
  unfold b_X10_mostOf_42 at hB
  refine ev_iload_n dX10_mostOf_42 rfl ?_
  refine ev_istore_n dX10_mostOf_43 (by decide) rfl ?_
  exact ev_ls (u_X10_mostOf_44 hk4 l0 l1 l3 l3 S hl0 hB) (And.intro rfl (And.intro rfl (And.intro rfl (And.intro rfl trivial))))
theorem u_X10_mostOf_4 {G : am_G} {N : Nat} {h0 : am_H} {out : Int32 × am_S} : ∀ (n : Nat) (l0 : Nat) (l1 : Int32) (l2 : Int32) (l3 : Int32) (S : am_S), isC 10 l0 = true → b_X10_mostOf_4 N n l0 l1 l2 l3 S = some out → Ev G (am_R 1 0 0) (am_Φ G h0 0 0 (q_i out) q_n) mX10_mostOf 0 0 4 [some (.ref l0), some (.int l1), some (.int l2), some (.int l3)] [] (hp S) := by
  intro n
  induction n with
  | zero =>
    intro l0 l1 l2 l3 S hl0 hB
    exact absurd (show none = some out from hB) (fun q => by cases q)
  | succ n ih =>
    intro l0 l1 l2 l3 S hl0 hB
    unfold b_X10_mostOf_4 at hB
    refine ev_iload_n dX10_mostOf_4 rfl ?_
    refine ev_aload_n dX10_mostOf_5 rfl ?_
    refine es_geti k_10 2 dX10_mostOf_6 (by decide) rfl (Or.inl w_1527) hl0 rfl ?_
    refine ev_icmpge 50 dX10_mostOf_9 (by decide) (fun q1 => ?_) (fun q1 => ?_)
    · rw [if_pos q1] at hB
      refine ev_iload_n dX10_mostOf_50 rfl ?_
      obtain rfl := Option.some.inj hB
      exact ev_iret dX10_mostOf_51 rfl (Nat.zero_le _) (Nat.zero_le _) (fun z => absurd z (hp_sealed _)) ⟨rfl, rfl⟩
    · rw [if_neg q1] at hB
      refine ev_iload_n dX10_mostOf_12 rfl ?_
      refine ev_iconst (-1) dX10_mostOf_13 (by decide) ?_
      refine ev_icmpeq 42 dX10_mostOf_14 (by decide) (fun q2 => ?_) (fun q2 => ?_)
      · rw [if_pos q2] at hB
        exact ev_ls (u_X10_mostOf_42 ih l0 l1 l3 S hl0 hB) (And.intro rfl (And.intro rfl (And.intro rfl trivial)))
      · rw [if_neg q2] at hB
        refine ev_aload_n dX10_mostOf_17 rfl ?_
        refine es_getr k_10 46 dX10_mostOf_18 (by decide) rfl (Or.inl w_1571) hl0 rfl ?_
        refine ev_bipush 80 dX10_mostOf_21 (by decide) ?_
        refine ev_iload_n dX10_mostOf_23 rfl ?_
        refine ev_iadd dX10_mostOf_24 ?_
        refine ev_iload_n dX10_mostOf_25 rfl ?_
        refine ev_iadd dX10_mostOf_26 ?_
        obtain ⟨c3, hB⟩ := ck_of hB
        refine es_iald dX10_mostOf_27 (tr_10_46 hl0) c3 ?_
        refine ev_aload_n dX10_mostOf_28 rfl ?_
        refine es_getr k_10 46 dX10_mostOf_29 (by decide) rfl (Or.inl w_1571) hl0 rfl ?_
        refine ev_bipush 80 dX10_mostOf_32 (by decide) ?_
        refine ev_iload_n dX10_mostOf_34 rfl ?_
        refine ev_iadd dX10_mostOf_35 ?_
        refine ev_iload_n dX10_mostOf_36 rfl ?_
        refine ev_iadd dX10_mostOf_37 ?_
        obtain ⟨c4, hB⟩ := ck_of hB
        refine es_iald dX10_mostOf_38 (tr_10_46 hl0) c4 ?_
        refine ev_icmple 44 dX10_mostOf_39 (by decide) (fun q5 => ?_) (fun q5 => ?_)
        · rw [if_pos q5] at hB
          exact ev_ls (u_X10_mostOf_44 ih l0 l1 l2 l3 S hl0 hB) (And.intro rfl (And.intro rfl (And.intro rfl (And.intro rfl trivial))))
        · rw [if_neg q5] at hB
          exact ev_ls (u_X10_mostOf_42 ih l0 l1 l3 S hl0 hB) (And.intro rfl (And.intro rfl (And.intro rfl trivial)))
theorem t_X10_mostOf {G : am_G} {N : Nat} {l0 : Nat} {l1 : Int32} {S : am_S} {out : Int32 × am_S} (hl0 : isC 10 l0 = true) (hB : f_X10_mostOf N l0 l1 S = some out) : am_Met G 1 mX10_mostOf 0 0 [.ref l0, .int l1] (hp S) (q_i out) q_n := by
  refine am_of (by decide +kernel) rfl rfl rfl (Nat.le_of_ble_eq_true rfl) ?_
  unfold f_X10_mostOf at hB
  refine ev_iconst (-1) dX10_mostOf_0 (by decide) ?_
  refine ev_istore_n dX10_mostOf_1 (by decide) rfl ?_
  refine ev_iconst 0 dX10_mostOf_2 (by decide) ?_
  refine ev_istore_n dX10_mostOf_3 (by decide) rfl ?_
  exact ev_ls (u_X10_mostOf_4 N l0 l1 (-1) 0 S hl0 hB) (And.intro rfl (And.intro rfl (And.intro rfl (And.intro rfl trivial))))
def b_X10_emptyOnes_30 (N : Nat) (k4 : Nat → Int32 → Int32 → am_S → Option (Int32 × am_S)) (l0 : Nat) (l2 : Int32) (z0 : Int32) (z1 : Int32) (S : am_S) : Option (Int32 × am_S) := k4 l0 (z0 ||| z1) (l2 + 1) S
def b_X10_emptyOnes_4 (N : Nat) : Nat → Nat → Int32 → Int32 → am_S → Option (Int32 × am_S)
  | 0, _, _, _, _ => none
  | n + 1, l0, l1, l2, S => (if (sg S l0 1) ≤ l2 then some (l1, S) else (bd (f_X10_heldIn N l0 80 l2 S) (fun r2 S3 => (if r2 = 0 then b_X10_emptyOnes_30 N (b_X10_emptyOnes_4 N n) l0 l2 l1 ((1 : Int32) <<< (l2 &&& (31 : Int32))) S3 else b_X10_emptyOnes_30 N (b_X10_emptyOnes_4 N n) l0 l2 l1 0 S3))))
def f_X10_emptyOnes (N : Nat) (l0 : Nat) (S : am_S) : Option (Int32 × am_S) := b_X10_emptyOnes_4 N N l0 0 0 S
theorem u_X10_emptyOnes_30 {G : am_G} {N : Nat} {h0 : am_H} {out : Int32 × am_S} {k4 : Nat → Int32 → Int32 → am_S → Option (Int32 × am_S)} (hk4 : ∀ (l0 : Nat) (l1 : Int32) (l2 : Int32) (S : am_S), isC 10 l0 = true → k4 l0 l1 l2 S = some out → Ev G (am_R 2 0 0) (am_Φ G h0 0 0 (q_i out) q_n) mX10_emptyOnes 0 0 4 [some (.ref l0), some (.int l1), some (.int l2)] [] (hp S)) (l0 : Nat) (l2 : Int32) (z0 : Int32) (z1 : Int32) (S : am_S) (hl0 : isC 10 l0 = true) (hB : b_X10_emptyOnes_30 N k4 l0 l2 z0 z1 S = some out) : Ev G (am_R 2 0 0) (am_Φ G h0 0 0 (q_i out) q_n) mX10_emptyOnes 0 0 30 [some (.ref l0), none, some (.int l2)] [.int z1, .int z0] (hp S) := by
  unfold b_X10_emptyOnes_30 at hB
  refine ev_ior dX10_emptyOnes_30 ?_
  refine ev_istore_n dX10_emptyOnes_31 (by decide) rfl ?_
  refine es_iinc 1 dX10_emptyOnes_32 rfl (by decide) (by decide) rfl ?_
  refine ev_goto 4 dX10_emptyOnes_35 (by decide) ?_
  exact ev_ls (hk4 l0 (z0 ||| z1) (l2 + 1) S hl0 hB) (And.intro rfl (And.intro rfl (And.intro rfl trivial)))
theorem u_X10_emptyOnes_4 {G : am_G} {N : Nat} {h0 : am_H} {out : Int32 × am_S} : ∀ (n : Nat) (l0 : Nat) (l1 : Int32) (l2 : Int32) (S : am_S), isC 10 l0 = true → b_X10_emptyOnes_4 N n l0 l1 l2 S = some out → Ev G (am_R 2 0 0) (am_Φ G h0 0 0 (q_i out) q_n) mX10_emptyOnes 0 0 4 [some (.ref l0), some (.int l1), some (.int l2)] [] (hp S) := by
  intro n
  induction n with
  | zero =>
    intro l0 l1 l2 S hl0 hB
    exact absurd (show none = some out from hB) (fun q => by cases q)
  | succ n ih =>
    intro l0 l1 l2 S hl0 hB
    unfold b_X10_emptyOnes_4 at hB
    refine ev_iload_n dX10_emptyOnes_4 rfl ?_
    refine ev_aload_n dX10_emptyOnes_5 rfl ?_
    refine es_geti k_10 1 dX10_emptyOnes_6 (by decide) rfl (Or.inl w_1526) hl0 rfl ?_
    refine ev_icmpge 38 dX10_emptyOnes_9 (by decide) (fun q1 => ?_) (fun q1 => ?_)
    · rw [if_pos q1] at hB
      refine ev_iload_n dX10_emptyOnes_38 rfl ?_
      obtain rfl := Option.some.inj hB
      exact ev_iret dX10_emptyOnes_39 rfl (Nat.zero_le _) (Nat.zero_le _) (fun z => absurd z (hp_sealed _)) ⟨rfl, rfl⟩
    · rw [if_neg q1] at hB
      refine ev_iload_n dX10_emptyOnes_12 rfl ?_
      refine ev_aload_n dX10_emptyOnes_13 rfl ?_
      refine ev_bipush 80 dX10_emptyOnes_14 (by decide) ?_
      refine ev_iload_n dX10_emptyOnes_16 rfl ?_
      obtain ⟨r2, S3, e4, hB⟩ := bd_of hB
      refine es_callVi (As := [.int 80, .int l2]) (t_X10_heldIn hl0 e4) dX10_emptyOnes_17 oX10_heldIn w_1890 rfl hl0 rfl rfl (Nat.le_of_ble_eq_true rfl) rfl (am_fit.of (by decide)) ⟨Nat.zero_le _, Nat.zero_le _⟩ ?_
      refine ev_ifne 29 dX10_emptyOnes_20 (by decide) (fun q5 => ?_) (fun q5 => ?_)
      · rw [if_neg q5] at hB
        refine ev_iconst 0 dX10_emptyOnes_29 (by decide) ?_
        exact ev_ls (u_X10_emptyOnes_30 ih l0 l2 l1 0 S3 hl0 hB) (And.intro rfl (And.intro rfl trivial))
      · rw [if_pos q5] at hB
        refine ev_iconst 1 dX10_emptyOnes_23 (by decide) ?_
        refine ev_iload_n dX10_emptyOnes_24 rfl ?_
        refine ev_ishl dX10_emptyOnes_25 ?_
        refine ev_goto 30 dX10_emptyOnes_26 (by decide) ?_
        exact ev_ls (u_X10_emptyOnes_30 ih l0 l2 l1 ((1 : Int32) <<< (l2 &&& (31 : Int32))) S3 hl0 hB) (And.intro rfl (And.intro rfl trivial))
theorem t_X10_emptyOnes {G : am_G} {N : Nat} {l0 : Nat} {S : am_S} {out : Int32 × am_S} (hl0 : isC 10 l0 = true) (hB : f_X10_emptyOnes N l0 S = some out) : am_Met G 2 mX10_emptyOnes 0 0 [.ref l0] (hp S) (q_i out) q_n := by
  refine am_of (by decide +kernel) rfl rfl rfl (Nat.le_of_ble_eq_true rfl) ?_
  unfold f_X10_emptyOnes at hB
  refine ev_iconst 0 dX10_emptyOnes_0 (by decide) ?_
  refine ev_istore_n dX10_emptyOnes_1 (by decide) rfl ?_
  refine ev_iconst 0 dX10_emptyOnes_2 (by decide) ?_
  refine ev_istore_n dX10_emptyOnes_3 (by decide) rfl ?_
  exact ev_ls (u_X10_emptyOnes_4 N l0 0 0 S hl0 hB) (And.intro rfl (And.intro rfl (And.intro rfl trivial)))
def b_X10_most_24 (N : Nat)  (S : am_S) : Option (Int32 × am_S) := some (0, S)
def b_X10_most_112 (N : Nat) (z0 : Int32) (S : am_S) : Option (Int32 × am_S) := some (z0, S)
def b_X10_most_35 (N : Nat) : Nat → Nat → Int32 → Int32 → Int32 → Int32 → am_S → Option (Int32 × am_S)
  | 0, _, _, _, _, _, _ => none
  | n + 1, l0, l1, l2, l3, l4, S => (if l1 ≤ l4 then (if l2 = 0 then (bd (f_X10_fullest N l0 S) (fun r15 S16 => b_X10_most_112 N r15 S16)) else (if l2 = 1 then (bd (f_X10_mostOf N l0 64 S) (fun r12 S13 => b_X10_most_112 N r12 S13)) else (if l2 = 2 then b_X10_most_112 N l3 S else (if l2 = 3 then (bd (f_X10_mostOf N l0 56 S) (fun r9 S10 => b_X10_most_112 N r9 S10)) else (bd (f_X10_emptyOnes N l0 S) (fun r6 S7 => b_X10_most_112 N r6 S7)))))) else (bv (f_X10_dayGoes N l0 80 S) (fun S19 => b_X10_most_35 N n l0 l1 l2 (l3 + (sg S19 l0 54)) (l4 + 1) S19)))
def f_X10_most (N : Nat) (l0 : Nat) (l1 : Int32) (l2 : Int32) (S : am_S) : Option (Int32 × am_S) := (bd (f_X10_isWhat N l0 l2 4 (sp S l0 0 0)) (fun r1 S2 => (if r1 = 0 then b_X10_most_24 N S2 else (bd (f_X10_isDays N l0 l1 0 2 S2) (fun r5 S6 => (if r5 = 0 then b_X10_most_24 N S6 else (bv (f_X10_tries N l0 S6) (fun S10 => b_X10_most_35 N N l0 l1 l2 0 0 S10))))))))
theorem u_X10_most_24 {G : am_G} {N : Nat} {h0 : am_H} {out : Int32 × am_S}  (S : am_S) (hB : b_X10_most_24 N  S = some out) : Ev G (am_R 6 0 0) (am_Φ G h0 0 0 (q_i out) q_n) mX10_most 0 0 24 [none, none, none, none, none] [] (hp S) := by
  unfold b_X10_most_24 at hB
  refine ev_iconst 0 dX10_most_24 (by decide) ?_
  obtain rfl := Option.some.inj hB
  exact ev_iret dX10_most_25 rfl (Nat.zero_le _) (Nat.zero_le _) (fun z => absurd z (hp_sealed _)) ⟨rfl, rfl⟩
theorem u_X10_most_112 {G : am_G} {N : Nat} {h0 : am_H} {out : Int32 × am_S} (z0 : Int32) (S : am_S) (hB : b_X10_most_112 N z0 S = some out) : Ev G (am_R 6 0 0) (am_Φ G h0 0 0 (q_i out) q_n) mX10_most 0 0 112 [none, none, none, none, none] [.int z0] (hp S) := by
  unfold b_X10_most_112 at hB
  obtain rfl := Option.some.inj hB
  exact ev_iret dX10_most_112 rfl (Nat.zero_le _) (Nat.zero_le _) (fun z => absurd z (hp_sealed _)) ⟨rfl, rfl⟩
theorem u_X10_most_35 {G : am_G} {N : Nat} {h0 : am_H} {out : Int32 × am_S} : ∀ (n : Nat) (l0 : Nat) (l1 : Int32) (l2 : Int32) (l3 : Int32) (l4 : Int32) (S : am_S), isC 10 l0 = true → b_X10_most_35 N n l0 l1 l2 l3 l4 S = some out → Ev G (am_R 6 0 0) (am_Φ G h0 0 0 (q_i out) q_n) mX10_most 0 0 35 [some (.ref l0), some (.int l1), some (.int l2), some (.int l3), some (.int l4)] [] (hp S) := by
  intro n
  induction n with
  | zero =>
    intro l0 l1 l2 l3 l4 S hl0 hB
    exact absurd (show none = some out from hB) (fun q => by cases q)
  | succ n ih =>
    intro l0 l1 l2 l3 l4 S hl0 hB
    unfold b_X10_most_35 at hB
    refine ev_iload dX10_most_35 rfl ?_
    refine ev_iload_n dX10_most_37 rfl ?_
    refine ev_icmpge 60 dX10_most_38 (by decide) (fun q1 => ?_) (fun q1 => ?_)
    · rw [if_pos q1] at hB
      refine ev_iload_n dX10_most_60 rfl ?_
      refine ev_ifne 71 dX10_most_61 (by decide) (fun q2 => ?_) (fun q2 => ?_)
      · rw [if_neg q2] at hB
        refine ev_iload_n dX10_most_71 rfl ?_
        refine ev_iconst 1 dX10_most_72 (by decide) ?_
        refine ev_icmpne 85 dX10_most_73 (by decide) (fun q3 => ?_) (fun q3 => ?_)
        · rw [if_neg q3] at hB
          refine ev_iload_n dX10_most_85 rfl ?_
          refine ev_iconst 2 dX10_most_86 (by decide) ?_
          refine ev_icmpne 94 dX10_most_87 (by decide) (fun q4 => ?_) (fun q4 => ?_)
          · rw [if_neg q4] at hB
            refine ev_iload_n dX10_most_94 rfl ?_
            refine ev_iconst 3 dX10_most_95 (by decide) ?_
            refine ev_icmpne 108 dX10_most_96 (by decide) (fun q5 => ?_) (fun q5 => ?_)
            · rw [if_neg q5] at hB
              refine ev_aload_n dX10_most_108 rfl ?_
              obtain ⟨r6, S7, e8, hB⟩ := bd_of hB
              refine es_callVi (As := []) (t_X10_emptyOnes hl0 e8) dX10_most_109 oX10_emptyOnes w_2066 rfl hl0 rfl rfl (Nat.le_of_ble_eq_true rfl) rfl (am_fit.of (by decide)) ⟨Nat.zero_le _, Nat.zero_le _⟩ ?_
              exact ev_ls (u_X10_most_112 r6 S7 hB) trivial
            · rw [if_pos q5] at hB
              refine ev_aload_n dX10_most_99 rfl ?_
              refine ev_bipush 56 dX10_most_100 (by decide) ?_
              obtain ⟨r9, S10, e11, hB⟩ := bd_of hB
              refine es_callVi (As := [.int 56]) (t_X10_mostOf hl0 e11) dX10_most_102 oX10_mostOf w_2062 rfl hl0 rfl rfl (Nat.le_of_ble_eq_true rfl) rfl (am_fit.of (by decide)) ⟨Nat.zero_le _, Nat.zero_le _⟩ ?_
              refine ev_goto 112 dX10_most_105 (by decide) ?_
              exact ev_ls (u_X10_most_112 r9 S10 hB) trivial
          · rw [if_pos q4] at hB
            refine ev_iload_n dX10_most_90 rfl ?_
            refine ev_goto 112 dX10_most_91 (by decide) ?_
            exact ev_ls (u_X10_most_112 l3 S hB) trivial
        · rw [if_pos q3] at hB
          refine ev_aload_n dX10_most_76 rfl ?_
          refine ev_bipush 64 dX10_most_77 (by decide) ?_
          obtain ⟨r12, S13, e14, hB⟩ := bd_of hB
          refine es_callVi (As := [.int 64]) (t_X10_mostOf hl0 e14) dX10_most_79 oX10_mostOf w_2062 rfl hl0 rfl rfl (Nat.le_of_ble_eq_true rfl) rfl (am_fit.of (by decide)) ⟨Nat.zero_le _, Nat.zero_le _⟩ ?_
          refine ev_goto 112 dX10_most_82 (by decide) ?_
          exact ev_ls (u_X10_most_112 r12 S13 hB) trivial
      · rw [if_pos q2] at hB
        refine ev_aload_n dX10_most_64 rfl ?_
        obtain ⟨r15, S16, e17, hB⟩ := bd_of hB
        refine es_callVi (As := []) (t_X10_fullest hl0 e17) dX10_most_65 oX10_fullest w_2058 rfl hl0 rfl rfl (Nat.le_of_ble_eq_true rfl) rfl (am_fit.of (by decide)) ⟨Nat.zero_le _, Nat.zero_le _⟩ ?_
        refine ev_goto 112 dX10_most_68 (by decide) ?_
        exact ev_ls (u_X10_most_112 r15 S16 hB) trivial
    · rw [if_neg q1] at hB
      refine ev_aload_n dX10_most_41 rfl ?_
      refine ev_bipush 80 dX10_most_42 (by decide) ?_
      obtain ⟨S19, e20, hB⟩ := bv_of hB
      refine es_callVv (As := [.int 80]) (t_X10_dayGoes hl0 e20) dX10_most_44 oX10_dayGoes w_1961 rfl hl0 rfl rfl (Nat.le_of_ble_eq_true rfl) rfl (am_fit.of (by decide)) ⟨Nat.zero_le _, Nat.zero_le _⟩ ?_
      refine ev_iload_n dX10_most_47 rfl ?_
      refine ev_aload_n dX10_most_48 rfl ?_
      refine es_geti k_10 54 dX10_most_49 (by decide) rfl (Or.inl w_1579) hl0 rfl ?_
      refine ev_iadd dX10_most_52 ?_
      refine ev_istore_n dX10_most_53 (by decide) rfl ?_
      refine es_iinc 1 dX10_most_54 rfl (by decide) (by decide) rfl ?_
      refine ev_goto 35 dX10_most_57 (by decide) ?_
      exact ev_ls (ih l0 l1 l2 (l3 + (sg S19 l0 54)) (l4 + 1) S19 hl0 hB) (And.intro rfl (And.intro rfl (And.intro rfl (And.intro rfl (And.intro rfl trivial)))))
theorem t_X10_most {G : am_G} {N : Nat} {l0 : Nat} {l1 : Int32} {l2 : Int32} {S : am_S} {out : Int32 × am_S} (hl0 : isC 10 l0 = true) (hB : f_X10_most N l0 l1 l2 S = some out) : am_Met G 6 mX10_most 0 0 [.ref l0, .int l1, .int l2] (hp S) (q_i out) q_n := by
  refine am_of (by decide +kernel) rfl rfl rfl (Nat.le_of_ble_eq_true rfl) ?_
  unfold f_X10_most at hB
  refine ev_aload_n dX10_most_0 rfl ?_
  refine ev_iconst 0 dX10_most_1 (by decide) ?_
  refine es_puti k_10 0 dX10_most_2 (by decide) rfl (Or.inl w_1525) rfl rfl hl0 rfl ?_
  refine ev_aload_n dX10_most_5 rfl ?_
  refine ev_iload_n dX10_most_6 rfl ?_
  refine ev_iconst 4 dX10_most_7 (by decide) ?_
  obtain ⟨r1, S2, e3, hB⟩ := bd_of hB
  refine es_callVi (As := [.int l2, .int 4]) (t_X10_isWhat hl0 e3) dX10_most_8 oX10_isWhat w_1918 rfl hl0 rfl rfl (Nat.le_of_ble_eq_true rfl) rfl (am_fit.of (by decide)) ⟨Nat.zero_le _, Nat.zero_le _⟩ ?_
  refine ev_ifeq 24 dX10_most_11 (by decide) (fun q4 => ?_) (fun q4 => ?_)
  · rw [if_pos q4] at hB
    exact ev_ls (u_X10_most_24 S2 hB) trivial
  · rw [if_neg q4] at hB
    refine ev_aload_n dX10_most_14 rfl ?_
    refine ev_iload_n dX10_most_15 rfl ?_
    refine ev_iconst 0 dX10_most_16 (by decide) ?_
    refine ev_iconst 2 dX10_most_17 (by decide) ?_
    obtain ⟨r5, S6, e7, hB⟩ := bd_of hB
    refine es_callVi (As := [.int l1, .int 0, .int 2]) (t_X10_isDays hl0 e7) dX10_most_18 oX10_isDays w_2026 rfl hl0 rfl rfl (Nat.le_of_ble_eq_true rfl) rfl (am_fit.of (by decide)) ⟨Nat.zero_le _, Nat.zero_le _⟩ ?_
    refine ev_ifne 26 dX10_most_21 (by decide) (fun q8 => ?_) (fun q8 => ?_)
    · rw [if_neg q8] at hB
      refine ev_iconst 0 dX10_most_26 (by decide) ?_
      refine ev_istore_n dX10_most_27 (by decide) rfl ?_
      refine ev_aload_n dX10_most_28 rfl ?_
      obtain ⟨S10, e11, hB⟩ := bv_of hB
      refine es_callVv (As := []) (t_X10_tries hl0 e11) dX10_most_29 oX10_tries w_2034 rfl hl0 rfl rfl (Nat.le_of_ble_eq_true rfl) rfl (am_fit.of (by decide)) ⟨Nat.zero_le _, Nat.zero_le _⟩ ?_
      refine ev_iconst 0 dX10_most_32 (by decide) ?_
      refine ev_istore dX10_most_33 (by decide) rfl ?_
      exact ev_ls (u_X10_most_35 N l0 l1 l2 0 0 S10 hl0 hB) (And.intro rfl (And.intro rfl (And.intro rfl (And.intro rfl (And.intro rfl trivial)))))
    · rw [if_pos q8] at hB
      exact ev_ls (u_X10_most_24 S6 hB) trivial
def b_X10_pale_28 (N : Nat)  (S : am_S) : Option (Int32 × am_S) := some (0, S)
def b_X10_pale_36 (N : Nat) : Nat → Nat → Int32 → Int32 → Int32 → am_S → Option (Int32 × am_S)
  | 0, _, _, _, _, _ => none
  | n + 1, l0, l1, l2, l3, S => (if 40 < l3 then some ((-1), S) else (if inb (82 + l1) (ln (rf l0 46)) = true then (if l2 < (sg S (rf l0 46) (Int32.toNatClampNeg (82 + l1))) then (bv (f_X10_dayGoes N l0 80 S) (fun S5 => b_X10_pale_36 N n l0 l1 l2 (l3 + 1) S5)) else some (l3, S)) else none))
def f_X10_pale (N : Nat) (l0 : Nat) (l1 : Int32) (l2 : Int32) (S : am_S) : Option (Int32 × am_S) := (bd (f_X10_isBox N l0 l1 (sp S l0 0 0)) (fun r1 S2 => (if r1 = 0 then b_X10_pale_28 N S2 else (bd (f_X10_within N l2 0 99 S2) (fun r5 S6 => (bd (f_X10_right N l0 r5 2 S6) (fun r8 S9 => (if r8 = 0 then b_X10_pale_28 N S9 else (bv (f_X10_tries N l0 S9) (fun S13 => b_X10_pale_36 N N l0 l1 l2 0 S13))))))))))
theorem u_X10_pale_28 {G : am_G} {N : Nat} {h0 : am_H} {out : Int32 × am_S}  (S : am_S) (hB : b_X10_pale_28 N  S = some out) : Ev G (am_R 6 0 0) (am_Φ G h0 0 0 (q_i out) q_n) mX10_pale 0 0 28 [none, none, none, none] [] (hp S) := by
  unfold b_X10_pale_28 at hB
  refine ev_iconst 0 dX10_pale_28 (by decide) ?_
  obtain rfl := Option.some.inj hB
  exact ev_iret dX10_pale_29 rfl (Nat.zero_le _) (Nat.zero_le _) (fun z => absurd z (hp_sealed _)) ⟨rfl, rfl⟩
theorem u_X10_pale_36 {G : am_G} {N : Nat} {h0 : am_H} {out : Int32 × am_S} : ∀ (n : Nat) (l0 : Nat) (l1 : Int32) (l2 : Int32) (l3 : Int32) (S : am_S), isC 10 l0 = true → b_X10_pale_36 N n l0 l1 l2 l3 S = some out → Ev G (am_R 6 0 0) (am_Φ G h0 0 0 (q_i out) q_n) mX10_pale 0 0 36 [some (.ref l0), some (.int l1), some (.int l2), some (.int l3)] [] (hp S) := by
  intro n
  induction n with
  | zero =>
    intro l0 l1 l2 l3 S hl0 hB
    exact absurd (show none = some out from hB) (fun q => by cases q)
  | succ n ih =>
    intro l0 l1 l2 l3 S hl0 hB
    unfold b_X10_pale_36 at hB
    refine ev_iload_n dX10_pale_36 rfl ?_
    refine ev_bipush 40 dX10_pale_37 (by decide) ?_
    refine ev_icmpgt 69 dX10_pale_39 (by decide) (fun q1 => ?_) (fun q1 => ?_)
    · rw [if_pos q1] at hB
      refine ev_iconst (-1) dX10_pale_69 (by decide) ?_
      obtain rfl := Option.some.inj hB
      exact ev_iret dX10_pale_70 rfl (Nat.zero_le _) (Nat.zero_le _) (fun z => absurd z (hp_sealed _)) ⟨rfl, rfl⟩
    · rw [if_neg q1] at hB
      refine ev_aload_n dX10_pale_42 rfl ?_
      refine es_getr k_10 46 dX10_pale_43 (by decide) rfl (Or.inl w_1571) hl0 rfl ?_
      refine ev_bipush 82 dX10_pale_46 (by decide) ?_
      refine ev_iload_n dX10_pale_48 rfl ?_
      refine ev_iadd dX10_pale_49 ?_
      obtain ⟨c2, hB⟩ := ck_of hB
      refine es_iald dX10_pale_50 (tr_10_46 hl0) c2 ?_
      refine ev_iload_n dX10_pale_51 rfl ?_
      refine ev_icmpgt 57 dX10_pale_52 (by decide) (fun q3 => ?_) (fun q3 => ?_)
      · rw [if_pos q3] at hB
        refine ev_aload_n dX10_pale_57 rfl ?_
        refine ev_bipush 80 dX10_pale_58 (by decide) ?_
        obtain ⟨S5, e6, hB⟩ := bv_of hB
        refine es_callVv (As := [.int 80]) (t_X10_dayGoes hl0 e6) dX10_pale_60 oX10_dayGoes w_1961 rfl hl0 rfl rfl (Nat.le_of_ble_eq_true rfl) rfl (am_fit.of (by decide)) ⟨Nat.zero_le _, Nat.zero_le _⟩ ?_
        refine es_iinc 1 dX10_pale_63 rfl (by decide) (by decide) rfl ?_
        refine ev_goto 36 dX10_pale_66 (by decide) ?_
        exact ev_ls (ih l0 l1 l2 (l3 + 1) S5 hl0 hB) (And.intro rfl (And.intro rfl (And.intro rfl (And.intro rfl trivial))))
      · rw [if_neg q3] at hB
        refine ev_iload_n dX10_pale_55 rfl ?_
        obtain rfl := Option.some.inj hB
        exact ev_iret dX10_pale_56 rfl (Nat.zero_le _) (Nat.zero_le _) (fun z => absurd z (hp_sealed _)) ⟨rfl, rfl⟩
theorem t_X10_pale {G : am_G} {N : Nat} {l0 : Nat} {l1 : Int32} {l2 : Int32} {S : am_S} {out : Int32 × am_S} (hl0 : isC 10 l0 = true) (hB : f_X10_pale N l0 l1 l2 S = some out) : am_Met G 6 mX10_pale 0 0 [.ref l0, .int l1, .int l2] (hp S) (q_i out) q_n := by
  refine am_of (by decide +kernel) rfl rfl rfl (Nat.le_of_ble_eq_true rfl) ?_
  unfold f_X10_pale at hB
  refine ev_aload_n dX10_pale_0 rfl ?_
  refine ev_iconst 0 dX10_pale_1 (by decide) ?_
  refine es_puti k_10 0 dX10_pale_2 (by decide) rfl (Or.inl w_1525) rfl rfl hl0 rfl ?_
  refine ev_aload_n dX10_pale_5 rfl ?_
  refine ev_iload_n dX10_pale_6 rfl ?_
  obtain ⟨r1, S2, e3, hB⟩ := bd_of hB
  refine es_callVi (As := [.int l1]) (t_X10_isBox hl0 e3) dX10_pale_7 oX10_isBox w_1914 rfl hl0 rfl rfl (Nat.le_of_ble_eq_true rfl) rfl (am_fit.of (by decide)) ⟨Nat.zero_le _, Nat.zero_le _⟩ ?_
  refine ev_ifeq 28 dX10_pale_10 (by decide) (fun q4 => ?_) (fun q4 => ?_)
  · rw [if_pos q4] at hB
    exact ev_ls (u_X10_pale_28 S2 hB) trivial
  · rw [if_neg q4] at hB
    refine ev_aload_n dX10_pale_13 rfl ?_
    refine ev_iload_n dX10_pale_14 rfl ?_
    refine ev_iconst 0 dX10_pale_15 (by decide) ?_
    refine ev_bipush 99 dX10_pale_16 (by decide) ?_
    obtain ⟨r5, S6, e7, hB⟩ := bd_of hB
    refine es_callSi (As := [.int l2, .int 0, .int 99]) (t_X10_within e7) dX10_pale_18 oX10_within w_1875 rfl (Nat.le_of_ble_eq_true rfl) rfl (am_fit.of (by decide)) ⟨Nat.zero_le _, Nat.zero_le _⟩ ?_
    refine ev_iconst 2 dX10_pale_21 (by decide) ?_
    obtain ⟨r8, S9, e10, hB⟩ := bd_of hB
    refine es_callVi (As := [.int r5, .int 2]) (t_X10_right hl0 e10) dX10_pale_22 oX10_right w_1744 rfl hl0 rfl rfl (Nat.le_of_ble_eq_true rfl) rfl (am_fit.of (by decide)) ⟨Nat.zero_le _, Nat.zero_le _⟩ ?_
    refine ev_ifne 30 dX10_pale_25 (by decide) (fun q11 => ?_) (fun q11 => ?_)
    · rw [if_neg q11] at hB
      refine ev_aload_n dX10_pale_30 rfl ?_
      obtain ⟨S13, e14, hB⟩ := bv_of hB
      refine es_callVv (As := []) (t_X10_tries hl0 e14) dX10_pale_31 oX10_tries w_2034 rfl hl0 rfl rfl (Nat.le_of_ble_eq_true rfl) rfl (am_fit.of (by decide)) ⟨Nat.zero_le _, Nat.zero_le _⟩ ?_
      refine ev_iconst 0 dX10_pale_34 (by decide) ?_
      refine ev_istore_n dX10_pale_35 (by decide) rfl ?_
      exact ev_ls (u_X10_pale_36 N l0 l1 l2 0 S13 hl0 hB) (And.intro rfl (And.intro rfl (And.intro rfl (And.intro rfl trivial))))
    · rw [if_pos q11] at hB
      exact ev_ls (u_X10_pale_28 S9 hB) trivial
