def f_X5_clearAll (N : Nat) (l0 : Nat) (S : am_S) : Option (am_S) := some (sp S l0 1 0)
theorem t_X5_clearAll {G : am_G} {N : Nat} {l0 : Nat} {S : am_S} {out : am_S} (hl0 : isC 5 l0 = true) (hB : f_X5_clearAll N l0 S = some out) : am_Met G 1 mX5_clearAll 0 0 [.ref l0] (hp S) (q_v out) q_n := by
  refine am_of (by decide +kernel) rfl rfl rfl (Nat.le_of_ble_eq_true rfl) ?_
  unfold f_X5_clearAll at hB
  refine ev_aload_n dX5_clearAll_0 rfl ?_
  refine ev_iconst 0 dX5_clearAll_1 (by decide) ?_
  refine es_puti k_5 1 dX5_clearAll_2 (by decide) rfl (Or.inl w_124) rfl rfl hl0 rfl ?_
  obtain rfl := Option.some.inj hB
  exact ev_vret dX5_clearAll_5 rfl (Nat.zero_le _) (Nat.zero_le _) (fun z => absurd z (hp_sealed _)) ⟨rfl, rfl⟩
def b_X8_kindOf_28 (N : Nat) (l0 : Int32) (S : am_S) : Option (Int32 × am_S) := (if l0 = 10 then some (4, S) else (if l0 = 32 then some (4, S) else (if l0 = 40 then some (l0, S) else (if l0 = 41 then some (l0, S) else (if l0 = 42 then some (l0, S) else (if l0 = 43 then some (l0, S) else (if l0 = 45 then some (l0, S) else (if l0 = 47 then some (l0, S) else (if l0 = 59 then some (l0, S) else (if l0 = 60 then some (l0, S) else (if l0 = 61 then some (l0, S) else some (1, S))))))))))))
def b_X8_kindOf_14 (N : Nat) (l0 : Int32) (S : am_S) : Option (Int32 × am_S) := (if l0 < 48 then b_X8_kindOf_28 N l0 S else (if 57 < l0 then b_X8_kindOf_28 N l0 S else some (3, S)))
def f_X8_kindOf (N : Nat) (l0 : Int32) (S : am_S) : Option (Int32 × am_S) := (if l0 < 97 then b_X8_kindOf_14 N l0 S else (if 122 < l0 then b_X8_kindOf_14 N l0 S else some (2, S)))
theorem u_X8_kindOf_28 {G : am_G} {N : Nat} {h0 : am_H} {out : Int32 × am_S} (l0 : Int32) (S : am_S) (hB : b_X8_kindOf_28 N l0 S = some out) : Ev G (am_R 1 0 0) (am_Φ G h0 0 0 (q_i out) q_n) mX8_kindOf 0 0 28 [some (.int l0)] [] (hp S) := by
  unfold b_X8_kindOf_28 at hB
  refine ev_iload_n dX8_kindOf_28 rfl ?_
  by_cases q1 : l0 = 10
  · rw [if_pos q1] at hB
    refine ev_lookup (off := 99) 128 dX8_kindOf_29 (by decide) (by rw [q1]; rfl) (by decide) ?_
    refine ev_iconst 4 dX8_kindOf_128 (by decide) ?_
    obtain rfl := Option.some.inj hB
    exact ev_iret dX8_kindOf_129 rfl (Nat.zero_le _) (Nat.zero_le _) (fun z => absurd z (hp_sealed _)) ⟨rfl, rfl⟩
  rw [if_neg q1] at hB
  have tq1 : ¬ _ = _ := am_nt (k := 10) q1 (by decide)
  by_cases q2 : l0 = 32
  · rw [if_pos q2] at hB
    refine ev_lookup (off := 99) 128 dX8_kindOf_29 (by decide) (by rw [q2]; rfl) (by decide) ?_
    refine ev_iconst 4 dX8_kindOf_128 (by decide) ?_
    obtain rfl := Option.some.inj hB
    exact ev_iret dX8_kindOf_129 rfl (Nat.zero_le _) (Nat.zero_le _) (fun z => absurd z (hp_sealed _)) ⟨rfl, rfl⟩
  rw [if_neg q2] at hB
  have tq2 : ¬ _ = _ := am_nt (k := 32) q2 (by decide)
  by_cases q3 : l0 = 40
  · rw [if_pos q3] at hB
    refine ev_lookup (off := 101) 130 dX8_kindOf_29 (by decide) (by rw [q3]; rfl) (by decide) ?_
    refine ev_iload_n dX8_kindOf_130 rfl ?_
    obtain rfl := Option.some.inj hB
    exact ev_iret dX8_kindOf_131 rfl (Nat.zero_le _) (Nat.zero_le _) (fun z => absurd z (hp_sealed _)) ⟨rfl, rfl⟩
  rw [if_neg q3] at hB
  have tq3 : ¬ _ = _ := am_nt (k := 40) q3 (by decide)
  by_cases q4 : l0 = 41
  · rw [if_pos q4] at hB
    refine ev_lookup (off := 101) 130 dX8_kindOf_29 (by decide) (by rw [q4]; rfl) (by decide) ?_
    refine ev_iload_n dX8_kindOf_130 rfl ?_
    obtain rfl := Option.some.inj hB
    exact ev_iret dX8_kindOf_131 rfl (Nat.zero_le _) (Nat.zero_le _) (fun z => absurd z (hp_sealed _)) ⟨rfl, rfl⟩
  rw [if_neg q4] at hB
  have tq4 : ¬ _ = _ := am_nt (k := 41) q4 (by decide)
  by_cases q5 : l0 = 42
  · rw [if_pos q5] at hB
    refine ev_lookup (off := 101) 130 dX8_kindOf_29 (by decide) (by rw [q5]; rfl) (by decide) ?_
    refine ev_iload_n dX8_kindOf_130 rfl ?_
    obtain rfl := Option.some.inj hB
    exact ev_iret dX8_kindOf_131 rfl (Nat.zero_le _) (Nat.zero_le _) (fun z => absurd z (hp_sealed _)) ⟨rfl, rfl⟩
  rw [if_neg q5] at hB
  have tq5 : ¬ _ = _ := am_nt (k := 42) q5 (by decide)
  by_cases q6 : l0 = 43
  · rw [if_pos q6] at hB
    refine ev_lookup (off := 101) 130 dX8_kindOf_29 (by decide) (by rw [q6]; rfl) (by decide) ?_
    refine ev_iload_n dX8_kindOf_130 rfl ?_
    obtain rfl := Option.some.inj hB
    exact ev_iret dX8_kindOf_131 rfl (Nat.zero_le _) (Nat.zero_le _) (fun z => absurd z (hp_sealed _)) ⟨rfl, rfl⟩
  rw [if_neg q6] at hB
  have tq6 : ¬ _ = _ := am_nt (k := 43) q6 (by decide)
  by_cases q7 : l0 = 45
  · rw [if_pos q7] at hB
    refine ev_lookup (off := 101) 130 dX8_kindOf_29 (by decide) (by rw [q7]; rfl) (by decide) ?_
    refine ev_iload_n dX8_kindOf_130 rfl ?_
    obtain rfl := Option.some.inj hB
    exact ev_iret dX8_kindOf_131 rfl (Nat.zero_le _) (Nat.zero_le _) (fun z => absurd z (hp_sealed _)) ⟨rfl, rfl⟩
  rw [if_neg q7] at hB
  have tq7 : ¬ _ = _ := am_nt (k := 45) q7 (by decide)
  by_cases q8 : l0 = 47
  · rw [if_pos q8] at hB
    refine ev_lookup (off := 101) 130 dX8_kindOf_29 (by decide) (by rw [q8]; rfl) (by decide) ?_
    refine ev_iload_n dX8_kindOf_130 rfl ?_
    obtain rfl := Option.some.inj hB
    exact ev_iret dX8_kindOf_131 rfl (Nat.zero_le _) (Nat.zero_le _) (fun z => absurd z (hp_sealed _)) ⟨rfl, rfl⟩
  rw [if_neg q8] at hB
  have tq8 : ¬ _ = _ := am_nt (k := 47) q8 (by decide)
  by_cases q9 : l0 = 59
  · rw [if_pos q9] at hB
    refine ev_lookup (off := 101) 130 dX8_kindOf_29 (by decide) (by rw [q9]; rfl) (by decide) ?_
    refine ev_iload_n dX8_kindOf_130 rfl ?_
    obtain rfl := Option.some.inj hB
    exact ev_iret dX8_kindOf_131 rfl (Nat.zero_le _) (Nat.zero_le _) (fun z => absurd z (hp_sealed _)) ⟨rfl, rfl⟩
  rw [if_neg q9] at hB
  have tq9 : ¬ _ = _ := am_nt (k := 59) q9 (by decide)
  by_cases q10 : l0 = 60
  · rw [if_pos q10] at hB
    refine ev_lookup (off := 101) 130 dX8_kindOf_29 (by decide) (by rw [q10]; rfl) (by decide) ?_
    refine ev_iload_n dX8_kindOf_130 rfl ?_
    obtain rfl := Option.some.inj hB
    exact ev_iret dX8_kindOf_131 rfl (Nat.zero_le _) (Nat.zero_le _) (fun z => absurd z (hp_sealed _)) ⟨rfl, rfl⟩
  rw [if_neg q10] at hB
  have tq10 : ¬ _ = _ := am_nt (k := 60) q10 (by decide)
  by_cases q11 : l0 = 61
  · rw [if_pos q11] at hB
    refine ev_lookup (off := 101) 130 dX8_kindOf_29 (by decide) (by rw [q11]; rfl) (by decide) ?_
    refine ev_iload_n dX8_kindOf_130 rfl ?_
    obtain rfl := Option.some.inj hB
    exact ev_iret dX8_kindOf_131 rfl (Nat.zero_le _) (Nat.zero_le _) (fun z => absurd z (hp_sealed _)) ⟨rfl, rfl⟩
  rw [if_neg q11] at hB
  have tq11 : ¬ _ = _ := am_nt (k := 61) q11 (by decide)
  refine ev_lookup (off := 103) 132 dX8_kindOf_29 (by decide) (by simp [Op.lookupswitch.offset, tq1, Ne.symm tq1, tq2, Ne.symm tq2, tq3, Ne.symm tq3, tq4, Ne.symm tq4, tq5, Ne.symm tq5, tq6, Ne.symm tq6, tq7, Ne.symm tq7, tq8, Ne.symm tq8, tq9, Ne.symm tq9, tq10, Ne.symm tq10, tq11, Ne.symm tq11]) (by decide) ?_
  refine ev_iconst 1 dX8_kindOf_132 (by decide) ?_
  obtain rfl := Option.some.inj hB
  exact ev_iret dX8_kindOf_133 rfl (Nat.zero_le _) (Nat.zero_le _) (fun z => absurd z (hp_sealed _)) ⟨rfl, rfl⟩
theorem u_X8_kindOf_14 {G : am_G} {N : Nat} {h0 : am_H} {out : Int32 × am_S} (l0 : Int32) (S : am_S) (hB : b_X8_kindOf_14 N l0 S = some out) : Ev G (am_R 1 0 0) (am_Φ G h0 0 0 (q_i out) q_n) mX8_kindOf 0 0 14 [some (.int l0)] [] (hp S) := by
  unfold b_X8_kindOf_14 at hB
  refine ev_iload_n dX8_kindOf_14 rfl ?_
  refine ev_bipush 48 dX8_kindOf_15 (by decide) ?_
  refine ev_icmplt 28 dX8_kindOf_17 (by decide) (fun q1 => ?_) (fun q1 => ?_)
  · rw [if_pos q1] at hB
    exact ev_ls (u_X8_kindOf_28 l0 S hB) (And.intro rfl trivial)
  · rw [if_neg q1] at hB
    refine ev_iload_n dX8_kindOf_20 rfl ?_
    refine ev_bipush 57 dX8_kindOf_21 (by decide) ?_
    refine ev_icmpgt 28 dX8_kindOf_23 (by decide) (fun q2 => ?_) (fun q2 => ?_)
    · rw [if_pos q2] at hB
      exact ev_ls (u_X8_kindOf_28 l0 S hB) (And.intro rfl trivial)
    · rw [if_neg q2] at hB
      refine ev_iconst 3 dX8_kindOf_26 (by decide) ?_
      obtain rfl := Option.some.inj hB
      exact ev_iret dX8_kindOf_27 rfl (Nat.zero_le _) (Nat.zero_le _) (fun z => absurd z (hp_sealed _)) ⟨rfl, rfl⟩
theorem t_X8_kindOf {G : am_G} {N : Nat} {l0 : Int32} {S : am_S} {out : Int32 × am_S} (hB : f_X8_kindOf N l0 S = some out) : am_Met G 1 mX8_kindOf 0 0 [.int l0] (hp S) (q_i out) q_n := by
  refine am_of (by decide +kernel) rfl rfl rfl (Nat.le_of_ble_eq_true rfl) ?_
  unfold f_X8_kindOf at hB
  refine ev_iload_n dX8_kindOf_0 rfl ?_
  refine ev_bipush 97 dX8_kindOf_1 (by decide) ?_
  refine ev_icmplt 14 dX8_kindOf_3 (by decide) (fun q1 => ?_) (fun q1 => ?_)
  · rw [if_pos q1] at hB
    exact ev_ls (u_X8_kindOf_14 l0 S hB) (And.intro rfl trivial)
  · rw [if_neg q1] at hB
    refine ev_iload_n dX8_kindOf_6 rfl ?_
    refine ev_bipush 122 dX8_kindOf_7 (by decide) ?_
    refine ev_icmpgt 14 dX8_kindOf_9 (by decide) (fun q2 => ?_) (fun q2 => ?_)
    · rw [if_pos q2] at hB
      exact ev_ls (u_X8_kindOf_14 l0 S hB) (And.intro rfl trivial)
    · rw [if_neg q2] at hB
      refine ev_iconst 2 dX8_kindOf_12 (by decide) ?_
      obtain rfl := Option.some.inj hB
      exact ev_iret dX8_kindOf_13 rfl (Nat.zero_le _) (Nat.zero_le _) (fun z => absurd z (hp_sealed _)) ⟨rfl, rfl⟩
def b_X8_numberHere_24 (N : Nat) : Nat → Nat → Int32 → Int32 → am_S → Option (Int32 × am_S)
  | 0, _, _, _, _ => none
  | n + 1, l0, l1, l2, S => (if (sg S l0 3) ≤ l2 then some (l1, S) else (if isAr 0 (rg S 2) = true then (if inb l2 (ln (rg S 2)) = true then b_X8_numberHere_24 N n l0 (((10 * l1) + (sg S (rg S 2) (Int32.toNatClampNeg l2))) - 48) (l2 + 1) S else none) else none))
def f_X8_numberHere (N : Nat) (l0 : Nat) (S : am_S) : Option (Int32 × am_S) := (if ((sg S l0 3) - (sg S l0 2)) ≤ 4 then b_X8_numberHere_24 N N l0 0 (sg S l0 2) S else some (10000, S))
theorem u_X8_numberHere_24 {G : am_G} {N : Nat} {h0 : am_H} {out : Int32 × am_S} : ∀ (n : Nat) (l0 : Nat) (l1 : Int32) (l2 : Int32) (S : am_S), isC 8 l0 = true → b_X8_numberHere_24 N n l0 l1 l2 S = some out → Ev G (am_R 1 0 0) (am_Φ G h0 0 0 (q_i out) q_n) mX8_numberHere 0 0 24 [some (.ref l0), some (.int l1), some (.int l2)] [] (hp S) := by
  intro n
  induction n with
  | zero =>
    intro l0 l1 l2 S hl0 hB
    exact absurd (show none = some out from hB) (fun q => by cases q)
  | succ n ih =>
    intro l0 l1 l2 S hl0 hB
    unfold b_X8_numberHere_24 at hB
    refine ev_iload_n dX8_numberHere_24 rfl ?_
    refine ev_aload_n dX8_numberHere_25 rfl ?_
    refine es_geti k_8 3 dX8_numberHere_26 (by decide) rfl (Or.inl w_53) hl0 rfl ?_
    refine ev_icmpge 53 dX8_numberHere_29 (by decide) (fun q1 => ?_) (fun q1 => ?_)
    · rw [if_pos q1] at hB
      refine ev_iload_n dX8_numberHere_53 rfl ?_
      obtain rfl := Option.some.inj hB
      exact ev_iret dX8_numberHere_54 rfl (Nat.zero_le _) (Nat.zero_le _) (fun z => absurd z (hp_sealed _)) ⟨rfl, rfl⟩
    · rw [if_neg q1] at hB
      refine ev_bipush 10 dX8_numberHere_32 (by decide) ?_
      refine ev_iload_n dX8_numberHere_34 rfl ?_
      refine ev_imul dX8_numberHere_35 ?_
      refine ev_aload_n dX8_numberHere_36 rfl ?_
      refine es_getd 2 k_8 0 dX8_numberHere_37 (by decide) rfl (Or.inl w_49) hl0 rfl ?_
      obtain ⟨c2, hB⟩ := ck_of hB
      refine ev_iload_n dX8_numberHere_40 rfl ?_
      obtain ⟨c3, hB⟩ := ck_of hB
      refine es_bald dX8_numberHere_41 c2 c3 ?_
      refine ev_iadd dX8_numberHere_42 ?_
      refine ev_bipush 48 dX8_numberHere_43 (by decide) ?_
      refine ev_isub dX8_numberHere_45 ?_
      refine ev_istore_n dX8_numberHere_46 (by decide) rfl ?_
      refine es_iinc 1 dX8_numberHere_47 rfl (by decide) (by decide) rfl ?_
      refine ev_goto 24 dX8_numberHere_50 (by decide) ?_
      exact ev_ls (ih l0 (((10 * l1) + (sg S (rg S 2) (Int32.toNatClampNeg l2))) - 48) (l2 + 1) S hl0 hB) (And.intro rfl (And.intro rfl (And.intro rfl trivial)))
theorem t_X8_numberHere {G : am_G} {N : Nat} {l0 : Nat} {S : am_S} {out : Int32 × am_S} (hl0 : isC 8 l0 = true) (hB : f_X8_numberHere N l0 S = some out) : am_Met G 1 mX8_numberHere 0 0 [.ref l0] (hp S) (q_i out) q_n := by
  refine am_of (by decide +kernel) rfl rfl rfl (Nat.le_of_ble_eq_true rfl) ?_
  unfold f_X8_numberHere at hB
  refine ev_aload_n dX8_numberHere_0 rfl ?_
  refine es_geti k_8 3 dX8_numberHere_1 (by decide) rfl (Or.inl w_53) hl0 rfl ?_
  refine ev_aload_n dX8_numberHere_4 rfl ?_
  refine es_geti k_8 2 dX8_numberHere_5 (by decide) rfl (Or.inl w_51) hl0 rfl ?_
  refine ev_isub dX8_numberHere_8 ?_
  refine ev_iconst 4 dX8_numberHere_9 (by decide) ?_
  refine ev_icmple 17 dX8_numberHere_10 (by decide) (fun q1 => ?_) (fun q1 => ?_)
  · rw [if_pos q1] at hB
    refine ev_iconst 0 dX8_numberHere_17 (by decide) ?_
    refine ev_istore_n dX8_numberHere_18 (by decide) rfl ?_
    refine ev_aload_n dX8_numberHere_19 rfl ?_
    refine es_geti k_8 2 dX8_numberHere_20 (by decide) rfl (Or.inl w_51) hl0 rfl ?_
    refine ev_istore_n dX8_numberHere_23 (by decide) rfl ?_
    exact ev_ls (u_X8_numberHere_24 N l0 0 (sg S l0 2) S hl0 hB) (And.intro rfl (And.intro rfl (And.intro rfl trivial)))
  · rw [if_neg q1] at hB
    refine ev_sipush 10000 dX8_numberHere_13 (by decide) ?_
    obtain rfl := Option.some.inj hB
    exact ev_iret dX8_numberHere_16 rfl (Nat.zero_le _) (Nat.zero_le _) (fun z => absurd z (hp_sealed _)) ⟨rfl, rfl⟩
def b_X8_step_182 (N : Nat) (z0 : Nat) (z1 : Int32) (S : am_S) : Option (am_S) := some (sp S z0 5 z1)
def b_X8_step_165 (N : Nat) (l0 : Nat) (S : am_S) : Option (am_S) := (if (sg S l0 4) = 3 then (bd (f_X8_numberHere N l0 S) (fun r2 S3 => b_X8_step_182 N l0 r2 S3)) else b_X8_step_182 N l0 0 S)
def b_X8_step_133 (N : Nat) (k106 : Nat → am_S → Option (am_S)) (l0 : Nat) (S : am_S) : Option (am_S) := (if isAr 0 (rg S 2) = true then (if inb (sg S l0 3) (ln (rg S 2)) = true then (bd (f_X8_kindOf N (sg S (rg S 2) (Int32.toNatClampNeg (sg S l0 3))) S) (fun r3 S4 => (if r3 = (sg S4 l0 4) then k106 l0 (sp S4 l0 3 ((sg S4 l0 3) + 1)) else b_X8_step_165 N l0 S4))) else none) else none)
def b_X8_step_106 (N : Nat) : Nat → Nat → am_S → Option (am_S)
  | 0, _, _ => none
  | n + 1, l0, S => (if (sg S l0 1) ≤ (sg S l0 3) then b_X8_step_165 N l0 S else (if (sg S l0 4) = 2 then b_X8_step_133 N (b_X8_step_106 N n) l0 S else (if (sg S l0 4) = 3 then b_X8_step_133 N (b_X8_step_106 N n) l0 S else b_X8_step_165 N l0 S)))
def b_X8_step_56 (N : Nat) (l0 : Nat) (S : am_S) : Option (am_S) := (if (sg (sp (sp S l0 3 (sg S l0 2)) l0 4 0) l0 1) ≤ (sg (sp (sp S l0 3 (sg S l0 2)) l0 4 0) l0 2) then b_X8_step_106 N N l0 (sp (sp S l0 3 (sg S l0 2)) l0 4 0) else (if isAr 0 (rg (sp (sp S l0 3 (sg S l0 2)) l0 4 0) 2) = true then (if inb (sg (sp (sp S l0 3 (sg S l0 2)) l0 4 0) l0 2) (ln (rg (sp (sp S l0 3 (sg S l0 2)) l0 4 0) 2)) = true then (bd (f_X8_kindOf N (sg (sp (sp S l0 3 (sg S l0 2)) l0 4 0) (rg (sp (sp S l0 3 (sg S l0 2)) l0 4 0) 2) (Int32.toNatClampNeg (sg (sp (sp S l0 3 (sg S l0 2)) l0 4 0) l0 2))) (sp (sp S l0 3 (sg S l0 2)) l0 4 0)) (fun r4 S5 => b_X8_step_106 N N l0 (sp (sp S5 l0 4 r4) l0 3 ((sg (sp S5 l0 4 r4) l0 3) + 1)))) else none) else none))
def b_X8_step_16 (N : Nat) : Nat → Nat → am_S → Option (am_S)
  | 0, _, _ => none
  | n + 1, l0, S => (if (sg S l0 1) ≤ (sg S l0 2) then b_X8_step_56 N l0 S else (if isAr 0 (rg S 2) = true then (if inb (sg S l0 2) (ln (rg S 2)) = true then (bd (f_X8_kindOf N (sg S (rg S 2) (Int32.toNatClampNeg (sg S l0 2))) S) (fun r4 S5 => (if r4 = 4 then b_X8_step_16 N n l0 (sp S5 l0 2 ((sg S5 l0 2) + 1)) else b_X8_step_56 N l0 S5))) else none) else none))
def f_X8_step (N : Nat) (l0 : Nat) (S : am_S) : Option (am_S) := (if (sg S l0 6) = 0 then b_X8_step_16 N N l0 (sp S l0 2 (sg S l0 3)) else some S)
theorem u_X8_step_182 {G : am_G} {N : Nat} {h0 : am_H} {out : am_S} (z0 : Nat) (z1 : Int32) (S : am_S) (hz0 : isC 8 z0 = true) (hB : b_X8_step_182 N z0 z1 S = some out) : Ev G (am_R 2 0 0) (am_Φ G h0 0 0 (q_v out) q_n) mX8_step 0 0 182 [none] [.int z1, .ref z0] (hp S) := by
  unfold b_X8_step_182 at hB
  refine es_puti k_8 5 dX8_step_182 (by decide) rfl (Or.inl w_57) rfl rfl hz0 rfl ?_
  obtain rfl := Option.some.inj hB
  exact ev_vret dX8_step_185 rfl (Nat.zero_le _) (Nat.zero_le _) (fun z => absurd z (hp_sealed _)) ⟨rfl, rfl⟩
theorem u_X8_step_165 {G : am_G} {N : Nat} {h0 : am_H} {out : am_S} (l0 : Nat) (S : am_S) (hl0 : isC 8 l0 = true) (hB : b_X8_step_165 N l0 S = some out) : Ev G (am_R 2 0 0) (am_Φ G h0 0 0 (q_v out) q_n) mX8_step 0 0 165 [some (.ref l0)] [] (hp S) := by
  unfold b_X8_step_165 at hB
  refine ev_aload_n dX8_step_165 rfl ?_
  refine ev_aload_n dX8_step_166 rfl ?_
  refine es_geti k_8 4 dX8_step_167 (by decide) rfl (Or.inl w_54) hl0 rfl ?_
  refine ev_iconst 3 dX8_step_170 (by decide) ?_
  refine ev_icmpne 181 dX8_step_171 (by decide) (fun q1 => ?_) (fun q1 => ?_)
  · rw [if_neg q1] at hB
    refine ev_iconst 0 dX8_step_181 (by decide) ?_
    exact ev_ls (u_X8_step_182 l0 0 S hl0 hB) trivial
  · rw [if_pos q1] at hB
    refine ev_aload_n dX8_step_174 rfl ?_
    obtain ⟨r2, S3, e4, hB⟩ := bd_of hB
    refine es_callVi (As := []) (t_X8_numberHere hl0 e4) dX8_step_175 oX8_numberHere w_859 rfl hl0 rfl rfl (Nat.le_of_ble_eq_true rfl) rfl (am_fit.of (by decide)) ⟨Nat.zero_le _, Nat.zero_le _⟩ ?_
    refine ev_goto 182 dX8_step_178 (by decide) ?_
    exact ev_ls (u_X8_step_182 l0 r2 S3 hl0 hB) trivial
theorem u_X8_step_133 {G : am_G} {N : Nat} {h0 : am_H} {out : am_S} {k106 : Nat → am_S → Option (am_S)} (hk106 : ∀ (l0 : Nat) (S : am_S), isC 8 l0 = true → k106 l0 S = some out → Ev G (am_R 2 0 0) (am_Φ G h0 0 0 (q_v out) q_n) mX8_step 0 0 106 [some (.ref l0)] [] (hp S)) (l0 : Nat) (S : am_S) (hl0 : isC 8 l0 = true) (hB : b_X8_step_133 N k106 l0 S = some out) : Ev G (am_R 2 0 0) (am_Φ G h0 0 0 (q_v out) q_n) mX8_step 0 0 133 [some (.ref l0)] [] (hp S) := by
  unfold b_X8_step_133 at hB
  refine ev_aload_n dX8_step_133 rfl ?_
  refine es_getd 2 k_8 0 dX8_step_134 (by decide) rfl (Or.inl w_49) hl0 rfl ?_
  obtain ⟨c1, hB⟩ := ck_of hB
  refine ev_aload_n dX8_step_137 rfl ?_
  refine es_geti k_8 3 dX8_step_138 (by decide) rfl (Or.inl w_53) hl0 rfl ?_
  obtain ⟨c2, hB⟩ := ck_of hB
  refine es_bald dX8_step_141 c1 c2 ?_
  obtain ⟨r3, S4, e5, hB⟩ := bd_of hB
  refine es_callSi (As := [.int (sg S (rg S 2) (Int32.toNatClampNeg (sg S l0 3)))]) (t_X8_kindOf e5) dX8_step_142 oX8_kindOf w_856 rfl (Nat.le_of_ble_eq_true rfl) rfl (am_fit.of (by decide)) ⟨Nat.zero_le _, Nat.zero_le _⟩ ?_
  refine ev_aload_n dX8_step_145 rfl ?_
  refine es_geti k_8 4 dX8_step_146 (by decide) rfl (Or.inl w_54) hl0 rfl ?_
  refine ev_icmpne 165 dX8_step_149 (by decide) (fun q6 => ?_) (fun q6 => ?_)
  · rw [if_neg q6] at hB
    exact ev_ls (u_X8_step_165 l0 S4 hl0 hB) (And.intro rfl trivial)
  · rw [if_pos q6] at hB
    refine ev_aload_n dX8_step_152 rfl ?_
    refine ev_dup dX8_step_153 rfl ?_
    refine es_geti k_8 3 dX8_step_154 (by decide) rfl (Or.inl w_53) hl0 rfl ?_
    refine ev_iconst 1 dX8_step_157 (by decide) ?_
    refine ev_iadd dX8_step_158 ?_
    refine es_puti k_8 3 dX8_step_159 (by decide) rfl (Or.inl w_53) rfl rfl hl0 rfl ?_
    refine ev_goto 106 dX8_step_162 (by decide) ?_
    exact ev_ls (hk106 l0 (sp S4 l0 3 ((sg S4 l0 3) + 1)) hl0 hB) (And.intro rfl trivial)
theorem u_X8_step_106 {G : am_G} {N : Nat} {h0 : am_H} {out : am_S} : ∀ (n : Nat) (l0 : Nat) (S : am_S), isC 8 l0 = true → b_X8_step_106 N n l0 S = some out → Ev G (am_R 2 0 0) (am_Φ G h0 0 0 (q_v out) q_n) mX8_step 0 0 106 [some (.ref l0)] [] (hp S) := by
  intro n
  induction n with
  | zero =>
    intro l0 S hl0 hB
    exact absurd (show none = some out from hB) (fun q => by cases q)
  | succ n ih =>
    intro l0 S hl0 hB
    unfold b_X8_step_106 at hB
    refine ev_aload_n dX8_step_106 rfl ?_
    refine es_geti k_8 3 dX8_step_107 (by decide) rfl (Or.inl w_53) hl0 rfl ?_
    refine ev_aload_n dX8_step_110 rfl ?_
    refine es_geti k_8 1 dX8_step_111 (by decide) rfl (Or.inl w_50) hl0 rfl ?_
    refine ev_icmpge 165 dX8_step_114 (by decide) (fun q1 => ?_) (fun q1 => ?_)
    · rw [if_pos q1] at hB
      exact ev_ls (u_X8_step_165 l0 S hl0 hB) (And.intro rfl trivial)
    · rw [if_neg q1] at hB
      refine ev_aload_n dX8_step_117 rfl ?_
      refine es_geti k_8 4 dX8_step_118 (by decide) rfl (Or.inl w_54) hl0 rfl ?_
      refine ev_iconst 2 dX8_step_121 (by decide) ?_
      refine ev_icmpeq 133 dX8_step_122 (by decide) (fun q2 => ?_) (fun q2 => ?_)
      · rw [if_pos q2] at hB
        exact ev_ls (u_X8_step_133 ih l0 S hl0 hB) (And.intro rfl trivial)
      · rw [if_neg q2] at hB
        refine ev_aload_n dX8_step_125 rfl ?_
        refine es_geti k_8 4 dX8_step_126 (by decide) rfl (Or.inl w_54) hl0 rfl ?_
        refine ev_iconst 3 dX8_step_129 (by decide) ?_
        refine ev_icmpne 165 dX8_step_130 (by decide) (fun q3 => ?_) (fun q3 => ?_)
        · rw [if_neg q3] at hB
          exact ev_ls (u_X8_step_165 l0 S hl0 hB) (And.intro rfl trivial)
        · rw [if_pos q3] at hB
          exact ev_ls (u_X8_step_133 ih l0 S hl0 hB) (And.intro rfl trivial)
theorem u_X8_step_56 {G : am_G} {N : Nat} {h0 : am_H} {out : am_S} (l0 : Nat) (S : am_S) (hl0 : isC 8 l0 = true) (hB : b_X8_step_56 N l0 S = some out) : Ev G (am_R 2 0 0) (am_Φ G h0 0 0 (q_v out) q_n) mX8_step 0 0 56 [some (.ref l0)] [] (hp S) := by
  unfold b_X8_step_56 at hB
  refine ev_aload_n dX8_step_56 rfl ?_
  refine ev_aload_n dX8_step_57 rfl ?_
  refine es_geti k_8 2 dX8_step_58 (by decide) rfl (Or.inl w_51) hl0 rfl ?_
  refine es_puti k_8 3 dX8_step_61 (by decide) rfl (Or.inl w_53) rfl rfl hl0 rfl ?_
  refine ev_aload_n dX8_step_64 rfl ?_
  refine ev_iconst 0 dX8_step_65 (by decide) ?_
  refine es_puti k_8 4 dX8_step_66 (by decide) rfl (Or.inl w_54) rfl rfl hl0 rfl ?_
  refine ev_aload_n dX8_step_69 rfl ?_
  refine es_geti k_8 2 dX8_step_70 (by decide) rfl (Or.inl w_51) hl0 rfl ?_
  refine ev_aload_n dX8_step_73 rfl ?_
  refine es_geti k_8 1 dX8_step_74 (by decide) rfl (Or.inl w_50) hl0 rfl ?_
  refine ev_icmpge 106 dX8_step_77 (by decide) (fun q1 => ?_) (fun q1 => ?_)
  · rw [if_pos q1] at hB
    exact ev_ls (u_X8_step_106 N l0 (sp (sp S l0 3 (sg S l0 2)) l0 4 0) hl0 hB) (And.intro rfl trivial)
  · rw [if_neg q1] at hB
    refine ev_aload_n dX8_step_80 rfl ?_
    refine ev_aload_n dX8_step_81 rfl ?_
    refine es_getd 2 k_8 0 dX8_step_82 (by decide) rfl (Or.inl w_49) hl0 rfl ?_
    obtain ⟨c2, hB⟩ := ck_of hB
    refine ev_aload_n dX8_step_85 rfl ?_
    refine es_geti k_8 2 dX8_step_86 (by decide) rfl (Or.inl w_51) hl0 rfl ?_
    obtain ⟨c3, hB⟩ := ck_of hB
    refine es_bald dX8_step_89 c2 c3 ?_
    obtain ⟨r4, S5, e6, hB⟩ := bd_of hB
    refine es_callSi (As := [.int (sg (sp (sp S l0 3 (sg S l0 2)) l0 4 0) (rg (sp (sp S l0 3 (sg S l0 2)) l0 4 0) 2) (Int32.toNatClampNeg (sg (sp (sp S l0 3 (sg S l0 2)) l0 4 0) l0 2)))]) (t_X8_kindOf e6) dX8_step_90 oX8_kindOf w_856 rfl (Nat.le_of_ble_eq_true rfl) rfl (am_fit.of (by decide)) ⟨Nat.zero_le _, Nat.zero_le _⟩ ?_
    refine es_puti k_8 4 dX8_step_93 (by decide) rfl (Or.inl w_54) rfl rfl hl0 rfl ?_
    refine ev_aload_n dX8_step_96 rfl ?_
    refine ev_dup dX8_step_97 rfl ?_
    refine es_geti k_8 3 dX8_step_98 (by decide) rfl (Or.inl w_53) hl0 rfl ?_
    refine ev_iconst 1 dX8_step_101 (by decide) ?_
    refine ev_iadd dX8_step_102 ?_
    refine es_puti k_8 3 dX8_step_103 (by decide) rfl (Or.inl w_53) rfl rfl hl0 rfl ?_
    exact ev_ls (u_X8_step_106 N l0 (sp (sp S5 l0 4 r4) l0 3 ((sg (sp S5 l0 4 r4) l0 3) + 1)) hl0 hB) (And.intro rfl trivial)
theorem u_X8_step_16 {G : am_G} {N : Nat} {h0 : am_H} {out : am_S} : ∀ (n : Nat) (l0 : Nat) (S : am_S), isC 8 l0 = true → b_X8_step_16 N n l0 S = some out → Ev G (am_R 2 0 0) (am_Φ G h0 0 0 (q_v out) q_n) mX8_step 0 0 16 [some (.ref l0)] [] (hp S) := by
  intro n
  induction n with
  | zero =>
    intro l0 S hl0 hB
    exact absurd (show none = some out from hB) (fun q => by cases q)
  | succ n ih =>
    intro l0 S hl0 hB
    unfold b_X8_step_16 at hB
    refine ev_aload_n dX8_step_16 rfl ?_
    refine es_geti k_8 2 dX8_step_17 (by decide) rfl (Or.inl w_51) hl0 rfl ?_
    refine ev_aload_n dX8_step_20 rfl ?_
    refine es_geti k_8 1 dX8_step_21 (by decide) rfl (Or.inl w_50) hl0 rfl ?_
    refine ev_icmpge 56 dX8_step_24 (by decide) (fun q1 => ?_) (fun q1 => ?_)
    · rw [if_pos q1] at hB
      exact ev_ls (u_X8_step_56 l0 S hl0 hB) (And.intro rfl trivial)
    · rw [if_neg q1] at hB
      refine ev_aload_n dX8_step_27 rfl ?_
      refine es_getd 2 k_8 0 dX8_step_28 (by decide) rfl (Or.inl w_49) hl0 rfl ?_
      obtain ⟨c2, hB⟩ := ck_of hB
      refine ev_aload_n dX8_step_31 rfl ?_
      refine es_geti k_8 2 dX8_step_32 (by decide) rfl (Or.inl w_51) hl0 rfl ?_
      obtain ⟨c3, hB⟩ := ck_of hB
      refine es_bald dX8_step_35 c2 c3 ?_
      obtain ⟨r4, S5, e6, hB⟩ := bd_of hB
      refine es_callSi (As := [.int (sg S (rg S 2) (Int32.toNatClampNeg (sg S l0 2)))]) (t_X8_kindOf e6) dX8_step_36 oX8_kindOf w_856 rfl (Nat.le_of_ble_eq_true rfl) rfl (am_fit.of (by decide)) ⟨Nat.zero_le _, Nat.zero_le _⟩ ?_
      refine ev_iconst 4 dX8_step_39 (by decide) ?_
      refine ev_icmpne 56 dX8_step_40 (by decide) (fun q7 => ?_) (fun q7 => ?_)
      · rw [if_neg q7] at hB
        exact ev_ls (u_X8_step_56 l0 S5 hl0 hB) (And.intro rfl trivial)
      · rw [if_pos q7] at hB
        refine ev_aload_n dX8_step_43 rfl ?_
        refine ev_dup dX8_step_44 rfl ?_
        refine es_geti k_8 2 dX8_step_45 (by decide) rfl (Or.inl w_51) hl0 rfl ?_
        refine ev_iconst 1 dX8_step_48 (by decide) ?_
        refine ev_iadd dX8_step_49 ?_
        refine es_puti k_8 2 dX8_step_50 (by decide) rfl (Or.inl w_51) rfl rfl hl0 rfl ?_
        refine ev_goto 16 dX8_step_53 (by decide) ?_
        exact ev_ls (ih l0 (sp S5 l0 2 ((sg S5 l0 2) + 1)) hl0 hB) (And.intro rfl trivial)
theorem t_X8_step {G : am_G} {N : Nat} {l0 : Nat} {S : am_S} {out : am_S} (hl0 : isC 8 l0 = true) (hB : f_X8_step N l0 S = some out) : am_Met G 2 mX8_step 0 0 [.ref l0] (hp S) (q_v out) q_n := by
  refine am_of (by decide +kernel) rfl rfl rfl (Nat.le_of_ble_eq_true rfl) ?_
  unfold f_X8_step at hB
  refine ev_aload_n dX8_step_0 rfl ?_
  refine es_geti k_8 6 dX8_step_1 (by decide) rfl (Or.inl w_60) hl0 rfl ?_
  refine ev_ifeq 8 dX8_step_4 (by decide) (fun q1 => ?_) (fun q1 => ?_)
  · rw [if_pos q1] at hB
    refine ev_aload_n dX8_step_8 rfl ?_
    refine ev_aload_n dX8_step_9 rfl ?_
    refine es_geti k_8 3 dX8_step_10 (by decide) rfl (Or.inl w_53) hl0 rfl ?_
    refine es_puti k_8 2 dX8_step_13 (by decide) rfl (Or.inl w_51) rfl rfl hl0 rfl ?_
    exact ev_ls (u_X8_step_16 N l0 (sp S l0 2 (sg S l0 3)) hl0 hB) (And.intro rfl trivial)
  · rw [if_neg q1] at hB
    obtain rfl := Option.some.inj hB
    exact ev_vret dX8_step_7 rfl (Nat.zero_le _) (Nat.zero_le _) (fun z => absurd z (hp_sealed _)) ⟨rfl, rfl⟩
def f_X8_start (N : Nat) (l0 : Nat) (l1 : Nat) (l2 : Int32) (S : am_S) : Option (am_S) := (bv (f_X8_step N l0 (sp (sp (sp (rp S 2 l1) l0 1 (jmin l2 (nI (ln l1)))) l0 3 0) l0 6 0)) (fun S2 => some S2))
theorem t_X8_start {G : am_G} {N : Nat} {l0 : Nat} {l1 : Nat} {l2 : Int32} {S : am_S} {out : am_S} (hl0 : isC 8 l0 = true) (hl1 : isAr 0 l1 = true) (hB : f_X8_start N l0 l1 l2 S = some out) : am_Met G 3 mX8_start 0 0 [.ref l0, .ref l1, .int l2] (hp S) (q_v out) q_n := by
  refine am_of (by decide +kernel) rfl rfl rfl (Nat.le_of_ble_eq_true rfl) ?_
  unfold f_X8_start at hB
  refine ev_aload_n dX8_start_0 rfl ?_
  refine ev_aload_n dX8_start_1 rfl ?_
  refine es_putd 2 k_8 0 dX8_start_2 (by decide) rfl (Or.inl w_49) rfl rfl rfl hl0 rfl (on_2 hl0) ?_
  refine ev_aload_n dX8_start_5 rfl ?_
  refine ev_iload_n dX8_start_6 rfl ?_
  refine ev_aload_n dX8_start_7 rfl ?_
  refine es_alen dX8_start_8 hl1 rfl ?_
  refine es_min dX8_start_9 w_851 (Nat.le_of_ble_eq_true rfl) (am_fit.of (by decide)) ⟨Nat.zero_le _, Nat.zero_le _⟩ ?_
  refine es_puti k_8 1 dX8_start_12 (by decide) rfl (Or.inl w_50) rfl rfl hl0 rfl ?_
  refine ev_aload_n dX8_start_15 rfl ?_
  refine ev_iconst 0 dX8_start_16 (by decide) ?_
  refine es_puti k_8 3 dX8_start_17 (by decide) rfl (Or.inl w_53) rfl rfl hl0 rfl ?_
  refine ev_aload_n dX8_start_20 rfl ?_
  refine ev_iconst 0 dX8_start_21 (by decide) ?_
  refine es_puti k_8 6 dX8_start_22 (by decide) rfl (Or.inl w_60) rfl rfl hl0 rfl ?_
  refine ev_aload_n dX8_start_25 rfl ?_
  obtain ⟨S2, e3, hB⟩ := bv_of hB
  refine es_callVv (As := []) (t_X8_step hl0 e3) dX8_start_26 oX8_step w_852 rfl hl0 rfl rfl (Nat.le_of_ble_eq_true rfl) rfl (am_fit.of (by decide)) ⟨Nat.zero_le _, Nat.zero_le _⟩ ?_
  obtain rfl := Option.some.inj hB
  exact ev_vret dX8_start_29 rfl (Nat.zero_le _) (Nat.zero_le _) (fun z => absurd z (hp_sealed _)) ⟨rfl, rfl⟩
def b_X8_isFine_12 (N : Nat) (z0 : Int32) (S : am_S) : Option (Int32 × am_S) := (if isB z0 = true then some (z0, S) else none)
def f_X8_isFine (N : Nat) (l0 : Nat) (S : am_S) : Option (Int32 × am_S) := (if (sg S l0 6) = 0 then b_X8_isFine_12 N 1 S else b_X8_isFine_12 N 0 S)
theorem u_X8_isFine_12 {G : am_G} {N : Nat} {h0 : am_H} {out : Int32 × am_S} (z0 : Int32) (S : am_S) (hB : b_X8_isFine_12 N z0 S = some out) : Ev G (am_R 1 0 0) (am_Φ G h0 0 0 (q_i out) q_n) mX8_isFine 0 0 12 [none] [.int z0] (hp S) := by
  unfold b_X8_isFine_12 at hB
  obtain ⟨c1, hB⟩ := ck_of hB
  obtain rfl := Option.some.inj hB
  exact ev_zret dX8_isFine_12 rfl (isB_nar c1) (Nat.zero_le _) (Nat.zero_le _) (fun z => absurd z (hp_sealed _)) ⟨rfl, rfl⟩
theorem t_X8_isFine {G : am_G} {N : Nat} {l0 : Nat} {S : am_S} {out : Int32 × am_S} (hl0 : isC 8 l0 = true) (hB : f_X8_isFine N l0 S = some out) : am_Met G 1 mX8_isFine 0 0 [.ref l0] (hp S) (q_i out) q_n := by
  refine am_of (by decide +kernel) rfl rfl rfl (Nat.le_of_ble_eq_true rfl) ?_
  unfold f_X8_isFine at hB
  refine ev_aload_n dX8_isFine_0 rfl ?_
  refine es_geti k_8 6 dX8_isFine_1 (by decide) rfl (Or.inl w_60) hl0 rfl ?_
  refine ev_ifne 11 dX8_isFine_4 (by decide) (fun q1 => ?_) (fun q1 => ?_)
  · rw [if_neg q1] at hB
    refine ev_iconst 0 dX8_isFine_11 (by decide) ?_
    exact ev_ls (u_X8_isFine_12 0 S hB) trivial
  · rw [if_pos q1] at hB
    refine ev_iconst 1 dX8_isFine_7 (by decide) ?_
    refine ev_goto 12 dX8_isFine_8 (by decide) ?_
    exact ev_ls (u_X8_isFine_12 1 S hB) trivial
def b_X8_isWord_24 (N : Nat)  (S : am_S) : Option (Int32 × am_S) := some (0, S)
def b_X8_isWord_28 (N : Nat) : Nat → Nat → Nat → Int32 → am_S → Option (Int32 × am_S)
  | 0, _, _, _, _ => none
  | n + 1, l0, l1, l2, S => (bd (f_J0_length_8abf5 N l1 S) (fun r1 S2 => (if r1 ≤ l2 then some (1, S2) else (if isAr 0 (rg S2 2) = true then (if inb ((sg S2 l0 2) + l2) (ln (rg S2 2)) = true then (bd (f_J0_charAt_5068e N l1 l2 S2) (fun r7 S8 => (if (sg S2 (rg S2 2) (Int32.toNatClampNeg ((sg S2 l0 2) + l2))) = r7 then b_X8_isWord_28 N n l0 l1 (l2 + 1) S8 else some (0, S8)))) else none) else none))))
def f_X8_isWord (N : Nat) (l0 : Nat) (l1 : Nat) (S : am_S) : Option (Int32 × am_S) := (if (sg S l0 4) = 2 then (bd (f_J0_length_8abf5 N l1 S) (fun r2 S3 => (if ((sg S l0 3) - (sg S l0 2)) = r2 then b_X8_isWord_28 N N l0 l1 0 S3 else b_X8_isWord_24 N S3))) else b_X8_isWord_24 N S)
theorem u_X8_isWord_24 {G : am_G} {N : Nat} {h0 : am_H} {out : Int32 × am_S}  (S : am_S) (hB : b_X8_isWord_24 N  S = some out) : Ev G (am_R 11 0 0) (am_Φ G h0 0 0 (q_i out) q_n) mX8_isWord 0 0 24 [none, none, none] [] (hp S) := by
  unfold b_X8_isWord_24 at hB
  refine ev_iconst 0 dX8_isWord_24 (by decide) ?_
  obtain rfl := Option.some.inj hB
  exact ev_zret dX8_isWord_25 rfl (by rfl) (Nat.zero_le _) (Nat.zero_le _) (fun z => absurd z (hp_sealed _)) ⟨rfl, rfl⟩
theorem u_X8_isWord_28 {G : am_G} {N : Nat} {h0 : am_H} {out : Int32 × am_S} : ∀ (n : Nat) (l0 : Nat) (l1 : Nat) (l2 : Int32) (S : am_S), isC 8 l0 = true → l1 < 25 → b_X8_isWord_28 N n l0 l1 l2 S = some out → Ev G (am_R 11 0 0) (am_Φ G h0 0 0 (q_i out) q_n) mX8_isWord 0 0 28 [some (.ref l0), some (.float (UInt32.ofNat l1)), some (.int l2)] [] (hp S) := by
  intro n
  induction n with
  | zero =>
    intro l0 l1 l2 S hl0 hl1 hB
    exact absurd (show none = some out from hB) (fun q => by cases q)
  | succ n ih =>
    intro l0 l1 l2 S hl0 hl1 hB
    unfold b_X8_isWord_28 at hB
    refine ev_iload_n dX8_isWord_28 rfl ?_
    refine ev_aload_nF dX8_isWord_29 rfl ?_
    obtain ⟨r1, S2, e3, hB⟩ := bd_of hB
    refine es_callVFi (As := []) hl1 (t_J0_length_8abf5 hl1 e3) dX8_isWord_30 oJ0_length_8abf5 w_876 rfl rfl (Nat.le_of_ble_eq_true rfl) rfl (am_fit.of (by decide)) ⟨Nat.zero_le _, Nat.zero_le _⟩ ?_
    refine ev_icmpge 63 dX8_isWord_33 (by decide) (fun q4 => ?_) (fun q4 => ?_)
    · rw [if_pos q4] at hB
      refine ev_iconst 1 dX8_isWord_63 (by decide) ?_
      obtain rfl := Option.some.inj hB
      exact ev_zret dX8_isWord_64 rfl (by rfl) (Nat.zero_le _) (Nat.zero_le _) (fun z => absurd z (hp_sealed _)) ⟨rfl, rfl⟩
    · rw [if_neg q4] at hB
      refine ev_aload_n dX8_isWord_36 rfl ?_
      refine es_getd 2 k_8 0 dX8_isWord_37 (by decide) rfl (Or.inl w_49) hl0 rfl ?_
      obtain ⟨c5, hB⟩ := ck_of hB
      refine ev_aload_n dX8_isWord_40 rfl ?_
      refine es_geti k_8 2 dX8_isWord_41 (by decide) rfl (Or.inl w_51) hl0 rfl ?_
      refine ev_iload_n dX8_isWord_44 rfl ?_
      refine ev_iadd dX8_isWord_45 ?_
      obtain ⟨c6, hB⟩ := ck_of hB
      refine es_bald dX8_isWord_46 c5 c6 ?_
      refine ev_aload_nF dX8_isWord_47 rfl ?_
      refine ev_iload_n dX8_isWord_48 rfl ?_
      obtain ⟨r7, S8, e9, hB⟩ := bd_of hB
      refine es_callVFi (As := [.int l2]) hl1 (t_J0_charAt_5068e hl1 e9) dX8_isWord_49 oJ0_charAt_5068e w_877 rfl rfl (Nat.le_of_ble_eq_true rfl) rfl (am_fit.of (by decide)) ⟨Nat.zero_le _, Nat.zero_le _⟩ ?_
      refine ev_icmpeq 57 dX8_isWord_52 (by decide) (fun q10 => ?_) (fun q10 => ?_)
      · rw [if_pos q10] at hB
        refine es_iinc 1 dX8_isWord_57 rfl (by decide) (by decide) rfl ?_
        refine ev_goto 28 dX8_isWord_60 (by decide) ?_
        exact ev_ls (ih l0 l1 (l2 + 1) S8 hl0 hl1 hB) (And.intro rfl (And.intro rfl (And.intro rfl trivial)))
      · rw [if_neg q10] at hB
        refine ev_iconst 0 dX8_isWord_55 (by decide) ?_
        obtain rfl := Option.some.inj hB
        exact ev_zret dX8_isWord_56 rfl (by rfl) (Nat.zero_le _) (Nat.zero_le _) (fun z => absurd z (hp_sealed _)) ⟨rfl, rfl⟩
theorem t_X8_isWord {G : am_G} {N : Nat} {l0 : Nat} {l1 : Nat} {S : am_S} {out : Int32 × am_S} (hl0 : isC 8 l0 = true) (hl1 : l1 < 25) (hB : f_X8_isWord N l0 l1 S = some out) : am_Met G 11 mX8_isWord 0 0 [.ref l0, .float (UInt32.ofNat l1)] (hp S) (q_i out) q_n := by
  refine am_of (by decide +kernel) rfl rfl rfl (Nat.le_of_ble_eq_true rfl) ?_
  unfold f_X8_isWord at hB
  refine ev_aload_n dX8_isWord_0 rfl ?_
  refine es_geti k_8 4 dX8_isWord_1 (by decide) rfl (Or.inl w_54) hl0 rfl ?_
  refine ev_iconst 2 dX8_isWord_4 (by decide) ?_
  refine ev_icmpne 24 dX8_isWord_5 (by decide) (fun q1 => ?_) (fun q1 => ?_)
  · rw [if_neg q1] at hB
    exact ev_ls (u_X8_isWord_24 S hB) trivial
  · rw [if_pos q1] at hB
    refine ev_aload_n dX8_isWord_8 rfl ?_
    refine es_geti k_8 3 dX8_isWord_9 (by decide) rfl (Or.inl w_53) hl0 rfl ?_
    refine ev_aload_n dX8_isWord_12 rfl ?_
    refine es_geti k_8 2 dX8_isWord_13 (by decide) rfl (Or.inl w_51) hl0 rfl ?_
    refine ev_isub dX8_isWord_16 ?_
    refine ev_aload_nF dX8_isWord_17 rfl ?_
    obtain ⟨r2, S3, e4, hB⟩ := bd_of hB
    refine es_callVFi (As := []) hl1 (t_J0_length_8abf5 hl1 e4) dX8_isWord_18 oJ0_length_8abf5 w_876 rfl rfl (Nat.le_of_ble_eq_true rfl) rfl (am_fit.of (by decide)) ⟨Nat.zero_le _, Nat.zero_le _⟩ ?_
    refine ev_icmpeq 26 dX8_isWord_21 (by decide) (fun q5 => ?_) (fun q5 => ?_)
    · rw [if_pos q5] at hB
      refine ev_iconst 0 dX8_isWord_26 (by decide) ?_
      refine ev_istore_n dX8_isWord_27 (by decide) rfl ?_
      exact ev_ls (u_X8_isWord_28 N l0 l1 0 S3 hl0 hl1 hB) (And.intro rfl (And.intro rfl (And.intro rfl trivial)))
    · rw [if_neg q5] at hB
      exact ev_ls (u_X8_isWord_24 S3 hB) trivial
def b_X8_fail_12 (N : Nat)  (S : am_S) : Option (am_S) := some S
def f_X8_fail (N : Nat) (l0 : Nat) (l1 : Int32) (S : am_S) : Option (am_S) := (if (sg S l0 6) = 0 then b_X8_fail_12 N (sp S l0 6 l1) else b_X8_fail_12 N S)
theorem u_X8_fail_12 {G : am_G} {N : Nat} {h0 : am_H} {out : am_S}  (S : am_S) (hB : b_X8_fail_12 N  S = some out) : Ev G (am_R 1 0 0) (am_Φ G h0 0 0 (q_v out) q_n) mX8_fail 0 0 12 [none, none] [] (hp S) := by
  unfold b_X8_fail_12 at hB
  obtain rfl := Option.some.inj hB
  exact ev_vret dX8_fail_12 rfl (Nat.zero_le _) (Nat.zero_le _) (fun z => absurd z (hp_sealed _)) ⟨rfl, rfl⟩
theorem t_X8_fail {G : am_G} {N : Nat} {l0 : Nat} {l1 : Int32} {S : am_S} {out : am_S} (hl0 : isC 8 l0 = true) (hB : f_X8_fail N l0 l1 S = some out) : am_Met G 1 mX8_fail 0 0 [.ref l0, .int l1] (hp S) (q_v out) q_n := by
  refine am_of (by decide +kernel) rfl rfl rfl (Nat.le_of_ble_eq_true rfl) ?_
  unfold f_X8_fail at hB
  refine ev_aload_n dX8_fail_0 rfl ?_
  refine es_geti k_8 6 dX8_fail_1 (by decide) rfl (Or.inl w_60) hl0 rfl ?_
  refine ev_ifne 12 dX8_fail_4 (by decide) (fun q1 => ?_) (fun q1 => ?_)
  · rw [if_neg q1] at hB
    exact ev_ls (u_X8_fail_12 S hB) trivial
  · rw [if_pos q1] at hB
    refine ev_aload_n dX8_fail_7 rfl ?_
    refine ev_iload_n dX8_fail_8 rfl ?_
    refine es_puti k_8 6 dX8_fail_9 (by decide) rfl (Or.inl w_60) rfl rfl hl0 rfl ?_
    exact ev_ls (u_X8_fail_12 (sp S l0 6 l1) hB) trivial
def b_X8_takeNumber_29 (N : Nat) (l0 : Nat) (S : am_S) : Option (Int32 × am_S) := (bv (f_X8_step N l0 S) (fun S2 => some ((sg S l0 5), S2)))
def f_X8_takeNumber (N : Nat) (l0 : Nat) (l1 : Int32) (S : am_S) : Option (Int32 × am_S) := (if (sg S l0 4) = 3 then (if (sg S l0 5) ≤ l1 then b_X8_takeNumber_29 N l0 S else (bv (f_X8_fail N l0 2 S) (fun S4 => b_X8_takeNumber_29 N l0 S4))) else (bv (f_X8_fail N l0 1 S) (fun S7 => b_X8_takeNumber_29 N l0 S7)))
theorem u_X8_takeNumber_29 {G : am_G} {N : Nat} {h0 : am_H} {out : Int32 × am_S} (l0 : Nat) (S : am_S) (hl0 : isC 8 l0 = true) (hB : b_X8_takeNumber_29 N l0 S = some out) : Ev G (am_R 3 0 0) (am_Φ G h0 0 0 (q_i out) q_n) mX8_takeNumber 0 0 29 [some (.ref l0), none, none] [] (hp S) := by
  unfold b_X8_takeNumber_29 at hB
  refine ev_aload_n dX8_takeNumber_29 rfl ?_
  refine es_geti k_8 5 dX8_takeNumber_30 (by decide) rfl (Or.inl w_57) hl0 rfl ?_
  refine ev_istore_n dX8_takeNumber_33 (by decide) rfl ?_
  refine ev_aload_n dX8_takeNumber_34 rfl ?_
  obtain ⟨S2, e3, hB⟩ := bv_of hB
  refine es_callVv (As := []) (t_X8_step hl0 e3) dX8_takeNumber_35 oX8_step w_852 rfl hl0 rfl rfl (Nat.le_of_ble_eq_true rfl) rfl (am_fit.of (by decide)) ⟨Nat.zero_le _, Nat.zero_le _⟩ ?_
  refine ev_iload_n dX8_takeNumber_38 rfl ?_
  obtain rfl := Option.some.inj hB
  exact ev_iret dX8_takeNumber_39 rfl (Nat.zero_le _) (Nat.zero_le _) (fun z => absurd z (hp_sealed _)) ⟨rfl, rfl⟩
theorem t_X8_takeNumber {G : am_G} {N : Nat} {l0 : Nat} {l1 : Int32} {S : am_S} {out : Int32 × am_S} (hl0 : isC 8 l0 = true) (hB : f_X8_takeNumber N l0 l1 S = some out) : am_Met G 3 mX8_takeNumber 0 0 [.ref l0, .int l1] (hp S) (q_i out) q_n := by
  refine am_of (by decide +kernel) rfl rfl rfl (Nat.le_of_ble_eq_true rfl) ?_
  unfold f_X8_takeNumber at hB
  refine ev_aload_n dX8_takeNumber_0 rfl ?_
  refine es_geti k_8 4 dX8_takeNumber_1 (by decide) rfl (Or.inl w_54) hl0 rfl ?_
  refine ev_iconst 3 dX8_takeNumber_4 (by decide) ?_
  refine ev_icmpeq 16 dX8_takeNumber_5 (by decide) (fun q1 => ?_) (fun q1 => ?_)
  · rw [if_pos q1] at hB
    refine ev_aload_n dX8_takeNumber_16 rfl ?_
    refine es_geti k_8 5 dX8_takeNumber_17 (by decide) rfl (Or.inl w_57) hl0 rfl ?_
    refine ev_iload_n dX8_takeNumber_20 rfl ?_
    refine ev_icmple 29 dX8_takeNumber_21 (by decide) (fun q2 => ?_) (fun q2 => ?_)
    · rw [if_pos q2] at hB
      exact ev_ls (u_X8_takeNumber_29 l0 S hl0 hB) (And.intro rfl trivial)
    · rw [if_neg q2] at hB
      refine ev_aload_n dX8_takeNumber_24 rfl ?_
      refine ev_iconst 2 dX8_takeNumber_25 (by decide) ?_
      obtain ⟨S4, e5, hB⟩ := bv_of hB
      refine es_callVv (As := [.int 2]) (t_X8_fail hl0 e5) dX8_takeNumber_26 oX8_fail w_914 rfl hl0 rfl rfl (Nat.le_of_ble_eq_true rfl) rfl (am_fit.of (by decide)) ⟨Nat.zero_le _, Nat.zero_le _⟩ ?_
      exact ev_ls (u_X8_takeNumber_29 l0 S4 hl0 hB) (And.intro rfl trivial)
  · rw [if_neg q1] at hB
    refine ev_aload_n dX8_takeNumber_8 rfl ?_
    refine ev_iconst 1 dX8_takeNumber_9 (by decide) ?_
    obtain ⟨S7, e8, hB⟩ := bv_of hB
    refine es_callVv (As := [.int 1]) (t_X8_fail hl0 e8) dX8_takeNumber_10 oX8_fail w_914 rfl hl0 rfl rfl (Nat.le_of_ble_eq_true rfl) rfl (am_fit.of (by decide)) ⟨Nat.zero_le _, Nat.zero_le _⟩ ?_
    refine ev_goto 29 dX8_takeNumber_13 (by decide) ?_
    exact ev_ls (u_X8_takeNumber_29 l0 S7 hl0 hB) (And.intro rfl trivial)
def b_X5_isUntold_12 (N : Nat) (z0 : Int32) (S : am_S) : Option (Int32 × am_S) := (if isB z0 = true then some (z0, S) else none)
def f_X5_isUntold (N : Nat) (l0 : Nat) (S : am_S) : Option (Int32 × am_S) := (if (sg S l0 1) = 0 then b_X5_isUntold_12 N 1 S else b_X5_isUntold_12 N 0 S)
theorem u_X5_isUntold_12 {G : am_G} {N : Nat} {h0 : am_H} {out : Int32 × am_S} (z0 : Int32) (S : am_S) (hB : b_X5_isUntold_12 N z0 S = some out) : Ev G (am_R 1 0 0) (am_Φ G h0 0 0 (q_i out) q_n) mX5_isUntold 0 0 12 [none] [.int z0] (hp S) := by
  unfold b_X5_isUntold_12 at hB
  obtain ⟨c1, hB⟩ := ck_of hB
  obtain rfl := Option.some.inj hB
  exact ev_zret dX5_isUntold_12 rfl (isB_nar c1) (Nat.zero_le _) (Nat.zero_le _) (fun z => absurd z (hp_sealed _)) ⟨rfl, rfl⟩
theorem t_X5_isUntold {G : am_G} {N : Nat} {l0 : Nat} {S : am_S} {out : Int32 × am_S} (hl0 : isC 5 l0 = true) (hB : f_X5_isUntold N l0 S = some out) : am_Met G 1 mX5_isUntold 0 0 [.ref l0] (hp S) (q_i out) q_n := by
  refine am_of (by decide +kernel) rfl rfl rfl (Nat.le_of_ble_eq_true rfl) ?_
  unfold f_X5_isUntold at hB
  refine ev_aload_n dX5_isUntold_0 rfl ?_
  refine es_geti k_5 1 dX5_isUntold_1 (by decide) rfl (Or.inl w_124) hl0 rfl ?_
  refine ev_ifne 11 dX5_isUntold_4 (by decide) (fun q1 => ?_) (fun q1 => ?_)
  · rw [if_neg q1] at hB
    refine ev_iconst 0 dX5_isUntold_11 (by decide) ?_
    exact ev_ls (u_X5_isUntold_12 0 S hB) trivial
  · rw [if_pos q1] at hB
    refine ev_iconst 1 dX5_isUntold_7 (by decide) ?_
    refine ev_goto 12 dX5_isUntold_8 (by decide) ?_
    exact ev_ls (u_X5_isUntold_12 1 S hB) trivial
def f_X6_beginExpression (N : Nat) (l0 : Nat) (S : am_S) : Option (am_S) := some (sp (sp (sp S l0 4 1) l0 5 1) l0 3 0)
theorem t_X6_beginExpression {G : am_G} {N : Nat} {l0 : Nat} {S : am_S} {out : am_S} (hl0 : isC 6 l0 = true) (hB : f_X6_beginExpression N l0 S = some out) : am_Met G 1 mX6_beginExpression 0 0 [.ref l0] (hp S) (q_v out) q_n := by
  refine am_of (by decide +kernel) rfl rfl rfl (Nat.le_of_ble_eq_true rfl) ?_
  unfold f_X6_beginExpression at hB
  refine ev_aload_n dX6_beginExpression_0 rfl ?_
  refine ev_iconst 1 dX6_beginExpression_1 (by decide) ?_
  refine es_putz k_6 4 dX6_beginExpression_2 (by decide) rfl (Or.inl w_88) rfl rfl (Or.inr rfl) hl0 rfl ?_
  refine ev_aload_n dX6_beginExpression_5 rfl ?_
  refine ev_iconst 1 dX6_beginExpression_6 (by decide) ?_
  refine es_putz k_6 5 dX6_beginExpression_7 (by decide) rfl (Or.inl w_89) rfl rfl (Or.inr rfl) hl0 rfl ?_
  refine ev_aload_n dX6_beginExpression_10 rfl ?_
  refine ev_iconst 0 dX6_beginExpression_11 (by decide) ?_
  refine es_puti k_6 3 dX6_beginExpression_12 (by decide) rfl (Or.inl w_87) rfl rfl hl0 rfl ?_
  obtain rfl := Option.some.inj hB
  exact ev_vret dX6_beginExpression_15 rfl (Nat.zero_le _) (Nat.zero_le _) (fun z => absurd z (hp_sealed _)) ⟨rfl, rfl⟩
def b_X6_isEnd_28 (N : Nat) (z0 : Int32) (S : am_S) : Option (Int32 × am_S) := (if isB z0 = true then some (z0, S) else none)
def b_X6_isEnd_27 (N : Nat)  (S : am_S) : Option (Int32 × am_S) := b_X6_isEnd_28 N 0 S
def f_X6_isEnd (N : Nat) (l0 : Nat) (l1 : Nat) (S : am_S) : Option (Int32 × am_S) := (if (sg S l0 4) = 0 then (if (sg S l0 2) = 0 then (if (sg S l1 4) = 59 then b_X6_isEnd_28 N 1 S else b_X6_isEnd_27 N S) else b_X6_isEnd_27 N S) else b_X6_isEnd_27 N S)
theorem u_X6_isEnd_28 {G : am_G} {N : Nat} {h0 : am_H} {out : Int32 × am_S} (z0 : Int32) (S : am_S) (hB : b_X6_isEnd_28 N z0 S = some out) : Ev G (am_R 1 0 0) (am_Φ G h0 0 0 (q_i out) q_n) mX6_isEnd 0 0 28 [none, none] [.int z0] (hp S) := by
  unfold b_X6_isEnd_28 at hB
  obtain ⟨c1, hB⟩ := ck_of hB
  obtain rfl := Option.some.inj hB
  exact ev_zret dX6_isEnd_28 rfl (isB_nar c1) (Nat.zero_le _) (Nat.zero_le _) (fun z => absurd z (hp_sealed _)) ⟨rfl, rfl⟩
theorem u_X6_isEnd_27 {G : am_G} {N : Nat} {h0 : am_H} {out : Int32 × am_S}  (S : am_S) (hB : b_X6_isEnd_27 N  S = some out) : Ev G (am_R 1 0 0) (am_Φ G h0 0 0 (q_i out) q_n) mX6_isEnd 0 0 27 [none, none] [] (hp S) := by
  unfold b_X6_isEnd_27 at hB
  refine ev_iconst 0 dX6_isEnd_27 (by decide) ?_
  exact ev_ls (u_X6_isEnd_28 0 S hB) trivial
theorem t_X6_isEnd {G : am_G} {N : Nat} {l0 : Nat} {l1 : Nat} {S : am_S} {out : Int32 × am_S} (hl0 : isC 6 l0 = true) (hl1 : isC 8 l1 = true) (hB : f_X6_isEnd N l0 l1 S = some out) : am_Met G 1 mX6_isEnd 0 0 [.ref l0, .ref l1] (hp S) (q_i out) q_n := by
  refine am_of (by decide +kernel) rfl rfl rfl (Nat.le_of_ble_eq_true rfl) ?_
  unfold f_X6_isEnd at hB
  refine ev_aload_n dX6_isEnd_0 rfl ?_
  refine es_geti k_6 4 dX6_isEnd_1 (by decide) rfl (Or.inl w_88) hl0 rfl ?_
  refine ev_ifne 27 dX6_isEnd_4 (by decide) (fun q1 => ?_) (fun q1 => ?_)
  · rw [if_neg q1] at hB
    exact ev_ls (u_X6_isEnd_27 S hB) trivial
  · rw [if_pos q1] at hB
    refine ev_aload_n dX6_isEnd_7 rfl ?_
    refine es_geti k_6 2 dX6_isEnd_8 (by decide) rfl (Or.inl w_86) hl0 rfl ?_
    refine ev_ifne 27 dX6_isEnd_11 (by decide) (fun q2 => ?_) (fun q2 => ?_)
    · rw [if_neg q2] at hB
      exact ev_ls (u_X6_isEnd_27 S hB) trivial
    · rw [if_pos q2] at hB
      refine ev_aload_n dX6_isEnd_14 rfl ?_
      refine es_geti k_8 4 dX6_isEnd_15 (by decide) rfl (Or.inr ⟨_, n_56⟩) hl1 rfl ?_
      refine ev_bipush 59 dX6_isEnd_18 (by decide) ?_
      refine ev_icmpne 27 dX6_isEnd_20 (by decide) (fun q3 => ?_) (fun q3 => ?_)
      · rw [if_neg q3] at hB
        exact ev_ls (u_X6_isEnd_27 S hB) trivial
      · rw [if_pos q3] at hB
        refine ev_iconst 1 dX6_isEnd_23 (by decide) ?_
        refine ev_goto 28 dX6_isEnd_24 (by decide) ?_
        exact ev_ls (u_X6_isEnd_28 1 S hB) trivial
def b_X6_push_32 (N : Nat)  (S : am_S) : Option (am_S) := some S
def f_X6_push (N : Nat) (l0 : Nat) (l1 : Int32) (S : am_S) : Option (am_S) := (if (nI (ln (rf l0 0))) ≤ (sg S l0 1) then b_X6_push_32 N S else (if inb (sg S l0 1) (ln (rf l0 0)) = true then b_X6_push_32 N (sp (sp S (rf l0 0) (Int32.toNatClampNeg (sg S l0 1)) l1) l0 1 ((sg (sp S (rf l0 0) (Int32.toNatClampNeg (sg S l0 1)) l1) l0 1) + 1)) else none))
theorem u_X6_push_32 {G : am_G} {N : Nat} {h0 : am_H} {out : am_S}  (S : am_S) (hB : b_X6_push_32 N  S = some out) : Ev G (am_R 1 0 0) (am_Φ G h0 0 0 (q_v out) q_n) mX6_push 0 0 32 [none, none] [] (hp S) := by
  unfold b_X6_push_32 at hB
  obtain rfl := Option.some.inj hB
  exact ev_vret dX6_push_32 rfl (Nat.zero_le _) (Nat.zero_le _) (fun z => absurd z (hp_sealed _)) ⟨rfl, rfl⟩
theorem t_X6_push {G : am_G} {N : Nat} {l0 : Nat} {l1 : Int32} {S : am_S} {out : am_S} (hl0 : isC 6 l0 = true) (hB : f_X6_push N l0 l1 S = some out) : am_Met G 1 mX6_push 0 0 [.ref l0, .int l1] (hp S) (q_v out) q_n := by
  refine am_of (by decide +kernel) rfl rfl rfl (Nat.le_of_ble_eq_true rfl) ?_
  unfold f_X6_push at hB
  refine ev_aload_n dX6_push_0 rfl ?_
  refine es_geti k_6 1 dX6_push_1 (by decide) rfl (Or.inl w_85) hl0 rfl ?_
  refine ev_aload_n dX6_push_4 rfl ?_
  refine es_getr k_6 0 dX6_push_5 (by decide) rfl (Or.inl w_84) hl0 rfl ?_
  refine es_alen dX6_push_8 (tr_6_0 hl0) rfl ?_
  refine ev_icmpge 32 dX6_push_9 (by decide) (fun q1 => ?_) (fun q1 => ?_)
  · rw [if_pos q1] at hB
    exact ev_ls (u_X6_push_32 S hB) trivial
  · rw [if_neg q1] at hB
    refine ev_aload_n dX6_push_12 rfl ?_
    refine es_getr k_6 0 dX6_push_13 (by decide) rfl (Or.inl w_84) hl0 rfl ?_
    refine ev_aload_n dX6_push_16 rfl ?_
    refine es_geti k_6 1 dX6_push_17 (by decide) rfl (Or.inl w_85) hl0 rfl ?_
    refine ev_iload_n dX6_push_20 rfl ?_
    obtain ⟨c2, hB⟩ := ck_of hB
    refine es_iast dX6_push_21 (tr_6_0 hl0) c2 ?_
    refine ev_aload_n dX6_push_22 rfl ?_
    refine ev_dup dX6_push_23 rfl ?_
    refine es_geti k_6 1 dX6_push_24 (by decide) rfl (Or.inl w_85) hl0 rfl ?_
    refine ev_iconst 1 dX6_push_27 (by decide) ?_
    refine ev_iadd dX6_push_28 ?_
    refine es_puti k_6 1 dX6_push_29 (by decide) rfl (Or.inl w_85) rfl rfl hl0 rfl ?_
    exact ev_ls (u_X6_push_32 (sp (sp S (rf l0 0) (Int32.toNatClampNeg (sg S l0 1)) l1) l0 1 ((sg (sp S (rf l0 0) (Int32.toNatClampNeg (sg S l0 1)) l1) l0 1) + 1)) hB) trivial
def b_X5_addStep_32 (N : Nat)  (S : am_S) : Option (am_S) := some S
def f_X5_addStep (N : Nat) (l0 : Nat) (l1 : Int32) (S : am_S) : Option (am_S) := (if (nI (ln (rf l0 0))) ≤ (sg S l0 1) then b_X5_addStep_32 N S else (if inb (sg S l0 1) (ln (rf l0 0)) = true then b_X5_addStep_32 N (sp (sp S (rf l0 0) (Int32.toNatClampNeg (sg S l0 1)) l1) l0 1 ((sg (sp S (rf l0 0) (Int32.toNatClampNeg (sg S l0 1)) l1) l0 1) + 1)) else none))
theorem u_X5_addStep_32 {G : am_G} {N : Nat} {h0 : am_H} {out : am_S}  (S : am_S) (hB : b_X5_addStep_32 N  S = some out) : Ev G (am_R 1 0 0) (am_Φ G h0 0 0 (q_v out) q_n) mX5_addStep 0 0 32 [none, none] [] (hp S) := by
  unfold b_X5_addStep_32 at hB
  obtain rfl := Option.some.inj hB
  exact ev_vret dX5_addStep_32 rfl (Nat.zero_le _) (Nat.zero_le _) (fun z => absurd z (hp_sealed _)) ⟨rfl, rfl⟩
theorem t_X5_addStep {G : am_G} {N : Nat} {l0 : Nat} {l1 : Int32} {S : am_S} {out : am_S} (hl0 : isC 5 l0 = true) (hB : f_X5_addStep N l0 l1 S = some out) : am_Met G 1 mX5_addStep 0 0 [.ref l0, .int l1] (hp S) (q_v out) q_n := by
  refine am_of (by decide +kernel) rfl rfl rfl (Nat.le_of_ble_eq_true rfl) ?_
  unfold f_X5_addStep at hB
  refine ev_aload_n dX5_addStep_0 rfl ?_
  refine es_geti k_5 1 dX5_addStep_1 (by decide) rfl (Or.inl w_124) hl0 rfl ?_
  refine ev_aload_n dX5_addStep_4 rfl ?_
  refine es_getr k_5 0 dX5_addStep_5 (by decide) rfl (Or.inl w_123) hl0 rfl ?_
  refine es_alen dX5_addStep_8 (tr_5_0 hl0) rfl ?_
  refine ev_icmpge 32 dX5_addStep_9 (by decide) (fun q1 => ?_) (fun q1 => ?_)
  · rw [if_pos q1] at hB
    exact ev_ls (u_X5_addStep_32 S hB) trivial
  · rw [if_neg q1] at hB
    refine ev_aload_n dX5_addStep_12 rfl ?_
    refine es_getr k_5 0 dX5_addStep_13 (by decide) rfl (Or.inl w_123) hl0 rfl ?_
    refine ev_aload_n dX5_addStep_16 rfl ?_
    refine es_geti k_5 1 dX5_addStep_17 (by decide) rfl (Or.inl w_124) hl0 rfl ?_
    refine ev_iload_n dX5_addStep_20 rfl ?_
    obtain ⟨c2, hB⟩ := ck_of hB
    refine es_iast dX5_addStep_21 (tr_5_0 hl0) c2 ?_
    refine ev_aload_n dX5_addStep_22 rfl ?_
    refine ev_dup dX5_addStep_23 rfl ?_
    refine es_geti k_5 1 dX5_addStep_24 (by decide) rfl (Or.inl w_124) hl0 rfl ?_
    refine ev_iconst 1 dX5_addStep_27 (by decide) ?_
    refine ev_iadd dX5_addStep_28 ?_
    refine es_puti k_5 1 dX5_addStep_29 (by decide) rfl (Or.inl w_124) rfl rfl hl0 rfl ?_
    exact ev_ls (u_X5_addStep_32 (sp (sp S (rf l0 0) (Int32.toNatClampNeg (sg S l0 1)) l1) l0 1 ((sg (sp S (rf l0 0) (Int32.toNatClampNeg (sg S l0 1)) l1) l0 1) + 1)) hB) trivial
def b_X6_readNot_14 (N : Nat) (l0 : Nat) (S : am_S) : Option (am_S) := (bv (f_X6_push N l0 3 S) (fun S2 => some (sp S2 l0 3 ((sg S2 l0 3) + 1))))
def f_X6_readNot (N : Nat) (l0 : Nat) (l1 : Nat) (S : am_S) : Option (am_S) := (if (sg S l0 3) < 6 then b_X6_readNot_14 N l0 S else (bv (f_X8_fail N l1 2 S) (fun S3 => b_X6_readNot_14 N l0 S3)))
theorem u_X6_readNot_14 {G : am_G} {N : Nat} {h0 : am_H} {out : am_S} (l0 : Nat) (S : am_S) (hl0 : isC 6 l0 = true) (hB : b_X6_readNot_14 N l0 S = some out) : Ev G (am_R 2 0 0) (am_Φ G h0 0 0 (q_v out) q_n) mX6_readNot 0 0 14 [some (.ref l0), none] [] (hp S) := by
  unfold b_X6_readNot_14 at hB
  refine ev_aload_n dX6_readNot_14 rfl ?_
  refine ev_iconst 3 dX6_readNot_15 (by decide) ?_
  obtain ⟨S2, e3, hB⟩ := bv_of hB
  refine es_callVv (As := [.int 3]) (t_X6_push hl0 e3) dX6_readNot_16 oX6_push w_980 rfl hl0 rfl rfl (Nat.le_of_ble_eq_true rfl) rfl (am_fit.of (by decide)) ⟨Nat.zero_le _, Nat.zero_le _⟩ ?_
  refine ev_aload_n dX6_readNot_19 rfl ?_
  refine ev_dup dX6_readNot_20 rfl ?_
  refine es_geti k_6 3 dX6_readNot_21 (by decide) rfl (Or.inl w_87) hl0 rfl ?_
  refine ev_iconst 1 dX6_readNot_24 (by decide) ?_
  refine ev_iadd dX6_readNot_25 ?_
  refine es_puti k_6 3 dX6_readNot_26 (by decide) rfl (Or.inl w_87) rfl rfl hl0 rfl ?_
  obtain rfl := Option.some.inj hB
  exact ev_vret dX6_readNot_29 rfl (Nat.zero_le _) (Nat.zero_le _) (fun z => absurd z (hp_sealed _)) ⟨rfl, rfl⟩
theorem t_X6_readNot {G : am_G} {N : Nat} {l0 : Nat} {l1 : Nat} {S : am_S} {out : am_S} (hl0 : isC 6 l0 = true) (hl1 : isC 8 l1 = true) (hB : f_X6_readNot N l0 l1 S = some out) : am_Met G 2 mX6_readNot 0 0 [.ref l0, .ref l1] (hp S) (q_v out) q_n := by
  refine am_of (by decide +kernel) rfl rfl rfl (Nat.le_of_ble_eq_true rfl) ?_
  unfold f_X6_readNot at hB
  refine ev_aload_n dX6_readNot_0 rfl ?_
  refine es_geti k_6 3 dX6_readNot_1 (by decide) rfl (Or.inl w_87) hl0 rfl ?_
  refine ev_bipush 6 dX6_readNot_4 (by decide) ?_
  refine ev_icmplt 14 dX6_readNot_6 (by decide) (fun q1 => ?_) (fun q1 => ?_)
  · rw [if_pos q1] at hB
    exact ev_ls (u_X6_readNot_14 l0 S hl0 hB) (And.intro rfl trivial)
  · rw [if_neg q1] at hB
    refine ev_aload_n dX6_readNot_9 rfl ?_
    refine ev_iconst 2 dX6_readNot_10 (by decide) ?_
    obtain ⟨S3, e4, hB⟩ := bv_of hB
    refine es_callVv (As := [.int 2]) (t_X8_fail hl1 e4) dX6_readNot_11 oX8_fail w_965 rfl hl1 rfl rfl (Nat.le_of_ble_eq_true rfl) rfl (am_fit.of (by decide)) ⟨Nat.zero_le _, Nat.zero_le _⟩ ?_
    exact ev_ls (u_X6_readNot_14 l0 S3 hl0 hB) (And.intro rfl trivial)
def b_X6_valueOfThinks_69 (N : Nat) (z0 : Int32) (S : am_S) : Option (Int32 × am_S) := some (z0, S)
def f_X6_valueOfThinks (N : Nat) (l0 : Nat) (S : am_S) : Option (Int32 × am_S) := (bd (f_X8_isWord N l0 8 S) (fun r1 S2 => (if r1 = 0 then (bd (f_X8_isWord N l0 9 S2) (fun r5 S6 => (if r5 = 0 then (bd (f_X8_isWord N l0 10 S6) (fun r9 S10 => (if r9 = 0 then (bd (f_X8_isWord N l0 11 S10) (fun r13 S14 => (if r13 = 0 then (bd (f_X8_isWord N l0 12 S14) (fun r17 S18 => (if r17 = 0 then (bd (f_X8_isWord N l0 13 S18) (fun r21 S22 => (if r21 = 0 then b_X6_valueOfThinks_69 N (-1) S22 else b_X6_valueOfThinks_69 N 5 S22))) else some (4, S18)))) else some (3, S14)))) else some (2, S10)))) else some (1, S6)))) else some (0, S2))))
theorem u_X6_valueOfThinks_69 {G : am_G} {N : Nat} {h0 : am_H} {out : Int32 × am_S} (z0 : Int32) (S : am_S) (hB : b_X6_valueOfThinks_69 N z0 S = some out) : Ev G (am_R 12 0 0) (am_Φ G h0 0 0 (q_i out) q_n) mX6_valueOfThinks 0 0 69 [none] [.int z0] (hp S) := by
  unfold b_X6_valueOfThinks_69 at hB
  obtain rfl := Option.some.inj hB
  exact ev_iret dX6_valueOfThinks_69 rfl (Nat.zero_le _) (Nat.zero_le _) (fun z => absurd z (hp_sealed _)) ⟨rfl, rfl⟩
theorem t_X6_valueOfThinks {G : am_G} {N : Nat} {l0 : Nat} {S : am_S} {out : Int32 × am_S} (hl0 : isC 8 l0 = true) (hB : f_X6_valueOfThinks N l0 S = some out) : am_Met G 12 mX6_valueOfThinks 0 0 [.ref l0] (hp S) (q_i out) q_n := by
  refine am_of (by decide +kernel) rfl rfl rfl (Nat.le_of_ble_eq_true rfl) ?_
  unfold f_X6_valueOfThinks at hB
  refine ev_aload_n dX6_valueOfThinks_0 rfl ?_
  refine ev_ldcS 8 dX6_valueOfThinks_1 rfl rfl ?_
  obtain ⟨r1, S2, e3, hB⟩ := bd_of hB
  refine es_callVi (As := [.float (UInt32.ofNat 8)]) (t_X8_isWord hl0 (by decide) e3) dX6_valueOfThinks_3 oX8_isWord w_989 rfl hl0 rfl rfl (Nat.le_of_ble_eq_true rfl) rfl (am_fit.of (by decide)) ⟨Nat.zero_le _, Nat.zero_le _⟩ ?_
  refine ev_ifeq 11 dX6_valueOfThinks_6 (by decide) (fun q4 => ?_) (fun q4 => ?_)
  · rw [if_pos q4] at hB
    refine ev_aload_n dX6_valueOfThinks_11 rfl ?_
    refine ev_ldcS 9 dX6_valueOfThinks_12 rfl rfl ?_
    obtain ⟨r5, S6, e7, hB⟩ := bd_of hB
    refine es_callVi (As := [.float (UInt32.ofNat 9)]) (t_X8_isWord hl0 (by decide) e7) dX6_valueOfThinks_14 oX8_isWord w_989 rfl hl0 rfl rfl (Nat.le_of_ble_eq_true rfl) rfl (am_fit.of (by decide)) ⟨Nat.zero_le _, Nat.zero_le _⟩ ?_
    refine ev_ifeq 22 dX6_valueOfThinks_17 (by decide) (fun q8 => ?_) (fun q8 => ?_)
    · rw [if_pos q8] at hB
      refine ev_aload_n dX6_valueOfThinks_22 rfl ?_
      refine ev_ldcS 10 dX6_valueOfThinks_23 rfl rfl ?_
      obtain ⟨r9, S10, e11, hB⟩ := bd_of hB
      refine es_callVi (As := [.float (UInt32.ofNat 10)]) (t_X8_isWord hl0 (by decide) e11) dX6_valueOfThinks_25 oX8_isWord w_989 rfl hl0 rfl rfl (Nat.le_of_ble_eq_true rfl) rfl (am_fit.of (by decide)) ⟨Nat.zero_le _, Nat.zero_le _⟩ ?_
      refine ev_ifeq 33 dX6_valueOfThinks_28 (by decide) (fun q12 => ?_) (fun q12 => ?_)
      · rw [if_pos q12] at hB
        refine ev_aload_n dX6_valueOfThinks_33 rfl ?_
        refine ev_ldcS 11 dX6_valueOfThinks_34 rfl rfl ?_
        obtain ⟨r13, S14, e15, hB⟩ := bd_of hB
        refine es_callVi (As := [.float (UInt32.ofNat 11)]) (t_X8_isWord hl0 (by decide) e15) dX6_valueOfThinks_36 oX8_isWord w_989 rfl hl0 rfl rfl (Nat.le_of_ble_eq_true rfl) rfl (am_fit.of (by decide)) ⟨Nat.zero_le _, Nat.zero_le _⟩ ?_
        refine ev_ifeq 44 dX6_valueOfThinks_39 (by decide) (fun q16 => ?_) (fun q16 => ?_)
        · rw [if_pos q16] at hB
          refine ev_aload_n dX6_valueOfThinks_44 rfl ?_
          refine ev_ldcS 12 dX6_valueOfThinks_45 rfl rfl ?_
          obtain ⟨r17, S18, e19, hB⟩ := bd_of hB
          refine es_callVi (As := [.float (UInt32.ofNat 12)]) (t_X8_isWord hl0 (by decide) e19) dX6_valueOfThinks_47 oX8_isWord w_989 rfl hl0 rfl rfl (Nat.le_of_ble_eq_true rfl) rfl (am_fit.of (by decide)) ⟨Nat.zero_le _, Nat.zero_le _⟩ ?_
          refine ev_ifeq 55 dX6_valueOfThinks_50 (by decide) (fun q20 => ?_) (fun q20 => ?_)
          · rw [if_pos q20] at hB
            refine ev_aload_n dX6_valueOfThinks_55 rfl ?_
            refine ev_ldcS 13 dX6_valueOfThinks_56 rfl rfl ?_
            obtain ⟨r21, S22, e23, hB⟩ := bd_of hB
            refine es_callVi (As := [.float (UInt32.ofNat 13)]) (t_X8_isWord hl0 (by decide) e23) dX6_valueOfThinks_58 oX8_isWord w_989 rfl hl0 rfl rfl (Nat.le_of_ble_eq_true rfl) rfl (am_fit.of (by decide)) ⟨Nat.zero_le _, Nat.zero_le _⟩ ?_
            refine ev_ifeq 68 dX6_valueOfThinks_61 (by decide) (fun q24 => ?_) (fun q24 => ?_)
            · rw [if_pos q24] at hB
              refine ev_iconst (-1) dX6_valueOfThinks_68 (by decide) ?_
              exact ev_ls (u_X6_valueOfThinks_69 (-1) S22 hB) trivial
            · rw [if_neg q24] at hB
              refine ev_iconst 5 dX6_valueOfThinks_64 (by decide) ?_
              refine ev_goto 69 dX6_valueOfThinks_65 (by decide) ?_
              exact ev_ls (u_X6_valueOfThinks_69 5 S22 hB) trivial
          · rw [if_neg q20] at hB
            refine ev_iconst 4 dX6_valueOfThinks_53 (by decide) ?_
            obtain rfl := Option.some.inj hB
            exact ev_iret dX6_valueOfThinks_54 rfl (Nat.zero_le _) (Nat.zero_le _) (fun z => absurd z (hp_sealed _)) ⟨rfl, rfl⟩
        · rw [if_neg q16] at hB
          refine ev_iconst 3 dX6_valueOfThinks_42 (by decide) ?_
          obtain rfl := Option.some.inj hB
          exact ev_iret dX6_valueOfThinks_43 rfl (Nat.zero_le _) (Nat.zero_le _) (fun z => absurd z (hp_sealed _)) ⟨rfl, rfl⟩
      · rw [if_neg q12] at hB
        refine ev_iconst 2 dX6_valueOfThinks_31 (by decide) ?_
        obtain rfl := Option.some.inj hB
        exact ev_iret dX6_valueOfThinks_32 rfl (Nat.zero_le _) (Nat.zero_le _) (fun z => absurd z (hp_sealed _)) ⟨rfl, rfl⟩
    · rw [if_neg q8] at hB
      refine ev_iconst 1 dX6_valueOfThinks_20 (by decide) ?_
      obtain rfl := Option.some.inj hB
      exact ev_iret dX6_valueOfThinks_21 rfl (Nat.zero_le _) (Nat.zero_le _) (fun z => absurd z (hp_sealed _)) ⟨rfl, rfl⟩
  · rw [if_neg q4] at hB
    refine ev_iconst 0 dX6_valueOfThinks_9 (by decide) ?_
    obtain rfl := Option.some.inj hB
    exact ev_iret dX6_valueOfThinks_10 rfl (Nat.zero_le _) (Nat.zero_le _) (fun z => absurd z (hp_sealed _)) ⟨rfl, rfl⟩
def b_X6_valueOfSounds_58 (N : Nat) (z0 : Int32) (S : am_S) : Option (Int32 × am_S) := some (z0, S)
def f_X6_valueOfSounds (N : Nat) (l0 : Nat) (S : am_S) : Option (Int32 × am_S) := (bd (f_X8_isWord N l0 14 S) (fun r1 S2 => (if r1 = 0 then (bd (f_X8_isWord N l0 15 S2) (fun r5 S6 => (if r5 = 0 then (bd (f_X8_isWord N l0 10 S6) (fun r9 S10 => (if r9 = 0 then (bd (f_X8_isWord N l0 16 S10) (fun r13 S14 => (if r13 = 0 then (bd (f_X8_isWord N l0 13 S14) (fun r17 S18 => (if r17 = 0 then b_X6_valueOfSounds_58 N (-1) S18 else b_X6_valueOfSounds_58 N 5 S18))) else some (3, S14)))) else some (2, S10)))) else some (1, S6)))) else some (0, S2))))
theorem u_X6_valueOfSounds_58 {G : am_G} {N : Nat} {h0 : am_H} {out : Int32 × am_S} (z0 : Int32) (S : am_S) (hB : b_X6_valueOfSounds_58 N z0 S = some out) : Ev G (am_R 12 0 0) (am_Φ G h0 0 0 (q_i out) q_n) mX6_valueOfSounds 0 0 58 [none] [.int z0] (hp S) := by
  unfold b_X6_valueOfSounds_58 at hB
  obtain rfl := Option.some.inj hB
  exact ev_iret dX6_valueOfSounds_58 rfl (Nat.zero_le _) (Nat.zero_le _) (fun z => absurd z (hp_sealed _)) ⟨rfl, rfl⟩
theorem t_X6_valueOfSounds {G : am_G} {N : Nat} {l0 : Nat} {S : am_S} {out : Int32 × am_S} (hl0 : isC 8 l0 = true) (hB : f_X6_valueOfSounds N l0 S = some out) : am_Met G 12 mX6_valueOfSounds 0 0 [.ref l0] (hp S) (q_i out) q_n := by
  refine am_of (by decide +kernel) rfl rfl rfl (Nat.le_of_ble_eq_true rfl) ?_
  unfold f_X6_valueOfSounds at hB
  refine ev_aload_n dX6_valueOfSounds_0 rfl ?_
  refine ev_ldcS 14 dX6_valueOfSounds_1 rfl rfl ?_
  obtain ⟨r1, S2, e3, hB⟩ := bd_of hB
  refine es_callVi (As := [.float (UInt32.ofNat 14)]) (t_X8_isWord hl0 (by decide) e3) dX6_valueOfSounds_3 oX8_isWord w_989 rfl hl0 rfl rfl (Nat.le_of_ble_eq_true rfl) rfl (am_fit.of (by decide)) ⟨Nat.zero_le _, Nat.zero_le _⟩ ?_
  refine ev_ifeq 11 dX6_valueOfSounds_6 (by decide) (fun q4 => ?_) (fun q4 => ?_)
  · rw [if_pos q4] at hB
    refine ev_aload_n dX6_valueOfSounds_11 rfl ?_
    refine ev_ldcS 15 dX6_valueOfSounds_12 rfl rfl ?_
    obtain ⟨r5, S6, e7, hB⟩ := bd_of hB
    refine es_callVi (As := [.float (UInt32.ofNat 15)]) (t_X8_isWord hl0 (by decide) e7) dX6_valueOfSounds_14 oX8_isWord w_989 rfl hl0 rfl rfl (Nat.le_of_ble_eq_true rfl) rfl (am_fit.of (by decide)) ⟨Nat.zero_le _, Nat.zero_le _⟩ ?_
    refine ev_ifeq 22 dX6_valueOfSounds_17 (by decide) (fun q8 => ?_) (fun q8 => ?_)
    · rw [if_pos q8] at hB
      refine ev_aload_n dX6_valueOfSounds_22 rfl ?_
      refine ev_ldcS 10 dX6_valueOfSounds_23 rfl rfl ?_
      obtain ⟨r9, S10, e11, hB⟩ := bd_of hB
      refine es_callVi (As := [.float (UInt32.ofNat 10)]) (t_X8_isWord hl0 (by decide) e11) dX6_valueOfSounds_25 oX8_isWord w_989 rfl hl0 rfl rfl (Nat.le_of_ble_eq_true rfl) rfl (am_fit.of (by decide)) ⟨Nat.zero_le _, Nat.zero_le _⟩ ?_
      refine ev_ifeq 33 dX6_valueOfSounds_28 (by decide) (fun q12 => ?_) (fun q12 => ?_)
      · rw [if_pos q12] at hB
        refine ev_aload_n dX6_valueOfSounds_33 rfl ?_
        refine ev_ldcS 16 dX6_valueOfSounds_34 rfl rfl ?_
        obtain ⟨r13, S14, e15, hB⟩ := bd_of hB
        refine es_callVi (As := [.float (UInt32.ofNat 16)]) (t_X8_isWord hl0 (by decide) e15) dX6_valueOfSounds_36 oX8_isWord w_989 rfl hl0 rfl rfl (Nat.le_of_ble_eq_true rfl) rfl (am_fit.of (by decide)) ⟨Nat.zero_le _, Nat.zero_le _⟩ ?_
        refine ev_ifeq 44 dX6_valueOfSounds_39 (by decide) (fun q16 => ?_) (fun q16 => ?_)
        · rw [if_pos q16] at hB
          refine ev_aload_n dX6_valueOfSounds_44 rfl ?_
          refine ev_ldcS 13 dX6_valueOfSounds_45 rfl rfl ?_
          obtain ⟨r17, S18, e19, hB⟩ := bd_of hB
          refine es_callVi (As := [.float (UInt32.ofNat 13)]) (t_X8_isWord hl0 (by decide) e19) dX6_valueOfSounds_47 oX8_isWord w_989 rfl hl0 rfl rfl (Nat.le_of_ble_eq_true rfl) rfl (am_fit.of (by decide)) ⟨Nat.zero_le _, Nat.zero_le _⟩ ?_
          refine ev_ifeq 57 dX6_valueOfSounds_50 (by decide) (fun q20 => ?_) (fun q20 => ?_)
          · rw [if_pos q20] at hB
            refine ev_iconst (-1) dX6_valueOfSounds_57 (by decide) ?_
            exact ev_ls (u_X6_valueOfSounds_58 (-1) S18 hB) trivial
          · rw [if_neg q20] at hB
            refine ev_iconst 5 dX6_valueOfSounds_53 (by decide) ?_
            refine ev_goto 58 dX6_valueOfSounds_54 (by decide) ?_
            exact ev_ls (u_X6_valueOfSounds_58 5 S18 hB) trivial
        · rw [if_neg q16] at hB
          refine ev_iconst 3 dX6_valueOfSounds_42 (by decide) ?_
          obtain rfl := Option.some.inj hB
          exact ev_iret dX6_valueOfSounds_43 rfl (Nat.zero_le _) (Nat.zero_le _) (fun z => absurd z (hp_sealed _)) ⟨rfl, rfl⟩
      · rw [if_neg q12] at hB
        refine ev_iconst 2 dX6_valueOfSounds_31 (by decide) ?_
        obtain rfl := Option.some.inj hB
        exact ev_iret dX6_valueOfSounds_32 rfl (Nat.zero_le _) (Nat.zero_le _) (fun z => absurd z (hp_sealed _)) ⟨rfl, rfl⟩
    · rw [if_neg q8] at hB
      refine ev_iconst 1 dX6_valueOfSounds_20 (by decide) ?_
      obtain rfl := Option.some.inj hB
      exact ev_iret dX6_valueOfSounds_21 rfl (Nat.zero_le _) (Nat.zero_le _) (fun z => absurd z (hp_sealed _)) ⟨rfl, rfl⟩
  · rw [if_neg q4] at hB
    refine ev_iconst 0 dX6_valueOfSounds_9 (by decide) ?_
    obtain rfl := Option.some.inj hB
    exact ev_iret dX6_valueOfSounds_10 rfl (Nat.zero_le _) (Nat.zero_le _) (fun z => absurd z (hp_sealed _)) ⟨rfl, rfl⟩
def b_X6_putValue_27 (N : Nat)  (S : am_S) : Option (am_S) := some S
def f_X6_putValue (N : Nat) (l0 : Nat) (l1 : Nat) (l2 : Nat) (l3 : Int32) (S : am_S) : Option (am_S) := (if l3 = (-1) then (bv (f_X8_fail N l1 3 S) (fun S6 => b_X6_putValue_27 N S6)) else (bv (f_X5_addStep N l2 (10000 + l3) S) (fun S3 => b_X6_putValue_27 N (sp S3 l0 4 0))))
theorem u_X6_putValue_27 {G : am_G} {N : Nat} {h0 : am_H} {out : am_S}  (S : am_S) (hB : b_X6_putValue_27 N  S = some out) : Ev G (am_R 2 0 0) (am_Φ G h0 0 0 (q_v out) q_n) mX6_putValue 0 0 27 [none, none, none, none] [] (hp S) := by
  unfold b_X6_putValue_27 at hB
  obtain rfl := Option.some.inj hB
  exact ev_vret dX6_putValue_27 rfl (Nat.zero_le _) (Nat.zero_le _) (fun z => absurd z (hp_sealed _)) ⟨rfl, rfl⟩
theorem t_X6_putValue {G : am_G} {N : Nat} {l0 : Nat} {l1 : Nat} {l2 : Nat} {l3 : Int32} {S : am_S} {out : am_S} (hl0 : isC 6 l0 = true) (hl1 : isC 8 l1 = true) (hl2 : isC 5 l2 = true) (hB : f_X6_putValue N l0 l1 l2 l3 S = some out) : am_Met G 2 mX6_putValue 0 0 [.ref l0, .ref l1, .ref l2, .int l3] (hp S) (q_v out) q_n := by
  refine am_of (by decide +kernel) rfl rfl rfl (Nat.le_of_ble_eq_true rfl) ?_
  unfold f_X6_putValue at hB
  refine ev_iload_n dX6_putValue_0 rfl ?_
  refine ev_iconst (-1) dX6_putValue_1 (by decide) ?_
  refine ev_icmpne 13 dX6_putValue_2 (by decide) (fun q1 => ?_) (fun q1 => ?_)
  · rw [if_neg q1] at hB
    refine ev_aload_n dX6_putValue_13 rfl ?_
    refine ev_sipush 10000 dX6_putValue_14 (by decide) ?_
    refine ev_iload_n dX6_putValue_17 rfl ?_
    refine ev_iadd dX6_putValue_18 ?_
    obtain ⟨S3, e4, hB⟩ := bv_of hB
    refine es_callVv (As := [.int (10000 + l3)]) (t_X5_addStep hl2 e4) dX6_putValue_19 oX5_addStep w_984 rfl hl2 rfl rfl (Nat.le_of_ble_eq_true rfl) rfl (am_fit.of (by decide)) ⟨Nat.zero_le _, Nat.zero_le _⟩ ?_
    refine ev_aload_n dX6_putValue_22 rfl ?_
    refine ev_iconst 0 dX6_putValue_23 (by decide) ?_
    refine es_putz k_6 4 dX6_putValue_24 (by decide) rfl (Or.inl w_88) rfl rfl (Or.inl rfl) hl0 rfl ?_
    exact ev_ls (u_X6_putValue_27 (sp S3 l0 4 0) hB) trivial
  · rw [if_pos q1] at hB
    refine ev_aload_n dX6_putValue_5 rfl ?_
    refine ev_iconst 3 dX6_putValue_6 (by decide) ?_
    obtain ⟨S6, e7, hB⟩ := bv_of hB
    refine es_callVv (As := [.int 3]) (t_X8_fail hl1 e7) dX6_putValue_7 oX8_fail w_965 rfl hl1 rfl rfl (Nat.le_of_ble_eq_true rfl) rfl (am_fit.of (by decide)) ⟨Nat.zero_le _, Nat.zero_le _⟩ ?_
    refine ev_goto 27 dX6_putValue_10 (by decide) ?_
    exact ev_ls (u_X6_putValue_27 S6 hB) trivial
def b_X6_readPart_182 (N : Nat)  (S : am_S) : Option (am_S) := some S
def b_X6_readPart_81 (N : Nat) (l1 : Nat) (S : am_S) : Option (am_S) := (bv (f_X8_fail N l1 2 S) (fun S2 => b_X6_readPart_182 N S2))
def b_X6_readPart_179 (N : Nat) (z0 : Nat) (z1 : Nat) (z2 : Nat) (z3 : Int32) (S : am_S) : Option (am_S) := (bv (f_X6_putValue N z0 z1 z2 z3 S) (fun S2 => b_X6_readPart_182 N S2))
def b_X6_readPart_161 (N : Nat) (l0 : Nat) (l1 : Nat) (l2 : Nat) (l3 : Int32) (S : am_S) : Option (am_S) := (if l3 = 0 then (bd (f_X6_valueOfSounds N l1 S) (fun r2 S3 => b_X6_readPart_179 N l0 l1 l2 r2 S3)) else (bd (f_X6_valueOfThinks N l1 S) (fun r5 S6 => b_X6_readPart_179 N l0 l1 l2 r5 S6)))
def b_X6_readPart_89 (N : Nat) (l0 : Nat) (l1 : Nat) (l2 : Nat) (l3 : Int32) (l4 : Int32) (l5 : Int32) (S : am_S) : Option (am_S) := (if l5 = 0 then (if l4 = 0 then (if (sg S l0 5) = 0 then b_X6_readPart_161 N l0 l1 l2 l3 S else (bd (f_X8_isWord N l1 7 S) (fun r4 S5 => (if r4 = 0 then b_X6_readPart_161 N l0 l1 l2 l3 S5 else (bv (f_X6_readNot N l0 l1 S5) (fun S9 => b_X6_readPart_182 N S9)))))) else (bv (f_X5_addStep N l2 (sg S l1 5) S) (fun S12 => b_X6_readPart_182 N (sp S12 l0 4 0)))) else (bv (f_X6_push N l0 0 S) (fun S15 => (bv (f_X6_beginExpression N l0 (sp S15 l0 2 ((sg S15 l0 2) + 1))) (fun S18 => b_X6_readPart_182 N S18)))))
def b_X6_readPart_57 (N : Nat) (l0 : Nat) (l1 : Nat) (l2 : Nat) (l3 : Int32) (l4 : Int32) (l5 : Int32) (S : am_S) : Option (am_S) := (if 6 ≤ (sg S l0 2) then b_X6_readPart_81 N l1 S else (if l4 = 0 then b_X6_readPart_89 N l0 l1 l2 l3 l4 l5 S else (if (sg S l1 5) ≤ 9999 then b_X6_readPart_89 N l0 l1 l2 l3 l4 l5 S else b_X6_readPart_81 N l1 S)))
def b_X6_readPart_29 (N : Nat) (l0 : Nat) (l1 : Nat) (l2 : Nat) (l3 : Int32) (l4 : Int32) (z0 : Int32) (S : am_S) : Option (am_S) := (if l4 = 0 then (if z0 = 0 then (if (sg S l1 4) = 2 then b_X6_readPart_57 N l0 l1 l2 l3 l4 z0 S else (bv (f_X8_fail N l1 1 S) (fun S5 => b_X6_readPart_182 N S5))) else b_X6_readPart_57 N l0 l1 l2 l3 l4 z0 S) else b_X6_readPart_57 N l0 l1 l2 l3 l4 z0 S)
def b_X6_readPart_13 (N : Nat) (l0 : Nat) (l1 : Nat) (l2 : Nat) (l3 : Int32) (z0 : Int32) (S : am_S) : Option (am_S) := (if (sg S l1 4) = 40 then b_X6_readPart_29 N l0 l1 l2 l3 z0 1 S else b_X6_readPart_29 N l0 l1 l2 l3 z0 0 S)
def f_X6_readPart (N : Nat) (l0 : Nat) (l1 : Nat) (l2 : Nat) (l3 : Int32) (S : am_S) : Option (am_S) := (if (sg S l1 4) = 3 then b_X6_readPart_13 N l0 l1 l2 l3 1 S else b_X6_readPart_13 N l0 l1 l2 l3 0 S)
theorem u_X6_readPart_182 {G : am_G} {N : Nat} {h0 : am_H} {out : am_S}  (S : am_S) (hB : b_X6_readPart_182 N  S = some out) : Ev G (am_R 13 0 0) (am_Φ G h0 0 0 (q_v out) q_n) mX6_readPart 0 0 182 [none, none, none, none, none, none] [] (hp S) := by
  unfold b_X6_readPart_182 at hB
  obtain rfl := Option.some.inj hB
  exact ev_vret dX6_readPart_182 rfl (Nat.zero_le _) (Nat.zero_le _) (fun z => absurd z (hp_sealed _)) ⟨rfl, rfl⟩
theorem u_X6_readPart_81 {G : am_G} {N : Nat} {h0 : am_H} {out : am_S} (l1 : Nat) (S : am_S) (hl1 : isC 8 l1 = true) (hB : b_X6_readPart_81 N l1 S = some out) : Ev G (am_R 13 0 0) (am_Φ G h0 0 0 (q_v out) q_n) mX6_readPart 0 0 81 [none, some (.ref l1), none, none, none, none] [] (hp S) := by
  unfold b_X6_readPart_81 at hB
  refine ev_aload_n dX6_readPart_81 rfl ?_
  refine ev_iconst 2 dX6_readPart_82 (by decide) ?_
  obtain ⟨S2, e3, hB⟩ := bv_of hB
  refine es_callVv (As := [.int 2]) (t_X8_fail hl1 e3) dX6_readPart_83 oX8_fail w_965 rfl hl1 rfl rfl (Nat.le_of_ble_eq_true rfl) rfl (am_fit.of (by decide)) ⟨Nat.zero_le _, Nat.zero_le _⟩ ?_
  refine ev_goto 182 dX6_readPart_86 (by decide) ?_
  exact ev_ls (u_X6_readPart_182 S2 hB) trivial
theorem u_X6_readPart_179 {G : am_G} {N : Nat} {h0 : am_H} {out : am_S} (z0 : Nat) (z1 : Nat) (z2 : Nat) (z3 : Int32) (S : am_S) (hz0 : isC 6 z0 = true) (hz1 : isC 8 z1 = true) (hz2 : isC 5 z2 = true) (hB : b_X6_readPart_179 N z0 z1 z2 z3 S = some out) : Ev G (am_R 13 0 0) (am_Φ G h0 0 0 (q_v out) q_n) mX6_readPart 0 0 179 [none, none, none, none, none, none] [.int z3, .ref z2, .ref z1, .ref z0] (hp S) := by
  unfold b_X6_readPart_179 at hB
  obtain ⟨S2, e3, hB⟩ := bv_of hB
  refine es_callVv (As := [.ref z1, .ref z2, .int z3]) (t_X6_putValue hz0 hz1 hz2 e3) dX6_readPart_179 oX6_putValue w_1009 rfl hz0 rfl rfl (Nat.le_of_ble_eq_true rfl) rfl (am_fit.of (by decide)) ⟨Nat.zero_le _, Nat.zero_le _⟩ ?_
  exact ev_ls (u_X6_readPart_182 S2 hB) trivial
theorem u_X6_readPart_161 {G : am_G} {N : Nat} {h0 : am_H} {out : am_S} (l0 : Nat) (l1 : Nat) (l2 : Nat) (l3 : Int32) (S : am_S) (hl0 : isC 6 l0 = true) (hl1 : isC 8 l1 = true) (hl2 : isC 5 l2 = true) (hB : b_X6_readPart_161 N l0 l1 l2 l3 S = some out) : Ev G (am_R 13 0 0) (am_Φ G h0 0 0 (q_v out) q_n) mX6_readPart 0 0 161 [some (.ref l0), some (.ref l1), some (.ref l2), some (.int l3), none, none] [] (hp S) := by
  unfold b_X6_readPart_161 at hB
  refine ev_aload_n dX6_readPart_161 rfl ?_
  refine ev_aload_n dX6_readPart_162 rfl ?_
  refine ev_aload_n dX6_readPart_163 rfl ?_
  refine ev_iload_n dX6_readPart_164 rfl ?_
  refine ev_ifeq 175 dX6_readPart_165 (by decide) (fun q1 => ?_) (fun q1 => ?_)
  · rw [if_pos q1] at hB
    refine ev_aload_n dX6_readPart_175 rfl ?_
    obtain ⟨r2, S3, e4, hB⟩ := bd_of hB
    refine es_callSi (As := [.ref l1]) (t_X6_valueOfSounds hl1 e4) dX6_readPart_176 oX6_valueOfSounds w_1003 rfl (Nat.le_of_ble_eq_true rfl) rfl (am_fit.of (by decide)) ⟨Nat.zero_le _, Nat.zero_le _⟩ ?_
    exact ev_ls (u_X6_readPart_179 l0 l1 l2 r2 S3 hl0 hl1 hl2 hB) trivial
  · rw [if_neg q1] at hB
    refine ev_aload_n dX6_readPart_168 rfl ?_
    obtain ⟨r5, S6, e7, hB⟩ := bd_of hB
    refine es_callSi (As := [.ref l1]) (t_X6_valueOfThinks hl1 e7) dX6_readPart_169 oX6_valueOfThinks w_994 rfl (Nat.le_of_ble_eq_true rfl) rfl (am_fit.of (by decide)) ⟨Nat.zero_le _, Nat.zero_le _⟩ ?_
    refine ev_goto 179 dX6_readPart_172 (by decide) ?_
    exact ev_ls (u_X6_readPart_179 l0 l1 l2 r5 S6 hl0 hl1 hl2 hB) trivial
theorem u_X6_readPart_89 {G : am_G} {N : Nat} {h0 : am_H} {out : am_S} (l0 : Nat) (l1 : Nat) (l2 : Nat) (l3 : Int32) (l4 : Int32) (l5 : Int32) (S : am_S) (hl0 : isC 6 l0 = true) (hl1 : isC 8 l1 = true) (hl2 : isC 5 l2 = true) (hB : b_X6_readPart_89 N l0 l1 l2 l3 l4 l5 S = some out) : Ev G (am_R 13 0 0) (am_Φ G h0 0 0 (q_v out) q_n) mX6_readPart 0 0 89 [some (.ref l0), some (.ref l1), some (.ref l2), some (.int l3), some (.int l4), some (.int l5)] [] (hp S) := by
  unfold b_X6_readPart_89 at hB
  refine ev_iload dX6_readPart_89 rfl ?_
  refine ev_ifeq 116 dX6_readPart_91 (by decide) (fun q1 => ?_) (fun q1 => ?_)
  · rw [if_pos q1] at hB
    refine ev_iload dX6_readPart_116 rfl ?_
    refine ev_ifeq 137 dX6_readPart_118 (by decide) (fun q2 => ?_) (fun q2 => ?_)
    · rw [if_pos q2] at hB
      refine ev_aload_n dX6_readPart_137 rfl ?_
      refine es_geti k_6 5 dX6_readPart_138 (by decide) rfl (Or.inl w_89) hl0 rfl ?_
      refine ev_ifeq 161 dX6_readPart_141 (by decide) (fun q3 => ?_) (fun q3 => ?_)
      · rw [if_pos q3] at hB
        exact ev_ls (u_X6_readPart_161 l0 l1 l2 l3 S hl0 hl1 hl2 hB) (And.intro rfl (And.intro rfl (And.intro rfl (And.intro rfl trivial))))
      · rw [if_neg q3] at hB
        refine ev_aload_n dX6_readPart_144 rfl ?_
        refine ev_ldcS 7 dX6_readPart_145 rfl rfl ?_
        obtain ⟨r4, S5, e6, hB⟩ := bd_of hB
        refine es_callVi (As := [.float (UInt32.ofNat 7)]) (t_X8_isWord hl1 (by decide) e6) dX6_readPart_147 oX8_isWord w_989 rfl hl1 rfl rfl (Nat.le_of_ble_eq_true rfl) rfl (am_fit.of (by decide)) ⟨Nat.zero_le _, Nat.zero_le _⟩ ?_
        refine ev_ifeq 161 dX6_readPart_150 (by decide) (fun q7 => ?_) (fun q7 => ?_)
        · rw [if_pos q7] at hB
          exact ev_ls (u_X6_readPart_161 l0 l1 l2 l3 S5 hl0 hl1 hl2 hB) (And.intro rfl (And.intro rfl (And.intro rfl (And.intro rfl trivial))))
        · rw [if_neg q7] at hB
          refine ev_aload_n dX6_readPart_153 rfl ?_
          refine ev_aload_n dX6_readPart_154 rfl ?_
          obtain ⟨S9, e10, hB⟩ := bv_of hB
          refine es_callVv (As := [.ref l1]) (t_X6_readNot hl0 hl1 e10) dX6_readPart_155 oX6_readNot w_990 rfl hl0 rfl rfl (Nat.le_of_ble_eq_true rfl) rfl (am_fit.of (by decide)) ⟨Nat.zero_le _, Nat.zero_le _⟩ ?_
          refine ev_goto 182 dX6_readPart_158 (by decide) ?_
          exact ev_ls (u_X6_readPart_182 S9 hB) trivial
    · rw [if_neg q2] at hB
      refine ev_aload_n dX6_readPart_121 rfl ?_
      refine ev_aload_n dX6_readPart_122 rfl ?_
      refine es_geti k_8 5 dX6_readPart_123 (by decide) rfl (Or.inr ⟨_, n_58⟩) hl1 rfl ?_
      obtain ⟨S12, e13, hB⟩ := bv_of hB
      refine es_callVv (As := [.int (sg S l1 5)]) (t_X5_addStep hl2 e13) dX6_readPart_126 oX5_addStep w_984 rfl hl2 rfl rfl (Nat.le_of_ble_eq_true rfl) rfl (am_fit.of (by decide)) ⟨Nat.zero_le _, Nat.zero_le _⟩ ?_
      refine ev_aload_n dX6_readPart_129 rfl ?_
      refine ev_iconst 0 dX6_readPart_130 (by decide) ?_
      refine es_putz k_6 4 dX6_readPart_131 (by decide) rfl (Or.inl w_88) rfl rfl (Or.inl rfl) hl0 rfl ?_
      refine ev_goto 182 dX6_readPart_134 (by decide) ?_
      exact ev_ls (u_X6_readPart_182 (sp S12 l0 4 0) hB) trivial
  · rw [if_neg q1] at hB
    refine ev_aload_n dX6_readPart_94 rfl ?_
    refine ev_iconst 0 dX6_readPart_95 (by decide) ?_
    obtain ⟨S15, e16, hB⟩ := bv_of hB
    refine es_callVv (As := [.int 0]) (t_X6_push hl0 e16) dX6_readPart_96 oX6_push w_980 rfl hl0 rfl rfl (Nat.le_of_ble_eq_true rfl) rfl (am_fit.of (by decide)) ⟨Nat.zero_le _, Nat.zero_le _⟩ ?_
    refine ev_aload_n dX6_readPart_99 rfl ?_
    refine ev_dup dX6_readPart_100 rfl ?_
    refine es_geti k_6 2 dX6_readPart_101 (by decide) rfl (Or.inl w_86) hl0 rfl ?_
    refine ev_iconst 1 dX6_readPart_104 (by decide) ?_
    refine ev_iadd dX6_readPart_105 ?_
    refine es_puti k_6 2 dX6_readPart_106 (by decide) rfl (Or.inl w_86) rfl rfl hl0 rfl ?_
    refine ev_aload_n dX6_readPart_109 rfl ?_
    obtain ⟨S18, e19, hB⟩ := bv_of hB
    refine es_callVv (As := []) (t_X6_beginExpression hl0 e19) dX6_readPart_110 oX6_beginExpression w_967 rfl hl0 rfl rfl (Nat.le_of_ble_eq_true rfl) rfl (am_fit.of (by decide)) ⟨Nat.zero_le _, Nat.zero_le _⟩ ?_
    refine ev_goto 182 dX6_readPart_113 (by decide) ?_
    exact ev_ls (u_X6_readPart_182 S18 hB) trivial
theorem u_X6_readPart_57 {G : am_G} {N : Nat} {h0 : am_H} {out : am_S} (l0 : Nat) (l1 : Nat) (l2 : Nat) (l3 : Int32) (l4 : Int32) (l5 : Int32) (S : am_S) (hl0 : isC 6 l0 = true) (hl1 : isC 8 l1 = true) (hl2 : isC 5 l2 = true) (hB : b_X6_readPart_57 N l0 l1 l2 l3 l4 l5 S = some out) : Ev G (am_R 13 0 0) (am_Φ G h0 0 0 (q_v out) q_n) mX6_readPart 0 0 57 [some (.ref l0), some (.ref l1), some (.ref l2), some (.int l3), some (.int l4), some (.int l5)] [] (hp S) := by
  unfold b_X6_readPart_57 at hB
  refine ev_aload_n dX6_readPart_57 rfl ?_
  refine es_geti k_6 2 dX6_readPart_58 (by decide) rfl (Or.inl w_86) hl0 rfl ?_
  refine ev_bipush 6 dX6_readPart_61 (by decide) ?_
  refine ev_icmpge 81 dX6_readPart_63 (by decide) (fun q1 => ?_) (fun q1 => ?_)
  · rw [if_pos q1] at hB
    exact ev_ls (u_X6_readPart_81 l1 S hl1 hB) (And.intro rfl trivial)
  · rw [if_neg q1] at hB
    refine ev_iload dX6_readPart_66 rfl ?_
    refine ev_ifeq 89 dX6_readPart_68 (by decide) (fun q2 => ?_) (fun q2 => ?_)
    · rw [if_pos q2] at hB
      exact ev_ls (u_X6_readPart_89 l0 l1 l2 l3 l4 l5 S hl0 hl1 hl2 hB) (And.intro rfl (And.intro rfl (And.intro rfl (And.intro rfl (And.intro rfl (And.intro rfl trivial))))))
    · rw [if_neg q2] at hB
      refine ev_aload_n dX6_readPart_71 rfl ?_
      refine es_geti k_8 5 dX6_readPart_72 (by decide) rfl (Or.inr ⟨_, n_58⟩) hl1 rfl ?_
      refine ev_sipush 9999 dX6_readPart_75 (by decide) ?_
      refine ev_icmple 89 dX6_readPart_78 (by decide) (fun q3 => ?_) (fun q3 => ?_)
      · rw [if_pos q3] at hB
        exact ev_ls (u_X6_readPart_89 l0 l1 l2 l3 l4 l5 S hl0 hl1 hl2 hB) (And.intro rfl (And.intro rfl (And.intro rfl (And.intro rfl (And.intro rfl (And.intro rfl trivial))))))
      · rw [if_neg q3] at hB
        exact ev_ls (u_X6_readPart_81 l1 S hl1 hB) (And.intro rfl trivial)
theorem u_X6_readPart_29 {G : am_G} {N : Nat} {h0 : am_H} {out : am_S} (l0 : Nat) (l1 : Nat) (l2 : Nat) (l3 : Int32) (l4 : Int32) (z0 : Int32) (S : am_S) (hl0 : isC 6 l0 = true) (hl1 : isC 8 l1 = true) (hl2 : isC 5 l2 = true) (hB : b_X6_readPart_29 N l0 l1 l2 l3 l4 z0 S = some out) : Ev G (am_R 13 0 0) (am_Φ G h0 0 0 (q_v out) q_n) mX6_readPart 0 0 29 [some (.ref l0), some (.ref l1), some (.ref l2), some (.int l3), some (.int l4), none] [.int z0] (hp S) := by
  unfold b_X6_readPart_29 at hB
  refine ev_istore dX6_readPart_29 (by decide) rfl ?_
  refine ev_iload dX6_readPart_31 rfl ?_
  refine ev_ifne 57 dX6_readPart_33 (by decide) (fun q1 => ?_) (fun q1 => ?_)
  · rw [if_neg q1] at hB
    exact ev_ls (u_X6_readPart_57 l0 l1 l2 l3 l4 z0 S hl0 hl1 hl2 hB) (And.intro rfl (And.intro rfl (And.intro rfl (And.intro rfl (And.intro rfl (And.intro rfl trivial))))))
  · rw [if_pos q1] at hB
    refine ev_iload dX6_readPart_36 rfl ?_
    refine ev_ifne 57 dX6_readPart_38 (by decide) (fun q2 => ?_) (fun q2 => ?_)
    · rw [if_neg q2] at hB
      exact ev_ls (u_X6_readPart_57 l0 l1 l2 l3 l4 z0 S hl0 hl1 hl2 hB) (And.intro rfl (And.intro rfl (And.intro rfl (And.intro rfl (And.intro rfl (And.intro rfl trivial))))))
    · rw [if_pos q2] at hB
      refine ev_aload_n dX6_readPart_41 rfl ?_
      refine es_geti k_8 4 dX6_readPart_42 (by decide) rfl (Or.inr ⟨_, n_56⟩) hl1 rfl ?_
      refine ev_iconst 2 dX6_readPart_45 (by decide) ?_
      refine ev_icmpeq 57 dX6_readPart_46 (by decide) (fun q3 => ?_) (fun q3 => ?_)
      · rw [if_pos q3] at hB
        exact ev_ls (u_X6_readPart_57 l0 l1 l2 l3 l4 z0 S hl0 hl1 hl2 hB) (And.intro rfl (And.intro rfl (And.intro rfl (And.intro rfl (And.intro rfl (And.intro rfl trivial))))))
      · rw [if_neg q3] at hB
        refine ev_aload_n dX6_readPart_49 rfl ?_
        refine ev_iconst 1 dX6_readPart_50 (by decide) ?_
        obtain ⟨S5, e6, hB⟩ := bv_of hB
        refine es_callVv (As := [.int 1]) (t_X8_fail hl1 e6) dX6_readPart_51 oX8_fail w_965 rfl hl1 rfl rfl (Nat.le_of_ble_eq_true rfl) rfl (am_fit.of (by decide)) ⟨Nat.zero_le _, Nat.zero_le _⟩ ?_
        refine ev_goto 182 dX6_readPart_54 (by decide) ?_
        exact ev_ls (u_X6_readPart_182 S5 hB) trivial
theorem u_X6_readPart_13 {G : am_G} {N : Nat} {h0 : am_H} {out : am_S} (l0 : Nat) (l1 : Nat) (l2 : Nat) (l3 : Int32) (z0 : Int32) (S : am_S) (hl0 : isC 6 l0 = true) (hl1 : isC 8 l1 = true) (hl2 : isC 5 l2 = true) (hB : b_X6_readPart_13 N l0 l1 l2 l3 z0 S = some out) : Ev G (am_R 13 0 0) (am_Φ G h0 0 0 (q_v out) q_n) mX6_readPart 0 0 13 [some (.ref l0), some (.ref l1), some (.ref l2), some (.int l3), none, none] [.int z0] (hp S) := by
  unfold b_X6_readPart_13 at hB
  refine ev_istore dX6_readPart_13 (by decide) rfl ?_
  refine ev_aload_n dX6_readPart_15 rfl ?_
  refine es_geti k_8 4 dX6_readPart_16 (by decide) rfl (Or.inr ⟨_, n_56⟩) hl1 rfl ?_
  refine ev_bipush 40 dX6_readPart_19 (by decide) ?_
  refine ev_icmpne 28 dX6_readPart_21 (by decide) (fun q1 => ?_) (fun q1 => ?_)
  · rw [if_neg q1] at hB
    refine ev_iconst 0 dX6_readPart_28 (by decide) ?_
    exact ev_ls (u_X6_readPart_29 l0 l1 l2 l3 z0 0 S hl0 hl1 hl2 hB) (And.intro rfl (And.intro rfl (And.intro rfl (And.intro rfl (And.intro rfl trivial)))))
  · rw [if_pos q1] at hB
    refine ev_iconst 1 dX6_readPart_24 (by decide) ?_
    refine ev_goto 29 dX6_readPart_25 (by decide) ?_
    exact ev_ls (u_X6_readPart_29 l0 l1 l2 l3 z0 1 S hl0 hl1 hl2 hB) (And.intro rfl (And.intro rfl (And.intro rfl (And.intro rfl (And.intro rfl trivial)))))
theorem t_X6_readPart {G : am_G} {N : Nat} {l0 : Nat} {l1 : Nat} {l2 : Nat} {l3 : Int32} {S : am_S} {out : am_S} (hl0 : isC 6 l0 = true) (hl1 : isC 8 l1 = true) (hl2 : isC 5 l2 = true) (hB : f_X6_readPart N l0 l1 l2 l3 S = some out) : am_Met G 13 mX6_readPart 0 0 [.ref l0, .ref l1, .ref l2, .int l3] (hp S) (q_v out) q_n := by
  refine am_of (by decide +kernel) rfl rfl rfl (Nat.le_of_ble_eq_true rfl) ?_
  unfold f_X6_readPart at hB
  refine ev_aload_n dX6_readPart_0 rfl ?_
  refine es_geti k_8 4 dX6_readPart_1 (by decide) rfl (Or.inr ⟨_, n_56⟩) hl1 rfl ?_
  refine ev_iconst 3 dX6_readPart_4 (by decide) ?_
  refine ev_icmpne 12 dX6_readPart_5 (by decide) (fun q1 => ?_) (fun q1 => ?_)
  · rw [if_neg q1] at hB
    refine ev_iconst 0 dX6_readPart_12 (by decide) ?_
    exact ev_ls (u_X6_readPart_13 l0 l1 l2 l3 0 S hl0 hl1 hl2 hB) (And.intro rfl (And.intro rfl (And.intro rfl (And.intro rfl trivial))))
  · rw [if_pos q1] at hB
    refine ev_iconst 1 dX6_readPart_8 (by decide) ?_
    refine ev_goto 13 dX6_readPart_9 (by decide) ?_
    exact ev_ls (u_X6_readPart_13 l0 l1 l2 l3 1 S hl0 hl1 hl2 hB) (And.intro rfl (And.intro rfl (And.intro rfl (And.intro rfl trivial))))
def b_X6_operatorOf_141 (N : Nat) (z0 : Int32) (S : am_S) : Option (Int32 × am_S) := some (z0, S)
def f_X6_operatorOf (N : Nat) (l0 : Nat) (S : am_S) : Option (Int32 × am_S) := (if (sg S l0 4) = 42 then some (8, S) else (if (sg S l0 4) = 43 then some (6, S) else (if (sg S l0 4) = 44 then (bd (f_X8_isWord N l0 17 S) (fun r3 S4 => (if r3 = 0 then (bd (f_X8_isWord N l0 18 S4) (fun r7 S8 => (if r7 = 0 then b_X6_operatorOf_141 N (-1) S8 else b_X6_operatorOf_141 N 2 S8))) else some (1, S4)))) else (if (sg S l0 4) = 45 then some (7, S) else (if (sg S l0 4) = 46 then (bd (f_X8_isWord N l0 17 S) (fun r13 S14 => (if r13 = 0 then (bd (f_X8_isWord N l0 18 S14) (fun r17 S18 => (if r17 = 0 then b_X6_operatorOf_141 N (-1) S18 else b_X6_operatorOf_141 N 2 S18))) else some (1, S14)))) else (if (sg S l0 4) = 47 then some (9, S) else (if (sg S l0 4) = 48 then (bd (f_X8_isWord N l0 17 S) (fun r23 S24 => (if r23 = 0 then (bd (f_X8_isWord N l0 18 S24) (fun r27 S28 => (if r27 = 0 then b_X6_operatorOf_141 N (-1) S28 else b_X6_operatorOf_141 N 2 S28))) else some (1, S24)))) else (if (sg S l0 4) = 49 then (bd (f_X8_isWord N l0 17 S) (fun r32 S33 => (if r32 = 0 then (bd (f_X8_isWord N l0 18 S33) (fun r36 S37 => (if r36 = 0 then b_X6_operatorOf_141 N (-1) S37 else b_X6_operatorOf_141 N 2 S37))) else some (1, S33)))) else (if (sg S l0 4) = 50 then (bd (f_X8_isWord N l0 17 S) (fun r41 S42 => (if r41 = 0 then (bd (f_X8_isWord N l0 18 S42) (fun r45 S46 => (if r45 = 0 then b_X6_operatorOf_141 N (-1) S46 else b_X6_operatorOf_141 N 2 S46))) else some (1, S42)))) else (if (sg S l0 4) = 51 then (bd (f_X8_isWord N l0 17 S) (fun r50 S51 => (if r50 = 0 then (bd (f_X8_isWord N l0 18 S51) (fun r54 S55 => (if r54 = 0 then b_X6_operatorOf_141 N (-1) S55 else b_X6_operatorOf_141 N 2 S55))) else some (1, S51)))) else (if (sg S l0 4) = 52 then (bd (f_X8_isWord N l0 17 S) (fun r59 S60 => (if r59 = 0 then (bd (f_X8_isWord N l0 18 S60) (fun r63 S64 => (if r63 = 0 then b_X6_operatorOf_141 N (-1) S64 else b_X6_operatorOf_141 N 2 S64))) else some (1, S60)))) else (if (sg S l0 4) = 53 then (bd (f_X8_isWord N l0 17 S) (fun r68 S69 => (if r68 = 0 then (bd (f_X8_isWord N l0 18 S69) (fun r72 S73 => (if r72 = 0 then b_X6_operatorOf_141 N (-1) S73 else b_X6_operatorOf_141 N 2 S73))) else some (1, S69)))) else (if (sg S l0 4) = 54 then (bd (f_X8_isWord N l0 17 S) (fun r77 S78 => (if r77 = 0 then (bd (f_X8_isWord N l0 18 S78) (fun r81 S82 => (if r81 = 0 then b_X6_operatorOf_141 N (-1) S82 else b_X6_operatorOf_141 N 2 S82))) else some (1, S78)))) else (if (sg S l0 4) = 55 then (bd (f_X8_isWord N l0 17 S) (fun r86 S87 => (if r86 = 0 then (bd (f_X8_isWord N l0 18 S87) (fun r90 S91 => (if r90 = 0 then b_X6_operatorOf_141 N (-1) S91 else b_X6_operatorOf_141 N 2 S91))) else some (1, S87)))) else (if (sg S l0 4) = 56 then (bd (f_X8_isWord N l0 17 S) (fun r95 S96 => (if r95 = 0 then (bd (f_X8_isWord N l0 18 S96) (fun r99 S100 => (if r99 = 0 then b_X6_operatorOf_141 N (-1) S100 else b_X6_operatorOf_141 N 2 S100))) else some (1, S96)))) else (if (sg S l0 4) = 57 then (bd (f_X8_isWord N l0 17 S) (fun r104 S105 => (if r104 = 0 then (bd (f_X8_isWord N l0 18 S105) (fun r108 S109 => (if r108 = 0 then b_X6_operatorOf_141 N (-1) S109 else b_X6_operatorOf_141 N 2 S109))) else some (1, S105)))) else (if (sg S l0 4) = 58 then (bd (f_X8_isWord N l0 17 S) (fun r113 S114 => (if r113 = 0 then (bd (f_X8_isWord N l0 18 S114) (fun r117 S118 => (if r117 = 0 then b_X6_operatorOf_141 N (-1) S118 else b_X6_operatorOf_141 N 2 S118))) else some (1, S114)))) else (if (sg S l0 4) = 59 then (bd (f_X8_isWord N l0 17 S) (fun r122 S123 => (if r122 = 0 then (bd (f_X8_isWord N l0 18 S123) (fun r126 S127 => (if r126 = 0 then b_X6_operatorOf_141 N (-1) S127 else b_X6_operatorOf_141 N 2 S127))) else some (1, S123)))) else (if (sg S l0 4) = 60 then some (4, S) else (if (sg S l0 4) = 61 then some (5, S) else (bd (f_X8_isWord N l0 17 S) (fun r133 S134 => (if r133 = 0 then (bd (f_X8_isWord N l0 18 S134) (fun r137 S138 => (if r137 = 0 then b_X6_operatorOf_141 N (-1) S138 else b_X6_operatorOf_141 N 2 S138))) else some (1, S134))))))))))))))))))))))))
theorem u_X6_operatorOf_141 {G : am_G} {N : Nat} {h0 : am_H} {out : Int32 × am_S} (z0 : Int32) (S : am_S) (hB : b_X6_operatorOf_141 N z0 S = some out) : Ev G (am_R 12 0 0) (am_Φ G h0 0 0 (q_i out) q_n) mX6_operatorOf 0 0 141 [none] [.int z0] (hp S) := by
  unfold b_X6_operatorOf_141 at hB
  obtain rfl := Option.some.inj hB
  exact ev_iret dX6_operatorOf_141 rfl (Nat.zero_le _) (Nat.zero_le _) (fun z => absurd z (hp_sealed _)) ⟨rfl, rfl⟩
theorem t_X6_operatorOf {G : am_G} {N : Nat} {l0 : Nat} {S : am_S} {out : Int32 × am_S} (hl0 : isC 8 l0 = true) (hB : f_X6_operatorOf N l0 S = some out) : am_Met G 12 mX6_operatorOf 0 0 [.ref l0] (hp S) (q_i out) q_n := by
  refine am_of (by decide +kernel) rfl rfl rfl (Nat.le_of_ble_eq_true rfl) ?_
  unfold f_X6_operatorOf at hB
  refine ev_aload_n dX6_operatorOf_0 rfl ?_
  refine es_geti k_8 4 dX6_operatorOf_1 (by decide) rfl (Or.inr ⟨_, n_56⟩) hl0 rfl ?_
  by_cases q1 : (sg S l0 4) = 42
  · rw [if_pos q1] at hB
    refine ev_tableIn (off := 106) 110 dX6_operatorOf_4 (by rw [q1]; decide) (by rw [q1]; decide) (by rw [q1]; rfl) (by decide) ?_
    refine ev_bipush 8 dX6_operatorOf_110 (by decide) ?_
    obtain rfl := Option.some.inj hB
    exact ev_iret dX6_operatorOf_112 rfl (Nat.zero_le _) (Nat.zero_le _) (fun z => absurd z (hp_sealed _)) ⟨rfl, rfl⟩
  rw [if_neg q1] at hB
  have tq1 := am_nt (k := 42) q1 (by decide)
  by_cases q2 : (sg S l0 4) = 43
  · rw [if_pos q2] at hB
    refine ev_tableIn (off := 100) 104 dX6_operatorOf_4 (by rw [q2]; decide) (by rw [q2]; decide) (by rw [q2]; rfl) (by decide) ?_
    refine ev_bipush 6 dX6_operatorOf_104 (by decide) ?_
    obtain rfl := Option.some.inj hB
    exact ev_iret dX6_operatorOf_106 rfl (Nat.zero_le _) (Nat.zero_le _) (fun z => absurd z (hp_sealed _)) ⟨rfl, rfl⟩
  rw [if_neg q2] at hB
  have tq2 := am_nt (k := 43) q2 (by decide)
  by_cases q11 : (sg S l0 4) = 44
  · rw [if_pos q11] at hB
    refine ev_tableIn (off := 112) 116 dX6_operatorOf_4 (by rw [q11]; decide) (by rw [q11]; decide) (by rw [q11]; rfl) (by decide) ?_
    refine ev_aload_n dX6_operatorOf_116 rfl ?_
    refine ev_ldcS 17 dX6_operatorOf_117 rfl rfl ?_
    obtain ⟨r3, S4, e5, hB⟩ := bd_of hB
    refine es_callVi (As := [.float (UInt32.ofNat 17)]) (t_X8_isWord hl0 (by decide) e5) dX6_operatorOf_119 oX8_isWord w_989 rfl hl0 rfl rfl (Nat.le_of_ble_eq_true rfl) rfl (am_fit.of (by decide)) ⟨Nat.zero_le _, Nat.zero_le _⟩ ?_
    refine ev_ifeq 127 dX6_operatorOf_122 (by decide) (fun q6 => ?_) (fun q6 => ?_)
    · rw [if_pos q6] at hB
      refine ev_aload_n dX6_operatorOf_127 rfl ?_
      refine ev_ldcS 18 dX6_operatorOf_128 rfl rfl ?_
      obtain ⟨r7, S8, e9, hB⟩ := bd_of hB
      refine es_callVi (As := [.float (UInt32.ofNat 18)]) (t_X8_isWord hl0 (by decide) e9) dX6_operatorOf_130 oX8_isWord w_989 rfl hl0 rfl rfl (Nat.le_of_ble_eq_true rfl) rfl (am_fit.of (by decide)) ⟨Nat.zero_le _, Nat.zero_le _⟩ ?_
      refine ev_ifeq 140 dX6_operatorOf_133 (by decide) (fun q10 => ?_) (fun q10 => ?_)
      · rw [if_pos q10] at hB
        refine ev_iconst (-1) dX6_operatorOf_140 (by decide) ?_
        exact ev_ls (u_X6_operatorOf_141 (-1) S8 hB) trivial
      · rw [if_neg q10] at hB
        refine ev_iconst 2 dX6_operatorOf_136 (by decide) ?_
        refine ev_goto 141 dX6_operatorOf_137 (by decide) ?_
        exact ev_ls (u_X6_operatorOf_141 2 S8 hB) trivial
    · rw [if_neg q6] at hB
      refine ev_iconst 1 dX6_operatorOf_125 (by decide) ?_
      obtain rfl := Option.some.inj hB
      exact ev_iret dX6_operatorOf_126 rfl (Nat.zero_le _) (Nat.zero_le _) (fun z => absurd z (hp_sealed _)) ⟨rfl, rfl⟩
  rw [if_neg q11] at hB
  have tq11 := am_nt (k := 44) q11 (by decide)
  by_cases q12 : (sg S l0 4) = 45
  · rw [if_pos q12] at hB
    refine ev_tableIn (off := 103) 107 dX6_operatorOf_4 (by rw [q12]; decide) (by rw [q12]; decide) (by rw [q12]; rfl) (by decide) ?_
    refine ev_bipush 7 dX6_operatorOf_107 (by decide) ?_
    obtain rfl := Option.some.inj hB
    exact ev_iret dX6_operatorOf_109 rfl (Nat.zero_le _) (Nat.zero_le _) (fun z => absurd z (hp_sealed _)) ⟨rfl, rfl⟩
  rw [if_neg q12] at hB
  have tq12 := am_nt (k := 45) q12 (by decide)
  by_cases q21 : (sg S l0 4) = 46
  · rw [if_pos q21] at hB
    refine ev_tableIn (off := 112) 116 dX6_operatorOf_4 (by rw [q21]; decide) (by rw [q21]; decide) (by rw [q21]; rfl) (by decide) ?_
    refine ev_aload_n dX6_operatorOf_116 rfl ?_
    refine ev_ldcS 17 dX6_operatorOf_117 rfl rfl ?_
    obtain ⟨r13, S14, e15, hB⟩ := bd_of hB
    refine es_callVi (As := [.float (UInt32.ofNat 17)]) (t_X8_isWord hl0 (by decide) e15) dX6_operatorOf_119 oX8_isWord w_989 rfl hl0 rfl rfl (Nat.le_of_ble_eq_true rfl) rfl (am_fit.of (by decide)) ⟨Nat.zero_le _, Nat.zero_le _⟩ ?_
    refine ev_ifeq 127 dX6_operatorOf_122 (by decide) (fun q16 => ?_) (fun q16 => ?_)
    · rw [if_pos q16] at hB
      refine ev_aload_n dX6_operatorOf_127 rfl ?_
      refine ev_ldcS 18 dX6_operatorOf_128 rfl rfl ?_
      obtain ⟨r17, S18, e19, hB⟩ := bd_of hB
      refine es_callVi (As := [.float (UInt32.ofNat 18)]) (t_X8_isWord hl0 (by decide) e19) dX6_operatorOf_130 oX8_isWord w_989 rfl hl0 rfl rfl (Nat.le_of_ble_eq_true rfl) rfl (am_fit.of (by decide)) ⟨Nat.zero_le _, Nat.zero_le _⟩ ?_
      refine ev_ifeq 140 dX6_operatorOf_133 (by decide) (fun q20 => ?_) (fun q20 => ?_)
      · rw [if_pos q20] at hB
        refine ev_iconst (-1) dX6_operatorOf_140 (by decide) ?_
        exact ev_ls (u_X6_operatorOf_141 (-1) S18 hB) trivial
      · rw [if_neg q20] at hB
        refine ev_iconst 2 dX6_operatorOf_136 (by decide) ?_
        refine ev_goto 141 dX6_operatorOf_137 (by decide) ?_
        exact ev_ls (u_X6_operatorOf_141 2 S18 hB) trivial
    · rw [if_neg q16] at hB
      refine ev_iconst 1 dX6_operatorOf_125 (by decide) ?_
      obtain rfl := Option.some.inj hB
      exact ev_iret dX6_operatorOf_126 rfl (Nat.zero_le _) (Nat.zero_le _) (fun z => absurd z (hp_sealed _)) ⟨rfl, rfl⟩
  rw [if_neg q21] at hB
  have tq21 := am_nt (k := 46) q21 (by decide)
  by_cases q22 : (sg S l0 4) = 47
  · rw [if_pos q22] at hB
    refine ev_tableIn (off := 109) 113 dX6_operatorOf_4 (by rw [q22]; decide) (by rw [q22]; decide) (by rw [q22]; rfl) (by decide) ?_
    refine ev_bipush 9 dX6_operatorOf_113 (by decide) ?_
    obtain rfl := Option.some.inj hB
    exact ev_iret dX6_operatorOf_115 rfl (Nat.zero_le _) (Nat.zero_le _) (fun z => absurd z (hp_sealed _)) ⟨rfl, rfl⟩
  rw [if_neg q22] at hB
  have tq22 := am_nt (k := 47) q22 (by decide)
  by_cases q31 : (sg S l0 4) = 48
  · rw [if_pos q31] at hB
    refine ev_tableIn (off := 112) 116 dX6_operatorOf_4 (by rw [q31]; decide) (by rw [q31]; decide) (by rw [q31]; rfl) (by decide) ?_
    refine ev_aload_n dX6_operatorOf_116 rfl ?_
    refine ev_ldcS 17 dX6_operatorOf_117 rfl rfl ?_
    obtain ⟨r23, S24, e25, hB⟩ := bd_of hB
    refine es_callVi (As := [.float (UInt32.ofNat 17)]) (t_X8_isWord hl0 (by decide) e25) dX6_operatorOf_119 oX8_isWord w_989 rfl hl0 rfl rfl (Nat.le_of_ble_eq_true rfl) rfl (am_fit.of (by decide)) ⟨Nat.zero_le _, Nat.zero_le _⟩ ?_
    refine ev_ifeq 127 dX6_operatorOf_122 (by decide) (fun q26 => ?_) (fun q26 => ?_)
    · rw [if_pos q26] at hB
      refine ev_aload_n dX6_operatorOf_127 rfl ?_
      refine ev_ldcS 18 dX6_operatorOf_128 rfl rfl ?_
      obtain ⟨r27, S28, e29, hB⟩ := bd_of hB
      refine es_callVi (As := [.float (UInt32.ofNat 18)]) (t_X8_isWord hl0 (by decide) e29) dX6_operatorOf_130 oX8_isWord w_989 rfl hl0 rfl rfl (Nat.le_of_ble_eq_true rfl) rfl (am_fit.of (by decide)) ⟨Nat.zero_le _, Nat.zero_le _⟩ ?_
      refine ev_ifeq 140 dX6_operatorOf_133 (by decide) (fun q30 => ?_) (fun q30 => ?_)
      · rw [if_pos q30] at hB
        refine ev_iconst (-1) dX6_operatorOf_140 (by decide) ?_
        exact ev_ls (u_X6_operatorOf_141 (-1) S28 hB) trivial
      · rw [if_neg q30] at hB
        refine ev_iconst 2 dX6_operatorOf_136 (by decide) ?_
        refine ev_goto 141 dX6_operatorOf_137 (by decide) ?_
        exact ev_ls (u_X6_operatorOf_141 2 S28 hB) trivial
    · rw [if_neg q26] at hB
      refine ev_iconst 1 dX6_operatorOf_125 (by decide) ?_
      obtain rfl := Option.some.inj hB
      exact ev_iret dX6_operatorOf_126 rfl (Nat.zero_le _) (Nat.zero_le _) (fun z => absurd z (hp_sealed _)) ⟨rfl, rfl⟩
  rw [if_neg q31] at hB
  have tq31 := am_nt (k := 48) q31 (by decide)
  by_cases q40 : (sg S l0 4) = 49
  · rw [if_pos q40] at hB
    refine ev_tableIn (off := 112) 116 dX6_operatorOf_4 (by rw [q40]; decide) (by rw [q40]; decide) (by rw [q40]; rfl) (by decide) ?_
    refine ev_aload_n dX6_operatorOf_116 rfl ?_
    refine ev_ldcS 17 dX6_operatorOf_117 rfl rfl ?_
    obtain ⟨r32, S33, e34, hB⟩ := bd_of hB
    refine es_callVi (As := [.float (UInt32.ofNat 17)]) (t_X8_isWord hl0 (by decide) e34) dX6_operatorOf_119 oX8_isWord w_989 rfl hl0 rfl rfl (Nat.le_of_ble_eq_true rfl) rfl (am_fit.of (by decide)) ⟨Nat.zero_le _, Nat.zero_le _⟩ ?_
    refine ev_ifeq 127 dX6_operatorOf_122 (by decide) (fun q35 => ?_) (fun q35 => ?_)
    · rw [if_pos q35] at hB
      refine ev_aload_n dX6_operatorOf_127 rfl ?_
      refine ev_ldcS 18 dX6_operatorOf_128 rfl rfl ?_
      obtain ⟨r36, S37, e38, hB⟩ := bd_of hB
      refine es_callVi (As := [.float (UInt32.ofNat 18)]) (t_X8_isWord hl0 (by decide) e38) dX6_operatorOf_130 oX8_isWord w_989 rfl hl0 rfl rfl (Nat.le_of_ble_eq_true rfl) rfl (am_fit.of (by decide)) ⟨Nat.zero_le _, Nat.zero_le _⟩ ?_
      refine ev_ifeq 140 dX6_operatorOf_133 (by decide) (fun q39 => ?_) (fun q39 => ?_)
      · rw [if_pos q39] at hB
        refine ev_iconst (-1) dX6_operatorOf_140 (by decide) ?_
        exact ev_ls (u_X6_operatorOf_141 (-1) S37 hB) trivial
      · rw [if_neg q39] at hB
        refine ev_iconst 2 dX6_operatorOf_136 (by decide) ?_
        refine ev_goto 141 dX6_operatorOf_137 (by decide) ?_
        exact ev_ls (u_X6_operatorOf_141 2 S37 hB) trivial
    · rw [if_neg q35] at hB
      refine ev_iconst 1 dX6_operatorOf_125 (by decide) ?_
      obtain rfl := Option.some.inj hB
      exact ev_iret dX6_operatorOf_126 rfl (Nat.zero_le _) (Nat.zero_le _) (fun z => absurd z (hp_sealed _)) ⟨rfl, rfl⟩
  rw [if_neg q40] at hB
  have tq40 := am_nt (k := 49) q40 (by decide)
  by_cases q49 : (sg S l0 4) = 50
  · rw [if_pos q49] at hB
    refine ev_tableIn (off := 112) 116 dX6_operatorOf_4 (by rw [q49]; decide) (by rw [q49]; decide) (by rw [q49]; rfl) (by decide) ?_
    refine ev_aload_n dX6_operatorOf_116 rfl ?_
    refine ev_ldcS 17 dX6_operatorOf_117 rfl rfl ?_
    obtain ⟨r41, S42, e43, hB⟩ := bd_of hB
    refine es_callVi (As := [.float (UInt32.ofNat 17)]) (t_X8_isWord hl0 (by decide) e43) dX6_operatorOf_119 oX8_isWord w_989 rfl hl0 rfl rfl (Nat.le_of_ble_eq_true rfl) rfl (am_fit.of (by decide)) ⟨Nat.zero_le _, Nat.zero_le _⟩ ?_
    refine ev_ifeq 127 dX6_operatorOf_122 (by decide) (fun q44 => ?_) (fun q44 => ?_)
    · rw [if_pos q44] at hB
      refine ev_aload_n dX6_operatorOf_127 rfl ?_
      refine ev_ldcS 18 dX6_operatorOf_128 rfl rfl ?_
      obtain ⟨r45, S46, e47, hB⟩ := bd_of hB
      refine es_callVi (As := [.float (UInt32.ofNat 18)]) (t_X8_isWord hl0 (by decide) e47) dX6_operatorOf_130 oX8_isWord w_989 rfl hl0 rfl rfl (Nat.le_of_ble_eq_true rfl) rfl (am_fit.of (by decide)) ⟨Nat.zero_le _, Nat.zero_le _⟩ ?_
      refine ev_ifeq 140 dX6_operatorOf_133 (by decide) (fun q48 => ?_) (fun q48 => ?_)
      · rw [if_pos q48] at hB
        refine ev_iconst (-1) dX6_operatorOf_140 (by decide) ?_
        exact ev_ls (u_X6_operatorOf_141 (-1) S46 hB) trivial
      · rw [if_neg q48] at hB
        refine ev_iconst 2 dX6_operatorOf_136 (by decide) ?_
        refine ev_goto 141 dX6_operatorOf_137 (by decide) ?_
        exact ev_ls (u_X6_operatorOf_141 2 S46 hB) trivial
    · rw [if_neg q44] at hB
      refine ev_iconst 1 dX6_operatorOf_125 (by decide) ?_
      obtain rfl := Option.some.inj hB
      exact ev_iret dX6_operatorOf_126 rfl (Nat.zero_le _) (Nat.zero_le _) (fun z => absurd z (hp_sealed _)) ⟨rfl, rfl⟩
  rw [if_neg q49] at hB
  have tq49 := am_nt (k := 50) q49 (by decide)
  by_cases q58 : (sg S l0 4) = 51
  · rw [if_pos q58] at hB
    refine ev_tableIn (off := 112) 116 dX6_operatorOf_4 (by rw [q58]; decide) (by rw [q58]; decide) (by rw [q58]; rfl) (by decide) ?_
    refine ev_aload_n dX6_operatorOf_116 rfl ?_
    refine ev_ldcS 17 dX6_operatorOf_117 rfl rfl ?_
    obtain ⟨r50, S51, e52, hB⟩ := bd_of hB
    refine es_callVi (As := [.float (UInt32.ofNat 17)]) (t_X8_isWord hl0 (by decide) e52) dX6_operatorOf_119 oX8_isWord w_989 rfl hl0 rfl rfl (Nat.le_of_ble_eq_true rfl) rfl (am_fit.of (by decide)) ⟨Nat.zero_le _, Nat.zero_le _⟩ ?_
    refine ev_ifeq 127 dX6_operatorOf_122 (by decide) (fun q53 => ?_) (fun q53 => ?_)
    · rw [if_pos q53] at hB
      refine ev_aload_n dX6_operatorOf_127 rfl ?_
      refine ev_ldcS 18 dX6_operatorOf_128 rfl rfl ?_
      obtain ⟨r54, S55, e56, hB⟩ := bd_of hB
      refine es_callVi (As := [.float (UInt32.ofNat 18)]) (t_X8_isWord hl0 (by decide) e56) dX6_operatorOf_130 oX8_isWord w_989 rfl hl0 rfl rfl (Nat.le_of_ble_eq_true rfl) rfl (am_fit.of (by decide)) ⟨Nat.zero_le _, Nat.zero_le _⟩ ?_
      refine ev_ifeq 140 dX6_operatorOf_133 (by decide) (fun q57 => ?_) (fun q57 => ?_)
      · rw [if_pos q57] at hB
        refine ev_iconst (-1) dX6_operatorOf_140 (by decide) ?_
        exact ev_ls (u_X6_operatorOf_141 (-1) S55 hB) trivial
      · rw [if_neg q57] at hB
        refine ev_iconst 2 dX6_operatorOf_136 (by decide) ?_
        refine ev_goto 141 dX6_operatorOf_137 (by decide) ?_
        exact ev_ls (u_X6_operatorOf_141 2 S55 hB) trivial
    · rw [if_neg q53] at hB
      refine ev_iconst 1 dX6_operatorOf_125 (by decide) ?_
      obtain rfl := Option.some.inj hB
      exact ev_iret dX6_operatorOf_126 rfl (Nat.zero_le _) (Nat.zero_le _) (fun z => absurd z (hp_sealed _)) ⟨rfl, rfl⟩
  rw [if_neg q58] at hB
  have tq58 := am_nt (k := 51) q58 (by decide)
  by_cases q67 : (sg S l0 4) = 52
  · rw [if_pos q67] at hB
    refine ev_tableIn (off := 112) 116 dX6_operatorOf_4 (by rw [q67]; decide) (by rw [q67]; decide) (by rw [q67]; rfl) (by decide) ?_
    refine ev_aload_n dX6_operatorOf_116 rfl ?_
    refine ev_ldcS 17 dX6_operatorOf_117 rfl rfl ?_
    obtain ⟨r59, S60, e61, hB⟩ := bd_of hB
    refine es_callVi (As := [.float (UInt32.ofNat 17)]) (t_X8_isWord hl0 (by decide) e61) dX6_operatorOf_119 oX8_isWord w_989 rfl hl0 rfl rfl (Nat.le_of_ble_eq_true rfl) rfl (am_fit.of (by decide)) ⟨Nat.zero_le _, Nat.zero_le _⟩ ?_
    refine ev_ifeq 127 dX6_operatorOf_122 (by decide) (fun q62 => ?_) (fun q62 => ?_)
    · rw [if_pos q62] at hB
      refine ev_aload_n dX6_operatorOf_127 rfl ?_
      refine ev_ldcS 18 dX6_operatorOf_128 rfl rfl ?_
      obtain ⟨r63, S64, e65, hB⟩ := bd_of hB
      refine es_callVi (As := [.float (UInt32.ofNat 18)]) (t_X8_isWord hl0 (by decide) e65) dX6_operatorOf_130 oX8_isWord w_989 rfl hl0 rfl rfl (Nat.le_of_ble_eq_true rfl) rfl (am_fit.of (by decide)) ⟨Nat.zero_le _, Nat.zero_le _⟩ ?_
      refine ev_ifeq 140 dX6_operatorOf_133 (by decide) (fun q66 => ?_) (fun q66 => ?_)
      · rw [if_pos q66] at hB
        refine ev_iconst (-1) dX6_operatorOf_140 (by decide) ?_
        exact ev_ls (u_X6_operatorOf_141 (-1) S64 hB) trivial
      · rw [if_neg q66] at hB
        refine ev_iconst 2 dX6_operatorOf_136 (by decide) ?_
        refine ev_goto 141 dX6_operatorOf_137 (by decide) ?_
        exact ev_ls (u_X6_operatorOf_141 2 S64 hB) trivial
    · rw [if_neg q62] at hB
      refine ev_iconst 1 dX6_operatorOf_125 (by decide) ?_
      obtain rfl := Option.some.inj hB
      exact ev_iret dX6_operatorOf_126 rfl (Nat.zero_le _) (Nat.zero_le _) (fun z => absurd z (hp_sealed _)) ⟨rfl, rfl⟩
  rw [if_neg q67] at hB
  have tq67 := am_nt (k := 52) q67 (by decide)
  by_cases q76 : (sg S l0 4) = 53
  · rw [if_pos q76] at hB
    refine ev_tableIn (off := 112) 116 dX6_operatorOf_4 (by rw [q76]; decide) (by rw [q76]; decide) (by rw [q76]; rfl) (by decide) ?_
    refine ev_aload_n dX6_operatorOf_116 rfl ?_
    refine ev_ldcS 17 dX6_operatorOf_117 rfl rfl ?_
    obtain ⟨r68, S69, e70, hB⟩ := bd_of hB
    refine es_callVi (As := [.float (UInt32.ofNat 17)]) (t_X8_isWord hl0 (by decide) e70) dX6_operatorOf_119 oX8_isWord w_989 rfl hl0 rfl rfl (Nat.le_of_ble_eq_true rfl) rfl (am_fit.of (by decide)) ⟨Nat.zero_le _, Nat.zero_le _⟩ ?_
    refine ev_ifeq 127 dX6_operatorOf_122 (by decide) (fun q71 => ?_) (fun q71 => ?_)
    · rw [if_pos q71] at hB
      refine ev_aload_n dX6_operatorOf_127 rfl ?_
      refine ev_ldcS 18 dX6_operatorOf_128 rfl rfl ?_
      obtain ⟨r72, S73, e74, hB⟩ := bd_of hB
      refine es_callVi (As := [.float (UInt32.ofNat 18)]) (t_X8_isWord hl0 (by decide) e74) dX6_operatorOf_130 oX8_isWord w_989 rfl hl0 rfl rfl (Nat.le_of_ble_eq_true rfl) rfl (am_fit.of (by decide)) ⟨Nat.zero_le _, Nat.zero_le _⟩ ?_
      refine ev_ifeq 140 dX6_operatorOf_133 (by decide) (fun q75 => ?_) (fun q75 => ?_)
      · rw [if_pos q75] at hB
        refine ev_iconst (-1) dX6_operatorOf_140 (by decide) ?_
        exact ev_ls (u_X6_operatorOf_141 (-1) S73 hB) trivial
      · rw [if_neg q75] at hB
        refine ev_iconst 2 dX6_operatorOf_136 (by decide) ?_
        refine ev_goto 141 dX6_operatorOf_137 (by decide) ?_
        exact ev_ls (u_X6_operatorOf_141 2 S73 hB) trivial
    · rw [if_neg q71] at hB
      refine ev_iconst 1 dX6_operatorOf_125 (by decide) ?_
      obtain rfl := Option.some.inj hB
      exact ev_iret dX6_operatorOf_126 rfl (Nat.zero_le _) (Nat.zero_le _) (fun z => absurd z (hp_sealed _)) ⟨rfl, rfl⟩
  rw [if_neg q76] at hB
  have tq76 := am_nt (k := 53) q76 (by decide)
  by_cases q85 : (sg S l0 4) = 54
  · rw [if_pos q85] at hB
    refine ev_tableIn (off := 112) 116 dX6_operatorOf_4 (by rw [q85]; decide) (by rw [q85]; decide) (by rw [q85]; rfl) (by decide) ?_
    refine ev_aload_n dX6_operatorOf_116 rfl ?_
    refine ev_ldcS 17 dX6_operatorOf_117 rfl rfl ?_
    obtain ⟨r77, S78, e79, hB⟩ := bd_of hB
    refine es_callVi (As := [.float (UInt32.ofNat 17)]) (t_X8_isWord hl0 (by decide) e79) dX6_operatorOf_119 oX8_isWord w_989 rfl hl0 rfl rfl (Nat.le_of_ble_eq_true rfl) rfl (am_fit.of (by decide)) ⟨Nat.zero_le _, Nat.zero_le _⟩ ?_
    refine ev_ifeq 127 dX6_operatorOf_122 (by decide) (fun q80 => ?_) (fun q80 => ?_)
    · rw [if_pos q80] at hB
      refine ev_aload_n dX6_operatorOf_127 rfl ?_
      refine ev_ldcS 18 dX6_operatorOf_128 rfl rfl ?_
      obtain ⟨r81, S82, e83, hB⟩ := bd_of hB
      refine es_callVi (As := [.float (UInt32.ofNat 18)]) (t_X8_isWord hl0 (by decide) e83) dX6_operatorOf_130 oX8_isWord w_989 rfl hl0 rfl rfl (Nat.le_of_ble_eq_true rfl) rfl (am_fit.of (by decide)) ⟨Nat.zero_le _, Nat.zero_le _⟩ ?_
      refine ev_ifeq 140 dX6_operatorOf_133 (by decide) (fun q84 => ?_) (fun q84 => ?_)
      · rw [if_pos q84] at hB
        refine ev_iconst (-1) dX6_operatorOf_140 (by decide) ?_
        exact ev_ls (u_X6_operatorOf_141 (-1) S82 hB) trivial
      · rw [if_neg q84] at hB
        refine ev_iconst 2 dX6_operatorOf_136 (by decide) ?_
        refine ev_goto 141 dX6_operatorOf_137 (by decide) ?_
        exact ev_ls (u_X6_operatorOf_141 2 S82 hB) trivial
    · rw [if_neg q80] at hB
      refine ev_iconst 1 dX6_operatorOf_125 (by decide) ?_
      obtain rfl := Option.some.inj hB
      exact ev_iret dX6_operatorOf_126 rfl (Nat.zero_le _) (Nat.zero_le _) (fun z => absurd z (hp_sealed _)) ⟨rfl, rfl⟩
  rw [if_neg q85] at hB
  have tq85 := am_nt (k := 54) q85 (by decide)
  by_cases q94 : (sg S l0 4) = 55
  · rw [if_pos q94] at hB
    refine ev_tableIn (off := 112) 116 dX6_operatorOf_4 (by rw [q94]; decide) (by rw [q94]; decide) (by rw [q94]; rfl) (by decide) ?_
    refine ev_aload_n dX6_operatorOf_116 rfl ?_
    refine ev_ldcS 17 dX6_operatorOf_117 rfl rfl ?_
    obtain ⟨r86, S87, e88, hB⟩ := bd_of hB
    refine es_callVi (As := [.float (UInt32.ofNat 17)]) (t_X8_isWord hl0 (by decide) e88) dX6_operatorOf_119 oX8_isWord w_989 rfl hl0 rfl rfl (Nat.le_of_ble_eq_true rfl) rfl (am_fit.of (by decide)) ⟨Nat.zero_le _, Nat.zero_le _⟩ ?_
    refine ev_ifeq 127 dX6_operatorOf_122 (by decide) (fun q89 => ?_) (fun q89 => ?_)
    · rw [if_pos q89] at hB
      refine ev_aload_n dX6_operatorOf_127 rfl ?_
      refine ev_ldcS 18 dX6_operatorOf_128 rfl rfl ?_
      obtain ⟨r90, S91, e92, hB⟩ := bd_of hB
      refine es_callVi (As := [.float (UInt32.ofNat 18)]) (t_X8_isWord hl0 (by decide) e92) dX6_operatorOf_130 oX8_isWord w_989 rfl hl0 rfl rfl (Nat.le_of_ble_eq_true rfl) rfl (am_fit.of (by decide)) ⟨Nat.zero_le _, Nat.zero_le _⟩ ?_
      refine ev_ifeq 140 dX6_operatorOf_133 (by decide) (fun q93 => ?_) (fun q93 => ?_)
      · rw [if_pos q93] at hB
        refine ev_iconst (-1) dX6_operatorOf_140 (by decide) ?_
        exact ev_ls (u_X6_operatorOf_141 (-1) S91 hB) trivial
      · rw [if_neg q93] at hB
        refine ev_iconst 2 dX6_operatorOf_136 (by decide) ?_
        refine ev_goto 141 dX6_operatorOf_137 (by decide) ?_
        exact ev_ls (u_X6_operatorOf_141 2 S91 hB) trivial
    · rw [if_neg q89] at hB
      refine ev_iconst 1 dX6_operatorOf_125 (by decide) ?_
      obtain rfl := Option.some.inj hB
      exact ev_iret dX6_operatorOf_126 rfl (Nat.zero_le _) (Nat.zero_le _) (fun z => absurd z (hp_sealed _)) ⟨rfl, rfl⟩
  rw [if_neg q94] at hB
  have tq94 := am_nt (k := 55) q94 (by decide)
  by_cases q103 : (sg S l0 4) = 56
  · rw [if_pos q103] at hB
    refine ev_tableIn (off := 112) 116 dX6_operatorOf_4 (by rw [q103]; decide) (by rw [q103]; decide) (by rw [q103]; rfl) (by decide) ?_
    refine ev_aload_n dX6_operatorOf_116 rfl ?_
    refine ev_ldcS 17 dX6_operatorOf_117 rfl rfl ?_
    obtain ⟨r95, S96, e97, hB⟩ := bd_of hB
    refine es_callVi (As := [.float (UInt32.ofNat 17)]) (t_X8_isWord hl0 (by decide) e97) dX6_operatorOf_119 oX8_isWord w_989 rfl hl0 rfl rfl (Nat.le_of_ble_eq_true rfl) rfl (am_fit.of (by decide)) ⟨Nat.zero_le _, Nat.zero_le _⟩ ?_
    refine ev_ifeq 127 dX6_operatorOf_122 (by decide) (fun q98 => ?_) (fun q98 => ?_)
    · rw [if_pos q98] at hB
      refine ev_aload_n dX6_operatorOf_127 rfl ?_
      refine ev_ldcS 18 dX6_operatorOf_128 rfl rfl ?_
      obtain ⟨r99, S100, e101, hB⟩ := bd_of hB
      refine es_callVi (As := [.float (UInt32.ofNat 18)]) (t_X8_isWord hl0 (by decide) e101) dX6_operatorOf_130 oX8_isWord w_989 rfl hl0 rfl rfl (Nat.le_of_ble_eq_true rfl) rfl (am_fit.of (by decide)) ⟨Nat.zero_le _, Nat.zero_le _⟩ ?_
      refine ev_ifeq 140 dX6_operatorOf_133 (by decide) (fun q102 => ?_) (fun q102 => ?_)
      · rw [if_pos q102] at hB
        refine ev_iconst (-1) dX6_operatorOf_140 (by decide) ?_
        exact ev_ls (u_X6_operatorOf_141 (-1) S100 hB) trivial
      · rw [if_neg q102] at hB
        refine ev_iconst 2 dX6_operatorOf_136 (by decide) ?_
        refine ev_goto 141 dX6_operatorOf_137 (by decide) ?_
        exact ev_ls (u_X6_operatorOf_141 2 S100 hB) trivial
    · rw [if_neg q98] at hB
      refine ev_iconst 1 dX6_operatorOf_125 (by decide) ?_
      obtain rfl := Option.some.inj hB
      exact ev_iret dX6_operatorOf_126 rfl (Nat.zero_le _) (Nat.zero_le _) (fun z => absurd z (hp_sealed _)) ⟨rfl, rfl⟩
  rw [if_neg q103] at hB
  have tq103 := am_nt (k := 56) q103 (by decide)
  by_cases q112 : (sg S l0 4) = 57
  · rw [if_pos q112] at hB
    refine ev_tableIn (off := 112) 116 dX6_operatorOf_4 (by rw [q112]; decide) (by rw [q112]; decide) (by rw [q112]; rfl) (by decide) ?_
    refine ev_aload_n dX6_operatorOf_116 rfl ?_
    refine ev_ldcS 17 dX6_operatorOf_117 rfl rfl ?_
    obtain ⟨r104, S105, e106, hB⟩ := bd_of hB
    refine es_callVi (As := [.float (UInt32.ofNat 17)]) (t_X8_isWord hl0 (by decide) e106) dX6_operatorOf_119 oX8_isWord w_989 rfl hl0 rfl rfl (Nat.le_of_ble_eq_true rfl) rfl (am_fit.of (by decide)) ⟨Nat.zero_le _, Nat.zero_le _⟩ ?_
    refine ev_ifeq 127 dX6_operatorOf_122 (by decide) (fun q107 => ?_) (fun q107 => ?_)
    · rw [if_pos q107] at hB
      refine ev_aload_n dX6_operatorOf_127 rfl ?_
      refine ev_ldcS 18 dX6_operatorOf_128 rfl rfl ?_
      obtain ⟨r108, S109, e110, hB⟩ := bd_of hB
      refine es_callVi (As := [.float (UInt32.ofNat 18)]) (t_X8_isWord hl0 (by decide) e110) dX6_operatorOf_130 oX8_isWord w_989 rfl hl0 rfl rfl (Nat.le_of_ble_eq_true rfl) rfl (am_fit.of (by decide)) ⟨Nat.zero_le _, Nat.zero_le _⟩ ?_
      refine ev_ifeq 140 dX6_operatorOf_133 (by decide) (fun q111 => ?_) (fun q111 => ?_)
      · rw [if_pos q111] at hB
        refine ev_iconst (-1) dX6_operatorOf_140 (by decide) ?_
        exact ev_ls (u_X6_operatorOf_141 (-1) S109 hB) trivial
      · rw [if_neg q111] at hB
        refine ev_iconst 2 dX6_operatorOf_136 (by decide) ?_
        refine ev_goto 141 dX6_operatorOf_137 (by decide) ?_
        exact ev_ls (u_X6_operatorOf_141 2 S109 hB) trivial
    · rw [if_neg q107] at hB
      refine ev_iconst 1 dX6_operatorOf_125 (by decide) ?_
      obtain rfl := Option.some.inj hB
      exact ev_iret dX6_operatorOf_126 rfl (Nat.zero_le _) (Nat.zero_le _) (fun z => absurd z (hp_sealed _)) ⟨rfl, rfl⟩
  rw [if_neg q112] at hB
  have tq112 := am_nt (k := 57) q112 (by decide)
  by_cases q121 : (sg S l0 4) = 58
  · rw [if_pos q121] at hB
    refine ev_tableIn (off := 112) 116 dX6_operatorOf_4 (by rw [q121]; decide) (by rw [q121]; decide) (by rw [q121]; rfl) (by decide) ?_
    refine ev_aload_n dX6_operatorOf_116 rfl ?_
    refine ev_ldcS 17 dX6_operatorOf_117 rfl rfl ?_
    obtain ⟨r113, S114, e115, hB⟩ := bd_of hB
    refine es_callVi (As := [.float (UInt32.ofNat 17)]) (t_X8_isWord hl0 (by decide) e115) dX6_operatorOf_119 oX8_isWord w_989 rfl hl0 rfl rfl (Nat.le_of_ble_eq_true rfl) rfl (am_fit.of (by decide)) ⟨Nat.zero_le _, Nat.zero_le _⟩ ?_
    refine ev_ifeq 127 dX6_operatorOf_122 (by decide) (fun q116 => ?_) (fun q116 => ?_)
    · rw [if_pos q116] at hB
      refine ev_aload_n dX6_operatorOf_127 rfl ?_
      refine ev_ldcS 18 dX6_operatorOf_128 rfl rfl ?_
      obtain ⟨r117, S118, e119, hB⟩ := bd_of hB
      refine es_callVi (As := [.float (UInt32.ofNat 18)]) (t_X8_isWord hl0 (by decide) e119) dX6_operatorOf_130 oX8_isWord w_989 rfl hl0 rfl rfl (Nat.le_of_ble_eq_true rfl) rfl (am_fit.of (by decide)) ⟨Nat.zero_le _, Nat.zero_le _⟩ ?_
      refine ev_ifeq 140 dX6_operatorOf_133 (by decide) (fun q120 => ?_) (fun q120 => ?_)
      · rw [if_pos q120] at hB
        refine ev_iconst (-1) dX6_operatorOf_140 (by decide) ?_
        exact ev_ls (u_X6_operatorOf_141 (-1) S118 hB) trivial
      · rw [if_neg q120] at hB
        refine ev_iconst 2 dX6_operatorOf_136 (by decide) ?_
        refine ev_goto 141 dX6_operatorOf_137 (by decide) ?_
        exact ev_ls (u_X6_operatorOf_141 2 S118 hB) trivial
    · rw [if_neg q116] at hB
      refine ev_iconst 1 dX6_operatorOf_125 (by decide) ?_
      obtain rfl := Option.some.inj hB
      exact ev_iret dX6_operatorOf_126 rfl (Nat.zero_le _) (Nat.zero_le _) (fun z => absurd z (hp_sealed _)) ⟨rfl, rfl⟩
  rw [if_neg q121] at hB
  have tq121 := am_nt (k := 58) q121 (by decide)
  by_cases q130 : (sg S l0 4) = 59
  · rw [if_pos q130] at hB
    refine ev_tableIn (off := 112) 116 dX6_operatorOf_4 (by rw [q130]; decide) (by rw [q130]; decide) (by rw [q130]; rfl) (by decide) ?_
    refine ev_aload_n dX6_operatorOf_116 rfl ?_
    refine ev_ldcS 17 dX6_operatorOf_117 rfl rfl ?_
    obtain ⟨r122, S123, e124, hB⟩ := bd_of hB
    refine es_callVi (As := [.float (UInt32.ofNat 17)]) (t_X8_isWord hl0 (by decide) e124) dX6_operatorOf_119 oX8_isWord w_989 rfl hl0 rfl rfl (Nat.le_of_ble_eq_true rfl) rfl (am_fit.of (by decide)) ⟨Nat.zero_le _, Nat.zero_le _⟩ ?_
    refine ev_ifeq 127 dX6_operatorOf_122 (by decide) (fun q125 => ?_) (fun q125 => ?_)
    · rw [if_pos q125] at hB
      refine ev_aload_n dX6_operatorOf_127 rfl ?_
      refine ev_ldcS 18 dX6_operatorOf_128 rfl rfl ?_
      obtain ⟨r126, S127, e128, hB⟩ := bd_of hB
      refine es_callVi (As := [.float (UInt32.ofNat 18)]) (t_X8_isWord hl0 (by decide) e128) dX6_operatorOf_130 oX8_isWord w_989 rfl hl0 rfl rfl (Nat.le_of_ble_eq_true rfl) rfl (am_fit.of (by decide)) ⟨Nat.zero_le _, Nat.zero_le _⟩ ?_
      refine ev_ifeq 140 dX6_operatorOf_133 (by decide) (fun q129 => ?_) (fun q129 => ?_)
      · rw [if_pos q129] at hB
        refine ev_iconst (-1) dX6_operatorOf_140 (by decide) ?_
        exact ev_ls (u_X6_operatorOf_141 (-1) S127 hB) trivial
      · rw [if_neg q129] at hB
        refine ev_iconst 2 dX6_operatorOf_136 (by decide) ?_
        refine ev_goto 141 dX6_operatorOf_137 (by decide) ?_
        exact ev_ls (u_X6_operatorOf_141 2 S127 hB) trivial
    · rw [if_neg q125] at hB
      refine ev_iconst 1 dX6_operatorOf_125 (by decide) ?_
      obtain rfl := Option.some.inj hB
      exact ev_iret dX6_operatorOf_126 rfl (Nat.zero_le _) (Nat.zero_le _) (fun z => absurd z (hp_sealed _)) ⟨rfl, rfl⟩
  rw [if_neg q130] at hB
  have tq130 := am_nt (k := 59) q130 (by decide)
  by_cases q131 : (sg S l0 4) = 60
  · rw [if_pos q131] at hB
    refine ev_tableIn (off := 96) 100 dX6_operatorOf_4 (by rw [q131]; decide) (by rw [q131]; decide) (by rw [q131]; rfl) (by decide) ?_
    refine ev_iconst 4 dX6_operatorOf_100 (by decide) ?_
    obtain rfl := Option.some.inj hB
    exact ev_iret dX6_operatorOf_101 rfl (Nat.zero_le _) (Nat.zero_le _) (fun z => absurd z (hp_sealed _)) ⟨rfl, rfl⟩
  rw [if_neg q131] at hB
  have tq131 := am_nt (k := 60) q131 (by decide)
  by_cases q132 : (sg S l0 4) = 61
  · rw [if_pos q132] at hB
    refine ev_tableIn (off := 98) 102 dX6_operatorOf_4 (by rw [q132]; decide) (by rw [q132]; decide) (by rw [q132]; rfl) (by decide) ?_
    refine ev_iconst 5 dX6_operatorOf_102 (by decide) ?_
    obtain rfl := Option.some.inj hB
    exact ev_iret dX6_operatorOf_103 rfl (Nat.zero_le _) (Nat.zero_le _) (fun z => absurd z (hp_sealed _)) ⟨rfl, rfl⟩
  rw [if_neg q132] at hB
  have tq132 := am_nt (k := 61) q132 (by decide)
  refine ev_tableOut 116 dX6_operatorOf_4 (by omega) (by decide) ?_
  refine ev_aload_n dX6_operatorOf_116 rfl ?_
  refine ev_ldcS 17 dX6_operatorOf_117 rfl rfl ?_
  obtain ⟨r133, S134, e135, hB⟩ := bd_of hB
  refine es_callVi (As := [.float (UInt32.ofNat 17)]) (t_X8_isWord hl0 (by decide) e135) dX6_operatorOf_119 oX8_isWord w_989 rfl hl0 rfl rfl (Nat.le_of_ble_eq_true rfl) rfl (am_fit.of (by decide)) ⟨Nat.zero_le _, Nat.zero_le _⟩ ?_
  refine ev_ifeq 127 dX6_operatorOf_122 (by decide) (fun q136 => ?_) (fun q136 => ?_)
  · rw [if_pos q136] at hB
    refine ev_aload_n dX6_operatorOf_127 rfl ?_
    refine ev_ldcS 18 dX6_operatorOf_128 rfl rfl ?_
    obtain ⟨r137, S138, e139, hB⟩ := bd_of hB
    refine es_callVi (As := [.float (UInt32.ofNat 18)]) (t_X8_isWord hl0 (by decide) e139) dX6_operatorOf_130 oX8_isWord w_989 rfl hl0 rfl rfl (Nat.le_of_ble_eq_true rfl) rfl (am_fit.of (by decide)) ⟨Nat.zero_le _, Nat.zero_le _⟩ ?_
    refine ev_ifeq 140 dX6_operatorOf_133 (by decide) (fun q140 => ?_) (fun q140 => ?_)
    · rw [if_pos q140] at hB
      refine ev_iconst (-1) dX6_operatorOf_140 (by decide) ?_
      exact ev_ls (u_X6_operatorOf_141 (-1) S138 hB) trivial
    · rw [if_neg q140] at hB
      refine ev_iconst 2 dX6_operatorOf_136 (by decide) ?_
      refine ev_goto 141 dX6_operatorOf_137 (by decide) ?_
      exact ev_ls (u_X6_operatorOf_141 2 S138 hB) trivial
  · rw [if_neg q136] at hB
    refine ev_iconst 1 dX6_operatorOf_125 (by decide) ?_
    obtain rfl := Option.some.inj hB
    exact ev_iret dX6_operatorOf_126 rfl (Nat.zero_le _) (Nat.zero_le _) (fun z => absurd z (hp_sealed _)) ⟨rfl, rfl⟩
def b_X6_release_60 (N : Nat)  (S : am_S) : Option (am_S) := some S
def b_X6_release_0 (N : Nat) : Nat → Nat → Nat → Int32 → am_S → Option (am_S)
  | 0, _, _, _, _ => none
  | n + 1, l0, l1, l2, S => (if (sg S l0 1) ≤ 0 then b_X6_release_60 N S else (if inb ((sg S l0 1) - 1) (ln (rf l0 0)) = true then (if inb (sg S (rf l0 0) (Int32.toNatClampNeg ((sg S l0 1) - 1))) 10 = true then (if inb l2 10 = true then (if (am_rank.getD (Int32.toNatClampNeg (sg S (rf l0 0) (Int32.toNatClampNeg ((sg S l0 1) - 1)))) 0) < (am_rank.getD (Int32.toNatClampNeg l2) 0) then b_X6_release_60 N S else (if inb (sg (sp S l0 1 ((sg S l0 1) - 1)) l0 1) (ln (rf l0 0)) = true then (bv (f_X5_addStep N l1 (20000 + (sg (sp S l0 1 ((sg S l0 1) - 1)) (rf l0 0) (Int32.toNatClampNeg (sg (sp S l0 1 ((sg S l0 1) - 1)) l0 1)))) (sp S l0 1 ((sg S l0 1) - 1))) (fun S8 => b_X6_release_0 N n l0 l1 l2 S8)) else none)) else none) else none) else none))
def f_X6_release (N : Nat) (l0 : Nat) (l1 : Nat) (l2 : Int32) (S : am_S) : Option (am_S) := b_X6_release_0 N N l0 l1 l2 S
theorem u_X6_release_60 {G : am_G} {N : Nat} {h0 : am_H} {out : am_S}  (S : am_S) (hB : b_X6_release_60 N  S = some out) : Ev G (am_R 2 0 0) (am_Φ G h0 0 0 (q_v out) q_n) mX6_release 0 0 60 [none, none, none] [] (hp S) := by
  unfold b_X6_release_60 at hB
  obtain rfl := Option.some.inj hB
  exact ev_vret dX6_release_60 rfl (Nat.zero_le _) (Nat.zero_le _) (fun z => absurd z (hp_sealed _)) ⟨rfl, rfl⟩
theorem u_X6_release_0 {G : am_G} {N : Nat} {h0 : am_H} {out : am_S} : ∀ (n : Nat) (l0 : Nat) (l1 : Nat) (l2 : Int32) (S : am_S), isC 6 l0 = true → isC 5 l1 = true → b_X6_release_0 N n l0 l1 l2 S = some out → Ev G (am_R 2 0 0) (am_Φ G h0 0 0 (q_v out) q_n) mX6_release 0 0 0 [some (.ref l0), some (.ref l1), some (.int l2)] [] (hp S) := by
  intro n
  induction n with
  | zero =>
    intro l0 l1 l2 S hl0 hl1 hB
    exact absurd (show none = some out from hB) (fun q => by cases q)
  | succ n ih =>
    intro l0 l1 l2 S hl0 hl1 hB
    unfold b_X6_release_0 at hB
    refine ev_aload_n dX6_release_0 rfl ?_
    refine es_geti k_6 1 dX6_release_1 (by decide) rfl (Or.inl w_85) hl0 rfl ?_
    refine ev_ifle 60 dX6_release_4 (by decide) (fun q1 => ?_) (fun q1 => ?_)
    · rw [if_pos q1] at hB
      exact ev_ls (u_X6_release_60 S hB) trivial
    · rw [if_neg q1] at hB
      refine ev_rank dX6_release_7 w_1026 ?_
      refine ev_aload_n dX6_release_10 rfl ?_
      refine es_getr k_6 0 dX6_release_11 (by decide) rfl (Or.inl w_84) hl0 rfl ?_
      refine ev_aload_n dX6_release_14 rfl ?_
      refine es_geti k_6 1 dX6_release_15 (by decide) rfl (Or.inl w_85) hl0 rfl ?_
      refine ev_iconst 1 dX6_release_18 (by decide) ?_
      refine ev_isub dX6_release_19 ?_
      obtain ⟨c2, hB⟩ := ck_of hB
      refine es_iald dX6_release_20 (tr_6_0 hl0) c2 ?_
      obtain ⟨c3, hB⟩ := ck_of hB
      refine ev_faload dX6_release_21 (inb_in c3) ?_
      refine ev_rank dX6_release_22 w_1026 ?_
      refine ev_iload_n dX6_release_25 rfl ?_
      obtain ⟨c4, hB⟩ := ck_of hB
      refine ev_faload dX6_release_26 (inb_in c4) ?_
      refine ev_icmplt 60 dX6_release_27 (by decide) (fun q5 => ?_) (fun q5 => ?_)
      · rw [if_pos q5] at hB
        exact ev_ls (u_X6_release_60 S hB) trivial
      · rw [if_neg q5] at hB
        refine ev_aload_n dX6_release_30 rfl ?_
        refine ev_dup dX6_release_31 rfl ?_
        refine es_geti k_6 1 dX6_release_32 (by decide) rfl (Or.inl w_85) hl0 rfl ?_
        refine ev_iconst 1 dX6_release_35 (by decide) ?_
        refine ev_isub dX6_release_36 ?_
        refine es_puti k_6 1 dX6_release_37 (by decide) rfl (Or.inl w_85) rfl rfl hl0 rfl ?_
        refine ev_aload_n dX6_release_40 rfl ?_
        refine ev_sipush 20000 dX6_release_41 (by decide) ?_
        refine ev_aload_n dX6_release_44 rfl ?_
        refine es_getr k_6 0 dX6_release_45 (by decide) rfl (Or.inl w_84) hl0 rfl ?_
        refine ev_aload_n dX6_release_48 rfl ?_
        refine es_geti k_6 1 dX6_release_49 (by decide) rfl (Or.inl w_85) hl0 rfl ?_
        obtain ⟨c6, hB⟩ := ck_of hB
        refine es_iald dX6_release_52 (tr_6_0 hl0) c6 ?_
        refine ev_iadd dX6_release_53 ?_
        obtain ⟨S8, e9, hB⟩ := bv_of hB
        refine es_callVv (As := [.int (20000 + (sg (sp S l0 1 ((sg S l0 1) - 1)) (rf l0 0) (Int32.toNatClampNeg (sg (sp S l0 1 ((sg S l0 1) - 1)) l0 1))))]) (t_X5_addStep hl1 e9) dX6_release_54 oX5_addStep w_984 rfl hl1 rfl rfl (Nat.le_of_ble_eq_true rfl) rfl (am_fit.of (by decide)) ⟨Nat.zero_le _, Nat.zero_le _⟩ ?_
        refine ev_goto 0 dX6_release_57 (by decide) ?_
        exact ev_ls (ih l0 l1 l2 S8 hl0 hl1 hB) (And.intro rfl (And.intro rfl (And.intro rfl trivial)))
theorem t_X6_release {G : am_G} {N : Nat} {l0 : Nat} {l1 : Nat} {l2 : Int32} {S : am_S} {out : am_S} (hl0 : isC 6 l0 = true) (hl1 : isC 5 l1 = true) (hB : f_X6_release N l0 l1 l2 S = some out) : am_Met G 2 mX6_release 0 0 [.ref l0, .ref l1, .int l2] (hp S) (q_v out) q_n := by
  refine am_of (by decide +kernel) rfl rfl rfl (Nat.le_of_ble_eq_true rfl) ?_
  unfold f_X6_release at hB
  exact ev_ls (u_X6_release_0 N l0 l1 l2 S hl0 hl1 hB) (And.intro rfl (And.intro rfl (And.intro rfl trivial)))
def b_X6_pop_17 (N : Nat)  (S : am_S) : Option (am_S) := some S
def f_X6_pop (N : Nat) (l0 : Nat) (S : am_S) : Option (am_S) := (if (sg S l0 1) ≤ 0 then b_X6_pop_17 N S else b_X6_pop_17 N (sp S l0 1 ((sg S l0 1) - 1)))
theorem u_X6_pop_17 {G : am_G} {N : Nat} {h0 : am_H} {out : am_S}  (S : am_S) (hB : b_X6_pop_17 N  S = some out) : Ev G (am_R 1 0 0) (am_Φ G h0 0 0 (q_v out) q_n) mX6_pop 0 0 17 [none] [] (hp S) := by
  unfold b_X6_pop_17 at hB
  obtain rfl := Option.some.inj hB
  exact ev_vret dX6_pop_17 rfl (Nat.zero_le _) (Nat.zero_le _) (fun z => absurd z (hp_sealed _)) ⟨rfl, rfl⟩
theorem t_X6_pop {G : am_G} {N : Nat} {l0 : Nat} {S : am_S} {out : am_S} (hl0 : isC 6 l0 = true) (hB : f_X6_pop N l0 S = some out) : am_Met G 1 mX6_pop 0 0 [.ref l0] (hp S) (q_v out) q_n := by
  refine am_of (by decide +kernel) rfl rfl rfl (Nat.le_of_ble_eq_true rfl) ?_
  unfold f_X6_pop at hB
  refine ev_aload_n dX6_pop_0 rfl ?_
  refine es_geti k_6 1 dX6_pop_1 (by decide) rfl (Or.inl w_85) hl0 rfl ?_
  refine ev_ifle 17 dX6_pop_4 (by decide) (fun q1 => ?_) (fun q1 => ?_)
  · rw [if_pos q1] at hB
    exact ev_ls (u_X6_pop_17 S hB) trivial
  · rw [if_neg q1] at hB
    refine ev_aload_n dX6_pop_7 rfl ?_
    refine ev_dup dX6_pop_8 rfl ?_
    refine es_geti k_6 1 dX6_pop_9 (by decide) rfl (Or.inl w_85) hl0 rfl ?_
    refine ev_iconst 1 dX6_pop_12 (by decide) ?_
    refine ev_isub dX6_pop_13 ?_
    refine es_puti k_6 1 dX6_pop_14 (by decide) rfl (Or.inl w_85) rfl rfl hl0 rfl ?_
    exact ev_ls (u_X6_pop_17 (sp S l0 1 ((sg S l0 1) - 1)) hB) trivial
def b_X6_letWait_26 (N : Nat) (l0 : Nat) (z0 : Nat) (z1 : Int32) (S : am_S) : Option (am_S) := (if isB z1 = true then some (sp (sp S z0 5 z1) l0 3 0) else none)
def b_X6_letWait_21 (N : Nat) (l0 : Nat) (z0 : Nat) (S : am_S) : Option (am_S) := b_X6_letWait_26 N l0 z0 1 S
def f_X6_letWait (N : Nat) (l0 : Nat) (l1 : Int32) (S : am_S) : Option (am_S) := (bv (f_X6_push N l0 l1 S) (fun S2 => (if l1 = 1 then b_X6_letWait_21 N l0 l0 (sp S2 l0 4 1) else (if l1 = 2 then b_X6_letWait_21 N l0 l0 (sp S2 l0 4 1) else b_X6_letWait_26 N l0 l0 0 (sp S2 l0 4 1)))))
theorem u_X6_letWait_26 {G : am_G} {N : Nat} {h0 : am_H} {out : am_S} (l0 : Nat) (z0 : Nat) (z1 : Int32) (S : am_S) (hl0 : isC 6 l0 = true) (hz0 : isC 6 z0 = true) (hB : b_X6_letWait_26 N l0 z0 z1 S = some out) : Ev G (am_R 2 0 0) (am_Φ G h0 0 0 (q_v out) q_n) mX6_letWait 0 0 26 [some (.ref l0), none] [.int z1, .ref z0] (hp S) := by
  unfold b_X6_letWait_26 at hB
  obtain ⟨c1, hB⟩ := ck_of hB
  refine es_putz k_6 5 dX6_letWait_26 (by decide) rfl (Or.inl w_89) rfl rfl (isB_of c1) hz0 rfl ?_
  refine ev_aload_n dX6_letWait_29 rfl ?_
  refine ev_iconst 0 dX6_letWait_30 (by decide) ?_
  refine es_puti k_6 3 dX6_letWait_31 (by decide) rfl (Or.inl w_87) rfl rfl hl0 rfl ?_
  obtain rfl := Option.some.inj hB
  exact ev_vret dX6_letWait_34 rfl (Nat.zero_le _) (Nat.zero_le _) (fun z => absurd z (hp_sealed _)) ⟨rfl, rfl⟩
theorem u_X6_letWait_21 {G : am_G} {N : Nat} {h0 : am_H} {out : am_S} (l0 : Nat) (z0 : Nat) (S : am_S) (hl0 : isC 6 l0 = true) (hz0 : isC 6 z0 = true) (hB : b_X6_letWait_21 N l0 z0 S = some out) : Ev G (am_R 2 0 0) (am_Φ G h0 0 0 (q_v out) q_n) mX6_letWait 0 0 21 [some (.ref l0), none] [.ref z0] (hp S) := by
  unfold b_X6_letWait_21 at hB
  refine ev_iconst 1 dX6_letWait_21 (by decide) ?_
  refine ev_goto 26 dX6_letWait_22 (by decide) ?_
  exact ev_ls (u_X6_letWait_26 l0 z0 1 S hl0 hz0 hB) (And.intro rfl trivial)
theorem t_X6_letWait {G : am_G} {N : Nat} {l0 : Nat} {l1 : Int32} {S : am_S} {out : am_S} (hl0 : isC 6 l0 = true) (hB : f_X6_letWait N l0 l1 S = some out) : am_Met G 2 mX6_letWait 0 0 [.ref l0, .int l1] (hp S) (q_v out) q_n := by
  refine am_of (by decide +kernel) rfl rfl rfl (Nat.le_of_ble_eq_true rfl) ?_
  unfold f_X6_letWait at hB
  refine ev_aload_n dX6_letWait_0 rfl ?_
  refine ev_iload_n dX6_letWait_1 rfl ?_
  obtain ⟨S2, e3, hB⟩ := bv_of hB
  refine es_callVv (As := [.int l1]) (t_X6_push hl0 e3) dX6_letWait_2 oX6_push w_980 rfl hl0 rfl rfl (Nat.le_of_ble_eq_true rfl) rfl (am_fit.of (by decide)) ⟨Nat.zero_le _, Nat.zero_le _⟩ ?_
  refine ev_aload_n dX6_letWait_5 rfl ?_
  refine ev_iconst 1 dX6_letWait_6 (by decide) ?_
  refine es_putz k_6 4 dX6_letWait_7 (by decide) rfl (Or.inl w_88) rfl rfl (Or.inr rfl) hl0 rfl ?_
  refine ev_aload_n dX6_letWait_10 rfl ?_
  refine ev_iload_n dX6_letWait_11 rfl ?_
  refine ev_iconst 1 dX6_letWait_12 (by decide) ?_
  refine ev_icmpeq 21 dX6_letWait_13 (by decide) (fun q4 => ?_) (fun q4 => ?_)
  · rw [if_pos q4] at hB
    exact ev_ls (u_X6_letWait_21 l0 l0 (sp S2 l0 4 1) hl0 hl0 hB) (And.intro rfl trivial)
  · rw [if_neg q4] at hB
    refine ev_iload_n dX6_letWait_16 rfl ?_
    refine ev_iconst 2 dX6_letWait_17 (by decide) ?_
    refine ev_icmpne 25 dX6_letWait_18 (by decide) (fun q5 => ?_) (fun q5 => ?_)
    · rw [if_neg q5] at hB
      refine ev_iconst 0 dX6_letWait_25 (by decide) ?_
      exact ev_ls (u_X6_letWait_26 l0 l0 0 (sp S2 l0 4 1) hl0 hl0 hB) (And.intro rfl trivial)
    · rw [if_pos q5] at hB
      exact ev_ls (u_X6_letWait_21 l0 l0 (sp S2 l0 4 1) hl0 hl0 hB) (And.intro rfl trivial)
def b_X6_readTest_42 (N : Nat) (l0 : Nat) (l3 : Int32) (S : am_S) : Option (am_S) := (bv (f_X6_letWait N l0 l3 S) (fun S2 => some S2))
def f_X6_readTest (N : Nat) (l0 : Nat) (l1 : Nat) (l2 : Nat) (l3 : Int32) (S : am_S) : Option (am_S) := (bv (f_X6_release N l0 l2 6 S) (fun S2 => (if (sg S2 l0 1) ≤ 0 then b_X6_readTest_42 N l0 l3 S2 else (if inb ((sg S2 l0 1) - 1) (ln (rf l0 0)) = true then (if inb (sg S2 (rf l0 0) (Int32.toNatClampNeg ((sg S2 l0 1) - 1))) 10 = true then (if inb 4 10 = true then (if (am_rank.getD (Int32.toNatClampNeg (sg S2 (rf l0 0) (Int32.toNatClampNeg ((sg S2 l0 1) - 1)))) 0) = (am_rank.getD (Int32.toNatClampNeg 4) 0) then (bv (f_X8_fail N l1 1 S2) (fun S10 => b_X6_readTest_42 N l0 l3 S10)) else b_X6_readTest_42 N l0 l3 S2) else none) else none) else none))))
theorem u_X6_readTest_42 {G : am_G} {N : Nat} {h0 : am_H} {out : am_S} (l0 : Nat) (l3 : Int32) (S : am_S) (hl0 : isC 6 l0 = true) (hB : b_X6_readTest_42 N l0 l3 S = some out) : Ev G (am_R 3 0 0) (am_Φ G h0 0 0 (q_v out) q_n) mX6_readTest 0 0 42 [some (.ref l0), none, none, some (.int l3)] [] (hp S) := by
  unfold b_X6_readTest_42 at hB
  refine ev_aload_n dX6_readTest_42 rfl ?_
  refine ev_iload_n dX6_readTest_43 rfl ?_
  obtain ⟨S2, e3, hB⟩ := bv_of hB
  refine es_callVv (As := [.int l3]) (t_X6_letWait hl0 e3) dX6_readTest_44 oX6_letWait w_1036 rfl hl0 rfl rfl (Nat.le_of_ble_eq_true rfl) rfl (am_fit.of (by decide)) ⟨Nat.zero_le _, Nat.zero_le _⟩ ?_
  obtain rfl := Option.some.inj hB
  exact ev_vret dX6_readTest_47 rfl (Nat.zero_le _) (Nat.zero_le _) (fun z => absurd z (hp_sealed _)) ⟨rfl, rfl⟩
theorem t_X6_readTest {G : am_G} {N : Nat} {l0 : Nat} {l1 : Nat} {l2 : Nat} {l3 : Int32} {S : am_S} {out : am_S} (hl0 : isC 6 l0 = true) (hl1 : isC 8 l1 = true) (hl2 : isC 5 l2 = true) (hB : f_X6_readTest N l0 l1 l2 l3 S = some out) : am_Met G 3 mX6_readTest 0 0 [.ref l0, .ref l1, .ref l2, .int l3] (hp S) (q_v out) q_n := by
  refine am_of (by decide +kernel) rfl rfl rfl (Nat.le_of_ble_eq_true rfl) ?_
  unfold f_X6_readTest at hB
  refine ev_aload_n dX6_readTest_0 rfl ?_
  refine ev_aload_n dX6_readTest_1 rfl ?_
  refine ev_bipush 6 dX6_readTest_2 (by decide) ?_
  obtain ⟨S2, e3, hB⟩ := bv_of hB
  refine es_callVv (As := [.ref l2, .int 6]) (t_X6_release hl0 hl2 e3) dX6_readTest_4 oX6_release w_1022 rfl hl0 rfl rfl (Nat.le_of_ble_eq_true rfl) rfl (am_fit.of (by decide)) ⟨Nat.zero_le _, Nat.zero_le _⟩ ?_
  refine ev_aload_n dX6_readTest_7 rfl ?_
  refine es_geti k_6 1 dX6_readTest_8 (by decide) rfl (Or.inl w_85) hl0 rfl ?_
  refine ev_ifle 42 dX6_readTest_11 (by decide) (fun q4 => ?_) (fun q4 => ?_)
  · rw [if_pos q4] at hB
    exact ev_ls (u_X6_readTest_42 l0 l3 S2 hl0 hB) (And.intro rfl (And.intro rfl trivial))
  · rw [if_neg q4] at hB
    refine ev_rank dX6_readTest_14 w_1026 ?_
    refine ev_aload_n dX6_readTest_17 rfl ?_
    refine es_getr k_6 0 dX6_readTest_18 (by decide) rfl (Or.inl w_84) hl0 rfl ?_
    refine ev_aload_n dX6_readTest_21 rfl ?_
    refine es_geti k_6 1 dX6_readTest_22 (by decide) rfl (Or.inl w_85) hl0 rfl ?_
    refine ev_iconst 1 dX6_readTest_25 (by decide) ?_
    refine ev_isub dX6_readTest_26 ?_
    obtain ⟨c5, hB⟩ := ck_of hB
    refine es_iald dX6_readTest_27 (tr_6_0 hl0) c5 ?_
    obtain ⟨c6, hB⟩ := ck_of hB
    refine ev_faload dX6_readTest_28 (inb_in c6) ?_
    refine ev_rank dX6_readTest_29 w_1026 ?_
    refine ev_iconst 4 dX6_readTest_32 (by decide) ?_
    obtain ⟨c7, hB⟩ := ck_of hB
    refine ev_faload dX6_readTest_33 (inb_in c7) ?_
    refine ev_icmpne 42 dX6_readTest_34 (by decide) (fun q8 => ?_) (fun q8 => ?_)
    · rw [if_neg q8] at hB
      exact ev_ls (u_X6_readTest_42 l0 l3 S2 hl0 hB) (And.intro rfl (And.intro rfl trivial))
    · rw [if_pos q8] at hB
      refine ev_aload_n dX6_readTest_37 rfl ?_
      refine ev_iconst 1 dX6_readTest_38 (by decide) ?_
      obtain ⟨S10, e11, hB⟩ := bv_of hB
      refine es_callVv (As := [.int 1]) (t_X8_fail hl1 e11) dX6_readTest_39 oX8_fail w_965 rfl hl1 rfl rfl (Nat.le_of_ble_eq_true rfl) rfl (am_fit.of (by decide)) ⟨Nat.zero_le _, Nat.zero_le _⟩ ?_
      exact ev_ls (u_X6_readTest_42 l0 l3 S10 hl0 hB) (And.intro rfl (And.intro rfl trivial))
def b_X6_readBehindPart_91 (N : Nat)  (S : am_S) : Option (am_S) := some S
def b_X6_readBehindPart_44 (N : Nat) (l0 : Nat) (l1 : Nat) (l2 : Nat) (l3 : Int32) (S : am_S) : Option (am_S) := (if l3 = (-1) then (bv (f_X8_fail N l1 1 S) (fun S15 => b_X6_readBehindPart_91 N S15)) else (if inb l3 10 = true then (if inb 4 10 = true then (if (am_rank.getD (Int32.toNatClampNeg l3) 0) = (am_rank.getD (Int32.toNatClampNeg 4) 0) then (bv (f_X6_readTest N l0 l1 l2 l3 S) (fun S12 => b_X6_readBehindPart_91 N S12)) else (bv (f_X6_release N l0 l2 l3 S) (fun S6 => (bv (f_X6_letWait N l0 l3 S6) (fun S9 => b_X6_readBehindPart_91 N S9))))) else none) else none))
def f_X6_readBehindPart (N : Nat) (l0 : Nat) (l1 : Nat) (l2 : Nat) (S : am_S) : Option (am_S) := (bd (f_X6_operatorOf N l1 S) (fun r1 S2 => (if (sg S2 l1 4) = 41 then (if (sg S2 l0 2) ≤ 0 then b_X6_readBehindPart_44 N l0 l1 l2 r1 S2 else (bv (f_X6_release N l0 l2 1 S2) (fun S7 => (bv (f_X6_pop N l0 S7) (fun S10 => b_X6_readBehindPart_91 N (sp S10 l0 2 ((sg S10 l0 2) - 1))))))) else b_X6_readBehindPart_44 N l0 l1 l2 r1 S2)))
theorem u_X6_readBehindPart_91 {G : am_G} {N : Nat} {h0 : am_H} {out : am_S}  (S : am_S) (hB : b_X6_readBehindPart_91 N  S = some out) : Ev G (am_R 13 0 0) (am_Φ G h0 0 0 (q_v out) q_n) mX6_readBehindPart 0 0 91 [none, none, none, none] [] (hp S) := by
  unfold b_X6_readBehindPart_91 at hB
  obtain rfl := Option.some.inj hB
  exact ev_vret dX6_readBehindPart_91 rfl (Nat.zero_le _) (Nat.zero_le _) (fun z => absurd z (hp_sealed _)) ⟨rfl, rfl⟩
theorem u_X6_readBehindPart_44 {G : am_G} {N : Nat} {h0 : am_H} {out : am_S} (l0 : Nat) (l1 : Nat) (l2 : Nat) (l3 : Int32) (S : am_S) (hl0 : isC 6 l0 = true) (hl1 : isC 8 l1 = true) (hl2 : isC 5 l2 = true) (hB : b_X6_readBehindPart_44 N l0 l1 l2 l3 S = some out) : Ev G (am_R 13 0 0) (am_Φ G h0 0 0 (q_v out) q_n) mX6_readBehindPart 0 0 44 [some (.ref l0), some (.ref l1), some (.ref l2), some (.int l3)] [] (hp S) := by
  unfold b_X6_readBehindPart_44 at hB
  refine ev_iload_n dX6_readBehindPart_44 rfl ?_
  refine ev_iconst (-1) dX6_readBehindPart_45 (by decide) ?_
  refine ev_icmpne 57 dX6_readBehindPart_46 (by decide) (fun q1 => ?_) (fun q1 => ?_)
  · rw [if_neg q1] at hB
    refine ev_rank dX6_readBehindPart_57 w_1026 ?_
    refine ev_iload_n dX6_readBehindPart_60 rfl ?_
    obtain ⟨c2, hB⟩ := ck_of hB
    refine ev_faload dX6_readBehindPart_61 (inb_in c2) ?_
    refine ev_rank dX6_readBehindPart_62 w_1026 ?_
    refine ev_iconst 4 dX6_readBehindPart_65 (by decide) ?_
    obtain ⟨c3, hB⟩ := ck_of hB
    refine ev_faload dX6_readBehindPart_66 (inb_in c3) ?_
    refine ev_icmpne 80 dX6_readBehindPart_67 (by decide) (fun q4 => ?_) (fun q4 => ?_)
    · rw [if_neg q4] at hB
      refine ev_aload_n dX6_readBehindPart_80 rfl ?_
      refine ev_aload_n dX6_readBehindPart_81 rfl ?_
      refine ev_iload_n dX6_readBehindPart_82 rfl ?_
      obtain ⟨S6, e7, hB⟩ := bv_of hB
      refine es_callVv (As := [.ref l2, .int l3]) (t_X6_release hl0 hl2 e7) dX6_readBehindPart_83 oX6_release w_1022 rfl hl0 rfl rfl (Nat.le_of_ble_eq_true rfl) rfl (am_fit.of (by decide)) ⟨Nat.zero_le _, Nat.zero_le _⟩ ?_
      refine ev_aload_n dX6_readBehindPart_86 rfl ?_
      refine ev_iload_n dX6_readBehindPart_87 rfl ?_
      obtain ⟨S9, e10, hB⟩ := bv_of hB
      refine es_callVv (As := [.int l3]) (t_X6_letWait hl0 e10) dX6_readBehindPart_88 oX6_letWait w_1036 rfl hl0 rfl rfl (Nat.le_of_ble_eq_true rfl) rfl (am_fit.of (by decide)) ⟨Nat.zero_le _, Nat.zero_le _⟩ ?_
      exact ev_ls (u_X6_readBehindPart_91 S9 hB) trivial
    · rw [if_pos q4] at hB
      refine ev_aload_n dX6_readBehindPart_70 rfl ?_
      refine ev_aload_n dX6_readBehindPart_71 rfl ?_
      refine ev_aload_n dX6_readBehindPart_72 rfl ?_
      refine ev_iload_n dX6_readBehindPart_73 rfl ?_
      obtain ⟨S12, e13, hB⟩ := bv_of hB
      refine es_callVv (As := [.ref l1, .ref l2, .int l3]) (t_X6_readTest hl0 hl1 hl2 e13) dX6_readBehindPart_74 oX6_readTest w_1032 rfl hl0 rfl rfl (Nat.le_of_ble_eq_true rfl) rfl (am_fit.of (by decide)) ⟨Nat.zero_le _, Nat.zero_le _⟩ ?_
      refine ev_goto 91 dX6_readBehindPart_77 (by decide) ?_
      exact ev_ls (u_X6_readBehindPart_91 S12 hB) trivial
  · rw [if_pos q1] at hB
    refine ev_aload_n dX6_readBehindPart_49 rfl ?_
    refine ev_iconst 1 dX6_readBehindPart_50 (by decide) ?_
    obtain ⟨S15, e16, hB⟩ := bv_of hB
    refine es_callVv (As := [.int 1]) (t_X8_fail hl1 e16) dX6_readBehindPart_51 oX8_fail w_965 rfl hl1 rfl rfl (Nat.le_of_ble_eq_true rfl) rfl (am_fit.of (by decide)) ⟨Nat.zero_le _, Nat.zero_le _⟩ ?_
    refine ev_goto 91 dX6_readBehindPart_54 (by decide) ?_
    exact ev_ls (u_X6_readBehindPart_91 S15 hB) trivial
theorem t_X6_readBehindPart {G : am_G} {N : Nat} {l0 : Nat} {l1 : Nat} {l2 : Nat} {S : am_S} {out : am_S} (hl0 : isC 6 l0 = true) (hl1 : isC 8 l1 = true) (hl2 : isC 5 l2 = true) (hB : f_X6_readBehindPart N l0 l1 l2 S = some out) : am_Met G 13 mX6_readBehindPart 0 0 [.ref l0, .ref l1, .ref l2] (hp S) (q_v out) q_n := by
  refine am_of (by decide +kernel) rfl rfl rfl (Nat.le_of_ble_eq_true rfl) ?_
  unfold f_X6_readBehindPart at hB
  refine ev_aload_n dX6_readBehindPart_0 rfl ?_
  obtain ⟨r1, S2, e3, hB⟩ := bd_of hB
  refine es_callSi (As := [.ref l1]) (t_X6_operatorOf hl1 e3) dX6_readBehindPart_1 oX6_operatorOf w_1017 rfl (Nat.le_of_ble_eq_true rfl) rfl (am_fit.of (by decide)) ⟨Nat.zero_le _, Nat.zero_le _⟩ ?_
  refine ev_istore_n dX6_readBehindPart_4 (by decide) rfl ?_
  refine ev_aload_n dX6_readBehindPart_5 rfl ?_
  refine es_geti k_8 4 dX6_readBehindPart_6 (by decide) rfl (Or.inr ⟨_, n_56⟩) hl1 rfl ?_
  refine ev_bipush 41 dX6_readBehindPart_9 (by decide) ?_
  refine ev_icmpne 44 dX6_readBehindPart_11 (by decide) (fun q4 => ?_) (fun q4 => ?_)
  · rw [if_neg q4] at hB
    exact ev_ls (u_X6_readBehindPart_44 l0 l1 l2 r1 S2 hl0 hl1 hl2 hB) (And.intro rfl (And.intro rfl (And.intro rfl (And.intro rfl trivial))))
  · rw [if_pos q4] at hB
    refine ev_aload_n dX6_readBehindPart_14 rfl ?_
    refine es_geti k_6 2 dX6_readBehindPart_15 (by decide) rfl (Or.inl w_86) hl0 rfl ?_
    refine ev_ifle 44 dX6_readBehindPart_18 (by decide) (fun q5 => ?_) (fun q5 => ?_)
    · rw [if_pos q5] at hB
      exact ev_ls (u_X6_readBehindPart_44 l0 l1 l2 r1 S2 hl0 hl1 hl2 hB) (And.intro rfl (And.intro rfl (And.intro rfl (And.intro rfl trivial))))
    · rw [if_neg q5] at hB
      refine ev_aload_n dX6_readBehindPart_21 rfl ?_
      refine ev_aload_n dX6_readBehindPart_22 rfl ?_
      refine ev_iconst 1 dX6_readBehindPart_23 (by decide) ?_
      obtain ⟨S7, e8, hB⟩ := bv_of hB
      refine es_callVv (As := [.ref l2, .int 1]) (t_X6_release hl0 hl2 e8) dX6_readBehindPart_24 oX6_release w_1022 rfl hl0 rfl rfl (Nat.le_of_ble_eq_true rfl) rfl (am_fit.of (by decide)) ⟨Nat.zero_le _, Nat.zero_le _⟩ ?_
      refine ev_aload_n dX6_readBehindPart_27 rfl ?_
      obtain ⟨S10, e11, hB⟩ := bv_of hB
      refine es_callVv (As := []) (t_X6_pop hl0 e11) dX6_readBehindPart_28 oX6_pop w_1028 rfl hl0 rfl rfl (Nat.le_of_ble_eq_true rfl) rfl (am_fit.of (by decide)) ⟨Nat.zero_le _, Nat.zero_le _⟩ ?_
      refine ev_aload_n dX6_readBehindPart_31 rfl ?_
      refine ev_dup dX6_readBehindPart_32 rfl ?_
      refine es_geti k_6 2 dX6_readBehindPart_33 (by decide) rfl (Or.inl w_86) hl0 rfl ?_
      refine ev_iconst 1 dX6_readBehindPart_36 (by decide) ?_
      refine ev_isub dX6_readBehindPart_37 ?_
      refine es_puti k_6 2 dX6_readBehindPart_38 (by decide) rfl (Or.inl w_86) rfl rfl hl0 rfl ?_
      refine ev_goto 91 dX6_readBehindPart_41 (by decide) ?_
      exact ev_ls (u_X6_readBehindPart_91 (sp S10 l0 2 ((sg S10 l0 2) - 1)) hB) trivial
def b_X6_read_79 (N : Nat) (k33 : Nat → Nat → Nat → Int32 → Int32 → am_S → Option (am_S)) (l0 : Nat) (l1 : Nat) (l2 : Nat) (l3 : Int32) (l4 : Int32) (S : am_S) : Option (am_S) := (bv (f_X8_step N l1 S) (fun S2 => k33 l0 l1 l2 l3 (l4 + 1) S2))
def b_X6_read_102 (N : Nat)  (S : am_S) : Option (am_S) := some S
def b_X6_read_89 (N : Nat) (l0 : Nat) (l1 : Nat) (l2 : Nat) (S : am_S) : Option (am_S) := (bd (f_X8_isFine N l1 S) (fun r1 S2 => (if r1 = 0 then b_X6_read_102 N S2 else (bv (f_X6_release N l0 l2 1 S2) (fun S6 => b_X6_read_102 N S6)))))
def b_X6_read_33 (N : Nat) : Nat → Nat → Nat → Nat → Int32 → Int32 → am_S → Option (am_S)
  | 0, _, _, _, _, _, _ => none
  | n + 1, l0, l1, l2, l3, l4, S => (if 700 < l4 then b_X6_read_89 N l0 l1 l2 S else (bd (f_X8_isFine N l1 S) (fun r2 S3 => (if r2 = 0 then b_X6_read_89 N l0 l1 l2 S3 else (bd (f_X6_isEnd N l0 l1 S3) (fun r6 S7 => (if r6 = 0 then (if (sg S7 l0 4) = 0 then (bv (f_X6_readBehindPart N l0 l1 l2 S7) (fun S12 => b_X6_read_79 N (b_X6_read_33 N n) l0 l1 l2 l3 l4 S12)) else (bv (f_X6_readPart N l0 l1 l2 l3 S7) (fun S15 => b_X6_read_79 N (b_X6_read_33 N n) l0 l1 l2 l3 l4 S15))) else b_X6_read_89 N l0 l1 l2 S7)))))))
def b_X6_read_12 (N : Nat) (l0 : Nat) (l1 : Nat) (l2 : Nat) (l3 : Int32) (S : am_S) : Option (am_S) := (bv (f_X8_step N l1 S) (fun S2 => (bv (f_X6_beginExpression N l0 (sp (sp S2 l0 1 0) l0 2 0)) (fun S5 => b_X6_read_33 N N l0 l1 l2 l3 0 S5))))
def f_X6_read (N : Nat) (l0 : Nat) (l1 : Nat) (l2 : Nat) (l3 : Int32) (S : am_S) : Option (am_S) := (bd (f_X5_isUntold N l2 S) (fun r1 S2 => (if r1 = 0 then (bv (f_X8_fail N l1 5 S2) (fun S6 => b_X6_read_12 N l0 l1 l2 l3 S6)) else b_X6_read_12 N l0 l1 l2 l3 S2)))
theorem u_X6_read_79 {G : am_G} {N : Nat} {h0 : am_H} {out : am_S} {k33 : Nat → Nat → Nat → Int32 → Int32 → am_S → Option (am_S)} (hk33 : ∀ (l0 : Nat) (l1 : Nat) (l2 : Nat) (l3 : Int32) (l4 : Int32) (S : am_S), isC 6 l0 = true → isC 8 l1 = true → isC 5 l2 = true → k33 l0 l1 l2 l3 l4 S = some out → Ev G (am_R 14 0 0) (am_Φ G h0 0 0 (q_v out) q_n) mX6_read 0 0 33 [some (.ref l0), some (.ref l1), some (.ref l2), some (.int l3), some (.int l4)] [] (hp S)) (l0 : Nat) (l1 : Nat) (l2 : Nat) (l3 : Int32) (l4 : Int32) (S : am_S) (hl0 : isC 6 l0 = true) (hl1 : isC 8 l1 = true) (hl2 : isC 5 l2 = true) (hB : b_X6_read_79 N k33 l0 l1 l2 l3 l4 S = some out) : Ev G (am_R 14 0 0) (am_Φ G h0 0 0 (q_v out) q_n) mX6_read 0 0 79 [some (.ref l0), some (.ref l1), some (.ref l2), some (.int l3), some (.int l4)] [] (hp S) := by
  unfold b_X6_read_79 at hB
  refine ev_aload_n dX6_read_79 rfl ?_
  obtain ⟨S2, e3, hB⟩ := bv_of hB
  refine es_callVv (As := []) (t_X8_step hl1 e3) dX6_read_80 oX8_step w_966 rfl hl1 rfl rfl (Nat.le_of_ble_eq_true rfl) rfl (am_fit.of (by decide)) ⟨Nat.zero_le _, Nat.zero_le _⟩ ?_
  refine es_iinc 1 dX6_read_83 rfl (by decide) (by decide) rfl ?_
  refine ev_goto 33 dX6_read_86 (by decide) ?_
  exact ev_ls (hk33 l0 l1 l2 l3 (l4 + 1) S2 hl0 hl1 hl2 hB) (And.intro rfl (And.intro rfl (And.intro rfl (And.intro rfl (And.intro rfl trivial)))))
theorem u_X6_read_102 {G : am_G} {N : Nat} {h0 : am_H} {out : am_S}  (S : am_S) (hB : b_X6_read_102 N  S = some out) : Ev G (am_R 14 0 0) (am_Φ G h0 0 0 (q_v out) q_n) mX6_read 0 0 102 [none, none, none, none, none] [] (hp S) := by
  unfold b_X6_read_102 at hB
  obtain rfl := Option.some.inj hB
  exact ev_vret dX6_read_102 rfl (Nat.zero_le _) (Nat.zero_le _) (fun z => absurd z (hp_sealed _)) ⟨rfl, rfl⟩
theorem u_X6_read_89 {G : am_G} {N : Nat} {h0 : am_H} {out : am_S} (l0 : Nat) (l1 : Nat) (l2 : Nat) (S : am_S) (hl0 : isC 6 l0 = true) (hl1 : isC 8 l1 = true) (hl2 : isC 5 l2 = true) (hB : b_X6_read_89 N l0 l1 l2 S = some out) : Ev G (am_R 14 0 0) (am_Φ G h0 0 0 (q_v out) q_n) mX6_read 0 0 89 [some (.ref l0), some (.ref l1), some (.ref l2), none, none] [] (hp S) := by
  unfold b_X6_read_89 at hB
  refine ev_aload_n dX6_read_89 rfl ?_
  obtain ⟨r1, S2, e3, hB⟩ := bd_of hB
  refine es_callVi (As := []) (t_X8_isFine hl1 e3) dX6_read_90 oX8_isFine w_971 rfl hl1 rfl rfl (Nat.le_of_ble_eq_true rfl) rfl (am_fit.of (by decide)) ⟨Nat.zero_le _, Nat.zero_le _⟩ ?_
  refine ev_ifeq 102 dX6_read_93 (by decide) (fun q4 => ?_) (fun q4 => ?_)
  · rw [if_pos q4] at hB
    exact ev_ls (u_X6_read_102 S2 hB) trivial
  · rw [if_neg q4] at hB
    refine ev_aload_n dX6_read_96 rfl ?_
    refine ev_aload_n dX6_read_97 rfl ?_
    refine ev_iconst 1 dX6_read_98 (by decide) ?_
    obtain ⟨S6, e7, hB⟩ := bv_of hB
    refine es_callVv (As := [.ref l2, .int 1]) (t_X6_release hl0 hl2 e7) dX6_read_99 oX6_release w_1022 rfl hl0 rfl rfl (Nat.le_of_ble_eq_true rfl) rfl (am_fit.of (by decide)) ⟨Nat.zero_le _, Nat.zero_le _⟩ ?_
    exact ev_ls (u_X6_read_102 S6 hB) trivial
theorem u_X6_read_33 {G : am_G} {N : Nat} {h0 : am_H} {out : am_S} : ∀ (n : Nat) (l0 : Nat) (l1 : Nat) (l2 : Nat) (l3 : Int32) (l4 : Int32) (S : am_S), isC 6 l0 = true → isC 8 l1 = true → isC 5 l2 = true → b_X6_read_33 N n l0 l1 l2 l3 l4 S = some out → Ev G (am_R 14 0 0) (am_Φ G h0 0 0 (q_v out) q_n) mX6_read 0 0 33 [some (.ref l0), some (.ref l1), some (.ref l2), some (.int l3), some (.int l4)] [] (hp S) := by
  intro n
  induction n with
  | zero =>
    intro l0 l1 l2 l3 l4 S hl0 hl1 hl2 hB
    exact absurd (show none = some out from hB) (fun q => by cases q)
  | succ n ih =>
    intro l0 l1 l2 l3 l4 S hl0 hl1 hl2 hB
    unfold b_X6_read_33 at hB
    refine ev_iload dX6_read_33 rfl ?_
    refine ev_sipush 700 dX6_read_35 (by decide) ?_
    refine ev_icmpgt 89 dX6_read_38 (by decide) (fun q1 => ?_) (fun q1 => ?_)
    · rw [if_pos q1] at hB
      exact ev_ls (u_X6_read_89 l0 l1 l2 S hl0 hl1 hl2 hB) (And.intro rfl (And.intro rfl (And.intro rfl trivial)))
    · rw [if_neg q1] at hB
      refine ev_aload_n dX6_read_41 rfl ?_
      obtain ⟨r2, S3, e4, hB⟩ := bd_of hB
      refine es_callVi (As := []) (t_X8_isFine hl1 e4) dX6_read_42 oX8_isFine w_971 rfl hl1 rfl rfl (Nat.le_of_ble_eq_true rfl) rfl (am_fit.of (by decide)) ⟨Nat.zero_le _, Nat.zero_le _⟩ ?_
      refine ev_ifeq 89 dX6_read_45 (by decide) (fun q5 => ?_) (fun q5 => ?_)
      · rw [if_pos q5] at hB
        exact ev_ls (u_X6_read_89 l0 l1 l2 S3 hl0 hl1 hl2 hB) (And.intro rfl (And.intro rfl (And.intro rfl trivial)))
      · rw [if_neg q5] at hB
        refine ev_aload_n dX6_read_48 rfl ?_
        refine ev_aload_n dX6_read_49 rfl ?_
        obtain ⟨r6, S7, e8, hB⟩ := bd_of hB
        refine es_callVi (As := [.ref l1]) (t_X6_isEnd hl0 hl1 e8) dX6_read_50 oX6_isEnd w_972 rfl hl0 rfl rfl (Nat.le_of_ble_eq_true rfl) rfl (am_fit.of (by decide)) ⟨Nat.zero_le _, Nat.zero_le _⟩ ?_
        refine ev_ifne 89 dX6_read_53 (by decide) (fun q9 => ?_) (fun q9 => ?_)
        · rw [if_neg q9] at hB
          exact ev_ls (u_X6_read_89 l0 l1 l2 S7 hl0 hl1 hl2 hB) (And.intro rfl (And.intro rfl (And.intro rfl trivial)))
        · rw [if_pos q9] at hB
          refine ev_aload_n dX6_read_56 rfl ?_
          refine es_geti k_6 4 dX6_read_57 (by decide) rfl (Or.inl w_88) hl0 rfl ?_
          refine ev_ifeq 73 dX6_read_60 (by decide) (fun q10 => ?_) (fun q10 => ?_)
          · rw [if_pos q10] at hB
            refine ev_aload_n dX6_read_73 rfl ?_
            refine ev_aload_n dX6_read_74 rfl ?_
            refine ev_aload_n dX6_read_75 rfl ?_
            obtain ⟨S12, e13, hB⟩ := bv_of hB
            refine es_callVv (As := [.ref l1, .ref l2]) (t_X6_readBehindPart hl0 hl1 hl2 e13) dX6_read_76 oX6_readBehindPart w_1013 rfl hl0 rfl rfl (Nat.le_of_ble_eq_true rfl) rfl (am_fit.of (by decide)) ⟨Nat.zero_le _, Nat.zero_le _⟩ ?_
            exact ev_ls (u_X6_read_79 ih l0 l1 l2 l3 l4 S12 hl0 hl1 hl2 hB) (And.intro rfl (And.intro rfl (And.intro rfl (And.intro rfl (And.intro rfl trivial)))))
          · rw [if_neg q10] at hB
            refine ev_aload_n dX6_read_63 rfl ?_
            refine ev_aload_n dX6_read_64 rfl ?_
            refine ev_aload_n dX6_read_65 rfl ?_
            refine ev_iload_n dX6_read_66 rfl ?_
            obtain ⟨S15, e16, hB⟩ := bv_of hB
            refine es_callVv (As := [.ref l1, .ref l2, .int l3]) (t_X6_readPart hl0 hl1 hl2 e16) dX6_read_67 oX6_readPart w_976 rfl hl0 rfl rfl (Nat.le_of_ble_eq_true rfl) rfl (am_fit.of (by decide)) ⟨Nat.zero_le _, Nat.zero_le _⟩ ?_
            refine ev_goto 79 dX6_read_70 (by decide) ?_
            exact ev_ls (u_X6_read_79 ih l0 l1 l2 l3 l4 S15 hl0 hl1 hl2 hB) (And.intro rfl (And.intro rfl (And.intro rfl (And.intro rfl (And.intro rfl trivial)))))
theorem u_X6_read_12 {G : am_G} {N : Nat} {h0 : am_H} {out : am_S} (l0 : Nat) (l1 : Nat) (l2 : Nat) (l3 : Int32) (S : am_S) (hl0 : isC 6 l0 = true) (hl1 : isC 8 l1 = true) (hl2 : isC 5 l2 = true) (hB : b_X6_read_12 N l0 l1 l2 l3 S = some out) : Ev G (am_R 14 0 0) (am_Φ G h0 0 0 (q_v out) q_n) mX6_read 0 0 12 [some (.ref l0), some (.ref l1), some (.ref l2), some (.int l3), none] [] (hp S) := by
  unfold b_X6_read_12 at hB
  refine ev_aload_n dX6_read_12 rfl ?_
  obtain ⟨S2, e3, hB⟩ := bv_of hB
  refine es_callVv (As := []) (t_X8_step hl1 e3) dX6_read_13 oX8_step w_966 rfl hl1 rfl rfl (Nat.le_of_ble_eq_true rfl) rfl (am_fit.of (by decide)) ⟨Nat.zero_le _, Nat.zero_le _⟩ ?_
  refine ev_aload_n dX6_read_16 rfl ?_
  refine ev_iconst 0 dX6_read_17 (by decide) ?_
  refine es_puti k_6 1 dX6_read_18 (by decide) rfl (Or.inl w_85) rfl rfl hl0 rfl ?_
  refine ev_aload_n dX6_read_21 rfl ?_
  refine ev_iconst 0 dX6_read_22 (by decide) ?_
  refine es_puti k_6 2 dX6_read_23 (by decide) rfl (Or.inl w_86) rfl rfl hl0 rfl ?_
  refine ev_aload_n dX6_read_26 rfl ?_
  obtain ⟨S5, e6, hB⟩ := bv_of hB
  refine es_callVv (As := []) (t_X6_beginExpression hl0 e6) dX6_read_27 oX6_beginExpression w_967 rfl hl0 rfl rfl (Nat.le_of_ble_eq_true rfl) rfl (am_fit.of (by decide)) ⟨Nat.zero_le _, Nat.zero_le _⟩ ?_
  refine ev_iconst 0 dX6_read_30 (by decide) ?_
  refine ev_istore dX6_read_31 (by decide) rfl ?_
  exact ev_ls (u_X6_read_33 N l0 l1 l2 l3 0 S5 hl0 hl1 hl2 hB) (And.intro rfl (And.intro rfl (And.intro rfl (And.intro rfl (And.intro rfl trivial)))))
theorem t_X6_read {G : am_G} {N : Nat} {l0 : Nat} {l1 : Nat} {l2 : Nat} {l3 : Int32} {S : am_S} {out : am_S} (hl0 : isC 6 l0 = true) (hl1 : isC 8 l1 = true) (hl2 : isC 5 l2 = true) (hB : f_X6_read N l0 l1 l2 l3 S = some out) : am_Met G 14 mX6_read 0 0 [.ref l0, .ref l1, .ref l2, .int l3] (hp S) (q_v out) q_n := by
  refine am_of (by decide +kernel) rfl rfl rfl (Nat.le_of_ble_eq_true rfl) ?_
  unfold f_X6_read at hB
  refine ev_aload_n dX6_read_0 rfl ?_
  obtain ⟨r1, S2, e3, hB⟩ := bd_of hB
  refine es_callVi (As := []) (t_X5_isUntold hl2 e3) dX6_read_1 oX5_isUntold w_964 rfl hl2 rfl rfl (Nat.le_of_ble_eq_true rfl) rfl (am_fit.of (by decide)) ⟨Nat.zero_le _, Nat.zero_le _⟩ ?_
  refine ev_ifne 12 dX6_read_4 (by decide) (fun q4 => ?_) (fun q4 => ?_)
  · rw [if_neg q4] at hB
    exact ev_ls (u_X6_read_12 l0 l1 l2 l3 S2 hl0 hl1 hl2 hB) (And.intro rfl (And.intro rfl (And.intro rfl (And.intro rfl trivial))))
  · rw [if_pos q4] at hB
    refine ev_aload_n dX6_read_7 rfl ?_
    refine ev_iconst 5 dX6_read_8 (by decide) ?_
    obtain ⟨S6, e7, hB⟩ := bv_of hB
    refine es_callVv (As := [.int 5]) (t_X8_fail hl1 e7) dX6_read_9 oX8_fail w_965 rfl hl1 rfl rfl (Nat.le_of_ble_eq_true rfl) rfl (am_fit.of (by decide)) ⟨Nat.zero_le _, Nat.zero_le _⟩ ?_
    exact ev_ls (u_X6_read_12 l0 l1 l2 l3 S6 hl0 hl1 hl2 hB) (And.intro rfl (And.intro rfl (And.intro rfl (And.intro rfl trivial))))
def b_X8_takeSign_13 (N : Nat) (l0 : Nat) (S : am_S) : Option (am_S) := (bv (f_X8_step N l0 S) (fun S2 => some S2))
def f_X8_takeSign (N : Nat) (l0 : Nat) (l1 : Int32) (S : am_S) : Option (am_S) := (if (sg S l0 4) = l1 then b_X8_takeSign_13 N l0 S else (bv (f_X8_fail N l0 1 S) (fun S3 => b_X8_takeSign_13 N l0 S3)))
theorem u_X8_takeSign_13 {G : am_G} {N : Nat} {h0 : am_H} {out : am_S} (l0 : Nat) (S : am_S) (hl0 : isC 8 l0 = true) (hB : b_X8_takeSign_13 N l0 S = some out) : Ev G (am_R 3 0 0) (am_Φ G h0 0 0 (q_v out) q_n) mX8_takeSign 0 0 13 [some (.ref l0), none] [] (hp S) := by
  unfold b_X8_takeSign_13 at hB
  refine ev_aload_n dX8_takeSign_13 rfl ?_
  obtain ⟨S2, e3, hB⟩ := bv_of hB
  refine es_callVv (As := []) (t_X8_step hl0 e3) dX8_takeSign_14 oX8_step w_852 rfl hl0 rfl rfl (Nat.le_of_ble_eq_true rfl) rfl (am_fit.of (by decide)) ⟨Nat.zero_le _, Nat.zero_le _⟩ ?_
  obtain rfl := Option.some.inj hB
  exact ev_vret dX8_takeSign_17 rfl (Nat.zero_le _) (Nat.zero_le _) (fun z => absurd z (hp_sealed _)) ⟨rfl, rfl⟩
theorem t_X8_takeSign {G : am_G} {N : Nat} {l0 : Nat} {l1 : Int32} {S : am_S} {out : am_S} (hl0 : isC 8 l0 = true) (hB : f_X8_takeSign N l0 l1 S = some out) : am_Met G 3 mX8_takeSign 0 0 [.ref l0, .int l1] (hp S) (q_v out) q_n := by
  refine am_of (by decide +kernel) rfl rfl rfl (Nat.le_of_ble_eq_true rfl) ?_
  unfold f_X8_takeSign at hB
  refine ev_aload_n dX8_takeSign_0 rfl ?_
  refine es_geti k_8 4 dX8_takeSign_1 (by decide) rfl (Or.inl w_54) hl0 rfl ?_
  refine ev_iload_n dX8_takeSign_4 rfl ?_
  refine ev_icmpeq 13 dX8_takeSign_5 (by decide) (fun q1 => ?_) (fun q1 => ?_)
  · rw [if_pos q1] at hB
    exact ev_ls (u_X8_takeSign_13 l0 S hl0 hB) (And.intro rfl trivial)
  · rw [if_neg q1] at hB
    refine ev_aload_n dX8_takeSign_8 rfl ?_
    refine ev_iconst 1 dX8_takeSign_9 (by decide) ?_
    obtain ⟨S3, e4, hB⟩ := bv_of hB
    refine es_callVv (As := [.int 1]) (t_X8_fail hl0 e4) dX8_takeSign_10 oX8_fail w_914 rfl hl0 rfl rfl (Nat.le_of_ble_eq_true rfl) rfl (am_fit.of (by decide)) ⟨Nat.zero_le _, Nat.zero_le _⟩ ?_
    exact ev_ls (u_X8_takeSign_13 l0 S3 hl0 hB) (And.intro rfl trivial)
def f_X0_clearAll (N : Nat) (l0 : Nat) (S : am_S) : Option (am_S) := some (sp (sp S l0 1 0) l0 2 0)
theorem t_X0_clearAll {G : am_G} {N : Nat} {l0 : Nat} {S : am_S} {out : am_S} (hl0 : isC 0 l0 = true) (hB : f_X0_clearAll N l0 S = some out) : am_Met G 1 mX0_clearAll 0 0 [.ref l0] (hp S) (q_v out) q_n := by
  refine am_of (by decide +kernel) rfl rfl rfl (Nat.le_of_ble_eq_true rfl) ?_
  unfold f_X0_clearAll at hB
  refine ev_aload_n dX0_clearAll_0 rfl ?_
  refine ev_iconst 0 dX0_clearAll_1 (by decide) ?_
  refine es_puti k_0 1 dX0_clearAll_2 (by decide) rfl (Or.inl w_523) rfl rfl hl0 rfl ?_
  refine ev_aload_n dX0_clearAll_5 rfl ?_
  refine ev_iconst 0 dX0_clearAll_6 (by decide) ?_
  refine es_puti k_0 2 dX0_clearAll_7 (by decide) rfl (Or.inl w_525) rfl rfl hl0 rfl ?_
  obtain rfl := Option.some.inj hB
  exact ev_vret dX0_clearAll_10 rfl (Nat.zero_le _) (Nat.zero_le _) (fun z => absurd z (hp_sealed _)) ⟨rfl, rfl⟩
def f_X3_clearAll (N : Nat) (l0 : Nat) (S : am_S) : Option (am_S) := some (sp S l0 3 0)
theorem t_X3_clearAll {G : am_G} {N : Nat} {l0 : Nat} {S : am_S} {out : am_S} (hl0 : isC 3 l0 = true) (hB : f_X3_clearAll N l0 S = some out) : am_Met G 1 mX3_clearAll 0 0 [.ref l0] (hp S) (q_v out) q_n := by
  refine am_of (by decide +kernel) rfl rfl rfl (Nat.le_of_ble_eq_true rfl) ?_
  unfold f_X3_clearAll at hB
  refine ev_aload_n dX3_clearAll_0 rfl ?_
  refine ev_iconst 0 dX3_clearAll_1 (by decide) ?_
  refine es_puti k_3 3 dX3_clearAll_2 (by decide) rfl (Or.inl w_542) rfl rfl hl0 rfl ?_
  obtain rfl := Option.some.inj hB
  exact ev_vret dX3_clearAll_5 rfl (Nat.zero_le _) (Nat.zero_le _) (fun z => absurd z (hp_sealed _)) ⟨rfl, rfl⟩
def f_X0_keep (N : Nat) (l0 : Nat) (l1 : Nat) (S : am_S) : Option (am_S) := (if cpk 0 ((sg S l0 2) * 80) 80 (ln (rf l1 0)) (ln (rf l0 0)) = true then some (sp (sp (scp S (rf l1 0) (Int32.toNatClampNeg 0) (rf l0 0) (Int32.toNatClampNeg ((sg S l0 2) * 80)) (Int32.toNatClampNeg 80)) l0 2 (((sg (scp S (rf l1 0) (Int32.toNatClampNeg 0) (rf l0 0) (Int32.toNatClampNeg ((sg S l0 2) * 80)) (Int32.toNatClampNeg 80)) l0 2) + 1) - ((sg (scp S (rf l1 0) (Int32.toNatClampNeg 0) (rf l0 0) (Int32.toNatClampNeg ((sg S l0 2) * 80)) (Int32.toNatClampNeg 80)) l0 2) + 1) / 40 * 40)) l0 1 (jmin 40 ((sg (sp (scp S (rf l1 0) (Int32.toNatClampNeg 0) (rf l0 0) (Int32.toNatClampNeg ((sg S l0 2) * 80)) (Int32.toNatClampNeg 80)) l0 2 (((sg (scp S (rf l1 0) (Int32.toNatClampNeg 0) (rf l0 0) (Int32.toNatClampNeg ((sg S l0 2) * 80)) (Int32.toNatClampNeg 80)) l0 2) + 1) - ((sg (scp S (rf l1 0) (Int32.toNatClampNeg 0) (rf l0 0) (Int32.toNatClampNeg ((sg S l0 2) * 80)) (Int32.toNatClampNeg 80)) l0 2) + 1) / 40 * 40)) l0 1) + 1))) else none)
theorem t_X0_keep {G : am_G} {N : Nat} {l0 : Nat} {l1 : Nat} {S : am_S} {out : am_S} (hl0 : isC 0 l0 = true) (hl1 : isC 7 l1 = true) (hB : f_X0_keep N l0 l1 S = some out) : am_Met G 1 mX0_keep 0 0 [.ref l0, .ref l1] (hp S) (q_v out) q_n := by
  refine am_of (by decide +kernel) rfl rfl rfl (Nat.le_of_ble_eq_true rfl) ?_
  unfold f_X0_keep at hB
  refine ev_aload_n dX0_keep_0 rfl ?_
  refine es_getr k_7 0 dX0_keep_1 (by decide) rfl (Or.inr ⟨_, n_512⟩) hl1 rfl ?_
  refine ev_iconst 0 dX0_keep_4 (by decide) ?_
  refine ev_aload_n dX0_keep_5 rfl ?_
  refine es_getr k_0 0 dX0_keep_6 (by decide) rfl (Or.inl w_522) hl0 rfl ?_
  refine ev_aload_n dX0_keep_9 rfl ?_
  refine es_geti k_0 2 dX0_keep_10 (by decide) rfl (Or.inl w_525) hl0 rfl ?_
  refine ev_bipush 80 dX0_keep_13 (by decide) ?_
  refine ev_imul dX0_keep_15 ?_
  refine ev_bipush 80 dX0_keep_16 (by decide) ?_
  obtain ⟨c1, hB⟩ := ck_of hB
  refine es_copy dX0_keep_18 w_660 j_nat j_sta j_ini (tr_7_0 hl1) (tr_0_0 hl0) c1 (Nat.le_of_ble_eq_true rfl) (am_fit.of (by decide)) ?_
  refine ev_aload_n dX0_keep_21 rfl ?_
  refine ev_aload_n dX0_keep_22 rfl ?_
  refine es_geti k_0 2 dX0_keep_23 (by decide) rfl (Or.inl w_525) hl0 rfl ?_
  refine ev_iconst 1 dX0_keep_26 (by decide) ?_
  refine ev_iadd dX0_keep_27 ?_
  refine ev_bipush 40 dX0_keep_28 (by decide) ?_
  refine ev_irem dX0_keep_30 (by decide) ?_
  refine es_puti k_0 2 dX0_keep_31 (by decide) rfl (Or.inl w_525) rfl rfl hl0 rfl ?_
  refine ev_aload_n dX0_keep_34 rfl ?_
  refine ev_bipush 40 dX0_keep_35 (by decide) ?_
  refine ev_aload_n dX0_keep_37 rfl ?_
  refine es_geti k_0 1 dX0_keep_38 (by decide) rfl (Or.inl w_523) hl0 rfl ?_
  refine ev_iconst 1 dX0_keep_41 (by decide) ?_
  refine ev_iadd dX0_keep_42 ?_
  refine es_min dX0_keep_43 w_661 (Nat.le_of_ble_eq_true rfl) (am_fit.of (by decide)) ⟨Nat.zero_le _, Nat.zero_le _⟩ ?_
  refine es_puti k_0 1 dX0_keep_46 (by decide) rfl (Or.inl w_523) rfl rfl hl0 rfl ?_
  obtain rfl := Option.some.inj hB
  exact ev_vret dX0_keep_49 rfl (Nat.zero_le _) (Nat.zero_le _) (fun z => absurd z (hp_sealed _)) ⟨rfl, rfl⟩
def b_X5_joined_121 (N : Nat) (z0 : Int32) (S : am_S) : Option (Int32 × am_S) := some (z0, S)
def b_X5_joined_97 (N : Nat) (z0 : Int32) (S : am_S) : Option (Int32 × am_S) := some (z0, S)
def b_X5_joined_86 (N : Nat) (z0 : Int32) (S : am_S) : Option (Int32 × am_S) := some (z0, S)
def b_X5_joined_75 (N : Nat) (z0 : Int32) (S : am_S) : Option (Int32 × am_S) := some (z0, S)
def b_X5_joined_74 (N : Nat)  (S : am_S) : Option (Int32 × am_S) := b_X5_joined_75 N 0 S
def b_X5_joined_61 (N : Nat) (z0 : Int32) (S : am_S) : Option (Int32 × am_S) := some (z0, S)
def b_X5_joined_56 (N : Nat)  (S : am_S) : Option (Int32 × am_S) := b_X5_joined_61 N 1 S
def f_X5_joined (N : Nat) (l0 : Int32) (l1 : Int32) (l2 : Int32) (S : am_S) : Option (Int32 × am_S) := (if l0 = 1 then (if l1 = 0 then (if l2 = 0 then b_X5_joined_61 N 0 S else b_X5_joined_56 N S) else b_X5_joined_56 N S) else (if l0 = 2 then (if l1 = 0 then b_X5_joined_74 N S else (if l2 = 0 then b_X5_joined_74 N S else b_X5_joined_75 N 1 S)) else (if l0 = 3 then (if l2 = 0 then b_X5_joined_121 N 0 S else (if l2 = 0 then none else b_X5_joined_121 N (l1 / l2) S)) else (if l0 = 4 then (if l2 ≤ l1 then b_X5_joined_86 N 0 S else b_X5_joined_86 N 1 S) else (if l0 = 5 then (if l1 = l2 then b_X5_joined_97 N 1 S else b_X5_joined_97 N 0 S) else (if l0 = 6 then some ((l1 + l2), S) else (if l0 = 7 then some ((l1 - l2), S) else (if l0 = 8 then some ((l1 * l2), S) else (if l2 = 0 then b_X5_joined_121 N 0 S else (if l2 = 0 then none else b_X5_joined_121 N (l1 / l2) S))))))))))
theorem u_X5_joined_121 {G : am_G} {N : Nat} {h0 : am_H} {out : Int32 × am_S} (z0 : Int32) (S : am_S) (hB : b_X5_joined_121 N z0 S = some out) : Ev G (am_R 1 0 0) (am_Φ G h0 0 0 (q_i out) q_n) mX5_joined 0 0 121 [none, none, none] [.int z0] (hp S) := by
  unfold b_X5_joined_121 at hB
  obtain rfl := Option.some.inj hB
  exact ev_iret dX5_joined_121 rfl (Nat.zero_le _) (Nat.zero_le _) (fun z => absurd z (hp_sealed _)) ⟨rfl, rfl⟩
theorem u_X5_joined_97 {G : am_G} {N : Nat} {h0 : am_H} {out : Int32 × am_S} (z0 : Int32) (S : am_S) (hB : b_X5_joined_97 N z0 S = some out) : Ev G (am_R 1 0 0) (am_Φ G h0 0 0 (q_i out) q_n) mX5_joined 0 0 97 [none, none, none] [.int z0] (hp S) := by
  unfold b_X5_joined_97 at hB
  obtain rfl := Option.some.inj hB
  exact ev_iret dX5_joined_97 rfl (Nat.zero_le _) (Nat.zero_le _) (fun z => absurd z (hp_sealed _)) ⟨rfl, rfl⟩
theorem u_X5_joined_86 {G : am_G} {N : Nat} {h0 : am_H} {out : Int32 × am_S} (z0 : Int32) (S : am_S) (hB : b_X5_joined_86 N z0 S = some out) : Ev G (am_R 1 0 0) (am_Φ G h0 0 0 (q_i out) q_n) mX5_joined 0 0 86 [none, none, none] [.int z0] (hp S) := by
  unfold b_X5_joined_86 at hB
  obtain rfl := Option.some.inj hB
  exact ev_iret dX5_joined_86 rfl (Nat.zero_le _) (Nat.zero_le _) (fun z => absurd z (hp_sealed _)) ⟨rfl, rfl⟩
theorem u_X5_joined_75 {G : am_G} {N : Nat} {h0 : am_H} {out : Int32 × am_S} (z0 : Int32) (S : am_S) (hB : b_X5_joined_75 N z0 S = some out) : Ev G (am_R 1 0 0) (am_Φ G h0 0 0 (q_i out) q_n) mX5_joined 0 0 75 [none, none, none] [.int z0] (hp S) := by
  unfold b_X5_joined_75 at hB
  obtain rfl := Option.some.inj hB
  exact ev_iret dX5_joined_75 rfl (Nat.zero_le _) (Nat.zero_le _) (fun z => absurd z (hp_sealed _)) ⟨rfl, rfl⟩
theorem u_X5_joined_74 {G : am_G} {N : Nat} {h0 : am_H} {out : Int32 × am_S}  (S : am_S) (hB : b_X5_joined_74 N  S = some out) : Ev G (am_R 1 0 0) (am_Φ G h0 0 0 (q_i out) q_n) mX5_joined 0 0 74 [none, none, none] [] (hp S) := by
  unfold b_X5_joined_74 at hB
  refine ev_iconst 0 dX5_joined_74 (by decide) ?_
  exact ev_ls (u_X5_joined_75 0 S hB) trivial
theorem u_X5_joined_61 {G : am_G} {N : Nat} {h0 : am_H} {out : Int32 × am_S} (z0 : Int32) (S : am_S) (hB : b_X5_joined_61 N z0 S = some out) : Ev G (am_R 1 0 0) (am_Φ G h0 0 0 (q_i out) q_n) mX5_joined 0 0 61 [none, none, none] [.int z0] (hp S) := by
  unfold b_X5_joined_61 at hB
  obtain rfl := Option.some.inj hB
  exact ev_iret dX5_joined_61 rfl (Nat.zero_le _) (Nat.zero_le _) (fun z => absurd z (hp_sealed _)) ⟨rfl, rfl⟩
theorem u_X5_joined_56 {G : am_G} {N : Nat} {h0 : am_H} {out : Int32 × am_S}  (S : am_S) (hB : b_X5_joined_56 N  S = some out) : Ev G (am_R 1 0 0) (am_Φ G h0 0 0 (q_i out) q_n) mX5_joined 0 0 56 [none, none, none] [] (hp S) := by
  unfold b_X5_joined_56 at hB
  refine ev_iconst 1 dX5_joined_56 (by decide) ?_
  refine ev_goto 61 dX5_joined_57 (by decide) ?_
  exact ev_ls (u_X5_joined_61 1 S hB) trivial
theorem t_X5_joined {G : am_G} {N : Nat} {l0 : Int32} {l1 : Int32} {l2 : Int32} {S : am_S} {out : Int32 × am_S} (hB : f_X5_joined N l0 l1 l2 S = some out) : am_Met G 1 mX5_joined 0 0 [.int l0, .int l1, .int l2] (hp S) (q_i out) q_n := by
  refine am_of (by decide +kernel) rfl rfl rfl (Nat.le_of_ble_eq_true rfl) ?_
  unfold f_X5_joined at hB
  refine ev_iload_n dX5_joined_0 rfl ?_
  by_cases q3 : l0 = 1
  · rw [if_pos q3] at hB
    refine ev_tableIn (off := 47) 48 dX5_joined_1 (by rw [q3]; decide) (by rw [q3]; decide) (by rw [q3]; rfl) (by decide) ?_
    refine ev_iload_n dX5_joined_48 rfl ?_
    refine ev_ifne 56 dX5_joined_49 (by decide) (fun q1 => ?_) (fun q1 => ?_)
    · rw [if_neg q1] at hB
      exact ev_ls (u_X5_joined_56 S hB) trivial
    · rw [if_pos q1] at hB
      refine ev_iload_n dX5_joined_52 rfl ?_
      refine ev_ifeq 60 dX5_joined_53 (by decide) (fun q2 => ?_) (fun q2 => ?_)
      · rw [if_pos q2] at hB
        refine ev_iconst 0 dX5_joined_60 (by decide) ?_
        exact ev_ls (u_X5_joined_61 0 S hB) trivial
      · rw [if_neg q2] at hB
        exact ev_ls (u_X5_joined_56 S hB) trivial
  rw [if_neg q3] at hB
  have tq3 := am_nt (k := 1) q3 (by decide)
  by_cases q6 : l0 = 2
  · rw [if_pos q6] at hB
    refine ev_tableIn (off := 61) 62 dX5_joined_1 (by rw [q6]; decide) (by rw [q6]; decide) (by rw [q6]; rfl) (by decide) ?_
    refine ev_iload_n dX5_joined_62 rfl ?_
    refine ev_ifeq 74 dX5_joined_63 (by decide) (fun q4 => ?_) (fun q4 => ?_)
    · rw [if_pos q4] at hB
      exact ev_ls (u_X5_joined_74 S hB) trivial
    · rw [if_neg q4] at hB
      refine ev_iload_n dX5_joined_66 rfl ?_
      refine ev_ifeq 74 dX5_joined_67 (by decide) (fun q5 => ?_) (fun q5 => ?_)
      · rw [if_pos q5] at hB
        exact ev_ls (u_X5_joined_74 S hB) trivial
      · rw [if_neg q5] at hB
        refine ev_iconst 1 dX5_joined_70 (by decide) ?_
        refine ev_goto 75 dX5_joined_71 (by decide) ?_
        exact ev_ls (u_X5_joined_75 1 S hB) trivial
  rw [if_neg q6] at hB
  have tq6 := am_nt (k := 2) q6 (by decide)
  by_cases q9 : l0 = 3
  · rw [if_pos q9] at hB
    refine ev_tableIn (off := 109) 110 dX5_joined_1 (by rw [q9]; decide) (by rw [q9]; decide) (by rw [q9]; rfl) (by decide) ?_
    refine ev_iload_n dX5_joined_110 rfl ?_
    refine ev_ifne 118 dX5_joined_111 (by decide) (fun q7 => ?_) (fun q7 => ?_)
    · rw [if_neg q7] at hB
      refine ev_iload_n dX5_joined_118 rfl ?_
      refine ev_iload_n dX5_joined_119 rfl ?_
      obtain ⟨c8, hB⟩ := ckn_of hB
      refine ev_idiv dX5_joined_120 c8 ?_
      exact ev_ls (u_X5_joined_121 (l1 / l2) S hB) trivial
    · rw [if_pos q7] at hB
      refine ev_iconst 0 dX5_joined_114 (by decide) ?_
      refine ev_goto 121 dX5_joined_115 (by decide) ?_
      exact ev_ls (u_X5_joined_121 0 S hB) trivial
  rw [if_neg q9] at hB
  have tq9 := am_nt (k := 3) q9 (by decide)
  by_cases q11 : l0 = 4
  · rw [if_pos q11] at hB
    refine ev_tableIn (off := 75) 76 dX5_joined_1 (by rw [q11]; decide) (by rw [q11]; decide) (by rw [q11]; rfl) (by decide) ?_
    refine ev_iload_n dX5_joined_76 rfl ?_
    refine ev_iload_n dX5_joined_77 rfl ?_
    refine ev_icmpge 85 dX5_joined_78 (by decide) (fun q10 => ?_) (fun q10 => ?_)
    · rw [if_pos q10] at hB
      refine ev_iconst 0 dX5_joined_85 (by decide) ?_
      exact ev_ls (u_X5_joined_86 0 S hB) trivial
    · rw [if_neg q10] at hB
      refine ev_iconst 1 dX5_joined_81 (by decide) ?_
      refine ev_goto 86 dX5_joined_82 (by decide) ?_
      exact ev_ls (u_X5_joined_86 1 S hB) trivial
  rw [if_neg q11] at hB
  have tq11 := am_nt (k := 4) q11 (by decide)
  by_cases q13 : l0 = 5
  · rw [if_pos q13] at hB
    refine ev_tableIn (off := 86) 87 dX5_joined_1 (by rw [q13]; decide) (by rw [q13]; decide) (by rw [q13]; rfl) (by decide) ?_
    refine ev_iload_n dX5_joined_87 rfl ?_
    refine ev_iload_n dX5_joined_88 rfl ?_
    refine ev_icmpne 96 dX5_joined_89 (by decide) (fun q12 => ?_) (fun q12 => ?_)
    · rw [if_neg q12] at hB
      refine ev_iconst 0 dX5_joined_96 (by decide) ?_
      exact ev_ls (u_X5_joined_97 0 S hB) trivial
    · rw [if_pos q12] at hB
      refine ev_iconst 1 dX5_joined_92 (by decide) ?_
      refine ev_goto 97 dX5_joined_93 (by decide) ?_
      exact ev_ls (u_X5_joined_97 1 S hB) trivial
  rw [if_neg q13] at hB
  have tq13 := am_nt (k := 5) q13 (by decide)
  by_cases q14 : l0 = 6
  · rw [if_pos q14] at hB
    refine ev_tableIn (off := 97) 98 dX5_joined_1 (by rw [q14]; decide) (by rw [q14]; decide) (by rw [q14]; rfl) (by decide) ?_
    refine ev_iload_n dX5_joined_98 rfl ?_
    refine ev_iload_n dX5_joined_99 rfl ?_
    refine ev_iadd dX5_joined_100 ?_
    obtain rfl := Option.some.inj hB
    exact ev_iret dX5_joined_101 rfl (Nat.zero_le _) (Nat.zero_le _) (fun z => absurd z (hp_sealed _)) ⟨rfl, rfl⟩
  rw [if_neg q14] at hB
  have tq14 := am_nt (k := 6) q14 (by decide)
  by_cases q15 : l0 = 7
  · rw [if_pos q15] at hB
    refine ev_tableIn (off := 101) 102 dX5_joined_1 (by rw [q15]; decide) (by rw [q15]; decide) (by rw [q15]; rfl) (by decide) ?_
    refine ev_iload_n dX5_joined_102 rfl ?_
    refine ev_iload_n dX5_joined_103 rfl ?_
    refine ev_isub dX5_joined_104 ?_
    obtain rfl := Option.some.inj hB
    exact ev_iret dX5_joined_105 rfl (Nat.zero_le _) (Nat.zero_le _) (fun z => absurd z (hp_sealed _)) ⟨rfl, rfl⟩
  rw [if_neg q15] at hB
  have tq15 := am_nt (k := 7) q15 (by decide)
  by_cases q16 : l0 = 8
  · rw [if_pos q16] at hB
    refine ev_tableIn (off := 105) 106 dX5_joined_1 (by rw [q16]; decide) (by rw [q16]; decide) (by rw [q16]; rfl) (by decide) ?_
    refine ev_iload_n dX5_joined_106 rfl ?_
    refine ev_iload_n dX5_joined_107 rfl ?_
    refine ev_imul dX5_joined_108 ?_
    obtain rfl := Option.some.inj hB
    exact ev_iret dX5_joined_109 rfl (Nat.zero_le _) (Nat.zero_le _) (fun z => absurd z (hp_sealed _)) ⟨rfl, rfl⟩
  rw [if_neg q16] at hB
  have tq16 := am_nt (k := 8) q16 (by decide)
  refine ev_tableOut 110 dX5_joined_1 (by omega) (by decide) ?_
  refine ev_iload_n dX5_joined_110 rfl ?_
  refine ev_ifne 118 dX5_joined_111 (by decide) (fun q17 => ?_) (fun q17 => ?_)
  · rw [if_neg q17] at hB
    refine ev_iload_n dX5_joined_118 rfl ?_
    refine ev_iload_n dX5_joined_119 rfl ?_
    obtain ⟨c18, hB⟩ := ckn_of hB
    refine ev_idiv dX5_joined_120 c18 ?_
    exact ev_ls (u_X5_joined_121 (l1 / l2) S hB) trivial
  · rw [if_pos q17] at hB
    refine ev_iconst 0 dX5_joined_114 (by decide) ?_
    refine ev_goto 121 dX5_joined_115 (by decide) ?_
    exact ev_ls (u_X5_joined_121 0 S hB) trivial
def b_X5_worth_145 (N : Nat) (k4 : Nat → Nat → Int32 → Int32 → am_S → Option (Int32 × am_S)) (l0 : Nat) (l1 : Nat) (l2 : Int32) (l3 : Int32) (S : am_S) : Option (Int32 × am_S) := k4 l0 l1 l2 (l3 + 1) S
def b_X5_worth_55 (N : Nat) (k4 : Nat → Nat → Int32 → Int32 → am_S → Option (Int32 × am_S)) (l0 : Nat) (l1 : Nat) (l2 : Int32) (l3 : Int32) (z0 : Nat) (z1 : Int32) (z2 : Int32) (S : am_S) : Option (Int32 × am_S) := (if inb z1 (ln z0) = true then b_X5_worth_145 N (k4) l0 l1 l2 l3 (sp S z0 (Int32.toNatClampNeg z1) z2) else none)
def b_X5_worth_141 (N : Nat) (k4 : Nat → Nat → Int32 → Int32 → am_S → Option (Int32 × am_S)) (l0 : Nat) (l1 : Nat) (l2 : Int32) (l3 : Int32) (z0 : Nat) (z1 : Int32) (z2 : Int32) (S : am_S) : Option (Int32 × am_S) := (if inb z1 (ln z0) = true then b_X5_worth_145 N (k4) l0 l1 (l2 + 1) l3 (sp S z0 (Int32.toNatClampNeg z1) z2) else none)
def b_X5_worth_4 (N : Nat) : Nat → Nat → Nat → Int32 → Int32 → am_S → Option (Int32 × am_S)
  | 0, _, _, _, _, _ => none
  | n + 1, l0, l1, l2, l3, S => (if (sg S l0 1) ≤ l3 then (if inb 0 (ln (rf l0 2)) = true then some ((sg S (rf l0 2) (Int32.toNatClampNeg 0)), S) else none) else (if inb l3 (ln (rf l0 0)) = true then (if (sg S (rf l0 0) (Int32.toNatClampNeg l3)) = 20003 then (if l2 ≤ 0 then b_X5_worth_145 N (b_X5_worth_4 N n) l0 l1 l2 l3 S else (if inb (l2 - 1) (ln (rf l0 2)) = true then (if (sg S (rf l0 2) (Int32.toNatClampNeg (l2 - 1))) = 0 then b_X5_worth_55 N (b_X5_worth_4 N n) l0 l1 l2 l3 (rf l0 2) (l2 - 1) 1 S else b_X5_worth_55 N (b_X5_worth_4 N n) l0 l1 l2 l3 (rf l0 2) (l2 - 1) 0 S) else none)) else (if (sg S (rf l0 0) (Int32.toNatClampNeg l3)) < 20000 then (if 40 ≤ l2 then b_X5_worth_145 N (b_X5_worth_4 N n) l0 l1 l2 l3 S else (if (sg S (rf l0 0) (Int32.toNatClampNeg l3)) < 10000 then b_X5_worth_141 N (b_X5_worth_4 N n) l0 l1 l2 l3 (rf l0 2) l2 (sg S (rf l0 0) (Int32.toNatClampNeg l3)) S else (if inb ((sg S (rf l0 0) (Int32.toNatClampNeg l3)) - 10000) (ln l1) = true then b_X5_worth_141 N (b_X5_worth_4 N n) l0 l1 l2 l3 (rf l0 2) l2 (sg S l1 (Int32.toNatClampNeg ((sg S (rf l0 0) (Int32.toNatClampNeg l3)) - 10000))) S else none))) else (if l2 ≤ 1 then b_X5_worth_145 N (b_X5_worth_4 N n) l0 l1 l2 l3 S else (if inb ((l2 + (-1)) - 1) (ln (rf l0 2)) = true then (if inb (l2 + (-1)) (ln (rf l0 2)) = true then (bd (f_X5_joined N ((sg S (rf l0 0) (Int32.toNatClampNeg l3)) - 20000) (sg S (rf l0 2) (Int32.toNatClampNeg ((l2 + (-1)) - 1))) (sg S (rf l0 2) (Int32.toNatClampNeg (l2 + (-1)))) S) (fun r12 S13 => (if inb ((l2 + (-1)) - 1) (ln (rf l0 2)) = true then b_X5_worth_145 N (b_X5_worth_4 N n) l0 l1 (l2 + (-1)) l3 (sp S13 (rf l0 2) (Int32.toNatClampNeg ((l2 + (-1)) - 1)) r12) else none))) else none) else none)))) else none))
def f_X5_worth (N : Nat) (l0 : Nat) (l1 : Nat) (S : am_S) : Option (Int32 × am_S) := b_X5_worth_4 N N l0 l1 0 0 S
theorem u_X5_worth_145 {G : am_G} {N : Nat} {h0 : am_H} {out : Int32 × am_S} {k4 : Nat → Nat → Int32 → Int32 → am_S → Option (Int32 × am_S)} (hk4 : ∀ (l0 : Nat) (l1 : Nat) (l2 : Int32) (l3 : Int32) (S : am_S), isC 5 l0 = true → isAr 1 l1 = true → k4 l0 l1 l2 l3 S = some out → Ev G (am_R 2 0 0) (am_Φ G h0 0 0 (q_i out) q_n) mX5_worth 0 0 4 [some (.ref l0), some (.ref l1), some (.int l2), some (.int l3), none] [] (hp S)) (l0 : Nat) (l1 : Nat) (l2 : Int32) (l3 : Int32) (S : am_S) (hl0 : isC 5 l0 = true) (hl1 : isAr 1 l1 = true) (hB : b_X5_worth_145 N k4 l0 l1 l2 l3 S = some out) : Ev G (am_R 2 0 0) (am_Φ G h0 0 0 (q_i out) q_n) mX5_worth 0 0 145 [some (.ref l0), some (.ref l1), some (.int l2), some (.int l3), none] [] (hp S) := by
  unfold b_X5_worth_145 at hB
  refine es_iinc 1 dX5_worth_145 rfl (by decide) (by decide) rfl ?_
  refine ev_goto 4 dX5_worth_148 (by decide) ?_
  exact ev_ls (hk4 l0 l1 l2 (l3 + 1) S hl0 hl1 hB) (And.intro rfl (And.intro rfl (And.intro rfl (And.intro rfl trivial))))
theorem u_X5_worth_55 {G : am_G} {N : Nat} {h0 : am_H} {out : Int32 × am_S} {k4 : Nat → Nat → Int32 → Int32 → am_S → Option (Int32 × am_S)} (hk4 : ∀ (l0 : Nat) (l1 : Nat) (l2 : Int32) (l3 : Int32) (S : am_S), isC 5 l0 = true → isAr 1 l1 = true → k4 l0 l1 l2 l3 S = some out → Ev G (am_R 2 0 0) (am_Φ G h0 0 0 (q_i out) q_n) mX5_worth 0 0 4 [some (.ref l0), some (.ref l1), some (.int l2), some (.int l3), none] [] (hp S)) (l0 : Nat) (l1 : Nat) (l2 : Int32) (l3 : Int32) (z0 : Nat) (z1 : Int32) (z2 : Int32) (S : am_S) (hl0 : isC 5 l0 = true) (hl1 : isAr 1 l1 = true) (hz0 : isAr 1 z0 = true) (hB : b_X5_worth_55 N k4 l0 l1 l2 l3 z0 z1 z2 S = some out) : Ev G (am_R 2 0 0) (am_Φ G h0 0 0 (q_i out) q_n) mX5_worth 0 0 55 [some (.ref l0), some (.ref l1), some (.int l2), some (.int l3), none] [.int z2, .int z1, .ref z0] (hp S) := by
  unfold b_X5_worth_55 at hB
  obtain ⟨c1, hB⟩ := ck_of hB
  refine es_iast dX5_worth_55 hz0 c1 ?_
  refine ev_goto 145 dX5_worth_56 (by decide) ?_
  exact ev_ls (u_X5_worth_145 hk4 l0 l1 l2 l3 (sp S z0 (Int32.toNatClampNeg z1) z2) hl0 hl1 hB) (And.intro rfl (And.intro rfl (And.intro rfl (And.intro rfl trivial))))
theorem u_X5_worth_141 {G : am_G} {N : Nat} {h0 : am_H} {out : Int32 × am_S} {k4 : Nat → Nat → Int32 → Int32 → am_S → Option (Int32 × am_S)} (hk4 : ∀ (l0 : Nat) (l1 : Nat) (l2 : Int32) (l3 : Int32) (S : am_S), isC 5 l0 = true → isAr 1 l1 = true → k4 l0 l1 l2 l3 S = some out → Ev G (am_R 2 0 0) (am_Φ G h0 0 0 (q_i out) q_n) mX5_worth 0 0 4 [some (.ref l0), some (.ref l1), some (.int l2), some (.int l3), none] [] (hp S)) (l0 : Nat) (l1 : Nat) (l2 : Int32) (l3 : Int32) (z0 : Nat) (z1 : Int32) (z2 : Int32) (S : am_S) (hl0 : isC 5 l0 = true) (hl1 : isAr 1 l1 = true) (hz0 : isAr 1 z0 = true) (hB : b_X5_worth_141 N k4 l0 l1 l2 l3 z0 z1 z2 S = some out) : Ev G (am_R 2 0 0) (am_Φ G h0 0 0 (q_i out) q_n) mX5_worth 0 0 141 [some (.ref l0), some (.ref l1), some (.int l2), some (.int l3), none] [.int z2, .int z1, .ref z0] (hp S) := by
  unfold b_X5_worth_141 at hB
  obtain ⟨c1, hB⟩ := ck_of hB
  refine es_iast dX5_worth_141 hz0 c1 ?_
  refine es_iinc 1 dX5_worth_142 rfl (by decide) (by decide) rfl ?_
  exact ev_ls (u_X5_worth_145 hk4 l0 l1 (l2 + 1) l3 (sp S z0 (Int32.toNatClampNeg z1) z2) hl0 hl1 hB) (And.intro rfl (And.intro rfl (And.intro rfl (And.intro rfl trivial))))
theorem u_X5_worth_4 {G : am_G} {N : Nat} {h0 : am_H} {out : Int32 × am_S} : ∀ (n : Nat) (l0 : Nat) (l1 : Nat) (l2 : Int32) (l3 : Int32) (S : am_S), isC 5 l0 = true → isAr 1 l1 = true → b_X5_worth_4 N n l0 l1 l2 l3 S = some out → Ev G (am_R 2 0 0) (am_Φ G h0 0 0 (q_i out) q_n) mX5_worth 0 0 4 [some (.ref l0), some (.ref l1), some (.int l2), some (.int l3), none] [] (hp S) := by
  intro n
  induction n with
  | zero =>
    intro l0 l1 l2 l3 S hl0 hl1 hB
    exact absurd (show none = some out from hB) (fun q => by cases q)
  | succ n ih =>
    intro l0 l1 l2 l3 S hl0 hl1 hB
    unfold b_X5_worth_4 at hB
    refine ev_iload_n dX5_worth_4 rfl ?_
    refine ev_aload_n dX5_worth_5 rfl ?_
    refine es_geti k_5 1 dX5_worth_6 (by decide) rfl (Or.inl w_124) hl0 rfl ?_
    refine ev_icmpge 151 dX5_worth_9 (by decide) (fun q1 => ?_) (fun q1 => ?_)
    · rw [if_pos q1] at hB
      refine ev_aload_n dX5_worth_151 rfl ?_
      refine es_getr k_5 2 dX5_worth_152 (by decide) rfl (Or.inl w_125) hl0 rfl ?_
      refine ev_iconst 0 dX5_worth_155 (by decide) ?_
      obtain ⟨c2, hB⟩ := ck_of hB
      refine es_iald dX5_worth_156 (tr_5_2 hl0) c2 ?_
      obtain rfl := Option.some.inj hB
      exact ev_iret dX5_worth_157 rfl (Nat.zero_le _) (Nat.zero_le _) (fun z => absurd z (hp_sealed _)) ⟨rfl, rfl⟩
    · rw [if_neg q1] at hB
      refine ev_aload_n dX5_worth_12 rfl ?_
      refine es_getr k_5 0 dX5_worth_13 (by decide) rfl (Or.inl w_123) hl0 rfl ?_
      refine ev_iload_n dX5_worth_16 rfl ?_
      obtain ⟨c3, hB⟩ := ck_of hB
      refine es_iald dX5_worth_17 (tr_5_0 hl0) c3 ?_
      refine ev_istore dX5_worth_18 (by decide) rfl ?_
      refine ev_iload dX5_worth_20 rfl ?_
      refine ev_sipush 20003 dX5_worth_22 (by decide) ?_
      refine ev_icmpne 59 dX5_worth_25 (by decide) (fun q4 => ?_) (fun q4 => ?_)
      · rw [if_neg q4] at hB
        refine ev_iload dX5_worth_59 rfl ?_
        refine ev_sipush 20000 dX5_worth_61 (by decide) ?_
        refine ev_icmplt 109 dX5_worth_64 (by decide) (fun q5 => ?_) (fun q5 => ?_)
        · rw [if_pos q5] at hB
          refine ev_iload_n dX5_worth_109 rfl ?_
          refine ev_bipush 40 dX5_worth_110 (by decide) ?_
          refine ev_icmpge 145 dX5_worth_112 (by decide) (fun q6 => ?_) (fun q6 => ?_)
          · rw [if_pos q6] at hB
            exact ev_ls (u_X5_worth_145 ih l0 l1 l2 l3 S hl0 hl1 hB) (And.intro rfl (And.intro rfl (And.intro rfl (And.intro rfl trivial))))
          · rw [if_neg q6] at hB
            refine ev_aload_n dX5_worth_115 rfl ?_
            refine es_getr k_5 2 dX5_worth_116 (by decide) rfl (Or.inl w_125) hl0 rfl ?_
            refine ev_iload_n dX5_worth_119 rfl ?_
            refine ev_iload dX5_worth_120 rfl ?_
            refine ev_sipush 10000 dX5_worth_122 (by decide) ?_
            refine ev_icmplt 139 dX5_worth_125 (by decide) (fun q7 => ?_) (fun q7 => ?_)
            · rw [if_pos q7] at hB
              refine ev_iload dX5_worth_139 rfl ?_
              exact ev_ls (u_X5_worth_141 ih l0 l1 l2 l3 (rf l0 2) l2 (sg S (rf l0 0) (Int32.toNatClampNeg l3)) S hl0 hl1 (tr_5_2 hl0) hB) (And.intro rfl (And.intro rfl (And.intro rfl (And.intro rfl trivial))))
            · rw [if_neg q7] at hB
              refine ev_aload_n dX5_worth_128 rfl ?_
              refine ev_iload dX5_worth_129 rfl ?_
              refine ev_sipush 10000 dX5_worth_131 (by decide) ?_
              refine ev_isub dX5_worth_134 ?_
              obtain ⟨c8, hB⟩ := ck_of hB
              refine es_iald dX5_worth_135 hl1 c8 ?_
              refine ev_goto 141 dX5_worth_136 (by decide) ?_
              exact ev_ls (u_X5_worth_141 ih l0 l1 l2 l3 (rf l0 2) l2 (sg S l1 (Int32.toNatClampNeg ((sg S (rf l0 0) (Int32.toNatClampNeg l3)) - 10000))) S hl0 hl1 (tr_5_2 hl0) hB) (And.intro rfl (And.intro rfl (And.intro rfl (And.intro rfl trivial))))
        · rw [if_neg q5] at hB
          refine ev_iload_n dX5_worth_67 rfl ?_
          refine ev_iconst 1 dX5_worth_68 (by decide) ?_
          refine ev_icmple 145 dX5_worth_69 (by decide) (fun q9 => ?_) (fun q9 => ?_)
          · rw [if_pos q9] at hB
            exact ev_ls (u_X5_worth_145 ih l0 l1 l2 l3 S hl0 hl1 hB) (And.intro rfl (And.intro rfl (And.intro rfl (And.intro rfl trivial))))
          · rw [if_neg q9] at hB
            refine es_iinc (-1) dX5_worth_72 rfl (by decide) (by decide) rfl ?_
            refine ev_aload_n dX5_worth_75 rfl ?_
            refine es_getr k_5 2 dX5_worth_76 (by decide) rfl (Or.inl w_125) hl0 rfl ?_
            refine ev_iload_n dX5_worth_79 rfl ?_
            refine ev_iconst 1 dX5_worth_80 (by decide) ?_
            refine ev_isub dX5_worth_81 ?_
            refine ev_iload dX5_worth_82 rfl ?_
            refine ev_sipush 20000 dX5_worth_84 (by decide) ?_
            refine ev_isub dX5_worth_87 ?_
            refine ev_aload_n dX5_worth_88 rfl ?_
            refine es_getr k_5 2 dX5_worth_89 (by decide) rfl (Or.inl w_125) hl0 rfl ?_
            refine ev_iload_n dX5_worth_92 rfl ?_
            refine ev_iconst 1 dX5_worth_93 (by decide) ?_
            refine ev_isub dX5_worth_94 ?_
            obtain ⟨c10, hB⟩ := ck_of hB
            refine es_iald dX5_worth_95 (tr_5_2 hl0) c10 ?_
            refine ev_aload_n dX5_worth_96 rfl ?_
            refine es_getr k_5 2 dX5_worth_97 (by decide) rfl (Or.inl w_125) hl0 rfl ?_
            refine ev_iload_n dX5_worth_100 rfl ?_
            obtain ⟨c11, hB⟩ := ck_of hB
            refine es_iald dX5_worth_101 (tr_5_2 hl0) c11 ?_
            obtain ⟨r12, S13, e14, hB⟩ := bd_of hB
            refine es_callSi (As := [.int ((sg S (rf l0 0) (Int32.toNatClampNeg l3)) - 20000), .int (sg S (rf l0 2) (Int32.toNatClampNeg ((l2 + (-1)) - 1))), .int (sg S (rf l0 2) (Int32.toNatClampNeg (l2 + (-1))))]) (t_X5_joined e14) dX5_worth_102 oX5_joined w_714 rfl (Nat.le_of_ble_eq_true rfl) rfl (am_fit.of (by decide)) ⟨Nat.zero_le _, Nat.zero_le _⟩ ?_
            obtain ⟨c15, hB⟩ := ck_of hB
            refine es_iast dX5_worth_105 (tr_5_2 hl0) c15 ?_
            refine ev_goto 145 dX5_worth_106 (by decide) ?_
            exact ev_ls (u_X5_worth_145 ih l0 l1 (l2 + (-1)) l3 (sp S13 (rf l0 2) (Int32.toNatClampNeg ((l2 + (-1)) - 1)) r12) hl0 hl1 hB) (And.intro rfl (And.intro rfl (And.intro rfl (And.intro rfl trivial))))
      · rw [if_pos q4] at hB
        refine ev_iload_n dX5_worth_28 rfl ?_
        refine ev_ifle 145 dX5_worth_29 (by decide) (fun q16 => ?_) (fun q16 => ?_)
        · rw [if_pos q16] at hB
          exact ev_ls (u_X5_worth_145 ih l0 l1 l2 l3 S hl0 hl1 hB) (And.intro rfl (And.intro rfl (And.intro rfl (And.intro rfl trivial))))
        · rw [if_neg q16] at hB
          refine ev_aload_n dX5_worth_32 rfl ?_
          refine es_getr k_5 2 dX5_worth_33 (by decide) rfl (Or.inl w_125) hl0 rfl ?_
          refine ev_iload_n dX5_worth_36 rfl ?_
          refine ev_iconst 1 dX5_worth_37 (by decide) ?_
          refine ev_isub dX5_worth_38 ?_
          refine ev_aload_n dX5_worth_39 rfl ?_
          refine es_getr k_5 2 dX5_worth_40 (by decide) rfl (Or.inl w_125) hl0 rfl ?_
          refine ev_iload_n dX5_worth_43 rfl ?_
          refine ev_iconst 1 dX5_worth_44 (by decide) ?_
          refine ev_isub dX5_worth_45 ?_
          obtain ⟨c17, hB⟩ := ck_of hB
          refine es_iald dX5_worth_46 (tr_5_2 hl0) c17 ?_
          refine ev_ifne 54 dX5_worth_47 (by decide) (fun q18 => ?_) (fun q18 => ?_)
          · rw [if_neg q18] at hB
            refine ev_iconst 0 dX5_worth_54 (by decide) ?_
            exact ev_ls (u_X5_worth_55 ih l0 l1 l2 l3 (rf l0 2) (l2 - 1) 0 S hl0 hl1 (tr_5_2 hl0) hB) (And.intro rfl (And.intro rfl (And.intro rfl (And.intro rfl trivial))))
          · rw [if_pos q18] at hB
            refine ev_iconst 1 dX5_worth_50 (by decide) ?_
            refine ev_goto 55 dX5_worth_51 (by decide) ?_
            exact ev_ls (u_X5_worth_55 ih l0 l1 l2 l3 (rf l0 2) (l2 - 1) 1 S hl0 hl1 (tr_5_2 hl0) hB) (And.intro rfl (And.intro rfl (And.intro rfl (And.intro rfl trivial))))
theorem t_X5_worth {G : am_G} {N : Nat} {l0 : Nat} {l1 : Nat} {S : am_S} {out : Int32 × am_S} (hl0 : isC 5 l0 = true) (hl1 : isAr 1 l1 = true) (hB : f_X5_worth N l0 l1 S = some out) : am_Met G 2 mX5_worth 0 0 [.ref l0, .ref l1] (hp S) (q_i out) q_n := by
  refine am_of (by decide +kernel) rfl rfl rfl (Nat.le_of_ble_eq_true rfl) ?_
  unfold f_X5_worth at hB
  refine ev_iconst 0 dX5_worth_0 (by decide) ?_
  refine ev_istore_n dX5_worth_1 (by decide) rfl ?_
  refine ev_iconst 0 dX5_worth_2 (by decide) ?_
  refine ev_istore_n dX5_worth_3 (by decide) rfl ?_
  exact ev_ls (u_X5_worth_4 N l0 l1 0 0 S hl0 hl1 hB) (And.intro rfl (And.intro rfl (And.intro rfl (And.intro rfl trivial))))
def b_X9_keptWithin_17 (N : Nat) (z0 : Int32) (S : am_S) : Option (Int32 × am_S) := some (z0, S)
def f_X9_keptWithin (N : Nat) (l0 : Int32) (l1 : Int32) (l2 : Int32) (S : am_S) : Option (Int32 × am_S) := (if l1 ≤ l0 then (if l0 ≤ l2 then b_X9_keptWithin_17 N l0 S else b_X9_keptWithin_17 N l2 S) else some (l1, S))
theorem u_X9_keptWithin_17 {G : am_G} {N : Nat} {h0 : am_H} {out : Int32 × am_S} (z0 : Int32) (S : am_S) (hB : b_X9_keptWithin_17 N z0 S = some out) : Ev G (am_R 1 0 0) (am_Φ G h0 0 0 (q_i out) q_n) mX9_keptWithin 0 0 17 [none, none, none] [.int z0] (hp S) := by
  unfold b_X9_keptWithin_17 at hB
  obtain rfl := Option.some.inj hB
  exact ev_iret dX9_keptWithin_17 rfl (Nat.zero_le _) (Nat.zero_le _) (fun z => absurd z (hp_sealed _)) ⟨rfl, rfl⟩
theorem t_X9_keptWithin {G : am_G} {N : Nat} {l0 : Int32} {l1 : Int32} {l2 : Int32} {S : am_S} {out : Int32 × am_S} (hB : f_X9_keptWithin N l0 l1 l2 S = some out) : am_Met G 1 mX9_keptWithin 0 0 [.int l0, .int l1, .int l2] (hp S) (q_i out) q_n := by
  refine am_of (by decide +kernel) rfl rfl rfl (Nat.le_of_ble_eq_true rfl) ?_
  unfold f_X9_keptWithin at hB
  refine ev_iload_n dX9_keptWithin_0 rfl ?_
  refine ev_iload_n dX9_keptWithin_1 rfl ?_
  refine ev_icmpge 7 dX9_keptWithin_2 (by decide) (fun q1 => ?_) (fun q1 => ?_)
  · rw [if_pos q1] at hB
    refine ev_iload_n dX9_keptWithin_7 rfl ?_
    refine ev_iload_n dX9_keptWithin_8 rfl ?_
    refine ev_icmple 16 dX9_keptWithin_9 (by decide) (fun q2 => ?_) (fun q2 => ?_)
    · rw [if_pos q2] at hB
      refine ev_iload_n dX9_keptWithin_16 rfl ?_
      exact ev_ls (u_X9_keptWithin_17 l0 S hB) trivial
    · rw [if_neg q2] at hB
      refine ev_iload_n dX9_keptWithin_12 rfl ?_
      refine ev_goto 17 dX9_keptWithin_13 (by decide) ?_
      exact ev_ls (u_X9_keptWithin_17 l2 S hB) trivial
  · rw [if_neg q1] at hB
    refine ev_iload_n dX9_keptWithin_5 rfl ?_
    obtain rfl := Option.some.inj hB
    exact ev_iret dX9_keptWithin_6 rfl (Nat.zero_le _) (Nat.zero_le _) (fun z => absurd z (hp_sealed _)) ⟨rfl, rfl⟩
def b_X0_takeBack_54 (N : Nat)  (S : am_S) : Option (am_S) := some S
def f_X0_takeBack (N : Nat) (l0 : Nat) (l1 : Nat) (S : am_S) : Option (am_S) := (if (sg S l0 1) ≤ 0 then b_X0_takeBack_54 N S else (if cpk ((sg (sp S l0 2 ((((sg S l0 2) + 40) - 1) - (((sg S l0 2) + 40) - 1) / 40 * 40)) l0 2) * 80) 0 80 (ln (rf l0 0)) (ln (rf l1 0)) = true then b_X0_takeBack_54 N (sp (scp (sp S l0 2 ((((sg S l0 2) + 40) - 1) - (((sg S l0 2) + 40) - 1) / 40 * 40)) (rf l0 0) (Int32.toNatClampNeg ((sg (sp S l0 2 ((((sg S l0 2) + 40) - 1) - (((sg S l0 2) + 40) - 1) / 40 * 40)) l0 2) * 80)) (rf l1 0) (Int32.toNatClampNeg 0) (Int32.toNatClampNeg 80)) l0 1 ((sg (scp (sp S l0 2 ((((sg S l0 2) + 40) - 1) - (((sg S l0 2) + 40) - 1) / 40 * 40)) (rf l0 0) (Int32.toNatClampNeg ((sg (sp S l0 2 ((((sg S l0 2) + 40) - 1) - (((sg S l0 2) + 40) - 1) / 40 * 40)) l0 2) * 80)) (rf l1 0) (Int32.toNatClampNeg 0) (Int32.toNatClampNeg 80)) l0 1) - 1)) else none))
theorem u_X0_takeBack_54 {G : am_G} {N : Nat} {h0 : am_H} {out : am_S}  (S : am_S) (hB : b_X0_takeBack_54 N  S = some out) : Ev G (am_R 1 0 0) (am_Φ G h0 0 0 (q_v out) q_n) mX0_takeBack 0 0 54 [none, none] [] (hp S) := by
  unfold b_X0_takeBack_54 at hB
  obtain rfl := Option.some.inj hB
  exact ev_vret dX0_takeBack_54 rfl (Nat.zero_le _) (Nat.zero_le _) (fun z => absurd z (hp_sealed _)) ⟨rfl, rfl⟩
theorem t_X0_takeBack {G : am_G} {N : Nat} {l0 : Nat} {l1 : Nat} {S : am_S} {out : am_S} (hl0 : isC 0 l0 = true) (hl1 : isC 7 l1 = true) (hB : f_X0_takeBack N l0 l1 S = some out) : am_Met G 1 mX0_takeBack 0 0 [.ref l0, .ref l1] (hp S) (q_v out) q_n := by
  refine am_of (by decide +kernel) rfl rfl rfl (Nat.le_of_ble_eq_true rfl) ?_
  unfold f_X0_takeBack at hB
  refine ev_aload_n dX0_takeBack_0 rfl ?_
  refine es_geti k_0 1 dX0_takeBack_1 (by decide) rfl (Or.inl w_523) hl0 rfl ?_
  refine ev_ifle 54 dX0_takeBack_4 (by decide) (fun q1 => ?_) (fun q1 => ?_)
  · rw [if_pos q1] at hB
    exact ev_ls (u_X0_takeBack_54 S hB) trivial
  · rw [if_neg q1] at hB
    refine ev_aload_n dX0_takeBack_7 rfl ?_
    refine ev_aload_n dX0_takeBack_8 rfl ?_
    refine es_geti k_0 2 dX0_takeBack_9 (by decide) rfl (Or.inl w_525) hl0 rfl ?_
    refine ev_bipush 40 dX0_takeBack_12 (by decide) ?_
    refine ev_iadd dX0_takeBack_14 ?_
    refine ev_iconst 1 dX0_takeBack_15 (by decide) ?_
    refine ev_isub dX0_takeBack_16 ?_
    refine ev_bipush 40 dX0_takeBack_17 (by decide) ?_
    refine ev_irem dX0_takeBack_19 (by decide) ?_
    refine es_puti k_0 2 dX0_takeBack_20 (by decide) rfl (Or.inl w_525) rfl rfl hl0 rfl ?_
    refine ev_aload_n dX0_takeBack_23 rfl ?_
    refine es_getr k_0 0 dX0_takeBack_24 (by decide) rfl (Or.inl w_522) hl0 rfl ?_
    refine ev_aload_n dX0_takeBack_27 rfl ?_
    refine es_geti k_0 2 dX0_takeBack_28 (by decide) rfl (Or.inl w_525) hl0 rfl ?_
    refine ev_bipush 80 dX0_takeBack_31 (by decide) ?_
    refine ev_imul dX0_takeBack_33 ?_
    refine ev_aload_n dX0_takeBack_34 rfl ?_
    refine es_getr k_7 0 dX0_takeBack_35 (by decide) rfl (Or.inr ⟨_, n_512⟩) hl1 rfl ?_
    refine ev_iconst 0 dX0_takeBack_38 (by decide) ?_
    refine ev_bipush 80 dX0_takeBack_39 (by decide) ?_
    obtain ⟨c3, hB⟩ := ck_of hB
    refine es_copy dX0_takeBack_41 w_660 j_nat j_sta j_ini (tr_0_0 hl0) (tr_7_0 hl1) c3 (Nat.le_of_ble_eq_true rfl) (am_fit.of (by decide)) ?_
    refine ev_aload_n dX0_takeBack_44 rfl ?_
    refine ev_dup dX0_takeBack_45 rfl ?_
    refine es_geti k_0 1 dX0_takeBack_46 (by decide) rfl (Or.inl w_523) hl0 rfl ?_
    refine ev_iconst 1 dX0_takeBack_49 (by decide) ?_
    refine ev_isub dX0_takeBack_50 ?_
    refine es_puti k_0 1 dX0_takeBack_51 (by decide) rfl (Or.inl w_523) rfl rfl hl0 rfl ?_
    exact ev_ls (u_X0_takeBack_54 (sp (scp (sp S l0 2 ((((sg S l0 2) + 40) - 1) - (((sg S l0 2) + 40) - 1) / 40 * 40)) (rf l0 0) (Int32.toNatClampNeg ((sg (sp S l0 2 ((((sg S l0 2) + 40) - 1) - (((sg S l0 2) + 40) - 1) / 40 * 40)) l0 2) * 80)) (rf l1 0) (Int32.toNatClampNeg 0) (Int32.toNatClampNeg 80)) l0 1 ((sg (scp (sp S l0 2 ((((sg S l0 2) + 40) - 1) - (((sg S l0 2) + 40) - 1) / 40 * 40)) (rf l0 0) (Int32.toNatClampNeg ((sg (sp S l0 2 ((((sg S l0 2) + 40) - 1) - (((sg S l0 2) + 40) - 1) / 40 * 40)) l0 2) * 80)) (rf l1 0) (Int32.toNatClampNeg 0) (Int32.toNatClampNeg 80)) l0 1) - 1)) hB) trivial
def b_X3_put_49 (N : Nat)  (S : am_S) : Option (am_S) := some S
def f_X3_put (N : Nat) (l0 : Nat) (l1 : Int32) (l2 : Int32) (l3 : Int32) (S : am_S) : Option (am_S) := (if 8 ≤ (sg S l0 3) then b_X3_put_49 N S else (if inb (sg S l0 3) (ln (rf l0 0)) = true then (if inb (sg (sp S (rf l0 0) (Int32.toNatClampNeg (sg S l0 3)) l1) l0 3) (ln (rf l0 1)) = true then (if inb (sg (sp (sp S (rf l0 0) (Int32.toNatClampNeg (sg S l0 3)) l1) (rf l0 1) (Int32.toNatClampNeg (sg (sp S (rf l0 0) (Int32.toNatClampNeg (sg S l0 3)) l1) l0 3)) l2) l0 3) (ln (rf l0 2)) = true then b_X3_put_49 N (sp (sp (sp (sp S (rf l0 0) (Int32.toNatClampNeg (sg S l0 3)) l1) (rf l0 1) (Int32.toNatClampNeg (sg (sp S (rf l0 0) (Int32.toNatClampNeg (sg S l0 3)) l1) l0 3)) l2) (rf l0 2) (Int32.toNatClampNeg (sg (sp (sp S (rf l0 0) (Int32.toNatClampNeg (sg S l0 3)) l1) (rf l0 1) (Int32.toNatClampNeg (sg (sp S (rf l0 0) (Int32.toNatClampNeg (sg S l0 3)) l1) l0 3)) l2) l0 3)) l3) l0 3 ((sg (sp (sp (sp S (rf l0 0) (Int32.toNatClampNeg (sg S l0 3)) l1) (rf l0 1) (Int32.toNatClampNeg (sg (sp S (rf l0 0) (Int32.toNatClampNeg (sg S l0 3)) l1) l0 3)) l2) (rf l0 2) (Int32.toNatClampNeg (sg (sp (sp S (rf l0 0) (Int32.toNatClampNeg (sg S l0 3)) l1) (rf l0 1) (Int32.toNatClampNeg (sg (sp S (rf l0 0) (Int32.toNatClampNeg (sg S l0 3)) l1) l0 3)) l2) l0 3)) l3) l0 3) + 1)) else none) else none) else none))
theorem u_X3_put_49 {G : am_G} {N : Nat} {h0 : am_H} {out : am_S}  (S : am_S) (hB : b_X3_put_49 N  S = some out) : Ev G (am_R 1 0 0) (am_Φ G h0 0 0 (q_v out) q_n) mX3_put 0 0 49 [none, none, none, none] [] (hp S) := by
  unfold b_X3_put_49 at hB
  obtain rfl := Option.some.inj hB
  exact ev_vret dX3_put_49 rfl (Nat.zero_le _) (Nat.zero_le _) (fun z => absurd z (hp_sealed _)) ⟨rfl, rfl⟩
theorem t_X3_put {G : am_G} {N : Nat} {l0 : Nat} {l1 : Int32} {l2 : Int32} {l3 : Int32} {S : am_S} {out : am_S} (hl0 : isC 3 l0 = true) (hB : f_X3_put N l0 l1 l2 l3 S = some out) : am_Met G 1 mX3_put 0 0 [.ref l0, .int l1, .int l2, .int l3] (hp S) (q_v out) q_n := by
  refine am_of (by decide +kernel) rfl rfl rfl (Nat.le_of_ble_eq_true rfl) ?_
  unfold f_X3_put at hB
  refine ev_aload_n dX3_put_0 rfl ?_
  refine es_geti k_3 3 dX3_put_1 (by decide) rfl (Or.inl w_542) hl0 rfl ?_
  refine ev_bipush 8 dX3_put_4 (by decide) ?_
  refine ev_icmpge 49 dX3_put_6 (by decide) (fun q1 => ?_) (fun q1 => ?_)
  · rw [if_pos q1] at hB
    exact ev_ls (u_X3_put_49 S hB) trivial
  · rw [if_neg q1] at hB
    refine ev_aload_n dX3_put_9 rfl ?_
    refine es_getr k_3 0 dX3_put_10 (by decide) rfl (Or.inl w_539) hl0 rfl ?_
    refine ev_aload_n dX3_put_13 rfl ?_
    refine es_geti k_3 3 dX3_put_14 (by decide) rfl (Or.inl w_542) hl0 rfl ?_
    refine ev_iload_n dX3_put_17 rfl ?_
    obtain ⟨c2, hB⟩ := ck_of hB
    refine es_iast dX3_put_18 (tr_3_0 hl0) c2 ?_
    refine ev_aload_n dX3_put_19 rfl ?_
    refine es_getr k_3 1 dX3_put_20 (by decide) rfl (Or.inl w_540) hl0 rfl ?_
    refine ev_aload_n dX3_put_23 rfl ?_
    refine es_geti k_3 3 dX3_put_24 (by decide) rfl (Or.inl w_542) hl0 rfl ?_
    refine ev_iload_n dX3_put_27 rfl ?_
    obtain ⟨c3, hB⟩ := ck_of hB
    refine es_iast dX3_put_28 (tr_3_1 hl0) c3 ?_
    refine ev_aload_n dX3_put_29 rfl ?_
    refine es_getr k_3 2 dX3_put_30 (by decide) rfl (Or.inl w_541) hl0 rfl ?_
    refine ev_aload_n dX3_put_33 rfl ?_
    refine es_geti k_3 3 dX3_put_34 (by decide) rfl (Or.inl w_542) hl0 rfl ?_
    refine ev_iload_n dX3_put_37 rfl ?_
    obtain ⟨c4, hB⟩ := ck_of hB
    refine es_iast dX3_put_38 (tr_3_2 hl0) c4 ?_
    refine ev_aload_n dX3_put_39 rfl ?_
    refine ev_dup dX3_put_40 rfl ?_
    refine es_geti k_3 3 dX3_put_41 (by decide) rfl (Or.inl w_542) hl0 rfl ?_
    refine ev_iconst 1 dX3_put_44 (by decide) ?_
    refine ev_iadd dX3_put_45 ?_
    refine es_puti k_3 3 dX3_put_46 (by decide) rfl (Or.inl w_542) rfl rfl hl0 rfl ?_
    exact ev_ls (u_X3_put_49 (sp (sp (sp (sp S (rf l0 0) (Int32.toNatClampNeg (sg S l0 3)) l1) (rf l0 1) (Int32.toNatClampNeg (sg (sp S (rf l0 0) (Int32.toNatClampNeg (sg S l0 3)) l1) l0 3)) l2) (rf l0 2) (Int32.toNatClampNeg (sg (sp (sp S (rf l0 0) (Int32.toNatClampNeg (sg S l0 3)) l1) (rf l0 1) (Int32.toNatClampNeg (sg (sp S (rf l0 0) (Int32.toNatClampNeg (sg S l0 3)) l1) l0 3)) l2) l0 3)) l3) l0 3 ((sg (sp (sp (sp S (rf l0 0) (Int32.toNatClampNeg (sg S l0 3)) l1) (rf l0 1) (Int32.toNatClampNeg (sg (sp S (rf l0 0) (Int32.toNatClampNeg (sg S l0 3)) l1) l0 3)) l2) (rf l0 2) (Int32.toNatClampNeg (sg (sp (sp S (rf l0 0) (Int32.toNatClampNeg (sg S l0 3)) l1) (rf l0 1) (Int32.toNatClampNeg (sg (sp S (rf l0 0) (Int32.toNatClampNeg (sg S l0 3)) l1) l0 3)) l2) l0 3)) l3) l0 3) + 1)) hB) trivial
def b_X3_lastDay_4 (N : Nat) : Nat → Nat → Int32 → Int32 → am_S → Option (Int32 × am_S)
  | 0, _, _, _, _ => none
  | n + 1, l0, l1, l2, S => (if (sg S l0 3) ≤ l2 then some (l1, S) else (if inb l2 (ln (rf l0 1)) = true then b_X3_lastDay_4 N n l0 (jmax l1 (sg S (rf l0 1) (Int32.toNatClampNeg l2))) (l2 + 1) S else none))
def f_X3_lastDay (N : Nat) (l0 : Nat) (S : am_S) : Option (Int32 × am_S) := b_X3_lastDay_4 N N l0 0 0 S
theorem u_X3_lastDay_4 {G : am_G} {N : Nat} {h0 : am_H} {out : Int32 × am_S} : ∀ (n : Nat) (l0 : Nat) (l1 : Int32) (l2 : Int32) (S : am_S), isC 3 l0 = true → b_X3_lastDay_4 N n l0 l1 l2 S = some out → Ev G (am_R 1 0 0) (am_Φ G h0 0 0 (q_i out) q_n) mX3_lastDay 0 0 4 [some (.ref l0), some (.int l1), some (.int l2)] [] (hp S) := by
  intro n
  induction n with
  | zero =>
    intro l0 l1 l2 S hl0 hB
    exact absurd (show none = some out from hB) (fun q => by cases q)
  | succ n ih =>
    intro l0 l1 l2 S hl0 hB
    unfold b_X3_lastDay_4 at hB
    refine ev_iload_n dX3_lastDay_4 rfl ?_
    refine ev_aload_n dX3_lastDay_5 rfl ?_
    refine es_geti k_3 3 dX3_lastDay_6 (by decide) rfl (Or.inl w_542) hl0 rfl ?_
    refine ev_icmpge 29 dX3_lastDay_9 (by decide) (fun q1 => ?_) (fun q1 => ?_)
    · rw [if_pos q1] at hB
      refine ev_iload_n dX3_lastDay_29 rfl ?_
      obtain rfl := Option.some.inj hB
      exact ev_iret dX3_lastDay_30 rfl (Nat.zero_le _) (Nat.zero_le _) (fun z => absurd z (hp_sealed _)) ⟨rfl, rfl⟩
    · rw [if_neg q1] at hB
      refine ev_iload_n dX3_lastDay_12 rfl ?_
      refine ev_aload_n dX3_lastDay_13 rfl ?_
      refine es_getr k_3 1 dX3_lastDay_14 (by decide) rfl (Or.inl w_540) hl0 rfl ?_
      refine ev_iload_n dX3_lastDay_17 rfl ?_
      obtain ⟨c2, hB⟩ := ck_of hB
      refine es_iald dX3_lastDay_18 (tr_3_1 hl0) c2 ?_
      refine es_max dX3_lastDay_19 w_1377 (Nat.le_of_ble_eq_true rfl) (am_fit.of (by decide)) ⟨Nat.zero_le _, Nat.zero_le _⟩ ?_
      refine ev_istore_n dX3_lastDay_22 (by decide) rfl ?_
      refine es_iinc 1 dX3_lastDay_23 rfl (by decide) (by decide) rfl ?_
      refine ev_goto 4 dX3_lastDay_26 (by decide) ?_
      exact ev_ls (ih l0 (jmax l1 (sg S (rf l0 1) (Int32.toNatClampNeg l2))) (l2 + 1) S hl0 hB) (And.intro rfl (And.intro rfl (And.intro rfl trivial)))
theorem t_X3_lastDay {G : am_G} {N : Nat} {l0 : Nat} {S : am_S} {out : Int32 × am_S} (hl0 : isC 3 l0 = true) (hB : f_X3_lastDay N l0 S = some out) : am_Met G 1 mX3_lastDay 0 0 [.ref l0] (hp S) (q_i out) q_n := by
  refine am_of (by decide +kernel) rfl rfl rfl (Nat.le_of_ble_eq_true rfl) ?_
  unfold f_X3_lastDay at hB
  refine ev_iconst 0 dX3_lastDay_0 (by decide) ?_
  refine ev_istore_n dX3_lastDay_1 (by decide) rfl ?_
  refine ev_iconst 0 dX3_lastDay_2 (by decide) ?_
  refine ev_istore_n dX3_lastDay_3 (by decide) rfl ?_
  exact ev_ls (u_X3_lastDay_4 N l0 0 0 S hl0 hB) (And.intro rfl (And.intro rfl (And.intro rfl trivial)))
def b_X3_agree_41 (N : Nat) (k2 : Nat → Int32 → Nat → Int32 → am_S → Option (Int32 × am_S)) (l0 : Nat) (l1 : Int32) (l2 : Nat) (l3 : Int32) (S : am_S) : Option (Int32 × am_S) := k2 l0 l1 l2 (l3 + 1) S
def b_X3_agree_2 (N : Nat) : Nat → Nat → Int32 → Nat → Int32 → am_S → Option (Int32 × am_S)
  | 0, _, _, _, _, _ => none
  | n + 1, l0, l1, l2, l3, S => (if (sg S l0 3) ≤ l3 then some (1, S) else (if inb l3 (ln (rf l0 1)) = true then (if (sg S (rf l0 1) (Int32.toNatClampNeg l3)) = l1 then (if inb l3 (ln (rf l0 0)) = true then (bd (f_X7_heardBy N l2 (sg S (rf l0 0) (Int32.toNatClampNeg l3)) S) (fun r5 S6 => (if inb l3 (ln (rf l0 2)) = true then (if r5 = (sg S6 (rf l0 2) (Int32.toNatClampNeg l3)) then b_X3_agree_41 N (b_X3_agree_2 N n) l0 l1 l2 l3 S6 else some (0, S6)) else none))) else none) else b_X3_agree_41 N (b_X3_agree_2 N n) l0 l1 l2 l3 S) else none))
def f_X3_agree (N : Nat) (l0 : Nat) (l1 : Int32) (l2 : Nat) (S : am_S) : Option (Int32 × am_S) := b_X3_agree_2 N N l0 l1 l2 0 S
theorem u_X3_agree_41 {G : am_G} {N : Nat} {h0 : am_H} {out : Int32 × am_S} {k2 : Nat → Int32 → Nat → Int32 → am_S → Option (Int32 × am_S)} (hk2 : ∀ (l0 : Nat) (l1 : Int32) (l2 : Nat) (l3 : Int32) (S : am_S), isC 3 l0 = true → isC 7 l2 = true → k2 l0 l1 l2 l3 S = some out → Ev G (am_R 2 0 0) (am_Φ G h0 0 0 (q_i out) q_n) mX3_agree 0 0 2 [some (.ref l0), some (.int l1), some (.ref l2), some (.int l3)] [] (hp S)) (l0 : Nat) (l1 : Int32) (l2 : Nat) (l3 : Int32) (S : am_S) (hl0 : isC 3 l0 = true) (hl2 : isC 7 l2 = true) (hB : b_X3_agree_41 N k2 l0 l1 l2 l3 S = some out) : Ev G (am_R 2 0 0) (am_Φ G h0 0 0 (q_i out) q_n) mX3_agree 0 0 41 [some (.ref l0), some (.int l1), some (.ref l2), some (.int l3)] [] (hp S) := by
  unfold b_X3_agree_41 at hB
  refine es_iinc 1 dX3_agree_41 rfl (by decide) (by decide) rfl ?_
  refine ev_goto 2 dX3_agree_44 (by decide) ?_
  exact ev_ls (hk2 l0 l1 l2 (l3 + 1) S hl0 hl2 hB) (And.intro rfl (And.intro rfl (And.intro rfl (And.intro rfl trivial))))
theorem u_X3_agree_2 {G : am_G} {N : Nat} {h0 : am_H} {out : Int32 × am_S} : ∀ (n : Nat) (l0 : Nat) (l1 : Int32) (l2 : Nat) (l3 : Int32) (S : am_S), isC 3 l0 = true → isC 7 l2 = true → b_X3_agree_2 N n l0 l1 l2 l3 S = some out → Ev G (am_R 2 0 0) (am_Φ G h0 0 0 (q_i out) q_n) mX3_agree 0 0 2 [some (.ref l0), some (.int l1), some (.ref l2), some (.int l3)] [] (hp S) := by
  intro n
  induction n with
  | zero =>
    intro l0 l1 l2 l3 S hl0 hl2 hB
    exact absurd (show none = some out from hB) (fun q => by cases q)
  | succ n ih =>
    intro l0 l1 l2 l3 S hl0 hl2 hB
    unfold b_X3_agree_2 at hB
    refine ev_iload_n dX3_agree_2 rfl ?_
    refine ev_aload_n dX3_agree_3 rfl ?_
    refine es_geti k_3 3 dX3_agree_4 (by decide) rfl (Or.inl w_542) hl0 rfl ?_
    refine ev_icmpge 47 dX3_agree_7 (by decide) (fun q1 => ?_) (fun q1 => ?_)
    · rw [if_pos q1] at hB
      refine ev_iconst 1 dX3_agree_47 (by decide) ?_
      obtain rfl := Option.some.inj hB
      exact ev_zret dX3_agree_48 rfl (by rfl) (Nat.zero_le _) (Nat.zero_le _) (fun z => absurd z (hp_sealed _)) ⟨rfl, rfl⟩
    · rw [if_neg q1] at hB
      refine ev_aload_n dX3_agree_10 rfl ?_
      refine es_getr k_3 1 dX3_agree_11 (by decide) rfl (Or.inl w_540) hl0 rfl ?_
      refine ev_iload_n dX3_agree_14 rfl ?_
      obtain ⟨c2, hB⟩ := ck_of hB
      refine es_iald dX3_agree_15 (tr_3_1 hl0) c2 ?_
      refine ev_iload_n dX3_agree_16 rfl ?_
      refine ev_icmpne 41 dX3_agree_17 (by decide) (fun q3 => ?_) (fun q3 => ?_)
      · rw [if_neg q3] at hB
        exact ev_ls (u_X3_agree_41 ih l0 l1 l2 l3 S hl0 hl2 hB) (And.intro rfl (And.intro rfl (And.intro rfl (And.intro rfl trivial))))
      · rw [if_pos q3] at hB
        refine ev_aload_n dX3_agree_20 rfl ?_
        refine ev_aload_n dX3_agree_21 rfl ?_
        refine es_getr k_3 0 dX3_agree_22 (by decide) rfl (Or.inl w_539) hl0 rfl ?_
        refine ev_iload_n dX3_agree_25 rfl ?_
        obtain ⟨c4, hB⟩ := ck_of hB
        refine es_iald dX3_agree_26 (tr_3_0 hl0) c4 ?_
        obtain ⟨r5, S6, e7, hB⟩ := bd_of hB
        refine es_callVi (As := [.int (sg S (rf l0 0) (Int32.toNatClampNeg l3))]) (t_X7_heardBy hl2 e7) dX3_agree_27 oX7_heardBy w_1382 rfl hl2 rfl rfl (Nat.le_of_ble_eq_true rfl) rfl (am_fit.of (by decide)) ⟨Nat.zero_le _, Nat.zero_le _⟩ ?_
        refine ev_aload_n dX3_agree_30 rfl ?_
        refine es_getr k_3 2 dX3_agree_31 (by decide) rfl (Or.inl w_541) hl0 rfl ?_
        refine ev_iload_n dX3_agree_34 rfl ?_
        obtain ⟨c8, hB⟩ := ck_of hB
        refine es_iald dX3_agree_35 (tr_3_2 hl0) c8 ?_
        refine ev_icmpeq 41 dX3_agree_36 (by decide) (fun q9 => ?_) (fun q9 => ?_)
        · rw [if_pos q9] at hB
          exact ev_ls (u_X3_agree_41 ih l0 l1 l2 l3 S6 hl0 hl2 hB) (And.intro rfl (And.intro rfl (And.intro rfl (And.intro rfl trivial))))
        · rw [if_neg q9] at hB
          refine ev_iconst 0 dX3_agree_39 (by decide) ?_
          obtain rfl := Option.some.inj hB
          exact ev_zret dX3_agree_40 rfl (by rfl) (Nat.zero_le _) (Nat.zero_le _) (fun z => absurd z (hp_sealed _)) ⟨rfl, rfl⟩
theorem t_X3_agree {G : am_G} {N : Nat} {l0 : Nat} {l1 : Int32} {l2 : Nat} {S : am_S} {out : Int32 × am_S} (hl0 : isC 3 l0 = true) (hl2 : isC 7 l2 = true) (hB : f_X3_agree N l0 l1 l2 S = some out) : am_Met G 2 mX3_agree 0 0 [.ref l0, .int l1, .ref l2] (hp S) (q_i out) q_n := by
  refine am_of (by decide +kernel) rfl rfl rfl (Nat.le_of_ble_eq_true rfl) ?_
  unfold f_X3_agree at hB
  refine ev_iconst 0 dX3_agree_0 (by decide) ?_
  refine ev_istore_n dX3_agree_1 (by decide) rfl ?_
  exact ev_ls (u_X3_agree_2 N l0 l1 l2 0 S hl0 hl2 hB) (And.intro rfl (And.intro rfl (And.intro rfl (And.intro rfl trivial))))
def f_X0_copyFrom (N : Nat) (l0 : Nat) (l1 : Nat) (S : am_S) : Option (am_S) := (if cpk 0 0 (nI (ln (rf l0 0))) (ln (rf l1 0)) (ln (rf l0 0)) = true then some (sp (sp (scp S (rf l1 0) (Int32.toNatClampNeg 0) (rf l0 0) (Int32.toNatClampNeg 0) (Int32.toNatClampNeg (nI (ln (rf l0 0))))) l0 1 (sg (scp S (rf l1 0) (Int32.toNatClampNeg 0) (rf l0 0) (Int32.toNatClampNeg 0) (Int32.toNatClampNeg (nI (ln (rf l0 0))))) l1 1)) l0 2 (sg (sp (scp S (rf l1 0) (Int32.toNatClampNeg 0) (rf l0 0) (Int32.toNatClampNeg 0) (Int32.toNatClampNeg (nI (ln (rf l0 0))))) l0 1 (sg (scp S (rf l1 0) (Int32.toNatClampNeg 0) (rf l0 0) (Int32.toNatClampNeg 0) (Int32.toNatClampNeg (nI (ln (rf l0 0))))) l1 1)) l1 2)) else none)
theorem t_X0_copyFrom {G : am_G} {N : Nat} {l0 : Nat} {l1 : Nat} {S : am_S} {out : am_S} (hl0 : isC 0 l0 = true) (hl1 : isC 0 l1 = true) (hB : f_X0_copyFrom N l0 l1 S = some out) : am_Met G 1 mX0_copyFrom 0 0 [.ref l0, .ref l1] (hp S) (q_v out) q_n := by
  refine am_of (by decide +kernel) rfl rfl rfl (Nat.le_of_ble_eq_true rfl) ?_
  unfold f_X0_copyFrom at hB
  refine ev_aload_n dX0_copyFrom_0 rfl ?_
  refine es_getr k_0 0 dX0_copyFrom_1 (by decide) rfl (Or.inl w_522) hl1 rfl ?_
  refine ev_iconst 0 dX0_copyFrom_4 (by decide) ?_
  refine ev_aload_n dX0_copyFrom_5 rfl ?_
  refine es_getr k_0 0 dX0_copyFrom_6 (by decide) rfl (Or.inl w_522) hl0 rfl ?_
  refine ev_iconst 0 dX0_copyFrom_9 (by decide) ?_
  refine ev_aload_n dX0_copyFrom_10 rfl ?_
  refine es_getr k_0 0 dX0_copyFrom_11 (by decide) rfl (Or.inl w_522) hl0 rfl ?_
  refine es_alen dX0_copyFrom_14 (tr_0_0 hl0) rfl ?_
  obtain ⟨c1, hB⟩ := ck_of hB
  refine es_copy dX0_copyFrom_15 w_660 j_nat j_sta j_ini (tr_0_0 hl1) (tr_0_0 hl0) c1 (Nat.le_of_ble_eq_true rfl) (am_fit.of (by decide)) ?_
  refine ev_aload_n dX0_copyFrom_18 rfl ?_
  refine ev_aload_n dX0_copyFrom_19 rfl ?_
  refine es_geti k_0 1 dX0_copyFrom_20 (by decide) rfl (Or.inl w_523) hl1 rfl ?_
  refine es_puti k_0 1 dX0_copyFrom_23 (by decide) rfl (Or.inl w_523) rfl rfl hl0 rfl ?_
  refine ev_aload_n dX0_copyFrom_26 rfl ?_
  refine ev_aload_n dX0_copyFrom_27 rfl ?_
  refine es_geti k_0 2 dX0_copyFrom_28 (by decide) rfl (Or.inl w_525) hl1 rfl ?_
  refine es_puti k_0 2 dX0_copyFrom_31 (by decide) rfl (Or.inl w_525) rfl rfl hl0 rfl ?_
  obtain rfl := Option.some.inj hB
  exact ev_vret dX0_copyFrom_34 rfl (Nat.zero_le _) (Nat.zero_le _) (fun z => absurd z (hp_sealed _)) ⟨rfl, rfl⟩
def f_X3_copyFrom (N : Nat) (l0 : Nat) (l1 : Nat) (S : am_S) : Option (am_S) := (if cpk 0 0 8 (ln (rf l1 0)) (ln (rf l0 0)) = true then (if cpk 0 0 8 (ln (rf l1 1)) (ln (rf l0 1)) = true then (if cpk 0 0 8 (ln (rf l1 2)) (ln (rf l0 2)) = true then some (sp (scp (scp (scp S (rf l1 0) (Int32.toNatClampNeg 0) (rf l0 0) (Int32.toNatClampNeg 0) (Int32.toNatClampNeg 8)) (rf l1 1) (Int32.toNatClampNeg 0) (rf l0 1) (Int32.toNatClampNeg 0) (Int32.toNatClampNeg 8)) (rf l1 2) (Int32.toNatClampNeg 0) (rf l0 2) (Int32.toNatClampNeg 0) (Int32.toNatClampNeg 8)) l0 3 (sg (scp (scp (scp S (rf l1 0) (Int32.toNatClampNeg 0) (rf l0 0) (Int32.toNatClampNeg 0) (Int32.toNatClampNeg 8)) (rf l1 1) (Int32.toNatClampNeg 0) (rf l0 1) (Int32.toNatClampNeg 0) (Int32.toNatClampNeg 8)) (rf l1 2) (Int32.toNatClampNeg 0) (rf l0 2) (Int32.toNatClampNeg 0) (Int32.toNatClampNeg 8)) l1 3)) else none) else none) else none)
theorem t_X3_copyFrom {G : am_G} {N : Nat} {l0 : Nat} {l1 : Nat} {S : am_S} {out : am_S} (hl0 : isC 3 l0 = true) (hl1 : isC 3 l1 = true) (hB : f_X3_copyFrom N l0 l1 S = some out) : am_Met G 1 mX3_copyFrom 0 0 [.ref l0, .ref l1] (hp S) (q_v out) q_n := by
  refine am_of (by decide +kernel) rfl rfl rfl (Nat.le_of_ble_eq_true rfl) ?_
  unfold f_X3_copyFrom at hB
  refine ev_aload_n dX3_copyFrom_0 rfl ?_
  refine es_getr k_3 0 dX3_copyFrom_1 (by decide) rfl (Or.inl w_539) hl1 rfl ?_
  refine ev_iconst 0 dX3_copyFrom_4 (by decide) ?_
  refine ev_aload_n dX3_copyFrom_5 rfl ?_
  refine es_getr k_3 0 dX3_copyFrom_6 (by decide) rfl (Or.inl w_539) hl0 rfl ?_
  refine ev_iconst 0 dX3_copyFrom_9 (by decide) ?_
  refine ev_bipush 8 dX3_copyFrom_10 (by decide) ?_
  obtain ⟨c1, hB⟩ := ck_of hB
  refine es_copy dX3_copyFrom_12 w_816 j_nat j_sta j_ini (tr_3_0 hl1) (tr_3_0 hl0) c1 (Nat.le_of_ble_eq_true rfl) (am_fit.of (by decide)) ?_
  refine ev_aload_n dX3_copyFrom_15 rfl ?_
  refine es_getr k_3 1 dX3_copyFrom_16 (by decide) rfl (Or.inl w_540) hl1 rfl ?_
  refine ev_iconst 0 dX3_copyFrom_19 (by decide) ?_
  refine ev_aload_n dX3_copyFrom_20 rfl ?_
  refine es_getr k_3 1 dX3_copyFrom_21 (by decide) rfl (Or.inl w_540) hl0 rfl ?_
  refine ev_iconst 0 dX3_copyFrom_24 (by decide) ?_
  refine ev_bipush 8 dX3_copyFrom_25 (by decide) ?_
  obtain ⟨c2, hB⟩ := ck_of hB
  refine es_copy dX3_copyFrom_27 w_816 j_nat j_sta j_ini (tr_3_1 hl1) (tr_3_1 hl0) c2 (Nat.le_of_ble_eq_true rfl) (am_fit.of (by decide)) ?_
  refine ev_aload_n dX3_copyFrom_30 rfl ?_
  refine es_getr k_3 2 dX3_copyFrom_31 (by decide) rfl (Or.inl w_541) hl1 rfl ?_
  refine ev_iconst 0 dX3_copyFrom_34 (by decide) ?_
  refine ev_aload_n dX3_copyFrom_35 rfl ?_
  refine es_getr k_3 2 dX3_copyFrom_36 (by decide) rfl (Or.inl w_541) hl0 rfl ?_
  refine ev_iconst 0 dX3_copyFrom_39 (by decide) ?_
  refine ev_bipush 8 dX3_copyFrom_40 (by decide) ?_
  obtain ⟨c3, hB⟩ := ck_of hB
  refine es_copy dX3_copyFrom_42 w_816 j_nat j_sta j_ini (tr_3_2 hl1) (tr_3_2 hl0) c3 (Nat.le_of_ble_eq_true rfl) (am_fit.of (by decide)) ?_
  refine ev_aload_n dX3_copyFrom_45 rfl ?_
  refine ev_aload_n dX3_copyFrom_46 rfl ?_
  refine es_geti k_3 3 dX3_copyFrom_47 (by decide) rfl (Or.inl w_542) hl1 rfl ?_
  refine es_puti k_3 3 dX3_copyFrom_50 (by decide) rfl (Or.inl w_542) rfl rfl hl0 rfl ?_
  obtain rfl := Option.some.inj hB
  exact ev_vret dX3_copyFrom_53 rfl (Nat.zero_le _) (Nat.zero_le _) (fun z => absurd z (hp_sealed _)) ⟨rfl, rfl⟩
