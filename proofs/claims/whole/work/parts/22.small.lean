def f_X5_clearAll (N : Nat) (l0 : Nat) (S : am_S) : Option (am_S) := some (sp S l0 1 0)
theorem t_X5_clearAll {G : am_G} {N : Nat} {l0 : Nat} {S : am_S} {out : am_S} (hl0 : isC 5 l0 = true) (hB : f_X5_clearAll N l0 S = some out) : am_Met G 1 mX5_clearAll 0 0 [.ref l0] (hp S) (q_v out) q_n := by
  refine am_of (by decide +kernel) rfl rfl rfl (Nat.le_of_ble_eq_true rfl) ?_
  unfold f_X5_clearAll at hB
  refine ev_aload_n dX5_clearAll_0 rfl ?_
  refine ev_iconst 0 dX5_clearAll_1 (by decide) ?_
  refine es_puti k_5 1 dX5_clearAll_2 (by decide) rfl (Or.inl w_124) rfl rfl hl0 rfl ?_
  obtain rfl := Option.some.inj hB
  exact ev_vret dX5_clearAll_5 rfl (Nat.zero_le _) (Nat.zero_le _) (fun z => absurd z (hp_sealed _)) ⟨rfl, rfl⟩
def b_X8_kindOf_28 (N : Nat) (l0 : Int32) (S : am_S) : Option (Int32 × am_S) := (if l0 = 10 then some (4, S) else (if l0 = 32 then some (4, S) else (if l0 = 40 then some (l0, S) else (if l0 = 41 then some (l0, S) else (if l0 = 42 then some (l0, S) else (if l0 = 43 then some (l0, S) else (if l0 = 45 then some (l0, S) else (if l0 = 47 then some (l0, S) else (if l0 = 59 then some (l0, S) else (if l0 = 60 then some (l0, S) else (if l0 = 61 then some (l0, S) else some (1, S))))))))))))
def b_X8_kindOf_14 (N : Nat) (l0 : Int32) (S : am_S) : Option (Int32 × am_S) := (if l0 < 48 then b_X8_kindOf_28 N l0 S else (if 57 < l0 then b_X8_kindOf_28 N l0 S else some (3, S)))
def f_X8_kindOf (N : Nat) (l0 : Int32) (S : am_S) : Option (Int32 × am_S) := (if l0 < 97 then b_X8_kindOf_14 N l0 S else (if 122 < l0 then b_X8_kindOf_14 N l0 S else some (2, S)))
theorem u_X8_kindOf_28 {G : am_G} {N : Nat} {h0 : am_H} {out : Int32 × am_S} (l0 : Int32) (S : am_S) (hB : b_X8_kindOf_28 N l0 S = some out) : Ev G (am_R 1 0 0) (am_Φ G h0 0 0 (q_i out) q_n) mX8_kindOf 0 0 28 [some (.int l0)] [] (hp S) := by
  unfold b_X8_kindOf_28 at hB
  refine ev_iload_n dX8_kindOf_28 rfl ?_
  by_cases q1 : l0 = 10
  · rw [if_pos q1] at hB
    refine ev_lookup (off := 99) 128 dX8_kindOf_29 (by decide) (by rw [q1]; rfl) (by decide) ?_
    refine ev_iconst 4 dX8_kindOf_128 (by decide) ?_
    obtain rfl := Option.some.inj hB
    exact ev_iret dX8_kindOf_129 rfl (Nat.zero_le _) (Nat.zero_le _) (fun z => absurd z (hp_sealed _)) ⟨rfl, rfl⟩
  rw [if_neg q1] at hB
  have tq1 : ¬ _ = _ := am_nt (k := 10) q1 (by decide)
  by_cases q2 : l0 = 32
  · rw [if_pos q2] at hB
    refine ev_lookup (off := 99) 128 dX8_kindOf_29 (by decide) (by rw [q2]; rfl) (by decide) ?_
    refine ev_iconst 4 dX8_kindOf_128 (by decide) ?_
    obtain rfl := Option.some.inj hB
    exact ev_iret dX8_kindOf_129 rfl (Nat.zero_le _) (Nat.zero_le _) (fun z => absurd z (hp_sealed _)) ⟨rfl, rfl⟩
  rw [if_neg q2] at hB
  have tq2 : ¬ _ = _ := am_nt (k := 32) q2 (by decide)
  by_cases q3 : l0 = 40
  · rw [if_pos q3] at hB
    refine ev_lookup (off := 101) 130 dX8_kindOf_29 (by decide) (by rw [q3]; rfl) (by decide) ?_
    refine ev_iload_n dX8_kindOf_130 rfl ?_
    obtain rfl := Option.some.inj hB
    exact ev_iret dX8_kindOf_131 rfl (Nat.zero_le _) (Nat.zero_le _) (fun z => absurd z (hp_sealed _)) ⟨rfl, rfl⟩
  rw [if_neg q3] at hB
  have tq3 : ¬ _ = _ := am_nt (k := 40) q3 (by decide)
  by_cases q4 : l0 = 41
  · rw [if_pos q4] at hB
    refine ev_lookup (off := 101) 130 dX8_kindOf_29 (by decide) (by rw [q4]; rfl) (by decide) ?_
    refine ev_iload_n dX8_kindOf_130 rfl ?_
    obtain rfl := Option.some.inj hB
    exact ev_iret dX8_kindOf_131 rfl (Nat.zero_le _) (Nat.zero_le _) (fun z => absurd z (hp_sealed _)) ⟨rfl, rfl⟩
  rw [if_neg q4] at hB
  have tq4 : ¬ _ = _ := am_nt (k := 41) q4 (by decide)
  by_cases q5 : l0 = 42
  · rw [if_pos q5] at hB
    refine ev_lookup (off := 101) 130 dX8_kindOf_29 (by decide) (by rw [q5]; rfl) (by decide) ?_
    refine ev_iload_n dX8_kindOf_130 rfl ?_
    obtain rfl := Option.some.inj hB
    exact ev_iret dX8_kindOf_131 rfl (Nat.zero_le _) (Nat.zero_le _) (fun z => absurd z (hp_sealed _)) ⟨rfl, rfl⟩
  rw [if_neg q5] at hB
  have tq5 : ¬ _ = _ := am_nt (k := 42) q5 (by decide)
  by_cases q6 : l0 = 43
  · rw [if_pos q6] at hB
    refine ev_lookup (off := 101) 130 dX8_kindOf_29 (by decide) (by rw [q6]; rfl) (by decide) ?_
    refine ev_iload_n dX8_kindOf_130 rfl ?_
    obtain rfl := Option.some.inj hB
    exact ev_iret dX8_kindOf_131 rfl (Nat.zero_le _) (Nat.zero_le _) (fun z => absurd z (hp_sealed _)) ⟨rfl, rfl⟩
  rw [if_neg q6] at hB
  have tq6 : ¬ _ = _ := am_nt (k := 43) q6 (by decide)
  by_cases q7 : l0 = 45
  · rw [if_pos q7] at hB
    refine ev_lookup (off := 101) 130 dX8_kindOf_29 (by decide) (by rw [q7]; rfl) (by decide) ?_
    refine ev_iload_n dX8_kindOf_130 rfl ?_
    obtain rfl := Option.some.inj hB
    exact ev_iret dX8_kindOf_131 rfl (Nat.zero_le _) (Nat.zero_le _) (fun z => absurd z (hp_sealed _)) ⟨rfl, rfl⟩
  rw [if_neg q7] at hB
  have tq7 : ¬ _ = _ := am_nt (k := 45) q7 (by decide)
  by_cases q8 : l0 = 47
  · rw [if_pos q8] at hB
    refine ev_lookup (off := 101) 130 dX8_kindOf_29 (by decide) (by rw [q8]; rfl) (by decide) ?_
    refine ev_iload_n dX8_kindOf_130 rfl ?_
    obtain rfl := Option.some.inj hB
    exact ev_iret dX8_kindOf_131 rfl (Nat.zero_le _) (Nat.zero_le _) (fun z => absurd z (hp_sealed _)) ⟨rfl, rfl⟩
  rw [if_neg q8] at hB
  have tq8 : ¬ _ = _ := am_nt (k := 47) q8 (by decide)
  by_cases q9 : l0 = 59
  · rw [if_pos q9] at hB
    refine ev_lookup (off := 101) 130 dX8_kindOf_29 (by decide) (by rw [q9]; rfl) (by decide) ?_
    refine ev_iload_n dX8_kindOf_130 rfl ?_
    obtain rfl := Option.some.inj hB
    exact ev_iret dX8_kindOf_131 rfl (Nat.zero_le _) (Nat.zero_le _) (fun z => absurd z (hp_sealed _)) ⟨rfl, rfl⟩
  rw [if_neg q9] at hB
  have tq9 : ¬ _ = _ := am_nt (k := 59) q9 (by decide)
  by_cases q10 : l0 = 60
  · rw [if_pos q10] at hB
    refine ev_lookup (off := 101) 130 dX8_kindOf_29 (by decide) (by rw [q10]; rfl) (by decide) ?_
    refine ev_iload_n dX8_kindOf_130 rfl ?_
    obtain rfl := Option.some.inj hB
    exact ev_iret dX8_kindOf_131 rfl (Nat.zero_le _) (Nat.zero_le _) (fun z => absurd z (hp_sealed _)) ⟨rfl, rfl⟩
  rw [if_neg q10] at hB
  have tq10 : ¬ _ = _ := am_nt (k := 60) q10 (by decide)
  by_cases q11 : l0 = 61
  · rw [if_pos q11] at hB
    refine ev_lookup (off := 101) 130 dX8_kindOf_29 (by decide) (by rw [q11]; rfl) (by decide) ?_
    refine ev_iload_n dX8_kindOf_130 rfl ?_
    obtain rfl := Option.some.inj hB
    exact ev_iret dX8_kindOf_131 rfl (Nat.zero_le _) (Nat.zero_le _) (fun z => absurd z (hp_sealed _)) ⟨rfl, rfl⟩
  rw [if_neg q11] at hB
  have tq11 : ¬ _ = _ := am_nt (k := 61) q11 (by decide)
  refine ev_lookup (off := 103) 132 dX8_kindOf_29 (by decide) (by simp [Op.lookupswitch.offset, tq1, Ne.symm tq1, tq2, Ne.symm tq2, tq3, Ne.symm tq3, tq4, Ne.symm tq4, tq5, Ne.symm tq5, tq6, Ne.symm tq6, tq7, Ne.symm tq7, tq8, Ne.symm tq8, tq9, Ne.symm tq9, tq10, Ne.symm tq10, tq11, Ne.symm tq11]) (by decide) ?_
  refine ev_iconst 1 dX8_kindOf_132 (by decide) ?_
  obtain rfl := Option.some.inj hB
  exact ev_iret dX8_kindOf_133 rfl (Nat.zero_le _) (Nat.zero_le _) (fun z => absurd z (hp_sealed _)) ⟨rfl, rfl⟩
theorem u_X8_kindOf_14 {G : am_G} {N : Nat} {h0 : am_H} {out : Int32 × am_S} (l0 : Int32) (S : am_S) (hB : b_X8_kindOf_14 N l0 S = some out) : Ev G (am_R 1 0 0) (am_Φ G h0 0 0 (q_i out) q_n) mX8_kindOf 0 0 14 [some (.int l0)] [] (hp S) := by
  unfold b_X8_kindOf_14 at hB
  refine ev_iload_n dX8_kindOf_14 rfl ?_
  refine ev_bipush 48 dX8_kindOf_15 (by decide) ?_
  refine ev_icmplt 28 dX8_kindOf_17 (by decide) (fun q1 => ?_) (fun q1 => ?_)
  · rw [if_pos q1] at hB
    exact ev_ls (u_X8_kindOf_28 l0 S hB) (And.intro rfl trivial)
  · rw [if_neg q1] at hB
    refine ev_iload_n dX8_kindOf_20 rfl ?_
    refine ev_bipush 57 dX8_kindOf_21 (by decide) ?_
    refine ev_icmpgt 28 dX8_kindOf_23 (by decide) (fun q2 => ?_) (fun q2 => ?_)
    · rw [if_pos q2] at hB
      exact ev_ls (u_X8_kindOf_28 l0 S hB) (And.intro rfl trivial)
    · rw [if_neg q2] at hB
      refine ev_iconst 3 dX8_kindOf_26 (by decide) ?_
      obtain rfl := Option.some.inj hB
      exact ev_iret dX8_kindOf_27 rfl (Nat.zero_le _) (Nat.zero_le _) (fun z => absurd z (hp_sealed _)) ⟨rfl, rfl⟩
theorem t_X8_kindOf {G : am_G} {N : Nat} {l0 : Int32} {S : am_S} {out : Int32 × am_S} (hB : f_X8_kindOf N l0 S = some out) : am_Met G 1 mX8_kindOf 0 0 [.int l0] (hp S) (q_i out) q_n := by
  refine am_of (by decide +kernel) rfl rfl rfl (Nat.le_of_ble_eq_true rfl) ?_
  unfold f_X8_kindOf at hB
  refine ev_iload_n dX8_kindOf_0 rfl ?_
  refine ev_bipush 97 dX8_kindOf_1 (by decide) ?_
  refine ev_icmplt 14 dX8_kindOf_3 (by decide) (fun q1 => ?_) (fun q1 => ?_)
  · rw [if_pos q1] at hB
    exact ev_ls (u_X8_kindOf_14 l0 S hB) (And.intro rfl trivial)
  · rw [if_neg q1] at hB
    refine ev_iload_n dX8_kindOf_6 rfl ?_
    refine ev_bipush 122 dX8_kindOf_7 (by decide) ?_
    refine ev_icmpgt 14 dX8_kindOf_9 (by decide) (fun q2 => ?_) (fun q2 => ?_)
    · rw [if_pos q2] at hB
      exact ev_ls (u_X8_kindOf_14 l0 S hB) (And.intro rfl trivial)
    · rw [if_neg q2] at hB
      refine ev_iconst 2 dX8_kindOf_12 (by decide) ?_
      obtain rfl := Option.some.inj hB
      exact ev_iret dX8_kindOf_13 rfl (Nat.zero_le _) (Nat.zero_le _) (fun z => absurd z (hp_sealed _)) ⟨rfl, rfl⟩
def b_X8_numberHere_24 (N : Nat) : Nat → Nat → Int32 → Int32 → am_S → Option (Int32 × am_S)
  | 0, _, _, _, _ => none
  | n + 1, l0, l1, l2, S => (if (sg S l0 3) ≤ l2 then some (l1, S) else (if isAr 0 (rg S 2) = true then (if inb l2 (ln (rg S 2)) = true then b_X8_numberHere_24 N n l0 (((10 * l1) + (sg S (rg S 2) (Int32.toNatClampNeg l2))) - 48) (l2 + 1) S else none) else none))
def f_X8_numberHere (N : Nat) (l0 : Nat) (S : am_S) : Option (Int32 × am_S) := (if ((sg S l0 3) - (sg S l0 2)) ≤ 4 then b_X8_numberHere_24 N N l0 0 (sg S l0 2) S else some (10000, S))
theorem u_X8_numberHere_24 {G : am_G} {N : Nat} {h0 : am_H} {out : Int32 × am_S} : ∀ (n : Nat) (l0 : Nat) (l1 : Int32) (l2 : Int32) (S : am_S), isC 8 l0 = true → b_X8_numberHere_24 N n l0 l1 l2 S = some out → Ev G (am_R 1 0 0) (am_Φ G h0 0 0 (q_i out) q_n) mX8_numberHere 0 0 24 [some (.ref l0), some (.int l1), some (.int l2)] [] (hp S) := by
  intro n
  induction n with
  | zero =>
    intro l0 l1 l2 S hl0 hB
    exact absurd (show none = some out from hB) (fun q => by cases q)
  | succ n ih =>
    intro l0 l1 l2 S hl0 hB
    unfold b_X8_numberHere_24 at hB
    refine ev_iload_n dX8_numberHere_24 rfl ?_
    refine ev_aload_n dX8_numberHere_25 rfl ?_
    refine es_geti k_8 3 dX8_numberHere_26 (by decide) rfl (Or.inl w_53) hl0 rfl ?_
    refine ev_icmpge 53 dX8_numberHere_29 (by decide) (fun q1 => ?_) (fun q1 => ?_)
    · rw [if_pos q1] at hB
      refine ev_iload_n dX8_numberHere_53 rfl ?_
      obtain rfl := Option.some.inj hB
      exact ev_iret dX8_numberHere_54 rfl (Nat.zero_le _) (Nat.zero_le _) (fun z => absurd z (hp_sealed _)) ⟨rfl, rfl⟩
    · rw [if_neg q1] at hB
      refine ev_bipush 10 dX8_numberHere_32 (by decide) ?_
      refine ev_iload_n dX8_numberHere_34 rfl ?_
      refine ev_imul dX8_numberHere_35 ?_
      refine ev_aload_n dX8_numberHere_36 rfl ?_
      refine es_getd 2 k_8 0 dX8_numberHere_37 (by decide) rfl (Or.inl w_49) hl0 rfl ?_
      obtain ⟨c2, hB⟩ := ck_of hB
      refine ev_iload_n dX8_numberHere_40 rfl ?_
      obtain ⟨c3, hB⟩ := ck_of hB
      refine es_bald dX8_numberHere_41 c2 c3 ?_
      refine ev_iadd dX8_numberHere_42 ?_
      refine ev_bipush 48 dX8_numberHere_43 (by decide) ?_
      refine ev_isub dX8_numberHere_45 ?_
      refine ev_istore_n dX8_numberHere_46 (by decide) rfl ?_
      refine es_iinc 1 dX8_numberHere_47 rfl (by decide) (by decide) rfl ?_
      refine ev_goto 24 dX8_numberHere_50 (by decide) ?_
      exact ev_ls (ih l0 (((10 * l1) + (sg S (rg S 2) (Int32.toNatClampNeg l2))) - 48) (l2 + 1) S hl0 hB) (And.intro rfl (And.intro rfl (And.intro rfl trivial)))
theorem t_X8_numberHere {G : am_G} {N : Nat} {l0 : Nat} {S : am_S} {out : Int32 × am_S} (hl0 : isC 8 l0 = true) (hB : f_X8_numberHere N l0 S = some out) : am_Met G 1 mX8_numberHere 0 0 [.ref l0] (hp S) (q_i out) q_n := by
  refine am_of (by decide +kernel) rfl rfl rfl (Nat.le_of_ble_eq_true rfl) ?_
  unfold f_X8_numberHere at hB
  refine ev_aload_n dX8_numberHere_0 rfl ?_
  refine es_geti k_8 3 dX8_numberHere_1 (by decide) rfl (Or.inl w_53) hl0 rfl ?_
  refine ev_aload_n dX8_numberHere_4 rfl ?_
  refine es_geti k_8 2 dX8_numberHere_5 (by decide) rfl (Or.inl w_51) hl0 rfl ?_
  refine ev_isub dX8_numberHere_8 ?_
  refine ev_iconst 4 dX8_numberHere_9 (by decide) ?_
  refine ev_icmple 17 dX8_numberHere_10 (by decide) (fun q1 => ?_) (fun q1 => ?_)
  · rw [if_pos q1] at hB
    refine ev_iconst 0 dX8_numberHere_17 (by decide) ?_
    refine ev_istore_n dX8_numberHere_18 (by decide) rfl ?_
    refine ev_aload_n dX8_numberHere_19 rfl ?_
    refine es_geti k_8 2 dX8_numberHere_20 (by decide) rfl (Or.inl w_51) hl0 rfl ?_
    refine ev_istore_n dX8_numberHere_23 (by decide) rfl ?_
    exact ev_ls (u_X8_numberHere_24 N l0 0 (sg S l0 2) S hl0 hB) (And.intro rfl (And.intro rfl (And.intro rfl trivial)))
  · rw [if_neg q1] at hB
    refine ev_sipush 10000 dX8_numberHere_13 (by decide) ?_
    obtain rfl := Option.some.inj hB
    exact ev_iret dX8_numberHere_16 rfl (Nat.zero_le _) (Nat.zero_le _) (fun z => absurd z (hp_sealed _)) ⟨rfl, rfl⟩
def b_X8_step_182 (N : Nat) (z0 : Nat) (z1 : Int32) (S : am_S) : Option (am_S) := some (sp S z0 5 z1)
def b_X8_step_165 (N : Nat) (l0 : Nat) (S : am_S) : Option (am_S) := (if (sg S l0 4) = 3 then (bd (f_X8_numberHere N l0 S) (fun r2 S3 => b_X8_step_182 N l0 r2 S3)) else b_X8_step_182 N l0 0 S)
def b_X8_step_133 (N : Nat) (k106 : Nat → am_S → Option (am_S)) (l0 : Nat) (S : am_S) : Option (am_S) := (if isAr 0 (rg S 2) = true then (if inb (sg S l0 3) (ln (rg S 2)) = true then (bd (f_X8_kindOf N (sg S (rg S 2) (Int32.toNatClampNeg (sg S l0 3))) S) (fun r3 S4 => (if r3 = (sg S4 l0 4) then k106 l0 (sp S4 l0 3 ((sg S4 l0 3) + 1)) else b_X8_step_165 N l0 S4))) else none) else none)
def b_X8_step_106 (N : Nat) : Nat → Nat → am_S → Option (am_S)
  | 0, _, _ => none
  | n + 1, l0, S => (if (sg S l0 1) ≤ (sg S l0 3) then b_X8_step_165 N l0 S else (if (sg S l0 4) = 2 then b_X8_step_133 N (b_X8_step_106 N n) l0 S else (if (sg S l0 4) = 3 then b_X8_step_133 N (b_X8_step_106 N n) l0 S else b_X8_step_165 N l0 S)))
def b_X8_step_56 (N : Nat) (l0 : Nat) (S : am_S) : Option (am_S) := (if (sg (sp (sp S l0 3 (sg S l0 2)) l0 4 0) l0 1) ≤ (sg (sp (sp S l0 3 (sg S l0 2)) l0 4 0) l0 2) then b_X8_step_106 N N l0 (sp (sp S l0 3 (sg S l0 2)) l0 4 0) else (if isAr 0 (rg (sp (sp S l0 3 (sg S l0 2)) l0 4 0) 2) = true then (if inb (sg (sp (sp S l0 3 (sg S l0 2)) l0 4 0) l0 2) (ln (rg (sp (sp S l0 3 (sg S l0 2)) l0 4 0) 2)) = true then (bd (f_X8_kindOf N (sg (sp (sp S l0 3 (sg S l0 2)) l0 4 0) (rg (sp (sp S l0 3 (sg S l0 2)) l0 4 0) 2) (Int32.toNatClampNeg (sg (sp (sp S l0 3 (sg S l0 2)) l0 4 0) l0 2))) (sp (sp S l0 3 (sg S l0 2)) l0 4 0)) (fun r4 S5 => b_X8_step_106 N N l0 (sp (sp S5 l0 4 r4) l0 3 ((sg (sp S5 l0 4 r4) l0 3) + 1)))) else none) else none))
def b_X8_step_16 (N : Nat) : Nat → Nat → am_S → Option (am_S)
  | 0, _, _ => none
  | n + 1, l0, S => (if (sg S l0 1) ≤ (sg S l0 2) then b_X8_step_56 N l0 S else (if isAr 0 (rg S 2) = true then (if inb (sg S l0 2) (ln (rg S 2)) = true then (bd (f_X8_kindOf N (sg S (rg S 2) (Int32.toNatClampNeg (sg S l0 2))) S) (fun r4 S5 => (if r4 = 4 then b_X8_step_16 N n l0 (sp S5 l0 2 ((sg S5 l0 2) + 1)) else b_X8_step_56 N l0 S5))) else none) else none))
def f_X8_step (N : Nat) (l0 : Nat) (S : am_S) : Option (am_S) := (if (sg S l0 6) = 0 then b_X8_step_16 N N l0 (sp S l0 2 (sg S l0 3)) else some S)
theorem u_X8_step_182 {G : am_G} {N : Nat} {h0 : am_H} {out : am_S} (z0 : Nat) (z1 : Int32) (S : am_S) (hz0 : isC 8 z0 = true) (hB : b_X8_step_182 N z0 z1 S = some out) : Ev G (am_R 2 0 0) (am_Φ G h0 0 0 (q_v out) q_n) mX8_step 0 0 182 [none] [.int z1, .ref z0] (hp S) := by
  unfold b_X8_step_182 at hB
  refine es_puti k_8 5 dX8_step_182 (by decide) rfl (Or.inl w_57) rfl rfl hz0 rfl ?_
  obtain rfl := Option.some.inj hB
  exact ev_vret dX8_step_185 rfl (Nat.zero_le _) (Nat.zero_le _) (fun z => absurd z (hp_sealed _)) ⟨rfl, rfl⟩
theorem u_X8_step_165 {G : am_G} {N : Nat} {h0 : am_H} {out : am_S} (l0 : Nat) (S : am_S) (hl0 : isC 8 l0 = true) (hB : b_X8_step_165 N l0 S = some out) : Ev G (am_R 2 0 0) (am_Φ G h0 0 0 (q_v out) q_n) mX8_step 0 0 165 [some (.ref l0)] [] (hp S) := by
  unfold b_X8_step_165 at hB
  refine ev_aload_n dX8_step_165 rfl ?_
  refine ev_aload_n dX8_step_166 rfl ?_
  refine es_geti k_8 4 dX8_step_167 (by decide) rfl (Or.inl w_54) hl0 rfl ?_
  refine ev_iconst 3 dX8_step_170 (by decide) ?_
  refine ev_icmpne 181 dX8_step_171 (by decide) (fun q1 => ?_) (fun q1 => ?_)
  · rw [if_neg q1] at hB
    refine ev_iconst 0 dX8_step_181 (by decide) ?_
    exact ev_ls (u_X8_step_182 l0 0 S hl0 hB) trivial
  · rw [if_pos q1] at hB
    refine ev_aload_n dX8_step_174 rfl ?_
    obtain ⟨r2, S3, e4, hB⟩ := bd_of hB
    refine es_callVi (As := []) (t_X8_numberHere hl0 e4) dX8_step_175 oX8_numberHere w_859 rfl hl0 rfl rfl (Nat.le_of_ble_eq_true rfl) rfl (am_fit.of (by decide)) ⟨Nat.zero_le _, Nat.zero_le _⟩ ?_
    refine ev_goto 182 dX8_step_178 (by decide) ?_
    exact ev_ls (u_X8_step_182 l0 r2 S3 hl0 hB) trivial
theorem u_X8_step_133 {G : am_G} {N : Nat} {h0 : am_H} {out : am_S} {k106 : Nat → am_S → Option (am_S)} (hk106 : ∀ (l0 : Nat) (S : am_S), isC 8 l0 = true → k106 l0 S = some out → Ev G (am_R 2 0 0) (am_Φ G h0 0 0 (q_v out) q_n) mX8_step 0 0 106 [some (.ref l0)] [] (hp S)) (l0 : Nat) (S : am_S) (hl0 : isC 8 l0 = true) (hB : b_X8_step_133 N k106 l0 S = some out) : Ev G (am_R 2 0 0) (am_Φ G h0 0 0 (q_v out) q_n) mX8_step 0 0 133 [some (.ref l0)] [] (hp S) := by
  unfold b_X8_step_133 at hB
  refine ev_aload_n dX8_step_133 rfl ?_
  refine es_getd 2 k_8 0 dX8_step_134 (by decide) rfl (Or.inl w_49) hl0 rfl ?_
  obtain ⟨c1, hB⟩ := ck_of hB
  refine ev_aload_n dX8_step_137 rfl ?_
  refine es_geti k_8 3 dX8_step_138 (by decide) rfl (Or.inl w_53) hl0 rfl ?_
  obtain ⟨c2, hB⟩ := ck_of hB
  refine es_bald dX8_step_141 c1 c2 ?_
  obtain ⟨r3, S4, e5, hB⟩ := bd_of hB
  refine es_callSi (As := [.int (sg S (rg S 2) (Int32.toNatClampNeg (sg S l0 3)))]) (t_X8_kindOf e5) dX8_step_142 oX8_kindOf w_856 rfl (Nat.le_of_ble_eq_true rfl) rfl (am_fit.of (by decide)) ⟨Nat.zero_le _, Nat.zero_le _⟩ ?_
  refine ev_aload_n dX8_step_145 rfl ?_
  refine es_geti k_8 4 dX8_step_146 (by decide) rfl (Or.inl w_54) hl0 rfl ?_
  refine ev_icmpne 165 dX8_step_149 (by decide) (fun q6 => ?_) (fun q6 => ?_)
  · rw [if_neg q6] at hB
    exact ev_ls (u_X8_step_165 l0 S4 hl0 hB) (And.intro rfl trivial)
  · rw [if_pos q6] at hB
    refine ev_aload_n dX8_step_152 rfl ?_
    refine ev_dup dX8_step_153 rfl ?_
    refine es_geti k_8 3 dX8_step_154 (by decide) rfl (Or.inl w_53) hl0 rfl ?_
    refine ev_iconst 1 dX8_step_157 (by decide) ?_
    refine ev_iadd dX8_step_158 ?_
    refine es_puti k_8 3 dX8_step_159 (by decide) rfl (Or.inl w_53) rfl rfl hl0 rfl ?_
    refine ev_goto 106 dX8_step_162 (by decide) ?_
    exact ev_ls (hk106 l0 (sp S4 l0 3 ((sg S4 l0 3) + 1)) hl0 hB) (And.intro rfl trivial)
theorem u_X8_step_106 {G : am_G} {N : Nat} {h0 : am_H} {out : am_S} : ∀ (n : Nat) (l0 : Nat) (S : am_S), isC 8 l0 = true → b_X8_step_106 N n l0 S = some out → Ev G (am_R 2 0 0) (am_Φ G h0 0 0 (q_v out) q_n) mX8_step 0 0 106 [some (.ref l0)] [] (hp S) := by
  intro n
  induction n with
  | zero =>
    intro l0 S hl0 hB
    exact absurd (show none = some out from hB) (fun q => by cases q)
  | succ n ih =>
    intro l0 S hl0 hB
    unfold b_X8_step_106 at hB
    refine ev_aload_n dX8_step_106 rfl ?_
    refine es_geti k_8 3 dX8_step_107 (by decide) rfl (Or.inl w_53) hl0 rfl ?_
    refine ev_aload_n dX8_step_110 rfl ?_
    refine es_geti k_8 1 dX8_step_111 (by decide) rfl (Or.inl w_50) hl0 rfl ?_
    refine ev_icmpge 165 dX8_step_114 (by decide) (fun q1 => ?_) (fun q1 => ?_)
    · rw [if_pos q1] at hB
      exact ev_ls (u_X8_step_165 l0 S hl0 hB) (And.intro rfl trivial)
    · rw [if_neg q1] at hB
      refine ev_aload_n dX8_step_117 rfl ?_
      refine es_geti k_8 4 dX8_step_118 (by decide) rfl (Or.inl w_54) hl0 rfl ?_
      refine ev_iconst 2 dX8_step_121 (by decide) ?_
      refine ev_icmpeq 133 dX8_step_122 (by decide) (fun q2 => ?_) (fun q2 => ?_)
      · rw [if_pos q2] at hB
        exact ev_ls (u_X8_step_133 ih l0 S hl0 hB) (And.intro rfl trivial)
      · rw [if_neg q2] at hB
        refine ev_aload_n dX8_step_125 rfl ?_
        refine es_geti k_8 4 dX8_step_126 (by decide) rfl (Or.inl w_54) hl0 rfl ?_
        refine ev_iconst 3 dX8_step_129 (by decide) ?_
        refine ev_icmpne 165 dX8_step_130 (by decide) (fun q3 => ?_) (fun q3 => ?_)
        · rw [if_neg q3] at hB
          exact ev_ls (u_X8_step_165 l0 S hl0 hB) (And.intro rfl trivial)
        · rw [if_pos q3] at hB
          exact ev_ls (u_X8_step_133 ih l0 S hl0 hB) (And.intro rfl trivial)
theorem u_X8_step_56 {G : am_G} {N : Nat} {h0 : am_H} {out : am_S} (l0 : Nat) (S : am_S) (hl0 : isC 8 l0 = true) (hB : b_X8_step_56 N l0 S = some out) : Ev G (am_R 2 0 0) (am_Φ G h0 0 0 (q_v out) q_n) mX8_step 0 0 56 [some (.ref l0)] [] (hp S) := by
  unfold b_X8_step_56 at hB
  refine ev_aload_n dX8_step_56 rfl ?_
  refine ev_aload_n dX8_step_57 rfl ?_
  refine es_geti k_8 2 dX8_step_58 (by decide) rfl (Or.inl w_51) hl0 rfl ?_
  refine es_puti k_8 3 dX8_step_61 (by decide) rfl (Or.inl w_53) rfl rfl hl0 rfl ?_
  refine ev_aload_n dX8_step_64 rfl ?_
  refine ev_iconst 0 dX8_step_65 (by decide) ?_
  refine es_puti k_8 4 dX8_step_66 (by decide) rfl (Or.inl w_54) rfl rfl hl0 rfl ?_
  refine ev_aload_n dX8_step_69 rfl ?_
  refine es_geti k_8 2 dX8_step_70 (by decide) rfl (Or.inl w_51) hl0 rfl ?_
  refine ev_aload_n dX8_step_73 rfl ?_
  refine es_geti k_8 1 dX8_step_74 (by decide) rfl (Or.inl w_50) hl0 rfl ?_
  refine ev_icmpge 106 dX8_step_77 (by decide) (fun q1 => ?_) (fun q1 => ?_)
  · rw [if_pos q1] at hB
    exact ev_ls (u_X8_step_106 N l0 (sp (sp S l0 3 (sg S l0 2)) l0 4 0) hl0 hB) (And.intro rfl trivial)
  · rw [if_neg q1] at hB
    refine ev_aload_n dX8_step_80 rfl ?_
    refine ev_aload_n dX8_step_81 rfl ?_
    refine es_getd 2 k_8 0 dX8_step_82 (by decide) rfl (Or.inl w_49) hl0 rfl ?_
    obtain ⟨c2, hB⟩ := ck_of hB
    refine ev_aload_n dX8_step_85 rfl ?_
    refine es_geti k_8 2 dX8_step_86 (by decide) rfl (Or.inl w_51) hl0 rfl ?_
    obtain ⟨c3, hB⟩ := ck_of hB
    refine es_bald dX8_step_89 c2 c3 ?_
    obtain ⟨r4, S5, e6, hB⟩ := bd_of hB
    refine es_callSi (As := [.int (sg (sp (sp S l0 3 (sg S l0 2)) l0 4 0) (rg (sp (sp S l0 3 (sg S l0 2)) l0 4 0) 2) (Int32.toNatClampNeg (sg (sp (sp S l0 3 (sg S l0 2)) l0 4 0) l0 2)))]) (t_X8_kindOf e6) dX8_step_90 oX8_kindOf w_856 rfl (Nat.le_of_ble_eq_true rfl) rfl (am_fit.of (by decide)) ⟨Nat.zero_le _, Nat.zero_le _⟩ ?_
    refine es_puti k_8 4 dX8_step_93 (by decide) rfl (Or.inl w_54) rfl rfl hl0 rfl ?_
    refine ev_aload_n dX8_step_96 rfl ?_
    refine ev_dup dX8_step_97 rfl ?_
    refine es_geti k_8 3 dX8_step_98 (by decide) rfl (Or.inl w_53) hl0 rfl ?_
    refine ev_iconst 1 dX8_step_101 (by decide) ?_
    refine ev_iadd dX8_step_102 ?_
    refine es_puti k_8 3 dX8_step_103 (by decide) rfl (Or.inl w_53) rfl rfl hl0 rfl ?_
    exact ev_ls (u_X8_step_106 N l0 (sp (sp S5 l0 4 r4) l0 3 ((sg (sp S5 l0 4 r4) l0 3) + 1)) hl0 hB) (And.intro rfl trivial)
theorem u_X8_step_16 {G : am_G} {N : Nat} {h0 : am_H} {out : am_S} : ∀ (n : Nat) (l0 : Nat) (S : am_S), isC 8 l0 = true → b_X8_step_16 N n l0 S = some out → Ev G (am_R 2 0 0) (am_Φ G h0 0 0 (q_v out) q_n) mX8_step 0 0 16 [some (.ref l0)] [] (hp S) := by
  intro n
  induction n with
  | zero =>
    intro l0 S hl0 hB
    exact absurd (show none = some out from hB) (fun q => by cases q)
  | succ n ih =>
    intro l0 S hl0 hB
    unfold b_X8_step_16 at hB
    refine ev_aload_n dX8_step_16 rfl ?_
    refine es_geti k_8 2 dX8_step_17 (by decide) rfl (Or.inl w_51) hl0 rfl ?_
    refine ev_aload_n dX8_step_20 rfl ?_
    refine es_geti k_8 1 dX8_step_21 (by decide) rfl (Or.inl w_50) hl0 rfl ?_
    refine ev_icmpge 56 dX8_step_24 (by decide) (fun q1 => ?_) (fun q1 => ?_)
    · rw [if_pos q1] at hB
      exact ev_ls (u_X8_step_56 l0 S hl0 hB) (And.intro rfl trivial)
    · rw [if_neg q1] at hB
      refine ev_aload_n dX8_step_27 rfl ?_
      refine es_getd 2 k_8 0 dX8_step_28 (by decide) rfl (Or.inl w_49) hl0 rfl ?_
      obtain ⟨c2, hB⟩ := ck_of hB
      refine ev_aload_n dX8_step_31 rfl ?_
      refine es_geti k_8 2 dX8_step_32 (by decide) rfl (Or.inl w_51) hl0 rfl ?_
      obtain ⟨c3, hB⟩ := ck_of hB
      refine es_bald dX8_step_35 c2 c3 ?_
      obtain ⟨r4, S5, e6, hB⟩ := bd_of hB
      refine es_callSi (As := [.int (sg S (rg S 2) (Int32.toNatClampNeg (sg S l0 2)))]) (t_X8_kindOf e6) dX8_step_36 oX8_kindOf w_856 rfl (Nat.le_of_ble_eq_true rfl) rfl (am_fit.of (by decide)) ⟨Nat.zero_le _, Nat.zero_le _⟩ ?_
      refine ev_iconst 4 dX8_step_39 (by decide) ?_
      refine ev_icmpne 56 dX8_step_40 (by decide) (fun q7 => ?_) (fun q7 => ?_)
      · rw [if_neg q7] at hB
        exact ev_ls (u_X8_step_56 l0 S5 hl0 hB) (And.intro rfl trivial)
      · rw [if_pos q7] at hB
        refine ev_aload_n dX8_step_43 rfl ?_
        refine ev_dup dX8_step_44 rfl ?_
        refine es_geti k_8 2 dX8_step_45 (by decide) rfl (Or.inl w_51) hl0 rfl ?_
        refine ev_iconst 1 dX8_step_48 (by decide) ?_
        refine ev_iadd dX8_step_49 ?_
        refine es_puti k_8 2 dX8_step_50 (by decide) rfl (Or.inl w_51) rfl rfl hl0 rfl ?_
        refine ev_goto 16 dX8_step_53 (by decide) ?_
        exact ev_ls (ih l0 (sp S5 l0 2 ((sg S5 l0 2) + 1)) hl0 hB) (And.intro rfl trivial)
theorem t_X8_step {G : am_G} {N : Nat} {l0 : Nat} {S : am_S} {out : am_S} (hl0 : isC 8 l0 = true) (hB : f_X8_step N l0 S = some out) : am_Met G 2 mX8_step 0 0 [.ref l0] (hp S) (q_v out) q_n := by
  refine am_of (by decide +kernel) rfl rfl rfl (Nat.le_of_ble_eq_true rfl) ?_
  unfold f_X8_step at hB
  refine ev_aload_n dX8_step_0 rfl ?_
  refine es_geti k_8 6 dX8_step_1 (by decide) rfl (Or.inl w_60) hl0 rfl ?_
  refine ev_ifeq 8 dX8_step_4 (by decide) (fun q1 => ?_) (fun q1 => ?_)
  · rw [if_pos q1] at hB
    refine ev_aload_n dX8_step_8 rfl ?_
    refine ev_aload_n dX8_step_9 rfl ?_
    refine es_geti k_8 3 dX8_step_10 (by decide) rfl (Or.inl w_53) hl0 rfl ?_
    refine es_puti k_8 2 dX8_step_13 (by decide) rfl (Or.inl w_51) rfl rfl hl0 rfl ?_
    exact ev_ls (u_X8_step_16 N l0 (sp S l0 2 (sg S l0 3)) hl0 hB) (And.intro rfl trivial)
  · rw [if_neg q1] at hB
    obtain rfl := Option.some.inj hB
    exact ev_vret dX8_step_7 rfl (Nat.zero_le _) (Nat.zero_le _) (fun z => absurd z (hp_sealed _)) ⟨rfl, rfl⟩
def f_X8_start (N : Nat) (l0 : Nat) (l1 : Nat) (l2 : Int32) (S : am_S) : Option (am_S) := (bv (f_X8_step N l0 (sp (sp (sp (rp S 2 l1) l0 1 (jmin l2 (nI (ln l1)))) l0 3 0) l0 6 0)) (fun S2 => some S2))
theorem t_X8_start {G : am_G} {N : Nat} {l0 : Nat} {l1 : Nat} {l2 : Int32} {S : am_S} {out : am_S} (hl0 : isC 8 l0 = true) (hl1 : isAr 0 l1 = true) (hB : f_X8_start N l0 l1 l2 S = some out) : am_Met G 3 mX8_start 0 0 [.ref l0, .ref l1, .int l2] (hp S) (q_v out) q_n := by
  refine am_of (by decide +kernel) rfl rfl rfl (Nat.le_of_ble_eq_true rfl) ?_
  unfold f_X8_start at hB
  refine ev_aload_n dX8_start_0 rfl ?_
  refine ev_aload_n dX8_start_1 rfl ?_
  refine es_putd 2 k_8 0 dX8_start_2 (by decide) rfl (Or.inl w_49) rfl rfl rfl hl0 rfl (on_2 hl0) ?_
  refine ev_aload_n dX8_start_5 rfl ?_
  refine ev_iload_n dX8_start_6 rfl ?_
  refine ev_aload_n dX8_start_7 rfl ?_
  refine es_alen dX8_start_8 hl1 rfl ?_
  refine es_min dX8_start_9 w_851 (Nat.le_of_ble_eq_true rfl) (am_fit.of (by decide)) ⟨Nat.zero_le _, Nat.zero_le _⟩ ?_
  refine es_puti k_8 1 dX8_start_12 (by decide) rfl (Or.inl w_50) rfl rfl hl0 rfl ?_
  refine ev_aload_n dX8_start_15 rfl ?_
  refine ev_iconst 0 dX8_start_16 (by decide) ?_
  refine es_puti k_8 3 dX8_start_17 (by decide) rfl (Or.inl w_53) rfl rfl hl0 rfl ?_
  refine ev_aload_n dX8_start_20 rfl ?_
  refine ev_iconst 0 dX8_start_21 (by decide) ?_
  refine es_puti k_8 6 dX8_start_22 (by decide) rfl (Or.inl w_60) rfl rfl hl0 rfl ?_
  refine ev_aload_n dX8_start_25 rfl ?_
  obtain ⟨S2, e3, hB⟩ := bv_of hB
  refine es_callVv (As := []) (t_X8_step hl0 e3) dX8_start_26 oX8_step w_852 rfl hl0 rfl rfl (Nat.le_of_ble_eq_true rfl) rfl (am_fit.of (by decide)) ⟨Nat.zero_le _, Nat.zero_le _⟩ ?_
  obtain rfl := Option.some.inj hB
  exact ev_vret dX8_start_29 rfl (Nat.zero_le _) (Nat.zero_le _) (fun z => absurd z (hp_sealed _)) ⟨rfl, rfl⟩
def b_X8_isFine_12 (N : Nat) (z0 : Int32) (S : am_S) : Option (Int32 × am_S) := (if isB z0 = true then some (z0, S) else none)
def f_X8_isFine (N : Nat) (l0 : Nat) (S : am_S) : Option (Int32 × am_S) := (if (sg S l0 6) = 0 then b_X8_isFine_12 N 1 S else b_X8_isFine_12 N 0 S)
theorem u_X8_isFine_12 {G : am_G} {N : Nat} {h0 : am_H} {out : Int32 × am_S} (z0 : Int32) (S : am_S) (hB : b_X8_isFine_12 N z0 S = some out) : Ev G (am_R 1 0 0) (am_Φ G h0 0 0 (q_i out) q_n) mX8_isFine 0 0 12 [none] [.int z0] (hp S) := by
  unfold b_X8_isFine_12 at hB
  obtain ⟨c1, hB⟩ := ck_of hB
  obtain rfl := Option.some.inj hB
  exact ev_zret dX8_isFine_12 rfl (isB_nar c1) (Nat.zero_le _) (Nat.zero_le _) (fun z => absurd z (hp_sealed _)) ⟨rfl, rfl⟩
theorem t_X8_isFine {G : am_G} {N : Nat} {l0 : Nat} {S : am_S} {out : Int32 × am_S} (hl0 : isC 8 l0 = true) (hB : f_X8_isFine N l0 S = some out) : am_Met G 1 mX8_isFine 0 0 [.ref l0] (hp S) (q_i out) q_n := by
  refine am_of (by decide +kernel) rfl rfl rfl (Nat.le_of_ble_eq_true rfl) ?_
  unfold f_X8_isFine at hB
  refine ev_aload_n dX8_isFine_0 rfl ?_
  refine es_geti k_8 6 dX8_isFine_1 (by decide) rfl (Or.inl w_60) hl0 rfl ?_
  refine ev_ifne 11 dX8_isFine_4 (by decide) (fun q1 => ?_) (fun q1 => ?_)
  · rw [if_neg q1] at hB
    refine ev_iconst 0 dX8_isFine_11 (by decide) ?_
    exact ev_ls (u_X8_isFine_12 0 S hB) trivial
  · rw [if_pos q1] at hB
    refine ev_iconst 1 dX8_isFine_7 (by decide) ?_
    refine ev_goto 12 dX8_isFine_8 (by decide) ?_
    exact ev_ls (u_X8_isFine_12 1 S hB) trivial
def b_X8_fail_12 (N : Nat)  (S : am_S) : Option (am_S) := some S
def f_X8_fail (N : Nat) (l0 : Nat) (l1 : Int32) (S : am_S) : Option (am_S) := (if (sg S l0 6) = 0 then b_X8_fail_12 N (sp S l0 6 l1) else b_X8_fail_12 N S)
theorem u_X8_fail_12 {G : am_G} {N : Nat} {h0 : am_H} {out : am_S}  (S : am_S) (hB : b_X8_fail_12 N  S = some out) : Ev G (am_R 1 0 0) (am_Φ G h0 0 0 (q_v out) q_n) mX8_fail 0 0 12 [none, none] [] (hp S) := by
  unfold b_X8_fail_12 at hB
  obtain rfl := Option.some.inj hB
  exact ev_vret dX8_fail_12 rfl (Nat.zero_le _) (Nat.zero_le _) (fun z => absurd z (hp_sealed _)) ⟨rfl, rfl⟩
theorem t_X8_fail {G : am_G} {N : Nat} {l0 : Nat} {l1 : Int32} {S : am_S} {out : am_S} (hl0 : isC 8 l0 = true) (hB : f_X8_fail N l0 l1 S = some out) : am_Met G 1 mX8_fail 0 0 [.ref l0, .int l1] (hp S) (q_v out) q_n := by
  refine am_of (by decide +kernel) rfl rfl rfl (Nat.le_of_ble_eq_true rfl) ?_
  unfold f_X8_fail at hB
  refine ev_aload_n dX8_fail_0 rfl ?_
  refine es_geti k_8 6 dX8_fail_1 (by decide) rfl (Or.inl w_60) hl0 rfl ?_
  refine ev_ifne 12 dX8_fail_4 (by decide) (fun q1 => ?_) (fun q1 => ?_)
  · rw [if_neg q1] at hB
    exact ev_ls (u_X8_fail_12 S hB) trivial
  · rw [if_pos q1] at hB
    refine ev_aload_n dX8_fail_7 rfl ?_
    refine ev_iload_n dX8_fail_8 rfl ?_
    refine es_puti k_8 6 dX8_fail_9 (by decide) rfl (Or.inl w_60) rfl rfl hl0 rfl ?_
    exact ev_ls (u_X8_fail_12 (sp S l0 6 l1) hB) trivial
def b_X8_takeNumber_29 (N : Nat) (l0 : Nat) (S : am_S) : Option (Int32 × am_S) := (bv (f_X8_step N l0 S) (fun S2 => some ((sg S l0 5), S2)))
def f_X8_takeNumber (N : Nat) (l0 : Nat) (l1 : Int32) (S : am_S) : Option (Int32 × am_S) := (if (sg S l0 4) = 3 then (if (sg S l0 5) ≤ l1 then b_X8_takeNumber_29 N l0 S else (bv (f_X8_fail N l0 2 S) (fun S4 => b_X8_takeNumber_29 N l0 S4))) else (bv (f_X8_fail N l0 1 S) (fun S7 => b_X8_takeNumber_29 N l0 S7)))
theorem u_X8_takeNumber_29 {G : am_G} {N : Nat} {h0 : am_H} {out : Int32 × am_S} (l0 : Nat) (S : am_S) (hl0 : isC 8 l0 = true) (hB : b_X8_takeNumber_29 N l0 S = some out) : Ev G (am_R 3 0 0) (am_Φ G h0 0 0 (q_i out) q_n) mX8_takeNumber 0 0 29 [some (.ref l0), none, none] [] (hp S) := by
  unfold b_X8_takeNumber_29 at hB
  refine ev_aload_n dX8_takeNumber_29 rfl ?_
  refine es_geti k_8 5 dX8_takeNumber_30 (by decide) rfl (Or.inl w_57) hl0 rfl ?_
  refine ev_istore_n dX8_takeNumber_33 (by decide) rfl ?_
  refine ev_aload_n dX8_takeNumber_34 rfl ?_
  obtain ⟨S2, e3, hB⟩ := bv_of hB
  refine es_callVv (As := []) (t_X8_step hl0 e3) dX8_takeNumber_35 oX8_step w_852 rfl hl0 rfl rfl (Nat.le_of_ble_eq_true rfl) rfl (am_fit.of (by decide)) ⟨Nat.zero_le _, Nat.zero_le _⟩ ?_
  refine ev_iload_n dX8_takeNumber_38 rfl ?_
  obtain rfl := Option.some.inj hB
  exact ev_iret dX8_takeNumber_39 rfl (Nat.zero_le _) (Nat.zero_le _) (fun z => absurd z (hp_sealed _)) ⟨rfl, rfl⟩
theorem t_X8_takeNumber {G : am_G} {N : Nat} {l0 : Nat} {l1 : Int32} {S : am_S} {out : Int32 × am_S} (hl0 : isC 8 l0 = true) (hB : f_X8_takeNumber N l0 l1 S = some out) : am_Met G 3 mX8_takeNumber 0 0 [.ref l0, .int l1] (hp S) (q_i out) q_n := by
  refine am_of (by decide +kernel) rfl rfl rfl (Nat.le_of_ble_eq_true rfl) ?_
  unfold f_X8_takeNumber at hB
  refine ev_aload_n dX8_takeNumber_0 rfl ?_
  refine es_geti k_8 4 dX8_takeNumber_1 (by decide) rfl (Or.inl w_54) hl0 rfl ?_
  refine ev_iconst 3 dX8_takeNumber_4 (by decide) ?_
  refine ev_icmpeq 16 dX8_takeNumber_5 (by decide) (fun q1 => ?_) (fun q1 => ?_)
  · rw [if_pos q1] at hB
    refine ev_aload_n dX8_takeNumber_16 rfl ?_
    refine es_geti k_8 5 dX8_takeNumber_17 (by decide) rfl (Or.inl w_57) hl0 rfl ?_
    refine ev_iload_n dX8_takeNumber_20 rfl ?_
    refine ev_icmple 29 dX8_takeNumber_21 (by decide) (fun q2 => ?_) (fun q2 => ?_)
    · rw [if_pos q2] at hB
      exact ev_ls (u_X8_takeNumber_29 l0 S hl0 hB) (And.intro rfl trivial)
    · rw [if_neg q2] at hB
      refine ev_aload_n dX8_takeNumber_24 rfl ?_
      refine ev_iconst 2 dX8_takeNumber_25 (by decide) ?_
      obtain ⟨S4, e5, hB⟩ := bv_of hB
      refine es_callVv (As := [.int 2]) (t_X8_fail hl0 e5) dX8_takeNumber_26 oX8_fail w_914 rfl hl0 rfl rfl (Nat.le_of_ble_eq_true rfl) rfl (am_fit.of (by decide)) ⟨Nat.zero_le _, Nat.zero_le _⟩ ?_
      exact ev_ls (u_X8_takeNumber_29 l0 S4 hl0 hB) (And.intro rfl trivial)
  · rw [if_neg q1] at hB
    refine ev_aload_n dX8_takeNumber_8 rfl ?_
    refine ev_iconst 1 dX8_takeNumber_9 (by decide) ?_
    obtain ⟨S7, e8, hB⟩ := bv_of hB
    refine es_callVv (As := [.int 1]) (t_X8_fail hl0 e8) dX8_takeNumber_10 oX8_fail w_914 rfl hl0 rfl rfl (Nat.le_of_ble_eq_true rfl) rfl (am_fit.of (by decide)) ⟨Nat.zero_le _, Nat.zero_le _⟩ ?_
    refine ev_goto 29 dX8_takeNumber_13 (by decide) ?_
    exact ev_ls (u_X8_takeNumber_29 l0 S7 hl0 hB) (And.intro rfl trivial)
def b_X5_isUntold_12 (N : Nat) (z0 : Int32) (S : am_S) : Option (Int32 × am_S) := (if isB z0 = true then some (z0, S) else none)
def f_X5_isUntold (N : Nat) (l0 : Nat) (S : am_S) : Option (Int32 × am_S) := (if (sg S l0 1) = 0 then b_X5_isUntold_12 N 1 S else b_X5_isUntold_12 N 0 S)
theorem u_X5_isUntold_12 {G : am_G} {N : Nat} {h0 : am_H} {out : Int32 × am_S} (z0 : Int32) (S : am_S) (hB : b_X5_isUntold_12 N z0 S = some out) : Ev G (am_R 1 0 0) (am_Φ G h0 0 0 (q_i out) q_n) mX5_isUntold 0 0 12 [none] [.int z0] (hp S) := by
  unfold b_X5_isUntold_12 at hB
  obtain ⟨c1, hB⟩ := ck_of hB
  obtain rfl := Option.some.inj hB
  exact ev_zret dX5_isUntold_12 rfl (isB_nar c1) (Nat.zero_le _) (Nat.zero_le _) (fun z => absurd z (hp_sealed _)) ⟨rfl, rfl⟩
theorem t_X5_isUntold {G : am_G} {N : Nat} {l0 : Nat} {S : am_S} {out : Int32 × am_S} (hl0 : isC 5 l0 = true) (hB : f_X5_isUntold N l0 S = some out) : am_Met G 1 mX5_isUntold 0 0 [.ref l0] (hp S) (q_i out) q_n := by
  refine am_of (by decide +kernel) rfl rfl rfl (Nat.le_of_ble_eq_true rfl) ?_
  unfold f_X5_isUntold at hB
  refine ev_aload_n dX5_isUntold_0 rfl ?_
  refine es_geti k_5 1 dX5_isUntold_1 (by decide) rfl (Or.inl w_124) hl0 rfl ?_
  refine ev_ifne 11 dX5_isUntold_4 (by decide) (fun q1 => ?_) (fun q1 => ?_)
  · rw [if_neg q1] at hB
    refine ev_iconst 0 dX5_isUntold_11 (by decide) ?_
    exact ev_ls (u_X5_isUntold_12 0 S hB) trivial
  · rw [if_pos q1] at hB
    refine ev_iconst 1 dX5_isUntold_7 (by decide) ?_
    refine ev_goto 12 dX5_isUntold_8 (by decide) ?_
    exact ev_ls (u_X5_isUntold_12 1 S hB) trivial
def f_X6_beginExpression (N : Nat) (l0 : Nat) (S : am_S) : Option (am_S) := some (sp (sp (sp S l0 4 1) l0 5 1) l0 3 0)
theorem t_X6_beginExpression {G : am_G} {N : Nat} {l0 : Nat} {S : am_S} {out : am_S} (hl0 : isC 6 l0 = true) (hB : f_X6_beginExpression N l0 S = some out) : am_Met G 1 mX6_beginExpression 0 0 [.ref l0] (hp S) (q_v out) q_n := by
  refine am_of (by decide +kernel) rfl rfl rfl (Nat.le_of_ble_eq_true rfl) ?_
  unfold f_X6_beginExpression at hB
  refine ev_aload_n dX6_beginExpression_0 rfl ?_
  refine ev_iconst 1 dX6_beginExpression_1 (by decide) ?_
  refine es_putz k_6 4 dX6_beginExpression_2 (by decide) rfl (Or.inl w_88) rfl rfl (Or.inr rfl) hl0 rfl ?_
  refine ev_aload_n dX6_beginExpression_5 rfl ?_
  refine ev_iconst 1 dX6_beginExpression_6 (by decide) ?_
  refine es_putz k_6 5 dX6_beginExpression_7 (by decide) rfl (Or.inl w_89) rfl rfl (Or.inr rfl) hl0 rfl ?_
  refine ev_aload_n dX6_beginExpression_10 rfl ?_
  refine ev_iconst 0 dX6_beginExpression_11 (by decide) ?_
  refine es_puti k_6 3 dX6_beginExpression_12 (by decide) rfl (Or.inl w_87) rfl rfl hl0 rfl ?_
  obtain rfl := Option.some.inj hB
  exact ev_vret dX6_beginExpression_15 rfl (Nat.zero_le _) (Nat.zero_le _) (fun z => absurd z (hp_sealed _)) ⟨rfl, rfl⟩
def b_X6_isEnd_28 (N : Nat) (z0 : Int32) (S : am_S) : Option (Int32 × am_S) := (if isB z0 = true then some (z0, S) else none)
def b_X6_isEnd_27 (N : Nat)  (S : am_S) : Option (Int32 × am_S) := b_X6_isEnd_28 N 0 S
def f_X6_isEnd (N : Nat) (l0 : Nat) (l1 : Nat) (S : am_S) : Option (Int32 × am_S) := (if (sg S l0 4) = 0 then (if (sg S l0 2) = 0 then (if (sg S l1 4) = 59 then b_X6_isEnd_28 N 1 S else b_X6_isEnd_27 N S) else b_X6_isEnd_27 N S) else b_X6_isEnd_27 N S)
theorem u_X6_isEnd_28 {G : am_G} {N : Nat} {h0 : am_H} {out : Int32 × am_S} (z0 : Int32) (S : am_S) (hB : b_X6_isEnd_28 N z0 S = some out) : Ev G (am_R 1 0 0) (am_Φ G h0 0 0 (q_i out) q_n) mX6_isEnd 0 0 28 [none, none] [.int z0] (hp S) := by
  unfold b_X6_isEnd_28 at hB
  obtain ⟨c1, hB⟩ := ck_of hB
  obtain rfl := Option.some.inj hB
  exact ev_zret dX6_isEnd_28 rfl (isB_nar c1) (Nat.zero_le _) (Nat.zero_le _) (fun z => absurd z (hp_sealed _)) ⟨rfl, rfl⟩
theorem u_X6_isEnd_27 {G : am_G} {N : Nat} {h0 : am_H} {out : Int32 × am_S}  (S : am_S) (hB : b_X6_isEnd_27 N  S = some out) : Ev G (am_R 1 0 0) (am_Φ G h0 0 0 (q_i out) q_n) mX6_isEnd 0 0 27 [none, none] [] (hp S) := by
  unfold b_X6_isEnd_27 at hB
  refine ev_iconst 0 dX6_isEnd_27 (by decide) ?_
  exact ev_ls (u_X6_isEnd_28 0 S hB) trivial
theorem t_X6_isEnd {G : am_G} {N : Nat} {l0 : Nat} {l1 : Nat} {S : am_S} {out : Int32 × am_S} (hl0 : isC 6 l0 = true) (hl1 : isC 8 l1 = true) (hB : f_X6_isEnd N l0 l1 S = some out) : am_Met G 1 mX6_isEnd 0 0 [.ref l0, .ref l1] (hp S) (q_i out) q_n := by
  refine am_of (by decide +kernel) rfl rfl rfl (Nat.le_of_ble_eq_true rfl) ?_
  unfold f_X6_isEnd at hB
  refine ev_aload_n dX6_isEnd_0 rfl ?_
  refine es_geti k_6 4 dX6_isEnd_1 (by decide) rfl (Or.inl w_88) hl0 rfl ?_
  refine ev_ifne 27 dX6_isEnd_4 (by decide) (fun q1 => ?_) (fun q1 => ?_)
  · rw [if_neg q1] at hB
    exact ev_ls (u_X6_isEnd_27 S hB) trivial
  · rw [if_pos q1] at hB
    refine ev_aload_n dX6_isEnd_7 rfl ?_
    refine es_geti k_6 2 dX6_isEnd_8 (by decide) rfl (Or.inl w_86) hl0 rfl ?_
    refine ev_ifne 27 dX6_isEnd_11 (by decide) (fun q2 => ?_) (fun q2 => ?_)
    · rw [if_neg q2] at hB
      exact ev_ls (u_X6_isEnd_27 S hB) trivial
    · rw [if_pos q2] at hB
      refine ev_aload_n dX6_isEnd_14 rfl ?_
      refine es_geti k_8 4 dX6_isEnd_15 (by decide) rfl (Or.inr ⟨_, n_56⟩) hl1 rfl ?_
      refine ev_bipush 59 dX6_isEnd_18 (by decide) ?_
      refine ev_icmpne 27 dX6_isEnd_20 (by decide) (fun q3 => ?_) (fun q3 => ?_)
      · rw [if_neg q3] at hB
        exact ev_ls (u_X6_isEnd_27 S hB) trivial
      · rw [if_pos q3] at hB
        refine ev_iconst 1 dX6_isEnd_23 (by decide) ?_
        refine ev_goto 28 dX6_isEnd_24 (by decide) ?_
        exact ev_ls (u_X6_isEnd_28 1 S hB) trivial
def b_X6_push_32 (N : Nat)  (S : am_S) : Option (am_S) := some S
def f_X6_push (N : Nat) (l0 : Nat) (l1 : Int32) (S : am_S) : Option (am_S) := (if (nI (ln (rf l0 0))) ≤ (sg S l0 1) then b_X6_push_32 N S else (if inb (sg S l0 1) (ln (rf l0 0)) = true then b_X6_push_32 N (sp (sp S (rf l0 0) (Int32.toNatClampNeg (sg S l0 1)) l1) l0 1 ((sg (sp S (rf l0 0) (Int32.toNatClampNeg (sg S l0 1)) l1) l0 1) + 1)) else none))
theorem u_X6_push_32 {G : am_G} {N : Nat} {h0 : am_H} {out : am_S}  (S : am_S) (hB : b_X6_push_32 N  S = some out) : Ev G (am_R 1 0 0) (am_Φ G h0 0 0 (q_v out) q_n) mX6_push 0 0 32 [none, none] [] (hp S) := by
  unfold b_X6_push_32 at hB
  obtain rfl := Option.some.inj hB
  exact ev_vret dX6_push_32 rfl (Nat.zero_le _) (Nat.zero_le _) (fun z => absurd z (hp_sealed _)) ⟨rfl, rfl⟩
theorem t_X6_push {G : am_G} {N : Nat} {l0 : Nat} {l1 : Int32} {S : am_S} {out : am_S} (hl0 : isC 6 l0 = true) (hB : f_X6_push N l0 l1 S = some out) : am_Met G 1 mX6_push 0 0 [.ref l0, .int l1] (hp S) (q_v out) q_n := by
  refine am_of (by decide +kernel) rfl rfl rfl (Nat.le_of_ble_eq_true rfl) ?_
  unfold f_X6_push at hB
  refine ev_aload_n dX6_push_0 rfl ?_
  refine es_geti k_6 1 dX6_push_1 (by decide) rfl (Or.inl w_85) hl0 rfl ?_
  refine ev_aload_n dX6_push_4 rfl ?_
  refine es_getr k_6 0 dX6_push_5 (by decide) rfl (Or.inl w_84) hl0 rfl ?_
  refine es_alen dX6_push_8 (tr_6_0 hl0) rfl ?_
  refine ev_icmpge 32 dX6_push_9 (by decide) (fun q1 => ?_) (fun q1 => ?_)
  · rw [if_pos q1] at hB
    exact ev_ls (u_X6_push_32 S hB) trivial
  · rw [if_neg q1] at hB
    refine ev_aload_n dX6_push_12 rfl ?_
    refine es_getr k_6 0 dX6_push_13 (by decide) rfl (Or.inl w_84) hl0 rfl ?_
    refine ev_aload_n dX6_push_16 rfl ?_
    refine es_geti k_6 1 dX6_push_17 (by decide) rfl (Or.inl w_85) hl0 rfl ?_
    refine ev_iload_n dX6_push_20 rfl ?_
    obtain ⟨c2, hB⟩ := ck_of hB
    refine es_iast dX6_push_21 (tr_6_0 hl0) c2 ?_
    refine ev_aload_n dX6_push_22 rfl ?_
    refine ev_dup dX6_push_23 rfl ?_
    refine es_geti k_6 1 dX6_push_24 (by decide) rfl (Or.inl w_85) hl0 rfl ?_
    refine ev_iconst 1 dX6_push_27 (by decide) ?_
    refine ev_iadd dX6_push_28 ?_
    refine es_puti k_6 1 dX6_push_29 (by decide) rfl (Or.inl w_85) rfl rfl hl0 rfl ?_
    exact ev_ls (u_X6_push_32 (sp (sp S (rf l0 0) (Int32.toNatClampNeg (sg S l0 1)) l1) l0 1 ((sg (sp S (rf l0 0) (Int32.toNatClampNeg (sg S l0 1)) l1) l0 1) + 1)) hB) trivial
def b_X5_addStep_32 (N : Nat)  (S : am_S) : Option (am_S) := some S
def f_X5_addStep (N : Nat) (l0 : Nat) (l1 : Int32) (S : am_S) : Option (am_S) := (if (nI (ln (rf l0 0))) ≤ (sg S l0 1) then b_X5_addStep_32 N S else (if inb (sg S l0 1) (ln (rf l0 0)) = true then b_X5_addStep_32 N (sp (sp S (rf l0 0) (Int32.toNatClampNeg (sg S l0 1)) l1) l0 1 ((sg (sp S (rf l0 0) (Int32.toNatClampNeg (sg S l0 1)) l1) l0 1) + 1)) else none))
theorem u_X5_addStep_32 {G : am_G} {N : Nat} {h0 : am_H} {out : am_S}  (S : am_S) (hB : b_X5_addStep_32 N  S = some out) : Ev G (am_R 1 0 0) (am_Φ G h0 0 0 (q_v out) q_n) mX5_addStep 0 0 32 [none, none] [] (hp S) := by
  unfold b_X5_addStep_32 at hB
  obtain rfl := Option.some.inj hB
  exact ev_vret dX5_addStep_32 rfl (Nat.zero_le _) (Nat.zero_le _) (fun z => absurd z (hp_sealed _)) ⟨rfl, rfl⟩
theorem t_X5_addStep {G : am_G} {N : Nat} {l0 : Nat} {l1 : Int32} {S : am_S} {out : am_S} (hl0 : isC 5 l0 = true) (hB : f_X5_addStep N l0 l1 S = some out) : am_Met G 1 mX5_addStep 0 0 [.ref l0, .int l1] (hp S) (q_v out) q_n := by
  refine am_of (by decide +kernel) rfl rfl rfl (Nat.le_of_ble_eq_true rfl) ?_
  unfold f_X5_addStep at hB
  refine ev_aload_n dX5_addStep_0 rfl ?_
  refine es_geti k_5 1 dX5_addStep_1 (by decide) rfl (Or.inl w_124) hl0 rfl ?_
  refine ev_aload_n dX5_addStep_4 rfl ?_
  refine es_getr k_5 0 dX5_addStep_5 (by decide) rfl (Or.inl w_123) hl0 rfl ?_
  refine es_alen dX5_addStep_8 (tr_5_0 hl0) rfl ?_
  refine ev_icmpge 32 dX5_addStep_9 (by decide) (fun q1 => ?_) (fun q1 => ?_)
  · rw [if_pos q1] at hB
    exact ev_ls (u_X5_addStep_32 S hB) trivial
  · rw [if_neg q1] at hB
    refine ev_aload_n dX5_addStep_12 rfl ?_
    refine es_getr k_5 0 dX5_addStep_13 (by decide) rfl (Or.inl w_123) hl0 rfl ?_
    refine ev_aload_n dX5_addStep_16 rfl ?_
    refine es_geti k_5 1 dX5_addStep_17 (by decide) rfl (Or.inl w_124) hl0 rfl ?_
    refine ev_iload_n dX5_addStep_20 rfl ?_
    obtain ⟨c2, hB⟩ := ck_of hB
    refine es_iast dX5_addStep_21 (tr_5_0 hl0) c2 ?_
    refine ev_aload_n dX5_addStep_22 rfl ?_
    refine ev_dup dX5_addStep_23 rfl ?_
    refine es_geti k_5 1 dX5_addStep_24 (by decide) rfl (Or.inl w_124) hl0 rfl ?_
    refine ev_iconst 1 dX5_addStep_27 (by decide) ?_
    refine ev_iadd dX5_addStep_28 ?_
    refine es_puti k_5 1 dX5_addStep_29 (by decide) rfl (Or.inl w_124) rfl rfl hl0 rfl ?_
    exact ev_ls (u_X5_addStep_32 (sp (sp S (rf l0 0) (Int32.toNatClampNeg (sg S l0 1)) l1) l0 1 ((sg (sp S (rf l0 0) (Int32.toNatClampNeg (sg S l0 1)) l1) l0 1) + 1)) hB) trivial
def b_X6_readNot_14 (N : Nat) (l0 : Nat) (S : am_S) : Option (am_S) := (bv (f_X6_push N l0 3 S) (fun S2 => some (sp S2 l0 3 ((sg S2 l0 3) + 1))))
def f_X6_readNot (N : Nat) (l0 : Nat) (l1 : Nat) (S : am_S) : Option (am_S) := (if (sg S l0 3) < 6 then b_X6_readNot_14 N l0 S else (bv (f_X8_fail N l1 2 S) (fun S3 => b_X6_readNot_14 N l0 S3)))
theorem u_X6_readNot_14 {G : am_G} {N : Nat} {h0 : am_H} {out : am_S} (l0 : Nat) (S : am_S) (hl0 : isC 6 l0 = true) (hB : b_X6_readNot_14 N l0 S = some out) : Ev G (am_R 2 0 0) (am_Φ G h0 0 0 (q_v out) q_n) mX6_readNot 0 0 14 [some (.ref l0), none] [] (hp S) := by
  unfold b_X6_readNot_14 at hB
  refine ev_aload_n dX6_readNot_14 rfl ?_
  refine ev_iconst 3 dX6_readNot_15 (by decide) ?_
  obtain ⟨S2, e3, hB⟩ := bv_of hB
  refine es_callVv (As := [.int 3]) (t_X6_push hl0 e3) dX6_readNot_16 oX6_push w_980 rfl hl0 rfl rfl (Nat.le_of_ble_eq_true rfl) rfl (am_fit.of (by decide)) ⟨Nat.zero_le _, Nat.zero_le _⟩ ?_
  refine ev_aload_n dX6_readNot_19 rfl ?_
  refine ev_dup dX6_readNot_20 rfl ?_
  refine es_geti k_6 3 dX6_readNot_21 (by decide) rfl (Or.inl w_87) hl0 rfl ?_
  refine ev_iconst 1 dX6_readNot_24 (by decide) ?_
  refine ev_iadd dX6_readNot_25 ?_
  refine es_puti k_6 3 dX6_readNot_26 (by decide) rfl (Or.inl w_87) rfl rfl hl0 rfl ?_
  obtain rfl := Option.some.inj hB
  exact ev_vret dX6_readNot_29 rfl (Nat.zero_le _) (Nat.zero_le _) (fun z => absurd z (hp_sealed _)) ⟨rfl, rfl⟩
theorem t_X6_readNot {G : am_G} {N : Nat} {l0 : Nat} {l1 : Nat} {S : am_S} {out : am_S} (hl0 : isC 6 l0 = true) (hl1 : isC 8 l1 = true) (hB : f_X6_readNot N l0 l1 S = some out) : am_Met G 2 mX6_readNot 0 0 [.ref l0, .ref l1] (hp S) (q_v out) q_n := by
  refine am_of (by decide +kernel) rfl rfl rfl (Nat.le_of_ble_eq_true rfl) ?_
  unfold f_X6_readNot at hB
  refine ev_aload_n dX6_readNot_0 rfl ?_
  refine es_geti k_6 3 dX6_readNot_1 (by decide) rfl (Or.inl w_87) hl0 rfl ?_
  refine ev_bipush 6 dX6_readNot_4 (by decide) ?_
  refine ev_icmplt 14 dX6_readNot_6 (by decide) (fun q1 => ?_) (fun q1 => ?_)
  · rw [if_pos q1] at hB
    exact ev_ls (u_X6_readNot_14 l0 S hl0 hB) (And.intro rfl trivial)
  · rw [if_neg q1] at hB
    refine ev_aload_n dX6_readNot_9 rfl ?_
    refine ev_iconst 2 dX6_readNot_10 (by decide) ?_
    obtain ⟨S3, e4, hB⟩ := bv_of hB
    refine es_callVv (As := [.int 2]) (t_X8_fail hl1 e4) dX6_readNot_11 oX8_fail w_965 rfl hl1 rfl rfl (Nat.le_of_ble_eq_true rfl) rfl (am_fit.of (by decide)) ⟨Nat.zero_le _, Nat.zero_le _⟩ ?_
    exact ev_ls (u_X6_readNot_14 l0 S3 hl0 hB) (And.intro rfl trivial)
def b_X6_putValue_27 (N : Nat)  (S : am_S) : Option (am_S) := some S
def f_X6_putValue (N : Nat) (l0 : Nat) (l1 : Nat) (l2 : Nat) (l3 : Int32) (S : am_S) : Option (am_S) := (if l3 = (-1) then (bv (f_X8_fail N l1 3 S) (fun S6 => b_X6_putValue_27 N S6)) else (bv (f_X5_addStep N l2 (10000 + l3) S) (fun S3 => b_X6_putValue_27 N (sp S3 l0 4 0))))
theorem u_X6_putValue_27 {G : am_G} {N : Nat} {h0 : am_H} {out : am_S}  (S : am_S) (hB : b_X6_putValue_27 N  S = some out) : Ev G (am_R 2 0 0) (am_Φ G h0 0 0 (q_v out) q_n) mX6_putValue 0 0 27 [none, none, none, none] [] (hp S) := by
  unfold b_X6_putValue_27 at hB
  obtain rfl := Option.some.inj hB
  exact ev_vret dX6_putValue_27 rfl (Nat.zero_le _) (Nat.zero_le _) (fun z => absurd z (hp_sealed _)) ⟨rfl, rfl⟩
theorem t_X6_putValue {G : am_G} {N : Nat} {l0 : Nat} {l1 : Nat} {l2 : Nat} {l3 : Int32} {S : am_S} {out : am_S} (hl0 : isC 6 l0 = true) (hl1 : isC 8 l1 = true) (hl2 : isC 5 l2 = true) (hB : f_X6_putValue N l0 l1 l2 l3 S = some out) : am_Met G 2 mX6_putValue 0 0 [.ref l0, .ref l1, .ref l2, .int l3] (hp S) (q_v out) q_n := by
  refine am_of (by decide +kernel) rfl rfl rfl (Nat.le_of_ble_eq_true rfl) ?_
  unfold f_X6_putValue at hB
  refine ev_iload_n dX6_putValue_0 rfl ?_
  refine ev_iconst (-1) dX6_putValue_1 (by decide) ?_
  refine ev_icmpne 13 dX6_putValue_2 (by decide) (fun q1 => ?_) (fun q1 => ?_)
  · rw [if_neg q1] at hB
    refine ev_aload_n dX6_putValue_13 rfl ?_
    refine ev_sipush 10000 dX6_putValue_14 (by decide) ?_
    refine ev_iload_n dX6_putValue_17 rfl ?_
    refine ev_iadd dX6_putValue_18 ?_
    obtain ⟨S3, e4, hB⟩ := bv_of hB
    refine es_callVv (As := [.int (10000 + l3)]) (t_X5_addStep hl2 e4) dX6_putValue_19 oX5_addStep w_984 rfl hl2 rfl rfl (Nat.le_of_ble_eq_true rfl) rfl (am_fit.of (by decide)) ⟨Nat.zero_le _, Nat.zero_le _⟩ ?_
    refine ev_aload_n dX6_putValue_22 rfl ?_
    refine ev_iconst 0 dX6_putValue_23 (by decide) ?_
    refine es_putz k_6 4 dX6_putValue_24 (by decide) rfl (Or.inl w_88) rfl rfl (Or.inl rfl) hl0 rfl ?_
    exact ev_ls (u_X6_putValue_27 (sp S3 l0 4 0) hB) trivial
  · rw [if_pos q1] at hB
    refine ev_aload_n dX6_putValue_5 rfl ?_
    refine ev_iconst 3 dX6_putValue_6 (by decide) ?_
    obtain ⟨S6, e7, hB⟩ := bv_of hB
    refine es_callVv (As := [.int 3]) (t_X8_fail hl1 e7) dX6_putValue_7 oX8_fail w_965 rfl hl1 rfl rfl (Nat.le_of_ble_eq_true rfl) rfl (am_fit.of (by decide)) ⟨Nat.zero_le _, Nat.zero_le _⟩ ?_
    refine ev_goto 27 dX6_putValue_10 (by decide) ?_
    exact ev_ls (u_X6_putValue_27 S6 hB) trivial
def b_X6_release_60 (N : Nat)  (S : am_S) : Option (am_S) := some S
def b_X6_release_0 (N : Nat) : Nat → Nat → Nat → Int32 → am_S → Option (am_S)
  | 0, _, _, _, _ => none
  | n + 1, l0, l1, l2, S => (if (sg S l0 1) ≤ 0 then b_X6_release_60 N S else (if inb ((sg S l0 1) - 1) (ln (rf l0 0)) = true then (if inb (sg S (rf l0 0) (Int32.toNatClampNeg ((sg S l0 1) - 1))) 10 = true then (if inb l2 10 = true then (if (am_rank.getD (Int32.toNatClampNeg (sg S (rf l0 0) (Int32.toNatClampNeg ((sg S l0 1) - 1)))) 0) < (am_rank.getD (Int32.toNatClampNeg l2) 0) then b_X6_release_60 N S else (if inb (sg (sp S l0 1 ((sg S l0 1) - 1)) l0 1) (ln (rf l0 0)) = true then (bv (f_X5_addStep N l1 (20000 + (sg (sp S l0 1 ((sg S l0 1) - 1)) (rf l0 0) (Int32.toNatClampNeg (sg (sp S l0 1 ((sg S l0 1) - 1)) l0 1)))) (sp S l0 1 ((sg S l0 1) - 1))) (fun S8 => b_X6_release_0 N n l0 l1 l2 S8)) else none)) else none) else none) else none))
def f_X6_release (N : Nat) (l0 : Nat) (l1 : Nat) (l2 : Int32) (S : am_S) : Option (am_S) := b_X6_release_0 N N l0 l1 l2 S
theorem u_X6_release_60 {G : am_G} {N : Nat} {h0 : am_H} {out : am_S}  (S : am_S) (hB : b_X6_release_60 N  S = some out) : Ev G (am_R 2 0 0) (am_Φ G h0 0 0 (q_v out) q_n) mX6_release 0 0 60 [none, none, none] [] (hp S) := by
  unfold b_X6_release_60 at hB
  obtain rfl := Option.some.inj hB
  exact ev_vret dX6_release_60 rfl (Nat.zero_le _) (Nat.zero_le _) (fun z => absurd z (hp_sealed _)) ⟨rfl, rfl⟩
theorem u_X6_release_0 {G : am_G} {N : Nat} {h0 : am_H} {out : am_S} : ∀ (n : Nat) (l0 : Nat) (l1 : Nat) (l2 : Int32) (S : am_S), isC 6 l0 = true → isC 5 l1 = true → b_X6_release_0 N n l0 l1 l2 S = some out → Ev G (am_R 2 0 0) (am_Φ G h0 0 0 (q_v out) q_n) mX6_release 0 0 0 [some (.ref l0), some (.ref l1), some (.int l2)] [] (hp S) := by
  intro n
  induction n with
  | zero =>
    intro l0 l1 l2 S hl0 hl1 hB
    exact absurd (show none = some out from hB) (fun q => by cases q)
  | succ n ih =>
    intro l0 l1 l2 S hl0 hl1 hB
    unfold b_X6_release_0 at hB
    refine ev_aload_n dX6_release_0 rfl ?_
    refine es_geti k_6 1 dX6_release_1 (by decide) rfl (Or.inl w_85) hl0 rfl ?_
    refine ev_ifle 60 dX6_release_4 (by decide) (fun q1 => ?_) (fun q1 => ?_)
    · rw [if_pos q1] at hB
      exact ev_ls (u_X6_release_60 S hB) trivial
    · rw [if_neg q1] at hB
      refine ev_rank dX6_release_7 w_1026 ?_
      refine ev_aload_n dX6_release_10 rfl ?_
      refine es_getr k_6 0 dX6_release_11 (by decide) rfl (Or.inl w_84) hl0 rfl ?_
      refine ev_aload_n dX6_release_14 rfl ?_
      refine es_geti k_6 1 dX6_release_15 (by decide) rfl (Or.inl w_85) hl0 rfl ?_
      refine ev_iconst 1 dX6_release_18 (by decide) ?_
      refine ev_isub dX6_release_19 ?_
      obtain ⟨c2, hB⟩ := ck_of hB
      refine es_iald dX6_release_20 (tr_6_0 hl0) c2 ?_
      obtain ⟨c3, hB⟩ := ck_of hB
      refine ev_faload dX6_release_21 (inb_in c3) ?_
      refine ev_rank dX6_release_22 w_1026 ?_
      refine ev_iload_n dX6_release_25 rfl ?_
      obtain ⟨c4, hB⟩ := ck_of hB
      refine ev_faload dX6_release_26 (inb_in c4) ?_
      refine ev_icmplt 60 dX6_release_27 (by decide) (fun q5 => ?_) (fun q5 => ?_)
      · rw [if_pos q5] at hB
        exact ev_ls (u_X6_release_60 S hB) trivial
      · rw [if_neg q5] at hB
        refine ev_aload_n dX6_release_30 rfl ?_
        refine ev_dup dX6_release_31 rfl ?_
        refine es_geti k_6 1 dX6_release_32 (by decide) rfl (Or.inl w_85) hl0 rfl ?_
        refine ev_iconst 1 dX6_release_35 (by decide) ?_
        refine ev_isub dX6_release_36 ?_
        refine es_puti k_6 1 dX6_release_37 (by decide) rfl (Or.inl w_85) rfl rfl hl0 rfl ?_
        refine ev_aload_n dX6_release_40 rfl ?_
        refine ev_sipush 20000 dX6_release_41 (by decide) ?_
        refine ev_aload_n dX6_release_44 rfl ?_
        refine es_getr k_6 0 dX6_release_45 (by decide) rfl (Or.inl w_84) hl0 rfl ?_
        refine ev_aload_n dX6_release_48 rfl ?_
        refine es_geti k_6 1 dX6_release_49 (by decide) rfl (Or.inl w_85) hl0 rfl ?_
        obtain ⟨c6, hB⟩ := ck_of hB
        refine es_iald dX6_release_52 (tr_6_0 hl0) c6 ?_
        refine ev_iadd dX6_release_53 ?_
        obtain ⟨S8, e9, hB⟩ := bv_of hB
        refine es_callVv (As := [.int (20000 + (sg (sp S l0 1 ((sg S l0 1) - 1)) (rf l0 0) (Int32.toNatClampNeg (sg (sp S l0 1 ((sg S l0 1) - 1)) l0 1))))]) (t_X5_addStep hl1 e9) dX6_release_54 oX5_addStep w_984 rfl hl1 rfl rfl (Nat.le_of_ble_eq_true rfl) rfl (am_fit.of (by decide)) ⟨Nat.zero_le _, Nat.zero_le _⟩ ?_
        refine ev_goto 0 dX6_release_57 (by decide) ?_
        exact ev_ls (ih l0 l1 l2 S8 hl0 hl1 hB) (And.intro rfl (And.intro rfl (And.intro rfl trivial)))
theorem t_X6_release {G : am_G} {N : Nat} {l0 : Nat} {l1 : Nat} {l2 : Int32} {S : am_S} {out : am_S} (hl0 : isC 6 l0 = true) (hl1 : isC 5 l1 = true) (hB : f_X6_release N l0 l1 l2 S = some out) : am_Met G 2 mX6_release 0 0 [.ref l0, .ref l1, .int l2] (hp S) (q_v out) q_n := by
  refine am_of (by decide +kernel) rfl rfl rfl (Nat.le_of_ble_eq_true rfl) ?_
  unfold f_X6_release at hB
  exact ev_ls (u_X6_release_0 N l0 l1 l2 S hl0 hl1 hB) (And.intro rfl (And.intro rfl (And.intro rfl trivial)))
def b_X6_pop_17 (N : Nat)  (S : am_S) : Option (am_S) := some S
def f_X6_pop (N : Nat) (l0 : Nat) (S : am_S) : Option (am_S) := (if (sg S l0 1) ≤ 0 then b_X6_pop_17 N S else b_X6_pop_17 N (sp S l0 1 ((sg S l0 1) - 1)))
theorem u_X6_pop_17 {G : am_G} {N : Nat} {h0 : am_H} {out : am_S}  (S : am_S) (hB : b_X6_pop_17 N  S = some out) : Ev G (am_R 1 0 0) (am_Φ G h0 0 0 (q_v out) q_n) mX6_pop 0 0 17 [none] [] (hp S) := by
  unfold b_X6_pop_17 at hB
  obtain rfl := Option.some.inj hB
  exact ev_vret dX6_pop_17 rfl (Nat.zero_le _) (Nat.zero_le _) (fun z => absurd z (hp_sealed _)) ⟨rfl, rfl⟩
theorem t_X6_pop {G : am_G} {N : Nat} {l0 : Nat} {S : am_S} {out : am_S} (hl0 : isC 6 l0 = true) (hB : f_X6_pop N l0 S = some out) : am_Met G 1 mX6_pop 0 0 [.ref l0] (hp S) (q_v out) q_n := by
  refine am_of (by decide +kernel) rfl rfl rfl (Nat.le_of_ble_eq_true rfl) ?_
  unfold f_X6_pop at hB
  refine ev_aload_n dX6_pop_0 rfl ?_
  refine es_geti k_6 1 dX6_pop_1 (by decide) rfl (Or.inl w_85) hl0 rfl ?_
  refine ev_ifle 17 dX6_pop_4 (by decide) (fun q1 => ?_) (fun q1 => ?_)
  · rw [if_pos q1] at hB
    exact ev_ls (u_X6_pop_17 S hB) trivial
  · rw [if_neg q1] at hB
    refine ev_aload_n dX6_pop_7 rfl ?_
    refine ev_dup dX6_pop_8 rfl ?_
    refine es_geti k_6 1 dX6_pop_9 (by decide) rfl (Or.inl w_85) hl0 rfl ?_
    refine ev_iconst 1 dX6_pop_12 (by decide) ?_
    refine ev_isub dX6_pop_13 ?_
    refine es_puti k_6 1 dX6_pop_14 (by decide) rfl (Or.inl w_85) rfl rfl hl0 rfl ?_
    exact ev_ls (u_X6_pop_17 (sp S l0 1 ((sg S l0 1) - 1)) hB) trivial
def b_X6_letWait_26 (N : Nat) (l0 : Nat) (z0 : Nat) (z1 : Int32) (S : am_S) : Option (am_S) := (if isB z1 = true then some (sp (sp S z0 5 z1) l0 3 0) else none)
def b_X6_letWait_21 (N : Nat) (l0 : Nat) (z0 : Nat) (S : am_S) : Option (am_S) := b_X6_letWait_26 N l0 z0 1 S
def f_X6_letWait (N : Nat) (l0 : Nat) (l1 : Int32) (S : am_S) : Option (am_S) := (bv (f_X6_push N l0 l1 S) (fun S2 => (if l1 = 1 then b_X6_letWait_21 N l0 l0 (sp S2 l0 4 1) else (if l1 = 2 then b_X6_letWait_21 N l0 l0 (sp S2 l0 4 1) else b_X6_letWait_26 N l0 l0 0 (sp S2 l0 4 1)))))
theorem u_X6_letWait_26 {G : am_G} {N : Nat} {h0 : am_H} {out : am_S} (l0 : Nat) (z0 : Nat) (z1 : Int32) (S : am_S) (hl0 : isC 6 l0 = true) (hz0 : isC 6 z0 = true) (hB : b_X6_letWait_26 N l0 z0 z1 S = some out) : Ev G (am_R 2 0 0) (am_Φ G h0 0 0 (q_v out) q_n) mX6_letWait 0 0 26 [some (.ref l0), none] [.int z1, .ref z0] (hp S) := by
  unfold b_X6_letWait_26 at hB
  obtain ⟨c1, hB⟩ := ck_of hB
  refine es_putz k_6 5 dX6_letWait_26 (by decide) rfl (Or.inl w_89) rfl rfl (isB_of c1) hz0 rfl ?_
  refine ev_aload_n dX6_letWait_29 rfl ?_
  refine ev_iconst 0 dX6_letWait_30 (by decide) ?_
  refine es_puti k_6 3 dX6_letWait_31 (by decide) rfl (Or.inl w_87) rfl rfl hl0 rfl ?_
  obtain rfl := Option.some.inj hB
  exact ev_vret dX6_letWait_34 rfl (Nat.zero_le _) (Nat.zero_le _) (fun z => absurd z (hp_sealed _)) ⟨rfl, rfl⟩
theorem u_X6_letWait_21 {G : am_G} {N : Nat} {h0 : am_H} {out : am_S} (l0 : Nat) (z0 : Nat) (S : am_S) (hl0 : isC 6 l0 = true) (hz0 : isC 6 z0 = true) (hB : b_X6_letWait_21 N l0 z0 S = some out) : Ev G (am_R 2 0 0) (am_Φ G h0 0 0 (q_v out) q_n) mX6_letWait 0 0 21 [some (.ref l0), none] [.ref z0] (hp S) := by
  unfold b_X6_letWait_21 at hB
  refine ev_iconst 1 dX6_letWait_21 (by decide) ?_
  refine ev_goto 26 dX6_letWait_22 (by decide) ?_
  exact ev_ls (u_X6_letWait_26 l0 z0 1 S hl0 hz0 hB) (And.intro rfl trivial)
theorem t_X6_letWait {G : am_G} {N : Nat} {l0 : Nat} {l1 : Int32} {S : am_S} {out : am_S} (hl0 : isC 6 l0 = true) (hB : f_X6_letWait N l0 l1 S = some out) : am_Met G 2 mX6_letWait 0 0 [.ref l0, .int l1] (hp S) (q_v out) q_n := by
  refine am_of (by decide +kernel) rfl rfl rfl (Nat.le_of_ble_eq_true rfl) ?_
  unfold f_X6_letWait at hB
  refine ev_aload_n dX6_letWait_0 rfl ?_
  refine ev_iload_n dX6_letWait_1 rfl ?_
  obtain ⟨S2, e3, hB⟩ := bv_of hB
  refine es_callVv (As := [.int l1]) (t_X6_push hl0 e3) dX6_letWait_2 oX6_push w_980 rfl hl0 rfl rfl (Nat.le_of_ble_eq_true rfl) rfl (am_fit.of (by decide)) ⟨Nat.zero_le _, Nat.zero_le _⟩ ?_
  refine ev_aload_n dX6_letWait_5 rfl ?_
  refine ev_iconst 1 dX6_letWait_6 (by decide) ?_
  refine es_putz k_6 4 dX6_letWait_7 (by decide) rfl (Or.inl w_88) rfl rfl (Or.inr rfl) hl0 rfl ?_
  refine ev_aload_n dX6_letWait_10 rfl ?_
  refine ev_iload_n dX6_letWait_11 rfl ?_
  refine ev_iconst 1 dX6_letWait_12 (by decide) ?_
  refine ev_icmpeq 21 dX6_letWait_13 (by decide) (fun q4 => ?_) (fun q4 => ?_)
  · rw [if_pos q4] at hB
    exact ev_ls (u_X6_letWait_21 l0 l0 (sp S2 l0 4 1) hl0 hl0 hB) (And.intro rfl trivial)
  · rw [if_neg q4] at hB
    refine ev_iload_n dX6_letWait_16 rfl ?_
    refine ev_iconst 2 dX6_letWait_17 (by decide) ?_
    refine ev_icmpne 25 dX6_letWait_18 (by decide) (fun q5 => ?_) (fun q5 => ?_)
    · rw [if_neg q5] at hB
      refine ev_iconst 0 dX6_letWait_25 (by decide) ?_
      exact ev_ls (u_X6_letWait_26 l0 l0 0 (sp S2 l0 4 1) hl0 hl0 hB) (And.intro rfl trivial)
    · rw [if_pos q5] at hB
      exact ev_ls (u_X6_letWait_21 l0 l0 (sp S2 l0 4 1) hl0 hl0 hB) (And.intro rfl trivial)
def b_X6_readTest_42 (N : Nat) (l0 : Nat) (l3 : Int32) (S : am_S) : Option (am_S) := (bv (f_X6_letWait N l0 l3 S) (fun S2 => some S2))
def f_X6_readTest (N : Nat) (l0 : Nat) (l1 : Nat) (l2 : Nat) (l3 : Int32) (S : am_S) : Option (am_S) := (bv (f_X6_release N l0 l2 6 S) (fun S2 => (if (sg S2 l0 1) ≤ 0 then b_X6_readTest_42 N l0 l3 S2 else (if inb ((sg S2 l0 1) - 1) (ln (rf l0 0)) = true then (if inb (sg S2 (rf l0 0) (Int32.toNatClampNeg ((sg S2 l0 1) - 1))) 10 = true then (if inb 4 10 = true then (if (am_rank.getD (Int32.toNatClampNeg (sg S2 (rf l0 0) (Int32.toNatClampNeg ((sg S2 l0 1) - 1)))) 0) = (am_rank.getD (Int32.toNatClampNeg 4) 0) then (bv (f_X8_fail N l1 1 S2) (fun S10 => b_X6_readTest_42 N l0 l3 S10)) else b_X6_readTest_42 N l0 l3 S2) else none) else none) else none))))
theorem u_X6_readTest_42 {G : am_G} {N : Nat} {h0 : am_H} {out : am_S} (l0 : Nat) (l3 : Int32) (S : am_S) (hl0 : isC 6 l0 = true) (hB : b_X6_readTest_42 N l0 l3 S = some out) : Ev G (am_R 3 0 0) (am_Φ G h0 0 0 (q_v out) q_n) mX6_readTest 0 0 42 [some (.ref l0), none, none, some (.int l3)] [] (hp S) := by
  unfold b_X6_readTest_42 at hB
  refine ev_aload_n dX6_readTest_42 rfl ?_
  refine ev_iload_n dX6_readTest_43 rfl ?_
  obtain ⟨S2, e3, hB⟩ := bv_of hB
  refine es_callVv (As := [.int l3]) (t_X6_letWait hl0 e3) dX6_readTest_44 oX6_letWait w_1036 rfl hl0 rfl rfl (Nat.le_of_ble_eq_true rfl) rfl (am_fit.of (by decide)) ⟨Nat.zero_le _, Nat.zero_le _⟩ ?_
  obtain rfl := Option.some.inj hB
  exact ev_vret dX6_readTest_47 rfl (Nat.zero_le _) (Nat.zero_le _) (fun z => absurd z (hp_sealed _)) ⟨rfl, rfl⟩
theorem t_X6_readTest {G : am_G} {N : Nat} {l0 : Nat} {l1 : Nat} {l2 : Nat} {l3 : Int32} {S : am_S} {out : am_S} (hl0 : isC 6 l0 = true) (hl1 : isC 8 l1 = true) (hl2 : isC 5 l2 = true) (hB : f_X6_readTest N l0 l1 l2 l3 S = some out) : am_Met G 3 mX6_readTest 0 0 [.ref l0, .ref l1, .ref l2, .int l3] (hp S) (q_v out) q_n := by
  refine am_of (by decide +kernel) rfl rfl rfl (Nat.le_of_ble_eq_true rfl) ?_
  unfold f_X6_readTest at hB
  refine ev_aload_n dX6_readTest_0 rfl ?_
  refine ev_aload_n dX6_readTest_1 rfl ?_
  refine ev_bipush 6 dX6_readTest_2 (by decide) ?_
  obtain ⟨S2, e3, hB⟩ := bv_of hB
  refine es_callVv (As := [.ref l2, .int 6]) (t_X6_release hl0 hl2 e3) dX6_readTest_4 oX6_release w_1022 rfl hl0 rfl rfl (Nat.le_of_ble_eq_true rfl) rfl (am_fit.of (by decide)) ⟨Nat.zero_le _, Nat.zero_le _⟩ ?_
  refine ev_aload_n dX6_readTest_7 rfl ?_
  refine es_geti k_6 1 dX6_readTest_8 (by decide) rfl (Or.inl w_85) hl0 rfl ?_
  refine ev_ifle 42 dX6_readTest_11 (by decide) (fun q4 => ?_) (fun q4 => ?_)
  · rw [if_pos q4] at hB
    exact ev_ls (u_X6_readTest_42 l0 l3 S2 hl0 hB) (And.intro rfl (And.intro rfl trivial))
  · rw [if_neg q4] at hB
    refine ev_rank dX6_readTest_14 w_1026 ?_
    refine ev_aload_n dX6_readTest_17 rfl ?_
    refine es_getr k_6 0 dX6_readTest_18 (by decide) rfl (Or.inl w_84) hl0 rfl ?_
    refine ev_aload_n dX6_readTest_21 rfl ?_
    refine es_geti k_6 1 dX6_readTest_22 (by decide) rfl (Or.inl w_85) hl0 rfl ?_
    refine ev_iconst 1 dX6_readTest_25 (by decide) ?_
    refine ev_isub dX6_readTest_26 ?_
    obtain ⟨c5, hB⟩ := ck_of hB
    refine es_iald dX6_readTest_27 (tr_6_0 hl0) c5 ?_
    obtain ⟨c6, hB⟩ := ck_of hB
    refine ev_faload dX6_readTest_28 (inb_in c6) ?_
    refine ev_rank dX6_readTest_29 w_1026 ?_
    refine ev_iconst 4 dX6_readTest_32 (by decide) ?_
    obtain ⟨c7, hB⟩ := ck_of hB
    refine ev_faload dX6_readTest_33 (inb_in c7) ?_
    refine ev_icmpne 42 dX6_readTest_34 (by decide) (fun q8 => ?_) (fun q8 => ?_)
    · rw [if_neg q8] at hB
      exact ev_ls (u_X6_readTest_42 l0 l3 S2 hl0 hB) (And.intro rfl (And.intro rfl trivial))
    · rw [if_pos q8] at hB
      refine ev_aload_n dX6_readTest_37 rfl ?_
      refine ev_iconst 1 dX6_readTest_38 (by decide) ?_
      obtain ⟨S10, e11, hB⟩ := bv_of hB
      refine es_callVv (As := [.int 1]) (t_X8_fail hl1 e11) dX6_readTest_39 oX8_fail w_965 rfl hl1 rfl rfl (Nat.le_of_ble_eq_true rfl) rfl (am_fit.of (by decide)) ⟨Nat.zero_le _, Nat.zero_le _⟩ ?_
      exact ev_ls (u_X6_readTest_42 l0 l3 S10 hl0 hB) (And.intro rfl (And.intro rfl trivial))
def b_X8_takeSign_13 (N : Nat) (l0 : Nat) (S : am_S) : Option (am_S) := (bv (f_X8_step N l0 S) (fun S2 => some S2))
def f_X8_takeSign (N : Nat) (l0 : Nat) (l1 : Int32) (S : am_S) : Option (am_S) := (if (sg S l0 4) = l1 then b_X8_takeSign_13 N l0 S else (bv (f_X8_fail N l0 1 S) (fun S3 => b_X8_takeSign_13 N l0 S3)))
theorem u_X8_takeSign_13 {G : am_G} {N : Nat} {h0 : am_H} {out : am_S} (l0 : Nat) (S : am_S) (hl0 : isC 8 l0 = true) (hB : b_X8_takeSign_13 N l0 S = some out) : Ev G (am_R 3 0 0) (am_Φ G h0 0 0 (q_v out) q_n) mX8_takeSign 0 0 13 [some (.ref l0), none] [] (hp S) := by
  unfold b_X8_takeSign_13 at hB
  refine ev_aload_n dX8_takeSign_13 rfl ?_
  obtain ⟨S2, e3, hB⟩ := bv_of hB
  refine es_callVv (As := []) (t_X8_step hl0 e3) dX8_takeSign_14 oX8_step w_852 rfl hl0 rfl rfl (Nat.le_of_ble_eq_true rfl) rfl (am_fit.of (by decide)) ⟨Nat.zero_le _, Nat.zero_le _⟩ ?_
  obtain rfl := Option.some.inj hB
  exact ev_vret dX8_takeSign_17 rfl (Nat.zero_le _) (Nat.zero_le _) (fun z => absurd z (hp_sealed _)) ⟨rfl, rfl⟩
theorem t_X8_takeSign {G : am_G} {N : Nat} {l0 : Nat} {l1 : Int32} {S : am_S} {out : am_S} (hl0 : isC 8 l0 = true) (hB : f_X8_takeSign N l0 l1 S = some out) : am_Met G 3 mX8_takeSign 0 0 [.ref l0, .int l1] (hp S) (q_v out) q_n := by
  refine am_of (by decide +kernel) rfl rfl rfl (Nat.le_of_ble_eq_true rfl) ?_
  unfold f_X8_takeSign at hB
  refine ev_aload_n dX8_takeSign_0 rfl ?_
  refine es_geti k_8 4 dX8_takeSign_1 (by decide) rfl (Or.inl w_54) hl0 rfl ?_
  refine ev_iload_n dX8_takeSign_4 rfl ?_
  refine ev_icmpeq 13 dX8_takeSign_5 (by decide) (fun q1 => ?_) (fun q1 => ?_)
  · rw [if_pos q1] at hB
    exact ev_ls (u_X8_takeSign_13 l0 S hl0 hB) (And.intro rfl trivial)
  · rw [if_neg q1] at hB
    refine ev_aload_n dX8_takeSign_8 rfl ?_
    refine ev_iconst 1 dX8_takeSign_9 (by decide) ?_
    obtain ⟨S3, e4, hB⟩ := bv_of hB
    refine es_callVv (As := [.int 1]) (t_X8_fail hl0 e4) dX8_takeSign_10 oX8_fail w_914 rfl hl0 rfl rfl (Nat.le_of_ble_eq_true rfl) rfl (am_fit.of (by decide)) ⟨Nat.zero_le _, Nat.zero_le _⟩ ?_
    exact ev_ls (u_X8_takeSign_13 l0 S3 hl0 hB) (And.intro rfl trivial)
def f_X0_clearAll (N : Nat) (l0 : Nat) (S : am_S) : Option (am_S) := some (sp (sp S l0 1 0) l0 2 0)
theorem t_X0_clearAll {G : am_G} {N : Nat} {l0 : Nat} {S : am_S} {out : am_S} (hl0 : isC 0 l0 = true) (hB : f_X0_clearAll N l0 S = some out) : am_Met G 1 mX0_clearAll 0 0 [.ref l0] (hp S) (q_v out) q_n := by
  refine am_of (by decide +kernel) rfl rfl rfl (Nat.le_of_ble_eq_true rfl) ?_
  unfold f_X0_clearAll at hB
  refine ev_aload_n dX0_clearAll_0 rfl ?_
  refine ev_iconst 0 dX0_clearAll_1 (by decide) ?_
  refine es_puti k_0 1 dX0_clearAll_2 (by decide) rfl (Or.inl w_523) rfl rfl hl0 rfl ?_
  refine ev_aload_n dX0_clearAll_5 rfl ?_
  refine ev_iconst 0 dX0_clearAll_6 (by decide) ?_
  refine es_puti k_0 2 dX0_clearAll_7 (by decide) rfl (Or.inl w_525) rfl rfl hl0 rfl ?_
  obtain rfl := Option.some.inj hB
  exact ev_vret dX0_clearAll_10 rfl (Nat.zero_le _) (Nat.zero_le _) (fun z => absurd z (hp_sealed _)) ⟨rfl, rfl⟩
def f_X3_clearAll (N : Nat) (l0 : Nat) (S : am_S) : Option (am_S) := some (sp S l0 3 0)
theorem t_X3_clearAll {G : am_G} {N : Nat} {l0 : Nat} {S : am_S} {out : am_S} (hl0 : isC 3 l0 = true) (hB : f_X3_clearAll N l0 S = some out) : am_Met G 1 mX3_clearAll 0 0 [.ref l0] (hp S) (q_v out) q_n := by
  refine am_of (by decide +kernel) rfl rfl rfl (Nat.le_of_ble_eq_true rfl) ?_
  unfold f_X3_clearAll at hB
  refine ev_aload_n dX3_clearAll_0 rfl ?_
  refine ev_iconst 0 dX3_clearAll_1 (by decide) ?_
  refine es_puti k_3 3 dX3_clearAll_2 (by decide) rfl (Or.inl w_542) rfl rfl hl0 rfl ?_
  obtain rfl := Option.some.inj hB
  exact ev_vret dX3_clearAll_5 rfl (Nat.zero_le _) (Nat.zero_le _) (fun z => absurd z (hp_sealed _)) ⟨rfl, rfl⟩
def f_X0_keep (N : Nat) (l0 : Nat) (l1 : Nat) (S : am_S) : Option (am_S) := (if cpk 0 ((sg S l0 2) * 80) 80 (ln (rf l1 0)) (ln (rf l0 0)) = true then some (sp (sp (scp S (rf l1 0) (Int32.toNatClampNeg 0) (rf l0 0) (Int32.toNatClampNeg ((sg S l0 2) * 80)) (Int32.toNatClampNeg 80)) l0 2 (((sg (scp S (rf l1 0) (Int32.toNatClampNeg 0) (rf l0 0) (Int32.toNatClampNeg ((sg S l0 2) * 80)) (Int32.toNatClampNeg 80)) l0 2) + 1) - ((sg (scp S (rf l1 0) (Int32.toNatClampNeg 0) (rf l0 0) (Int32.toNatClampNeg ((sg S l0 2) * 80)) (Int32.toNatClampNeg 80)) l0 2) + 1) / 40 * 40)) l0 1 (jmin 40 ((sg (sp (scp S (rf l1 0) (Int32.toNatClampNeg 0) (rf l0 0) (Int32.toNatClampNeg ((sg S l0 2) * 80)) (Int32.toNatClampNeg 80)) l0 2 (((sg (scp S (rf l1 0) (Int32.toNatClampNeg 0) (rf l0 0) (Int32.toNatClampNeg ((sg S l0 2) * 80)) (Int32.toNatClampNeg 80)) l0 2) + 1) - ((sg (scp S (rf l1 0) (Int32.toNatClampNeg 0) (rf l0 0) (Int32.toNatClampNeg ((sg S l0 2) * 80)) (Int32.toNatClampNeg 80)) l0 2) + 1) / 40 * 40)) l0 1) + 1))) else none)
theorem t_X0_keep {G : am_G} {N : Nat} {l0 : Nat} {l1 : Nat} {S : am_S} {out : am_S} (hl0 : isC 0 l0 = true) (hl1 : isC 7 l1 = true) (hB : f_X0_keep N l0 l1 S = some out) : am_Met G 1 mX0_keep 0 0 [.ref l0, .ref l1] (hp S) (q_v out) q_n := by
  refine am_of (by decide +kernel) rfl rfl rfl (Nat.le_of_ble_eq_true rfl) ?_
  unfold f_X0_keep at hB
  refine ev_aload_n dX0_keep_0 rfl ?_
  refine es_getr k_7 0 dX0_keep_1 (by decide) rfl (Or.inr ⟨_, n_512⟩) hl1 rfl ?_
  refine ev_iconst 0 dX0_keep_4 (by decide) ?_
  refine ev_aload_n dX0_keep_5 rfl ?_
  refine es_getr k_0 0 dX0_keep_6 (by decide) rfl (Or.inl w_522) hl0 rfl ?_
  refine ev_aload_n dX0_keep_9 rfl ?_
  refine es_geti k_0 2 dX0_keep_10 (by decide) rfl (Or.inl w_525) hl0 rfl ?_
  refine ev_bipush 80 dX0_keep_13 (by decide) ?_
  refine ev_imul dX0_keep_15 ?_
  refine ev_bipush 80 dX0_keep_16 (by decide) ?_
  obtain ⟨c1, hB⟩ := ck_of hB
  refine es_copy dX0_keep_18 w_660 j_nat j_sta j_ini (tr_7_0 hl1) (tr_0_0 hl0) c1 (Nat.le_of_ble_eq_true rfl) (am_fit.of (by decide)) ?_
  refine ev_aload_n dX0_keep_21 rfl ?_
  refine ev_aload_n dX0_keep_22 rfl ?_
  refine es_geti k_0 2 dX0_keep_23 (by decide) rfl (Or.inl w_525) hl0 rfl ?_
  refine ev_iconst 1 dX0_keep_26 (by decide) ?_
  refine ev_iadd dX0_keep_27 ?_
  refine ev_bipush 40 dX0_keep_28 (by decide) ?_
  refine ev_irem dX0_keep_30 (by decide) ?_
  refine es_puti k_0 2 dX0_keep_31 (by decide) rfl (Or.inl w_525) rfl rfl hl0 rfl ?_
  refine ev_aload_n dX0_keep_34 rfl ?_
  refine ev_bipush 40 dX0_keep_35 (by decide) ?_
  refine ev_aload_n dX0_keep_37 rfl ?_
  refine es_geti k_0 1 dX0_keep_38 (by decide) rfl (Or.inl w_523) hl0 rfl ?_
  refine ev_iconst 1 dX0_keep_41 (by decide) ?_
  refine ev_iadd dX0_keep_42 ?_
  refine es_min dX0_keep_43 w_661 (Nat.le_of_ble_eq_true rfl) (am_fit.of (by decide)) ⟨Nat.zero_le _, Nat.zero_le _⟩ ?_
  refine es_puti k_0 1 dX0_keep_46 (by decide) rfl (Or.inl w_523) rfl rfl hl0 rfl ?_
  obtain rfl := Option.some.inj hB
  exact ev_vret dX0_keep_49 rfl (Nat.zero_le _) (Nat.zero_le _) (fun z => absurd z (hp_sealed _)) ⟨rfl, rfl⟩
def b_X5_joined_121 (N : Nat) (z0 : Int32) (S : am_S) : Option (Int32 × am_S) := some (z0, S)
def b_X5_joined_97 (N : Nat) (z0 : Int32) (S : am_S) : Option (Int32 × am_S) := some (z0, S)
def b_X5_joined_86 (N : Nat) (z0 : Int32) (S : am_S) : Option (Int32 × am_S) := some (z0, S)
def b_X5_joined_75 (N : Nat) (z0 : Int32) (S : am_S) : Option (Int32 × am_S) := some (z0, S)
def b_X5_joined_74 (N : Nat)  (S : am_S) : Option (Int32 × am_S) := b_X5_joined_75 N 0 S
def b_X5_joined_61 (N : Nat) (z0 : Int32) (S : am_S) : Option (Int32 × am_S) := some (z0, S)
def b_X5_joined_56 (N : Nat)  (S : am_S) : Option (Int32 × am_S) := b_X5_joined_61 N 1 S
def f_X5_joined (N : Nat) (l0 : Int32) (l1 : Int32) (l2 : Int32) (S : am_S) : Option (Int32 × am_S) := (if l0 = 1 then (if l1 = 0 then (if l2 = 0 then b_X5_joined_61 N 0 S else b_X5_joined_56 N S) else b_X5_joined_56 N S) else (if l0 = 2 then (if l1 = 0 then b_X5_joined_74 N S else (if l2 = 0 then b_X5_joined_74 N S else b_X5_joined_75 N 1 S)) else (if l0 = 3 then (if l2 = 0 then b_X5_joined_121 N 0 S else (if l2 = 0 then none else b_X5_joined_121 N (l1 / l2) S)) else (if l0 = 4 then (if l2 ≤ l1 then b_X5_joined_86 N 0 S else b_X5_joined_86 N 1 S) else (if l0 = 5 then (if l1 = l2 then b_X5_joined_97 N 1 S else b_X5_joined_97 N 0 S) else (if l0 = 6 then some ((l1 + l2), S) else (if l0 = 7 then some ((l1 - l2), S) else (if l0 = 8 then some ((l1 * l2), S) else (if l2 = 0 then b_X5_joined_121 N 0 S else (if l2 = 0 then none else b_X5_joined_121 N (l1 / l2) S))))))))))
theorem u_X5_joined_121 {G : am_G} {N : Nat} {h0 : am_H} {out : Int32 × am_S} (z0 : Int32) (S : am_S) (hB : b_X5_joined_121 N z0 S = some out) : Ev G (am_R 1 0 0) (am_Φ G h0 0 0 (q_i out) q_n) mX5_joined 0 0 121 [none, none, none] [.int z0] (hp S) := by
  unfold b_X5_joined_121 at hB
  obtain rfl := Option.some.inj hB
  exact ev_iret dX5_joined_121 rfl (Nat.zero_le _) (Nat.zero_le _) (fun z => absurd z (hp_sealed _)) ⟨rfl, rfl⟩
theorem u_X5_joined_97 {G : am_G} {N : Nat} {h0 : am_H} {out : Int32 × am_S} (z0 : Int32) (S : am_S) (hB : b_X5_joined_97 N z0 S = some out) : Ev G (am_R 1 0 0) (am_Φ G h0 0 0 (q_i out) q_n) mX5_joined 0 0 97 [none, none, none] [.int z0] (hp S) := by
  unfold b_X5_joined_97 at hB
  obtain rfl := Option.some.inj hB
  exact ev_iret dX5_joined_97 rfl (Nat.zero_le _) (Nat.zero_le _) (fun z => absurd z (hp_sealed _)) ⟨rfl, rfl⟩
theorem u_X5_joined_86 {G : am_G} {N : Nat} {h0 : am_H} {out : Int32 × am_S} (z0 : Int32) (S : am_S) (hB : b_X5_joined_86 N z0 S = some out) : Ev G (am_R 1 0 0) (am_Φ G h0 0 0 (q_i out) q_n) mX5_joined 0 0 86 [none, none, none] [.int z0] (hp S) := by
  unfold b_X5_joined_86 at hB
  obtain rfl := Option.some.inj hB
  exact ev_iret dX5_joined_86 rfl (Nat.zero_le _) (Nat.zero_le _) (fun z => absurd z (hp_sealed _)) ⟨rfl, rfl⟩
theorem u_X5_joined_75 {G : am_G} {N : Nat} {h0 : am_H} {out : Int32 × am_S} (z0 : Int32) (S : am_S) (hB : b_X5_joined_75 N z0 S = some out) : Ev G (am_R 1 0 0) (am_Φ G h0 0 0 (q_i out) q_n) mX5_joined 0 0 75 [none, none, none] [.int z0] (hp S) := by
  unfold b_X5_joined_75 at hB
  obtain rfl := Option.some.inj hB
  exact ev_iret dX5_joined_75 rfl (Nat.zero_le _) (Nat.zero_le _) (fun z => absurd z (hp_sealed _)) ⟨rfl, rfl⟩
theorem u_X5_joined_74 {G : am_G} {N : Nat} {h0 : am_H} {out : Int32 × am_S}  (S : am_S) (hB : b_X5_joined_74 N  S = some out) : Ev G (am_R 1 0 0) (am_Φ G h0 0 0 (q_i out) q_n) mX5_joined 0 0 74 [none, none, none] [] (hp S) := by
  unfold b_X5_joined_74 at hB
  refine ev_iconst 0 dX5_joined_74 (by decide) ?_
  exact ev_ls (u_X5_joined_75 0 S hB) trivial
theorem u_X5_joined_61 {G : am_G} {N : Nat} {h0 : am_H} {out : Int32 × am_S} (z0 : Int32) (S : am_S) (hB : b_X5_joined_61 N z0 S = some out) : Ev G (am_R 1 0 0) (am_Φ G h0 0 0 (q_i out) q_n) mX5_joined 0 0 61 [none, none, none] [.int z0] (hp S) := by
  unfold b_X5_joined_61 at hB
  obtain rfl := Option.some.inj hB
  exact ev_iret dX5_joined_61 rfl (Nat.zero_le _) (Nat.zero_le _) (fun z => absurd z (hp_sealed _)) ⟨rfl, rfl⟩
theorem u_X5_joined_56 {G : am_G} {N : Nat} {h0 : am_H} {out : Int32 × am_S}  (S : am_S) (hB : b_X5_joined_56 N  S = some out) : Ev G (am_R 1 0 0) (am_Φ G h0 0 0 (q_i out) q_n) mX5_joined 0 0 56 [none, none, none] [] (hp S) := by
  unfold b_X5_joined_56 at hB
  refine ev_iconst 1 dX5_joined_56 (by decide) ?_
  refine ev_goto 61 dX5_joined_57 (by decide) ?_
  exact ev_ls (u_X5_joined_61 1 S hB) trivial
theorem t_X5_joined {G : am_G} {N : Nat} {l0 : Int32} {l1 : Int32} {l2 : Int32} {S : am_S} {out : Int32 × am_S} (hB : f_X5_joined N l0 l1 l2 S = some out) : am_Met G 1 mX5_joined 0 0 [.int l0, .int l1, .int l2] (hp S) (q_i out) q_n := by
  refine am_of (by decide +kernel) rfl rfl rfl (Nat.le_of_ble_eq_true rfl) ?_
  unfold f_X5_joined at hB
  refine ev_iload_n dX5_joined_0 rfl ?_
  by_cases q3 : l0 = 1
  · rw [if_pos q3] at hB
    refine ev_tableIn (off := 47) 48 dX5_joined_1 (by rw [q3]; decide) (by rw [q3]; decide) (by rw [q3]; rfl) (by decide) ?_
    refine ev_iload_n dX5_joined_48 rfl ?_
    refine ev_ifne 56 dX5_joined_49 (by decide) (fun q1 => ?_) (fun q1 => ?_)
    · rw [if_neg q1] at hB
      exact ev_ls (u_X5_joined_56 S hB) trivial
    · rw [if_pos q1] at hB
      refine ev_iload_n dX5_joined_52 rfl ?_
      refine ev_ifeq 60 dX5_joined_53 (by decide) (fun q2 => ?_) (fun q2 => ?_)
      · rw [if_pos q2] at hB
        refine ev_iconst 0 dX5_joined_60 (by decide) ?_
        exact ev_ls (u_X5_joined_61 0 S hB) trivial
      · rw [if_neg q2] at hB
        exact ev_ls (u_X5_joined_56 S hB) trivial
  rw [if_neg q3] at hB
  have tq3 := am_nt (k := 1) q3 (by decide)
  by_cases q6 : l0 = 2
  · rw [if_pos q6] at hB
    refine ev_tableIn (off := 61) 62 dX5_joined_1 (by rw [q6]; decide) (by rw [q6]; decide) (by rw [q6]; rfl) (by decide) ?_
    refine ev_iload_n dX5_joined_62 rfl ?_
    refine ev_ifeq 74 dX5_joined_63 (by decide) (fun q4 => ?_) (fun q4 => ?_)
    · rw [if_pos q4] at hB
      exact ev_ls (u_X5_joined_74 S hB) trivial
    · rw [if_neg q4] at hB
      refine ev_iload_n dX5_joined_66 rfl ?_
      refine ev_ifeq 74 dX5_joined_67 (by decide) (fun q5 => ?_) (fun q5 => ?_)
      · rw [if_pos q5] at hB
        exact ev_ls (u_X5_joined_74 S hB) trivial
      · rw [if_neg q5] at hB
        refine ev_iconst 1 dX5_joined_70 (by decide) ?_
        refine ev_goto 75 dX5_joined_71 (by decide) ?_
        exact ev_ls (u_X5_joined_75 1 S hB) trivial
  rw [if_neg q6] at hB
  have tq6 := am_nt (k := 2) q6 (by decide)
  by_cases q9 : l0 = 3
  · rw [if_pos q9] at hB
    refine ev_tableIn (off := 109) 110 dX5_joined_1 (by rw [q9]; decide) (by rw [q9]; decide) (by rw [q9]; rfl) (by decide) ?_
    refine ev_iload_n dX5_joined_110 rfl ?_
    refine ev_ifne 118 dX5_joined_111 (by decide) (fun q7 => ?_) (fun q7 => ?_)
    · rw [if_neg q7] at hB
      refine ev_iload_n dX5_joined_118 rfl ?_
      refine ev_iload_n dX5_joined_119 rfl ?_
      obtain ⟨c8, hB⟩ := ckn_of hB
      refine ev_idiv dX5_joined_120 c8 ?_
      exact ev_ls (u_X5_joined_121 (l1 / l2) S hB) trivial
    · rw [if_pos q7] at hB
      refine ev_iconst 0 dX5_joined_114 (by decide) ?_
      refine ev_goto 121 dX5_joined_115 (by decide) ?_
      exact ev_ls (u_X5_joined_121 0 S hB) trivial
  rw [if_neg q9] at hB
  have tq9 := am_nt (k := 3) q9 (by decide)
  by_cases q11 : l0 = 4
  · rw [if_pos q11] at hB
    refine ev_tableIn (off := 75) 76 dX5_joined_1 (by rw [q11]; decide) (by rw [q11]; decide) (by rw [q11]; rfl) (by decide) ?_
    refine ev_iload_n dX5_joined_76 rfl ?_
    refine ev_iload_n dX5_joined_77 rfl ?_
    refine ev_icmpge 85 dX5_joined_78 (by decide) (fun q10 => ?_) (fun q10 => ?_)
    · rw [if_pos q10] at hB
      refine ev_iconst 0 dX5_joined_85 (by decide) ?_
      exact ev_ls (u_X5_joined_86 0 S hB) trivial
    · rw [if_neg q10] at hB
      refine ev_iconst 1 dX5_joined_81 (by decide) ?_
      refine ev_goto 86 dX5_joined_82 (by decide) ?_
      exact ev_ls (u_X5_joined_86 1 S hB) trivial
  rw [if_neg q11] at hB
  have tq11 := am_nt (k := 4) q11 (by decide)
  by_cases q13 : l0 = 5
  · rw [if_pos q13] at hB
    refine ev_tableIn (off := 86) 87 dX5_joined_1 (by rw [q13]; decide) (by rw [q13]; decide) (by rw [q13]; rfl) (by decide) ?_
    refine ev_iload_n dX5_joined_87 rfl ?_
    refine ev_iload_n dX5_joined_88 rfl ?_
    refine ev_icmpne 96 dX5_joined_89 (by decide) (fun q12 => ?_) (fun q12 => ?_)
    · rw [if_neg q12] at hB
      refine ev_iconst 0 dX5_joined_96 (by decide) ?_
      exact ev_ls (u_X5_joined_97 0 S hB) trivial
    · rw [if_pos q12] at hB
      refine ev_iconst 1 dX5_joined_92 (by decide) ?_
      refine ev_goto 97 dX5_joined_93 (by decide) ?_
      exact ev_ls (u_X5_joined_97 1 S hB) trivial
  rw [if_neg q13] at hB
  have tq13 := am_nt (k := 5) q13 (by decide)
  by_cases q14 : l0 = 6
  · rw [if_pos q14] at hB
    refine ev_tableIn (off := 97) 98 dX5_joined_1 (by rw [q14]; decide) (by rw [q14]; decide) (by rw [q14]; rfl) (by decide) ?_
    refine ev_iload_n dX5_joined_98 rfl ?_
    refine ev_iload_n dX5_joined_99 rfl ?_
    refine ev_iadd dX5_joined_100 ?_
    obtain rfl := Option.some.inj hB
    exact ev_iret dX5_joined_101 rfl (Nat.zero_le _) (Nat.zero_le _) (fun z => absurd z (hp_sealed _)) ⟨rfl, rfl⟩
  rw [if_neg q14] at hB
  have tq14 := am_nt (k := 6) q14 (by decide)
  by_cases q15 : l0 = 7
  · rw [if_pos q15] at hB
    refine ev_tableIn (off := 101) 102 dX5_joined_1 (by rw [q15]; decide) (by rw [q15]; decide) (by rw [q15]; rfl) (by decide) ?_
    refine ev_iload_n dX5_joined_102 rfl ?_
    refine ev_iload_n dX5_joined_103 rfl ?_
    refine ev_isub dX5_joined_104 ?_
    obtain rfl := Option.some.inj hB
    exact ev_iret dX5_joined_105 rfl (Nat.zero_le _) (Nat.zero_le _) (fun z => absurd z (hp_sealed _)) ⟨rfl, rfl⟩
  rw [if_neg q15] at hB
  have tq15 := am_nt (k := 7) q15 (by decide)
  by_cases q16 : l0 = 8
  · rw [if_pos q16] at hB
    refine ev_tableIn (off := 105) 106 dX5_joined_1 (by rw [q16]; decide) (by rw [q16]; decide) (by rw [q16]; rfl) (by decide) ?_
    refine ev_iload_n dX5_joined_106 rfl ?_
    refine ev_iload_n dX5_joined_107 rfl ?_
    refine ev_imul dX5_joined_108 ?_
    obtain rfl := Option.some.inj hB
    exact ev_iret dX5_joined_109 rfl (Nat.zero_le _) (Nat.zero_le _) (fun z => absurd z (hp_sealed _)) ⟨rfl, rfl⟩
  rw [if_neg q16] at hB
  have tq16 := am_nt (k := 8) q16 (by decide)
  refine ev_tableOut 110 dX5_joined_1 (by omega) (by decide) ?_
  refine ev_iload_n dX5_joined_110 rfl ?_
  refine ev_ifne 118 dX5_joined_111 (by decide) (fun q17 => ?_) (fun q17 => ?_)
  · rw [if_neg q17] at hB
    refine ev_iload_n dX5_joined_118 rfl ?_
    refine ev_iload_n dX5_joined_119 rfl ?_
    obtain ⟨c18, hB⟩ := ckn_of hB
    refine ev_idiv dX5_joined_120 c18 ?_
    exact ev_ls (u_X5_joined_121 (l1 / l2) S hB) trivial
  · rw [if_pos q17] at hB
    refine ev_iconst 0 dX5_joined_114 (by decide) ?_
    refine ev_goto 121 dX5_joined_115 (by decide) ?_
    exact ev_ls (u_X5_joined_121 0 S hB) trivial
def b_X5_worth_145 (N : Nat) (k4 : Nat → Nat → Int32 → Int32 → am_S → Option (Int32 × am_S)) (l0 : Nat) (l1 : Nat) (l2 : Int32) (l3 : Int32) (S : am_S) : Option (Int32 × am_S) := k4 l0 l1 l2 (l3 + 1) S
def b_X5_worth_55 (N : Nat) (k4 : Nat → Nat → Int32 → Int32 → am_S → Option (Int32 × am_S)) (l0 : Nat) (l1 : Nat) (l2 : Int32) (l3 : Int32) (z0 : Nat) (z1 : Int32) (z2 : Int32) (S : am_S) : Option (Int32 × am_S) := (if inb z1 (ln z0) = true then b_X5_worth_145 N (k4) l0 l1 l2 l3 (sp S z0 (Int32.toNatClampNeg z1) z2) else none)
def b_X5_worth_141 (N : Nat) (k4 : Nat → Nat → Int32 → Int32 → am_S → Option (Int32 × am_S)) (l0 : Nat) (l1 : Nat) (l2 : Int32) (l3 : Int32) (z0 : Nat) (z1 : Int32) (z2 : Int32) (S : am_S) : Option (Int32 × am_S) := (if inb z1 (ln z0) = true then b_X5_worth_145 N (k4) l0 l1 (l2 + 1) l3 (sp S z0 (Int32.toNatClampNeg z1) z2) else none)
def b_X5_worth_4 (N : Nat) : Nat → Nat → Nat → Int32 → Int32 → am_S → Option (Int32 × am_S)
  | 0, _, _, _, _, _ => none
  | n + 1, l0, l1, l2, l3, S => (if (sg S l0 1) ≤ l3 then (if inb 0 (ln (rf l0 2)) = true then some ((sg S (rf l0 2) (Int32.toNatClampNeg 0)), S) else none) else (if inb l3 (ln (rf l0 0)) = true then (if (sg S (rf l0 0) (Int32.toNatClampNeg l3)) = 20003 then (if l2 ≤ 0 then b_X5_worth_145 N (b_X5_worth_4 N n) l0 l1 l2 l3 S else (if inb (l2 - 1) (ln (rf l0 2)) = true then (if (sg S (rf l0 2) (Int32.toNatClampNeg (l2 - 1))) = 0 then b_X5_worth_55 N (b_X5_worth_4 N n) l0 l1 l2 l3 (rf l0 2) (l2 - 1) 1 S else b_X5_worth_55 N (b_X5_worth_4 N n) l0 l1 l2 l3 (rf l0 2) (l2 - 1) 0 S) else none)) else (if (sg S (rf l0 0) (Int32.toNatClampNeg l3)) < 20000 then (if 40 ≤ l2 then b_X5_worth_145 N (b_X5_worth_4 N n) l0 l1 l2 l3 S else (if (sg S (rf l0 0) (Int32.toNatClampNeg l3)) < 10000 then b_X5_worth_141 N (b_X5_worth_4 N n) l0 l1 l2 l3 (rf l0 2) l2 (sg S (rf l0 0) (Int32.toNatClampNeg l3)) S else (if inb ((sg S (rf l0 0) (Int32.toNatClampNeg l3)) - 10000) (ln l1) = true then b_X5_worth_141 N (b_X5_worth_4 N n) l0 l1 l2 l3 (rf l0 2) l2 (sg S l1 (Int32.toNatClampNeg ((sg S (rf l0 0) (Int32.toNatClampNeg l3)) - 10000))) S else none))) else (if l2 ≤ 1 then b_X5_worth_145 N (b_X5_worth_4 N n) l0 l1 l2 l3 S else (if inb ((l2 + (-1)) - 1) (ln (rf l0 2)) = true then (if inb (l2 + (-1)) (ln (rf l0 2)) = true then (bd (f_X5_joined N ((sg S (rf l0 0) (Int32.toNatClampNeg l3)) - 20000) (sg S (rf l0 2) (Int32.toNatClampNeg ((l2 + (-1)) - 1))) (sg S (rf l0 2) (Int32.toNatClampNeg (l2 + (-1)))) S) (fun r12 S13 => (if inb ((l2 + (-1)) - 1) (ln (rf l0 2)) = true then b_X5_worth_145 N (b_X5_worth_4 N n) l0 l1 (l2 + (-1)) l3 (sp S13 (rf l0 2) (Int32.toNatClampNeg ((l2 + (-1)) - 1)) r12) else none))) else none) else none)))) else none))
def f_X5_worth (N : Nat) (l0 : Nat) (l1 : Nat) (S : am_S) : Option (Int32 × am_S) := b_X5_worth_4 N N l0 l1 0 0 S
theorem u_X5_worth_145 {G : am_G} {N : Nat} {h0 : am_H} {out : Int32 × am_S} {k4 : Nat → Nat → Int32 → Int32 → am_S → Option (Int32 × am_S)} (hk4 : ∀ (l0 : Nat) (l1 : Nat) (l2 : Int32) (l3 : Int32) (S : am_S), isC 5 l0 = true → isAr 1 l1 = true → k4 l0 l1 l2 l3 S = some out → Ev G (am_R 2 0 0) (am_Φ G h0 0 0 (q_i out) q_n) mX5_worth 0 0 4 [some (.ref l0), some (.ref l1), some (.int l2), some (.int l3), none] [] (hp S)) (l0 : Nat) (l1 : Nat) (l2 : Int32) (l3 : Int32) (S : am_S) (hl0 : isC 5 l0 = true) (hl1 : isAr 1 l1 = true) (hB : b_X5_worth_145 N k4 l0 l1 l2 l3 S = some out) : Ev G (am_R 2 0 0) (am_Φ G h0 0 0 (q_i out) q_n) mX5_worth 0 0 145 [some (.ref l0), some (.ref l1), some (.int l2), some (.int l3), none] [] (hp S) := by
  unfold b_X5_worth_145 at hB
  refine es_iinc 1 dX5_worth_145 rfl (by decide) (by decide) rfl ?_
  refine ev_goto 4 dX5_worth_148 (by decide) ?_
  exact ev_ls (hk4 l0 l1 l2 (l3 + 1) S hl0 hl1 hB) (And.intro rfl (And.intro rfl (And.intro rfl (And.intro rfl trivial))))
theorem u_X5_worth_55 {G : am_G} {N : Nat} {h0 : am_H} {out : Int32 × am_S} {k4 : Nat → Nat → Int32 → Int32 → am_S → Option (Int32 × am_S)} (hk4 : ∀ (l0 : Nat) (l1 : Nat) (l2 : Int32) (l3 : Int32) (S : am_S), isC 5 l0 = true → isAr 1 l1 = true → k4 l0 l1 l2 l3 S = some out → Ev G (am_R 2 0 0) (am_Φ G h0 0 0 (q_i out) q_n) mX5_worth 0 0 4 [some (.ref l0), some (.ref l1), some (.int l2), some (.int l3), none] [] (hp S)) (l0 : Nat) (l1 : Nat) (l2 : Int32) (l3 : Int32) (z0 : Nat) (z1 : Int32) (z2 : Int32) (S : am_S) (hl0 : isC 5 l0 = true) (hl1 : isAr 1 l1 = true) (hz0 : isAr 1 z0 = true) (hB : b_X5_worth_55 N k4 l0 l1 l2 l3 z0 z1 z2 S = some out) : Ev G (am_R 2 0 0) (am_Φ G h0 0 0 (q_i out) q_n) mX5_worth 0 0 55 [some (.ref l0), some (.ref l1), some (.int l2), some (.int l3), none] [.int z2, .int z1, .ref z0] (hp S) := by
  unfold b_X5_worth_55 at hB
  obtain ⟨c1, hB⟩ := ck_of hB
  refine es_iast dX5_worth_55 hz0 c1 ?_
  refine ev_goto 145 dX5_worth_56 (by decide) ?_
  exact ev_ls (u_X5_worth_145 hk4 l0 l1 l2 l3 (sp S z0 (Int32.toNatClampNeg z1) z2) hl0 hl1 hB) (And.intro rfl (And.intro rfl (And.intro rfl (And.intro rfl trivial))))
theorem u_X5_worth_141 {G : am_G} {N : Nat} {h0 : am_H} {out : Int32 × am_S} {k4 : Nat → Nat → Int32 → Int32 → am_S → Option (Int32 × am_S)} (hk4 : ∀ (l0 : Nat) (l1 : Nat) (l2 : Int32) (l3 : Int32) (S : am_S), isC 5 l0 = true → isAr 1 l1 = true → k4 l0 l1 l2 l3 S = some out → Ev G (am_R 2 0 0) (am_Φ G h0 0 0 (q_i out) q_n) mX5_worth 0 0 4 [some (.ref l0), some (.ref l1), some (.int l2), some (.int l3), none] [] (hp S)) (l0 : Nat) (l1 : Nat) (l2 : Int32) (l3 : Int32) (z0 : Nat) (z1 : Int32) (z2 : Int32) (S : am_S) (hl0 : isC 5 l0 = true) (hl1 : isAr 1 l1 = true) (hz0 : isAr 1 z0 = true) (hB : b_X5_worth_141 N k4 l0 l1 l2 l3 z0 z1 z2 S = some out) : Ev G (am_R 2 0 0) (am_Φ G h0 0 0 (q_i out) q_n) mX5_worth 0 0 141 [some (.ref l0), some (.ref l1), some (.int l2), some (.int l3), none] [.int z2, .int z1, .ref z0] (hp S) := by
  unfold b_X5_worth_141 at hB
  obtain ⟨c1, hB⟩ := ck_of hB
  refine es_iast dX5_worth_141 hz0 c1 ?_
  refine es_iinc 1 dX5_worth_142 rfl (by decide) (by decide) rfl ?_
  exact ev_ls (u_X5_worth_145 hk4 l0 l1 (l2 + 1) l3 (sp S z0 (Int32.toNatClampNeg z1) z2) hl0 hl1 hB) (And.intro rfl (And.intro rfl (And.intro rfl (And.intro rfl trivial))))
theorem u_X5_worth_4 {G : am_G} {N : Nat} {h0 : am_H} {out : Int32 × am_S} : ∀ (n : Nat) (l0 : Nat) (l1 : Nat) (l2 : Int32) (l3 : Int32) (S : am_S), isC 5 l0 = true → isAr 1 l1 = true → b_X5_worth_4 N n l0 l1 l2 l3 S = some out → Ev G (am_R 2 0 0) (am_Φ G h0 0 0 (q_i out) q_n) mX5_worth 0 0 4 [some (.ref l0), some (.ref l1), some (.int l2), some (.int l3), none] [] (hp S) := by
  intro n
  induction n with
  | zero =>
    intro l0 l1 l2 l3 S hl0 hl1 hB
    exact absurd (show none = some out from hB) (fun q => by cases q)
  | succ n ih =>
    intro l0 l1 l2 l3 S hl0 hl1 hB
    unfold b_X5_worth_4 at hB
    refine ev_iload_n dX5_worth_4 rfl ?_
    refine ev_aload_n dX5_worth_5 rfl ?_
    refine es_geti k_5 1 dX5_worth_6 (by decide) rfl (Or.inl w_124) hl0 rfl ?_
    refine ev_icmpge 151 dX5_worth_9 (by decide) (fun q1 => ?_) (fun q1 => ?_)
    · rw [if_pos q1] at hB
      refine ev_aload_n dX5_worth_151 rfl ?_
      refine es_getr k_5 2 dX5_worth_152 (by decide) rfl (Or.inl w_125) hl0 rfl ?_
      refine ev_iconst 0 dX5_worth_155 (by decide) ?_
      obtain ⟨c2, hB⟩ := ck_of hB
      refine es_iald dX5_worth_156 (tr_5_2 hl0) c2 ?_
      obtain rfl := Option.some.inj hB
      exact ev_iret dX5_worth_157 rfl (Nat.zero_le _) (Nat.zero_le _) (fun z => absurd z (hp_sealed _)) ⟨rfl, rfl⟩
    · rw [if_neg q1] at hB
      refine ev_aload_n dX5_worth_12 rfl ?_
      refine es_getr k_5 0 dX5_worth_13 (by decide) rfl (Or.inl w_123) hl0 rfl ?_
      refine ev_iload_n dX5_worth_16 rfl ?_
      obtain ⟨c3, hB⟩ := ck_of hB
      refine es_iald dX5_worth_17 (tr_5_0 hl0) c3 ?_
      refine ev_istore dX5_worth_18 (by decide) rfl ?_
      refine ev_iload dX5_worth_20 rfl ?_
      refine ev_sipush 20003 dX5_worth_22 (by decide) ?_
      refine ev_icmpne 59 dX5_worth_25 (by decide) (fun q4 => ?_) (fun q4 => ?_)
      · rw [if_neg q4] at hB
        refine ev_iload dX5_worth_59 rfl ?_
        refine ev_sipush 20000 dX5_worth_61 (by decide) ?_
        refine ev_icmplt 109 dX5_worth_64 (by decide) (fun q5 => ?_) (fun q5 => ?_)
        · rw [if_pos q5] at hB
          refine ev_iload_n dX5_worth_109 rfl ?_
          refine ev_bipush 40 dX5_worth_110 (by decide) ?_
          refine ev_icmpge 145 dX5_worth_112 (by decide) (fun q6 => ?_) (fun q6 => ?_)
          · rw [if_pos q6] at hB
            exact ev_ls (u_X5_worth_145 ih l0 l1 l2 l3 S hl0 hl1 hB) (And.intro rfl (And.intro rfl (And.intro rfl (And.intro rfl trivial))))
          · rw [if_neg q6] at hB
            refine ev_aload_n dX5_worth_115 rfl ?_
            refine es_getr k_5 2 dX5_worth_116 (by decide) rfl (Or.inl w_125) hl0 rfl ?_
            refine ev_iload_n dX5_worth_119 rfl ?_
            refine ev_iload dX5_worth_120 rfl ?_
            refine ev_sipush 10000 dX5_worth_122 (by decide) ?_
            refine ev_icmplt 139 dX5_worth_125 (by decide) (fun q7 => ?_) (fun q7 => ?_)
            · rw [if_pos q7] at hB
              refine ev_iload dX5_worth_139 rfl ?_
              exact ev_ls (u_X5_worth_141 ih l0 l1 l2 l3 (rf l0 2) l2 (sg S (rf l0 0) (Int32.toNatClampNeg l3)) S hl0 hl1 (tr_5_2 hl0) hB) (And.intro rfl (And.intro rfl (And.intro rfl (And.intro rfl trivial))))
            · rw [if_neg q7] at hB
              refine ev_aload_n dX5_worth_128 rfl ?_
              refine ev_iload dX5_worth_129 rfl ?_
              refine ev_sipush 10000 dX5_worth_131 (by decide) ?_
              refine ev_isub dX5_worth_134 ?_
              obtain ⟨c8, hB⟩ := ck_of hB
              refine es_iald dX5_worth_135 hl1 c8 ?_
              refine ev_goto 141 dX5_worth_136 (by decide) ?_
              exact ev_ls (u_X5_worth_141 ih l0 l1 l2 l3 (rf l0 2) l2 (sg S l1 (Int32.toNatClampNeg ((sg S (rf l0 0) (Int32.toNatClampNeg l3)) - 10000))) S hl0 hl1 (tr_5_2 hl0) hB) (And.intro rfl (And.intro rfl (And.intro rfl (And.intro rfl trivial))))
        · rw [if_neg q5] at hB
          refine ev_iload_n dX5_worth_67 rfl ?_
          refine ev_iconst 1 dX5_worth_68 (by decide) ?_
          refine ev_icmple 145 dX5_worth_69 (by decide) (fun q9 => ?_) (fun q9 => ?_)
          · rw [if_pos q9] at hB
            exact ev_ls (u_X5_worth_145 ih l0 l1 l2 l3 S hl0 hl1 hB) (And.intro rfl (And.intro rfl (And.intro rfl (And.intro rfl trivial))))
          · rw [if_neg q9] at hB
            refine es_iinc (-1) dX5_worth_72 rfl (by decide) (by decide) rfl ?_
            refine ev_aload_n dX5_worth_75 rfl ?_
            refine es_getr k_5 2 dX5_worth_76 (by decide) rfl (Or.inl w_125) hl0 rfl ?_
            refine ev_iload_n dX5_worth_79 rfl ?_
            refine ev_iconst 1 dX5_worth_80 (by decide) ?_
            refine ev_isub dX5_worth_81 ?_
            refine ev_iload dX5_worth_82 rfl ?_
            refine ev_sipush 20000 dX5_worth_84 (by decide) ?_
            refine ev_isub dX5_worth_87 ?_
            refine ev_aload_n dX5_worth_88 rfl ?_
            refine es_getr k_5 2 dX5_worth_89 (by decide) rfl (Or.inl w_125) hl0 rfl ?_
            refine ev_iload_n dX5_worth_92 rfl ?_
            refine ev_iconst 1 dX5_worth_93 (by decide) ?_
            refine ev_isub dX5_worth_94 ?_
            obtain ⟨c10, hB⟩ := ck_of hB
            refine es_iald dX5_worth_95 (tr_5_2 hl0) c10 ?_
            refine ev_aload_n dX5_worth_96 rfl ?_
            refine es_getr k_5 2 dX5_worth_97 (by decide) rfl (Or.inl w_125) hl0 rfl ?_
            refine ev_iload_n dX5_worth_100 rfl ?_
            obtain ⟨c11, hB⟩ := ck_of hB
            refine es_iald dX5_worth_101 (tr_5_2 hl0) c11 ?_
            obtain ⟨r12, S13, e14, hB⟩ := bd_of hB
            refine es_callSi (As := [.int ((sg S (rf l0 0) (Int32.toNatClampNeg l3)) - 20000), .int (sg S (rf l0 2) (Int32.toNatClampNeg ((l2 + (-1)) - 1))), .int (sg S (rf l0 2) (Int32.toNatClampNeg (l2 + (-1))))]) (t_X5_joined e14) dX5_worth_102 oX5_joined w_714 rfl (Nat.le_of_ble_eq_true rfl) rfl (am_fit.of (by decide)) ⟨Nat.zero_le _, Nat.zero_le _⟩ ?_
            obtain ⟨c15, hB⟩ := ck_of hB
            refine es_iast dX5_worth_105 (tr_5_2 hl0) c15 ?_
            refine ev_goto 145 dX5_worth_106 (by decide) ?_
            exact ev_ls (u_X5_worth_145 ih l0 l1 (l2 + (-1)) l3 (sp S13 (rf l0 2) (Int32.toNatClampNeg ((l2 + (-1)) - 1)) r12) hl0 hl1 hB) (And.intro rfl (And.intro rfl (And.intro rfl (And.intro rfl trivial))))
      · rw [if_pos q4] at hB
        refine ev_iload_n dX5_worth_28 rfl ?_
        refine ev_ifle 145 dX5_worth_29 (by decide) (fun q16 => ?_) (fun q16 => ?_)
        · rw [if_pos q16] at hB
          exact ev_ls (u_X5_worth_145 ih l0 l1 l2 l3 S hl0 hl1 hB) (And.intro rfl (And.intro rfl (And.intro rfl (And.intro rfl trivial))))
        · rw [if_neg q16] at hB
          refine ev_aload_n dX5_worth_32 rfl ?_
          refine es_getr k_5 2 dX5_worth_33 (by decide) rfl (Or.inl w_125) hl0 rfl ?_
          refine ev_iload_n dX5_worth_36 rfl ?_
          refine ev_iconst 1 dX5_worth_37 (by decide) ?_
          refine ev_isub dX5_worth_38 ?_
          refine ev_aload_n dX5_worth_39 rfl ?_
          refine es_getr k_5 2 dX5_worth_40 (by decide) rfl (Or.inl w_125) hl0 rfl ?_
          refine ev_iload_n dX5_worth_43 rfl ?_
          refine ev_iconst 1 dX5_worth_44 (by decide) ?_
          refine ev_isub dX5_worth_45 ?_
          obtain ⟨c17, hB⟩ := ck_of hB
          refine es_iald dX5_worth_46 (tr_5_2 hl0) c17 ?_
          refine ev_ifne 54 dX5_worth_47 (by decide) (fun q18 => ?_) (fun q18 => ?_)
          · rw [if_neg q18] at hB
            refine ev_iconst 0 dX5_worth_54 (by decide) ?_
            exact ev_ls (u_X5_worth_55 ih l0 l1 l2 l3 (rf l0 2) (l2 - 1) 0 S hl0 hl1 (tr_5_2 hl0) hB) (And.intro rfl (And.intro rfl (And.intro rfl (And.intro rfl trivial))))
          · rw [if_pos q18] at hB
            refine ev_iconst 1 dX5_worth_50 (by decide) ?_
            refine ev_goto 55 dX5_worth_51 (by decide) ?_
            exact ev_ls (u_X5_worth_55 ih l0 l1 l2 l3 (rf l0 2) (l2 - 1) 1 S hl0 hl1 (tr_5_2 hl0) hB) (And.intro rfl (And.intro rfl (And.intro rfl (And.intro rfl trivial))))
theorem t_X5_worth {G : am_G} {N : Nat} {l0 : Nat} {l1 : Nat} {S : am_S} {out : Int32 × am_S} (hl0 : isC 5 l0 = true) (hl1 : isAr 1 l1 = true) (hB : f_X5_worth N l0 l1 S = some out) : am_Met G 2 mX5_worth 0 0 [.ref l0, .ref l1] (hp S) (q_i out) q_n := by
  refine am_of (by decide +kernel) rfl rfl rfl (Nat.le_of_ble_eq_true rfl) ?_
  unfold f_X5_worth at hB
  refine ev_iconst 0 dX5_worth_0 (by decide) ?_
  refine ev_istore_n dX5_worth_1 (by decide) rfl ?_
  refine ev_iconst 0 dX5_worth_2 (by decide) ?_
  refine ev_istore_n dX5_worth_3 (by decide) rfl ?_
  exact ev_ls (u_X5_worth_4 N l0 l1 0 0 S hl0 hl1 hB) (And.intro rfl (And.intro rfl (And.intro rfl (And.intro rfl trivial))))
def b_X9_keptWithin_17 (N : Nat) (z0 : Int32) (S : am_S) : Option (Int32 × am_S) := some (z0, S)
def f_X9_keptWithin (N : Nat) (l0 : Int32) (l1 : Int32) (l2 : Int32) (S : am_S) : Option (Int32 × am_S) := (if l1 ≤ l0 then (if l0 ≤ l2 then b_X9_keptWithin_17 N l0 S else b_X9_keptWithin_17 N l2 S) else some (l1, S))
theorem u_X9_keptWithin_17 {G : am_G} {N : Nat} {h0 : am_H} {out : Int32 × am_S} (z0 : Int32) (S : am_S) (hB : b_X9_keptWithin_17 N z0 S = some out) : Ev G (am_R 1 0 0) (am_Φ G h0 0 0 (q_i out) q_n) mX9_keptWithin 0 0 17 [none, none, none] [.int z0] (hp S) := by
  unfold b_X9_keptWithin_17 at hB
  obtain rfl := Option.some.inj hB
  exact ev_iret dX9_keptWithin_17 rfl (Nat.zero_le _) (Nat.zero_le _) (fun z => absurd z (hp_sealed _)) ⟨rfl, rfl⟩
theorem t_X9_keptWithin {G : am_G} {N : Nat} {l0 : Int32} {l1 : Int32} {l2 : Int32} {S : am_S} {out : Int32 × am_S} (hB : f_X9_keptWithin N l0 l1 l2 S = some out) : am_Met G 1 mX9_keptWithin 0 0 [.int l0, .int l1, .int l2] (hp S) (q_i out) q_n := by
  refine am_of (by decide +kernel) rfl rfl rfl (Nat.le_of_ble_eq_true rfl) ?_
  unfold f_X9_keptWithin at hB
  refine ev_iload_n dX9_keptWithin_0 rfl ?_
  refine ev_iload_n dX9_keptWithin_1 rfl ?_
  refine ev_icmpge 7 dX9_keptWithin_2 (by decide) (fun q1 => ?_) (fun q1 => ?_)
  · rw [if_pos q1] at hB
    refine ev_iload_n dX9_keptWithin_7 rfl ?_
    refine ev_iload_n dX9_keptWithin_8 rfl ?_
    refine ev_icmple 16 dX9_keptWithin_9 (by decide) (fun q2 => ?_) (fun q2 => ?_)
    · rw [if_pos q2] at hB
      refine ev_iload_n dX9_keptWithin_16 rfl ?_
      exact ev_ls (u_X9_keptWithin_17 l0 S hB) trivial
    · rw [if_neg q2] at hB
      refine ev_iload_n dX9_keptWithin_12 rfl ?_
      refine ev_goto 17 dX9_keptWithin_13 (by decide) ?_
      exact ev_ls (u_X9_keptWithin_17 l2 S hB) trivial
  · rw [if_neg q1] at hB
    refine ev_iload_n dX9_keptWithin_5 rfl ?_
    obtain rfl := Option.some.inj hB
    exact ev_iret dX9_keptWithin_6 rfl (Nat.zero_le _) (Nat.zero_le _) (fun z => absurd z (hp_sealed _)) ⟨rfl, rfl⟩
def b_X0_takeBack_54 (N : Nat)  (S : am_S) : Option (am_S) := some S
def f_X0_takeBack (N : Nat) (l0 : Nat) (l1 : Nat) (S : am_S) : Option (am_S) := (if (sg S l0 1) ≤ 0 then b_X0_takeBack_54 N S else (if cpk ((sg (sp S l0 2 ((((sg S l0 2) + 40) - 1) - (((sg S l0 2) + 40) - 1) / 40 * 40)) l0 2) * 80) 0 80 (ln (rf l0 0)) (ln (rf l1 0)) = true then b_X0_takeBack_54 N (sp (scp (sp S l0 2 ((((sg S l0 2) + 40) - 1) - (((sg S l0 2) + 40) - 1) / 40 * 40)) (rf l0 0) (Int32.toNatClampNeg ((sg (sp S l0 2 ((((sg S l0 2) + 40) - 1) - (((sg S l0 2) + 40) - 1) / 40 * 40)) l0 2) * 80)) (rf l1 0) (Int32.toNatClampNeg 0) (Int32.toNatClampNeg 80)) l0 1 ((sg (scp (sp S l0 2 ((((sg S l0 2) + 40) - 1) - (((sg S l0 2) + 40) - 1) / 40 * 40)) (rf l0 0) (Int32.toNatClampNeg ((sg (sp S l0 2 ((((sg S l0 2) + 40) - 1) - (((sg S l0 2) + 40) - 1) / 40 * 40)) l0 2) * 80)) (rf l1 0) (Int32.toNatClampNeg 0) (Int32.toNatClampNeg 80)) l0 1) - 1)) else none))
theorem u_X0_takeBack_54 {G : am_G} {N : Nat} {h0 : am_H} {out : am_S}  (S : am_S) (hB : b_X0_takeBack_54 N  S = some out) : Ev G (am_R 1 0 0) (am_Φ G h0 0 0 (q_v out) q_n) mX0_takeBack 0 0 54 [none, none] [] (hp S) := by
  unfold b_X0_takeBack_54 at hB
  obtain rfl := Option.some.inj hB
  exact ev_vret dX0_takeBack_54 rfl (Nat.zero_le _) (Nat.zero_le _) (fun z => absurd z (hp_sealed _)) ⟨rfl, rfl⟩
theorem t_X0_takeBack {G : am_G} {N : Nat} {l0 : Nat} {l1 : Nat} {S : am_S} {out : am_S} (hl0 : isC 0 l0 = true) (hl1 : isC 7 l1 = true) (hB : f_X0_takeBack N l0 l1 S = some out) : am_Met G 1 mX0_takeBack 0 0 [.ref l0, .ref l1] (hp S) (q_v out) q_n := by
  refine am_of (by decide +kernel) rfl rfl rfl (Nat.le_of_ble_eq_true rfl) ?_
  unfold f_X0_takeBack at hB
  refine ev_aload_n dX0_takeBack_0 rfl ?_
  refine es_geti k_0 1 dX0_takeBack_1 (by decide) rfl (Or.inl w_523) hl0 rfl ?_
  refine ev_ifle 54 dX0_takeBack_4 (by decide) (fun q1 => ?_) (fun q1 => ?_)
  · rw [if_pos q1] at hB
    exact ev_ls (u_X0_takeBack_54 S hB) trivial
  · rw [if_neg q1] at hB
    refine ev_aload_n dX0_takeBack_7 rfl ?_
    refine ev_aload_n dX0_takeBack_8 rfl ?_
    refine es_geti k_0 2 dX0_takeBack_9 (by decide) rfl (Or.inl w_525) hl0 rfl ?_
    refine ev_bipush 40 dX0_takeBack_12 (by decide) ?_
    refine ev_iadd dX0_takeBack_14 ?_
    refine ev_iconst 1 dX0_takeBack_15 (by decide) ?_
    refine ev_isub dX0_takeBack_16 ?_
    refine ev_bipush 40 dX0_takeBack_17 (by decide) ?_
    refine ev_irem dX0_takeBack_19 (by decide) ?_
    refine es_puti k_0 2 dX0_takeBack_20 (by decide) rfl (Or.inl w_525) rfl rfl hl0 rfl ?_
    refine ev_aload_n dX0_takeBack_23 rfl ?_
    refine es_getr k_0 0 dX0_takeBack_24 (by decide) rfl (Or.inl w_522) hl0 rfl ?_
    refine ev_aload_n dX0_takeBack_27 rfl ?_
    refine es_geti k_0 2 dX0_takeBack_28 (by decide) rfl (Or.inl w_525) hl0 rfl ?_
    refine ev_bipush 80 dX0_takeBack_31 (by decide) ?_
    refine ev_imul dX0_takeBack_33 ?_
    refine ev_aload_n dX0_takeBack_34 rfl ?_
    refine es_getr k_7 0 dX0_takeBack_35 (by decide) rfl (Or.inr ⟨_, n_512⟩) hl1 rfl ?_
    refine ev_iconst 0 dX0_takeBack_38 (by decide) ?_
    refine ev_bipush 80 dX0_takeBack_39 (by decide) ?_
    obtain ⟨c3, hB⟩ := ck_of hB
    refine es_copy dX0_takeBack_41 w_660 j_nat j_sta j_ini (tr_0_0 hl0) (tr_7_0 hl1) c3 (Nat.le_of_ble_eq_true rfl) (am_fit.of (by decide)) ?_
    refine ev_aload_n dX0_takeBack_44 rfl ?_
    refine ev_dup dX0_takeBack_45 rfl ?_
    refine es_geti k_0 1 dX0_takeBack_46 (by decide) rfl (Or.inl w_523) hl0 rfl ?_
    refine ev_iconst 1 dX0_takeBack_49 (by decide) ?_
    refine ev_isub dX0_takeBack_50 ?_
    refine es_puti k_0 1 dX0_takeBack_51 (by decide) rfl (Or.inl w_523) rfl rfl hl0 rfl ?_
    exact ev_ls (u_X0_takeBack_54 (sp (scp (sp S l0 2 ((((sg S l0 2) + 40) - 1) - (((sg S l0 2) + 40) - 1) / 40 * 40)) (rf l0 0) (Int32.toNatClampNeg ((sg (sp S l0 2 ((((sg S l0 2) + 40) - 1) - (((sg S l0 2) + 40) - 1) / 40 * 40)) l0 2) * 80)) (rf l1 0) (Int32.toNatClampNeg 0) (Int32.toNatClampNeg 80)) l0 1 ((sg (scp (sp S l0 2 ((((sg S l0 2) + 40) - 1) - (((sg S l0 2) + 40) - 1) / 40 * 40)) (rf l0 0) (Int32.toNatClampNeg ((sg (sp S l0 2 ((((sg S l0 2) + 40) - 1) - (((sg S l0 2) + 40) - 1) / 40 * 40)) l0 2) * 80)) (rf l1 0) (Int32.toNatClampNeg 0) (Int32.toNatClampNeg 80)) l0 1) - 1)) hB) trivial
def b_X3_put_49 (N : Nat)  (S : am_S) : Option (am_S) := some S
def f_X3_put (N : Nat) (l0 : Nat) (l1 : Int32) (l2 : Int32) (l3 : Int32) (S : am_S) : Option (am_S) := (if 8 ≤ (sg S l0 3) then b_X3_put_49 N S else (if inb (sg S l0 3) (ln (rf l0 0)) = true then (if inb (sg (sp S (rf l0 0) (Int32.toNatClampNeg (sg S l0 3)) l1) l0 3) (ln (rf l0 1)) = true then (if inb (sg (sp (sp S (rf l0 0) (Int32.toNatClampNeg (sg S l0 3)) l1) (rf l0 1) (Int32.toNatClampNeg (sg (sp S (rf l0 0) (Int32.toNatClampNeg (sg S l0 3)) l1) l0 3)) l2) l0 3) (ln (rf l0 2)) = true then b_X3_put_49 N (sp (sp (sp (sp S (rf l0 0) (Int32.toNatClampNeg (sg S l0 3)) l1) (rf l0 1) (Int32.toNatClampNeg (sg (sp S (rf l0 0) (Int32.toNatClampNeg (sg S l0 3)) l1) l0 3)) l2) (rf l0 2) (Int32.toNatClampNeg (sg (sp (sp S (rf l0 0) (Int32.toNatClampNeg (sg S l0 3)) l1) (rf l0 1) (Int32.toNatClampNeg (sg (sp S (rf l0 0) (Int32.toNatClampNeg (sg S l0 3)) l1) l0 3)) l2) l0 3)) l3) l0 3 ((sg (sp (sp (sp S (rf l0 0) (Int32.toNatClampNeg (sg S l0 3)) l1) (rf l0 1) (Int32.toNatClampNeg (sg (sp S (rf l0 0) (Int32.toNatClampNeg (sg S l0 3)) l1) l0 3)) l2) (rf l0 2) (Int32.toNatClampNeg (sg (sp (sp S (rf l0 0) (Int32.toNatClampNeg (sg S l0 3)) l1) (rf l0 1) (Int32.toNatClampNeg (sg (sp S (rf l0 0) (Int32.toNatClampNeg (sg S l0 3)) l1) l0 3)) l2) l0 3)) l3) l0 3) + 1)) else none) else none) else none))
theorem u_X3_put_49 {G : am_G} {N : Nat} {h0 : am_H} {out : am_S}  (S : am_S) (hB : b_X3_put_49 N  S = some out) : Ev G (am_R 1 0 0) (am_Φ G h0 0 0 (q_v out) q_n) mX3_put 0 0 49 [none, none, none, none] [] (hp S) := by
  unfold b_X3_put_49 at hB
  obtain rfl := Option.some.inj hB
  exact ev_vret dX3_put_49 rfl (Nat.zero_le _) (Nat.zero_le _) (fun z => absurd z (hp_sealed _)) ⟨rfl, rfl⟩
theorem t_X3_put {G : am_G} {N : Nat} {l0 : Nat} {l1 : Int32} {l2 : Int32} {l3 : Int32} {S : am_S} {out : am_S} (hl0 : isC 3 l0 = true) (hB : f_X3_put N l0 l1 l2 l3 S = some out) : am_Met G 1 mX3_put 0 0 [.ref l0, .int l1, .int l2, .int l3] (hp S) (q_v out) q_n := by
  refine am_of (by decide +kernel) rfl rfl rfl (Nat.le_of_ble_eq_true rfl) ?_
  unfold f_X3_put at hB
  refine ev_aload_n dX3_put_0 rfl ?_
  refine es_geti k_3 3 dX3_put_1 (by decide) rfl (Or.inl w_542) hl0 rfl ?_
  refine ev_bipush 8 dX3_put_4 (by decide) ?_
  refine ev_icmpge 49 dX3_put_6 (by decide) (fun q1 => ?_) (fun q1 => ?_)
  · rw [if_pos q1] at hB
    exact ev_ls (u_X3_put_49 S hB) trivial
  · rw [if_neg q1] at hB
    refine ev_aload_n dX3_put_9 rfl ?_
    refine es_getr k_3 0 dX3_put_10 (by decide) rfl (Or.inl w_539) hl0 rfl ?_
    refine ev_aload_n dX3_put_13 rfl ?_
    refine es_geti k_3 3 dX3_put_14 (by decide) rfl (Or.inl w_542) hl0 rfl ?_
    refine ev_iload_n dX3_put_17 rfl ?_
    obtain ⟨c2, hB⟩ := ck_of hB
    refine es_iast dX3_put_18 (tr_3_0 hl0) c2 ?_
    refine ev_aload_n dX3_put_19 rfl ?_
    refine es_getr k_3 1 dX3_put_20 (by decide) rfl (Or.inl w_540) hl0 rfl ?_
    refine ev_aload_n dX3_put_23 rfl ?_
    refine es_geti k_3 3 dX3_put_24 (by decide) rfl (Or.inl w_542) hl0 rfl ?_
    refine ev_iload_n dX3_put_27 rfl ?_
    obtain ⟨c3, hB⟩ := ck_of hB
    refine es_iast dX3_put_28 (tr_3_1 hl0) c3 ?_
    refine ev_aload_n dX3_put_29 rfl ?_
    refine es_getr k_3 2 dX3_put_30 (by decide) rfl (Or.inl w_541) hl0 rfl ?_
    refine ev_aload_n dX3_put_33 rfl ?_
    refine es_geti k_3 3 dX3_put_34 (by decide) rfl (Or.inl w_542) hl0 rfl ?_
    refine ev_iload_n dX3_put_37 rfl ?_
    obtain ⟨c4, hB⟩ := ck_of hB
    refine es_iast dX3_put_38 (tr_3_2 hl0) c4 ?_
    refine ev_aload_n dX3_put_39 rfl ?_
    refine ev_dup dX3_put_40 rfl ?_
    refine es_geti k_3 3 dX3_put_41 (by decide) rfl (Or.inl w_542) hl0 rfl ?_
    refine ev_iconst 1 dX3_put_44 (by decide) ?_
    refine ev_iadd dX3_put_45 ?_
    refine es_puti k_3 3 dX3_put_46 (by decide) rfl (Or.inl w_542) rfl rfl hl0 rfl ?_
    exact ev_ls (u_X3_put_49 (sp (sp (sp (sp S (rf l0 0) (Int32.toNatClampNeg (sg S l0 3)) l1) (rf l0 1) (Int32.toNatClampNeg (sg (sp S (rf l0 0) (Int32.toNatClampNeg (sg S l0 3)) l1) l0 3)) l2) (rf l0 2) (Int32.toNatClampNeg (sg (sp (sp S (rf l0 0) (Int32.toNatClampNeg (sg S l0 3)) l1) (rf l0 1) (Int32.toNatClampNeg (sg (sp S (rf l0 0) (Int32.toNatClampNeg (sg S l0 3)) l1) l0 3)) l2) l0 3)) l3) l0 3 ((sg (sp (sp (sp S (rf l0 0) (Int32.toNatClampNeg (sg S l0 3)) l1) (rf l0 1) (Int32.toNatClampNeg (sg (sp S (rf l0 0) (Int32.toNatClampNeg (sg S l0 3)) l1) l0 3)) l2) (rf l0 2) (Int32.toNatClampNeg (sg (sp (sp S (rf l0 0) (Int32.toNatClampNeg (sg S l0 3)) l1) (rf l0 1) (Int32.toNatClampNeg (sg (sp S (rf l0 0) (Int32.toNatClampNeg (sg S l0 3)) l1) l0 3)) l2) l0 3)) l3) l0 3) + 1)) hB) trivial
def b_X3_lastDay_4 (N : Nat) : Nat → Nat → Int32 → Int32 → am_S → Option (Int32 × am_S)
  | 0, _, _, _, _ => none
  | n + 1, l0, l1, l2, S => (if (sg S l0 3) ≤ l2 then some (l1, S) else (if inb l2 (ln (rf l0 1)) = true then b_X3_lastDay_4 N n l0 (jmax l1 (sg S (rf l0 1) (Int32.toNatClampNeg l2))) (l2 + 1) S else none))
def f_X3_lastDay (N : Nat) (l0 : Nat) (S : am_S) : Option (Int32 × am_S) := b_X3_lastDay_4 N N l0 0 0 S
theorem u_X3_lastDay_4 {G : am_G} {N : Nat} {h0 : am_H} {out : Int32 × am_S} : ∀ (n : Nat) (l0 : Nat) (l1 : Int32) (l2 : Int32) (S : am_S), isC 3 l0 = true → b_X3_lastDay_4 N n l0 l1 l2 S = some out → Ev G (am_R 1 0 0) (am_Φ G h0 0 0 (q_i out) q_n) mX3_lastDay 0 0 4 [some (.ref l0), some (.int l1), some (.int l2)] [] (hp S) := by
  intro n
  induction n with
  | zero =>
    intro l0 l1 l2 S hl0 hB
    exact absurd (show none = some out from hB) (fun q => by cases q)
  | succ n ih =>
    intro l0 l1 l2 S hl0 hB
    unfold b_X3_lastDay_4 at hB
    refine ev_iload_n dX3_lastDay_4 rfl ?_
    refine ev_aload_n dX3_lastDay_5 rfl ?_
    refine es_geti k_3 3 dX3_lastDay_6 (by decide) rfl (Or.inl w_542) hl0 rfl ?_
    refine ev_icmpge 29 dX3_lastDay_9 (by decide) (fun q1 => ?_) (fun q1 => ?_)
    · rw [if_pos q1] at hB
      refine ev_iload_n dX3_lastDay_29 rfl ?_
      obtain rfl := Option.some.inj hB
      exact ev_iret dX3_lastDay_30 rfl (Nat.zero_le _) (Nat.zero_le _) (fun z => absurd z (hp_sealed _)) ⟨rfl, rfl⟩
    · rw [if_neg q1] at hB
      refine ev_iload_n dX3_lastDay_12 rfl ?_
      refine ev_aload_n dX3_lastDay_13 rfl ?_
      refine es_getr k_3 1 dX3_lastDay_14 (by decide) rfl (Or.inl w_540) hl0 rfl ?_
      refine ev_iload_n dX3_lastDay_17 rfl ?_
      obtain ⟨c2, hB⟩ := ck_of hB
      refine es_iald dX3_lastDay_18 (tr_3_1 hl0) c2 ?_
      refine es_max dX3_lastDay_19 w_1377 (Nat.le_of_ble_eq_true rfl) (am_fit.of (by decide)) ⟨Nat.zero_le _, Nat.zero_le _⟩ ?_
      refine ev_istore_n dX3_lastDay_22 (by decide) rfl ?_
      refine es_iinc 1 dX3_lastDay_23 rfl (by decide) (by decide) rfl ?_
      refine ev_goto 4 dX3_lastDay_26 (by decide) ?_
      exact ev_ls (ih l0 (jmax l1 (sg S (rf l0 1) (Int32.toNatClampNeg l2))) (l2 + 1) S hl0 hB) (And.intro rfl (And.intro rfl (And.intro rfl trivial)))
theorem t_X3_lastDay {G : am_G} {N : Nat} {l0 : Nat} {S : am_S} {out : Int32 × am_S} (hl0 : isC 3 l0 = true) (hB : f_X3_lastDay N l0 S = some out) : am_Met G 1 mX3_lastDay 0 0 [.ref l0] (hp S) (q_i out) q_n := by
  refine am_of (by decide +kernel) rfl rfl rfl (Nat.le_of_ble_eq_true rfl) ?_
  unfold f_X3_lastDay at hB
  refine ev_iconst 0 dX3_lastDay_0 (by decide) ?_
  refine ev_istore_n dX3_lastDay_1 (by decide) rfl ?_
  refine ev_iconst 0 dX3_lastDay_2 (by decide) ?_
  refine ev_istore_n dX3_lastDay_3 (by decide) rfl ?_
  exact ev_ls (u_X3_lastDay_4 N l0 0 0 S hl0 hB) (And.intro rfl (And.intro rfl (And.intro rfl trivial)))
def b_X3_agree_41 (N : Nat) (k2 : Nat → Int32 → Nat → Int32 → am_S → Option (Int32 × am_S)) (l0 : Nat) (l1 : Int32) (l2 : Nat) (l3 : Int32) (S : am_S) : Option (Int32 × am_S) := k2 l0 l1 l2 (l3 + 1) S
def b_X3_agree_2 (N : Nat) : Nat → Nat → Int32 → Nat → Int32 → am_S → Option (Int32 × am_S)
  | 0, _, _, _, _, _ => none
  | n + 1, l0, l1, l2, l3, S => (if (sg S l0 3) ≤ l3 then some (1, S) else (if inb l3 (ln (rf l0 1)) = true then (if (sg S (rf l0 1) (Int32.toNatClampNeg l3)) = l1 then (if inb l3 (ln (rf l0 0)) = true then (bd (f_X7_heardBy N l2 (sg S (rf l0 0) (Int32.toNatClampNeg l3)) S) (fun r5 S6 => (if inb l3 (ln (rf l0 2)) = true then (if r5 = (sg S6 (rf l0 2) (Int32.toNatClampNeg l3)) then b_X3_agree_41 N (b_X3_agree_2 N n) l0 l1 l2 l3 S6 else some (0, S6)) else none))) else none) else b_X3_agree_41 N (b_X3_agree_2 N n) l0 l1 l2 l3 S) else none))
def f_X3_agree (N : Nat) (l0 : Nat) (l1 : Int32) (l2 : Nat) (S : am_S) : Option (Int32 × am_S) := b_X3_agree_2 N N l0 l1 l2 0 S
theorem u_X3_agree_41 {G : am_G} {N : Nat} {h0 : am_H} {out : Int32 × am_S} {k2 : Nat → Int32 → Nat → Int32 → am_S → Option (Int32 × am_S)} (hk2 : ∀ (l0 : Nat) (l1 : Int32) (l2 : Nat) (l3 : Int32) (S : am_S), isC 3 l0 = true → isC 7 l2 = true → k2 l0 l1 l2 l3 S = some out → Ev G (am_R 2 0 0) (am_Φ G h0 0 0 (q_i out) q_n) mX3_agree 0 0 2 [some (.ref l0), some (.int l1), some (.ref l2), some (.int l3)] [] (hp S)) (l0 : Nat) (l1 : Int32) (l2 : Nat) (l3 : Int32) (S : am_S) (hl0 : isC 3 l0 = true) (hl2 : isC 7 l2 = true) (hB : b_X3_agree_41 N k2 l0 l1 l2 l3 S = some out) : Ev G (am_R 2 0 0) (am_Φ G h0 0 0 (q_i out) q_n) mX3_agree 0 0 41 [some (.ref l0), some (.int l1), some (.ref l2), some (.int l3)] [] (hp S) := by
  unfold b_X3_agree_41 at hB
  refine es_iinc 1 dX3_agree_41 rfl (by decide) (by decide) rfl ?_
  refine ev_goto 2 dX3_agree_44 (by decide) ?_
  exact ev_ls (hk2 l0 l1 l2 (l3 + 1) S hl0 hl2 hB) (And.intro rfl (And.intro rfl (And.intro rfl (And.intro rfl trivial))))
theorem u_X3_agree_2 {G : am_G} {N : Nat} {h0 : am_H} {out : Int32 × am_S} : ∀ (n : Nat) (l0 : Nat) (l1 : Int32) (l2 : Nat) (l3 : Int32) (S : am_S), isC 3 l0 = true → isC 7 l2 = true → b_X3_agree_2 N n l0 l1 l2 l3 S = some out → Ev G (am_R 2 0 0) (am_Φ G h0 0 0 (q_i out) q_n) mX3_agree 0 0 2 [some (.ref l0), some (.int l1), some (.ref l2), some (.int l3)] [] (hp S) := by
  intro n
  induction n with
  | zero =>
    intro l0 l1 l2 l3 S hl0 hl2 hB
    exact absurd (show none = some out from hB) (fun q => by cases q)
  | succ n ih =>
    intro l0 l1 l2 l3 S hl0 hl2 hB
    unfold b_X3_agree_2 at hB
    refine ev_iload_n dX3_agree_2 rfl ?_
    refine ev_aload_n dX3_agree_3 rfl ?_
    refine es_geti k_3 3 dX3_agree_4 (by decide) rfl (Or.inl w_542) hl0 rfl ?_
    refine ev_icmpge 47 dX3_agree_7 (by decide) (fun q1 => ?_) (fun q1 => ?_)
    · rw [if_pos q1] at hB
      refine ev_iconst 1 dX3_agree_47 (by decide) ?_
      obtain rfl := Option.some.inj hB
      exact ev_zret dX3_agree_48 rfl (by rfl) (Nat.zero_le _) (Nat.zero_le _) (fun z => absurd z (hp_sealed _)) ⟨rfl, rfl⟩
    · rw [if_neg q1] at hB
      refine ev_aload_n dX3_agree_10 rfl ?_
      refine es_getr k_3 1 dX3_agree_11 (by decide) rfl (Or.inl w_540) hl0 rfl ?_
      refine ev_iload_n dX3_agree_14 rfl ?_
      obtain ⟨c2, hB⟩ := ck_of hB
      refine es_iald dX3_agree_15 (tr_3_1 hl0) c2 ?_
      refine ev_iload_n dX3_agree_16 rfl ?_
      refine ev_icmpne 41 dX3_agree_17 (by decide) (fun q3 => ?_) (fun q3 => ?_)
      · rw [if_neg q3] at hB
        exact ev_ls (u_X3_agree_41 ih l0 l1 l2 l3 S hl0 hl2 hB) (And.intro rfl (And.intro rfl (And.intro rfl (And.intro rfl trivial))))
      · rw [if_pos q3] at hB
        refine ev_aload_n dX3_agree_20 rfl ?_
        refine ev_aload_n dX3_agree_21 rfl ?_
        refine es_getr k_3 0 dX3_agree_22 (by decide) rfl (Or.inl w_539) hl0 rfl ?_
        refine ev_iload_n dX3_agree_25 rfl ?_
        obtain ⟨c4, hB⟩ := ck_of hB
        refine es_iald dX3_agree_26 (tr_3_0 hl0) c4 ?_
        obtain ⟨r5, S6, e7, hB⟩ := bd_of hB
        refine es_callVi (As := [.int (sg S (rf l0 0) (Int32.toNatClampNeg l3))]) (t_X7_heardBy hl2 e7) dX3_agree_27 oX7_heardBy w_1382 rfl hl2 rfl rfl (Nat.le_of_ble_eq_true rfl) rfl (am_fit.of (by decide)) ⟨Nat.zero_le _, Nat.zero_le _⟩ ?_
        refine ev_aload_n dX3_agree_30 rfl ?_
        refine es_getr k_3 2 dX3_agree_31 (by decide) rfl (Or.inl w_541) hl0 rfl ?_
        refine ev_iload_n dX3_agree_34 rfl ?_
        obtain ⟨c8, hB⟩ := ck_of hB
        refine es_iald dX3_agree_35 (tr_3_2 hl0) c8 ?_
        refine ev_icmpeq 41 dX3_agree_36 (by decide) (fun q9 => ?_) (fun q9 => ?_)
        · rw [if_pos q9] at hB
          exact ev_ls (u_X3_agree_41 ih l0 l1 l2 l3 S6 hl0 hl2 hB) (And.intro rfl (And.intro rfl (And.intro rfl (And.intro rfl trivial))))
        · rw [if_neg q9] at hB
          refine ev_iconst 0 dX3_agree_39 (by decide) ?_
          obtain rfl := Option.some.inj hB
          exact ev_zret dX3_agree_40 rfl (by rfl) (Nat.zero_le _) (Nat.zero_le _) (fun z => absurd z (hp_sealed _)) ⟨rfl, rfl⟩
theorem t_X3_agree {G : am_G} {N : Nat} {l0 : Nat} {l1 : Int32} {l2 : Nat} {S : am_S} {out : Int32 × am_S} (hl0 : isC 3 l0 = true) (hl2 : isC 7 l2 = true) (hB : f_X3_agree N l0 l1 l2 S = some out) : am_Met G 2 mX3_agree 0 0 [.ref l0, .int l1, .ref l2] (hp S) (q_i out) q_n := by
  refine am_of (by decide +kernel) rfl rfl rfl (Nat.le_of_ble_eq_true rfl) ?_
  unfold f_X3_agree at hB
  refine ev_iconst 0 dX3_agree_0 (by decide) ?_
  refine ev_istore_n dX3_agree_1 (by decide) rfl ?_
  exact ev_ls (u_X3_agree_2 N l0 l1 l2 0 S hl0 hl2 hB) (And.intro rfl (And.intro rfl (And.intro rfl (And.intro rfl trivial))))
def f_X0_copyFrom (N : Nat) (l0 : Nat) (l1 : Nat) (S : am_S) : Option (am_S) := (if cpk 0 0 (nI (ln (rf l0 0))) (ln (rf l1 0)) (ln (rf l0 0)) = true then some (sp (sp (scp S (rf l1 0) (Int32.toNatClampNeg 0) (rf l0 0) (Int32.toNatClampNeg 0) (Int32.toNatClampNeg (nI (ln (rf l0 0))))) l0 1 (sg (scp S (rf l1 0) (Int32.toNatClampNeg 0) (rf l0 0) (Int32.toNatClampNeg 0) (Int32.toNatClampNeg (nI (ln (rf l0 0))))) l1 1)) l0 2 (sg (sp (scp S (rf l1 0) (Int32.toNatClampNeg 0) (rf l0 0) (Int32.toNatClampNeg 0) (Int32.toNatClampNeg (nI (ln (rf l0 0))))) l0 1 (sg (scp S (rf l1 0) (Int32.toNatClampNeg 0) (rf l0 0) (Int32.toNatClampNeg 0) (Int32.toNatClampNeg (nI (ln (rf l0 0))))) l1 1)) l1 2)) else none)
theorem t_X0_copyFrom {G : am_G} {N : Nat} {l0 : Nat} {l1 : Nat} {S : am_S} {out : am_S} (hl0 : isC 0 l0 = true) (hl1 : isC 0 l1 = true) (hB : f_X0_copyFrom N l0 l1 S = some out) : am_Met G 1 mX0_copyFrom 0 0 [.ref l0, .ref l1] (hp S) (q_v out) q_n := by
  refine am_of (by decide +kernel) rfl rfl rfl (Nat.le_of_ble_eq_true rfl) ?_
  unfold f_X0_copyFrom at hB
  refine ev_aload_n dX0_copyFrom_0 rfl ?_
  refine es_getr k_0 0 dX0_copyFrom_1 (by decide) rfl (Or.inl w_522) hl1 rfl ?_
  refine ev_iconst 0 dX0_copyFrom_4 (by decide) ?_
  refine ev_aload_n dX0_copyFrom_5 rfl ?_
  refine es_getr k_0 0 dX0_copyFrom_6 (by decide) rfl (Or.inl w_522) hl0 rfl ?_
  refine ev_iconst 0 dX0_copyFrom_9 (by decide) ?_
  refine ev_aload_n dX0_copyFrom_10 rfl ?_
  refine es_getr k_0 0 dX0_copyFrom_11 (by decide) rfl (Or.inl w_522) hl0 rfl ?_
  refine es_alen dX0_copyFrom_14 (tr_0_0 hl0) rfl ?_
  obtain ⟨c1, hB⟩ := ck_of hB
  refine es_copy dX0_copyFrom_15 w_660 j_nat j_sta j_ini (tr_0_0 hl1) (tr_0_0 hl0) c1 (Nat.le_of_ble_eq_true rfl) (am_fit.of (by decide)) ?_
  refine ev_aload_n dX0_copyFrom_18 rfl ?_
  refine ev_aload_n dX0_copyFrom_19 rfl ?_
  refine es_geti k_0 1 dX0_copyFrom_20 (by decide) rfl (Or.inl w_523) hl1 rfl ?_
  refine es_puti k_0 1 dX0_copyFrom_23 (by decide) rfl (Or.inl w_523) rfl rfl hl0 rfl ?_
  refine ev_aload_n dX0_copyFrom_26 rfl ?_
  refine ev_aload_n dX0_copyFrom_27 rfl ?_
  refine es_geti k_0 2 dX0_copyFrom_28 (by decide) rfl (Or.inl w_525) hl1 rfl ?_
  refine es_puti k_0 2 dX0_copyFrom_31 (by decide) rfl (Or.inl w_525) rfl rfl hl0 rfl ?_
  obtain rfl := Option.some.inj hB
  exact ev_vret dX0_copyFrom_34 rfl (Nat.zero_le _) (Nat.zero_le _) (fun z => absurd z (hp_sealed _)) ⟨rfl, rfl⟩
def f_X3_copyFrom (N : Nat) (l0 : Nat) (l1 : Nat) (S : am_S) : Option (am_S) := (if cpk 0 0 8 (ln (rf l1 0)) (ln (rf l0 0)) = true then (if cpk 0 0 8 (ln (rf l1 1)) (ln (rf l0 1)) = true then (if cpk 0 0 8 (ln (rf l1 2)) (ln (rf l0 2)) = true then some (sp (scp (scp (scp S (rf l1 0) (Int32.toNatClampNeg 0) (rf l0 0) (Int32.toNatClampNeg 0) (Int32.toNatClampNeg 8)) (rf l1 1) (Int32.toNatClampNeg 0) (rf l0 1) (Int32.toNatClampNeg 0) (Int32.toNatClampNeg 8)) (rf l1 2) (Int32.toNatClampNeg 0) (rf l0 2) (Int32.toNatClampNeg 0) (Int32.toNatClampNeg 8)) l0 3 (sg (scp (scp (scp S (rf l1 0) (Int32.toNatClampNeg 0) (rf l0 0) (Int32.toNatClampNeg 0) (Int32.toNatClampNeg 8)) (rf l1 1) (Int32.toNatClampNeg 0) (rf l0 1) (Int32.toNatClampNeg 0) (Int32.toNatClampNeg 8)) (rf l1 2) (Int32.toNatClampNeg 0) (rf l0 2) (Int32.toNatClampNeg 0) (Int32.toNatClampNeg 8)) l1 3)) else none) else none) else none)
theorem t_X3_copyFrom {G : am_G} {N : Nat} {l0 : Nat} {l1 : Nat} {S : am_S} {out : am_S} (hl0 : isC 3 l0 = true) (hl1 : isC 3 l1 = true) (hB : f_X3_copyFrom N l0 l1 S = some out) : am_Met G 1 mX3_copyFrom 0 0 [.ref l0, .ref l1] (hp S) (q_v out) q_n := by
  refine am_of (by decide +kernel) rfl rfl rfl (Nat.le_of_ble_eq_true rfl) ?_
  unfold f_X3_copyFrom at hB
  refine ev_aload_n dX3_copyFrom_0 rfl ?_
  refine es_getr k_3 0 dX3_copyFrom_1 (by decide) rfl (Or.inl w_539) hl1 rfl ?_
  refine ev_iconst 0 dX3_copyFrom_4 (by decide) ?_
  refine ev_aload_n dX3_copyFrom_5 rfl ?_
  refine es_getr k_3 0 dX3_copyFrom_6 (by decide) rfl (Or.inl w_539) hl0 rfl ?_
  refine ev_iconst 0 dX3_copyFrom_9 (by decide) ?_
  refine ev_bipush 8 dX3_copyFrom_10 (by decide) ?_
  obtain ⟨c1, hB⟩ := ck_of hB
  refine es_copy dX3_copyFrom_12 w_816 j_nat j_sta j_ini (tr_3_0 hl1) (tr_3_0 hl0) c1 (Nat.le_of_ble_eq_true rfl) (am_fit.of (by decide)) ?_
  refine ev_aload_n dX3_copyFrom_15 rfl ?_
  refine es_getr k_3 1 dX3_copyFrom_16 (by decide) rfl (Or.inl w_540) hl1 rfl ?_
  refine ev_iconst 0 dX3_copyFrom_19 (by decide) ?_
  refine ev_aload_n dX3_copyFrom_20 rfl ?_
  refine es_getr k_3 1 dX3_copyFrom_21 (by decide) rfl (Or.inl w_540) hl0 rfl ?_
  refine ev_iconst 0 dX3_copyFrom_24 (by decide) ?_
  refine ev_bipush 8 dX3_copyFrom_25 (by decide) ?_
  obtain ⟨c2, hB⟩ := ck_of hB
  refine es_copy dX3_copyFrom_27 w_816 j_nat j_sta j_ini (tr_3_1 hl1) (tr_3_1 hl0) c2 (Nat.le_of_ble_eq_true rfl) (am_fit.of (by decide)) ?_
  refine ev_aload_n dX3_copyFrom_30 rfl ?_
  refine es_getr k_3 2 dX3_copyFrom_31 (by decide) rfl (Or.inl w_541) hl1 rfl ?_
  refine ev_iconst 0 dX3_copyFrom_34 (by decide) ?_
  refine ev_aload_n dX3_copyFrom_35 rfl ?_
  refine es_getr k_3 2 dX3_copyFrom_36 (by decide) rfl (Or.inl w_541) hl0 rfl ?_
  refine ev_iconst 0 dX3_copyFrom_39 (by decide) ?_
  refine ev_bipush 8 dX3_copyFrom_40 (by decide) ?_
  obtain ⟨c3, hB⟩ := ck_of hB
  refine es_copy dX3_copyFrom_42 w_816 j_nat j_sta j_ini (tr_3_2 hl1) (tr_3_2 hl0) c3 (Nat.le_of_ble_eq_true rfl) (am_fit.of (by decide)) ?_
  refine ev_aload_n dX3_copyFrom_45 rfl ?_
  refine ev_aload_n dX3_copyFrom_46 rfl ?_
  refine es_geti k_3 3 dX3_copyFrom_47 (by decide) rfl (Or.inl w_542) hl1 rfl ?_
  refine es_puti k_3 3 dX3_copyFrom_50 (by decide) rfl (Or.inl w_542) rfl rfl hl0 rfl ?_
  obtain rfl := Option.some.inj hB
  exact ev_vret dX3_copyFrom_53 rfl (Nat.zero_le _) (Nat.zero_le _) (fun z => absurd z (hp_sealed _)) ⟨rfl, rfl⟩
