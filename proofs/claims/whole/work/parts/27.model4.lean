def b_X10_visits_28 (N : Nat)  (S : am_S) : Option (Int32 × am_S) := some (0, S)
def b_X10_visits_64 (N : Nat) (k35 : Nat → Int32 → Int32 → Int32 → Int32 → am_S → Option (Int32 × am_S)) (l0 : Nat) (l1 : Int32) (l2 : Int32) (l4 : Int32) (z0 : Int32) (z1 : Int32) (S : am_S) : Option (Int32 × am_S) := k35 l0 l1 l2 (z0 + z1) (l4 + 1) S
def b_X10_visits_35 (N : Nat) : Nat → Nat → Int32 → Int32 → Int32 → Int32 → am_S → Option (Int32 × am_S)
  | 0, _, _, _, _, _, _ => none
  | n + 1, l0, l1, l2, l3, l4, S => (if l2 ≤ l4 then some (l3, S) else (if inb 0 (ln (rf l0 46)) = true then (bd (f_X10_comesOn N l0 ((sg S (rf l0 46) (Int32.toNatClampNeg 0)) + l4) S) (fun r3 S4 => (if r3 = l1 then b_X10_visits_64 N (b_X10_visits_35 N n) l0 l1 l2 l4 l3 1 S4 else b_X10_visits_64 N (b_X10_visits_35 N n) l0 l1 l2 l4 l3 0 S4))) else none))
def f_X10_visits (N : Nat) (l0 : Nat) (l1 : Int32) (l2 : Int32) (S : am_S) : Option (Int32 × am_S) := (bd (f_X10_isBox N l0 l1 (sp S l0 0 0)) (fun r1 S2 => (if r1 = 0 then b_X10_visits_28 N S2 else (bd (f_X10_within N l2 1 60 S2) (fun r5 S6 => (bd (f_X10_right N l0 r5 2 S6) (fun r8 S9 => (if r8 = 0 then b_X10_visits_28 N S9 else b_X10_visits_35 N N l0 l1 l2 0 0 S9))))))))
theorem u_X10_visits_28 {G : am_G} {N : Nat} {h0 : am_H} {out : Int32 × am_S}  (S : am_S) (hB : b_X10_visits_28 N  S = some out) : Ev G (am_R 3 0 0) (am_Φ G h0 0 0 (q_i out) q_n) mX10_visits 0 0 28 [none, none, none, none, none] [] (hp S) := by
  unfold b_X10_visits_28 at hB
  refine ev_iconst 0 dX10_visits_28 (by decide) ?_
  obtain rfl := Option.some.inj hB
  exact ev_iret dX10_visits_29 rfl (Nat.zero_le _) (Nat.zero_le _) (fun z => absurd z (hp_sealed _)) ⟨rfl, rfl⟩
theorem u_X10_visits_64 {G : am_G} {N : Nat} {h0 : am_H} {out : Int32 × am_S} {k35 : Nat → Int32 → Int32 → Int32 → Int32 → am_S → Option (Int32 × am_S)} (hk35 : ∀ (l0 : Nat) (l1 : Int32) (l2 : Int32) (l3 : Int32) (l4 : Int32) (S : am_S), isC 10 l0 = true → k35 l0 l1 l2 l3 l4 S = some out → Ev G (am_R 3 0 0) (am_Φ G h0 0 0 (q_i out) q_n) mX10_visits 0 0 35 [some (.ref l0), some (.int l1), some (.int l2), some (.int l3), some (.int l4)] [] (hp S)) (l0 : Nat) (l1 : Int32) (l2 : Int32) (l4 : Int32) (z0 : Int32) (z1 : Int32) (S : am_S) (hl0 : isC 10 l0 = true) (hB : b_X10_visits_64 N k35 l0 l1 l2 l4 z0 z1 S = some out) : Ev G (am_R 3 0 0) (am_Φ G h0 0 0 (q_i out) q_n) mX10_visits 0 0 64 [some (.ref l0), some (.int l1), some (.int l2), none, some (.int l4)] [.int z1, .int z0] (hp S) := by
  unfold b_X10_visits_64 at hB
  refine ev_iadd dX10_visits_64 ?_
  refine ev_istore_n dX10_visits_65 (by decide) rfl ?_
  refine es_iinc 1 dX10_visits_66 rfl (by decide) (by decide) rfl ?_
  refine ev_goto 35 dX10_visits_69 (by decide) ?_
  exact ev_ls (hk35 l0 l1 l2 (z0 + z1) (l4 + 1) S hl0 hB) (And.intro rfl (And.intro rfl (And.intro rfl (And.intro rfl (And.intro rfl trivial)))))
theorem u_X10_visits_35 {G : am_G} {N : Nat} {h0 : am_H} {out : Int32 × am_S} : ∀ (n : Nat) (l0 : Nat) (l1 : Int32) (l2 : Int32) (l3 : Int32) (l4 : Int32) (S : am_S), isC 10 l0 = true → b_X10_visits_35 N n l0 l1 l2 l3 l4 S = some out → Ev G (am_R 3 0 0) (am_Φ G h0 0 0 (q_i out) q_n) mX10_visits 0 0 35 [some (.ref l0), some (.int l1), some (.int l2), some (.int l3), some (.int l4)] [] (hp S) := by
  intro n
  induction n with
  | zero =>
    intro l0 l1 l2 l3 l4 S hl0 hB
    exact absurd (show none = some out from hB) (fun q => by cases q)
  | succ n ih =>
    intro l0 l1 l2 l3 l4 S hl0 hB
    unfold b_X10_visits_35 at hB
    refine ev_iload dX10_visits_35 rfl ?_
    refine ev_iload_n dX10_visits_37 rfl ?_
    refine ev_icmpge 72 dX10_visits_38 (by decide) (fun q1 => ?_) (fun q1 => ?_)
    · rw [if_pos q1] at hB
      refine ev_iload_n dX10_visits_72 rfl ?_
      obtain rfl := Option.some.inj hB
      exact ev_iret dX10_visits_73 rfl (Nat.zero_le _) (Nat.zero_le _) (fun z => absurd z (hp_sealed _)) ⟨rfl, rfl⟩
    · rw [if_neg q1] at hB
      refine ev_iload_n dX10_visits_41 rfl ?_
      refine ev_aload_n dX10_visits_42 rfl ?_
      refine ev_aload_n dX10_visits_43 rfl ?_
      refine es_getr k_10 46 dX10_visits_44 (by decide) rfl (Or.inl w_1571) hl0 rfl ?_
      refine ev_iconst 0 dX10_visits_47 (by decide) ?_
      obtain ⟨c2, hB⟩ := ck_of hB
      refine es_iald dX10_visits_48 (tr_10_46 hl0) c2 ?_
      refine ev_iload dX10_visits_49 rfl ?_
      refine ev_iadd dX10_visits_51 ?_
      obtain ⟨r3, S4, e5, hB⟩ := bd_of hB
      refine es_callVi (As := [.int ((sg S (rf l0 46) (Int32.toNatClampNeg 0)) + l4)]) (t_X10_comesOn hl0 e5) dX10_visits_52 oX10_comesOn w_1882 rfl hl0 rfl rfl (Nat.le_of_ble_eq_true rfl) rfl (am_fit.of (by decide)) ⟨Nat.zero_le _, Nat.zero_le _⟩ ?_
      refine ev_iload_n dX10_visits_55 rfl ?_
      refine ev_icmpne 63 dX10_visits_56 (by decide) (fun q6 => ?_) (fun q6 => ?_)
      · rw [if_neg q6] at hB
        refine ev_iconst 0 dX10_visits_63 (by decide) ?_
        exact ev_ls (u_X10_visits_64 ih l0 l1 l2 l4 l3 0 S4 hl0 hB) (And.intro rfl (And.intro rfl (And.intro rfl (And.intro rfl trivial))))
      · rw [if_pos q6] at hB
        refine ev_iconst 1 dX10_visits_59 (by decide) ?_
        refine ev_goto 64 dX10_visits_60 (by decide) ?_
        exact ev_ls (u_X10_visits_64 ih l0 l1 l2 l4 l3 1 S4 hl0 hB) (And.intro rfl (And.intro rfl (And.intro rfl (And.intro rfl trivial))))
theorem t_X10_visits {G : am_G} {N : Nat} {l0 : Nat} {l1 : Int32} {l2 : Int32} {S : am_S} {out : Int32 × am_S} (hl0 : isC 10 l0 = true) (hB : f_X10_visits N l0 l1 l2 S = some out) : am_Met G 3 mX10_visits 0 0 [.ref l0, .int l1, .int l2] (hp S) (q_i out) q_n := by
  refine am_of (by decide +kernel) rfl rfl rfl (Nat.le_of_ble_eq_true rfl) ?_
  unfold f_X10_visits at hB
  refine ev_aload_n dX10_visits_0 rfl ?_
  refine ev_iconst 0 dX10_visits_1 (by decide) ?_
  refine es_puti k_10 0 dX10_visits_2 (by decide) rfl (Or.inl w_1525) rfl rfl hl0 rfl ?_
  refine ev_aload_n dX10_visits_5 rfl ?_
  refine ev_iload_n dX10_visits_6 rfl ?_
  obtain ⟨r1, S2, e3, hB⟩ := bd_of hB
  refine es_callVi (As := [.int l1]) (t_X10_isBox hl0 e3) dX10_visits_7 oX10_isBox w_1914 rfl hl0 rfl rfl (Nat.le_of_ble_eq_true rfl) rfl (am_fit.of (by decide)) ⟨Nat.zero_le _, Nat.zero_le _⟩ ?_
  refine ev_ifeq 28 dX10_visits_10 (by decide) (fun q4 => ?_) (fun q4 => ?_)
  · rw [if_pos q4] at hB
    exact ev_ls (u_X10_visits_28 S2 hB) trivial
  · rw [if_neg q4] at hB
    refine ev_aload_n dX10_visits_13 rfl ?_
    refine ev_iload_n dX10_visits_14 rfl ?_
    refine ev_iconst 1 dX10_visits_15 (by decide) ?_
    refine ev_bipush 60 dX10_visits_16 (by decide) ?_
    obtain ⟨r5, S6, e7, hB⟩ := bd_of hB
    refine es_callSi (As := [.int l2, .int 1, .int 60]) (t_X10_within e7) dX10_visits_18 oX10_within w_1875 rfl (Nat.le_of_ble_eq_true rfl) rfl (am_fit.of (by decide)) ⟨Nat.zero_le _, Nat.zero_le _⟩ ?_
    refine ev_iconst 2 dX10_visits_21 (by decide) ?_
    obtain ⟨r8, S9, e10, hB⟩ := bd_of hB
    refine es_callVi (As := [.int r5, .int 2]) (t_X10_right hl0 e10) dX10_visits_22 oX10_right w_1744 rfl hl0 rfl rfl (Nat.le_of_ble_eq_true rfl) rfl (am_fit.of (by decide)) ⟨Nat.zero_le _, Nat.zero_le _⟩ ?_
    refine ev_ifne 30 dX10_visits_25 (by decide) (fun q11 => ?_) (fun q11 => ?_)
    · rw [if_neg q11] at hB
      refine ev_iconst 0 dX10_visits_30 (by decide) ?_
      refine ev_istore_n dX10_visits_31 (by decide) rfl ?_
      refine ev_iconst 0 dX10_visits_32 (by decide) ?_
      refine ev_istore dX10_visits_33 (by decide) rfl ?_
      exact ev_ls (u_X10_visits_35 N l0 l1 l2 0 0 S9 hl0 hB) (And.intro rfl (And.intro rfl (And.intro rfl (And.intro rfl (And.intro rfl trivial)))))
    · rw [if_pos q11] at hB
      exact ev_ls (u_X10_visits_28 S9 hB) trivial
def b_X10_reds_26 (N : Nat) : Nat → Nat → Int32 → Int32 → am_S → Option (Int32 × am_S)
  | 0, _, _, _, _ => none
  | n + 1, l0, l2, l3, S => (if (sg S l0 1) ≤ l3 then some (l2, S) else (if inb (82 + l3) (ln (rf l0 46)) = true then b_X10_reds_26 N n l0 (l2 + (sg S (rf l0 46) (Int32.toNatClampNeg (82 + l3)))) (l3 + 1) S else none))
def f_X10_reds (N : Nat) (l0 : Nat) (l1 : Int32) (S : am_S) : Option (Int32 × am_S) := (bd (f_X10_isDays N l0 l1 0 1 (sp S l0 0 0)) (fun r1 S2 => (if r1 = 0 then some (0, S2) else (bv (f_X10_goesTo N l0 l1 S2) (fun S6 => b_X10_reds_26 N N l0 0 0 S6)))))
theorem u_X10_reds_26 {G : am_G} {N : Nat} {h0 : am_H} {out : Int32 × am_S} : ∀ (n : Nat) (l0 : Nat) (l2 : Int32) (l3 : Int32) (S : am_S), isC 10 l0 = true → b_X10_reds_26 N n l0 l2 l3 S = some out → Ev G (am_R 8 0 0) (am_Φ G h0 0 0 (q_i out) q_n) mX10_reds 0 0 26 [some (.ref l0), none, some (.int l2), some (.int l3)] [] (hp S) := by
  intro n
  induction n with
  | zero =>
    intro l0 l2 l3 S hl0 hB
    exact absurd (show none = some out from hB) (fun q => by cases q)
  | succ n ih =>
    intro l0 l2 l3 S hl0 hB
    unfold b_X10_reds_26 at hB
    refine ev_iload_n dX10_reds_26 rfl ?_
    refine ev_aload_n dX10_reds_27 rfl ?_
    refine es_geti k_10 1 dX10_reds_28 (by decide) rfl (Or.inl w_1526) hl0 rfl ?_
    refine ev_icmpge 52 dX10_reds_31 (by decide) (fun q1 => ?_) (fun q1 => ?_)
    · rw [if_pos q1] at hB
      refine ev_iload_n dX10_reds_52 rfl ?_
      obtain rfl := Option.some.inj hB
      exact ev_iret dX10_reds_53 rfl (Nat.zero_le _) (Nat.zero_le _) (fun z => absurd z (hp_sealed _)) ⟨rfl, rfl⟩
    · rw [if_neg q1] at hB
      refine ev_iload_n dX10_reds_34 rfl ?_
      refine ev_aload_n dX10_reds_35 rfl ?_
      refine es_getr k_10 46 dX10_reds_36 (by decide) rfl (Or.inl w_1571) hl0 rfl ?_
      refine ev_bipush 82 dX10_reds_39 (by decide) ?_
      refine ev_iload_n dX10_reds_41 rfl ?_
      refine ev_iadd dX10_reds_42 ?_
      obtain ⟨c2, hB⟩ := ck_of hB
      refine es_iald dX10_reds_43 (tr_10_46 hl0) c2 ?_
      refine ev_iadd dX10_reds_44 ?_
      refine ev_istore_n dX10_reds_45 (by decide) rfl ?_
      refine es_iinc 1 dX10_reds_46 rfl (by decide) (by decide) rfl ?_
      refine ev_goto 26 dX10_reds_49 (by decide) ?_
      exact ev_ls (ih l0 (l2 + (sg S (rf l0 46) (Int32.toNatClampNeg (82 + l3)))) (l3 + 1) S hl0 hB) (And.intro rfl (And.intro rfl (And.intro rfl trivial)))
theorem t_X10_reds {G : am_G} {N : Nat} {l0 : Nat} {l1 : Int32} {S : am_S} {out : Int32 × am_S} (hl0 : isC 10 l0 = true) (hB : f_X10_reds N l0 l1 S = some out) : am_Met G 8 mX10_reds 0 0 [.ref l0, .int l1] (hp S) (q_i out) q_n := by
  refine am_of (by decide +kernel) rfl rfl rfl (Nat.le_of_ble_eq_true rfl) ?_
  unfold f_X10_reds at hB
  refine ev_aload_n dX10_reds_0 rfl ?_
  refine ev_iconst 0 dX10_reds_1 (by decide) ?_
  refine es_puti k_10 0 dX10_reds_2 (by decide) rfl (Or.inl w_1525) rfl rfl hl0 rfl ?_
  refine ev_aload_n dX10_reds_5 rfl ?_
  refine ev_iload_n dX10_reds_6 rfl ?_
  refine ev_iconst 0 dX10_reds_7 (by decide) ?_
  refine ev_iconst 1 dX10_reds_8 (by decide) ?_
  obtain ⟨r1, S2, e3, hB⟩ := bd_of hB
  refine es_callVi (As := [.int l1, .int 0, .int 1]) (t_X10_isDays hl0 e3) dX10_reds_9 oX10_isDays w_2026 rfl hl0 rfl rfl (Nat.le_of_ble_eq_true rfl) rfl (am_fit.of (by decide)) ⟨Nat.zero_le _, Nat.zero_le _⟩ ?_
  refine ev_ifne 17 dX10_reds_12 (by decide) (fun q4 => ?_) (fun q4 => ?_)
  · rw [if_neg q4] at hB
    refine ev_aload_n dX10_reds_17 rfl ?_
    refine ev_iload_n dX10_reds_18 rfl ?_
    obtain ⟨S6, e7, hB⟩ := bv_of hB
    refine es_callVv (As := [.int l1]) (t_X10_goesTo hl0 e7) dX10_reds_19 oX10_goesTo w_2030 rfl hl0 rfl rfl (Nat.le_of_ble_eq_true rfl) rfl (am_fit.of (by decide)) ⟨Nat.zero_le _, Nat.zero_le _⟩ ?_
    refine ev_iconst 0 dX10_reds_22 (by decide) ?_
    refine ev_istore_n dX10_reds_23 (by decide) rfl ?_
    refine ev_iconst 0 dX10_reds_24 (by decide) ?_
    refine ev_istore_n dX10_reds_25 (by decide) rfl ?_
    exact ev_ls (u_X10_reds_26 N l0 0 0 S6 hl0 hB) (And.intro rfl (And.intro rfl (And.intro rfl trivial)))
  · rw [if_pos q4] at hB
    refine ev_iconst 0 dX10_reds_15 (by decide) ?_
    obtain rfl := Option.some.inj hB
    exact ev_iret dX10_reds_16 rfl (Nat.zero_le _) (Nat.zero_le _) (fun z => absurd z (hp_sealed _)) ⟨rfl, rfl⟩
def b_X10_quiet_23 (N : Nat)  (S : am_S) : Option (Int32 × am_S) := some (0, S)
def b_X10_quiet_98 (N : Nat) (k37 : Nat → Int32 → Int32 → Int32 → Int32 → Int32 → am_S → Option (Int32 × am_S)) (l0 : Nat) (l1 : Int32) (l2 : Int32) (l4 : Int32) (l5 : Int32) (z0 : Int32) (S : am_S) : Option (Int32 × am_S) := k37 l0 l1 l2 z0 l4 (l5 + 1) S
def b_X10_quiet_84 (N : Nat) (k37 : Nat → Int32 → Int32 → Int32 → Int32 → Int32 → am_S → Option (Int32 × am_S)) (l0 : Nat) (l1 : Int32) (l2 : Int32) (l3 : Int32) (l5 : Int32) (z0 : Int32) (S : am_S) : Option (Int32 × am_S) := (if z0 ≤ l3 then b_X10_quiet_98 N (k37) l0 l1 l2 z0 l5 l3 S else b_X10_quiet_98 N (k37) l0 l1 l2 z0 l5 z0 S)
def b_X10_quiet_37 (N : Nat) : Nat → Nat → Int32 → Int32 → Int32 → Int32 → Int32 → am_S → Option (Int32 × am_S)
  | 0, _, _, _, _, _, _, _ => none
  | n + 1, l0, l1, l2, l3, l4, l5, S => (if l2 ≤ l5 then some (l3, S) else (if inb (144 + l1) (ln (rf l0 46)) = true then (bv (f_X10_dayGoes N l0 80 S) (fun S4 => (if inb (144 + l1) (ln (rf l0 46)) = true then (if (sg S4 (rf l0 46) (Int32.toNatClampNeg (144 + l1))) ≤ (sg S (rf l0 46) (Int32.toNatClampNeg (144 + l1))) then b_X10_quiet_84 N (b_X10_quiet_37 N n) l0 l1 l2 l3 l5 (l4 + 1) S4 else b_X10_quiet_84 N (b_X10_quiet_37 N n) l0 l1 l2 l3 l5 0 S4) else none))) else none))
def f_X10_quiet (N : Nat) (l0 : Nat) (l1 : Int32) (l2 : Int32) (S : am_S) : Option (Int32 × am_S) := (bd (f_X10_isPerson N l0 l1 (sp S l0 0 0)) (fun r1 S2 => (if r1 = 0 then b_X10_quiet_23 N S2 else (bd (f_X10_isDays N l0 l2 1 2 S2) (fun r5 S6 => (if r5 = 0 then b_X10_quiet_23 N S6 else (bv (f_X10_tries N l0 S6) (fun S10 => b_X10_quiet_37 N N l0 l1 l2 0 0 0 S10))))))))
theorem u_X10_quiet_23 {G : am_G} {N : Nat} {h0 : am_H} {out : Int32 × am_S}  (S : am_S) (hB : b_X10_quiet_23 N  S = some out) : Ev G (am_R 6 0 0) (am_Φ G h0 0 0 (q_i out) q_n) mX10_quiet 0 0 23 [none, none, none, none, none, none, none] [] (hp S) := by
  unfold b_X10_quiet_23 at hB
  refine ev_iconst 0 dX10_quiet_23 (by decide) ?_
  obtain rfl := Option.some.inj hB
  exact ev_iret dX10_quiet_24 rfl (Nat.zero_le _) (Nat.zero_le _) (fun z => absurd z (hp_sealed _)) ⟨rfl, rfl⟩
theorem u_X10_quiet_98 {G : am_G} {N : Nat} {h0 : am_H} {out : Int32 × am_S} {k37 : Nat → Int32 → Int32 → Int32 → Int32 → Int32 → am_S → Option (Int32 × am_S)} (hk37 : ∀ (l0 : Nat) (l1 : Int32) (l2 : Int32) (l3 : Int32) (l4 : Int32) (l5 : Int32) (S : am_S), isC 10 l0 = true → k37 l0 l1 l2 l3 l4 l5 S = some out → Ev G (am_R 6 0 0) (am_Φ G h0 0 0 (q_i out) q_n) mX10_quiet 0 0 37 [some (.ref l0), some (.int l1), some (.int l2), some (.int l3), some (.int l4), some (.int l5), none] [] (hp S)) (l0 : Nat) (l1 : Int32) (l2 : Int32) (l4 : Int32) (l5 : Int32) (z0 : Int32) (S : am_S) (hl0 : isC 10 l0 = true) (hB : b_X10_quiet_98 N k37 l0 l1 l2 l4 l5 z0 S = some out) : Ev G (am_R 6 0 0) (am_Φ G h0 0 0 (q_i out) q_n) mX10_quiet 0 0 98 [some (.ref l0), some (.int l1), some (.int l2), none, some (.int l4), some (.int l5), none] [.int z0] (hp S) := by
  unfold b_X10_quiet_98 at hB
  refine ev_istore_n dX10_quiet_98 (by decide) rfl ?_
  refine es_iinc 1 dX10_quiet_99 rfl (by decide) (by decide) rfl ?_
  refine ev_goto 37 dX10_quiet_102 (by decide) ?_
  exact ev_ls (hk37 l0 l1 l2 z0 l4 (l5 + 1) S hl0 hB) (And.intro rfl (And.intro rfl (And.intro rfl (And.intro rfl (And.intro rfl (And.intro rfl trivial))))))
theorem u_X10_quiet_84 {G : am_G} {N : Nat} {h0 : am_H} {out : Int32 × am_S} {k37 : Nat → Int32 → Int32 → Int32 → Int32 → Int32 → am_S → Option (Int32 × am_S)} (hk37 : ∀ (l0 : Nat) (l1 : Int32) (l2 : Int32) (l3 : Int32) (l4 : Int32) (l5 : Int32) (S : am_S), isC 10 l0 = true → k37 l0 l1 l2 l3 l4 l5 S = some out → Ev G (am_R 6 0 0) (am_Φ G h0 0 0 (q_i out) q_n) mX10_quiet 0 0 37 [some (.ref l0), some (.int l1), some (.int l2), some (.int l3), some (.int l4), some (.int l5), none] [] (hp S)) (l0 : Nat) (l1 : Int32) (l2 : Int32) (l3 : Int32) (l5 : Int32) (z0 : Int32) (S : am_S) (hl0 : isC 10 l0 = true) (hB : b_X10_quiet_84 N k37 l0 l1 l2 l3 l5 z0 S = some out) : Ev G (am_R 6 0 0) (am_Φ G h0 0 0 (q_i out) q_n) mX10_quiet 0 0 84 [some (.ref l0), some (.int l1), some (.int l2), some (.int l3), none, some (.int l5), none] [.int z0] (hp S) := by
  unfold b_X10_quiet_84 at hB
  refine ev_istore dX10_quiet_84 (by decide) rfl ?_
  refine ev_iload dX10_quiet_86 rfl ?_
  refine ev_iload_n dX10_quiet_88 rfl ?_
  refine ev_icmple 97 dX10_quiet_89 (by decide) (fun q1 => ?_) (fun q1 => ?_)
  · rw [if_pos q1] at hB
    refine ev_iload_n dX10_quiet_97 rfl ?_
    exact ev_ls (u_X10_quiet_98 hk37 l0 l1 l2 z0 l5 l3 S hl0 hB) (And.intro rfl (And.intro rfl (And.intro rfl (And.intro rfl (And.intro rfl trivial)))))
  · rw [if_neg q1] at hB
    refine ev_iload dX10_quiet_92 rfl ?_
    refine ev_goto 98 dX10_quiet_94 (by decide) ?_
    exact ev_ls (u_X10_quiet_98 hk37 l0 l1 l2 z0 l5 z0 S hl0 hB) (And.intro rfl (And.intro rfl (And.intro rfl (And.intro rfl (And.intro rfl trivial)))))
theorem u_X10_quiet_37 {G : am_G} {N : Nat} {h0 : am_H} {out : Int32 × am_S} : ∀ (n : Nat) (l0 : Nat) (l1 : Int32) (l2 : Int32) (l3 : Int32) (l4 : Int32) (l5 : Int32) (S : am_S), isC 10 l0 = true → b_X10_quiet_37 N n l0 l1 l2 l3 l4 l5 S = some out → Ev G (am_R 6 0 0) (am_Φ G h0 0 0 (q_i out) q_n) mX10_quiet 0 0 37 [some (.ref l0), some (.int l1), some (.int l2), some (.int l3), some (.int l4), some (.int l5), none] [] (hp S) := by
  intro n
  induction n with
  | zero =>
    intro l0 l1 l2 l3 l4 l5 S hl0 hB
    exact absurd (show none = some out from hB) (fun q => by cases q)
  | succ n ih =>
    intro l0 l1 l2 l3 l4 l5 S hl0 hB
    unfold b_X10_quiet_37 at hB
    refine ev_iload dX10_quiet_37 rfl ?_
    refine ev_iload_n dX10_quiet_39 rfl ?_
    refine ev_icmpge 105 dX10_quiet_40 (by decide) (fun q1 => ?_) (fun q1 => ?_)
    · rw [if_pos q1] at hB
      refine ev_iload_n dX10_quiet_105 rfl ?_
      obtain rfl := Option.some.inj hB
      exact ev_iret dX10_quiet_106 rfl (Nat.zero_le _) (Nat.zero_le _) (fun z => absurd z (hp_sealed _)) ⟨rfl, rfl⟩
    · rw [if_neg q1] at hB
      refine ev_aload_n dX10_quiet_43 rfl ?_
      refine es_getr k_10 46 dX10_quiet_44 (by decide) rfl (Or.inl w_1571) hl0 rfl ?_
      refine ev_sipush 144 dX10_quiet_47 (by decide) ?_
      refine ev_iload_n dX10_quiet_50 rfl ?_
      refine ev_iadd dX10_quiet_51 ?_
      obtain ⟨c2, hB⟩ := ck_of hB
      refine es_iald dX10_quiet_52 (tr_10_46 hl0) c2 ?_
      refine ev_istore dX10_quiet_53 (by decide) rfl ?_
      refine ev_aload_n dX10_quiet_55 rfl ?_
      refine ev_bipush 80 dX10_quiet_56 (by decide) ?_
      obtain ⟨S4, e5, hB⟩ := bv_of hB
      refine es_callVv (As := [.int 80]) (t_X10_dayGoes hl0 e5) dX10_quiet_58 oX10_dayGoes w_1961 rfl hl0 rfl rfl (Nat.le_of_ble_eq_true rfl) rfl (am_fit.of (by decide)) ⟨Nat.zero_le _, Nat.zero_le _⟩ ?_
      refine ev_aload_n dX10_quiet_61 rfl ?_
      refine es_getr k_10 46 dX10_quiet_62 (by decide) rfl (Or.inl w_1571) hl0 rfl ?_
      refine ev_sipush 144 dX10_quiet_65 (by decide) ?_
      refine ev_iload_n dX10_quiet_68 rfl ?_
      refine ev_iadd dX10_quiet_69 ?_
      obtain ⟨c6, hB⟩ := ck_of hB
      refine es_iald dX10_quiet_70 (tr_10_46 hl0) c6 ?_
      refine ev_iload dX10_quiet_71 rfl ?_
      refine ev_icmple 80 dX10_quiet_73 (by decide) (fun q7 => ?_) (fun q7 => ?_)
      · rw [if_pos q7] at hB
        refine ev_iload dX10_quiet_80 rfl ?_
        refine ev_iconst 1 dX10_quiet_82 (by decide) ?_
        refine ev_iadd dX10_quiet_83 ?_
        exact ev_ls (u_X10_quiet_84 ih l0 l1 l2 l3 l5 (l4 + 1) S4 hl0 hB) (And.intro rfl (And.intro rfl (And.intro rfl (And.intro rfl (And.intro rfl trivial)))))
      · rw [if_neg q7] at hB
        refine ev_iconst 0 dX10_quiet_76 (by decide) ?_
        refine ev_goto 84 dX10_quiet_77 (by decide) ?_
        exact ev_ls (u_X10_quiet_84 ih l0 l1 l2 l3 l5 0 S4 hl0 hB) (And.intro rfl (And.intro rfl (And.intro rfl (And.intro rfl (And.intro rfl trivial)))))
theorem t_X10_quiet {G : am_G} {N : Nat} {l0 : Nat} {l1 : Int32} {l2 : Int32} {S : am_S} {out : Int32 × am_S} (hl0 : isC 10 l0 = true) (hB : f_X10_quiet N l0 l1 l2 S = some out) : am_Met G 6 mX10_quiet 0 0 [.ref l0, .int l1, .int l2] (hp S) (q_i out) q_n := by
  refine am_of (by decide +kernel) rfl rfl rfl (Nat.le_of_ble_eq_true rfl) ?_
  unfold f_X10_quiet at hB
  refine ev_aload_n dX10_quiet_0 rfl ?_
  refine ev_iconst 0 dX10_quiet_1 (by decide) ?_
  refine es_puti k_10 0 dX10_quiet_2 (by decide) rfl (Or.inl w_1525) rfl rfl hl0 rfl ?_
  refine ev_aload_n dX10_quiet_5 rfl ?_
  refine ev_iload_n dX10_quiet_6 rfl ?_
  obtain ⟨r1, S2, e3, hB⟩ := bd_of hB
  refine es_callVi (As := [.int l1]) (t_X10_isPerson hl0 e3) dX10_quiet_7 oX10_isPerson w_1941 rfl hl0 rfl rfl (Nat.le_of_ble_eq_true rfl) rfl (am_fit.of (by decide)) ⟨Nat.zero_le _, Nat.zero_le _⟩ ?_
  refine ev_ifeq 23 dX10_quiet_10 (by decide) (fun q4 => ?_) (fun q4 => ?_)
  · rw [if_pos q4] at hB
    exact ev_ls (u_X10_quiet_23 S2 hB) trivial
  · rw [if_neg q4] at hB
    refine ev_aload_n dX10_quiet_13 rfl ?_
    refine ev_iload_n dX10_quiet_14 rfl ?_
    refine ev_iconst 1 dX10_quiet_15 (by decide) ?_
    refine ev_iconst 2 dX10_quiet_16 (by decide) ?_
    obtain ⟨r5, S6, e7, hB⟩ := bd_of hB
    refine es_callVi (As := [.int l2, .int 1, .int 2]) (t_X10_isDays hl0 e7) dX10_quiet_17 oX10_isDays w_2026 rfl hl0 rfl rfl (Nat.le_of_ble_eq_true rfl) rfl (am_fit.of (by decide)) ⟨Nat.zero_le _, Nat.zero_le _⟩ ?_
    refine ev_ifne 25 dX10_quiet_20 (by decide) (fun q8 => ?_) (fun q8 => ?_)
    · rw [if_neg q8] at hB
      refine ev_iconst 0 dX10_quiet_25 (by decide) ?_
      refine ev_istore_n dX10_quiet_26 (by decide) rfl ?_
      refine ev_iconst 0 dX10_quiet_27 (by decide) ?_
      refine ev_istore dX10_quiet_28 (by decide) rfl ?_
      refine ev_aload_n dX10_quiet_30 rfl ?_
      obtain ⟨S10, e11, hB⟩ := bv_of hB
      refine es_callVv (As := []) (t_X10_tries hl0 e11) dX10_quiet_31 oX10_tries w_2034 rfl hl0 rfl rfl (Nat.le_of_ble_eq_true rfl) rfl (am_fit.of (by decide)) ⟨Nat.zero_le _, Nat.zero_le _⟩ ?_
      refine ev_iconst 0 dX10_quiet_34 (by decide) ?_
      refine ev_istore dX10_quiet_35 (by decide) rfl ?_
      exact ev_ls (u_X10_quiet_37 N l0 l1 l2 0 0 0 S10 hl0 hB) (And.intro rfl (And.intro rfl (And.intro rfl (And.intro rfl (And.intro rfl (And.intro rfl trivial))))))
    · rw [if_pos q8] at hB
      exact ev_ls (u_X10_quiet_23 S6 hB) trivial
def b_X10_whose_69 (N : Nat) (k19 : Nat → Int32 → Int32 → Int32 → am_S → Option (Int32 × am_S)) (l0 : Nat) (l1 : Int32) (l2 : Int32) (l3 : Int32) (S : am_S) : Option (Int32 × am_S) := k19 l0 l1 l2 (l3 + 1) S
def b_X10_whose_64 (N : Nat) (k19 : Nat → Int32 → Int32 → Int32 → am_S → Option (Int32 × am_S)) (l0 : Nat) (l1 : Int32) (l2 : Int32) (l3 : Int32) (z0 : Int32) (z1 : Int32) (S : am_S) : Option (Int32 × am_S) := (if z0 ≤ z1 then b_X10_whose_69 N (k19) l0 l1 l2 l3 S else b_X10_whose_69 N (k19) l0 l1 l3 l3 S)
def b_X10_whose_19 (N : Nat) : Nat → Nat → Int32 → Int32 → Int32 → am_S → Option (Int32 × am_S)
  | 0, _, _, _, _, _ => none
  | n + 1, l0, l1, l2, l3, S => (if (sg S l0 2) ≤ l3 then some (l2, S) else (if inb ((8 + (8 * l1)) + l3) (ln (rf l0 46)) = true then (if l2 = (-1) then b_X10_whose_64 N (b_X10_whose_19 N n) l0 l1 l2 l3 (sg S (rf l0 46) (Int32.toNatClampNeg ((8 + (8 * l1)) + l3))) 0 S else (if inb ((8 + (8 * l1)) + l2) (ln (rf l0 46)) = true then b_X10_whose_64 N (b_X10_whose_19 N n) l0 l1 l2 l3 (sg S (rf l0 46) (Int32.toNatClampNeg ((8 + (8 * l1)) + l3))) (sg S (rf l0 46) (Int32.toNatClampNeg ((8 + (8 * l1)) + l2))) S else none)) else none))
def f_X10_whose (N : Nat) (l0 : Nat) (l1 : Int32) (S : am_S) : Option (Int32 × am_S) := (bd (f_X10_isBox N l0 l1 (sp S l0 0 0)) (fun r1 S2 => (if r1 = 0 then some (0, S2) else b_X10_whose_19 N N l0 l1 (-1) 0 S2)))
theorem u_X10_whose_69 {G : am_G} {N : Nat} {h0 : am_H} {out : Int32 × am_S} {k19 : Nat → Int32 → Int32 → Int32 → am_S → Option (Int32 × am_S)} (hk19 : ∀ (l0 : Nat) (l1 : Int32) (l2 : Int32) (l3 : Int32) (S : am_S), isC 10 l0 = true → k19 l0 l1 l2 l3 S = some out → Ev G (am_R 3 0 0) (am_Φ G h0 0 0 (q_i out) q_n) mX10_whose 0 0 19 [some (.ref l0), some (.int l1), some (.int l2), some (.int l3)] [] (hp S)) (l0 : Nat) (l1 : Int32) (l2 : Int32) (l3 : Int32) (S : am_S) (hl0 : isC 10 l0 = true) (hB : b_X10_whose_69 N k19 l0 l1 l2 l3 S = some out) : Ev G (am_R 3 0 0) (am_Φ G h0 0 0 (q_i out) q_n) mX10_whose 0 0 69 [some (.ref l0), some (.int l1), some (.int l2), some (.int l3)] [] (hp S) := by
  unfold b_X10_whose_69 at hB
  refine es_iinc 1 dX10_whose_69 rfl (by decide) (by decide) rfl ?_
  refine ev_goto 19 dX10_whose_72 (by decide) ?_
  exact ev_ls (hk19 l0 l1 l2 (l3 + 1) S hl0 hB) (And.intro rfl (And.intro rfl (And.intro rfl (And.intro rfl trivial))))
theorem u_X10_whose_64 {G : am_G} {N : Nat} {h0 : am_H} {out : Int32 × am_S} {k19 : Nat → Int32 → Int32 → Int32 → am_S → Option (Int32 × am_S)} (hk19 : ∀ (l0 : Nat) (l1 : Int32) (l2 : Int32) (l3 : Int32) (S : am_S), isC 10 l0 = true → k19 l0 l1 l2 l3 S = some out → Ev G (am_R 3 0 0) (am_Φ G h0 0 0 (q_i out) q_n) mX10_whose 0 0 19 [some (.ref l0), some (.int l1), some (.int l2), some (.int l3)] [] (hp S)) (l0 : Nat) (l1 : Int32) (l2 : Int32) (l3 : Int32) (z0 : Int32) (z1 : Int32) (S : am_S) (hl0 : isC 10 l0 = true) (hB : b_X10_whose_64 N k19 l0 l1 l2 l3 z0 z1 S = some out) : Ev G (am_R 3 0 0) (am_Φ G h0 0 0 (q_i out) q_n) mX10_whose 0 0 64 [some (.ref l0), some (.int l1), some (.int l2), some (.int l3)] [.int z1, .int z0] (hp S) := by
  unfold b_X10_whose_64 at hB
  refine ev_icmple 69 dX10_whose_64 (by decide) (fun q1 => ?_) (fun q1 => ?_)
  · rw [if_pos q1] at hB
    exact ev_ls (u_X10_whose_69 hk19 l0 l1 l2 l3 S hl0 hB) (And.intro rfl (And.intro rfl (And.intro rfl (And.intro rfl trivial))))
  · rw [if_neg q1] at hB
    refine ev_iload_n dX10_whose_67 rfl ?_
    refine ev_istore_n dX10_whose_68 (by decide) rfl ?_
    exact ev_ls (u_X10_whose_69 hk19 l0 l1 l3 l3 S hl0 hB) (And.intro rfl (And.intro rfl (And.intro rfl (And.intro rfl trivial))))
theorem u_X10_whose_19 {G : am_G} {N : Nat} {h0 : am_H} {out : Int32 × am_S} : ∀ (n : Nat) (l0 : Nat) (l1 : Int32) (l2 : Int32) (l3 : Int32) (S : am_S), isC 10 l0 = true → b_X10_whose_19 N n l0 l1 l2 l3 S = some out → Ev G (am_R 3 0 0) (am_Φ G h0 0 0 (q_i out) q_n) mX10_whose 0 0 19 [some (.ref l0), some (.int l1), some (.int l2), some (.int l3)] [] (hp S) := by
  intro n
  induction n with
  | zero =>
    intro l0 l1 l2 l3 S hl0 hB
    exact absurd (show none = some out from hB) (fun q => by cases q)
  | succ n ih =>
    intro l0 l1 l2 l3 S hl0 hB
    unfold b_X10_whose_19 at hB
    refine ev_iload_n dX10_whose_19 rfl ?_
    refine ev_aload_n dX10_whose_20 rfl ?_
    refine es_geti k_10 2 dX10_whose_21 (by decide) rfl (Or.inl w_1527) hl0 rfl ?_
    refine ev_icmpge 75 dX10_whose_24 (by decide) (fun q1 => ?_) (fun q1 => ?_)
    · rw [if_pos q1] at hB
      refine ev_iload_n dX10_whose_75 rfl ?_
      obtain rfl := Option.some.inj hB
      exact ev_iret dX10_whose_76 rfl (Nat.zero_le _) (Nat.zero_le _) (fun z => absurd z (hp_sealed _)) ⟨rfl, rfl⟩
    · rw [if_neg q1] at hB
      refine ev_aload_n dX10_whose_27 rfl ?_
      refine es_getr k_10 46 dX10_whose_28 (by decide) rfl (Or.inl w_1571) hl0 rfl ?_
      refine ev_bipush 8 dX10_whose_31 (by decide) ?_
      refine ev_bipush 8 dX10_whose_33 (by decide) ?_
      refine ev_iload_n dX10_whose_35 rfl ?_
      refine ev_imul dX10_whose_36 ?_
      refine ev_iadd dX10_whose_37 ?_
      refine ev_iload_n dX10_whose_38 rfl ?_
      refine ev_iadd dX10_whose_39 ?_
      obtain ⟨c2, hB⟩ := ck_of hB
      refine es_iald dX10_whose_40 (tr_10_46 hl0) c2 ?_
      refine ev_iload_n dX10_whose_41 rfl ?_
      refine ev_iconst (-1) dX10_whose_42 (by decide) ?_
      refine ev_icmpne 50 dX10_whose_43 (by decide) (fun q3 => ?_) (fun q3 => ?_)
      · rw [if_neg q3] at hB
        refine ev_aload_n dX10_whose_50 rfl ?_
        refine es_getr k_10 46 dX10_whose_51 (by decide) rfl (Or.inl w_1571) hl0 rfl ?_
        refine ev_bipush 8 dX10_whose_54 (by decide) ?_
        refine ev_bipush 8 dX10_whose_56 (by decide) ?_
        refine ev_iload_n dX10_whose_58 rfl ?_
        refine ev_imul dX10_whose_59 ?_
        refine ev_iadd dX10_whose_60 ?_
        refine ev_iload_n dX10_whose_61 rfl ?_
        refine ev_iadd dX10_whose_62 ?_
        obtain ⟨c4, hB⟩ := ck_of hB
        refine es_iald dX10_whose_63 (tr_10_46 hl0) c4 ?_
        exact ev_ls (u_X10_whose_64 ih l0 l1 l2 l3 (sg S (rf l0 46) (Int32.toNatClampNeg ((8 + (8 * l1)) + l3))) (sg S (rf l0 46) (Int32.toNatClampNeg ((8 + (8 * l1)) + l2))) S hl0 hB) (And.intro rfl (And.intro rfl (And.intro rfl (And.intro rfl trivial))))
      · rw [if_pos q3] at hB
        refine ev_iconst 0 dX10_whose_46 (by decide) ?_
        refine ev_goto 64 dX10_whose_47 (by decide) ?_
        exact ev_ls (u_X10_whose_64 ih l0 l1 l2 l3 (sg S (rf l0 46) (Int32.toNatClampNeg ((8 + (8 * l1)) + l3))) 0 S hl0 hB) (And.intro rfl (And.intro rfl (And.intro rfl (And.intro rfl trivial))))
theorem t_X10_whose {G : am_G} {N : Nat} {l0 : Nat} {l1 : Int32} {S : am_S} {out : Int32 × am_S} (hl0 : isC 10 l0 = true) (hB : f_X10_whose N l0 l1 S = some out) : am_Met G 3 mX10_whose 0 0 [.ref l0, .int l1] (hp S) (q_i out) q_n := by
  refine am_of (by decide +kernel) rfl rfl rfl (Nat.le_of_ble_eq_true rfl) ?_
  unfold f_X10_whose at hB
  refine ev_aload_n dX10_whose_0 rfl ?_
  refine ev_iconst 0 dX10_whose_1 (by decide) ?_
  refine es_puti k_10 0 dX10_whose_2 (by decide) rfl (Or.inl w_1525) rfl rfl hl0 rfl ?_
  refine ev_aload_n dX10_whose_5 rfl ?_
  refine ev_iload_n dX10_whose_6 rfl ?_
  obtain ⟨r1, S2, e3, hB⟩ := bd_of hB
  refine es_callVi (As := [.int l1]) (t_X10_isBox hl0 e3) dX10_whose_7 oX10_isBox w_1914 rfl hl0 rfl rfl (Nat.le_of_ble_eq_true rfl) rfl (am_fit.of (by decide)) ⟨Nat.zero_le _, Nat.zero_le _⟩ ?_
  refine ev_ifne 15 dX10_whose_10 (by decide) (fun q4 => ?_) (fun q4 => ?_)
  · rw [if_neg q4] at hB
    refine ev_iconst (-1) dX10_whose_15 (by decide) ?_
    refine ev_istore_n dX10_whose_16 (by decide) rfl ?_
    refine ev_iconst 0 dX10_whose_17 (by decide) ?_
    refine ev_istore_n dX10_whose_18 (by decide) rfl ?_
    exact ev_ls (u_X10_whose_19 N l0 l1 (-1) 0 S2 hl0 hB) (And.intro rfl (And.intro rfl (And.intro rfl (And.intro rfl trivial))))
  · rw [if_pos q4] at hB
    refine ev_iconst 0 dX10_whose_13 (by decide) ?_
    obtain rfl := Option.some.inj hB
    exact ev_iret dX10_whose_14 rfl (Nat.zero_le _) (Nat.zero_le _) (fun z => absurd z (hp_sealed _)) ⟨rfl, rfl⟩
def b_X10_goesOnFrom_44 (N : Nat) (l2 : Int32) (S : am_S) : Option (Int32 × am_S) := some (l2, S)
def b_X10_goesOnFrom_12 (N : Nat) : Nat → Nat → Int32 → Int32 → am_S → Option (Int32 × am_S)
  | 0, _, _, _, _ => none
  | n + 1, l0, l2, l3, S => (if l3 = (-1) then b_X10_goesOnFrom_44 N l2 S else (if ((l2 >>> (l3 &&& (31 : Int32))) &&& 1) = 0 then (if inb (72 + l3) (ln (rf l0 46)) = true then b_X10_goesOnFrom_12 N n l0 (l2 ||| ((1 : Int32) <<< (l3 &&& (31 : Int32)))) (sg S (rf l0 46) (Int32.toNatClampNeg (72 + l3))) S else none) else b_X10_goesOnFrom_44 N l2 S))
def f_X10_goesOnFrom (N : Nat) (l0 : Nat) (l1 : Int32) (S : am_S) : Option (Int32 × am_S) := (if inb (72 + l1) (ln (rf l0 46)) = true then b_X10_goesOnFrom_12 N N l0 0 (sg S (rf l0 46) (Int32.toNatClampNeg (72 + l1))) S else none)
theorem u_X10_goesOnFrom_44 {G : am_G} {N : Nat} {h0 : am_H} {out : Int32 × am_S} (l2 : Int32) (S : am_S) (hB : b_X10_goesOnFrom_44 N l2 S = some out) : Ev G (am_R 1 0 0) (am_Φ G h0 0 0 (q_i out) q_n) mX10_goesOnFrom 0 0 44 [none, none, some (.int l2), none] [] (hp S) := by
  unfold b_X10_goesOnFrom_44 at hB
  refine ev_iload_n dX10_goesOnFrom_44 rfl ?_
  obtain rfl := Option.some.inj hB
  exact ev_iret dX10_goesOnFrom_45 rfl (Nat.zero_le _) (Nat.zero_le _) (fun z => absurd z (hp_sealed _)) ⟨rfl, rfl⟩
theorem u_X10_goesOnFrom_12 {G : am_G} {N : Nat} {h0 : am_H} {out : Int32 × am_S} : ∀ (n : Nat) (l0 : Nat) (l2 : Int32) (l3 : Int32) (S : am_S), isC 10 l0 = true → b_X10_goesOnFrom_12 N n l0 l2 l3 S = some out → Ev G (am_R 1 0 0) (am_Φ G h0 0 0 (q_i out) q_n) mX10_goesOnFrom 0 0 12 [some (.ref l0), none, some (.int l2), some (.int l3)] [] (hp S) := by
  intro n
  induction n with
  | zero =>
    intro l0 l2 l3 S hl0 hB
    exact absurd (show none = some out from hB) (fun q => by cases q)
  | succ n ih =>
    intro l0 l2 l3 S hl0 hB
    unfold b_X10_goesOnFrom_12 at hB
    refine ev_iload_n dX10_goesOnFrom_12 rfl ?_
    refine ev_iconst (-1) dX10_goesOnFrom_13 (by decide) ?_
    refine ev_icmpeq 44 dX10_goesOnFrom_14 (by decide) (fun q1 => ?_) (fun q1 => ?_)
    · rw [if_pos q1] at hB
      exact ev_ls (u_X10_goesOnFrom_44 l2 S hB) (And.intro rfl trivial)
    · rw [if_neg q1] at hB
      refine ev_iload_n dX10_goesOnFrom_17 rfl ?_
      refine ev_iload_n dX10_goesOnFrom_18 rfl ?_
      refine ev_ishr dX10_goesOnFrom_19 ?_
      refine ev_iconst 1 dX10_goesOnFrom_20 (by decide) ?_
      refine ev_iand dX10_goesOnFrom_21 ?_
      refine ev_ifne 44 dX10_goesOnFrom_22 (by decide) (fun q2 => ?_) (fun q2 => ?_)
      · rw [if_neg q2] at hB
        exact ev_ls (u_X10_goesOnFrom_44 l2 S hB) (And.intro rfl trivial)
      · rw [if_pos q2] at hB
        refine ev_iload_n dX10_goesOnFrom_25 rfl ?_
        refine ev_iconst 1 dX10_goesOnFrom_26 (by decide) ?_
        refine ev_iload_n dX10_goesOnFrom_27 rfl ?_
        refine ev_ishl dX10_goesOnFrom_28 ?_
        refine ev_ior dX10_goesOnFrom_29 ?_
        refine ev_istore_n dX10_goesOnFrom_30 (by decide) rfl ?_
        refine ev_aload_n dX10_goesOnFrom_31 rfl ?_
        refine es_getr k_10 46 dX10_goesOnFrom_32 (by decide) rfl (Or.inl w_1571) hl0 rfl ?_
        refine ev_bipush 72 dX10_goesOnFrom_35 (by decide) ?_
        refine ev_iload_n dX10_goesOnFrom_37 rfl ?_
        refine ev_iadd dX10_goesOnFrom_38 ?_
        obtain ⟨c3, hB⟩ := ck_of hB
        refine es_iald dX10_goesOnFrom_39 (tr_10_46 hl0) c3 ?_
        refine ev_istore_n dX10_goesOnFrom_40 (by decide) rfl ?_
        refine ev_goto 12 dX10_goesOnFrom_41 (by decide) ?_
        exact ev_ls (ih l0 (l2 ||| ((1 : Int32) <<< (l3 &&& (31 : Int32)))) (sg S (rf l0 46) (Int32.toNatClampNeg (72 + l3))) S hl0 hB) (And.intro rfl (And.intro rfl (And.intro rfl trivial)))
theorem t_X10_goesOnFrom {G : am_G} {N : Nat} {l0 : Nat} {l1 : Int32} {S : am_S} {out : Int32 × am_S} (hl0 : isC 10 l0 = true) (hB : f_X10_goesOnFrom N l0 l1 S = some out) : am_Met G 1 mX10_goesOnFrom 0 0 [.ref l0, .int l1] (hp S) (q_i out) q_n := by
  refine am_of (by decide +kernel) rfl rfl rfl (Nat.le_of_ble_eq_true rfl) ?_
  unfold f_X10_goesOnFrom at hB
  refine ev_iconst 0 dX10_goesOnFrom_0 (by decide) ?_
  refine ev_istore_n dX10_goesOnFrom_1 (by decide) rfl ?_
  refine ev_aload_n dX10_goesOnFrom_2 rfl ?_
  refine es_getr k_10 46 dX10_goesOnFrom_3 (by decide) rfl (Or.inl w_1571) hl0 rfl ?_
  refine ev_bipush 72 dX10_goesOnFrom_6 (by decide) ?_
  refine ev_iload_n dX10_goesOnFrom_8 rfl ?_
  refine ev_iadd dX10_goesOnFrom_9 ?_
  obtain ⟨c1, hB⟩ := ck_of hB
  refine es_iald dX10_goesOnFrom_10 (tr_10_46 hl0) c1 ?_
  refine ev_istore_n dX10_goesOnFrom_11 (by decide) rfl ?_
  exact ev_ls (u_X10_goesOnFrom_12 N l0 0 (sg S (rf l0 46) (Int32.toNatClampNeg (72 + l1))) S hl0 hB) (And.intro rfl (And.intro rfl (And.intro rfl trivial)))
def b_X10_ring_35 (N : Nat) (z0 : Int32) (S : am_S) : Option (Int32 × am_S) := some (z0, S)
def f_X10_ring (N : Nat) (l0 : Nat) (l1 : Int32) (S : am_S) : Option (Int32 × am_S) := (bd (f_X10_isPerson N l0 l1 (sp S l0 0 0)) (fun r1 S2 => (if r1 = 0 then some (0, S2) else (bd (f_X10_goesOnFrom N l0 l1 S2) (fun r5 S6 => (if ((r5 >>> (l1 &&& (31 : Int32))) &&& 1) = 1 then b_X10_ring_35 N r5 S6 else b_X10_ring_35 N 0 S6))))))
theorem u_X10_ring_35 {G : am_G} {N : Nat} {h0 : am_H} {out : Int32 × am_S} (z0 : Int32) (S : am_S) (hB : b_X10_ring_35 N z0 S = some out) : Ev G (am_R 3 0 0) (am_Φ G h0 0 0 (q_i out) q_n) mX10_ring 0 0 35 [none, none, none] [.int z0] (hp S) := by
  unfold b_X10_ring_35 at hB
  obtain rfl := Option.some.inj hB
  exact ev_iret dX10_ring_35 rfl (Nat.zero_le _) (Nat.zero_le _) (fun z => absurd z (hp_sealed _)) ⟨rfl, rfl⟩
theorem t_X10_ring {G : am_G} {N : Nat} {l0 : Nat} {l1 : Int32} {S : am_S} {out : Int32 × am_S} (hl0 : isC 10 l0 = true) (hB : f_X10_ring N l0 l1 S = some out) : am_Met G 3 mX10_ring 0 0 [.ref l0, .int l1] (hp S) (q_i out) q_n := by
  refine am_of (by decide +kernel) rfl rfl rfl (Nat.le_of_ble_eq_true rfl) ?_
  unfold f_X10_ring at hB
  refine ev_aload_n dX10_ring_0 rfl ?_
  refine ev_iconst 0 dX10_ring_1 (by decide) ?_
  refine es_puti k_10 0 dX10_ring_2 (by decide) rfl (Or.inl w_1525) rfl rfl hl0 rfl ?_
  refine ev_aload_n dX10_ring_5 rfl ?_
  refine ev_iload_n dX10_ring_6 rfl ?_
  obtain ⟨r1, S2, e3, hB⟩ := bd_of hB
  refine es_callVi (As := [.int l1]) (t_X10_isPerson hl0 e3) dX10_ring_7 oX10_isPerson w_1941 rfl hl0 rfl rfl (Nat.le_of_ble_eq_true rfl) rfl (am_fit.of (by decide)) ⟨Nat.zero_le _, Nat.zero_le _⟩ ?_
  refine ev_ifne 15 dX10_ring_10 (by decide) (fun q4 => ?_) (fun q4 => ?_)
  · rw [if_neg q4] at hB
    refine ev_aload_n dX10_ring_15 rfl ?_
    refine ev_iload_n dX10_ring_16 rfl ?_
    obtain ⟨r5, S6, e7, hB⟩ := bd_of hB
    refine es_callVi (As := [.int l1]) (t_X10_goesOnFrom hl0 e7) dX10_ring_17 oX10_goesOnFrom w_2094 rfl hl0 rfl rfl (Nat.le_of_ble_eq_true rfl) rfl (am_fit.of (by decide)) ⟨Nat.zero_le _, Nat.zero_le _⟩ ?_
    refine ev_istore_n dX10_ring_20 (by decide) rfl ?_
    refine ev_iload_n dX10_ring_21 rfl ?_
    refine ev_iload_n dX10_ring_22 rfl ?_
    refine ev_ishr dX10_ring_23 ?_
    refine ev_iconst 1 dX10_ring_24 (by decide) ?_
    refine ev_iand dX10_ring_25 ?_
    refine ev_iconst 1 dX10_ring_26 (by decide) ?_
    refine ev_icmpne 34 dX10_ring_27 (by decide) (fun q8 => ?_) (fun q8 => ?_)
    · rw [if_neg q8] at hB
      refine ev_iconst 0 dX10_ring_34 (by decide) ?_
      exact ev_ls (u_X10_ring_35 0 S6 hB) trivial
    · rw [if_pos q8] at hB
      refine ev_iload_n dX10_ring_30 rfl ?_
      refine ev_goto 35 dX10_ring_31 (by decide) ?_
      exact ev_ls (u_X10_ring_35 r5 S6 hB) trivial
  · rw [if_pos q4] at hB
    refine ev_iconst 0 dX10_ring_13 (by decide) ?_
    obtain rfl := Option.some.inj hB
    exact ev_iret dX10_ring_14 rfl (Nat.zero_le _) (Nat.zero_le _) (fun z => absurd z (hp_sealed _)) ⟨rfl, rfl⟩
def b_X10_comesTo_22 (N : Nat) (z0 : Int32) (S : am_S) : Option (Int32 × am_S) := some (z0, S)
def f_X10_comesTo (N : Nat) (l0 : Nat) (l1 : Int32) (S : am_S) : Option (Int32 × am_S) := (bd (f_X10_isPerson N l0 l1 (sp S l0 0 0)) (fun r1 S2 => (if r1 = 0 then b_X10_comesTo_22 N 0 S2 else (bd (f_X10_goesOnFrom N l0 l1 S2) (fun r5 S6 => b_X10_comesTo_22 N r5 S6)))))
theorem u_X10_comesTo_22 {G : am_G} {N : Nat} {h0 : am_H} {out : Int32 × am_S} (z0 : Int32) (S : am_S) (hB : b_X10_comesTo_22 N z0 S = some out) : Ev G (am_R 3 0 0) (am_Φ G h0 0 0 (q_i out) q_n) mX10_comesTo 0 0 22 [none, none] [.int z0] (hp S) := by
  unfold b_X10_comesTo_22 at hB
  obtain rfl := Option.some.inj hB
  exact ev_iret dX10_comesTo_22 rfl (Nat.zero_le _) (Nat.zero_le _) (fun z => absurd z (hp_sealed _)) ⟨rfl, rfl⟩
theorem t_X10_comesTo {G : am_G} {N : Nat} {l0 : Nat} {l1 : Int32} {S : am_S} {out : Int32 × am_S} (hl0 : isC 10 l0 = true) (hB : f_X10_comesTo N l0 l1 S = some out) : am_Met G 3 mX10_comesTo 0 0 [.ref l0, .int l1] (hp S) (q_i out) q_n := by
  refine am_of (by decide +kernel) rfl rfl rfl (Nat.le_of_ble_eq_true rfl) ?_
  unfold f_X10_comesTo at hB
  refine ev_aload_n dX10_comesTo_0 rfl ?_
  refine ev_iconst 0 dX10_comesTo_1 (by decide) ?_
  refine es_puti k_10 0 dX10_comesTo_2 (by decide) rfl (Or.inl w_1525) rfl rfl hl0 rfl ?_
  refine ev_aload_n dX10_comesTo_5 rfl ?_
  refine ev_iload_n dX10_comesTo_6 rfl ?_
  obtain ⟨r1, S2, e3, hB⟩ := bd_of hB
  refine es_callVi (As := [.int l1]) (t_X10_isPerson hl0 e3) dX10_comesTo_7 oX10_isPerson w_1941 rfl hl0 rfl rfl (Nat.le_of_ble_eq_true rfl) rfl (am_fit.of (by decide)) ⟨Nat.zero_le _, Nat.zero_le _⟩ ?_
  refine ev_ifeq 21 dX10_comesTo_10 (by decide) (fun q4 => ?_) (fun q4 => ?_)
  · rw [if_pos q4] at hB
    refine ev_iconst 0 dX10_comesTo_21 (by decide) ?_
    exact ev_ls (u_X10_comesTo_22 0 S2 hB) trivial
  · rw [if_neg q4] at hB
    refine ev_aload_n dX10_comesTo_13 rfl ?_
    refine ev_iload_n dX10_comesTo_14 rfl ?_
    obtain ⟨r5, S6, e7, hB⟩ := bd_of hB
    refine es_callVi (As := [.int l1]) (t_X10_goesOnFrom hl0 e7) dX10_comesTo_15 oX10_goesOnFrom w_2094 rfl hl0 rfl rfl (Nat.le_of_ble_eq_true rfl) rfl (am_fit.of (by decide)) ⟨Nat.zero_le _, Nat.zero_le _⟩ ?_
    refine ev_goto 22 dX10_comesTo_18 (by decide) ?_
    exact ev_ls (u_X10_comesTo_22 r5 S6 hB) trivial
def b_X10_steps_21 (N : Nat)  (S : am_S) : Option (Int32 × am_S) := some (0, S)
def b_X10_steps_28 (N : Nat) : Nat → Nat → Int32 → Int32 → Int32 → am_S → Option (Int32 × am_S)
  | 0, _, _, _, _, _ => none
  | n + 1, l0, l2, l3, l4, S => (if (sg S l0 2) ≤ l4 then some ((-1), S) else (if l3 = l2 then some (l4, S) else (if inb (72 + l3) (ln (rf l0 46)) = true then (if (sg S (rf l0 46) (Int32.toNatClampNeg (72 + l3))) = (-1) then some ((-1), S) else b_X10_steps_28 N n l0 l2 (sg S (rf l0 46) (Int32.toNatClampNeg (72 + l3))) (l4 + 1) S) else none)))
def f_X10_steps (N : Nat) (l0 : Nat) (l1 : Int32) (l2 : Int32) (S : am_S) : Option (Int32 × am_S) := (bd (f_X10_isPerson N l0 l1 (sp S l0 0 0)) (fun r1 S2 => (if r1 = 0 then b_X10_steps_21 N S2 else (bd (f_X10_isPerson N l0 l2 S2) (fun r5 S6 => (if r5 = 0 then b_X10_steps_21 N S6 else b_X10_steps_28 N N l0 l2 l1 0 S6))))))
theorem u_X10_steps_21 {G : am_G} {N : Nat} {h0 : am_H} {out : Int32 × am_S}  (S : am_S) (hB : b_X10_steps_21 N  S = some out) : Ev G (am_R 3 0 0) (am_Φ G h0 0 0 (q_i out) q_n) mX10_steps 0 0 21 [none, none, none, none, none] [] (hp S) := by
  unfold b_X10_steps_21 at hB
  refine ev_iconst 0 dX10_steps_21 (by decide) ?_
  obtain rfl := Option.some.inj hB
  exact ev_iret dX10_steps_22 rfl (Nat.zero_le _) (Nat.zero_le _) (fun z => absurd z (hp_sealed _)) ⟨rfl, rfl⟩
theorem u_X10_steps_28 {G : am_G} {N : Nat} {h0 : am_H} {out : Int32 × am_S} : ∀ (n : Nat) (l0 : Nat) (l2 : Int32) (l3 : Int32) (l4 : Int32) (S : am_S), isC 10 l0 = true → b_X10_steps_28 N n l0 l2 l3 l4 S = some out → Ev G (am_R 3 0 0) (am_Φ G h0 0 0 (q_i out) q_n) mX10_steps 0 0 28 [some (.ref l0), none, some (.int l2), some (.int l3), some (.int l4)] [] (hp S) := by
  intro n
  induction n with
  | zero =>
    intro l0 l2 l3 l4 S hl0 hB
    exact absurd (show none = some out from hB) (fun q => by cases q)
  | succ n ih =>
    intro l0 l2 l3 l4 S hl0 hB
    unfold b_X10_steps_28 at hB
    refine ev_iload dX10_steps_28 rfl ?_
    refine ev_aload_n dX10_steps_30 rfl ?_
    refine es_geti k_10 2 dX10_steps_31 (by decide) rfl (Or.inl w_1527) hl0 rfl ?_
    refine ev_icmpge 68 dX10_steps_34 (by decide) (fun q1 => ?_) (fun q1 => ?_)
    · rw [if_pos q1] at hB
      refine ev_iconst (-1) dX10_steps_68 (by decide) ?_
      obtain rfl := Option.some.inj hB
      exact ev_iret dX10_steps_69 rfl (Nat.zero_le _) (Nat.zero_le _) (fun z => absurd z (hp_sealed _)) ⟨rfl, rfl⟩
    · rw [if_neg q1] at hB
      refine ev_iload_n dX10_steps_37 rfl ?_
      refine ev_iload_n dX10_steps_38 rfl ?_
      refine ev_icmpne 45 dX10_steps_39 (by decide) (fun q2 => ?_) (fun q2 => ?_)
      · rw [if_neg q2] at hB
        refine ev_aload_n dX10_steps_45 rfl ?_
        refine es_getr k_10 46 dX10_steps_46 (by decide) rfl (Or.inl w_1571) hl0 rfl ?_
        refine ev_bipush 72 dX10_steps_49 (by decide) ?_
        refine ev_iload_n dX10_steps_51 rfl ?_
        refine ev_iadd dX10_steps_52 ?_
        obtain ⟨c3, hB⟩ := ck_of hB
        refine es_iald dX10_steps_53 (tr_10_46 hl0) c3 ?_
        refine ev_istore_n dX10_steps_54 (by decide) rfl ?_
        refine ev_iload_n dX10_steps_55 rfl ?_
        refine ev_iconst (-1) dX10_steps_56 (by decide) ?_
        refine ev_icmpne 62 dX10_steps_57 (by decide) (fun q4 => ?_) (fun q4 => ?_)
        · rw [if_neg q4] at hB
          refine es_iinc 1 dX10_steps_62 rfl (by decide) (by decide) rfl ?_
          refine ev_goto 28 dX10_steps_65 (by decide) ?_
          exact ev_ls (ih l0 l2 (sg S (rf l0 46) (Int32.toNatClampNeg (72 + l3))) (l4 + 1) S hl0 hB) (And.intro rfl (And.intro rfl (And.intro rfl (And.intro rfl trivial))))
        · rw [if_pos q4] at hB
          refine ev_iconst (-1) dX10_steps_60 (by decide) ?_
          obtain rfl := Option.some.inj hB
          exact ev_iret dX10_steps_61 rfl (Nat.zero_le _) (Nat.zero_le _) (fun z => absurd z (hp_sealed _)) ⟨rfl, rfl⟩
      · rw [if_pos q2] at hB
        refine ev_iload dX10_steps_42 rfl ?_
        obtain rfl := Option.some.inj hB
        exact ev_iret dX10_steps_44 rfl (Nat.zero_le _) (Nat.zero_le _) (fun z => absurd z (hp_sealed _)) ⟨rfl, rfl⟩
theorem t_X10_steps {G : am_G} {N : Nat} {l0 : Nat} {l1 : Int32} {l2 : Int32} {S : am_S} {out : Int32 × am_S} (hl0 : isC 10 l0 = true) (hB : f_X10_steps N l0 l1 l2 S = some out) : am_Met G 3 mX10_steps 0 0 [.ref l0, .int l1, .int l2] (hp S) (q_i out) q_n := by
  refine am_of (by decide +kernel) rfl rfl rfl (Nat.le_of_ble_eq_true rfl) ?_
  unfold f_X10_steps at hB
  refine ev_aload_n dX10_steps_0 rfl ?_
  refine ev_iconst 0 dX10_steps_1 (by decide) ?_
  refine es_puti k_10 0 dX10_steps_2 (by decide) rfl (Or.inl w_1525) rfl rfl hl0 rfl ?_
  refine ev_aload_n dX10_steps_5 rfl ?_
  refine ev_iload_n dX10_steps_6 rfl ?_
  obtain ⟨r1, S2, e3, hB⟩ := bd_of hB
  refine es_callVi (As := [.int l1]) (t_X10_isPerson hl0 e3) dX10_steps_7 oX10_isPerson w_1941 rfl hl0 rfl rfl (Nat.le_of_ble_eq_true rfl) rfl (am_fit.of (by decide)) ⟨Nat.zero_le _, Nat.zero_le _⟩ ?_
  refine ev_ifeq 21 dX10_steps_10 (by decide) (fun q4 => ?_) (fun q4 => ?_)
  · rw [if_pos q4] at hB
    exact ev_ls (u_X10_steps_21 S2 hB) trivial
  · rw [if_neg q4] at hB
    refine ev_aload_n dX10_steps_13 rfl ?_
    refine ev_iload_n dX10_steps_14 rfl ?_
    obtain ⟨r5, S6, e7, hB⟩ := bd_of hB
    refine es_callVi (As := [.int l2]) (t_X10_isPerson hl0 e7) dX10_steps_15 oX10_isPerson w_1941 rfl hl0 rfl rfl (Nat.le_of_ble_eq_true rfl) rfl (am_fit.of (by decide)) ⟨Nat.zero_le _, Nat.zero_le _⟩ ?_
    refine ev_ifne 23 dX10_steps_18 (by decide) (fun q8 => ?_) (fun q8 => ?_)
    · rw [if_neg q8] at hB
      refine ev_iload_n dX10_steps_23 rfl ?_
      refine ev_istore_n dX10_steps_24 (by decide) rfl ?_
      refine ev_iconst 0 dX10_steps_25 (by decide) ?_
      refine ev_istore dX10_steps_26 (by decide) rfl ?_
      exact ev_ls (u_X10_steps_28 N l0 l2 l1 0 S6 hl0 hB) (And.intro rfl (And.intro rfl (And.intro rfl (And.intro rfl trivial))))
    · rw [if_pos q8] at hB
      exact ev_ls (u_X10_steps_21 S6 hB) trivial
def b_X10_bestAt_23 (N : Nat)  (S : am_S) : Option (Int32 × am_S) := some (0, S)
def b_X10_bestAt_107 (N : Nat) (k33 : Nat → Int32 → Int32 → Int32 → Int32 → Int32 → am_S → Option (Int32 × am_S)) (l0 : Nat) (l1 : Int32) (l2 : Int32) (l3 : Int32) (l4 : Int32) (l5 : Int32) (S : am_S) : Option (Int32 × am_S) := k33 l0 l1 l2 l3 l4 (l5 + 1) S
def b_X10_bestAt_33 (N : Nat) : Nat → Nat → Int32 → Int32 → Int32 → Int32 → Int32 → am_S → Option (Int32 × am_S)
  | 0, _, _, _, _, _, _, _ => none
  | n + 1, l0, l1, l2, l3, l4, l5, S => (if (sg S l0 2) ≤ l5 then some (l3, S) else (if l5 = l1 then b_X10_bestAt_107 N (b_X10_bestAt_33 N n) l0 l1 l2 l3 l4 l5 S else (bv (f_X10_tries N l0 S) (fun S4 => (if inb (152 + l1) (ln (rf l0 46)) = true then (bv (f_X10_daysGo N l0 l2 (sp S4 (rf l0 46) (Int32.toNatClampNeg (152 + l1)) l5)) (fun S8 => (if inb (144 + l5) (ln (rf l0 46)) = true then (if l4 < (sg S8 (rf l0 46) (Int32.toNatClampNeg (144 + l5))) then (if inb (144 + l5) (ln (rf l0 46)) = true then b_X10_bestAt_107 N (b_X10_bestAt_33 N n) l0 l1 l2 l5 (sg S8 (rf l0 46) (Int32.toNatClampNeg (144 + l5))) l5 S8 else none) else b_X10_bestAt_107 N (b_X10_bestAt_33 N n) l0 l1 l2 l3 l4 l5 S8) else none))) else none)))))
def f_X10_bestAt (N : Nat) (l0 : Nat) (l1 : Int32) (l2 : Int32) (S : am_S) : Option (Int32 × am_S) := (bd (f_X10_isPerson N l0 l1 (sp S l0 0 0)) (fun r1 S2 => (if r1 = 0 then b_X10_bestAt_23 N S2 else (bd (f_X10_isDays N l0 l2 1 2 S2) (fun r5 S6 => (if r5 = 0 then b_X10_bestAt_23 N S6 else b_X10_bestAt_33 N N l0 l1 l2 (-1) (-1) 0 S6))))))
theorem u_X10_bestAt_23 {G : am_G} {N : Nat} {h0 : am_H} {out : Int32 × am_S}  (S : am_S) (hB : b_X10_bestAt_23 N  S = some out) : Ev G (am_R 7 0 0) (am_Φ G h0 0 0 (q_i out) q_n) mX10_bestAt 0 0 23 [none, none, none, none, none, none] [] (hp S) := by
  unfold b_X10_bestAt_23 at hB
  refine ev_iconst 0 dX10_bestAt_23 (by decide) ?_
  obtain rfl := Option.some.inj hB
  exact ev_iret dX10_bestAt_24 rfl (Nat.zero_le _) (Nat.zero_le _) (fun z => absurd z (hp_sealed _)) ⟨rfl, rfl⟩
theorem u_X10_bestAt_107 {G : am_G} {N : Nat} {h0 : am_H} {out : Int32 × am_S} {k33 : Nat → Int32 → Int32 → Int32 → Int32 → Int32 → am_S → Option (Int32 × am_S)} (hk33 : ∀ (l0 : Nat) (l1 : Int32) (l2 : Int32) (l3 : Int32) (l4 : Int32) (l5 : Int32) (S : am_S), isC 10 l0 = true → k33 l0 l1 l2 l3 l4 l5 S = some out → Ev G (am_R 7 0 0) (am_Φ G h0 0 0 (q_i out) q_n) mX10_bestAt 0 0 33 [some (.ref l0), some (.int l1), some (.int l2), some (.int l3), some (.int l4), some (.int l5)] [] (hp S)) (l0 : Nat) (l1 : Int32) (l2 : Int32) (l3 : Int32) (l4 : Int32) (l5 : Int32) (S : am_S) (hl0 : isC 10 l0 = true) (hB : b_X10_bestAt_107 N k33 l0 l1 l2 l3 l4 l5 S = some out) : Ev G (am_R 7 0 0) (am_Φ G h0 0 0 (q_i out) q_n) mX10_bestAt 0 0 107 [some (.ref l0), some (.int l1), some (.int l2), some (.int l3), some (.int l4), some (.int l5)] [] (hp S) := by
  unfold b_X10_bestAt_107 at hB
  refine es_iinc 1 dX10_bestAt_107 rfl (by decide) (by decide) rfl ?_
  refine ev_goto 33 dX10_bestAt_110 (by decide) ?_
  exact ev_ls (hk33 l0 l1 l2 l3 l4 (l5 + 1) S hl0 hB) (And.intro rfl (And.intro rfl (And.intro rfl (And.intro rfl (And.intro rfl (And.intro rfl trivial))))))
theorem u_X10_bestAt_33 {G : am_G} {N : Nat} {h0 : am_H} {out : Int32 × am_S} : ∀ (n : Nat) (l0 : Nat) (l1 : Int32) (l2 : Int32) (l3 : Int32) (l4 : Int32) (l5 : Int32) (S : am_S), isC 10 l0 = true → b_X10_bestAt_33 N n l0 l1 l2 l3 l4 l5 S = some out → Ev G (am_R 7 0 0) (am_Φ G h0 0 0 (q_i out) q_n) mX10_bestAt 0 0 33 [some (.ref l0), some (.int l1), some (.int l2), some (.int l3), some (.int l4), some (.int l5)] [] (hp S) := by
  intro n
  induction n with
  | zero =>
    intro l0 l1 l2 l3 l4 l5 S hl0 hB
    exact absurd (show none = some out from hB) (fun q => by cases q)
  | succ n ih =>
    intro l0 l1 l2 l3 l4 l5 S hl0 hB
    unfold b_X10_bestAt_33 at hB
    refine ev_iload dX10_bestAt_33 rfl ?_
    refine ev_aload_n dX10_bestAt_35 rfl ?_
    refine es_geti k_10 2 dX10_bestAt_36 (by decide) rfl (Or.inl w_1527) hl0 rfl ?_
    refine ev_icmpge 113 dX10_bestAt_39 (by decide) (fun q1 => ?_) (fun q1 => ?_)
    · rw [if_pos q1] at hB
      refine ev_iload_n dX10_bestAt_113 rfl ?_
      obtain rfl := Option.some.inj hB
      exact ev_iret dX10_bestAt_114 rfl (Nat.zero_le _) (Nat.zero_le _) (fun z => absurd z (hp_sealed _)) ⟨rfl, rfl⟩
    · rw [if_neg q1] at hB
      refine ev_iload dX10_bestAt_42 rfl ?_
      refine ev_iload_n dX10_bestAt_44 rfl ?_
      refine ev_icmpne 51 dX10_bestAt_45 (by decide) (fun q2 => ?_) (fun q2 => ?_)
      · rw [if_neg q2] at hB
        refine ev_aload_n dX10_bestAt_51 rfl ?_
        obtain ⟨S4, e5, hB⟩ := bv_of hB
        refine es_callVv (As := []) (t_X10_tries hl0 e5) dX10_bestAt_52 oX10_tries w_2034 rfl hl0 rfl rfl (Nat.le_of_ble_eq_true rfl) rfl (am_fit.of (by decide)) ⟨Nat.zero_le _, Nat.zero_le _⟩ ?_
        refine ev_aload_n dX10_bestAt_55 rfl ?_
        refine es_getr k_10 46 dX10_bestAt_56 (by decide) rfl (Or.inl w_1571) hl0 rfl ?_
        refine ev_sipush 152 dX10_bestAt_59 (by decide) ?_
        refine ev_iload_n dX10_bestAt_62 rfl ?_
        refine ev_iadd dX10_bestAt_63 ?_
        refine ev_iload dX10_bestAt_64 rfl ?_
        obtain ⟨c6, hB⟩ := ck_of hB
        refine es_iast dX10_bestAt_66 (tr_10_46 hl0) c6 ?_
        refine ev_aload_n dX10_bestAt_67 rfl ?_
        refine ev_iload_n dX10_bestAt_68 rfl ?_
        obtain ⟨S8, e9, hB⟩ := bv_of hB
        refine es_callVv (As := [.int l2]) (t_X10_daysGo hl0 e9) dX10_bestAt_69 oX10_daysGo w_2038 rfl hl0 rfl rfl (Nat.le_of_ble_eq_true rfl) rfl (am_fit.of (by decide)) ⟨Nat.zero_le _, Nat.zero_le _⟩ ?_
        refine ev_aload_n dX10_bestAt_72 rfl ?_
        refine es_getr k_10 46 dX10_bestAt_73 (by decide) rfl (Or.inl w_1571) hl0 rfl ?_
        refine ev_sipush 144 dX10_bestAt_76 (by decide) ?_
        refine ev_iload dX10_bestAt_79 rfl ?_
        refine ev_iadd dX10_bestAt_81 ?_
        obtain ⟨c10, hB⟩ := ck_of hB
        refine es_iald dX10_bestAt_82 (tr_10_46 hl0) c10 ?_
        refine ev_iload dX10_bestAt_83 rfl ?_
        refine ev_icmpgt 91 dX10_bestAt_85 (by decide) (fun q11 => ?_) (fun q11 => ?_)
        · rw [if_pos q11] at hB
          refine ev_iload dX10_bestAt_91 rfl ?_
          refine ev_istore_n dX10_bestAt_93 (by decide) rfl ?_
          refine ev_aload_n dX10_bestAt_94 rfl ?_
          refine es_getr k_10 46 dX10_bestAt_95 (by decide) rfl (Or.inl w_1571) hl0 rfl ?_
          refine ev_sipush 144 dX10_bestAt_98 (by decide) ?_
          refine ev_iload dX10_bestAt_101 rfl ?_
          refine ev_iadd dX10_bestAt_103 ?_
          obtain ⟨c12, hB⟩ := ck_of hB
          refine es_iald dX10_bestAt_104 (tr_10_46 hl0) c12 ?_
          refine ev_istore dX10_bestAt_105 (by decide) rfl ?_
          exact ev_ls (u_X10_bestAt_107 ih l0 l1 l2 l5 (sg S8 (rf l0 46) (Int32.toNatClampNeg (144 + l5))) l5 S8 hl0 hB) (And.intro rfl (And.intro rfl (And.intro rfl (And.intro rfl (And.intro rfl (And.intro rfl trivial))))))
        · rw [if_neg q11] at hB
          refine ev_goto 107 dX10_bestAt_88 (by decide) ?_
          exact ev_ls (u_X10_bestAt_107 ih l0 l1 l2 l3 l4 l5 S8 hl0 hB) (And.intro rfl (And.intro rfl (And.intro rfl (And.intro rfl (And.intro rfl (And.intro rfl trivial))))))
      · rw [if_pos q2] at hB
        refine ev_goto 107 dX10_bestAt_48 (by decide) ?_
        exact ev_ls (u_X10_bestAt_107 ih l0 l1 l2 l3 l4 l5 S hl0 hB) (And.intro rfl (And.intro rfl (And.intro rfl (And.intro rfl (And.intro rfl (And.intro rfl trivial))))))
theorem t_X10_bestAt {G : am_G} {N : Nat} {l0 : Nat} {l1 : Int32} {l2 : Int32} {S : am_S} {out : Int32 × am_S} (hl0 : isC 10 l0 = true) (hB : f_X10_bestAt N l0 l1 l2 S = some out) : am_Met G 7 mX10_bestAt 0 0 [.ref l0, .int l1, .int l2] (hp S) (q_i out) q_n := by
  refine am_of (by decide +kernel) rfl rfl rfl (Nat.le_of_ble_eq_true rfl) ?_
  unfold f_X10_bestAt at hB
  refine ev_aload_n dX10_bestAt_0 rfl ?_
  refine ev_iconst 0 dX10_bestAt_1 (by decide) ?_
  refine es_puti k_10 0 dX10_bestAt_2 (by decide) rfl (Or.inl w_1525) rfl rfl hl0 rfl ?_
  refine ev_aload_n dX10_bestAt_5 rfl ?_
  refine ev_iload_n dX10_bestAt_6 rfl ?_
  obtain ⟨r1, S2, e3, hB⟩ := bd_of hB
  refine es_callVi (As := [.int l1]) (t_X10_isPerson hl0 e3) dX10_bestAt_7 oX10_isPerson w_1941 rfl hl0 rfl rfl (Nat.le_of_ble_eq_true rfl) rfl (am_fit.of (by decide)) ⟨Nat.zero_le _, Nat.zero_le _⟩ ?_
  refine ev_ifeq 23 dX10_bestAt_10 (by decide) (fun q4 => ?_) (fun q4 => ?_)
  · rw [if_pos q4] at hB
    exact ev_ls (u_X10_bestAt_23 S2 hB) trivial
  · rw [if_neg q4] at hB
    refine ev_aload_n dX10_bestAt_13 rfl ?_
    refine ev_iload_n dX10_bestAt_14 rfl ?_
    refine ev_iconst 1 dX10_bestAt_15 (by decide) ?_
    refine ev_iconst 2 dX10_bestAt_16 (by decide) ?_
    obtain ⟨r5, S6, e7, hB⟩ := bd_of hB
    refine es_callVi (As := [.int l2, .int 1, .int 2]) (t_X10_isDays hl0 e7) dX10_bestAt_17 oX10_isDays w_2026 rfl hl0 rfl rfl (Nat.le_of_ble_eq_true rfl) rfl (am_fit.of (by decide)) ⟨Nat.zero_le _, Nat.zero_le _⟩ ?_
    refine ev_ifne 25 dX10_bestAt_20 (by decide) (fun q8 => ?_) (fun q8 => ?_)
    · rw [if_neg q8] at hB
      refine ev_iconst (-1) dX10_bestAt_25 (by decide) ?_
      refine ev_istore_n dX10_bestAt_26 (by decide) rfl ?_
      refine ev_iconst (-1) dX10_bestAt_27 (by decide) ?_
      refine ev_istore dX10_bestAt_28 (by decide) rfl ?_
      refine ev_iconst 0 dX10_bestAt_30 (by decide) ?_
      refine ev_istore dX10_bestAt_31 (by decide) rfl ?_
      exact ev_ls (u_X10_bestAt_33 N l0 l1 l2 (-1) (-1) 0 S6 hl0 hB) (And.intro rfl (And.intro rfl (And.intro rfl (And.intro rfl (And.intro rfl (And.intro rfl trivial))))))
    · rw [if_pos q8] at hB
      exact ev_ls (u_X10_bestAt_23 S6 hB) trivial
def b_X10_toCover_107 (N : Nat) (k26 : Nat → Int32 → Int32 → Int32 → am_S → Option (Int32 × am_S)) (k42 : Nat → Int32 → Int32 → Int32 → Int32 → Int32 → am_S → Option (Int32 × am_S)) (k57 : Nat → Int32 → Int32 → Int32 → Int32 → Int32 → Int32 → Int32 → am_S → Option (Int32 × am_S)) (l0 : Nat) (l1 : Int32) (l2 : Int32) (l3 : Int32) (l4 : Int32) (l5 : Int32) (l7 : Int32) (z0 : Int32) (S : am_S) : Option (Int32 × am_S) := k57 l0 l1 l2 l3 l4 l5 z0 (l7 + 1) S
def b_X10_toCover_102 (N : Nat) (k26 : Nat → Int32 → Int32 → Int32 → am_S → Option (Int32 × am_S)) (k42 : Nat → Int32 → Int32 → Int32 → Int32 → Int32 → am_S → Option (Int32 × am_S)) (k57 : Nat → Int32 → Int32 → Int32 → Int32 → Int32 → Int32 → Int32 → am_S → Option (Int32 × am_S)) (l0 : Nat) (l1 : Int32) (l2 : Int32) (l3 : Int32) (l4 : Int32) (l5 : Int32) (l7 : Int32) (S : am_S) : Option (Int32 × am_S) := b_X10_toCover_107 N (k26) (k42) (k57) l0 l1 l2 l3 l4 l5 l7 1 S
def b_X10_toCover_106 (N : Nat) (k26 : Nat → Int32 → Int32 → Int32 → am_S → Option (Int32 × am_S)) (k42 : Nat → Int32 → Int32 → Int32 → Int32 → Int32 → am_S → Option (Int32 × am_S)) (k57 : Nat → Int32 → Int32 → Int32 → Int32 → Int32 → Int32 → Int32 → am_S → Option (Int32 × am_S)) (l0 : Nat) (l1 : Int32) (l2 : Int32) (l3 : Int32) (l4 : Int32) (l5 : Int32) (l7 : Int32) (S : am_S) : Option (Int32 × am_S) := b_X10_toCover_107 N (k26) (k42) (k57) l0 l1 l2 l3 l4 l5 l7 0 S
def b_X10_toCover_130 (N : Nat) (k26 : Nat → Int32 → Int32 → Int32 → am_S → Option (Int32 × am_S)) (k42 : Nat → Int32 → Int32 → Int32 → Int32 → Int32 → am_S → Option (Int32 × am_S)) (l0 : Nat) (l1 : Int32) (l2 : Int32) (l3 : Int32) (l5 : Int32) (z0 : Int32) (S : am_S) : Option (Int32 × am_S) := k42 l0 l1 l2 l3 z0 (l5 + 1) S
def b_X10_toCover_129 (N : Nat) (k26 : Nat → Int32 → Int32 → Int32 → am_S → Option (Int32 × am_S)) (k42 : Nat → Int32 → Int32 → Int32 → Int32 → Int32 → am_S → Option (Int32 × am_S)) (l0 : Nat) (l1 : Int32) (l2 : Int32) (l3 : Int32) (l5 : Int32) (S : am_S) : Option (Int32 × am_S) := b_X10_toCover_130 N (k26) (k42) l0 l1 l2 l3 l5 0 S
def b_X10_toCover_57 (N : Nat) (k26 : Nat → Int32 → Int32 → Int32 → am_S → Option (Int32 × am_S)) (k42 : Nat → Int32 → Int32 → Int32 → Int32 → Int32 → am_S → Option (Int32 × am_S)) : Nat → Nat → Int32 → Int32 → Int32 → Int32 → Int32 → Int32 → Int32 → am_S → Option (Int32 × am_S)
  | 0, _, _, _, _, _, _, _, _, _ => none
  | n + 1, l0, l1, l2, l3, l4, l5, l6, l7, S => (if (sg S l0 1) ≤ l7 then (if l4 = 0 then b_X10_toCover_129 N (k26) (k42) l0 l1 l2 l3 l5 S else (if l6 = 0 then b_X10_toCover_129 N (k26) (k42) l0 l1 l2 l3 l5 S else b_X10_toCover_130 N (k26) (k42) l0 l1 l2 l3 l5 1 S)) else (if l6 = 0 then (if ((l3 >>> (l7 &&& (31 : Int32))) &&& 1) = 1 then (if inb l7 (ln (rf l0 7)) = true then (if inb l5 (ln (rf l0 8)) = true then (bd (f_X10_off N (sg S (rf l0 7) (Int32.toNatClampNeg l7)) (sg S (rf l0 8) (Int32.toNatClampNeg l5)) S) (fun r8 S9 => (if l1 < r8 then b_X10_toCover_106 N (k26) (k42) (b_X10_toCover_57 N k26 k42 n) l0 l1 l2 l3 l4 l5 l7 S9 else b_X10_toCover_102 N (k26) (k42) (b_X10_toCover_57 N k26 k42 n) l0 l1 l2 l3 l4 l5 l7 S9))) else none) else none) else b_X10_toCover_106 N (k26) (k42) (b_X10_toCover_57 N k26 k42 n) l0 l1 l2 l3 l4 l5 l7 S) else b_X10_toCover_102 N (k26) (k42) (b_X10_toCover_57 N k26 k42 n) l0 l1 l2 l3 l4 l5 l7 S))
def b_X10_toCover_161 (N : Nat) (k26 : Nat → Int32 → Int32 → Int32 → am_S → Option (Int32 × am_S)) (l0 : Nat) (l1 : Int32) (l2 : Int32) (l3 : Int32) (S : am_S) : Option (Int32 × am_S) := k26 l0 l1 l2 (l3 + 1) S
def b_X10_toCover_159 (N : Nat) (k26 : Nat → Int32 → Int32 → Int32 → am_S → Option (Int32 × am_S)) (l0 : Nat) (l1 : Int32) (l3 : Int32) (S : am_S) : Option (Int32 × am_S) := b_X10_toCover_161 N (k26) l0 l1 l3 l3 S
def b_X10_toCover_42 (N : Nat) (k26 : Nat → Int32 → Int32 → Int32 → am_S → Option (Int32 × am_S)) : Nat → Nat → Int32 → Int32 → Int32 → Int32 → Int32 → am_S → Option (Int32 × am_S)
  | 0, _, _, _, _, _, _, _ => none
  | n + 1, l0, l1, l2, l3, l4, l5, S => (if (sg S l0 2) ≤ l5 then (if l4 = 0 then b_X10_toCover_161 N (k26) l0 l1 l2 l3 S else (if l2 = (-1) then b_X10_toCover_159 N (k26) l0 l1 l3 S else (bd (f_X10_bits N l3 S) (fun r4 S5 => (bd (f_X10_bits N l2 S5) (fun r7 S8 => (if r7 ≤ r4 then b_X10_toCover_161 N (k26) l0 l1 l2 l3 S8 else b_X10_toCover_159 N (k26) l0 l1 l3 S8))))))) else b_X10_toCover_57 N (k26) (b_X10_toCover_42 N k26 n) N l0 l1 l2 l3 l4 l5 0 0 S)
def b_X10_toCover_26 (N : Nat) : Nat → Nat → Int32 → Int32 → Int32 → am_S → Option (Int32 × am_S)
  | 0, _, _, _, _, _ => none
  | n + 1, l0, l1, l2, l3, S => (if ((1 : Int32) <<< ((sg S l0 1) &&& (31 : Int32))) ≤ l3 then some (l2, S) else b_X10_toCover_42 N (b_X10_toCover_26 N n) N l0 l1 l2 l3 1 0 S)
def f_X10_toCover (N : Nat) (l0 : Nat) (l1 : Int32) (S : am_S) : Option (Int32 × am_S) := (bd (f_X10_within N l1 0 30 (sp S l0 0 0)) (fun r1 S2 => (bd (f_X10_right N l0 r1 1 S2) (fun r4 S5 => (if r4 = 0 then some (0, S5) else b_X10_toCover_26 N N l0 l1 (-1) 0 S5)))))
theorem u_X10_toCover_107 {G : am_G} {N : Nat} {h0 : am_H} {out : Int32 × am_S} {k26 : Nat → Int32 → Int32 → Int32 → am_S → Option (Int32 × am_S)} {k42 : Nat → Int32 → Int32 → Int32 → Int32 → Int32 → am_S → Option (Int32 × am_S)} {k57 : Nat → Int32 → Int32 → Int32 → Int32 → Int32 → Int32 → Int32 → am_S → Option (Int32 × am_S)} (hk26 : ∀ (l0 : Nat) (l1 : Int32) (l2 : Int32) (l3 : Int32) (S : am_S), isC 10 l0 = true → k26 l0 l1 l2 l3 S = some out → Ev G (am_R 2 0 0) (am_Φ G h0 0 0 (q_i out) q_n) mX10_toCover 0 0 26 [some (.ref l0), some (.int l1), some (.int l2), some (.int l3), none, none, none, none] [] (hp S)) (hk42 : ∀ (l0 : Nat) (l1 : Int32) (l2 : Int32) (l3 : Int32) (l4 : Int32) (l5 : Int32) (S : am_S), isC 10 l0 = true → k42 l0 l1 l2 l3 l4 l5 S = some out → Ev G (am_R 2 0 0) (am_Φ G h0 0 0 (q_i out) q_n) mX10_toCover 0 0 42 [some (.ref l0), some (.int l1), some (.int l2), some (.int l3), some (.int l4), some (.int l5), none, none] [] (hp S)) (hk57 : ∀ (l0 : Nat) (l1 : Int32) (l2 : Int32) (l3 : Int32) (l4 : Int32) (l5 : Int32) (l6 : Int32) (l7 : Int32) (S : am_S), isC 10 l0 = true → k57 l0 l1 l2 l3 l4 l5 l6 l7 S = some out → Ev G (am_R 2 0 0) (am_Φ G h0 0 0 (q_i out) q_n) mX10_toCover 0 0 57 [some (.ref l0), some (.int l1), some (.int l2), some (.int l3), some (.int l4), some (.int l5), some (.int l6), some (.int l7)] [] (hp S)) (l0 : Nat) (l1 : Int32) (l2 : Int32) (l3 : Int32) (l4 : Int32) (l5 : Int32) (l7 : Int32) (z0 : Int32) (S : am_S) (hl0 : isC 10 l0 = true) (hB : b_X10_toCover_107 N k26 k42 k57 l0 l1 l2 l3 l4 l5 l7 z0 S = some out) : Ev G (am_R 2 0 0) (am_Φ G h0 0 0 (q_i out) q_n) mX10_toCover 0 0 107 [some (.ref l0), some (.int l1), some (.int l2), some (.int l3), some (.int l4), some (.int l5), none, some (.int l7)] [.int z0] (hp S) := by
  unfold b_X10_toCover_107 at hB
  refine ev_istore dX10_toCover_107 (by decide) rfl ?_
  refine es_iinc 1 dX10_toCover_109 rfl (by decide) (by decide) rfl ?_
  refine ev_goto 57 dX10_toCover_112 (by decide) ?_
  exact ev_ls (hk57 l0 l1 l2 l3 l4 l5 z0 (l7 + 1) S hl0 hB) (And.intro rfl (And.intro rfl (And.intro rfl (And.intro rfl (And.intro rfl (And.intro rfl (And.intro rfl (And.intro rfl trivial))))))))
theorem u_X10_toCover_102 {G : am_G} {N : Nat} {h0 : am_H} {out : Int32 × am_S} {k26 : Nat → Int32 → Int32 → Int32 → am_S → Option (Int32 × am_S)} {k42 : Nat → Int32 → Int32 → Int32 → Int32 → Int32 → am_S → Option (Int32 × am_S)} {k57 : Nat → Int32 → Int32 → Int32 → Int32 → Int32 → Int32 → Int32 → am_S → Option (Int32 × am_S)} (hk26 : ∀ (l0 : Nat) (l1 : Int32) (l2 : Int32) (l3 : Int32) (S : am_S), isC 10 l0 = true → k26 l0 l1 l2 l3 S = some out → Ev G (am_R 2 0 0) (am_Φ G h0 0 0 (q_i out) q_n) mX10_toCover 0 0 26 [some (.ref l0), some (.int l1), some (.int l2), some (.int l3), none, none, none, none] [] (hp S)) (hk42 : ∀ (l0 : Nat) (l1 : Int32) (l2 : Int32) (l3 : Int32) (l4 : Int32) (l5 : Int32) (S : am_S), isC 10 l0 = true → k42 l0 l1 l2 l3 l4 l5 S = some out → Ev G (am_R 2 0 0) (am_Φ G h0 0 0 (q_i out) q_n) mX10_toCover 0 0 42 [some (.ref l0), some (.int l1), some (.int l2), some (.int l3), some (.int l4), some (.int l5), none, none] [] (hp S)) (hk57 : ∀ (l0 : Nat) (l1 : Int32) (l2 : Int32) (l3 : Int32) (l4 : Int32) (l5 : Int32) (l6 : Int32) (l7 : Int32) (S : am_S), isC 10 l0 = true → k57 l0 l1 l2 l3 l4 l5 l6 l7 S = some out → Ev G (am_R 2 0 0) (am_Φ G h0 0 0 (q_i out) q_n) mX10_toCover 0 0 57 [some (.ref l0), some (.int l1), some (.int l2), some (.int l3), some (.int l4), some (.int l5), some (.int l6), some (.int l7)] [] (hp S)) (l0 : Nat) (l1 : Int32) (l2 : Int32) (l3 : Int32) (l4 : Int32) (l5 : Int32) (l7 : Int32) (S : am_S) (hl0 : isC 10 l0 = true) (hB : b_X10_toCover_102 N k26 k42 k57 l0 l1 l2 l3 l4 l5 l7 S = some out) : Ev G (am_R 2 0 0) (am_Φ G h0 0 0 (q_i out) q_n) mX10_toCover 0 0 102 [some (.ref l0), some (.int l1), some (.int l2), some (.int l3), some (.int l4), some (.int l5), none, some (.int l7)] [] (hp S) := by
  unfold b_X10_toCover_102 at hB
  refine ev_iconst 1 dX10_toCover_102 (by decide) ?_
  refine ev_goto 107 dX10_toCover_103 (by decide) ?_
  exact ev_ls (u_X10_toCover_107 hk26 hk42 hk57 l0 l1 l2 l3 l4 l5 l7 1 S hl0 hB) (And.intro rfl (And.intro rfl (And.intro rfl (And.intro rfl (And.intro rfl (And.intro rfl (And.intro rfl trivial)))))))
theorem u_X10_toCover_106 {G : am_G} {N : Nat} {h0 : am_H} {out : Int32 × am_S} {k26 : Nat → Int32 → Int32 → Int32 → am_S → Option (Int32 × am_S)} {k42 : Nat → Int32 → Int32 → Int32 → Int32 → Int32 → am_S → Option (Int32 × am_S)} {k57 : Nat → Int32 → Int32 → Int32 → Int32 → Int32 → Int32 → Int32 → am_S → Option (Int32 × am_S)} (hk26 : ∀ (l0 : Nat) (l1 : Int32) (l2 : Int32) (l3 : Int32) (S : am_S), isC 10 l0 = true → k26 l0 l1 l2 l3 S = some out → Ev G (am_R 2 0 0) (am_Φ G h0 0 0 (q_i out) q_n) mX10_toCover 0 0 26 [some (.ref l0), some (.int l1), some (.int l2), some (.int l3), none, none, none, none] [] (hp S)) (hk42 : ∀ (l0 : Nat) (l1 : Int32) (l2 : Int32) (l3 : Int32) (l4 : Int32) (l5 : Int32) (S : am_S), isC 10 l0 = true → k42 l0 l1 l2 l3 l4 l5 S = some out → Ev G (am_R 2 0 0) (am_Φ G h0 0 0 (q_i out) q_n) mX10_toCover 0 0 42 [some (.ref l0), some (.int l1), some (.int l2), some (.int l3), some (.int l4), some (.int l5), none, none] [] (hp S)) (hk57 : ∀ (l0 : Nat) (l1 : Int32) (l2 : Int32) (l3 : Int32) (l4 : Int32) (l5 : Int32) (l6 : Int32) (l7 : Int32) (S : am_S), isC 10 l0 = true → k57 l0 l1 l2 l3 l4 l5 l6 l7 S = some out → Ev G (am_R 2 0 0) (am_Φ G h0 0 0 (q_i out) q_n) mX10_toCover 0 0 57 [some (.ref l0), some (.int l1), some (.int l2), some (.int l3), some (.int l4), some (.int l5), some (.int l6), some (.int l7)] [] (hp S)) (l0 : Nat) (l1 : Int32) (l2 : Int32) (l3 : Int32) (l4 : Int32) (l5 : Int32) (l7 : Int32) (S : am_S) (hl0 : isC 10 l0 = true) (hB : b_X10_toCover_106 N k26 k42 k57 l0 l1 l2 l3 l4 l5 l7 S = some out) : Ev G (am_R 2 0 0) (am_Φ G h0 0 0 (q_i out) q_n) mX10_toCover 0 0 106 [some (.ref l0), some (.int l1), some (.int l2), some (.int l3), some (.int l4), some (.int l5), none, some (.int l7)] [] (hp S) := by
  unfold b_X10_toCover_106 at hB
  refine ev_iconst 0 dX10_toCover_106 (by decide) ?_
  exact ev_ls (u_X10_toCover_107 hk26 hk42 hk57 l0 l1 l2 l3 l4 l5 l7 0 S hl0 hB) (And.intro rfl (And.intro rfl (And.intro rfl (And.intro rfl (And.intro rfl (And.intro rfl (And.intro rfl trivial)))))))
theorem u_X10_toCover_130 {G : am_G} {N : Nat} {h0 : am_H} {out : Int32 × am_S} {k26 : Nat → Int32 → Int32 → Int32 → am_S → Option (Int32 × am_S)} {k42 : Nat → Int32 → Int32 → Int32 → Int32 → Int32 → am_S → Option (Int32 × am_S)} (hk26 : ∀ (l0 : Nat) (l1 : Int32) (l2 : Int32) (l3 : Int32) (S : am_S), isC 10 l0 = true → k26 l0 l1 l2 l3 S = some out → Ev G (am_R 2 0 0) (am_Φ G h0 0 0 (q_i out) q_n) mX10_toCover 0 0 26 [some (.ref l0), some (.int l1), some (.int l2), some (.int l3), none, none, none, none] [] (hp S)) (hk42 : ∀ (l0 : Nat) (l1 : Int32) (l2 : Int32) (l3 : Int32) (l4 : Int32) (l5 : Int32) (S : am_S), isC 10 l0 = true → k42 l0 l1 l2 l3 l4 l5 S = some out → Ev G (am_R 2 0 0) (am_Φ G h0 0 0 (q_i out) q_n) mX10_toCover 0 0 42 [some (.ref l0), some (.int l1), some (.int l2), some (.int l3), some (.int l4), some (.int l5), none, none] [] (hp S)) (l0 : Nat) (l1 : Int32) (l2 : Int32) (l3 : Int32) (l5 : Int32) (z0 : Int32) (S : am_S) (hl0 : isC 10 l0 = true) (hB : b_X10_toCover_130 N k26 k42 l0 l1 l2 l3 l5 z0 S = some out) : Ev G (am_R 2 0 0) (am_Φ G h0 0 0 (q_i out) q_n) mX10_toCover 0 0 130 [some (.ref l0), some (.int l1), some (.int l2), some (.int l3), none, some (.int l5), none, none] [.int z0] (hp S) := by
  unfold b_X10_toCover_130 at hB
  refine ev_istore dX10_toCover_130 (by decide) rfl ?_
  refine es_iinc 1 dX10_toCover_132 rfl (by decide) (by decide) rfl ?_
  refine ev_goto 42 dX10_toCover_135 (by decide) ?_
  exact ev_ls (hk42 l0 l1 l2 l3 z0 (l5 + 1) S hl0 hB) (And.intro rfl (And.intro rfl (And.intro rfl (And.intro rfl (And.intro rfl (And.intro rfl trivial))))))
theorem u_X10_toCover_129 {G : am_G} {N : Nat} {h0 : am_H} {out : Int32 × am_S} {k26 : Nat → Int32 → Int32 → Int32 → am_S → Option (Int32 × am_S)} {k42 : Nat → Int32 → Int32 → Int32 → Int32 → Int32 → am_S → Option (Int32 × am_S)} (hk26 : ∀ (l0 : Nat) (l1 : Int32) (l2 : Int32) (l3 : Int32) (S : am_S), isC 10 l0 = true → k26 l0 l1 l2 l3 S = some out → Ev G (am_R 2 0 0) (am_Φ G h0 0 0 (q_i out) q_n) mX10_toCover 0 0 26 [some (.ref l0), some (.int l1), some (.int l2), some (.int l3), none, none, none, none] [] (hp S)) (hk42 : ∀ (l0 : Nat) (l1 : Int32) (l2 : Int32) (l3 : Int32) (l4 : Int32) (l5 : Int32) (S : am_S), isC 10 l0 = true → k42 l0 l1 l2 l3 l4 l5 S = some out → Ev G (am_R 2 0 0) (am_Φ G h0 0 0 (q_i out) q_n) mX10_toCover 0 0 42 [some (.ref l0), some (.int l1), some (.int l2), some (.int l3), some (.int l4), some (.int l5), none, none] [] (hp S)) (l0 : Nat) (l1 : Int32) (l2 : Int32) (l3 : Int32) (l5 : Int32) (S : am_S) (hl0 : isC 10 l0 = true) (hB : b_X10_toCover_129 N k26 k42 l0 l1 l2 l3 l5 S = some out) : Ev G (am_R 2 0 0) (am_Φ G h0 0 0 (q_i out) q_n) mX10_toCover 0 0 129 [some (.ref l0), some (.int l1), some (.int l2), some (.int l3), none, some (.int l5), none, none] [] (hp S) := by
  unfold b_X10_toCover_129 at hB
  refine ev_iconst 0 dX10_toCover_129 (by decide) ?_
  exact ev_ls (u_X10_toCover_130 hk26 hk42 l0 l1 l2 l3 l5 0 S hl0 hB) (And.intro rfl (And.intro rfl (And.intro rfl (And.intro rfl (And.intro rfl trivial)))))
theorem u_X10_toCover_57 {G : am_G} {N : Nat} {h0 : am_H} {out : Int32 × am_S} {k26 : Nat → Int32 → Int32 → Int32 → am_S → Option (Int32 × am_S)} {k42 : Nat → Int32 → Int32 → Int32 → Int32 → Int32 → am_S → Option (Int32 × am_S)} (hk26 : ∀ (l0 : Nat) (l1 : Int32) (l2 : Int32) (l3 : Int32) (S : am_S), isC 10 l0 = true → k26 l0 l1 l2 l3 S = some out → Ev G (am_R 2 0 0) (am_Φ G h0 0 0 (q_i out) q_n) mX10_toCover 0 0 26 [some (.ref l0), some (.int l1), some (.int l2), some (.int l3), none, none, none, none] [] (hp S)) (hk42 : ∀ (l0 : Nat) (l1 : Int32) (l2 : Int32) (l3 : Int32) (l4 : Int32) (l5 : Int32) (S : am_S), isC 10 l0 = true → k42 l0 l1 l2 l3 l4 l5 S = some out → Ev G (am_R 2 0 0) (am_Φ G h0 0 0 (q_i out) q_n) mX10_toCover 0 0 42 [some (.ref l0), some (.int l1), some (.int l2), some (.int l3), some (.int l4), some (.int l5), none, none] [] (hp S)) : ∀ (n : Nat) (l0 : Nat) (l1 : Int32) (l2 : Int32) (l3 : Int32) (l4 : Int32) (l5 : Int32) (l6 : Int32) (l7 : Int32) (S : am_S), isC 10 l0 = true → b_X10_toCover_57 N k26 k42 n l0 l1 l2 l3 l4 l5 l6 l7 S = some out → Ev G (am_R 2 0 0) (am_Φ G h0 0 0 (q_i out) q_n) mX10_toCover 0 0 57 [some (.ref l0), some (.int l1), some (.int l2), some (.int l3), some (.int l4), some (.int l5), some (.int l6), some (.int l7)] [] (hp S) := by
  intro n
  induction n with
  | zero =>
    intro l0 l1 l2 l3 l4 l5 l6 l7 S hl0 hB
    exact absurd (show none = some out from hB) (fun q => by cases q)
  | succ n ih =>
    intro l0 l1 l2 l3 l4 l5 l6 l7 S hl0 hB
    unfold b_X10_toCover_57 at hB
    refine ev_iload dX10_toCover_57 rfl ?_
    refine ev_aload_n dX10_toCover_59 rfl ?_
    refine es_geti k_10 1 dX10_toCover_60 (by decide) rfl (Or.inl w_1526) hl0 rfl ?_
    refine ev_icmpge 115 dX10_toCover_63 (by decide) (fun q1 => ?_) (fun q1 => ?_)
    · rw [if_pos q1] at hB
      refine ev_iload dX10_toCover_115 rfl ?_
      refine ev_ifeq 129 dX10_toCover_117 (by decide) (fun q2 => ?_) (fun q2 => ?_)
      · rw [if_pos q2] at hB
        exact ev_ls (u_X10_toCover_129 hk26 hk42 l0 l1 l2 l3 l5 S hl0 hB) (And.intro rfl (And.intro rfl (And.intro rfl (And.intro rfl (And.intro rfl trivial)))))
      · rw [if_neg q2] at hB
        refine ev_iload dX10_toCover_120 rfl ?_
        refine ev_ifeq 129 dX10_toCover_122 (by decide) (fun q3 => ?_) (fun q3 => ?_)
        · rw [if_pos q3] at hB
          exact ev_ls (u_X10_toCover_129 hk26 hk42 l0 l1 l2 l3 l5 S hl0 hB) (And.intro rfl (And.intro rfl (And.intro rfl (And.intro rfl (And.intro rfl trivial)))))
        · rw [if_neg q3] at hB
          refine ev_iconst 1 dX10_toCover_125 (by decide) ?_
          refine ev_goto 130 dX10_toCover_126 (by decide) ?_
          exact ev_ls (u_X10_toCover_130 hk26 hk42 l0 l1 l2 l3 l5 1 S hl0 hB) (And.intro rfl (And.intro rfl (And.intro rfl (And.intro rfl (And.intro rfl trivial)))))
    · rw [if_neg q1] at hB
      refine ev_iload dX10_toCover_66 rfl ?_
      refine ev_ifne 102 dX10_toCover_68 (by decide) (fun q4 => ?_) (fun q4 => ?_)
      · rw [if_neg q4] at hB
        exact ev_ls (u_X10_toCover_102 hk26 hk42 ih l0 l1 l2 l3 l4 l5 l7 S hl0 hB) (And.intro rfl (And.intro rfl (And.intro rfl (And.intro rfl (And.intro rfl (And.intro rfl (And.intro rfl trivial)))))))
      · rw [if_pos q4] at hB
        refine ev_iload_n dX10_toCover_71 rfl ?_
        refine ev_iload dX10_toCover_72 rfl ?_
        refine ev_ishr dX10_toCover_74 ?_
        refine ev_iconst 1 dX10_toCover_75 (by decide) ?_
        refine ev_iand dX10_toCover_76 ?_
        refine ev_iconst 1 dX10_toCover_77 (by decide) ?_
        refine ev_icmpne 106 dX10_toCover_78 (by decide) (fun q5 => ?_) (fun q5 => ?_)
        · rw [if_neg q5] at hB
          exact ev_ls (u_X10_toCover_106 hk26 hk42 ih l0 l1 l2 l3 l4 l5 l7 S hl0 hB) (And.intro rfl (And.intro rfl (And.intro rfl (And.intro rfl (And.intro rfl (And.intro rfl (And.intro rfl trivial)))))))
        · rw [if_pos q5] at hB
          refine ev_aload_n dX10_toCover_81 rfl ?_
          refine es_getr k_10 7 dX10_toCover_82 (by decide) rfl (Or.inl w_1532) hl0 rfl ?_
          refine ev_iload dX10_toCover_85 rfl ?_
          obtain ⟨c6, hB⟩ := ck_of hB
          refine es_iald dX10_toCover_87 (tr_10_7 hl0) c6 ?_
          refine ev_aload_n dX10_toCover_88 rfl ?_
          refine es_getr k_10 8 dX10_toCover_89 (by decide) rfl (Or.inl w_1533) hl0 rfl ?_
          refine ev_iload dX10_toCover_92 rfl ?_
          obtain ⟨c7, hB⟩ := ck_of hB
          refine es_iald dX10_toCover_94 (tr_10_8 hl0) c7 ?_
          obtain ⟨r8, S9, e10, hB⟩ := bd_of hB
          refine es_callSi (As := [.int (sg S (rf l0 7) (Int32.toNatClampNeg l7)), .int (sg S (rf l0 8) (Int32.toNatClampNeg l5))]) (t_X10_off e10) dX10_toCover_95 oX10_off w_1930 rfl (Nat.le_of_ble_eq_true rfl) rfl (am_fit.of (by decide)) ⟨Nat.zero_le _, Nat.zero_le _⟩ ?_
          refine ev_iload_n dX10_toCover_98 rfl ?_
          refine ev_icmpgt 106 dX10_toCover_99 (by decide) (fun q11 => ?_) (fun q11 => ?_)
          · rw [if_pos q11] at hB
            exact ev_ls (u_X10_toCover_106 hk26 hk42 ih l0 l1 l2 l3 l4 l5 l7 S9 hl0 hB) (And.intro rfl (And.intro rfl (And.intro rfl (And.intro rfl (And.intro rfl (And.intro rfl (And.intro rfl trivial)))))))
          · rw [if_neg q11] at hB
            exact ev_ls (u_X10_toCover_102 hk26 hk42 ih l0 l1 l2 l3 l4 l5 l7 S9 hl0 hB) (And.intro rfl (And.intro rfl (And.intro rfl (And.intro rfl (And.intro rfl (And.intro rfl (And.intro rfl trivial)))))))
theorem u_X10_toCover_161 {G : am_G} {N : Nat} {h0 : am_H} {out : Int32 × am_S} {k26 : Nat → Int32 → Int32 → Int32 → am_S → Option (Int32 × am_S)} (hk26 : ∀ (l0 : Nat) (l1 : Int32) (l2 : Int32) (l3 : Int32) (S : am_S), isC 10 l0 = true → k26 l0 l1 l2 l3 S = some out → Ev G (am_R 2 0 0) (am_Φ G h0 0 0 (q_i out) q_n) mX10_toCover 0 0 26 [some (.ref l0), some (.int l1), some (.int l2), some (.int l3), none, none, none, none] [] (hp S)) (l0 : Nat) (l1 : Int32) (l2 : Int32) (l3 : Int32) (S : am_S) (hl0 : isC 10 l0 = true) (hB : b_X10_toCover_161 N k26 l0 l1 l2 l3 S = some out) : Ev G (am_R 2 0 0) (am_Φ G h0 0 0 (q_i out) q_n) mX10_toCover 0 0 161 [some (.ref l0), some (.int l1), some (.int l2), some (.int l3), none, none, none, none] [] (hp S) := by
  unfold b_X10_toCover_161 at hB
  refine es_iinc 1 dX10_toCover_161 rfl (by decide) (by decide) rfl ?_
  refine ev_goto 26 dX10_toCover_164 (by decide) ?_
  exact ev_ls (hk26 l0 l1 l2 (l3 + 1) S hl0 hB) (And.intro rfl (And.intro rfl (And.intro rfl (And.intro rfl trivial))))
theorem u_X10_toCover_159 {G : am_G} {N : Nat} {h0 : am_H} {out : Int32 × am_S} {k26 : Nat → Int32 → Int32 → Int32 → am_S → Option (Int32 × am_S)} (hk26 : ∀ (l0 : Nat) (l1 : Int32) (l2 : Int32) (l3 : Int32) (S : am_S), isC 10 l0 = true → k26 l0 l1 l2 l3 S = some out → Ev G (am_R 2 0 0) (am_Φ G h0 0 0 (q_i out) q_n) mX10_toCover 0 0 26 [some (.ref l0), some (.int l1), some (.int l2), some (.int l3), none, none, none, none] [] (hp S)) (l0 : Nat) (l1 : Int32) (l3 : Int32) (S : am_S) (hl0 : isC 10 l0 = true) (hB : b_X10_toCover_159 N k26 l0 l1 l3 S = some out) : Ev G (am_R 2 0 0) (am_Φ G h0 0 0 (q_i out) q_n) mX10_toCover 0 0 159 [some (.ref l0), some (.int l1), none, some (.int l3), none, none, none, none] [] (hp S) := by
  unfold b_X10_toCover_159 at hB
  refine ev_iload_n dX10_toCover_159 rfl ?_
  refine ev_istore_n dX10_toCover_160 (by decide) rfl ?_
  exact ev_ls (u_X10_toCover_161 hk26 l0 l1 l3 l3 S hl0 hB) (And.intro rfl (And.intro rfl (And.intro rfl (And.intro rfl trivial))))
theorem u_X10_toCover_42 {G : am_G} {N : Nat} {h0 : am_H} {out : Int32 × am_S} {k26 : Nat → Int32 → Int32 → Int32 → am_S → Option (Int32 × am_S)} (hk26 : ∀ (l0 : Nat) (l1 : Int32) (l2 : Int32) (l3 : Int32) (S : am_S), isC 10 l0 = true → k26 l0 l1 l2 l3 S = some out → Ev G (am_R 2 0 0) (am_Φ G h0 0 0 (q_i out) q_n) mX10_toCover 0 0 26 [some (.ref l0), some (.int l1), some (.int l2), some (.int l3), none, none, none, none] [] (hp S)) : ∀ (n : Nat) (l0 : Nat) (l1 : Int32) (l2 : Int32) (l3 : Int32) (l4 : Int32) (l5 : Int32) (S : am_S), isC 10 l0 = true → b_X10_toCover_42 N k26 n l0 l1 l2 l3 l4 l5 S = some out → Ev G (am_R 2 0 0) (am_Φ G h0 0 0 (q_i out) q_n) mX10_toCover 0 0 42 [some (.ref l0), some (.int l1), some (.int l2), some (.int l3), some (.int l4), some (.int l5), none, none] [] (hp S) := by
  intro n
  induction n with
  | zero =>
    intro l0 l1 l2 l3 l4 l5 S hl0 hB
    exact absurd (show none = some out from hB) (fun q => by cases q)
  | succ n ih =>
    intro l0 l1 l2 l3 l4 l5 S hl0 hB
    unfold b_X10_toCover_42 at hB
    refine ev_iload dX10_toCover_42 rfl ?_
    refine ev_aload_n dX10_toCover_44 rfl ?_
    refine es_geti k_10 2 dX10_toCover_45 (by decide) rfl (Or.inl w_1527) hl0 rfl ?_
    refine ev_icmpge 138 dX10_toCover_48 (by decide) (fun q1 => ?_) (fun q1 => ?_)
    · rw [if_pos q1] at hB
      refine ev_iload dX10_toCover_138 rfl ?_
      refine ev_ifeq 161 dX10_toCover_140 (by decide) (fun q2 => ?_) (fun q2 => ?_)
      · rw [if_pos q2] at hB
        exact ev_ls (u_X10_toCover_161 hk26 l0 l1 l2 l3 S hl0 hB) (And.intro rfl (And.intro rfl (And.intro rfl (And.intro rfl trivial))))
      · rw [if_neg q2] at hB
        refine ev_iload_n dX10_toCover_143 rfl ?_
        refine ev_iconst (-1) dX10_toCover_144 (by decide) ?_
        refine ev_icmpeq 159 dX10_toCover_145 (by decide) (fun q3 => ?_) (fun q3 => ?_)
        · rw [if_pos q3] at hB
          exact ev_ls (u_X10_toCover_159 hk26 l0 l1 l3 S hl0 hB) (And.intro rfl (And.intro rfl (And.intro rfl trivial)))
        · rw [if_neg q3] at hB
          refine ev_iload_n dX10_toCover_148 rfl ?_
          obtain ⟨r4, S5, e6, hB⟩ := bd_of hB
          refine es_callSi (As := [.int l3]) (t_X10_bits e6) dX10_toCover_149 oX10_bits w_2114 rfl (Nat.le_of_ble_eq_true rfl) rfl (am_fit.of (by decide)) ⟨Nat.zero_le _, Nat.zero_le _⟩ ?_
          refine ev_iload_n dX10_toCover_152 rfl ?_
          obtain ⟨r7, S8, e9, hB⟩ := bd_of hB
          refine es_callSi (As := [.int l2]) (t_X10_bits e9) dX10_toCover_153 oX10_bits w_2114 rfl (Nat.le_of_ble_eq_true rfl) rfl (am_fit.of (by decide)) ⟨Nat.zero_le _, Nat.zero_le _⟩ ?_
          refine ev_icmpge 161 dX10_toCover_156 (by decide) (fun q10 => ?_) (fun q10 => ?_)
          · rw [if_pos q10] at hB
            exact ev_ls (u_X10_toCover_161 hk26 l0 l1 l2 l3 S8 hl0 hB) (And.intro rfl (And.intro rfl (And.intro rfl (And.intro rfl trivial))))
          · rw [if_neg q10] at hB
            exact ev_ls (u_X10_toCover_159 hk26 l0 l1 l3 S8 hl0 hB) (And.intro rfl (And.intro rfl (And.intro rfl trivial)))
    · rw [if_neg q1] at hB
      refine ev_iconst 0 dX10_toCover_51 (by decide) ?_
      refine ev_istore dX10_toCover_52 (by decide) rfl ?_
      refine ev_iconst 0 dX10_toCover_54 (by decide) ?_
      refine ev_istore dX10_toCover_55 (by decide) rfl ?_
      exact ev_ls (u_X10_toCover_57 hk26 ih N l0 l1 l2 l3 l4 l5 0 0 S hl0 hB) (And.intro rfl (And.intro rfl (And.intro rfl (And.intro rfl (And.intro rfl (And.intro rfl (And.intro rfl (And.intro rfl trivial))))))))
theorem u_X10_toCover_26 {G : am_G} {N : Nat} {h0 : am_H} {out : Int32 × am_S} : ∀ (n : Nat) (l0 : Nat) (l1 : Int32) (l2 : Int32) (l3 : Int32) (S : am_S), isC 10 l0 = true → b_X10_toCover_26 N n l0 l1 l2 l3 S = some out → Ev G (am_R 2 0 0) (am_Φ G h0 0 0 (q_i out) q_n) mX10_toCover 0 0 26 [some (.ref l0), some (.int l1), some (.int l2), some (.int l3), none, none, none, none] [] (hp S) := by
  intro n
  induction n with
  | zero =>
    intro l0 l1 l2 l3 S hl0 hB
    exact absurd (show none = some out from hB) (fun q => by cases q)
  | succ n ih =>
    intro l0 l1 l2 l3 S hl0 hB
    unfold b_X10_toCover_26 at hB
    refine ev_iload_n dX10_toCover_26 rfl ?_
    refine ev_iconst 1 dX10_toCover_27 (by decide) ?_
    refine ev_aload_n dX10_toCover_28 rfl ?_
    refine es_geti k_10 1 dX10_toCover_29 (by decide) rfl (Or.inl w_1526) hl0 rfl ?_
    refine ev_ishl dX10_toCover_32 ?_
    refine ev_icmpge 167 dX10_toCover_33 (by decide) (fun q1 => ?_) (fun q1 => ?_)
    · rw [if_pos q1] at hB
      refine ev_iload_n dX10_toCover_167 rfl ?_
      obtain rfl := Option.some.inj hB
      exact ev_iret dX10_toCover_168 rfl (Nat.zero_le _) (Nat.zero_le _) (fun z => absurd z (hp_sealed _)) ⟨rfl, rfl⟩
    · rw [if_neg q1] at hB
      refine ev_iconst 1 dX10_toCover_36 (by decide) ?_
      refine ev_istore dX10_toCover_37 (by decide) rfl ?_
      refine ev_iconst 0 dX10_toCover_39 (by decide) ?_
      refine ev_istore dX10_toCover_40 (by decide) rfl ?_
      exact ev_ls (u_X10_toCover_42 ih N l0 l1 l2 l3 1 0 S hl0 hB) (And.intro rfl (And.intro rfl (And.intro rfl (And.intro rfl (And.intro rfl (And.intro rfl trivial))))))
theorem t_X10_toCover {G : am_G} {N : Nat} {l0 : Nat} {l1 : Int32} {S : am_S} {out : Int32 × am_S} (hl0 : isC 10 l0 = true) (hB : f_X10_toCover N l0 l1 S = some out) : am_Met G 2 mX10_toCover 0 0 [.ref l0, .int l1] (hp S) (q_i out) q_n := by
  refine am_of (by decide +kernel) rfl rfl rfl (Nat.le_of_ble_eq_true rfl) ?_
  unfold f_X10_toCover at hB
  refine ev_aload_n dX10_toCover_0 rfl ?_
  refine ev_iconst 0 dX10_toCover_1 (by decide) ?_
  refine es_puti k_10 0 dX10_toCover_2 (by decide) rfl (Or.inl w_1525) rfl rfl hl0 rfl ?_
  refine ev_aload_n dX10_toCover_5 rfl ?_
  refine ev_iload_n dX10_toCover_6 rfl ?_
  refine ev_iconst 0 dX10_toCover_7 (by decide) ?_
  refine ev_bipush 30 dX10_toCover_8 (by decide) ?_
  obtain ⟨r1, S2, e3, hB⟩ := bd_of hB
  refine es_callSi (As := [.int l1, .int 0, .int 30]) (t_X10_within e3) dX10_toCover_10 oX10_within w_1875 rfl (Nat.le_of_ble_eq_true rfl) rfl (am_fit.of (by decide)) ⟨Nat.zero_le _, Nat.zero_le _⟩ ?_
  refine ev_iconst 1 dX10_toCover_13 (by decide) ?_
  obtain ⟨r4, S5, e6, hB⟩ := bd_of hB
  refine es_callVi (As := [.int r1, .int 1]) (t_X10_right hl0 e6) dX10_toCover_14 oX10_right w_1744 rfl hl0 rfl rfl (Nat.le_of_ble_eq_true rfl) rfl (am_fit.of (by decide)) ⟨Nat.zero_le _, Nat.zero_le _⟩ ?_
  refine ev_ifne 22 dX10_toCover_17 (by decide) (fun q7 => ?_) (fun q7 => ?_)
  · rw [if_neg q7] at hB
    refine ev_iconst (-1) dX10_toCover_22 (by decide) ?_
    refine ev_istore_n dX10_toCover_23 (by decide) rfl ?_
    refine ev_iconst 0 dX10_toCover_24 (by decide) ?_
    refine ev_istore_n dX10_toCover_25 (by decide) rfl ?_
    exact ev_ls (u_X10_toCover_26 N l0 l1 (-1) 0 S5 hl0 hB) (And.intro rfl (And.intro rfl (And.intro rfl (And.intro rfl trivial))))
  · rw [if_pos q7] at hB
    refine ev_iconst 0 dX10_toCover_20 (by decide) ?_
    obtain rfl := Option.some.inj hB
    exact ev_iret dX10_toCover_21 rfl (Nat.zero_le _) (Nat.zero_le _) (fun z => absurd z (hp_sealed _)) ⟨rfl, rfl⟩
def b_X10_waysTo_70 (N : Nat) (k5 : Nat → Int32 → Int32 → Int32 → Int32 → am_S → Option (Int32 × am_S)) (l0 : Nat) (l1 : Int32) (l2 : Int32) (l4 : Int32) (z0 : Int32) (z1 : Int32) (S : am_S) : Option (Int32 × am_S) := k5 l0 l1 l2 (z0 + z1) (l4 + 1) S
def b_X10_waysTo_68 (N : Nat) (k5 : Nat → Int32 → Int32 → Int32 → Int32 → am_S → Option (Int32 × am_S)) (l0 : Nat) (l1 : Int32) (l2 : Int32) (l4 : Int32) (l5 : Int32) (z0 : Int32) (S : am_S) : Option (Int32 × am_S) := b_X10_waysTo_70 N (k5) l0 l1 l2 l4 z0 l5 S
def b_X10_waysTo_5 (N : Nat) : Nat → Nat → Int32 → Int32 → Int32 → Int32 → am_S → Option (Int32 × am_S)
  | 0, _, _, _, _, _, _ => none
  | n + 1, l0, l1, l2, l3, l4, S => (if (sg S l0 2) ≤ l4 then some (l3, S) else (if inb l4 (ln (rf l0 8)) = true then (bd (f_X10_off N l1 (sg S (rf l0 8) (Int32.toNatClampNeg l4)) S) (fun r3 S4 => (if l2 = 0 then b_X10_waysTo_68 N (b_X10_waysTo_5 N n) l0 l1 l2 l4 r3 l3 S4 else (if (sg S4 l0 1) ≤ 0 then b_X10_waysTo_68 N (b_X10_waysTo_5 N n) l0 l1 l2 l4 r3 l3 S4 else (bd (f_X10_boxOf N l0 l4 S4) (fun r8 S9 => (if inb r8 (ln (rf l0 7)) = true then (if inb l4 (ln (rf l0 8)) = true then (bd (f_X10_off N (sg S9 (rf l0 7) (Int32.toNatClampNeg r8)) (sg S9 (rf l0 8) (Int32.toNatClampNeg l4)) S9) (fun r13 S14 => (bd (f_X10_lesser N r3 r13 S14) (fun r16 S17 => b_X10_waysTo_70 N (b_X10_waysTo_5 N n) l0 l1 l2 l4 l3 r16 S17)))) else none) else none))))))) else none))
def f_X10_waysTo (N : Nat) (l0 : Nat) (l1 : Int32) (l2 : Int32) (S : am_S) : Option (Int32 × am_S) := b_X10_waysTo_5 N N l0 l1 l2 0 0 S
theorem u_X10_waysTo_70 {G : am_G} {N : Nat} {h0 : am_H} {out : Int32 × am_S} {k5 : Nat → Int32 → Int32 → Int32 → Int32 → am_S → Option (Int32 × am_S)} (hk5 : ∀ (l0 : Nat) (l1 : Int32) (l2 : Int32) (l3 : Int32) (l4 : Int32) (S : am_S), isC 10 l0 = true → k5 l0 l1 l2 l3 l4 S = some out → Ev G (am_R 3 0 0) (am_Φ G h0 0 0 (q_i out) q_n) mX10_waysTo 0 0 5 [some (.ref l0), some (.int l1), some (.int l2), some (.int l3), some (.int l4), none] [] (hp S)) (l0 : Nat) (l1 : Int32) (l2 : Int32) (l4 : Int32) (z0 : Int32) (z1 : Int32) (S : am_S) (hl0 : isC 10 l0 = true) (hB : b_X10_waysTo_70 N k5 l0 l1 l2 l4 z0 z1 S = some out) : Ev G (am_R 3 0 0) (am_Φ G h0 0 0 (q_i out) q_n) mX10_waysTo 0 0 70 [some (.ref l0), some (.int l1), some (.int l2), none, some (.int l4), none] [.int z1, .int z0] (hp S) := by
  unfold b_X10_waysTo_70 at hB
  refine ev_iadd dX10_waysTo_70 ?_
  refine ev_istore_n dX10_waysTo_71 (by decide) rfl ?_
  refine es_iinc 1 dX10_waysTo_72 rfl (by decide) (by decide) rfl ?_
  refine ev_goto 5 dX10_waysTo_75 (by decide) ?_
  exact ev_ls (hk5 l0 l1 l2 (z0 + z1) (l4 + 1) S hl0 hB) (And.intro rfl (And.intro rfl (And.intro rfl (And.intro rfl (And.intro rfl trivial)))))
theorem u_X10_waysTo_68 {G : am_G} {N : Nat} {h0 : am_H} {out : Int32 × am_S} {k5 : Nat → Int32 → Int32 → Int32 → Int32 → am_S → Option (Int32 × am_S)} (hk5 : ∀ (l0 : Nat) (l1 : Int32) (l2 : Int32) (l3 : Int32) (l4 : Int32) (S : am_S), isC 10 l0 = true → k5 l0 l1 l2 l3 l4 S = some out → Ev G (am_R 3 0 0) (am_Φ G h0 0 0 (q_i out) q_n) mX10_waysTo 0 0 5 [some (.ref l0), some (.int l1), some (.int l2), some (.int l3), some (.int l4), none] [] (hp S)) (l0 : Nat) (l1 : Int32) (l2 : Int32) (l4 : Int32) (l5 : Int32) (z0 : Int32) (S : am_S) (hl0 : isC 10 l0 = true) (hB : b_X10_waysTo_68 N k5 l0 l1 l2 l4 l5 z0 S = some out) : Ev G (am_R 3 0 0) (am_Φ G h0 0 0 (q_i out) q_n) mX10_waysTo 0 0 68 [some (.ref l0), some (.int l1), some (.int l2), none, some (.int l4), some (.int l5)] [.int z0] (hp S) := by
  unfold b_X10_waysTo_68 at hB
  refine ev_iload dX10_waysTo_68 rfl ?_
  exact ev_ls (u_X10_waysTo_70 hk5 l0 l1 l2 l4 z0 l5 S hl0 hB) (And.intro rfl (And.intro rfl (And.intro rfl (And.intro rfl trivial))))
theorem u_X10_waysTo_5 {G : am_G} {N : Nat} {h0 : am_H} {out : Int32 × am_S} : ∀ (n : Nat) (l0 : Nat) (l1 : Int32) (l2 : Int32) (l3 : Int32) (l4 : Int32) (S : am_S), isC 10 l0 = true → b_X10_waysTo_5 N n l0 l1 l2 l3 l4 S = some out → Ev G (am_R 3 0 0) (am_Φ G h0 0 0 (q_i out) q_n) mX10_waysTo 0 0 5 [some (.ref l0), some (.int l1), some (.int l2), some (.int l3), some (.int l4), none] [] (hp S) := by
  intro n
  induction n with
  | zero =>
    intro l0 l1 l2 l3 l4 S hl0 hB
    exact absurd (show none = some out from hB) (fun q => by cases q)
  | succ n ih =>
    intro l0 l1 l2 l3 l4 S hl0 hB
    unfold b_X10_waysTo_5 at hB
    refine ev_iload dX10_waysTo_5 rfl ?_
    refine ev_aload_n dX10_waysTo_7 rfl ?_
    refine es_geti k_10 2 dX10_waysTo_8 (by decide) rfl (Or.inl w_1527) hl0 rfl ?_
    refine ev_icmpge 78 dX10_waysTo_11 (by decide) (fun q1 => ?_) (fun q1 => ?_)
    · rw [if_pos q1] at hB
      refine ev_iload_n dX10_waysTo_78 rfl ?_
      obtain rfl := Option.some.inj hB
      exact ev_iret dX10_waysTo_79 rfl (Nat.zero_le _) (Nat.zero_le _) (fun z => absurd z (hp_sealed _)) ⟨rfl, rfl⟩
    · rw [if_neg q1] at hB
      refine ev_iload_n dX10_waysTo_14 rfl ?_
      refine ev_aload_n dX10_waysTo_15 rfl ?_
      refine es_getr k_10 8 dX10_waysTo_16 (by decide) rfl (Or.inl w_1533) hl0 rfl ?_
      refine ev_iload dX10_waysTo_19 rfl ?_
      obtain ⟨c2, hB⟩ := ck_of hB
      refine es_iald dX10_waysTo_21 (tr_10_8 hl0) c2 ?_
      obtain ⟨r3, S4, e5, hB⟩ := bd_of hB
      refine es_callSi (As := [.int l1, .int (sg S (rf l0 8) (Int32.toNatClampNeg l4))]) (t_X10_off e5) dX10_waysTo_22 oX10_off w_1930 rfl (Nat.le_of_ble_eq_true rfl) rfl (am_fit.of (by decide)) ⟨Nat.zero_le _, Nat.zero_le _⟩ ?_
      refine ev_istore dX10_waysTo_25 (by decide) rfl ?_
      refine ev_iload_n dX10_waysTo_27 rfl ?_
      refine ev_iload_n dX10_waysTo_28 rfl ?_
      refine ev_ifeq 68 dX10_waysTo_29 (by decide) (fun q6 => ?_) (fun q6 => ?_)
      · rw [if_pos q6] at hB
        exact ev_ls (u_X10_waysTo_68 ih l0 l1 l2 l4 r3 l3 S4 hl0 hB) (And.intro rfl (And.intro rfl (And.intro rfl (And.intro rfl (And.intro rfl trivial)))))
      · rw [if_neg q6] at hB
        refine ev_aload_n dX10_waysTo_32 rfl ?_
        refine es_geti k_10 1 dX10_waysTo_33 (by decide) rfl (Or.inl w_1526) hl0 rfl ?_
        refine ev_ifle 68 dX10_waysTo_36 (by decide) (fun q7 => ?_) (fun q7 => ?_)
        · rw [if_pos q7] at hB
          exact ev_ls (u_X10_waysTo_68 ih l0 l1 l2 l4 r3 l3 S4 hl0 hB) (And.intro rfl (And.intro rfl (And.intro rfl (And.intro rfl (And.intro rfl trivial)))))
        · rw [if_neg q7] at hB
          refine ev_iload dX10_waysTo_39 rfl ?_
          refine ev_aload_n dX10_waysTo_41 rfl ?_
          refine es_getr k_10 7 dX10_waysTo_42 (by decide) rfl (Or.inl w_1532) hl0 rfl ?_
          refine ev_aload_n dX10_waysTo_45 rfl ?_
          refine ev_iload dX10_waysTo_46 rfl ?_
          obtain ⟨r8, S9, e10, hB⟩ := bd_of hB
          refine es_callVi (As := [.int l4]) (t_X10_boxOf hl0 e10) dX10_waysTo_48 oX10_boxOf w_1926 rfl hl0 rfl rfl (Nat.le_of_ble_eq_true rfl) rfl (am_fit.of (by decide)) ⟨Nat.zero_le _, Nat.zero_le _⟩ ?_
          obtain ⟨c11, hB⟩ := ck_of hB
          refine es_iald dX10_waysTo_51 (tr_10_7 hl0) c11 ?_
          refine ev_aload_n dX10_waysTo_52 rfl ?_
          refine es_getr k_10 8 dX10_waysTo_53 (by decide) rfl (Or.inl w_1533) hl0 rfl ?_
          refine ev_iload dX10_waysTo_56 rfl ?_
          obtain ⟨c12, hB⟩ := ck_of hB
          refine es_iald dX10_waysTo_58 (tr_10_8 hl0) c12 ?_
          obtain ⟨r13, S14, e15, hB⟩ := bd_of hB
          refine es_callSi (As := [.int (sg S9 (rf l0 7) (Int32.toNatClampNeg r8)), .int (sg S9 (rf l0 8) (Int32.toNatClampNeg l4))]) (t_X10_off e15) dX10_waysTo_59 oX10_off w_1930 rfl (Nat.le_of_ble_eq_true rfl) rfl (am_fit.of (by decide)) ⟨Nat.zero_le _, Nat.zero_le _⟩ ?_
          obtain ⟨r16, S17, e18, hB⟩ := bd_of hB
          refine es_callSi (As := [.int r3, .int r13]) (t_X10_lesser e18) dX10_waysTo_62 oX10_lesser w_1983 rfl (Nat.le_of_ble_eq_true rfl) rfl (am_fit.of (by decide)) ⟨Nat.zero_le _, Nat.zero_le _⟩ ?_
          refine ev_goto 70 dX10_waysTo_65 (by decide) ?_
          exact ev_ls (u_X10_waysTo_70 ih l0 l1 l2 l4 l3 r16 S17 hl0 hB) (And.intro rfl (And.intro rfl (And.intro rfl (And.intro rfl trivial))))
theorem t_X10_waysTo {G : am_G} {N : Nat} {l0 : Nat} {l1 : Int32} {l2 : Int32} {S : am_S} {out : Int32 × am_S} (hl0 : isC 10 l0 = true) (hB : f_X10_waysTo N l0 l1 l2 S = some out) : am_Met G 3 mX10_waysTo 0 0 [.ref l0, .int l1, .int l2] (hp S) (q_i out) q_n := by
  refine am_of (by decide +kernel) rfl rfl rfl (Nat.le_of_ble_eq_true rfl) ?_
  unfold f_X10_waysTo at hB
  refine ev_iconst 0 dX10_waysTo_0 (by decide) ?_
  refine ev_istore_n dX10_waysTo_1 (by decide) rfl ?_
  refine ev_iconst 0 dX10_waysTo_2 (by decide) ?_
  refine ev_istore dX10_waysTo_3 (by decide) rfl ?_
  exact ev_ls (u_X10_waysTo_5 N l0 l1 l2 0 0 S hl0 hB) (And.intro rfl (And.intro rfl (And.intro rfl (And.intro rfl (And.intro rfl trivial)))))
def b_X10_bestPlace_27 (N : Nat) (k4 : Nat → Int32 → Int32 → Int32 → am_S → Option (Int32 × am_S)) (l0 : Nat) (l1 : Int32) (l2 : Int32) (l3 : Int32) (S : am_S) : Option (Int32 × am_S) := k4 l0 l1 l2 (l3 + 1) S
def b_X10_bestPlace_4 (N : Nat) : Nat → Nat → Int32 → Int32 → Int32 → am_S → Option (Int32 × am_S)
  | 0, _, _, _, _, _ => none
  | n + 1, l0, l1, l2, l3, S => (if 30 < l3 then some (l2, S) else (bd (f_X10_waysTo N l0 l3 l1 S) (fun r2 S3 => (bd (f_X10_waysTo N l0 l2 l1 S3) (fun r5 S6 => (if r5 ≤ r2 then b_X10_bestPlace_27 N (b_X10_bestPlace_4 N n) l0 l1 l2 l3 S6 else b_X10_bestPlace_27 N (b_X10_bestPlace_4 N n) l0 l1 l3 l3 S6))))))
def f_X10_bestPlace (N : Nat) (l0 : Nat) (l1 : Int32) (S : am_S) : Option (Int32 × am_S) := b_X10_bestPlace_4 N N l0 l1 0 1 S
theorem u_X10_bestPlace_27 {G : am_G} {N : Nat} {h0 : am_H} {out : Int32 × am_S} {k4 : Nat → Int32 → Int32 → Int32 → am_S → Option (Int32 × am_S)} (hk4 : ∀ (l0 : Nat) (l1 : Int32) (l2 : Int32) (l3 : Int32) (S : am_S), isC 10 l0 = true → k4 l0 l1 l2 l3 S = some out → Ev G (am_R 4 0 0) (am_Φ G h0 0 0 (q_i out) q_n) mX10_bestPlace 0 0 4 [some (.ref l0), some (.int l1), some (.int l2), some (.int l3)] [] (hp S)) (l0 : Nat) (l1 : Int32) (l2 : Int32) (l3 : Int32) (S : am_S) (hl0 : isC 10 l0 = true) (hB : b_X10_bestPlace_27 N k4 l0 l1 l2 l3 S = some out) : Ev G (am_R 4 0 0) (am_Φ G h0 0 0 (q_i out) q_n) mX10_bestPlace 0 0 27 [some (.ref l0), some (.int l1), some (.int l2), some (.int l3)] [] (hp S) := by
  unfold b_X10_bestPlace_27 at hB
  refine es_iinc 1 dX10_bestPlace_27 rfl (by decide) (by decide) rfl ?_
  refine ev_goto 4 dX10_bestPlace_30 (by decide) ?_
  exact ev_ls (hk4 l0 l1 l2 (l3 + 1) S hl0 hB) (And.intro rfl (And.intro rfl (And.intro rfl (And.intro rfl trivial))))
theorem u_X10_bestPlace_4 {G : am_G} {N : Nat} {h0 : am_H} {out : Int32 × am_S} : ∀ (n : Nat) (l0 : Nat) (l1 : Int32) (l2 : Int32) (l3 : Int32) (S : am_S), isC 10 l0 = true → b_X10_bestPlace_4 N n l0 l1 l2 l3 S = some out → Ev G (am_R 4 0 0) (am_Φ G h0 0 0 (q_i out) q_n) mX10_bestPlace 0 0 4 [some (.ref l0), some (.int l1), some (.int l2), some (.int l3)] [] (hp S) := by
  intro n
  induction n with
  | zero =>
    intro l0 l1 l2 l3 S hl0 hB
    exact absurd (show none = some out from hB) (fun q => by cases q)
  | succ n ih =>
    intro l0 l1 l2 l3 S hl0 hB
    unfold b_X10_bestPlace_4 at hB
    refine ev_iload_n dX10_bestPlace_4 rfl ?_
    refine ev_bipush 30 dX10_bestPlace_5 (by decide) ?_
    refine ev_icmpgt 33 dX10_bestPlace_7 (by decide) (fun q1 => ?_) (fun q1 => ?_)
    · rw [if_pos q1] at hB
      refine ev_iload_n dX10_bestPlace_33 rfl ?_
      obtain rfl := Option.some.inj hB
      exact ev_iret dX10_bestPlace_34 rfl (Nat.zero_le _) (Nat.zero_le _) (fun z => absurd z (hp_sealed _)) ⟨rfl, rfl⟩
    · rw [if_neg q1] at hB
      refine ev_aload_n dX10_bestPlace_10 rfl ?_
      refine ev_iload_n dX10_bestPlace_11 rfl ?_
      refine ev_iload_n dX10_bestPlace_12 rfl ?_
      obtain ⟨r2, S3, e4, hB⟩ := bd_of hB
      refine es_callVi (As := [.int l3, .int l1]) (t_X10_waysTo hl0 e4) dX10_bestPlace_13 oX10_waysTo w_2125 rfl hl0 rfl rfl (Nat.le_of_ble_eq_true rfl) rfl (am_fit.of (by decide)) ⟨Nat.zero_le _, Nat.zero_le _⟩ ?_
      refine ev_aload_n dX10_bestPlace_16 rfl ?_
      refine ev_iload_n dX10_bestPlace_17 rfl ?_
      refine ev_iload_n dX10_bestPlace_18 rfl ?_
      obtain ⟨r5, S6, e7, hB⟩ := bd_of hB
      refine es_callVi (As := [.int l2, .int l1]) (t_X10_waysTo hl0 e7) dX10_bestPlace_19 oX10_waysTo w_2125 rfl hl0 rfl rfl (Nat.le_of_ble_eq_true rfl) rfl (am_fit.of (by decide)) ⟨Nat.zero_le _, Nat.zero_le _⟩ ?_
      refine ev_icmpge 27 dX10_bestPlace_22 (by decide) (fun q8 => ?_) (fun q8 => ?_)
      · rw [if_pos q8] at hB
        exact ev_ls (u_X10_bestPlace_27 ih l0 l1 l2 l3 S6 hl0 hB) (And.intro rfl (And.intro rfl (And.intro rfl (And.intro rfl trivial))))
      · rw [if_neg q8] at hB
        refine ev_iload_n dX10_bestPlace_25 rfl ?_
        refine ev_istore_n dX10_bestPlace_26 (by decide) rfl ?_
        exact ev_ls (u_X10_bestPlace_27 ih l0 l1 l3 l3 S6 hl0 hB) (And.intro rfl (And.intro rfl (And.intro rfl (And.intro rfl trivial))))
theorem t_X10_bestPlace {G : am_G} {N : Nat} {l0 : Nat} {l1 : Int32} {S : am_S} {out : Int32 × am_S} (hl0 : isC 10 l0 = true) (hB : f_X10_bestPlace N l0 l1 S = some out) : am_Met G 4 mX10_bestPlace 0 0 [.ref l0, .int l1] (hp S) (q_i out) q_n := by
  refine am_of (by decide +kernel) rfl rfl rfl (Nat.le_of_ble_eq_true rfl) ?_
  unfold f_X10_bestPlace at hB
  refine ev_iconst 0 dX10_bestPlace_0 (by decide) ?_
  refine ev_istore_n dX10_bestPlace_1 (by decide) rfl ?_
  refine ev_iconst 1 dX10_bestPlace_2 (by decide) ?_
  refine ev_istore_n dX10_bestPlace_3 (by decide) rfl ?_
  exact ev_ls (u_X10_bestPlace_4 N l0 l1 0 1 S hl0 hB) (And.intro rfl (And.intro rfl (And.intro rfl (And.intro rfl trivial))))
def b_X10_oneMore_36 (N : Nat) (z0 : Int32) (S : am_S) : Option (Int32 × am_S) := some (z0, S)
def f_X10_oneMore (N : Nat) (l0 : Nat) (l1 : Int32) (S : am_S) : Option (Int32 × am_S) := (bd (f_X10_isWhat N l0 l1 1 (sp S l0 0 0)) (fun r1 S2 => (if r1 = 0 then some (0, S2) else (bd (f_X10_bestPlace N l0 1 S2) (fun r5 S6 => (if l1 = 0 then b_X10_oneMore_36 N r5 S6 else (bd (f_X10_waysTo N l0 r5 1 S6) (fun r9 S10 => b_X10_oneMore_36 N r9 S10))))))))
theorem u_X10_oneMore_36 {G : am_G} {N : Nat} {h0 : am_H} {out : Int32 × am_S} (z0 : Int32) (S : am_S) (hB : b_X10_oneMore_36 N z0 S = some out) : Ev G (am_R 5 0 0) (am_Φ G h0 0 0 (q_i out) q_n) mX10_oneMore 0 0 36 [none, none, none] [.int z0] (hp S) := by
  unfold b_X10_oneMore_36 at hB
  obtain rfl := Option.some.inj hB
  exact ev_iret dX10_oneMore_36 rfl (Nat.zero_le _) (Nat.zero_le _) (fun z => absurd z (hp_sealed _)) ⟨rfl, rfl⟩
theorem t_X10_oneMore {G : am_G} {N : Nat} {l0 : Nat} {l1 : Int32} {S : am_S} {out : Int32 × am_S} (hl0 : isC 10 l0 = true) (hB : f_X10_oneMore N l0 l1 S = some out) : am_Met G 5 mX10_oneMore 0 0 [.ref l0, .int l1] (hp S) (q_i out) q_n := by
  refine am_of (by decide +kernel) rfl rfl rfl (Nat.le_of_ble_eq_true rfl) ?_
  unfold f_X10_oneMore at hB
  refine ev_aload_n dX10_oneMore_0 rfl ?_
  refine ev_iconst 0 dX10_oneMore_1 (by decide) ?_
  refine es_puti k_10 0 dX10_oneMore_2 (by decide) rfl (Or.inl w_1525) rfl rfl hl0 rfl ?_
  refine ev_aload_n dX10_oneMore_5 rfl ?_
  refine ev_iload_n dX10_oneMore_6 rfl ?_
  refine ev_iconst 1 dX10_oneMore_7 (by decide) ?_
  obtain ⟨r1, S2, e3, hB⟩ := bd_of hB
  refine es_callVi (As := [.int l1, .int 1]) (t_X10_isWhat hl0 e3) dX10_oneMore_8 oX10_isWhat w_1918 rfl hl0 rfl rfl (Nat.le_of_ble_eq_true rfl) rfl (am_fit.of (by decide)) ⟨Nat.zero_le _, Nat.zero_le _⟩ ?_
  refine ev_ifne 16 dX10_oneMore_11 (by decide) (fun q4 => ?_) (fun q4 => ?_)
  · rw [if_neg q4] at hB
    refine ev_aload_n dX10_oneMore_16 rfl ?_
    refine ev_iconst 1 dX10_oneMore_17 (by decide) ?_
    obtain ⟨r5, S6, e7, hB⟩ := bd_of hB
    refine es_callVi (As := [.int 1]) (t_X10_bestPlace hl0 e7) dX10_oneMore_18 oX10_bestPlace w_2121 rfl hl0 rfl rfl (Nat.le_of_ble_eq_true rfl) rfl (am_fit.of (by decide)) ⟨Nat.zero_le _, Nat.zero_le _⟩ ?_
    refine ev_istore_n dX10_oneMore_21 (by decide) rfl ?_
    refine ev_iload_n dX10_oneMore_22 rfl ?_
    refine ev_ifne 30 dX10_oneMore_23 (by decide) (fun q8 => ?_) (fun q8 => ?_)
    · rw [if_neg q8] at hB
      refine ev_aload_n dX10_oneMore_30 rfl ?_
      refine ev_iload_n dX10_oneMore_31 rfl ?_
      refine ev_iconst 1 dX10_oneMore_32 (by decide) ?_
      obtain ⟨r9, S10, e11, hB⟩ := bd_of hB
      refine es_callVi (As := [.int r5, .int 1]) (t_X10_waysTo hl0 e11) dX10_oneMore_33 oX10_waysTo w_2125 rfl hl0 rfl rfl (Nat.le_of_ble_eq_true rfl) rfl (am_fit.of (by decide)) ⟨Nat.zero_le _, Nat.zero_le _⟩ ?_
      exact ev_ls (u_X10_oneMore_36 r9 S10 hB) trivial
    · rw [if_pos q8] at hB
      refine ev_iload_n dX10_oneMore_26 rfl ?_
      refine ev_goto 36 dX10_oneMore_27 (by decide) ?_
      exact ev_ls (u_X10_oneMore_36 r5 S6 hB) trivial
  · rw [if_pos q4] at hB
    refine ev_iconst 0 dX10_oneMore_14 (by decide) ?_
    obtain rfl := Option.some.inj hB
    exact ev_iret dX10_oneMore_15 rfl (Nat.zero_le _) (Nat.zero_le _) (fun z => absurd z (hp_sealed _)) ⟨rfl, rfl⟩
def f_X10_middle (N : Nat) (l0 : Nat) (S : am_S) : Option (Int32 × am_S) := (bd (f_X10_bestPlace N l0 0 (sp S l0 0 0)) (fun r1 S2 => some (r1, S2)))
theorem t_X10_middle {G : am_G} {N : Nat} {l0 : Nat} {S : am_S} {out : Int32 × am_S} (hl0 : isC 10 l0 = true) (hB : f_X10_middle N l0 S = some out) : am_Met G 5 mX10_middle 0 0 [.ref l0] (hp S) (q_i out) q_n := by
  refine am_of (by decide +kernel) rfl rfl rfl (Nat.le_of_ble_eq_true rfl) ?_
  unfold f_X10_middle at hB
  refine ev_aload_n dX10_middle_0 rfl ?_
  refine ev_iconst 0 dX10_middle_1 (by decide) ?_
  refine es_puti k_10 0 dX10_middle_2 (by decide) rfl (Or.inl w_1525) rfl rfl hl0 rfl ?_
  refine ev_aload_n dX10_middle_5 rfl ?_
  refine ev_iconst 0 dX10_middle_6 (by decide) ?_
  obtain ⟨r1, S2, e3, hB⟩ := bd_of hB
  refine es_callVi (As := [.int 0]) (t_X10_bestPlace hl0 e3) dX10_middle_7 oX10_bestPlace w_2121 rfl hl0 rfl rfl (Nat.le_of_ble_eq_true rfl) rfl (am_fit.of (by decide)) ⟨Nat.zero_le _, Nat.zero_le _⟩ ?_
  obtain rfl := Option.some.inj hB
  exact ev_iret dX10_middle_10 rfl (Nat.zero_le _) (Nat.zero_le _) (fun z => absurd z (hp_sealed _)) ⟨rfl, rfl⟩
def f_X10_swaps (N : Nat) (l0 : Nat) (l1 : Int32) (l2 : Int32) (S : am_S) : Option (am_S) := (if inb l1 (ln (rf l0 53)) = true then (if inb l2 (ln (rf l0 53)) = true then (if inb l1 (ln (rf l0 53)) = true then (if inb l2 (ln (rf l0 53)) = true then some (sp (sp S (rf l0 53) (Int32.toNatClampNeg l1) (sg S (rf l0 53) (Int32.toNatClampNeg l2))) (rf l0 53) (Int32.toNatClampNeg l2) (sg S (rf l0 53) (Int32.toNatClampNeg l1))) else none) else none) else none) else none)
theorem t_X10_swaps {G : am_G} {N : Nat} {l0 : Nat} {l1 : Int32} {l2 : Int32} {S : am_S} {out : am_S} (hl0 : isC 10 l0 = true) (hB : f_X10_swaps N l0 l1 l2 S = some out) : am_Met G 1 mX10_swaps 0 0 [.ref l0, .int l1, .int l2] (hp S) (q_v out) q_n := by
  refine am_of (by decide +kernel) rfl rfl rfl (Nat.le_of_ble_eq_true rfl) ?_
  unfold f_X10_swaps at hB
  refine ev_aload_n dX10_swaps_0 rfl ?_
  refine es_getr k_10 53 dX10_swaps_1 (by decide) rfl (Or.inl w_1578) hl0 rfl ?_
  refine ev_iload_n dX10_swaps_4 rfl ?_
  obtain ⟨c1, hB⟩ := ck_of hB
  refine es_iald dX10_swaps_5 (tr_10_53 hl0) c1 ?_
  refine ev_istore_n dX10_swaps_6 (by decide) rfl ?_
  refine ev_aload_n dX10_swaps_7 rfl ?_
  refine es_getr k_10 53 dX10_swaps_8 (by decide) rfl (Or.inl w_1578) hl0 rfl ?_
  refine ev_iload_n dX10_swaps_11 rfl ?_
  refine ev_aload_n dX10_swaps_12 rfl ?_
  refine es_getr k_10 53 dX10_swaps_13 (by decide) rfl (Or.inl w_1578) hl0 rfl ?_
  refine ev_iload_n dX10_swaps_16 rfl ?_
  obtain ⟨c2, hB⟩ := ck_of hB
  refine es_iald dX10_swaps_17 (tr_10_53 hl0) c2 ?_
  obtain ⟨c3, hB⟩ := ck_of hB
  refine es_iast dX10_swaps_18 (tr_10_53 hl0) c3 ?_
  refine ev_aload_n dX10_swaps_19 rfl ?_
  refine es_getr k_10 53 dX10_swaps_20 (by decide) rfl (Or.inl w_1578) hl0 rfl ?_
  refine ev_iload_n dX10_swaps_23 rfl ?_
  refine ev_iload_n dX10_swaps_24 rfl ?_
  obtain ⟨c4, hB⟩ := ck_of hB
  refine es_iast dX10_swaps_25 (tr_10_53 hl0) c4 ?_
  obtain rfl := Option.some.inj hB
  exact ev_vret dX10_swaps_26 rfl (Nat.zero_le _) (Nat.zero_le _) (fun z => absurd z (hp_sealed _)) ⟨rfl, rfl⟩
def b_X10_nextOrder_85 (N : Nat) : Nat → Nat → Int32 → Int32 → am_S → Option (Int32 × am_S)
  | 0, _, _, _, _ => none
  | n + 1, l0, l2, l3, S => (if l2 ≤ l3 then some (1, S) else (bv (f_X10_swaps N l0 l3 l2 S) (fun S3 => b_X10_nextOrder_85 N n l0 (l2 + (-1)) (l3 + 1) S3)))
def b_X10_nextOrder_47 (N : Nat) : Nat → Nat → Int32 → Int32 → am_S → Option (Int32 × am_S)
  | 0, _, _, _, _ => none
  | n + 1, l0, l1, l2, S => (if inb l2 (ln (rf l0 53)) = true then (if inb l1 (ln (rf l0 53)) = true then (if (sg S (rf l0 53) (Int32.toNatClampNeg l1)) ≤ (sg S (rf l0 53) (Int32.toNatClampNeg l2)) then (bv (f_X10_swaps N l0 l1 l2 S) (fun S5 => b_X10_nextOrder_85 N N l0 ((sg S5 l0 1) - 1) (l1 + 1) S5)) else b_X10_nextOrder_47 N n l0 l1 (l2 + (-1)) S) else none) else none)
def b_X10_nextOrder_34 (N : Nat) (l0 : Nat) (l1 : Int32) (S : am_S) : Option (Int32 × am_S) := (if 0 ≤ l1 then b_X10_nextOrder_47 N N l0 l1 ((sg S l0 1) - 1) S else some (0, S))
def b_X10_nextOrder_7 (N : Nat) : Nat → Nat → Int32 → am_S → Option (Int32 × am_S)
  | 0, _, _, _ => none
  | n + 1, l0, l1, S => (if l1 < 0 then b_X10_nextOrder_34 N l0 l1 S else (if inb l1 (ln (rf l0 53)) = true then (if inb (l1 + 1) (ln (rf l0 53)) = true then (if (sg S (rf l0 53) (Int32.toNatClampNeg l1)) ≤ (sg S (rf l0 53) (Int32.toNatClampNeg (l1 + 1))) then b_X10_nextOrder_34 N l0 l1 S else b_X10_nextOrder_7 N n l0 (l1 + (-1)) S) else none) else none))
def f_X10_nextOrder (N : Nat) (l0 : Nat) (S : am_S) : Option (Int32 × am_S) := b_X10_nextOrder_7 N N l0 ((sg S l0 1) - 2) S
theorem u_X10_nextOrder_85 {G : am_G} {N : Nat} {h0 : am_H} {out : Int32 × am_S} : ∀ (n : Nat) (l0 : Nat) (l2 : Int32) (l3 : Int32) (S : am_S), isC 10 l0 = true → b_X10_nextOrder_85 N n l0 l2 l3 S = some out → Ev G (am_R 2 0 0) (am_Φ G h0 0 0 (q_i out) q_n) mX10_nextOrder 0 0 85 [some (.ref l0), none, some (.int l2), some (.int l3)] [] (hp S) := by
  intro n
  induction n with
  | zero =>
    intro l0 l2 l3 S hl0 hB
    exact absurd (show none = some out from hB) (fun q => by cases q)
  | succ n ih =>
    intro l0 l2 l3 S hl0 hB
    unfold b_X10_nextOrder_85 at hB
    refine ev_iload_n dX10_nextOrder_85 rfl ?_
    refine ev_iload_n dX10_nextOrder_86 rfl ?_
    refine ev_icmpge 105 dX10_nextOrder_87 (by decide) (fun q1 => ?_) (fun q1 => ?_)
    · rw [if_pos q1] at hB
      refine ev_iconst 1 dX10_nextOrder_105 (by decide) ?_
      obtain rfl := Option.some.inj hB
      exact ev_zret dX10_nextOrder_106 rfl (by rfl) (Nat.zero_le _) (Nat.zero_le _) (fun z => absurd z (hp_sealed _)) ⟨rfl, rfl⟩
    · rw [if_neg q1] at hB
      refine ev_aload_n dX10_nextOrder_90 rfl ?_
      refine ev_iload_n dX10_nextOrder_91 rfl ?_
      refine ev_iload_n dX10_nextOrder_92 rfl ?_
      obtain ⟨S3, e4, hB⟩ := bv_of hB
      refine es_callVv (As := [.int l3, .int l2]) (t_X10_swaps hl0 e4) dX10_nextOrder_93 oX10_swaps w_2141 rfl hl0 rfl rfl (Nat.le_of_ble_eq_true rfl) rfl (am_fit.of (by decide)) ⟨Nat.zero_le _, Nat.zero_le _⟩ ?_
      refine es_iinc (-1) dX10_nextOrder_96 rfl (by decide) (by decide) rfl ?_
      refine es_iinc 1 dX10_nextOrder_99 rfl (by decide) (by decide) rfl ?_
      refine ev_goto 85 dX10_nextOrder_102 (by decide) ?_
      exact ev_ls (ih l0 (l2 + (-1)) (l3 + 1) S3 hl0 hB) (And.intro rfl (And.intro rfl (And.intro rfl trivial)))
theorem u_X10_nextOrder_47 {G : am_G} {N : Nat} {h0 : am_H} {out : Int32 × am_S} : ∀ (n : Nat) (l0 : Nat) (l1 : Int32) (l2 : Int32) (S : am_S), isC 10 l0 = true → b_X10_nextOrder_47 N n l0 l1 l2 S = some out → Ev G (am_R 2 0 0) (am_Φ G h0 0 0 (q_i out) q_n) mX10_nextOrder 0 0 47 [some (.ref l0), some (.int l1), some (.int l2), none] [] (hp S) := by
  intro n
  induction n with
  | zero =>
    intro l0 l1 l2 S hl0 hB
    exact absurd (show none = some out from hB) (fun q => by cases q)
  | succ n ih =>
    intro l0 l1 l2 S hl0 hB
    unfold b_X10_nextOrder_47 at hB
    refine ev_aload_n dX10_nextOrder_47 rfl ?_
    refine es_getr k_10 53 dX10_nextOrder_48 (by decide) rfl (Or.inl w_1578) hl0 rfl ?_
    refine ev_iload_n dX10_nextOrder_51 rfl ?_
    obtain ⟨c1, hB⟩ := ck_of hB
    refine es_iald dX10_nextOrder_52 (tr_10_53 hl0) c1 ?_
    refine ev_aload_n dX10_nextOrder_53 rfl ?_
    refine es_getr k_10 53 dX10_nextOrder_54 (by decide) rfl (Or.inl w_1578) hl0 rfl ?_
    refine ev_iload_n dX10_nextOrder_57 rfl ?_
    obtain ⟨c2, hB⟩ := ck_of hB
    refine es_iald dX10_nextOrder_58 (tr_10_53 hl0) c2 ?_
    refine ev_icmpge 68 dX10_nextOrder_59 (by decide) (fun q3 => ?_) (fun q3 => ?_)
    · rw [if_pos q3] at hB
      refine ev_aload_n dX10_nextOrder_68 rfl ?_
      refine ev_iload_n dX10_nextOrder_69 rfl ?_
      refine ev_iload_n dX10_nextOrder_70 rfl ?_
      obtain ⟨S5, e6, hB⟩ := bv_of hB
      refine es_callVv (As := [.int l1, .int l2]) (t_X10_swaps hl0 e6) dX10_nextOrder_71 oX10_swaps w_2141 rfl hl0 rfl rfl (Nat.le_of_ble_eq_true rfl) rfl (am_fit.of (by decide)) ⟨Nat.zero_le _, Nat.zero_le _⟩ ?_
      refine ev_aload_n dX10_nextOrder_74 rfl ?_
      refine es_geti k_10 1 dX10_nextOrder_75 (by decide) rfl (Or.inl w_1526) hl0 rfl ?_
      refine ev_iconst 1 dX10_nextOrder_78 (by decide) ?_
      refine ev_isub dX10_nextOrder_79 ?_
      refine ev_istore_n dX10_nextOrder_80 (by decide) rfl ?_
      refine ev_iload_n dX10_nextOrder_81 rfl ?_
      refine ev_iconst 1 dX10_nextOrder_82 (by decide) ?_
      refine ev_iadd dX10_nextOrder_83 ?_
      refine ev_istore_n dX10_nextOrder_84 (by decide) rfl ?_
      exact ev_ls (u_X10_nextOrder_85 N l0 ((sg S5 l0 1) - 1) (l1 + 1) S5 hl0 hB) (And.intro rfl (And.intro rfl (And.intro rfl trivial)))
    · rw [if_neg q3] at hB
      refine es_iinc (-1) dX10_nextOrder_62 rfl (by decide) (by decide) rfl ?_
      refine ev_goto 47 dX10_nextOrder_65 (by decide) ?_
      exact ev_ls (ih l0 l1 (l2 + (-1)) S hl0 hB) (And.intro rfl (And.intro rfl (And.intro rfl trivial)))
theorem u_X10_nextOrder_34 {G : am_G} {N : Nat} {h0 : am_H} {out : Int32 × am_S} (l0 : Nat) (l1 : Int32) (S : am_S) (hl0 : isC 10 l0 = true) (hB : b_X10_nextOrder_34 N l0 l1 S = some out) : Ev G (am_R 2 0 0) (am_Φ G h0 0 0 (q_i out) q_n) mX10_nextOrder 0 0 34 [some (.ref l0), some (.int l1), none, none] [] (hp S) := by
  unfold b_X10_nextOrder_34 at hB
  refine ev_iload_n dX10_nextOrder_34 rfl ?_
  refine ev_ifge 40 dX10_nextOrder_35 (by decide) (fun q1 => ?_) (fun q1 => ?_)
  · rw [if_pos q1] at hB
    refine ev_aload_n dX10_nextOrder_40 rfl ?_
    refine es_geti k_10 1 dX10_nextOrder_41 (by decide) rfl (Or.inl w_1526) hl0 rfl ?_
    refine ev_iconst 1 dX10_nextOrder_44 (by decide) ?_
    refine ev_isub dX10_nextOrder_45 ?_
    refine ev_istore_n dX10_nextOrder_46 (by decide) rfl ?_
    exact ev_ls (u_X10_nextOrder_47 N l0 l1 ((sg S l0 1) - 1) S hl0 hB) (And.intro rfl (And.intro rfl (And.intro rfl trivial)))
  · rw [if_neg q1] at hB
    refine ev_iconst 0 dX10_nextOrder_38 (by decide) ?_
    obtain rfl := Option.some.inj hB
    exact ev_zret dX10_nextOrder_39 rfl (by rfl) (Nat.zero_le _) (Nat.zero_le _) (fun z => absurd z (hp_sealed _)) ⟨rfl, rfl⟩
theorem u_X10_nextOrder_7 {G : am_G} {N : Nat} {h0 : am_H} {out : Int32 × am_S} : ∀ (n : Nat) (l0 : Nat) (l1 : Int32) (S : am_S), isC 10 l0 = true → b_X10_nextOrder_7 N n l0 l1 S = some out → Ev G (am_R 2 0 0) (am_Φ G h0 0 0 (q_i out) q_n) mX10_nextOrder 0 0 7 [some (.ref l0), some (.int l1), none, none] [] (hp S) := by
  intro n
  induction n with
  | zero =>
    intro l0 l1 S hl0 hB
    exact absurd (show none = some out from hB) (fun q => by cases q)
  | succ n ih =>
    intro l0 l1 S hl0 hB
    unfold b_X10_nextOrder_7 at hB
    refine ev_iload_n dX10_nextOrder_7 rfl ?_
    refine ev_iflt 34 dX10_nextOrder_8 (by decide) (fun q1 => ?_) (fun q1 => ?_)
    · rw [if_pos q1] at hB
      exact ev_ls (u_X10_nextOrder_34 l0 l1 S hl0 hB) (And.intro rfl (And.intro rfl trivial))
    · rw [if_neg q1] at hB
      refine ev_aload_n dX10_nextOrder_11 rfl ?_
      refine es_getr k_10 53 dX10_nextOrder_12 (by decide) rfl (Or.inl w_1578) hl0 rfl ?_
      refine ev_iload_n dX10_nextOrder_15 rfl ?_
      obtain ⟨c2, hB⟩ := ck_of hB
      refine es_iald dX10_nextOrder_16 (tr_10_53 hl0) c2 ?_
      refine ev_aload_n dX10_nextOrder_17 rfl ?_
      refine es_getr k_10 53 dX10_nextOrder_18 (by decide) rfl (Or.inl w_1578) hl0 rfl ?_
      refine ev_iload_n dX10_nextOrder_21 rfl ?_
      refine ev_iconst 1 dX10_nextOrder_22 (by decide) ?_
      refine ev_iadd dX10_nextOrder_23 ?_
      obtain ⟨c3, hB⟩ := ck_of hB
      refine es_iald dX10_nextOrder_24 (tr_10_53 hl0) c3 ?_
      refine ev_icmple 34 dX10_nextOrder_25 (by decide) (fun q4 => ?_) (fun q4 => ?_)
      · rw [if_pos q4] at hB
        exact ev_ls (u_X10_nextOrder_34 l0 l1 S hl0 hB) (And.intro rfl (And.intro rfl trivial))
      · rw [if_neg q4] at hB
        refine es_iinc (-1) dX10_nextOrder_28 rfl (by decide) (by decide) rfl ?_
        refine ev_goto 7 dX10_nextOrder_31 (by decide) ?_
        exact ev_ls (ih l0 (l1 + (-1)) S hl0 hB) (And.intro rfl (And.intro rfl trivial))
theorem t_X10_nextOrder {G : am_G} {N : Nat} {l0 : Nat} {S : am_S} {out : Int32 × am_S} (hl0 : isC 10 l0 = true) (hB : f_X10_nextOrder N l0 S = some out) : am_Met G 2 mX10_nextOrder 0 0 [.ref l0] (hp S) (q_i out) q_n := by
  refine am_of (by decide +kernel) rfl rfl rfl (Nat.le_of_ble_eq_true rfl) ?_
  unfold f_X10_nextOrder at hB
  refine ev_aload_n dX10_nextOrder_0 rfl ?_
  refine es_geti k_10 1 dX10_nextOrder_1 (by decide) rfl (Or.inl w_1526) hl0 rfl ?_
  refine ev_iconst 2 dX10_nextOrder_4 (by decide) ?_
  refine ev_isub dX10_nextOrder_5 ?_
  refine ev_istore_n dX10_nextOrder_6 (by decide) rfl ?_
  exact ev_ls (u_X10_nextOrder_7 N l0 ((sg S l0 1) - 2) S hl0 hB) (And.intro rfl (And.intro rfl trivial))
def b_X10_order_125 (N : Nat) (k74 : Nat → Int32 → Int32 → Int32 → am_S → Option (Int32 × am_S)) (l0 : Nat) (l1 : Int32) (l2 : Int32) (S : am_S) : Option (Int32 × am_S) := (bd (f_X10_nextOrder N l0 S) (fun r1 S2 => k74 l0 l1 l2 r1 S2))
def b_X10_order_153 (N : Nat) (z0 : Int32) (S : am_S) : Option (Int32 × am_S) := some (z0, S)
def b_X10_order_74 (N : Nat) : Nat → Nat → Int32 → Int32 → Int32 → am_S → Option (Int32 × am_S)
  | 0, _, _, _, _, _ => none
  | n + 1, l0, l1, l2, l3, S => (if l3 = 0 then (if l1 = (-1) then b_X10_order_153 N l2 (sp S l0 52 0) else (if inb l1 (ln (rf l0 55)) = true then b_X10_order_153 N (sg (sp S l0 52 0) (rf l0 55) (Int32.toNatClampNeg l1)) (sp S l0 52 0) else none)) else (bv (f_X10_goesTo N l0 (sg S l0 1) S) (fun S5 => (bd (f_X10_sumOf N l0 80 64 S5) (fun r7 S8 => (bd (f_X10_sumOf N l0 0 64 S8) (fun r10 S11 => (if (r7 - r10) ≤ l2 then b_X10_order_125 N (b_X10_order_74 N n) l0 l1 l2 S11 else (bv (f_X10_copies N l0 (rf l0 53) (rf l0 55) S11) (fun S15 => b_X10_order_125 N (b_X10_order_74 N n) l0 l1 (r7 - r10) S15))))))))))
def b_X10_order_44 (N : Nat) : Nat → Nat → Int32 → Int32 → am_S → Option (Int32 × am_S)
  | 0, _, _, _, _ => none
  | n + 1, l0, l1, l2, S => (if (sg S l0 1) ≤ l2 then b_X10_order_74 N N l0 l1 (-1) 1 (sp S l0 52 1) else (if inb l2 (ln (rf l0 53)) = true then b_X10_order_44 N n l0 l1 (l2 + 1) (sp S (rf l0 53) (Int32.toNatClampNeg l2) l2) else none))
def b_X10_order_24 (N : Nat) (l0 : Nat) (l1 : Int32) (z0 : Nat) (z1 : Int32) (S : am_S) : Option (Int32 × am_S) := (bd (f_X10_right N z0 z1 1 S) (fun r1 S2 => (if r1 = 0 then some (0, S2) else (if (sg S2 l0 1) = 0 then some ((-1), S2) else b_X10_order_44 N N l0 l1 0 S2))))
def b_X10_order_23 (N : Nat) (l0 : Nat) (l1 : Int32) (z0 : Nat) (S : am_S) : Option (Int32 × am_S) := b_X10_order_24 N l0 l1 z0 0 S
def f_X10_order (N : Nat) (l0 : Nat) (l1 : Int32) (S : am_S) : Option (Int32 × am_S) := (if l1 < (-1) then b_X10_order_23 N l0 l1 l0 (sp S l0 0 0) else (if (sg (sp S l0 0 0) l0 1) ≤ l1 then b_X10_order_23 N l0 l1 l0 (sp S l0 0 0) else b_X10_order_24 N l0 l1 l0 1 (sp S l0 0 0)))
theorem u_X10_order_125 {G : am_G} {N : Nat} {h0 : am_H} {out : Int32 × am_S} {k74 : Nat → Int32 → Int32 → Int32 → am_S → Option (Int32 × am_S)} (hk74 : ∀ (l0 : Nat) (l1 : Int32) (l2 : Int32) (l3 : Int32) (S : am_S), isC 10 l0 = true → k74 l0 l1 l2 l3 S = some out → Ev G (am_R 8 0 0) (am_Φ G h0 0 0 (q_i out) q_n) mX10_order 0 0 74 [some (.ref l0), some (.int l1), some (.int l2), some (.int l3), none] [] (hp S)) (l0 : Nat) (l1 : Int32) (l2 : Int32) (S : am_S) (hl0 : isC 10 l0 = true) (hB : b_X10_order_125 N k74 l0 l1 l2 S = some out) : Ev G (am_R 8 0 0) (am_Φ G h0 0 0 (q_i out) q_n) mX10_order 0 0 125 [some (.ref l0), some (.int l1), some (.int l2), none, none] [] (hp S) := by
  unfold b_X10_order_125 at hB
  refine ev_aload_n dX10_order_125 rfl ?_
  obtain ⟨r1, S2, e3, hB⟩ := bd_of hB
  refine es_callVi (As := []) (t_X10_nextOrder hl0 e3) dX10_order_126 oX10_nextOrder w_2137 rfl hl0 rfl rfl (Nat.le_of_ble_eq_true rfl) rfl (am_fit.of (by decide)) ⟨Nat.zero_le _, Nat.zero_le _⟩ ?_
  refine ev_istore_n dX10_order_129 (by decide) rfl ?_
  refine ev_goto 74 dX10_order_130 (by decide) ?_
  exact ev_ls (hk74 l0 l1 l2 r1 S2 hl0 hB) (And.intro rfl (And.intro rfl (And.intro rfl (And.intro rfl trivial))))
theorem u_X10_order_153 {G : am_G} {N : Nat} {h0 : am_H} {out : Int32 × am_S} (z0 : Int32) (S : am_S) (hB : b_X10_order_153 N z0 S = some out) : Ev G (am_R 8 0 0) (am_Φ G h0 0 0 (q_i out) q_n) mX10_order 0 0 153 [none, none, none, none, none] [.int z0] (hp S) := by
  unfold b_X10_order_153 at hB
  obtain rfl := Option.some.inj hB
  exact ev_iret dX10_order_153 rfl (Nat.zero_le _) (Nat.zero_le _) (fun z => absurd z (hp_sealed _)) ⟨rfl, rfl⟩
theorem u_X10_order_74 {G : am_G} {N : Nat} {h0 : am_H} {out : Int32 × am_S} : ∀ (n : Nat) (l0 : Nat) (l1 : Int32) (l2 : Int32) (l3 : Int32) (S : am_S), isC 10 l0 = true → b_X10_order_74 N n l0 l1 l2 l3 S = some out → Ev G (am_R 8 0 0) (am_Φ G h0 0 0 (q_i out) q_n) mX10_order 0 0 74 [some (.ref l0), some (.int l1), some (.int l2), some (.int l3), none] [] (hp S) := by
  intro n
  induction n with
  | zero =>
    intro l0 l1 l2 l3 S hl0 hB
    exact absurd (show none = some out from hB) (fun q => by cases q)
  | succ n ih =>
    intro l0 l1 l2 l3 S hl0 hB
    unfold b_X10_order_74 at hB
    refine ev_iload_n dX10_order_74 rfl ?_
    refine ev_ifeq 133 dX10_order_75 (by decide) (fun q1 => ?_) (fun q1 => ?_)
    · rw [if_pos q1] at hB
      refine ev_aload_n dX10_order_133 rfl ?_
      refine ev_iconst 0 dX10_order_134 (by decide) ?_
      refine es_putz k_10 52 dX10_order_135 (by decide) rfl (Or.inl w_1577) rfl rfl (Or.inl rfl) hl0 rfl ?_
      refine ev_iload_n dX10_order_138 rfl ?_
      refine ev_iconst (-1) dX10_order_139 (by decide) ?_
      refine ev_icmpne 147 dX10_order_140 (by decide) (fun q2 => ?_) (fun q2 => ?_)
      · rw [if_neg q2] at hB
        refine ev_aload_n dX10_order_147 rfl ?_
        refine es_getr k_10 55 dX10_order_148 (by decide) rfl (Or.inl w_1580) hl0 rfl ?_
        refine ev_iload_n dX10_order_151 rfl ?_
        obtain ⟨c3, hB⟩ := ck_of hB
        refine es_iald dX10_order_152 (tr_10_55 hl0) c3 ?_
        exact ev_ls (u_X10_order_153 (sg (sp S l0 52 0) (rf l0 55) (Int32.toNatClampNeg l1)) (sp S l0 52 0) hB) trivial
      · rw [if_pos q2] at hB
        refine ev_iload_n dX10_order_143 rfl ?_
        refine ev_goto 153 dX10_order_144 (by decide) ?_
        exact ev_ls (u_X10_order_153 l2 (sp S l0 52 0) hB) trivial
    · rw [if_neg q1] at hB
      refine ev_aload_n dX10_order_78 rfl ?_
      refine ev_aload_n dX10_order_79 rfl ?_
      refine es_geti k_10 1 dX10_order_80 (by decide) rfl (Or.inl w_1526) hl0 rfl ?_
      obtain ⟨S5, e6, hB⟩ := bv_of hB
      refine es_callVv (As := [.int (sg S l0 1)]) (t_X10_goesTo hl0 e6) dX10_order_83 oX10_goesTo w_2030 rfl hl0 rfl rfl (Nat.le_of_ble_eq_true rfl) rfl (am_fit.of (by decide)) ⟨Nat.zero_le _, Nat.zero_le _⟩ ?_
      refine ev_aload_n dX10_order_86 rfl ?_
      refine ev_bipush 80 dX10_order_87 (by decide) ?_
      refine ev_bipush 64 dX10_order_89 (by decide) ?_
      obtain ⟨r7, S8, e9, hB⟩ := bd_of hB
      refine es_callVi (As := [.int 80, .int 64]) (t_X10_sumOf hl0 e9) dX10_order_91 oX10_sumOf w_1894 rfl hl0 rfl rfl (Nat.le_of_ble_eq_true rfl) rfl (am_fit.of (by decide)) ⟨Nat.zero_le _, Nat.zero_le _⟩ ?_
      refine ev_aload_n dX10_order_94 rfl ?_
      refine ev_iconst 0 dX10_order_95 (by decide) ?_
      refine ev_bipush 64 dX10_order_96 (by decide) ?_
      obtain ⟨r10, S11, e12, hB⟩ := bd_of hB
      refine es_callVi (As := [.int 0, .int 64]) (t_X10_sumOf hl0 e12) dX10_order_98 oX10_sumOf w_1894 rfl hl0 rfl rfl (Nat.le_of_ble_eq_true rfl) rfl (am_fit.of (by decide)) ⟨Nat.zero_le _, Nat.zero_le _⟩ ?_
      refine ev_isub dX10_order_101 ?_
      refine ev_istore dX10_order_102 (by decide) rfl ?_
      refine ev_iload dX10_order_104 rfl ?_
      refine ev_iload_n dX10_order_106 rfl ?_
      refine ev_icmple 125 dX10_order_107 (by decide) (fun q13 => ?_) (fun q13 => ?_)
      · rw [if_pos q13] at hB
        exact ev_ls (u_X10_order_125 ih l0 l1 l2 S11 hl0 hB) (And.intro rfl (And.intro rfl (And.intro rfl trivial)))
      · rw [if_neg q13] at hB
        refine ev_iload dX10_order_110 rfl ?_
        refine ev_istore_n dX10_order_112 (by decide) rfl ?_
        refine ev_aload_n dX10_order_113 rfl ?_
        refine ev_aload_n dX10_order_114 rfl ?_
        refine es_getr k_10 53 dX10_order_115 (by decide) rfl (Or.inl w_1578) hl0 rfl ?_
        refine ev_aload_n dX10_order_118 rfl ?_
        refine es_getr k_10 55 dX10_order_119 (by decide) rfl (Or.inl w_1580) hl0 rfl ?_
        obtain ⟨S15, e16, hB⟩ := bv_of hB
        refine es_callVv (As := [.ref (rf l0 53), .ref (rf l0 55)]) (t_X10_copies hl0 (tr_10_53 hl0) (tr_10_55 hl0) e16) dX10_order_122 oX10_copies w_1859 rfl hl0 rfl rfl (Nat.le_of_ble_eq_true rfl) rfl (am_fit.of (by decide)) ⟨Nat.zero_le _, Nat.zero_le _⟩ ?_
        exact ev_ls (u_X10_order_125 ih l0 l1 (r7 - r10) S15 hl0 hB) (And.intro rfl (And.intro rfl (And.intro rfl trivial)))
theorem u_X10_order_44 {G : am_G} {N : Nat} {h0 : am_H} {out : Int32 × am_S} : ∀ (n : Nat) (l0 : Nat) (l1 : Int32) (l2 : Int32) (S : am_S), isC 10 l0 = true → b_X10_order_44 N n l0 l1 l2 S = some out → Ev G (am_R 8 0 0) (am_Φ G h0 0 0 (q_i out) q_n) mX10_order 0 0 44 [some (.ref l0), some (.int l1), some (.int l2), none, none] [] (hp S) := by
  intro n
  induction n with
  | zero =>
    intro l0 l1 l2 S hl0 hB
    exact absurd (show none = some out from hB) (fun q => by cases q)
  | succ n ih =>
    intro l0 l1 l2 S hl0 hB
    unfold b_X10_order_44 at hB
    refine ev_iload_n dX10_order_44 rfl ?_
    refine ev_aload_n dX10_order_45 rfl ?_
    refine es_geti k_10 1 dX10_order_46 (by decide) rfl (Or.inl w_1526) hl0 rfl ?_
    refine ev_icmpge 65 dX10_order_49 (by decide) (fun q1 => ?_) (fun q1 => ?_)
    · rw [if_pos q1] at hB
      refine ev_iconst (-1) dX10_order_65 (by decide) ?_
      refine ev_istore_n dX10_order_66 (by decide) rfl ?_
      refine ev_iconst 1 dX10_order_67 (by decide) ?_
      refine ev_istore_n dX10_order_68 (by decide) rfl ?_
      refine ev_aload_n dX10_order_69 rfl ?_
      refine ev_iconst 1 dX10_order_70 (by decide) ?_
      refine es_putz k_10 52 dX10_order_71 (by decide) rfl (Or.inl w_1577) rfl rfl (Or.inr rfl) hl0 rfl ?_
      exact ev_ls (u_X10_order_74 N l0 l1 (-1) 1 (sp S l0 52 1) hl0 hB) (And.intro rfl (And.intro rfl (And.intro rfl (And.intro rfl trivial))))
    · rw [if_neg q1] at hB
      refine ev_aload_n dX10_order_52 rfl ?_
      refine es_getr k_10 53 dX10_order_53 (by decide) rfl (Or.inl w_1578) hl0 rfl ?_
      refine ev_iload_n dX10_order_56 rfl ?_
      refine ev_iload_n dX10_order_57 rfl ?_
      obtain ⟨c2, hB⟩ := ck_of hB
      refine es_iast dX10_order_58 (tr_10_53 hl0) c2 ?_
      refine es_iinc 1 dX10_order_59 rfl (by decide) (by decide) rfl ?_
      refine ev_goto 44 dX10_order_62 (by decide) ?_
      exact ev_ls (ih l0 l1 (l2 + 1) (sp S (rf l0 53) (Int32.toNatClampNeg l2) l2) hl0 hB) (And.intro rfl (And.intro rfl (And.intro rfl trivial)))
theorem u_X10_order_24 {G : am_G} {N : Nat} {h0 : am_H} {out : Int32 × am_S} (l0 : Nat) (l1 : Int32) (z0 : Nat) (z1 : Int32) (S : am_S) (hl0 : isC 10 l0 = true) (hz0 : isC 10 z0 = true) (hB : b_X10_order_24 N l0 l1 z0 z1 S = some out) : Ev G (am_R 8 0 0) (am_Φ G h0 0 0 (q_i out) q_n) mX10_order 0 0 24 [some (.ref l0), some (.int l1), none, none, none] [.int z1, .ref z0] (hp S) := by
  unfold b_X10_order_24 at hB
  refine ev_iconst 1 dX10_order_24 (by decide) ?_
  obtain ⟨r1, S2, e3, hB⟩ := bd_of hB
  refine es_callVi (As := [.int z1, .int 1]) (t_X10_right hz0 e3) dX10_order_25 oX10_right w_1744 rfl hz0 rfl rfl (Nat.le_of_ble_eq_true rfl) rfl (am_fit.of (by decide)) ⟨Nat.zero_le _, Nat.zero_le _⟩ ?_
  refine ev_ifne 33 dX10_order_28 (by decide) (fun q4 => ?_) (fun q4 => ?_)
  · rw [if_neg q4] at hB
    refine ev_aload_n dX10_order_33 rfl ?_
    refine es_geti k_10 1 dX10_order_34 (by decide) rfl (Or.inl w_1526) hl0 rfl ?_
    refine ev_ifne 42 dX10_order_37 (by decide) (fun q5 => ?_) (fun q5 => ?_)
    · rw [if_neg q5] at hB
      refine ev_iconst 0 dX10_order_42 (by decide) ?_
      refine ev_istore_n dX10_order_43 (by decide) rfl ?_
      exact ev_ls (u_X10_order_44 N l0 l1 0 S2 hl0 hB) (And.intro rfl (And.intro rfl (And.intro rfl trivial)))
    · rw [if_pos q5] at hB
      refine ev_iconst (-1) dX10_order_40 (by decide) ?_
      obtain rfl := Option.some.inj hB
      exact ev_iret dX10_order_41 rfl (Nat.zero_le _) (Nat.zero_le _) (fun z => absurd z (hp_sealed _)) ⟨rfl, rfl⟩
  · rw [if_pos q4] at hB
    refine ev_iconst 0 dX10_order_31 (by decide) ?_
    obtain rfl := Option.some.inj hB
    exact ev_iret dX10_order_32 rfl (Nat.zero_le _) (Nat.zero_le _) (fun z => absurd z (hp_sealed _)) ⟨rfl, rfl⟩
theorem u_X10_order_23 {G : am_G} {N : Nat} {h0 : am_H} {out : Int32 × am_S} (l0 : Nat) (l1 : Int32) (z0 : Nat) (S : am_S) (hl0 : isC 10 l0 = true) (hz0 : isC 10 z0 = true) (hB : b_X10_order_23 N l0 l1 z0 S = some out) : Ev G (am_R 8 0 0) (am_Φ G h0 0 0 (q_i out) q_n) mX10_order 0 0 23 [some (.ref l0), some (.int l1), none, none, none] [.ref z0] (hp S) := by
  unfold b_X10_order_23 at hB
  refine ev_iconst 0 dX10_order_23 (by decide) ?_
  exact ev_ls (u_X10_order_24 l0 l1 z0 0 S hl0 hz0 hB) (And.intro rfl (And.intro rfl trivial))
theorem t_X10_order {G : am_G} {N : Nat} {l0 : Nat} {l1 : Int32} {S : am_S} {out : Int32 × am_S} (hl0 : isC 10 l0 = true) (hB : f_X10_order N l0 l1 S = some out) : am_Met G 8 mX10_order 0 0 [.ref l0, .int l1] (hp S) (q_i out) q_n := by
  refine am_of (by decide +kernel) rfl rfl rfl (Nat.le_of_ble_eq_true rfl) ?_
  unfold f_X10_order at hB
  refine ev_aload_n dX10_order_0 rfl ?_
  refine ev_iconst 0 dX10_order_1 (by decide) ?_
  refine es_puti k_10 0 dX10_order_2 (by decide) rfl (Or.inl w_1525) rfl rfl hl0 rfl ?_
  refine ev_aload_n dX10_order_5 rfl ?_
  refine ev_iload_n dX10_order_6 rfl ?_
  refine ev_iconst (-1) dX10_order_7 (by decide) ?_
  refine ev_icmplt 23 dX10_order_8 (by decide) (fun q1 => ?_) (fun q1 => ?_)
  · rw [if_pos q1] at hB
    exact ev_ls (u_X10_order_23 l0 l1 l0 (sp S l0 0 0) hl0 hl0 hB) (And.intro rfl (And.intro rfl trivial))
  · rw [if_neg q1] at hB
    refine ev_iload_n dX10_order_11 rfl ?_
    refine ev_aload_n dX10_order_12 rfl ?_
    refine es_geti k_10 1 dX10_order_13 (by decide) rfl (Or.inl w_1526) hl0 rfl ?_
    refine ev_icmpge 23 dX10_order_16 (by decide) (fun q2 => ?_) (fun q2 => ?_)
    · rw [if_pos q2] at hB
      exact ev_ls (u_X10_order_23 l0 l1 l0 (sp S l0 0 0) hl0 hl0 hB) (And.intro rfl (And.intro rfl trivial))
    · rw [if_neg q2] at hB
      refine ev_iconst 1 dX10_order_19 (by decide) ?_
      refine ev_goto 24 dX10_order_20 (by decide) ?_
      exact ev_ls (u_X10_order_24 l0 l1 l0 1 (sp S l0 0 0) hl0 hl0 hB) (And.intro rfl (And.intro rfl trivial))
def b_X10_note_45 (N : Nat) (l0 : Nat) (S : am_S) : Option (Int32 × am_S) := (bd (f_X10_refuses N l0 2 S) (fun r1 S2 => some (r1, S2)))
def f_X10_note (N : Nat) (l0 : Nat) (l1 : Int32) (l2 : Int32) (l3 : Int32) (S : am_S) : Option (Int32 × am_S) := (bd (f_X10_isPerson N l0 l1 (sp S l0 0 0)) (fun r1 S2 => (if r1 = 0 then some (0, S2) else (if (sg S2 l0 56) = 8 then b_X10_note_45 N l0 S2 else (bd (f_X10_within N l2 0 20 S2) (fun r6 S7 => (if r6 = 0 then b_X10_note_45 N l0 S7 else (bd (f_X10_within N l3 0 9999 S7) (fun r10 S11 => (if r10 = 0 then b_X10_note_45 N l0 S11 else (if inb (3 * (sg S11 l0 56)) (ln (rf l0 57)) = true then (if inb ((3 * (sg (sp S11 (rf l0 57) (Int32.toNatClampNeg (3 * (sg S11 l0 56))) l1) l0 56)) + 1) (ln (rf l0 57)) = true then (if inb ((3 * (sg (sp (sp S11 (rf l0 57) (Int32.toNatClampNeg (3 * (sg S11 l0 56))) l1) (rf l0 57) (Int32.toNatClampNeg ((3 * (sg (sp S11 (rf l0 57) (Int32.toNatClampNeg (3 * (sg S11 l0 56))) l1) l0 56)) + 1)) l2) l0 56)) + 2) (ln (rf l0 57)) = true then some ((sg (sp (sp (sp (sp S11 (rf l0 57) (Int32.toNatClampNeg (3 * (sg S11 l0 56))) l1) (rf l0 57) (Int32.toNatClampNeg ((3 * (sg (sp S11 (rf l0 57) (Int32.toNatClampNeg (3 * (sg S11 l0 56))) l1) l0 56)) + 1)) l2) (rf l0 57) (Int32.toNatClampNeg ((3 * (sg (sp (sp S11 (rf l0 57) (Int32.toNatClampNeg (3 * (sg S11 l0 56))) l1) (rf l0 57) (Int32.toNatClampNeg ((3 * (sg (sp S11 (rf l0 57) (Int32.toNatClampNeg (3 * (sg S11 l0 56))) l1) l0 56)) + 1)) l2) l0 56)) + 2)) l3) l0 56 ((sg (sp (sp (sp S11 (rf l0 57) (Int32.toNatClampNeg (3 * (sg S11 l0 56))) l1) (rf l0 57) (Int32.toNatClampNeg ((3 * (sg (sp S11 (rf l0 57) (Int32.toNatClampNeg (3 * (sg S11 l0 56))) l1) l0 56)) + 1)) l2) (rf l0 57) (Int32.toNatClampNeg ((3 * (sg (sp (sp S11 (rf l0 57) (Int32.toNatClampNeg (3 * (sg S11 l0 56))) l1) (rf l0 57) (Int32.toNatClampNeg ((3 * (sg (sp S11 (rf l0 57) (Int32.toNatClampNeg (3 * (sg S11 l0 56))) l1) l0 56)) + 1)) l2) l0 56)) + 2)) l3) l0 56) + 1)) l0 56), (sp (sp (sp (sp S11 (rf l0 57) (Int32.toNatClampNeg (3 * (sg S11 l0 56))) l1) (rf l0 57) (Int32.toNatClampNeg ((3 * (sg (sp S11 (rf l0 57) (Int32.toNatClampNeg (3 * (sg S11 l0 56))) l1) l0 56)) + 1)) l2) (rf l0 57) (Int32.toNatClampNeg ((3 * (sg (sp (sp S11 (rf l0 57) (Int32.toNatClampNeg (3 * (sg S11 l0 56))) l1) (rf l0 57) (Int32.toNatClampNeg ((3 * (sg (sp S11 (rf l0 57) (Int32.toNatClampNeg (3 * (sg S11 l0 56))) l1) l0 56)) + 1)) l2) l0 56)) + 2)) l3) l0 56 ((sg (sp (sp (sp S11 (rf l0 57) (Int32.toNatClampNeg (3 * (sg S11 l0 56))) l1) (rf l0 57) (Int32.toNatClampNeg ((3 * (sg (sp S11 (rf l0 57) (Int32.toNatClampNeg (3 * (sg S11 l0 56))) l1) l0 56)) + 1)) l2) (rf l0 57) (Int32.toNatClampNeg ((3 * (sg (sp (sp S11 (rf l0 57) (Int32.toNatClampNeg (3 * (sg S11 l0 56))) l1) (rf l0 57) (Int32.toNatClampNeg ((3 * (sg (sp S11 (rf l0 57) (Int32.toNatClampNeg (3 * (sg S11 l0 56))) l1) l0 56)) + 1)) l2) l0 56)) + 2)) l3) l0 56) + 1))) else none) else none) else none)))))))))))
theorem u_X10_note_45 {G : am_G} {N : Nat} {h0 : am_H} {out : Int32 × am_S} (l0 : Nat) (S : am_S) (hl0 : isC 10 l0 = true) (hB : b_X10_note_45 N l0 S = some out) : Ev G (am_R 3 0 0) (am_Φ G h0 0 0 (q_i out) q_n) mX10_note 0 0 45 [some (.ref l0), none, none, none] [] (hp S) := by
  unfold b_X10_note_45 at hB
  refine ev_aload_n dX10_note_45 rfl ?_
  refine ev_iconst 2 dX10_note_46 (by decide) ?_
  obtain ⟨r1, S2, e3, hB⟩ := bd_of hB
  refine es_callVi (As := [.int 2]) (t_X10_refuses hl0 e3) dX10_note_47 oX10_refuses w_1953 rfl hl0 rfl rfl (Nat.le_of_ble_eq_true rfl) rfl (am_fit.of (by decide)) ⟨Nat.zero_le _, Nat.zero_le _⟩ ?_
  obtain rfl := Option.some.inj hB
  exact ev_iret dX10_note_50 rfl (Nat.zero_le _) (Nat.zero_le _) (fun z => absurd z (hp_sealed _)) ⟨rfl, rfl⟩
theorem t_X10_note {G : am_G} {N : Nat} {l0 : Nat} {l1 : Int32} {l2 : Int32} {l3 : Int32} {S : am_S} {out : Int32 × am_S} (hl0 : isC 10 l0 = true) (hB : f_X10_note N l0 l1 l2 l3 S = some out) : am_Met G 3 mX10_note 0 0 [.ref l0, .int l1, .int l2, .int l3] (hp S) (q_i out) q_n := by
  refine am_of (by decide +kernel) rfl rfl rfl (Nat.le_of_ble_eq_true rfl) ?_
  unfold f_X10_note at hB
  refine ev_aload_n dX10_note_0 rfl ?_
  refine ev_iconst 0 dX10_note_1 (by decide) ?_
  refine es_puti k_10 0 dX10_note_2 (by decide) rfl (Or.inl w_1525) rfl rfl hl0 rfl ?_
  refine ev_aload_n dX10_note_5 rfl ?_
  refine ev_iload_n dX10_note_6 rfl ?_
  obtain ⟨r1, S2, e3, hB⟩ := bd_of hB
  refine es_callVi (As := [.int l1]) (t_X10_isPerson hl0 e3) dX10_note_7 oX10_isPerson w_1941 rfl hl0 rfl rfl (Nat.le_of_ble_eq_true rfl) rfl (am_fit.of (by decide)) ⟨Nat.zero_le _, Nat.zero_le _⟩ ?_
  refine ev_ifne 15 dX10_note_10 (by decide) (fun q4 => ?_) (fun q4 => ?_)
  · rw [if_neg q4] at hB
    refine ev_aload_n dX10_note_15 rfl ?_
    refine es_geti k_10 56 dX10_note_16 (by decide) rfl (Or.inl w_1581) hl0 rfl ?_
    refine ev_bipush 8 dX10_note_19 (by decide) ?_
    refine ev_icmpeq 45 dX10_note_21 (by decide) (fun q5 => ?_) (fun q5 => ?_)
    · rw [if_pos q5] at hB
      exact ev_ls (u_X10_note_45 l0 S2 hl0 hB) (And.intro rfl trivial)
    · rw [if_neg q5] at hB
      refine ev_iload_n dX10_note_24 rfl ?_
      refine ev_iconst 0 dX10_note_25 (by decide) ?_
      refine ev_bipush 20 dX10_note_26 (by decide) ?_
      obtain ⟨r6, S7, e8, hB⟩ := bd_of hB
      refine es_callSi (As := [.int l2, .int 0, .int 20]) (t_X10_within e8) dX10_note_28 oX10_within w_1875 rfl (Nat.le_of_ble_eq_true rfl) rfl (am_fit.of (by decide)) ⟨Nat.zero_le _, Nat.zero_le _⟩ ?_
      refine ev_ifeq 45 dX10_note_31 (by decide) (fun q9 => ?_) (fun q9 => ?_)
      · rw [if_pos q9] at hB
        exact ev_ls (u_X10_note_45 l0 S7 hl0 hB) (And.intro rfl trivial)
      · rw [if_neg q9] at hB
        refine ev_iload_n dX10_note_34 rfl ?_
        refine ev_iconst 0 dX10_note_35 (by decide) ?_
        refine ev_sipush 9999 dX10_note_36 (by decide) ?_
        obtain ⟨r10, S11, e12, hB⟩ := bd_of hB
        refine es_callSi (As := [.int l3, .int 0, .int 9999]) (t_X10_within e12) dX10_note_39 oX10_within w_1875 rfl (Nat.le_of_ble_eq_true rfl) rfl (am_fit.of (by decide)) ⟨Nat.zero_le _, Nat.zero_le _⟩ ?_
        refine ev_ifne 51 dX10_note_42 (by decide) (fun q13 => ?_) (fun q13 => ?_)
        · rw [if_neg q13] at hB
          refine ev_aload_n dX10_note_51 rfl ?_
          refine es_getr k_10 57 dX10_note_52 (by decide) rfl (Or.inl w_1582) hl0 rfl ?_
          refine ev_iconst 3 dX10_note_55 (by decide) ?_
          refine ev_aload_n dX10_note_56 rfl ?_
          refine es_geti k_10 56 dX10_note_57 (by decide) rfl (Or.inl w_1581) hl0 rfl ?_
          refine ev_imul dX10_note_60 ?_
          refine ev_iload_n dX10_note_61 rfl ?_
          obtain ⟨c14, hB⟩ := ck_of hB
          refine es_iast dX10_note_62 (tr_10_57 hl0) c14 ?_
          refine ev_aload_n dX10_note_63 rfl ?_
          refine es_getr k_10 57 dX10_note_64 (by decide) rfl (Or.inl w_1582) hl0 rfl ?_
          refine ev_iconst 3 dX10_note_67 (by decide) ?_
          refine ev_aload_n dX10_note_68 rfl ?_
          refine es_geti k_10 56 dX10_note_69 (by decide) rfl (Or.inl w_1581) hl0 rfl ?_
          refine ev_imul dX10_note_72 ?_
          refine ev_iconst 1 dX10_note_73 (by decide) ?_
          refine ev_iadd dX10_note_74 ?_
          refine ev_iload_n dX10_note_75 rfl ?_
          obtain ⟨c15, hB⟩ := ck_of hB
          refine es_iast dX10_note_76 (tr_10_57 hl0) c15 ?_
          refine ev_aload_n dX10_note_77 rfl ?_
          refine es_getr k_10 57 dX10_note_78 (by decide) rfl (Or.inl w_1582) hl0 rfl ?_
          refine ev_iconst 3 dX10_note_81 (by decide) ?_
          refine ev_aload_n dX10_note_82 rfl ?_
          refine es_geti k_10 56 dX10_note_83 (by decide) rfl (Or.inl w_1581) hl0 rfl ?_
          refine ev_imul dX10_note_86 ?_
          refine ev_iconst 2 dX10_note_87 (by decide) ?_
          refine ev_iadd dX10_note_88 ?_
          refine ev_iload_n dX10_note_89 rfl ?_
          obtain ⟨c16, hB⟩ := ck_of hB
          refine es_iast dX10_note_90 (tr_10_57 hl0) c16 ?_
          refine ev_aload_n dX10_note_91 rfl ?_
          refine ev_dup dX10_note_92 rfl ?_
          refine es_geti k_10 56 dX10_note_93 (by decide) rfl (Or.inl w_1581) hl0 rfl ?_
          refine ev_iconst 1 dX10_note_96 (by decide) ?_
          refine ev_iadd dX10_note_97 ?_
          refine es_puti k_10 56 dX10_note_98 (by decide) rfl (Or.inl w_1581) rfl rfl hl0 rfl ?_
          refine ev_aload_n dX10_note_101 rfl ?_
          refine es_geti k_10 56 dX10_note_102 (by decide) rfl (Or.inl w_1581) hl0 rfl ?_
          obtain rfl := Option.some.inj hB
          exact ev_iret dX10_note_105 rfl (Nat.zero_le _) (Nat.zero_le _) (fun z => absurd z (hp_sealed _)) ⟨rfl, rfl⟩
        · rw [if_pos q13] at hB
          exact ev_ls (u_X10_note_45 l0 S11 hl0 hB) (And.intro rfl trivial)
  · rw [if_pos q4] at hB
    refine ev_iconst 0 dX10_note_13 (by decide) ?_
    obtain rfl := Option.some.inj hB
    exact ev_iret dX10_note_14 rfl (Nat.zero_le _) (Nat.zero_le _) (fun z => absurd z (hp_sealed _)) ⟨rfl, rfl⟩
def f_X10_forget (N : Nat) (l0 : Nat) (S : am_S) : Option (am_S) := some (sp (sp S l0 0 0) l0 56 0)
theorem t_X10_forget {G : am_G} {N : Nat} {l0 : Nat} {S : am_S} {out : am_S} (hl0 : isC 10 l0 = true) (hB : f_X10_forget N l0 S = some out) : am_Met G 1 mX10_forget 0 0 [.ref l0] (hp S) (q_v out) q_n := by
  refine am_of (by decide +kernel) rfl rfl rfl (Nat.le_of_ble_eq_true rfl) ?_
  unfold f_X10_forget at hB
  refine ev_aload_n dX10_forget_0 rfl ?_
  refine ev_iconst 0 dX10_forget_1 (by decide) ?_
  refine es_puti k_10 0 dX10_forget_2 (by decide) rfl (Or.inl w_1525) rfl rfl hl0 rfl ?_
  refine ev_aload_n dX10_forget_5 rfl ?_
  refine ev_iconst 0 dX10_forget_6 (by decide) ?_
  refine es_puti k_10 56 dX10_forget_7 (by decide) rfl (Or.inl w_1581) rfl rfl hl0 rfl ?_
  obtain rfl := Option.some.inj hB
  exact ev_vret dX10_forget_10 rfl (Nat.zero_le _) (Nat.zero_le _) (fun z => absurd z (hp_sealed _)) ⟨rfl, rfl⟩
def b_X10_isNoted_64 (N : Nat) (k2 : Nat → Int32 → am_S → Option (Int32 × am_S)) (k10 : Nat → Int32 → Int32 → am_S → Option (Int32 × am_S)) (l0 : Nat) (l1 : Int32) (l2 : Int32) (S : am_S) : Option (Int32 × am_S) := k10 l0 l1 (l2 + 1) S
def b_X10_isNoted_107 (N : Nat) (k2 : Nat → Int32 → am_S → Option (Int32 × am_S)) (l0 : Nat) (l1 : Int32) (S : am_S) : Option (Int32 × am_S) := (bv (f_X10_dayGoes N l0 80 S) (fun S2 => k2 l0 (l1 + 1) S2))
def b_X10_isNoted_77 (N : Nat) (k2 : Nat → Int32 → am_S → Option (Int32 × am_S)) : Nat → Nat → Int32 → Int32 → am_S → Option (Int32 × am_S)
  | 0, _, _, _, _ => none
  | n + 1, l0, l1, l2, S => (if (sg S l0 2) ≤ l2 then b_X10_isNoted_107 N (k2) l0 l1 S else (if inb (144 + l2) (ln (rf l0 46)) = true then (if inb l2 (ln (rf l0 58)) = true then b_X10_isNoted_77 N k2 n l0 l1 (l2 + 1) (sp S (rf l0 58) (Int32.toNatClampNeg l2) (sg S (rf l0 46) (Int32.toNatClampNeg (144 + l2)))) else none) else none))
def b_X10_isNoted_10 (N : Nat) (k2 : Nat → Int32 → am_S → Option (Int32 × am_S)) : Nat → Nat → Int32 → Int32 → am_S → Option (Int32 × am_S)
  | 0, _, _, _, _ => none
  | n + 1, l0, l1, l2, S => (if (sg S l0 56) ≤ l2 then (if l1 = 5 then b_X10_isNoted_77 N (k2) N l0 l1 0 S else b_X10_isNoted_107 N (k2) l0 l1 S) else (if inb ((3 * l2) + 1) (ln (rf l0 57)) = true then (if (sg S (rf l0 57) (Int32.toNatClampNeg ((3 * l2) + 1))) = l1 then (if inb (3 * l2) (ln (rf l0 57)) = true then (if inb (144 + (sg S (rf l0 57) (Int32.toNatClampNeg (3 * l2)))) (ln (rf l0 46)) = true then (if inb ((3 * l2) + 2) (ln (rf l0 57)) = true then (if (sg S (rf l0 46) (Int32.toNatClampNeg (144 + (sg S (rf l0 57) (Int32.toNatClampNeg (3 * l2)))))) = (sg S (rf l0 57) (Int32.toNatClampNeg ((3 * l2) + 2))) then b_X10_isNoted_64 N (k2) (b_X10_isNoted_10 N k2 n) l0 l1 l2 S else some (0, S)) else none) else none) else none) else b_X10_isNoted_64 N (k2) (b_X10_isNoted_10 N k2 n) l0 l1 l2 S) else none))
def b_X10_isNoted_2 (N : Nat) : Nat → Nat → Int32 → am_S → Option (Int32 × am_S)
  | 0, _, _, _ => none
  | n + 1, l0, l1, S => (if 20 < l1 then some (1, S) else b_X10_isNoted_10 N (b_X10_isNoted_2 N n) N l0 l1 0 S)
def f_X10_isNoted (N : Nat) (l0 : Nat) (S : am_S) : Option (Int32 × am_S) := b_X10_isNoted_2 N N l0 0 S
theorem u_X10_isNoted_64 {G : am_G} {N : Nat} {h0 : am_H} {out : Int32 × am_S} {k2 : Nat → Int32 → am_S → Option (Int32 × am_S)} {k10 : Nat → Int32 → Int32 → am_S → Option (Int32 × am_S)} (hk2 : ∀ (l0 : Nat) (l1 : Int32) (S : am_S), isC 10 l0 = true → k2 l0 l1 S = some out → Ev G (am_R 6 0 0) (am_Φ G h0 0 0 (q_i out) q_n) mX10_isNoted 0 0 2 [some (.ref l0), some (.int l1), none] [] (hp S)) (hk10 : ∀ (l0 : Nat) (l1 : Int32) (l2 : Int32) (S : am_S), isC 10 l0 = true → k10 l0 l1 l2 S = some out → Ev G (am_R 6 0 0) (am_Φ G h0 0 0 (q_i out) q_n) mX10_isNoted 0 0 10 [some (.ref l0), some (.int l1), some (.int l2)] [] (hp S)) (l0 : Nat) (l1 : Int32) (l2 : Int32) (S : am_S) (hl0 : isC 10 l0 = true) (hB : b_X10_isNoted_64 N k2 k10 l0 l1 l2 S = some out) : Ev G (am_R 6 0 0) (am_Φ G h0 0 0 (q_i out) q_n) mX10_isNoted 0 0 64 [some (.ref l0), some (.int l1), some (.int l2)] [] (hp S) := by
  unfold b_X10_isNoted_64 at hB
  refine es_iinc 1 dX10_isNoted_64 rfl (by decide) (by decide) rfl ?_
  refine ev_goto 10 dX10_isNoted_67 (by decide) ?_
  exact ev_ls (hk10 l0 l1 (l2 + 1) S hl0 hB) (And.intro rfl (And.intro rfl (And.intro rfl trivial)))
theorem u_X10_isNoted_107 {G : am_G} {N : Nat} {h0 : am_H} {out : Int32 × am_S} {k2 : Nat → Int32 → am_S → Option (Int32 × am_S)} (hk2 : ∀ (l0 : Nat) (l1 : Int32) (S : am_S), isC 10 l0 = true → k2 l0 l1 S = some out → Ev G (am_R 6 0 0) (am_Φ G h0 0 0 (q_i out) q_n) mX10_isNoted 0 0 2 [some (.ref l0), some (.int l1), none] [] (hp S)) (l0 : Nat) (l1 : Int32) (S : am_S) (hl0 : isC 10 l0 = true) (hB : b_X10_isNoted_107 N k2 l0 l1 S = some out) : Ev G (am_R 6 0 0) (am_Φ G h0 0 0 (q_i out) q_n) mX10_isNoted 0 0 107 [some (.ref l0), some (.int l1), none] [] (hp S) := by
  unfold b_X10_isNoted_107 at hB
  refine ev_aload_n dX10_isNoted_107 rfl ?_
  refine ev_bipush 80 dX10_isNoted_108 (by decide) ?_
  obtain ⟨S2, e3, hB⟩ := bv_of hB
  refine es_callVv (As := [.int 80]) (t_X10_dayGoes hl0 e3) dX10_isNoted_110 oX10_dayGoes w_1961 rfl hl0 rfl rfl (Nat.le_of_ble_eq_true rfl) rfl (am_fit.of (by decide)) ⟨Nat.zero_le _, Nat.zero_le _⟩ ?_
  refine es_iinc 1 dX10_isNoted_113 rfl (by decide) (by decide) rfl ?_
  refine ev_goto 2 dX10_isNoted_116 (by decide) ?_
  exact ev_ls (hk2 l0 (l1 + 1) S2 hl0 hB) (And.intro rfl (And.intro rfl trivial))
theorem u_X10_isNoted_77 {G : am_G} {N : Nat} {h0 : am_H} {out : Int32 × am_S} {k2 : Nat → Int32 → am_S → Option (Int32 × am_S)} (hk2 : ∀ (l0 : Nat) (l1 : Int32) (S : am_S), isC 10 l0 = true → k2 l0 l1 S = some out → Ev G (am_R 6 0 0) (am_Φ G h0 0 0 (q_i out) q_n) mX10_isNoted 0 0 2 [some (.ref l0), some (.int l1), none] [] (hp S)) : ∀ (n : Nat) (l0 : Nat) (l1 : Int32) (l2 : Int32) (S : am_S), isC 10 l0 = true → b_X10_isNoted_77 N k2 n l0 l1 l2 S = some out → Ev G (am_R 6 0 0) (am_Φ G h0 0 0 (q_i out) q_n) mX10_isNoted 0 0 77 [some (.ref l0), some (.int l1), some (.int l2)] [] (hp S) := by
  intro n
  induction n with
  | zero =>
    intro l0 l1 l2 S hl0 hB
    exact absurd (show none = some out from hB) (fun q => by cases q)
  | succ n ih =>
    intro l0 l1 l2 S hl0 hB
    unfold b_X10_isNoted_77 at hB
    refine ev_iload_n dX10_isNoted_77 rfl ?_
    refine ev_aload_n dX10_isNoted_78 rfl ?_
    refine es_geti k_10 2 dX10_isNoted_79 (by decide) rfl (Or.inl w_1527) hl0 rfl ?_
    refine ev_icmpge 107 dX10_isNoted_82 (by decide) (fun q1 => ?_) (fun q1 => ?_)
    · rw [if_pos q1] at hB
      exact ev_ls (u_X10_isNoted_107 hk2 l0 l1 S hl0 hB) (And.intro rfl (And.intro rfl trivial))
    · rw [if_neg q1] at hB
      refine ev_aload_n dX10_isNoted_85 rfl ?_
      refine es_getr k_10 58 dX10_isNoted_86 (by decide) rfl (Or.inl w_1583) hl0 rfl ?_
      refine ev_iload_n dX10_isNoted_89 rfl ?_
      refine ev_aload_n dX10_isNoted_90 rfl ?_
      refine es_getr k_10 46 dX10_isNoted_91 (by decide) rfl (Or.inl w_1571) hl0 rfl ?_
      refine ev_sipush 144 dX10_isNoted_94 (by decide) ?_
      refine ev_iload_n dX10_isNoted_97 rfl ?_
      refine ev_iadd dX10_isNoted_98 ?_
      obtain ⟨c2, hB⟩ := ck_of hB
      refine es_iald dX10_isNoted_99 (tr_10_46 hl0) c2 ?_
      obtain ⟨c3, hB⟩ := ck_of hB
      refine es_iast dX10_isNoted_100 (tr_10_58 hl0) c3 ?_
      refine es_iinc 1 dX10_isNoted_101 rfl (by decide) (by decide) rfl ?_
      refine ev_goto 77 dX10_isNoted_104 (by decide) ?_
      exact ev_ls (ih l0 l1 (l2 + 1) (sp S (rf l0 58) (Int32.toNatClampNeg l2) (sg S (rf l0 46) (Int32.toNatClampNeg (144 + l2)))) hl0 hB) (And.intro rfl (And.intro rfl (And.intro rfl trivial)))
theorem u_X10_isNoted_10 {G : am_G} {N : Nat} {h0 : am_H} {out : Int32 × am_S} {k2 : Nat → Int32 → am_S → Option (Int32 × am_S)} (hk2 : ∀ (l0 : Nat) (l1 : Int32) (S : am_S), isC 10 l0 = true → k2 l0 l1 S = some out → Ev G (am_R 6 0 0) (am_Φ G h0 0 0 (q_i out) q_n) mX10_isNoted 0 0 2 [some (.ref l0), some (.int l1), none] [] (hp S)) : ∀ (n : Nat) (l0 : Nat) (l1 : Int32) (l2 : Int32) (S : am_S), isC 10 l0 = true → b_X10_isNoted_10 N k2 n l0 l1 l2 S = some out → Ev G (am_R 6 0 0) (am_Φ G h0 0 0 (q_i out) q_n) mX10_isNoted 0 0 10 [some (.ref l0), some (.int l1), some (.int l2)] [] (hp S) := by
  intro n
  induction n with
  | zero =>
    intro l0 l1 l2 S hl0 hB
    exact absurd (show none = some out from hB) (fun q => by cases q)
  | succ n ih =>
    intro l0 l1 l2 S hl0 hB
    unfold b_X10_isNoted_10 at hB
    refine ev_iload_n dX10_isNoted_10 rfl ?_
    refine ev_aload_n dX10_isNoted_11 rfl ?_
    refine es_geti k_10 56 dX10_isNoted_12 (by decide) rfl (Or.inl w_1581) hl0 rfl ?_
    refine ev_icmpge 70 dX10_isNoted_15 (by decide) (fun q1 => ?_) (fun q1 => ?_)
    · rw [if_pos q1] at hB
      refine ev_iload_n dX10_isNoted_70 rfl ?_
      refine ev_iconst 5 dX10_isNoted_71 (by decide) ?_
      refine ev_icmpne 107 dX10_isNoted_72 (by decide) (fun q2 => ?_) (fun q2 => ?_)
      · rw [if_neg q2] at hB
        exact ev_ls (u_X10_isNoted_107 hk2 l0 l1 S hl0 hB) (And.intro rfl (And.intro rfl trivial))
      · rw [if_pos q2] at hB
        refine ev_iconst 0 dX10_isNoted_75 (by decide) ?_
        refine ev_istore_n dX10_isNoted_76 (by decide) rfl ?_
        exact ev_ls (u_X10_isNoted_77 hk2 N l0 l1 0 S hl0 hB) (And.intro rfl (And.intro rfl (And.intro rfl trivial)))
    · rw [if_neg q1] at hB
      refine ev_aload_n dX10_isNoted_18 rfl ?_
      refine es_getr k_10 57 dX10_isNoted_19 (by decide) rfl (Or.inl w_1582) hl0 rfl ?_
      refine ev_iconst 3 dX10_isNoted_22 (by decide) ?_
      refine ev_iload_n dX10_isNoted_23 rfl ?_
      refine ev_imul dX10_isNoted_24 ?_
      refine ev_iconst 1 dX10_isNoted_25 (by decide) ?_
      refine ev_iadd dX10_isNoted_26 ?_
      obtain ⟨c3, hB⟩ := ck_of hB
      refine es_iald dX10_isNoted_27 (tr_10_57 hl0) c3 ?_
      refine ev_iload_n dX10_isNoted_28 rfl ?_
      refine ev_icmpne 64 dX10_isNoted_29 (by decide) (fun q4 => ?_) (fun q4 => ?_)
      · rw [if_neg q4] at hB
        exact ev_ls (u_X10_isNoted_64 hk2 ih l0 l1 l2 S hl0 hB) (And.intro rfl (And.intro rfl (And.intro rfl trivial)))
      · rw [if_pos q4] at hB
        refine ev_aload_n dX10_isNoted_32 rfl ?_
        refine es_getr k_10 46 dX10_isNoted_33 (by decide) rfl (Or.inl w_1571) hl0 rfl ?_
        refine ev_sipush 144 dX10_isNoted_36 (by decide) ?_
        refine ev_aload_n dX10_isNoted_39 rfl ?_
        refine es_getr k_10 57 dX10_isNoted_40 (by decide) rfl (Or.inl w_1582) hl0 rfl ?_
        refine ev_iconst 3 dX10_isNoted_43 (by decide) ?_
        refine ev_iload_n dX10_isNoted_44 rfl ?_
        refine ev_imul dX10_isNoted_45 ?_
        obtain ⟨c5, hB⟩ := ck_of hB
        refine es_iald dX10_isNoted_46 (tr_10_57 hl0) c5 ?_
        refine ev_iadd dX10_isNoted_47 ?_
        obtain ⟨c6, hB⟩ := ck_of hB
        refine es_iald dX10_isNoted_48 (tr_10_46 hl0) c6 ?_
        refine ev_aload_n dX10_isNoted_49 rfl ?_
        refine es_getr k_10 57 dX10_isNoted_50 (by decide) rfl (Or.inl w_1582) hl0 rfl ?_
        refine ev_iconst 3 dX10_isNoted_53 (by decide) ?_
        refine ev_iload_n dX10_isNoted_54 rfl ?_
        refine ev_imul dX10_isNoted_55 ?_
        refine ev_iconst 2 dX10_isNoted_56 (by decide) ?_
        refine ev_iadd dX10_isNoted_57 ?_
        obtain ⟨c7, hB⟩ := ck_of hB
        refine es_iald dX10_isNoted_58 (tr_10_57 hl0) c7 ?_
        refine ev_icmpeq 64 dX10_isNoted_59 (by decide) (fun q8 => ?_) (fun q8 => ?_)
        · rw [if_pos q8] at hB
          exact ev_ls (u_X10_isNoted_64 hk2 ih l0 l1 l2 S hl0 hB) (And.intro rfl (And.intro rfl (And.intro rfl trivial)))
        · rw [if_neg q8] at hB
          refine ev_iconst 0 dX10_isNoted_62 (by decide) ?_
          obtain rfl := Option.some.inj hB
          exact ev_zret dX10_isNoted_63 rfl (by rfl) (Nat.zero_le _) (Nat.zero_le _) (fun z => absurd z (hp_sealed _)) ⟨rfl, rfl⟩
theorem u_X10_isNoted_2 {G : am_G} {N : Nat} {h0 : am_H} {out : Int32 × am_S} : ∀ (n : Nat) (l0 : Nat) (l1 : Int32) (S : am_S), isC 10 l0 = true → b_X10_isNoted_2 N n l0 l1 S = some out → Ev G (am_R 6 0 0) (am_Φ G h0 0 0 (q_i out) q_n) mX10_isNoted 0 0 2 [some (.ref l0), some (.int l1), none] [] (hp S) := by
  intro n
  induction n with
  | zero =>
    intro l0 l1 S hl0 hB
    exact absurd (show none = some out from hB) (fun q => by cases q)
  | succ n ih =>
    intro l0 l1 S hl0 hB
    unfold b_X10_isNoted_2 at hB
    refine ev_iload_n dX10_isNoted_2 rfl ?_
    refine ev_bipush 20 dX10_isNoted_3 (by decide) ?_
    refine ev_icmpgt 119 dX10_isNoted_5 (by decide) (fun q1 => ?_) (fun q1 => ?_)
    · rw [if_pos q1] at hB
      refine ev_iconst 1 dX10_isNoted_119 (by decide) ?_
      obtain rfl := Option.some.inj hB
      exact ev_zret dX10_isNoted_120 rfl (by rfl) (Nat.zero_le _) (Nat.zero_le _) (fun z => absurd z (hp_sealed _)) ⟨rfl, rfl⟩
    · rw [if_neg q1] at hB
      refine ev_iconst 0 dX10_isNoted_8 (by decide) ?_
      refine ev_istore_n dX10_isNoted_9 (by decide) rfl ?_
      exact ev_ls (u_X10_isNoted_10 ih N l0 l1 0 S hl0 hB) (And.intro rfl (And.intro rfl (And.intro rfl trivial)))
theorem t_X10_isNoted {G : am_G} {N : Nat} {l0 : Nat} {S : am_S} {out : Int32 × am_S} (hl0 : isC 10 l0 = true) (hB : f_X10_isNoted N l0 S = some out) : am_Met G 6 mX10_isNoted 0 0 [.ref l0] (hp S) (q_i out) q_n := by
  refine am_of (by decide +kernel) rfl rfl rfl (Nat.le_of_ble_eq_true rfl) ?_
  unfold f_X10_isNoted at hB
  refine ev_iconst 0 dX10_isNoted_0 (by decide) ?_
  refine ev_istore_n dX10_isNoted_1 (by decide) rfl ?_
  exact ev_ls (u_X10_isNoted_2 N l0 0 S hl0 hB) (And.intro rfl (And.intro rfl trivial))
def b_X10_isGuess_36 (N : Nat)  (S : am_S) : Option (Int32 × am_S) := some (0, S)
def f_X10_isGuess (N : Nat) (l0 : Nat) (l1 : Int32) (S : am_S) : Option (Int32 × am_S) := (if (sg S l0 2) ≤ (l1 - l1 / 8 * 8) then b_X10_isGuess_36 N S else (if (l1 - l1 / 8 * 8) = (l1 / 8) then b_X10_isGuess_36 N S else (if inb (72 + (l1 / 8)) (ln (rf l0 46)) = true then (if (sg S (rf l0 46) (Int32.toNatClampNeg (72 + (l1 / 8)))) = (l1 - l1 / 8 * 8) then b_X10_isGuess_36 N S else (bv (f_X10_tries N l0 S) (fun S8 => (if inb (152 + (l1 / 8)) (ln (rf l0 46)) = true then (bd (f_X10_isNoted N l0 (sp S8 (rf l0 46) (Int32.toNatClampNeg (152 + (l1 / 8))) (l1 - l1 / 8 * 8))) (fun r11 S12 => (if isB r11 = true then some (r11, S12) else none))) else none)))) else none)))
theorem u_X10_isGuess_36 {G : am_G} {N : Nat} {h0 : am_H} {out : Int32 × am_S}  (S : am_S) (hB : b_X10_isGuess_36 N  S = some out) : Ev G (am_R 7 0 0) (am_Φ G h0 0 0 (q_i out) q_n) mX10_isGuess 0 0 36 [none, none, none, none] [] (hp S) := by
  unfold b_X10_isGuess_36 at hB
  refine ev_iconst 0 dX10_isGuess_36 (by decide) ?_
  obtain rfl := Option.some.inj hB
  exact ev_zret dX10_isGuess_37 rfl (by rfl) (Nat.zero_le _) (Nat.zero_le _) (fun z => absurd z (hp_sealed _)) ⟨rfl, rfl⟩
theorem t_X10_isGuess {G : am_G} {N : Nat} {l0 : Nat} {l1 : Int32} {S : am_S} {out : Int32 × am_S} (hl0 : isC 10 l0 = true) (hB : f_X10_isGuess N l0 l1 S = some out) : am_Met G 7 mX10_isGuess 0 0 [.ref l0, .int l1] (hp S) (q_i out) q_n := by
  refine am_of (by decide +kernel) rfl rfl rfl (Nat.le_of_ble_eq_true rfl) ?_
  unfold f_X10_isGuess at hB
  refine ev_iload_n dX10_isGuess_0 rfl ?_
  refine ev_bipush 8 dX10_isGuess_1 (by decide) ?_
  refine ev_idiv dX10_isGuess_3 (by decide) ?_
  refine ev_istore_n dX10_isGuess_4 (by decide) rfl ?_
  refine ev_iload_n dX10_isGuess_5 rfl ?_
  refine ev_bipush 8 dX10_isGuess_6 (by decide) ?_
  refine ev_irem dX10_isGuess_8 (by decide) ?_
  refine ev_istore_n dX10_isGuess_9 (by decide) rfl ?_
  refine ev_iload_n dX10_isGuess_10 rfl ?_
  refine ev_aload_n dX10_isGuess_11 rfl ?_
  refine es_geti k_10 2 dX10_isGuess_12 (by decide) rfl (Or.inl w_1527) hl0 rfl ?_
  refine ev_icmpge 36 dX10_isGuess_15 (by decide) (fun q3 => ?_) (fun q3 => ?_)
  · rw [if_pos q3] at hB
    exact ev_ls (u_X10_isGuess_36 S hB) trivial
  · rw [if_neg q3] at hB
    refine ev_iload_n dX10_isGuess_18 rfl ?_
    refine ev_iload_n dX10_isGuess_19 rfl ?_
    refine ev_icmpeq 36 dX10_isGuess_20 (by decide) (fun q4 => ?_) (fun q4 => ?_)
    · rw [if_pos q4] at hB
      exact ev_ls (u_X10_isGuess_36 S hB) trivial
    · rw [if_neg q4] at hB
      refine ev_aload_n dX10_isGuess_23 rfl ?_
      refine es_getr k_10 46 dX10_isGuess_24 (by decide) rfl (Or.inl w_1571) hl0 rfl ?_
      refine ev_bipush 72 dX10_isGuess_27 (by decide) ?_
      refine ev_iload_n dX10_isGuess_29 rfl ?_
      refine ev_iadd dX10_isGuess_30 ?_
      obtain ⟨c5, hB⟩ := ck_of hB
      refine es_iald dX10_isGuess_31 (tr_10_46 hl0) c5 ?_
      refine ev_iload_n dX10_isGuess_32 rfl ?_
      refine ev_icmpne 38 dX10_isGuess_33 (by decide) (fun q6 => ?_) (fun q6 => ?_)
      · rw [if_neg q6] at hB
        refine ev_aload_n dX10_isGuess_38 rfl ?_
        obtain ⟨S8, e9, hB⟩ := bv_of hB
        refine es_callVv (As := []) (t_X10_tries hl0 e9) dX10_isGuess_39 oX10_tries w_2034 rfl hl0 rfl rfl (Nat.le_of_ble_eq_true rfl) rfl (am_fit.of (by decide)) ⟨Nat.zero_le _, Nat.zero_le _⟩ ?_
        refine ev_aload_n dX10_isGuess_42 rfl ?_
        refine es_getr k_10 46 dX10_isGuess_43 (by decide) rfl (Or.inl w_1571) hl0 rfl ?_
        refine ev_sipush 152 dX10_isGuess_46 (by decide) ?_
        refine ev_iload_n dX10_isGuess_49 rfl ?_
        refine ev_iadd dX10_isGuess_50 ?_
        refine ev_iload_n dX10_isGuess_51 rfl ?_
        obtain ⟨c10, hB⟩ := ck_of hB
        refine es_iast dX10_isGuess_52 (tr_10_46 hl0) c10 ?_
        refine ev_aload_n dX10_isGuess_53 rfl ?_
        obtain ⟨r11, S12, e13, hB⟩ := bd_of hB
        refine es_callVi (As := []) (t_X10_isNoted hl0 e13) dX10_isGuess_54 oX10_isNoted w_2157 rfl hl0 rfl rfl (Nat.le_of_ble_eq_true rfl) rfl (am_fit.of (by decide)) ⟨Nat.zero_le _, Nat.zero_le _⟩ ?_
        obtain ⟨c14, hB⟩ := ck_of hB
        obtain rfl := Option.some.inj hB
        exact ev_zret dX10_isGuess_57 rfl (isB_nar c14) (Nat.zero_le _) (Nat.zero_le _) (fun z => absurd z (hp_sealed _)) ⟨rfl, rfl⟩
      · rw [if_pos q6] at hB
        exact ev_ls (u_X10_isGuess_36 S hB) trivial
def b_X10_thought_37 (N : Nat) (z0 : Int32) (S : am_S) : Option (Int32 × am_S) := some (z0, S)
def b_X10_thought_92 (N : Nat) (k45 : Nat → Int32 → Int32 → Int32 → Int32 → am_S → Option (Int32 × am_S)) (l0 : Nat) (l1 : Int32) (l2 : Int32) (l3 : Int32) (l4 : Int32) (S : am_S) : Option (Int32 × am_S) := k45 l0 l1 l2 l3 (l4 + 1) S
def b_X10_thought_107 (N : Nat) (z0 : Int32) (S : am_S) : Option (Int32 × am_S) := some (z0, S)
def b_X10_thought_45 (N : Nat) : Nat → Nat → Int32 → Int32 → Int32 → Int32 → am_S → Option (Int32 × am_S)
  | 0, _, _, _, _, _, _ => none
  | n + 1, l0, l1, l2, l3, l4, S => (if (8 * (sg S l0 2)) ≤ l4 then (if l1 = 0 then b_X10_thought_107 N l2 S else b_X10_thought_107 N l3 S) else (bd (f_X10_isGuess N l0 l4 S) (fun r3 S4 => (if r3 = 0 then b_X10_thought_92 N (b_X10_thought_45 N n) l0 l1 l2 l3 l4 S4 else (if l3 = (-1) then b_X10_thought_92 N (b_X10_thought_45 N n) l0 l1 (l2 + 1) (((l4 / 8) * 10) + (l4 - l4 / 8 * 8)) l4 S4 else b_X10_thought_92 N (b_X10_thought_45 N n) l0 l1 (l2 + 1) l3 l4 S4)))))
def f_X10_thought (N : Nat) (l0 : Nat) (l1 : Int32) (S : am_S) : Option (Int32 × am_S) := (bd (f_X10_isWhat N l0 l1 2 (sp S l0 0 0)) (fun r1 S2 => (if r1 = 0 then some (0, S2) else (if l1 = 2 then (bv (f_X10_tries N l0 S2) (fun S7 => (bd (f_X10_isNoted N l0 S7) (fun r9 S10 => (if r9 = 0 then b_X10_thought_37 N 0 S10 else b_X10_thought_37 N 1 S10))))) else b_X10_thought_45 N N l0 l1 0 (-1) 0 S2))))
theorem u_X10_thought_37 {G : am_G} {N : Nat} {h0 : am_H} {out : Int32 × am_S} (z0 : Int32) (S : am_S) (hB : b_X10_thought_37 N z0 S = some out) : Ev G (am_R 8 0 0) (am_Φ G h0 0 0 (q_i out) q_n) mX10_thought 0 0 37 [none, none, none, none, none] [.int z0] (hp S) := by
  unfold b_X10_thought_37 at hB
  obtain rfl := Option.some.inj hB
  exact ev_iret dX10_thought_37 rfl (Nat.zero_le _) (Nat.zero_le _) (fun z => absurd z (hp_sealed _)) ⟨rfl, rfl⟩
theorem u_X10_thought_92 {G : am_G} {N : Nat} {h0 : am_H} {out : Int32 × am_S} {k45 : Nat → Int32 → Int32 → Int32 → Int32 → am_S → Option (Int32 × am_S)} (hk45 : ∀ (l0 : Nat) (l1 : Int32) (l2 : Int32) (l3 : Int32) (l4 : Int32) (S : am_S), isC 10 l0 = true → k45 l0 l1 l2 l3 l4 S = some out → Ev G (am_R 8 0 0) (am_Φ G h0 0 0 (q_i out) q_n) mX10_thought 0 0 45 [some (.ref l0), some (.int l1), some (.int l2), some (.int l3), some (.int l4)] [] (hp S)) (l0 : Nat) (l1 : Int32) (l2 : Int32) (l3 : Int32) (l4 : Int32) (S : am_S) (hl0 : isC 10 l0 = true) (hB : b_X10_thought_92 N k45 l0 l1 l2 l3 l4 S = some out) : Ev G (am_R 8 0 0) (am_Φ G h0 0 0 (q_i out) q_n) mX10_thought 0 0 92 [some (.ref l0), some (.int l1), some (.int l2), some (.int l3), some (.int l4)] [] (hp S) := by
  unfold b_X10_thought_92 at hB
  refine es_iinc 1 dX10_thought_92 rfl (by decide) (by decide) rfl ?_
  refine ev_goto 45 dX10_thought_95 (by decide) ?_
  exact ev_ls (hk45 l0 l1 l2 l3 (l4 + 1) S hl0 hB) (And.intro rfl (And.intro rfl (And.intro rfl (And.intro rfl (And.intro rfl trivial)))))
theorem u_X10_thought_107 {G : am_G} {N : Nat} {h0 : am_H} {out : Int32 × am_S} (z0 : Int32) (S : am_S) (hB : b_X10_thought_107 N z0 S = some out) : Ev G (am_R 8 0 0) (am_Φ G h0 0 0 (q_i out) q_n) mX10_thought 0 0 107 [none, none, none, none, none] [.int z0] (hp S) := by
  unfold b_X10_thought_107 at hB
  obtain rfl := Option.some.inj hB
  exact ev_iret dX10_thought_107 rfl (Nat.zero_le _) (Nat.zero_le _) (fun z => absurd z (hp_sealed _)) ⟨rfl, rfl⟩
theorem u_X10_thought_45 {G : am_G} {N : Nat} {h0 : am_H} {out : Int32 × am_S} : ∀ (n : Nat) (l0 : Nat) (l1 : Int32) (l2 : Int32) (l3 : Int32) (l4 : Int32) (S : am_S), isC 10 l0 = true → b_X10_thought_45 N n l0 l1 l2 l3 l4 S = some out → Ev G (am_R 8 0 0) (am_Φ G h0 0 0 (q_i out) q_n) mX10_thought 0 0 45 [some (.ref l0), some (.int l1), some (.int l2), some (.int l3), some (.int l4)] [] (hp S) := by
  intro n
  induction n with
  | zero =>
    intro l0 l1 l2 l3 l4 S hl0 hB
    exact absurd (show none = some out from hB) (fun q => by cases q)
  | succ n ih =>
    intro l0 l1 l2 l3 l4 S hl0 hB
    unfold b_X10_thought_45 at hB
    refine ev_iload dX10_thought_45 rfl ?_
    refine ev_bipush 8 dX10_thought_47 (by decide) ?_
    refine ev_aload_n dX10_thought_49 rfl ?_
    refine es_geti k_10 2 dX10_thought_50 (by decide) rfl (Or.inl w_1527) hl0 rfl ?_
    refine ev_imul dX10_thought_53 ?_
    refine ev_icmpge 98 dX10_thought_54 (by decide) (fun q1 => ?_) (fun q1 => ?_)
    · rw [if_pos q1] at hB
      refine ev_iload_n dX10_thought_98 rfl ?_
      refine ev_ifne 106 dX10_thought_99 (by decide) (fun q2 => ?_) (fun q2 => ?_)
      · rw [if_neg q2] at hB
        refine ev_iload_n dX10_thought_106 rfl ?_
        exact ev_ls (u_X10_thought_107 l3 S hB) trivial
      · rw [if_pos q2] at hB
        refine ev_iload_n dX10_thought_102 rfl ?_
        refine ev_goto 107 dX10_thought_103 (by decide) ?_
        exact ev_ls (u_X10_thought_107 l2 S hB) trivial
    · rw [if_neg q1] at hB
      refine ev_aload_n dX10_thought_57 rfl ?_
      refine ev_iload dX10_thought_58 rfl ?_
      obtain ⟨r3, S4, e5, hB⟩ := bd_of hB
      refine es_callVi (As := [.int l4]) (t_X10_isGuess hl0 e5) dX10_thought_60 oX10_isGuess w_2161 rfl hl0 rfl rfl (Nat.le_of_ble_eq_true rfl) rfl (am_fit.of (by decide)) ⟨Nat.zero_le _, Nat.zero_le _⟩ ?_
      refine ev_ifne 69 dX10_thought_63 (by decide) (fun q6 => ?_) (fun q6 => ?_)
      · rw [if_neg q6] at hB
        refine es_iinc 1 dX10_thought_69 rfl (by decide) (by decide) rfl ?_
        refine ev_iload_n dX10_thought_72 rfl ?_
        refine ev_iconst (-1) dX10_thought_73 (by decide) ?_
        refine ev_icmpne 92 dX10_thought_74 (by decide) (fun q7 => ?_) (fun q7 => ?_)
        · rw [if_neg q7] at hB
          exact ev_ls (u_X10_thought_92 ih l0 l1 (l2 + 1) l3 l4 S4 hl0 hB) (And.intro rfl (And.intro rfl (And.intro rfl (And.intro rfl (And.intro rfl trivial)))))
        · rw [if_pos q7] at hB
          refine ev_iload dX10_thought_77 rfl ?_
          refine ev_bipush 8 dX10_thought_79 (by decide) ?_
          refine ev_idiv dX10_thought_81 (by decide) ?_
          refine ev_bipush 10 dX10_thought_82 (by decide) ?_
          refine ev_imul dX10_thought_84 ?_
          refine ev_iload dX10_thought_85 rfl ?_
          refine ev_bipush 8 dX10_thought_87 (by decide) ?_
          refine ev_irem dX10_thought_89 (by decide) ?_
          refine ev_iadd dX10_thought_90 ?_
          refine ev_istore_n dX10_thought_91 (by decide) rfl ?_
          exact ev_ls (u_X10_thought_92 ih l0 l1 (l2 + 1) (((l4 / 8) * 10) + (l4 - l4 / 8 * 8)) l4 S4 hl0 hB) (And.intro rfl (And.intro rfl (And.intro rfl (And.intro rfl (And.intro rfl trivial)))))
      · rw [if_pos q6] at hB
        refine ev_goto 92 dX10_thought_66 (by decide) ?_
        exact ev_ls (u_X10_thought_92 ih l0 l1 l2 l3 l4 S4 hl0 hB) (And.intro rfl (And.intro rfl (And.intro rfl (And.intro rfl (And.intro rfl trivial)))))
theorem t_X10_thought {G : am_G} {N : Nat} {l0 : Nat} {l1 : Int32} {S : am_S} {out : Int32 × am_S} (hl0 : isC 10 l0 = true) (hB : f_X10_thought N l0 l1 S = some out) : am_Met G 8 mX10_thought 0 0 [.ref l0, .int l1] (hp S) (q_i out) q_n := by
  refine am_of (by decide +kernel) rfl rfl rfl (Nat.le_of_ble_eq_true rfl) ?_
  unfold f_X10_thought at hB
  refine ev_aload_n dX10_thought_0 rfl ?_
  refine ev_iconst 0 dX10_thought_1 (by decide) ?_
  refine es_puti k_10 0 dX10_thought_2 (by decide) rfl (Or.inl w_1525) rfl rfl hl0 rfl ?_
  refine ev_aload_n dX10_thought_5 rfl ?_
  refine ev_iload_n dX10_thought_6 rfl ?_
  refine ev_iconst 2 dX10_thought_7 (by decide) ?_
  obtain ⟨r1, S2, e3, hB⟩ := bd_of hB
  refine es_callVi (As := [.int l1, .int 2]) (t_X10_isWhat hl0 e3) dX10_thought_8 oX10_isWhat w_1918 rfl hl0 rfl rfl (Nat.le_of_ble_eq_true rfl) rfl (am_fit.of (by decide)) ⟨Nat.zero_le _, Nat.zero_le _⟩ ?_
  refine ev_ifne 16 dX10_thought_11 (by decide) (fun q4 => ?_) (fun q4 => ?_)
  · rw [if_neg q4] at hB
    refine ev_iload_n dX10_thought_16 rfl ?_
    refine ev_iconst 2 dX10_thought_17 (by decide) ?_
    refine ev_icmpne 38 dX10_thought_18 (by decide) (fun q5 => ?_) (fun q5 => ?_)
    · rw [if_neg q5] at hB
      refine ev_iconst 0 dX10_thought_38 (by decide) ?_
      refine ev_istore_n dX10_thought_39 (by decide) rfl ?_
      refine ev_iconst (-1) dX10_thought_40 (by decide) ?_
      refine ev_istore_n dX10_thought_41 (by decide) rfl ?_
      refine ev_iconst 0 dX10_thought_42 (by decide) ?_
      refine ev_istore dX10_thought_43 (by decide) rfl ?_
      exact ev_ls (u_X10_thought_45 N l0 l1 0 (-1) 0 S2 hl0 hB) (And.intro rfl (And.intro rfl (And.intro rfl (And.intro rfl (And.intro rfl trivial)))))
    · rw [if_pos q5] at hB
      refine ev_aload_n dX10_thought_21 rfl ?_
      obtain ⟨S7, e8, hB⟩ := bv_of hB
      refine es_callVv (As := []) (t_X10_tries hl0 e8) dX10_thought_22 oX10_tries w_2034 rfl hl0 rfl rfl (Nat.le_of_ble_eq_true rfl) rfl (am_fit.of (by decide)) ⟨Nat.zero_le _, Nat.zero_le _⟩ ?_
      refine ev_aload_n dX10_thought_25 rfl ?_
      obtain ⟨r9, S10, e11, hB⟩ := bd_of hB
      refine es_callVi (As := []) (t_X10_isNoted hl0 e11) dX10_thought_26 oX10_isNoted w_2157 rfl hl0 rfl rfl (Nat.le_of_ble_eq_true rfl) rfl (am_fit.of (by decide)) ⟨Nat.zero_le _, Nat.zero_le _⟩ ?_
      refine ev_ifeq 36 dX10_thought_29 (by decide) (fun q12 => ?_) (fun q12 => ?_)
      · rw [if_pos q12] at hB
        refine ev_iconst 0 dX10_thought_36 (by decide) ?_
        exact ev_ls (u_X10_thought_37 0 S10 hB) trivial
      · rw [if_neg q12] at hB
        refine ev_iconst 1 dX10_thought_32 (by decide) ?_
        refine ev_goto 37 dX10_thought_33 (by decide) ?_
        exact ev_ls (u_X10_thought_37 1 S10 hB) trivial
  · rw [if_pos q4] at hB
    refine ev_iconst 0 dX10_thought_14 (by decide) ?_
    obtain rfl := Option.some.inj hB
    exact ev_iret dX10_thought_15 rfl (Nat.zero_le _) (Nat.zero_le _) (fun z => absurd z (hp_sealed _)) ⟨rfl, rfl⟩
def b_X10_ask_82 (N : Nat) (k20 : Nat → Int32 → Int32 → Int32 → am_S → Option (Int32 × am_S)) (l0 : Nat) (l1 : Int32) (l2 : Int32) (l3 : Int32) (S : am_S) : Option (Int32 × am_S) := k20 l0 l1 l2 (l3 + 1) S
def b_X10_ask_45 (N : Nat) (k20 : Nat → Int32 → Int32 → Int32 → am_S → Option (Int32 × am_S)) : Nat → Nat → Int32 → Int32 → Int32 → Int32 → am_S → Option (Int32 × am_S)
  | 0, _, _, _, _, _, _ => none
  | n + 1, l0, l1, l2, l3, l4, S => (if (sg S l0 2) ≤ l4 then b_X10_ask_82 N (k20) l0 l1 (l2 + 1) l3 S else (if inb l4 (ln (rf l0 58)) = true then (if inb ((8 * l2) + l4) (ln (rf l0 59)) = true then b_X10_ask_45 N k20 n l0 l1 l2 l3 (l4 + 1) (sp S (rf l0 59) (Int32.toNatClampNeg ((8 * l2) + l4)) (sg S (rf l0 58) (Int32.toNatClampNeg l4))) else none) else none))
def b_X10_ask_169 (N : Nat) (k96 : Nat → Int32 → Int32 → Int32 → Int32 → Int32 → am_S → Option (Int32 × am_S)) (k111 : Nat → Int32 → Int32 → Int32 → Int32 → Int32 → Int32 → Int32 → am_S → Option (Int32 × am_S)) (k123 : Nat → Int32 → Int32 → Int32 → Int32 → Int32 → Int32 → Int32 → Int32 → Int32 → am_S → Option (Int32 × am_S)) (l0 : Nat) (l1 : Int32) (l2 : Int32) (l3 : Int32) (l4 : Int32) (l5 : Int32) (l6 : Int32) (l7 : Int32) (l9 : Int32) (z0 : Int32) (S : am_S) : Option (Int32 × am_S) := k123 l0 l1 l2 l3 l4 l5 l6 l7 z0 (l9 + 1) S
def b_X10_ask_189 (N : Nat) (k96 : Nat → Int32 → Int32 → Int32 → Int32 → Int32 → am_S → Option (Int32 × am_S)) (k111 : Nat → Int32 → Int32 → Int32 → Int32 → Int32 → Int32 → Int32 → am_S → Option (Int32 × am_S)) (l0 : Nat) (l1 : Int32) (l2 : Int32) (l3 : Int32) (l4 : Int32) (l5 : Int32) (l7 : Int32) (z0 : Int32) (z1 : Int32) (S : am_S) : Option (Int32 × am_S) := k111 l0 l1 l2 l3 l4 l5 (z0 + z1) (l7 + 1) S
def b_X10_ask_177 (N : Nat) (k96 : Nat → Int32 → Int32 → Int32 → Int32 → Int32 → am_S → Option (Int32 × am_S)) (k111 : Nat → Int32 → Int32 → Int32 → Int32 → Int32 → Int32 → Int32 → am_S → Option (Int32 × am_S)) (l0 : Nat) (l1 : Int32) (l2 : Int32) (l3 : Int32) (l4 : Int32) (l5 : Int32) (l6 : Int32) (l7 : Int32) (l8 : Int32) (S : am_S) : Option (Int32 × am_S) := (if l8 = 0 then b_X10_ask_189 N (k96) (k111) l0 l1 l2 l3 l4 l5 l7 l6 0 S else b_X10_ask_189 N (k96) (k111) l0 l1 l2 l3 l4 l5 l7 l6 1 S)
def b_X10_ask_123 (N : Nat) (k96 : Nat → Int32 → Int32 → Int32 → Int32 → Int32 → am_S → Option (Int32 × am_S)) (k111 : Nat → Int32 → Int32 → Int32 → Int32 → Int32 → Int32 → Int32 → am_S → Option (Int32 × am_S)) : Nat → Nat → Int32 → Int32 → Int32 → Int32 → Int32 → Int32 → Int32 → Int32 → Int32 → am_S → Option (Int32 × am_S)
  | 0, _, _, _, _, _, _, _, _, _, _, _ => none
  | n + 1, l0, l1, l2, l3, l4, l5, l6, l7, l8, l9, S => (if l7 ≤ l9 then b_X10_ask_177 N (k96) (k111) l0 l1 l2 l3 l4 l5 l6 l7 l8 S else (if l8 = 0 then b_X10_ask_177 N (k96) (k111) l0 l1 l2 l3 l4 l5 l6 l7 l8 S else (if inb ((8 * l7) + l5) (ln (rf l0 59)) = true then (if inb ((8 * l9) + l5) (ln (rf l0 59)) = true then (if (sg S (rf l0 59) (Int32.toNatClampNeg ((8 * l7) + l5))) = (sg S (rf l0 59) (Int32.toNatClampNeg ((8 * l9) + l5))) then b_X10_ask_169 N (k96) (k111) (b_X10_ask_123 N k96 k111 n) l0 l1 l2 l3 l4 l5 l6 l7 l9 0 S else b_X10_ask_169 N (k96) (k111) (b_X10_ask_123 N k96 k111 n) l0 l1 l2 l3 l4 l5 l6 l7 l9 1 S) else none) else none)))
def b_X10_ask_215 (N : Nat) (k96 : Nat → Int32 → Int32 → Int32 → Int32 → Int32 → am_S → Option (Int32 × am_S)) (l0 : Nat) (l1 : Int32) (l2 : Int32) (l3 : Int32) (l4 : Int32) (l5 : Int32) (S : am_S) : Option (Int32 × am_S) := k96 l0 l1 l2 l3 l4 (l5 + 1) S
def b_X10_ask_111 (N : Nat) (k96 : Nat → Int32 → Int32 → Int32 → Int32 → Int32 → am_S → Option (Int32 × am_S)) : Nat → Nat → Int32 → Int32 → Int32 → Int32 → Int32 → Int32 → Int32 → am_S → Option (Int32 × am_S)
  | 0, _, _, _, _, _, _, _, _, _ => none
  | n + 1, l0, l1, l2, l3, l4, l5, l6, l7, S => (if l2 ≤ l7 then (if l4 < l6 then b_X10_ask_215 N (k96) l0 l1 l2 l5 l6 l5 S else b_X10_ask_215 N (k96) l0 l1 l2 l3 l4 l5 S) else b_X10_ask_123 N (k96) (b_X10_ask_111 N k96 n) N l0 l1 l2 l3 l4 l5 l6 l7 1 0 S)
def b_X10_ask_231 (N : Nat) (z0 : Int32) (S : am_S) : Option (Int32 × am_S) := some (z0, S)
def b_X10_ask_96 (N : Nat) : Nat → Nat → Int32 → Int32 → Int32 → Int32 → Int32 → am_S → Option (Int32 × am_S)
  | 0, _, _, _, _, _, _, _ => none
  | n + 1, l0, l1, l2, l3, l4, l5, S => (if (sg S l0 2) ≤ l5 then (if l1 = 0 then b_X10_ask_231 N l3 S else b_X10_ask_231 N l4 S) else b_X10_ask_111 N (b_X10_ask_96 N n) N l0 l1 l2 l3 l4 l5 0 0 S)
def b_X10_ask_20 (N : Nat) : Nat → Nat → Int32 → Int32 → Int32 → am_S → Option (Int32 × am_S)
  | 0, _, _, _, _, _ => none
  | n + 1, l0, l1, l2, l3, S => (if (8 * (sg S l0 2)) ≤ l3 then b_X10_ask_96 N N l0 l1 l2 (-1) 0 0 S else (bd (f_X10_isGuess N l0 l3 S) (fun r2 S3 => (if r2 = 0 then b_X10_ask_82 N (b_X10_ask_20 N n) l0 l1 l2 l3 S3 else b_X10_ask_45 N (b_X10_ask_20 N n) N l0 l1 l2 l3 0 S3))))
def f_X10_ask (N : Nat) (l0 : Nat) (l1 : Int32) (S : am_S) : Option (Int32 × am_S) := (bd (f_X10_isWhat N l0 l1 1 (sp S l0 0 0)) (fun r1 S2 => (if r1 = 0 then some (0, S2) else b_X10_ask_20 N N l0 l1 0 0 S2)))
theorem u_X10_ask_82 {G : am_G} {N : Nat} {h0 : am_H} {out : Int32 × am_S} {k20 : Nat → Int32 → Int32 → Int32 → am_S → Option (Int32 × am_S)} (hk20 : ∀ (l0 : Nat) (l1 : Int32) (l2 : Int32) (l3 : Int32) (S : am_S), isC 10 l0 = true → k20 l0 l1 l2 l3 S = some out → Ev G (am_R 8 0 0) (am_Φ G h0 0 0 (q_i out) q_n) mX10_ask 0 0 20 [some (.ref l0), some (.int l1), some (.int l2), some (.int l3), none, none, none, none, none, none] [] (hp S)) (l0 : Nat) (l1 : Int32) (l2 : Int32) (l3 : Int32) (S : am_S) (hl0 : isC 10 l0 = true) (hB : b_X10_ask_82 N k20 l0 l1 l2 l3 S = some out) : Ev G (am_R 8 0 0) (am_Φ G h0 0 0 (q_i out) q_n) mX10_ask 0 0 82 [some (.ref l0), some (.int l1), some (.int l2), some (.int l3), none, none, none, none, none, none] [] (hp S) := by
  unfold b_X10_ask_82 at hB
  refine es_iinc 1 dX10_ask_82 rfl (by decide) (by decide) rfl ?_
  refine ev_goto 20 dX10_ask_85 (by decide) ?_
  exact ev_ls (hk20 l0 l1 l2 (l3 + 1) S hl0 hB) (And.intro rfl (And.intro rfl (And.intro rfl (And.intro rfl trivial))))
theorem u_X10_ask_45 {G : am_G} {N : Nat} {h0 : am_H} {out : Int32 × am_S} {k20 : Nat → Int32 → Int32 → Int32 → am_S → Option (Int32 × am_S)} (hk20 : ∀ (l0 : Nat) (l1 : Int32) (l2 : Int32) (l3 : Int32) (S : am_S), isC 10 l0 = true → k20 l0 l1 l2 l3 S = some out → Ev G (am_R 8 0 0) (am_Φ G h0 0 0 (q_i out) q_n) mX10_ask 0 0 20 [some (.ref l0), some (.int l1), some (.int l2), some (.int l3), none, none, none, none, none, none] [] (hp S)) : ∀ (n : Nat) (l0 : Nat) (l1 : Int32) (l2 : Int32) (l3 : Int32) (l4 : Int32) (S : am_S), isC 10 l0 = true → b_X10_ask_45 N k20 n l0 l1 l2 l3 l4 S = some out → Ev G (am_R 8 0 0) (am_Φ G h0 0 0 (q_i out) q_n) mX10_ask 0 0 45 [some (.ref l0), some (.int l1), some (.int l2), some (.int l3), some (.int l4), none, none, none, none, none] [] (hp S) := by
  intro n
  induction n with
  | zero =>
    intro l0 l1 l2 l3 l4 S hl0 hB
    exact absurd (show none = some out from hB) (fun q => by cases q)
  | succ n ih =>
    intro l0 l1 l2 l3 l4 S hl0 hB
    unfold b_X10_ask_45 at hB
    refine ev_iload dX10_ask_45 rfl ?_
    refine ev_aload_n dX10_ask_47 rfl ?_
    refine es_geti k_10 2 dX10_ask_48 (by decide) rfl (Or.inl w_1527) hl0 rfl ?_
    refine ev_icmpge 79 dX10_ask_51 (by decide) (fun q1 => ?_) (fun q1 => ?_)
    · rw [if_pos q1] at hB
      refine es_iinc 1 dX10_ask_79 rfl (by decide) (by decide) rfl ?_
      exact ev_ls (u_X10_ask_82 hk20 l0 l1 (l2 + 1) l3 S hl0 hB) (And.intro rfl (And.intro rfl (And.intro rfl (And.intro rfl trivial))))
    · rw [if_neg q1] at hB
      refine ev_aload_n dX10_ask_54 rfl ?_
      refine es_getr k_10 59 dX10_ask_55 (by decide) rfl (Or.inl w_1584) hl0 rfl ?_
      refine ev_bipush 8 dX10_ask_58 (by decide) ?_
      refine ev_iload_n dX10_ask_60 rfl ?_
      refine ev_imul dX10_ask_61 ?_
      refine ev_iload dX10_ask_62 rfl ?_
      refine ev_iadd dX10_ask_64 ?_
      refine ev_aload_n dX10_ask_65 rfl ?_
      refine es_getr k_10 58 dX10_ask_66 (by decide) rfl (Or.inl w_1583) hl0 rfl ?_
      refine ev_iload dX10_ask_69 rfl ?_
      obtain ⟨c2, hB⟩ := ck_of hB
      refine es_iald dX10_ask_71 (tr_10_58 hl0) c2 ?_
      obtain ⟨c3, hB⟩ := ck_of hB
      refine es_iast dX10_ask_72 (tr_10_59 hl0) c3 ?_
      refine es_iinc 1 dX10_ask_73 rfl (by decide) (by decide) rfl ?_
      refine ev_goto 45 dX10_ask_76 (by decide) ?_
      exact ev_ls (ih l0 l1 l2 l3 (l4 + 1) (sp S (rf l0 59) (Int32.toNatClampNeg ((8 * l2) + l4)) (sg S (rf l0 58) (Int32.toNatClampNeg l4))) hl0 hB) (And.intro rfl (And.intro rfl (And.intro rfl (And.intro rfl (And.intro rfl trivial)))))
theorem u_X10_ask_169 {G : am_G} {N : Nat} {h0 : am_H} {out : Int32 × am_S} {k96 : Nat → Int32 → Int32 → Int32 → Int32 → Int32 → am_S → Option (Int32 × am_S)} {k111 : Nat → Int32 → Int32 → Int32 → Int32 → Int32 → Int32 → Int32 → am_S → Option (Int32 × am_S)} {k123 : Nat → Int32 → Int32 → Int32 → Int32 → Int32 → Int32 → Int32 → Int32 → Int32 → am_S → Option (Int32 × am_S)} (hk96 : ∀ (l0 : Nat) (l1 : Int32) (l2 : Int32) (l3 : Int32) (l4 : Int32) (l5 : Int32) (S : am_S), isC 10 l0 = true → k96 l0 l1 l2 l3 l4 l5 S = some out → Ev G (am_R 8 0 0) (am_Φ G h0 0 0 (q_i out) q_n) mX10_ask 0 0 96 [some (.ref l0), some (.int l1), some (.int l2), some (.int l3), some (.int l4), some (.int l5), none, none, none, none] [] (hp S)) (hk111 : ∀ (l0 : Nat) (l1 : Int32) (l2 : Int32) (l3 : Int32) (l4 : Int32) (l5 : Int32) (l6 : Int32) (l7 : Int32) (S : am_S), isC 10 l0 = true → k111 l0 l1 l2 l3 l4 l5 l6 l7 S = some out → Ev G (am_R 8 0 0) (am_Φ G h0 0 0 (q_i out) q_n) mX10_ask 0 0 111 [some (.ref l0), some (.int l1), some (.int l2), some (.int l3), some (.int l4), some (.int l5), some (.int l6), some (.int l7), none, none] [] (hp S)) (hk123 : ∀ (l0 : Nat) (l1 : Int32) (l2 : Int32) (l3 : Int32) (l4 : Int32) (l5 : Int32) (l6 : Int32) (l7 : Int32) (l8 : Int32) (l9 : Int32) (S : am_S), isC 10 l0 = true → k123 l0 l1 l2 l3 l4 l5 l6 l7 l8 l9 S = some out → Ev G (am_R 8 0 0) (am_Φ G h0 0 0 (q_i out) q_n) mX10_ask 0 0 123 [some (.ref l0), some (.int l1), some (.int l2), some (.int l3), some (.int l4), some (.int l5), some (.int l6), some (.int l7), some (.int l8), some (.int l9)] [] (hp S)) (l0 : Nat) (l1 : Int32) (l2 : Int32) (l3 : Int32) (l4 : Int32) (l5 : Int32) (l6 : Int32) (l7 : Int32) (l9 : Int32) (z0 : Int32) (S : am_S) (hl0 : isC 10 l0 = true) (hB : b_X10_ask_169 N k96 k111 k123 l0 l1 l2 l3 l4 l5 l6 l7 l9 z0 S = some out) : Ev G (am_R 8 0 0) (am_Φ G h0 0 0 (q_i out) q_n) mX10_ask 0 0 169 [some (.ref l0), some (.int l1), some (.int l2), some (.int l3), some (.int l4), some (.int l5), some (.int l6), some (.int l7), none, some (.int l9)] [.int z0] (hp S) := by
  unfold b_X10_ask_169 at hB
  refine ev_istore dX10_ask_169 (by decide) rfl ?_
  refine es_iinc 1 dX10_ask_171 rfl (by decide) (by decide) rfl ?_
  refine ev_goto 123 dX10_ask_174 (by decide) ?_
  exact ev_ls (hk123 l0 l1 l2 l3 l4 l5 l6 l7 z0 (l9 + 1) S hl0 hB) (And.intro rfl (And.intro rfl (And.intro rfl (And.intro rfl (And.intro rfl (And.intro rfl (And.intro rfl (And.intro rfl (And.intro rfl (And.intro rfl trivial))))))))))
theorem u_X10_ask_189 {G : am_G} {N : Nat} {h0 : am_H} {out : Int32 × am_S} {k96 : Nat → Int32 → Int32 → Int32 → Int32 → Int32 → am_S → Option (Int32 × am_S)} {k111 : Nat → Int32 → Int32 → Int32 → Int32 → Int32 → Int32 → Int32 → am_S → Option (Int32 × am_S)} (hk96 : ∀ (l0 : Nat) (l1 : Int32) (l2 : Int32) (l3 : Int32) (l4 : Int32) (l5 : Int32) (S : am_S), isC 10 l0 = true → k96 l0 l1 l2 l3 l4 l5 S = some out → Ev G (am_R 8 0 0) (am_Φ G h0 0 0 (q_i out) q_n) mX10_ask 0 0 96 [some (.ref l0), some (.int l1), some (.int l2), some (.int l3), some (.int l4), some (.int l5), none, none, none, none] [] (hp S)) (hk111 : ∀ (l0 : Nat) (l1 : Int32) (l2 : Int32) (l3 : Int32) (l4 : Int32) (l5 : Int32) (l6 : Int32) (l7 : Int32) (S : am_S), isC 10 l0 = true → k111 l0 l1 l2 l3 l4 l5 l6 l7 S = some out → Ev G (am_R 8 0 0) (am_Φ G h0 0 0 (q_i out) q_n) mX10_ask 0 0 111 [some (.ref l0), some (.int l1), some (.int l2), some (.int l3), some (.int l4), some (.int l5), some (.int l6), some (.int l7), none, none] [] (hp S)) (l0 : Nat) (l1 : Int32) (l2 : Int32) (l3 : Int32) (l4 : Int32) (l5 : Int32) (l7 : Int32) (z0 : Int32) (z1 : Int32) (S : am_S) (hl0 : isC 10 l0 = true) (hB : b_X10_ask_189 N k96 k111 l0 l1 l2 l3 l4 l5 l7 z0 z1 S = some out) : Ev G (am_R 8 0 0) (am_Φ G h0 0 0 (q_i out) q_n) mX10_ask 0 0 189 [some (.ref l0), some (.int l1), some (.int l2), some (.int l3), some (.int l4), some (.int l5), none, some (.int l7), none, none] [.int z1, .int z0] (hp S) := by
  unfold b_X10_ask_189 at hB
  refine ev_iadd dX10_ask_189 ?_
  refine ev_istore dX10_ask_190 (by decide) rfl ?_
  refine es_iinc 1 dX10_ask_192 rfl (by decide) (by decide) rfl ?_
  refine ev_goto 111 dX10_ask_195 (by decide) ?_
  exact ev_ls (hk111 l0 l1 l2 l3 l4 l5 (z0 + z1) (l7 + 1) S hl0 hB) (And.intro rfl (And.intro rfl (And.intro rfl (And.intro rfl (And.intro rfl (And.intro rfl (And.intro rfl (And.intro rfl trivial))))))))
theorem u_X10_ask_177 {G : am_G} {N : Nat} {h0 : am_H} {out : Int32 × am_S} {k96 : Nat → Int32 → Int32 → Int32 → Int32 → Int32 → am_S → Option (Int32 × am_S)} {k111 : Nat → Int32 → Int32 → Int32 → Int32 → Int32 → Int32 → Int32 → am_S → Option (Int32 × am_S)} (hk96 : ∀ (l0 : Nat) (l1 : Int32) (l2 : Int32) (l3 : Int32) (l4 : Int32) (l5 : Int32) (S : am_S), isC 10 l0 = true → k96 l0 l1 l2 l3 l4 l5 S = some out → Ev G (am_R 8 0 0) (am_Φ G h0 0 0 (q_i out) q_n) mX10_ask 0 0 96 [some (.ref l0), some (.int l1), some (.int l2), some (.int l3), some (.int l4), some (.int l5), none, none, none, none] [] (hp S)) (hk111 : ∀ (l0 : Nat) (l1 : Int32) (l2 : Int32) (l3 : Int32) (l4 : Int32) (l5 : Int32) (l6 : Int32) (l7 : Int32) (S : am_S), isC 10 l0 = true → k111 l0 l1 l2 l3 l4 l5 l6 l7 S = some out → Ev G (am_R 8 0 0) (am_Φ G h0 0 0 (q_i out) q_n) mX10_ask 0 0 111 [some (.ref l0), some (.int l1), some (.int l2), some (.int l3), some (.int l4), some (.int l5), some (.int l6), some (.int l7), none, none] [] (hp S)) (l0 : Nat) (l1 : Int32) (l2 : Int32) (l3 : Int32) (l4 : Int32) (l5 : Int32) (l6 : Int32) (l7 : Int32) (l8 : Int32) (S : am_S) (hl0 : isC 10 l0 = true) (hB : b_X10_ask_177 N k96 k111 l0 l1 l2 l3 l4 l5 l6 l7 l8 S = some out) : Ev G (am_R 8 0 0) (am_Φ G h0 0 0 (q_i out) q_n) mX10_ask 0 0 177 [some (.ref l0), some (.int l1), some (.int l2), some (.int l3), some (.int l4), some (.int l5), some (.int l6), some (.int l7), some (.int l8), none] [] (hp S) := by
  unfold b_X10_ask_177 at hB
  refine ev_iload dX10_ask_177 rfl ?_
  refine ev_iload dX10_ask_179 rfl ?_
  refine ev_ifeq 188 dX10_ask_181 (by decide) (fun q1 => ?_) (fun q1 => ?_)
  · rw [if_pos q1] at hB
    refine ev_iconst 0 dX10_ask_188 (by decide) ?_
    exact ev_ls (u_X10_ask_189 hk96 hk111 l0 l1 l2 l3 l4 l5 l7 l6 0 S hl0 hB) (And.intro rfl (And.intro rfl (And.intro rfl (And.intro rfl (And.intro rfl (And.intro rfl (And.intro rfl trivial)))))))
  · rw [if_neg q1] at hB
    refine ev_iconst 1 dX10_ask_184 (by decide) ?_
    refine ev_goto 189 dX10_ask_185 (by decide) ?_
    exact ev_ls (u_X10_ask_189 hk96 hk111 l0 l1 l2 l3 l4 l5 l7 l6 1 S hl0 hB) (And.intro rfl (And.intro rfl (And.intro rfl (And.intro rfl (And.intro rfl (And.intro rfl (And.intro rfl trivial)))))))
theorem u_X10_ask_123 {G : am_G} {N : Nat} {h0 : am_H} {out : Int32 × am_S} {k96 : Nat → Int32 → Int32 → Int32 → Int32 → Int32 → am_S → Option (Int32 × am_S)} {k111 : Nat → Int32 → Int32 → Int32 → Int32 → Int32 → Int32 → Int32 → am_S → Option (Int32 × am_S)} (hk96 : ∀ (l0 : Nat) (l1 : Int32) (l2 : Int32) (l3 : Int32) (l4 : Int32) (l5 : Int32) (S : am_S), isC 10 l0 = true → k96 l0 l1 l2 l3 l4 l5 S = some out → Ev G (am_R 8 0 0) (am_Φ G h0 0 0 (q_i out) q_n) mX10_ask 0 0 96 [some (.ref l0), some (.int l1), some (.int l2), some (.int l3), some (.int l4), some (.int l5), none, none, none, none] [] (hp S)) (hk111 : ∀ (l0 : Nat) (l1 : Int32) (l2 : Int32) (l3 : Int32) (l4 : Int32) (l5 : Int32) (l6 : Int32) (l7 : Int32) (S : am_S), isC 10 l0 = true → k111 l0 l1 l2 l3 l4 l5 l6 l7 S = some out → Ev G (am_R 8 0 0) (am_Φ G h0 0 0 (q_i out) q_n) mX10_ask 0 0 111 [some (.ref l0), some (.int l1), some (.int l2), some (.int l3), some (.int l4), some (.int l5), some (.int l6), some (.int l7), none, none] [] (hp S)) : ∀ (n : Nat) (l0 : Nat) (l1 : Int32) (l2 : Int32) (l3 : Int32) (l4 : Int32) (l5 : Int32) (l6 : Int32) (l7 : Int32) (l8 : Int32) (l9 : Int32) (S : am_S), isC 10 l0 = true → b_X10_ask_123 N k96 k111 n l0 l1 l2 l3 l4 l5 l6 l7 l8 l9 S = some out → Ev G (am_R 8 0 0) (am_Φ G h0 0 0 (q_i out) q_n) mX10_ask 0 0 123 [some (.ref l0), some (.int l1), some (.int l2), some (.int l3), some (.int l4), some (.int l5), some (.int l6), some (.int l7), some (.int l8), some (.int l9)] [] (hp S) := by
  intro n
  induction n with
  | zero =>
    intro l0 l1 l2 l3 l4 l5 l6 l7 l8 l9 S hl0 hB
    exact absurd (show none = some out from hB) (fun q => by cases q)
  | succ n ih =>
    intro l0 l1 l2 l3 l4 l5 l6 l7 l8 l9 S hl0 hB
    unfold b_X10_ask_123 at hB
    refine ev_iload dX10_ask_123 rfl ?_
    refine ev_iload dX10_ask_125 rfl ?_
    refine ev_icmpge 177 dX10_ask_127 (by decide) (fun q1 => ?_) (fun q1 => ?_)
    · rw [if_pos q1] at hB
      exact ev_ls (u_X10_ask_177 hk96 hk111 l0 l1 l2 l3 l4 l5 l6 l7 l8 S hl0 hB) (And.intro rfl (And.intro rfl (And.intro rfl (And.intro rfl (And.intro rfl (And.intro rfl (And.intro rfl (And.intro rfl (And.intro rfl trivial)))))))))
    · rw [if_neg q1] at hB
      refine ev_iload dX10_ask_130 rfl ?_
      refine ev_ifeq 177 dX10_ask_132 (by decide) (fun q2 => ?_) (fun q2 => ?_)
      · rw [if_pos q2] at hB
        exact ev_ls (u_X10_ask_177 hk96 hk111 l0 l1 l2 l3 l4 l5 l6 l7 l8 S hl0 hB) (And.intro rfl (And.intro rfl (And.intro rfl (And.intro rfl (And.intro rfl (And.intro rfl (And.intro rfl (And.intro rfl (And.intro rfl trivial)))))))))
      · rw [if_neg q2] at hB
        refine ev_aload_n dX10_ask_135 rfl ?_
        refine es_getr k_10 59 dX10_ask_136 (by decide) rfl (Or.inl w_1584) hl0 rfl ?_
        refine ev_bipush 8 dX10_ask_139 (by decide) ?_
        refine ev_iload dX10_ask_141 rfl ?_
        refine ev_imul dX10_ask_143 ?_
        refine ev_iload dX10_ask_144 rfl ?_
        refine ev_iadd dX10_ask_146 ?_
        obtain ⟨c3, hB⟩ := ck_of hB
        refine es_iald dX10_ask_147 (tr_10_59 hl0) c3 ?_
        refine ev_aload_n dX10_ask_148 rfl ?_
        refine es_getr k_10 59 dX10_ask_149 (by decide) rfl (Or.inl w_1584) hl0 rfl ?_
        refine ev_bipush 8 dX10_ask_152 (by decide) ?_
        refine ev_iload dX10_ask_154 rfl ?_
        refine ev_imul dX10_ask_156 ?_
        refine ev_iload dX10_ask_157 rfl ?_
        refine ev_iadd dX10_ask_159 ?_
        obtain ⟨c4, hB⟩ := ck_of hB
        refine es_iald dX10_ask_160 (tr_10_59 hl0) c4 ?_
        refine ev_icmpeq 168 dX10_ask_161 (by decide) (fun q5 => ?_) (fun q5 => ?_)
        · rw [if_pos q5] at hB
          refine ev_iconst 0 dX10_ask_168 (by decide) ?_
          exact ev_ls (u_X10_ask_169 hk96 hk111 ih l0 l1 l2 l3 l4 l5 l6 l7 l9 0 S hl0 hB) (And.intro rfl (And.intro rfl (And.intro rfl (And.intro rfl (And.intro rfl (And.intro rfl (And.intro rfl (And.intro rfl (And.intro rfl trivial)))))))))
        · rw [if_neg q5] at hB
          refine ev_iconst 1 dX10_ask_164 (by decide) ?_
          refine ev_goto 169 dX10_ask_165 (by decide) ?_
          exact ev_ls (u_X10_ask_169 hk96 hk111 ih l0 l1 l2 l3 l4 l5 l6 l7 l9 1 S hl0 hB) (And.intro rfl (And.intro rfl (And.intro rfl (And.intro rfl (And.intro rfl (And.intro rfl (And.intro rfl (And.intro rfl (And.intro rfl trivial)))))))))
theorem u_X10_ask_215 {G : am_G} {N : Nat} {h0 : am_H} {out : Int32 × am_S} {k96 : Nat → Int32 → Int32 → Int32 → Int32 → Int32 → am_S → Option (Int32 × am_S)} (hk96 : ∀ (l0 : Nat) (l1 : Int32) (l2 : Int32) (l3 : Int32) (l4 : Int32) (l5 : Int32) (S : am_S), isC 10 l0 = true → k96 l0 l1 l2 l3 l4 l5 S = some out → Ev G (am_R 8 0 0) (am_Φ G h0 0 0 (q_i out) q_n) mX10_ask 0 0 96 [some (.ref l0), some (.int l1), some (.int l2), some (.int l3), some (.int l4), some (.int l5), none, none, none, none] [] (hp S)) (l0 : Nat) (l1 : Int32) (l2 : Int32) (l3 : Int32) (l4 : Int32) (l5 : Int32) (S : am_S) (hl0 : isC 10 l0 = true) (hB : b_X10_ask_215 N k96 l0 l1 l2 l3 l4 l5 S = some out) : Ev G (am_R 8 0 0) (am_Φ G h0 0 0 (q_i out) q_n) mX10_ask 0 0 215 [some (.ref l0), some (.int l1), some (.int l2), some (.int l3), some (.int l4), some (.int l5), none, none, none, none] [] (hp S) := by
  unfold b_X10_ask_215 at hB
  refine es_iinc 1 dX10_ask_215 rfl (by decide) (by decide) rfl ?_
  refine ev_goto 96 dX10_ask_218 (by decide) ?_
  exact ev_ls (hk96 l0 l1 l2 l3 l4 (l5 + 1) S hl0 hB) (And.intro rfl (And.intro rfl (And.intro rfl (And.intro rfl (And.intro rfl (And.intro rfl trivial))))))
theorem u_X10_ask_111 {G : am_G} {N : Nat} {h0 : am_H} {out : Int32 × am_S} {k96 : Nat → Int32 → Int32 → Int32 → Int32 → Int32 → am_S → Option (Int32 × am_S)} (hk96 : ∀ (l0 : Nat) (l1 : Int32) (l2 : Int32) (l3 : Int32) (l4 : Int32) (l5 : Int32) (S : am_S), isC 10 l0 = true → k96 l0 l1 l2 l3 l4 l5 S = some out → Ev G (am_R 8 0 0) (am_Φ G h0 0 0 (q_i out) q_n) mX10_ask 0 0 96 [some (.ref l0), some (.int l1), some (.int l2), some (.int l3), some (.int l4), some (.int l5), none, none, none, none] [] (hp S)) : ∀ (n : Nat) (l0 : Nat) (l1 : Int32) (l2 : Int32) (l3 : Int32) (l4 : Int32) (l5 : Int32) (l6 : Int32) (l7 : Int32) (S : am_S), isC 10 l0 = true → b_X10_ask_111 N k96 n l0 l1 l2 l3 l4 l5 l6 l7 S = some out → Ev G (am_R 8 0 0) (am_Φ G h0 0 0 (q_i out) q_n) mX10_ask 0 0 111 [some (.ref l0), some (.int l1), some (.int l2), some (.int l3), some (.int l4), some (.int l5), some (.int l6), some (.int l7), none, none] [] (hp S) := by
  intro n
  induction n with
  | zero =>
    intro l0 l1 l2 l3 l4 l5 l6 l7 S hl0 hB
    exact absurd (show none = some out from hB) (fun q => by cases q)
  | succ n ih =>
    intro l0 l1 l2 l3 l4 l5 l6 l7 S hl0 hB
    unfold b_X10_ask_111 at hB
    refine ev_iload dX10_ask_111 rfl ?_
    refine ev_iload_n dX10_ask_113 rfl ?_
    refine ev_icmpge 198 dX10_ask_114 (by decide) (fun q1 => ?_) (fun q1 => ?_)
    · rw [if_pos q1] at hB
      refine ev_iload dX10_ask_198 rfl ?_
      refine ev_iload dX10_ask_200 rfl ?_
      refine ev_icmpgt 208 dX10_ask_202 (by decide) (fun q2 => ?_) (fun q2 => ?_)
      · rw [if_pos q2] at hB
        refine ev_iload dX10_ask_208 rfl ?_
        refine ev_istore_n dX10_ask_210 (by decide) rfl ?_
        refine ev_iload dX10_ask_211 rfl ?_
        refine ev_istore dX10_ask_213 (by decide) rfl ?_
        exact ev_ls (u_X10_ask_215 hk96 l0 l1 l2 l5 l6 l5 S hl0 hB) (And.intro rfl (And.intro rfl (And.intro rfl (And.intro rfl (And.intro rfl (And.intro rfl trivial))))))
      · rw [if_neg q2] at hB
        refine ev_goto 215 dX10_ask_205 (by decide) ?_
        exact ev_ls (u_X10_ask_215 hk96 l0 l1 l2 l3 l4 l5 S hl0 hB) (And.intro rfl (And.intro rfl (And.intro rfl (And.intro rfl (And.intro rfl (And.intro rfl trivial))))))
    · rw [if_neg q1] at hB
      refine ev_iconst 1 dX10_ask_117 (by decide) ?_
      refine ev_istore dX10_ask_118 (by decide) rfl ?_
      refine ev_iconst 0 dX10_ask_120 (by decide) ?_
      refine ev_istore dX10_ask_121 (by decide) rfl ?_
      exact ev_ls (u_X10_ask_123 hk96 ih N l0 l1 l2 l3 l4 l5 l6 l7 1 0 S hl0 hB) (And.intro rfl (And.intro rfl (And.intro rfl (And.intro rfl (And.intro rfl (And.intro rfl (And.intro rfl (And.intro rfl (And.intro rfl (And.intro rfl trivial))))))))))
theorem u_X10_ask_231 {G : am_G} {N : Nat} {h0 : am_H} {out : Int32 × am_S} (z0 : Int32) (S : am_S) (hB : b_X10_ask_231 N z0 S = some out) : Ev G (am_R 8 0 0) (am_Φ G h0 0 0 (q_i out) q_n) mX10_ask 0 0 231 [none, none, none, none, none, none, none, none, none, none] [.int z0] (hp S) := by
  unfold b_X10_ask_231 at hB
  obtain rfl := Option.some.inj hB
  exact ev_iret dX10_ask_231 rfl (Nat.zero_le _) (Nat.zero_le _) (fun z => absurd z (hp_sealed _)) ⟨rfl, rfl⟩
theorem u_X10_ask_96 {G : am_G} {N : Nat} {h0 : am_H} {out : Int32 × am_S} : ∀ (n : Nat) (l0 : Nat) (l1 : Int32) (l2 : Int32) (l3 : Int32) (l4 : Int32) (l5 : Int32) (S : am_S), isC 10 l0 = true → b_X10_ask_96 N n l0 l1 l2 l3 l4 l5 S = some out → Ev G (am_R 8 0 0) (am_Φ G h0 0 0 (q_i out) q_n) mX10_ask 0 0 96 [some (.ref l0), some (.int l1), some (.int l2), some (.int l3), some (.int l4), some (.int l5), none, none, none, none] [] (hp S) := by
  intro n
  induction n with
  | zero =>
    intro l0 l1 l2 l3 l4 l5 S hl0 hB
    exact absurd (show none = some out from hB) (fun q => by cases q)
  | succ n ih =>
    intro l0 l1 l2 l3 l4 l5 S hl0 hB
    unfold b_X10_ask_96 at hB
    refine ev_iload dX10_ask_96 rfl ?_
    refine ev_aload_n dX10_ask_98 rfl ?_
    refine es_geti k_10 2 dX10_ask_99 (by decide) rfl (Or.inl w_1527) hl0 rfl ?_
    refine ev_icmpge 221 dX10_ask_102 (by decide) (fun q1 => ?_) (fun q1 => ?_)
    · rw [if_pos q1] at hB
      refine ev_iload_n dX10_ask_221 rfl ?_
      refine ev_ifne 229 dX10_ask_222 (by decide) (fun q2 => ?_) (fun q2 => ?_)
      · rw [if_neg q2] at hB
        refine ev_iload dX10_ask_229 rfl ?_
        exact ev_ls (u_X10_ask_231 l4 S hB) trivial
      · rw [if_pos q2] at hB
        refine ev_iload_n dX10_ask_225 rfl ?_
        refine ev_goto 231 dX10_ask_226 (by decide) ?_
        exact ev_ls (u_X10_ask_231 l3 S hB) trivial
    · rw [if_neg q1] at hB
      refine ev_iconst 0 dX10_ask_105 (by decide) ?_
      refine ev_istore dX10_ask_106 (by decide) rfl ?_
      refine ev_iconst 0 dX10_ask_108 (by decide) ?_
      refine ev_istore dX10_ask_109 (by decide) rfl ?_
      exact ev_ls (u_X10_ask_111 ih N l0 l1 l2 l3 l4 l5 0 0 S hl0 hB) (And.intro rfl (And.intro rfl (And.intro rfl (And.intro rfl (And.intro rfl (And.intro rfl (And.intro rfl (And.intro rfl trivial))))))))
theorem u_X10_ask_20 {G : am_G} {N : Nat} {h0 : am_H} {out : Int32 × am_S} : ∀ (n : Nat) (l0 : Nat) (l1 : Int32) (l2 : Int32) (l3 : Int32) (S : am_S), isC 10 l0 = true → b_X10_ask_20 N n l0 l1 l2 l3 S = some out → Ev G (am_R 8 0 0) (am_Φ G h0 0 0 (q_i out) q_n) mX10_ask 0 0 20 [some (.ref l0), some (.int l1), some (.int l2), some (.int l3), none, none, none, none, none, none] [] (hp S) := by
  intro n
  induction n with
  | zero =>
    intro l0 l1 l2 l3 S hl0 hB
    exact absurd (show none = some out from hB) (fun q => by cases q)
  | succ n ih =>
    intro l0 l1 l2 l3 S hl0 hB
    unfold b_X10_ask_20 at hB
    refine ev_iload_n dX10_ask_20 rfl ?_
    refine ev_bipush 8 dX10_ask_21 (by decide) ?_
    refine ev_aload_n dX10_ask_23 rfl ?_
    refine es_geti k_10 2 dX10_ask_24 (by decide) rfl (Or.inl w_1527) hl0 rfl ?_
    refine ev_imul dX10_ask_27 ?_
    refine ev_icmpge 88 dX10_ask_28 (by decide) (fun q1 => ?_) (fun q1 => ?_)
    · rw [if_pos q1] at hB
      refine ev_iconst (-1) dX10_ask_88 (by decide) ?_
      refine ev_istore_n dX10_ask_89 (by decide) rfl ?_
      refine ev_iconst 0 dX10_ask_90 (by decide) ?_
      refine ev_istore dX10_ask_91 (by decide) rfl ?_
      refine ev_iconst 0 dX10_ask_93 (by decide) ?_
      refine ev_istore dX10_ask_94 (by decide) rfl ?_
      exact ev_ls (u_X10_ask_96 N l0 l1 l2 (-1) 0 0 S hl0 hB) (And.intro rfl (And.intro rfl (And.intro rfl (And.intro rfl (And.intro rfl (And.intro rfl trivial))))))
    · rw [if_neg q1] at hB
      refine ev_aload_n dX10_ask_31 rfl ?_
      refine ev_iload_n dX10_ask_32 rfl ?_
      obtain ⟨r2, S3, e4, hB⟩ := bd_of hB
      refine es_callVi (As := [.int l3]) (t_X10_isGuess hl0 e4) dX10_ask_33 oX10_isGuess w_2161 rfl hl0 rfl rfl (Nat.le_of_ble_eq_true rfl) rfl (am_fit.of (by decide)) ⟨Nat.zero_le _, Nat.zero_le _⟩ ?_
      refine ev_ifne 42 dX10_ask_36 (by decide) (fun q5 => ?_) (fun q5 => ?_)
      · rw [if_neg q5] at hB
        refine ev_iconst 0 dX10_ask_42 (by decide) ?_
        refine ev_istore dX10_ask_43 (by decide) rfl ?_
        exact ev_ls (u_X10_ask_45 ih N l0 l1 l2 l3 0 S3 hl0 hB) (And.intro rfl (And.intro rfl (And.intro rfl (And.intro rfl (And.intro rfl trivial)))))
      · rw [if_pos q5] at hB
        refine ev_goto 82 dX10_ask_39 (by decide) ?_
        exact ev_ls (u_X10_ask_82 ih l0 l1 l2 l3 S3 hl0 hB) (And.intro rfl (And.intro rfl (And.intro rfl (And.intro rfl trivial))))
theorem t_X10_ask {G : am_G} {N : Nat} {l0 : Nat} {l1 : Int32} {S : am_S} {out : Int32 × am_S} (hl0 : isC 10 l0 = true) (hB : f_X10_ask N l0 l1 S = some out) : am_Met G 8 mX10_ask 0 0 [.ref l0, .int l1] (hp S) (q_i out) q_n := by
  refine am_of (by decide +kernel) rfl rfl rfl (Nat.le_of_ble_eq_true rfl) ?_
  unfold f_X10_ask at hB
  refine ev_aload_n dX10_ask_0 rfl ?_
  refine ev_iconst 0 dX10_ask_1 (by decide) ?_
  refine es_puti k_10 0 dX10_ask_2 (by decide) rfl (Or.inl w_1525) rfl rfl hl0 rfl ?_
  refine ev_aload_n dX10_ask_5 rfl ?_
  refine ev_iload_n dX10_ask_6 rfl ?_
  refine ev_iconst 1 dX10_ask_7 (by decide) ?_
  obtain ⟨r1, S2, e3, hB⟩ := bd_of hB
  refine es_callVi (As := [.int l1, .int 1]) (t_X10_isWhat hl0 e3) dX10_ask_8 oX10_isWhat w_1918 rfl hl0 rfl rfl (Nat.le_of_ble_eq_true rfl) rfl (am_fit.of (by decide)) ⟨Nat.zero_le _, Nat.zero_le _⟩ ?_
  refine ev_ifne 16 dX10_ask_11 (by decide) (fun q4 => ?_) (fun q4 => ?_)
  · rw [if_neg q4] at hB
    refine ev_iconst 0 dX10_ask_16 (by decide) ?_
    refine ev_istore_n dX10_ask_17 (by decide) rfl ?_
    refine ev_iconst 0 dX10_ask_18 (by decide) ?_
    refine ev_istore_n dX10_ask_19 (by decide) rfl ?_
    exact ev_ls (u_X10_ask_20 N l0 l1 0 0 S2 hl0 hB) (And.intro rfl (And.intro rfl (And.intro rfl (And.intro rfl trivial))))
  · rw [if_pos q4] at hB
    refine ev_iconst 0 dX10_ask_14 (by decide) ?_
    obtain rfl := Option.some.inj hB
    exact ev_iret dX10_ask_15 rfl (Nat.zero_le _) (Nat.zero_le _) (fun z => absurd z (hp_sealed _)) ⟨rfl, rfl⟩
def b_X10_wetNights_57 (N : Nat)  (S : am_S) : Option (Int32 × am_S) := some (0, S)
def b_X10_wetNights_139 (N : Nat) (k65 : Nat → Int32 → Int32 → Int32 → Int32 → Int32 → Int32 → am_S → Option (Int32 × am_S)) (k83 : Nat → Int32 → Int32 → Int32 → Int32 → Int32 → Int32 → Int32 → Int32 → am_S → Option (Int32 × am_S)) (l0 : Nat) (l1 : Int32) (l2 : Int32) (l3 : Int32) (l4 : Int32) (l5 : Int32) (l6 : Int32) (l7 : Int32) (l8 : Int32) (z0 : Nat) (z1 : Int32) (S : am_S) : Option (Int32 × am_S) := (bv (f_X10_dayGoes N l0 80 (sp S z0 51 z1)) (fun S2 => k83 l0 l1 l2 l3 l4 l5 l6 l7 (l8 + 1) S2))
def b_X10_wetNights_124 (N : Nat) (k65 : Nat → Int32 → Int32 → Int32 → Int32 → Int32 → Int32 → am_S → Option (Int32 × am_S)) (k83 : Nat → Int32 → Int32 → Int32 → Int32 → Int32 → Int32 → Int32 → Int32 → am_S → Option (Int32 × am_S)) (l0 : Nat) (l1 : Int32) (l2 : Int32) (l3 : Int32) (l4 : Int32) (l5 : Int32) (l6 : Int32) (l8 : Int32) (l9 : Int32) (z0 : Int32) (z1 : Int32) (S : am_S) : Option (Int32 × am_S) := (if l9 = 0 then b_X10_wetNights_139 N (k65) (k83) l0 l1 l2 l3 l4 l5 l6 (z0 * z1) l8 l0 0 S else b_X10_wetNights_139 N (k65) (k83) l0 l1 l2 l3 l4 l5 l6 (z0 * z1) l8 l0 9 S)
def b_X10_wetNights_105 (N : Nat) (k65 : Nat → Int32 → Int32 → Int32 → Int32 → Int32 → Int32 → am_S → Option (Int32 × am_S)) (k83 : Nat → Int32 → Int32 → Int32 → Int32 → Int32 → Int32 → Int32 → Int32 → am_S → Option (Int32 × am_S)) (l0 : Nat) (l1 : Int32) (l2 : Int32) (l3 : Int32) (l4 : Int32) (l5 : Int32) (l6 : Int32) (l7 : Int32) (l8 : Int32) (z0 : Int32) (S : am_S) : Option (Int32 × am_S) := (if z0 = 0 then b_X10_wetNights_124 N (k65) (k83) l0 l1 l2 l3 l4 l5 l6 l8 z0 l7 (10 - l4) S else b_X10_wetNights_124 N (k65) (k83) l0 l1 l2 l3 l4 l5 l6 l8 z0 l7 l4 S)
def b_X10_wetNights_176 (N : Nat) (k65 : Nat → Int32 → Int32 → Int32 → Int32 → Int32 → Int32 → am_S → Option (Int32 × am_S)) (l0 : Nat) (l1 : Int32) (l2 : Int32) (l3 : Int32) (l4 : Int32) (l6 : Int32) (z0 : Int32) (z1 : Int32) (S : am_S) : Option (Int32 × am_S) := k65 l0 l1 l2 l3 l4 (z0 + z1) (l6 + 1) S
def b_X10_wetNights_83 (N : Nat) (k65 : Nat → Int32 → Int32 → Int32 → Int32 → Int32 → Int32 → am_S → Option (Int32 × am_S)) : Nat → Nat → Int32 → Int32 → Int32 → Int32 → Int32 → Int32 → Int32 → Int32 → am_S → Option (Int32 × am_S)
  | 0, _, _, _, _, _, _, _, _, _, _ => none
  | n + 1, l0, l1, l2, l3, l4, l5, l6, l7, l8, S => (if l3 ≤ l8 then (if inb (144 + l1) (ln (rf l0 46)) = true then (if (sg S (rf l0 46) (Int32.toNatClampNeg (144 + l1))) < l2 then b_X10_wetNights_176 N (k65) l0 l1 l2 l3 l4 l6 l5 0 S else b_X10_wetNights_176 N (k65) l0 l1 l2 l3 l4 l6 l5 l7 S) else none) else (if ((l6 >>> (l8 &&& (31 : Int32))) &&& 1) = 1 then b_X10_wetNights_105 N (k65) (b_X10_wetNights_83 N k65 n) l0 l1 l2 l3 l4 l5 l6 l7 l8 1 S else b_X10_wetNights_105 N (k65) (b_X10_wetNights_83 N k65 n) l0 l1 l2 l3 l4 l5 l6 l7 l8 0 S))
def b_X10_wetNights_65 (N : Nat) : Nat → Nat → Int32 → Int32 → Int32 → Int32 → Int32 → Int32 → am_S → Option (Int32 × am_S)
  | 0, _, _, _, _, _, _, _, _ => none
  | n + 1, l0, l1, l2, l3, l4, l5, l6, S => (if ((1 : Int32) <<< (l3 &&& (31 : Int32))) ≤ l6 then some (l5, (sp S l0 51 (-1))) else (bv (f_X10_tries N l0 S) (fun S3 => b_X10_wetNights_83 N (b_X10_wetNights_65 N n) N l0 l1 l2 l3 l4 l5 l6 1 0 S3)))
def b_X10_wetNights_50 (N : Nat) (l0 : Nat) (l1 : Int32) (l2 : Int32) (l3 : Int32) (l4 : Int32) (z0 : Nat) (z1 : Int32) (S : am_S) : Option (Int32 × am_S) := (bd (f_X10_right N z0 z1 2 S) (fun r1 S2 => (if r1 = 0 then b_X10_wetNights_57 N S2 else b_X10_wetNights_65 N N l0 l1 l2 l3 l4 0 0 S2)))
def b_X10_wetNights_49 (N : Nat) (l0 : Nat) (l1 : Int32) (l2 : Int32) (l3 : Int32) (l4 : Int32) (z0 : Nat) (S : am_S) : Option (Int32 × am_S) := b_X10_wetNights_50 N l0 l1 l2 l3 l4 z0 0 S
def f_X10_wetNights (N : Nat) (l0 : Nat) (l1 : Int32) (l2 : Int32) (l3 : Int32) (l4 : Int32) (S : am_S) : Option (Int32 × am_S) := (bd (f_X10_isPerson N l0 l1 (sp S l0 0 0)) (fun r1 S2 => (if r1 = 0 then b_X10_wetNights_57 N S2 else (bd (f_X10_within N l2 0 9999 S2) (fun r5 S6 => (if r5 = 0 then b_X10_wetNights_49 N l0 l1 l2 l3 l4 l0 S6 else (bd (f_X10_within N l3 1 5 S6) (fun r9 S10 => (if r9 = 0 then b_X10_wetNights_49 N l0 l1 l2 l3 l4 l0 S10 else (bd (f_X10_within N l4 0 10 S10) (fun r13 S14 => (if r13 = 0 then b_X10_wetNights_49 N l0 l1 l2 l3 l4 l0 S14 else b_X10_wetNights_50 N l0 l1 l2 l3 l4 l0 1 S14))))))))))))
theorem u_X10_wetNights_57 {G : am_G} {N : Nat} {h0 : am_H} {out : Int32 × am_S}  (S : am_S) (hB : b_X10_wetNights_57 N  S = some out) : Ev G (am_R 6 0 0) (am_Φ G h0 0 0 (q_i out) q_n) mX10_wetNights 0 0 57 [none, none, none, none, none, none, none, none, none, none] [] (hp S) := by
  unfold b_X10_wetNights_57 at hB
  refine ev_iconst 0 dX10_wetNights_57 (by decide) ?_
  obtain rfl := Option.some.inj hB
  exact ev_iret dX10_wetNights_58 rfl (Nat.zero_le _) (Nat.zero_le _) (fun z => absurd z (hp_sealed _)) ⟨rfl, rfl⟩
theorem u_X10_wetNights_139 {G : am_G} {N : Nat} {h0 : am_H} {out : Int32 × am_S} {k65 : Nat → Int32 → Int32 → Int32 → Int32 → Int32 → Int32 → am_S → Option (Int32 × am_S)} {k83 : Nat → Int32 → Int32 → Int32 → Int32 → Int32 → Int32 → Int32 → Int32 → am_S → Option (Int32 × am_S)} (hk65 : ∀ (l0 : Nat) (l1 : Int32) (l2 : Int32) (l3 : Int32) (l4 : Int32) (l5 : Int32) (l6 : Int32) (S : am_S), isC 10 l0 = true → k65 l0 l1 l2 l3 l4 l5 l6 S = some out → Ev G (am_R 6 0 0) (am_Φ G h0 0 0 (q_i out) q_n) mX10_wetNights 0 0 65 [some (.ref l0), some (.int l1), some (.int l2), some (.int l3), some (.int l4), some (.int l5), some (.int l6), none, none, none] [] (hp S)) (hk83 : ∀ (l0 : Nat) (l1 : Int32) (l2 : Int32) (l3 : Int32) (l4 : Int32) (l5 : Int32) (l6 : Int32) (l7 : Int32) (l8 : Int32) (S : am_S), isC 10 l0 = true → k83 l0 l1 l2 l3 l4 l5 l6 l7 l8 S = some out → Ev G (am_R 6 0 0) (am_Φ G h0 0 0 (q_i out) q_n) mX10_wetNights 0 0 83 [some (.ref l0), some (.int l1), some (.int l2), some (.int l3), some (.int l4), some (.int l5), some (.int l6), some (.int l7), some (.int l8), none] [] (hp S)) (l0 : Nat) (l1 : Int32) (l2 : Int32) (l3 : Int32) (l4 : Int32) (l5 : Int32) (l6 : Int32) (l7 : Int32) (l8 : Int32) (z0 : Nat) (z1 : Int32) (S : am_S) (hl0 : isC 10 l0 = true) (hz0 : isC 10 z0 = true) (hB : b_X10_wetNights_139 N k65 k83 l0 l1 l2 l3 l4 l5 l6 l7 l8 z0 z1 S = some out) : Ev G (am_R 6 0 0) (am_Φ G h0 0 0 (q_i out) q_n) mX10_wetNights 0 0 139 [some (.ref l0), some (.int l1), some (.int l2), some (.int l3), some (.int l4), some (.int l5), some (.int l6), some (.int l7), some (.int l8), none] [.int z1, .ref z0] (hp S) := by
  unfold b_X10_wetNights_139 at hB
  refine es_puti k_10 51 dX10_wetNights_139 (by decide) rfl (Or.inl w_1576) rfl rfl hz0 rfl ?_
  refine ev_aload_n dX10_wetNights_142 rfl ?_
  refine ev_bipush 80 dX10_wetNights_143 (by decide) ?_
  obtain ⟨S2, e3, hB⟩ := bv_of hB
  refine es_callVv (As := [.int 80]) (t_X10_dayGoes hl0 e3) dX10_wetNights_145 oX10_dayGoes w_1961 rfl hl0 rfl rfl (Nat.le_of_ble_eq_true rfl) rfl (am_fit.of (by decide)) ⟨Nat.zero_le _, Nat.zero_le _⟩ ?_
  refine es_iinc 1 dX10_wetNights_148 rfl (by decide) (by decide) rfl ?_
  refine ev_goto 83 dX10_wetNights_151 (by decide) ?_
  exact ev_ls (hk83 l0 l1 l2 l3 l4 l5 l6 l7 (l8 + 1) S2 hl0 hB) (And.intro rfl (And.intro rfl (And.intro rfl (And.intro rfl (And.intro rfl (And.intro rfl (And.intro rfl (And.intro rfl (And.intro rfl trivial)))))))))
theorem u_X10_wetNights_124 {G : am_G} {N : Nat} {h0 : am_H} {out : Int32 × am_S} {k65 : Nat → Int32 → Int32 → Int32 → Int32 → Int32 → Int32 → am_S → Option (Int32 × am_S)} {k83 : Nat → Int32 → Int32 → Int32 → Int32 → Int32 → Int32 → Int32 → Int32 → am_S → Option (Int32 × am_S)} (hk65 : ∀ (l0 : Nat) (l1 : Int32) (l2 : Int32) (l3 : Int32) (l4 : Int32) (l5 : Int32) (l6 : Int32) (S : am_S), isC 10 l0 = true → k65 l0 l1 l2 l3 l4 l5 l6 S = some out → Ev G (am_R 6 0 0) (am_Φ G h0 0 0 (q_i out) q_n) mX10_wetNights 0 0 65 [some (.ref l0), some (.int l1), some (.int l2), some (.int l3), some (.int l4), some (.int l5), some (.int l6), none, none, none] [] (hp S)) (hk83 : ∀ (l0 : Nat) (l1 : Int32) (l2 : Int32) (l3 : Int32) (l4 : Int32) (l5 : Int32) (l6 : Int32) (l7 : Int32) (l8 : Int32) (S : am_S), isC 10 l0 = true → k83 l0 l1 l2 l3 l4 l5 l6 l7 l8 S = some out → Ev G (am_R 6 0 0) (am_Φ G h0 0 0 (q_i out) q_n) mX10_wetNights 0 0 83 [some (.ref l0), some (.int l1), some (.int l2), some (.int l3), some (.int l4), some (.int l5), some (.int l6), some (.int l7), some (.int l8), none] [] (hp S)) (l0 : Nat) (l1 : Int32) (l2 : Int32) (l3 : Int32) (l4 : Int32) (l5 : Int32) (l6 : Int32) (l8 : Int32) (l9 : Int32) (z0 : Int32) (z1 : Int32) (S : am_S) (hl0 : isC 10 l0 = true) (hB : b_X10_wetNights_124 N k65 k83 l0 l1 l2 l3 l4 l5 l6 l8 l9 z0 z1 S = some out) : Ev G (am_R 6 0 0) (am_Φ G h0 0 0 (q_i out) q_n) mX10_wetNights 0 0 124 [some (.ref l0), some (.int l1), some (.int l2), some (.int l3), some (.int l4), some (.int l5), some (.int l6), none, some (.int l8), some (.int l9)] [.int z1, .int z0] (hp S) := by
  unfold b_X10_wetNights_124 at hB
  refine ev_imul dX10_wetNights_124 ?_
  refine ev_istore dX10_wetNights_125 (by decide) rfl ?_
  refine ev_aload_n dX10_wetNights_127 rfl ?_
  refine ev_iload dX10_wetNights_128 rfl ?_
  refine ev_ifeq 138 dX10_wetNights_130 (by decide) (fun q1 => ?_) (fun q1 => ?_)
  · rw [if_pos q1] at hB
    refine ev_iconst 0 dX10_wetNights_138 (by decide) ?_
    exact ev_ls (u_X10_wetNights_139 hk65 hk83 l0 l1 l2 l3 l4 l5 l6 (z0 * z1) l8 l0 0 S hl0 hl0 hB) (And.intro rfl (And.intro rfl (And.intro rfl (And.intro rfl (And.intro rfl (And.intro rfl (And.intro rfl (And.intro rfl (And.intro rfl trivial)))))))))
  · rw [if_neg q1] at hB
    refine ev_bipush 9 dX10_wetNights_133 (by decide) ?_
    refine ev_goto 139 dX10_wetNights_135 (by decide) ?_
    exact ev_ls (u_X10_wetNights_139 hk65 hk83 l0 l1 l2 l3 l4 l5 l6 (z0 * z1) l8 l0 9 S hl0 hl0 hB) (And.intro rfl (And.intro rfl (And.intro rfl (And.intro rfl (And.intro rfl (And.intro rfl (And.intro rfl (And.intro rfl (And.intro rfl trivial)))))))))
theorem u_X10_wetNights_105 {G : am_G} {N : Nat} {h0 : am_H} {out : Int32 × am_S} {k65 : Nat → Int32 → Int32 → Int32 → Int32 → Int32 → Int32 → am_S → Option (Int32 × am_S)} {k83 : Nat → Int32 → Int32 → Int32 → Int32 → Int32 → Int32 → Int32 → Int32 → am_S → Option (Int32 × am_S)} (hk65 : ∀ (l0 : Nat) (l1 : Int32) (l2 : Int32) (l3 : Int32) (l4 : Int32) (l5 : Int32) (l6 : Int32) (S : am_S), isC 10 l0 = true → k65 l0 l1 l2 l3 l4 l5 l6 S = some out → Ev G (am_R 6 0 0) (am_Φ G h0 0 0 (q_i out) q_n) mX10_wetNights 0 0 65 [some (.ref l0), some (.int l1), some (.int l2), some (.int l3), some (.int l4), some (.int l5), some (.int l6), none, none, none] [] (hp S)) (hk83 : ∀ (l0 : Nat) (l1 : Int32) (l2 : Int32) (l3 : Int32) (l4 : Int32) (l5 : Int32) (l6 : Int32) (l7 : Int32) (l8 : Int32) (S : am_S), isC 10 l0 = true → k83 l0 l1 l2 l3 l4 l5 l6 l7 l8 S = some out → Ev G (am_R 6 0 0) (am_Φ G h0 0 0 (q_i out) q_n) mX10_wetNights 0 0 83 [some (.ref l0), some (.int l1), some (.int l2), some (.int l3), some (.int l4), some (.int l5), some (.int l6), some (.int l7), some (.int l8), none] [] (hp S)) (l0 : Nat) (l1 : Int32) (l2 : Int32) (l3 : Int32) (l4 : Int32) (l5 : Int32) (l6 : Int32) (l7 : Int32) (l8 : Int32) (z0 : Int32) (S : am_S) (hl0 : isC 10 l0 = true) (hB : b_X10_wetNights_105 N k65 k83 l0 l1 l2 l3 l4 l5 l6 l7 l8 z0 S = some out) : Ev G (am_R 6 0 0) (am_Φ G h0 0 0 (q_i out) q_n) mX10_wetNights 0 0 105 [some (.ref l0), some (.int l1), some (.int l2), some (.int l3), some (.int l4), some (.int l5), some (.int l6), some (.int l7), some (.int l8), none] [.int z0] (hp S) := by
  unfold b_X10_wetNights_105 at hB
  refine ev_istore dX10_wetNights_105 (by decide) rfl ?_
  refine ev_iload dX10_wetNights_107 rfl ?_
  refine ev_iload dX10_wetNights_109 rfl ?_
  refine ev_ifeq 119 dX10_wetNights_111 (by decide) (fun q1 => ?_) (fun q1 => ?_)
  · rw [if_pos q1] at hB
    refine ev_bipush 10 dX10_wetNights_119 (by decide) ?_
    refine ev_iload dX10_wetNights_121 rfl ?_
    refine ev_isub dX10_wetNights_123 ?_
    exact ev_ls (u_X10_wetNights_124 hk65 hk83 l0 l1 l2 l3 l4 l5 l6 l8 z0 l7 (10 - l4) S hl0 hB) (And.intro rfl (And.intro rfl (And.intro rfl (And.intro rfl (And.intro rfl (And.intro rfl (And.intro rfl (And.intro rfl (And.intro rfl trivial)))))))))
  · rw [if_neg q1] at hB
    refine ev_iload dX10_wetNights_114 rfl ?_
    refine ev_goto 124 dX10_wetNights_116 (by decide) ?_
    exact ev_ls (u_X10_wetNights_124 hk65 hk83 l0 l1 l2 l3 l4 l5 l6 l8 z0 l7 l4 S hl0 hB) (And.intro rfl (And.intro rfl (And.intro rfl (And.intro rfl (And.intro rfl (And.intro rfl (And.intro rfl (And.intro rfl (And.intro rfl trivial)))))))))
theorem u_X10_wetNights_176 {G : am_G} {N : Nat} {h0 : am_H} {out : Int32 × am_S} {k65 : Nat → Int32 → Int32 → Int32 → Int32 → Int32 → Int32 → am_S → Option (Int32 × am_S)} (hk65 : ∀ (l0 : Nat) (l1 : Int32) (l2 : Int32) (l3 : Int32) (l4 : Int32) (l5 : Int32) (l6 : Int32) (S : am_S), isC 10 l0 = true → k65 l0 l1 l2 l3 l4 l5 l6 S = some out → Ev G (am_R 6 0 0) (am_Φ G h0 0 0 (q_i out) q_n) mX10_wetNights 0 0 65 [some (.ref l0), some (.int l1), some (.int l2), some (.int l3), some (.int l4), some (.int l5), some (.int l6), none, none, none] [] (hp S)) (l0 : Nat) (l1 : Int32) (l2 : Int32) (l3 : Int32) (l4 : Int32) (l6 : Int32) (z0 : Int32) (z1 : Int32) (S : am_S) (hl0 : isC 10 l0 = true) (hB : b_X10_wetNights_176 N k65 l0 l1 l2 l3 l4 l6 z0 z1 S = some out) : Ev G (am_R 6 0 0) (am_Φ G h0 0 0 (q_i out) q_n) mX10_wetNights 0 0 176 [some (.ref l0), some (.int l1), some (.int l2), some (.int l3), some (.int l4), none, some (.int l6), none, none, none] [.int z1, .int z0] (hp S) := by
  unfold b_X10_wetNights_176 at hB
  refine ev_iadd dX10_wetNights_176 ?_
  refine ev_istore dX10_wetNights_177 (by decide) rfl ?_
  refine es_iinc 1 dX10_wetNights_179 rfl (by decide) (by decide) rfl ?_
  refine ev_goto 65 dX10_wetNights_182 (by decide) ?_
  exact ev_ls (hk65 l0 l1 l2 l3 l4 (z0 + z1) (l6 + 1) S hl0 hB) (And.intro rfl (And.intro rfl (And.intro rfl (And.intro rfl (And.intro rfl (And.intro rfl (And.intro rfl trivial)))))))
theorem u_X10_wetNights_83 {G : am_G} {N : Nat} {h0 : am_H} {out : Int32 × am_S} {k65 : Nat → Int32 → Int32 → Int32 → Int32 → Int32 → Int32 → am_S → Option (Int32 × am_S)} (hk65 : ∀ (l0 : Nat) (l1 : Int32) (l2 : Int32) (l3 : Int32) (l4 : Int32) (l5 : Int32) (l6 : Int32) (S : am_S), isC 10 l0 = true → k65 l0 l1 l2 l3 l4 l5 l6 S = some out → Ev G (am_R 6 0 0) (am_Φ G h0 0 0 (q_i out) q_n) mX10_wetNights 0 0 65 [some (.ref l0), some (.int l1), some (.int l2), some (.int l3), some (.int l4), some (.int l5), some (.int l6), none, none, none] [] (hp S)) : ∀ (n : Nat) (l0 : Nat) (l1 : Int32) (l2 : Int32) (l3 : Int32) (l4 : Int32) (l5 : Int32) (l6 : Int32) (l7 : Int32) (l8 : Int32) (S : am_S), isC 10 l0 = true → b_X10_wetNights_83 N k65 n l0 l1 l2 l3 l4 l5 l6 l7 l8 S = some out → Ev G (am_R 6 0 0) (am_Φ G h0 0 0 (q_i out) q_n) mX10_wetNights 0 0 83 [some (.ref l0), some (.int l1), some (.int l2), some (.int l3), some (.int l4), some (.int l5), some (.int l6), some (.int l7), some (.int l8), none] [] (hp S) := by
  intro n
  induction n with
  | zero =>
    intro l0 l1 l2 l3 l4 l5 l6 l7 l8 S hl0 hB
    exact absurd (show none = some out from hB) (fun q => by cases q)
  | succ n ih =>
    intro l0 l1 l2 l3 l4 l5 l6 l7 l8 S hl0 hB
    unfold b_X10_wetNights_83 at hB
    refine ev_iload dX10_wetNights_83 rfl ?_
    refine ev_iload_n dX10_wetNights_85 rfl ?_
    refine ev_icmpge 154 dX10_wetNights_86 (by decide) (fun q1 => ?_) (fun q1 => ?_)
    · rw [if_pos q1] at hB
      refine ev_iload dX10_wetNights_154 rfl ?_
      refine ev_aload_n dX10_wetNights_156 rfl ?_
      refine es_getr k_10 46 dX10_wetNights_157 (by decide) rfl (Or.inl w_1571) hl0 rfl ?_
      refine ev_sipush 144 dX10_wetNights_160 (by decide) ?_
      refine ev_iload_n dX10_wetNights_163 rfl ?_
      refine ev_iadd dX10_wetNights_164 ?_
      obtain ⟨c2, hB⟩ := ck_of hB
      refine es_iald dX10_wetNights_165 (tr_10_46 hl0) c2 ?_
      refine ev_iload_n dX10_wetNights_166 rfl ?_
      refine ev_icmplt 175 dX10_wetNights_167 (by decide) (fun q3 => ?_) (fun q3 => ?_)
      · rw [if_pos q3] at hB
        refine ev_iconst 0 dX10_wetNights_175 (by decide) ?_
        exact ev_ls (u_X10_wetNights_176 hk65 l0 l1 l2 l3 l4 l6 l5 0 S hl0 hB) (And.intro rfl (And.intro rfl (And.intro rfl (And.intro rfl (And.intro rfl (And.intro rfl trivial))))))
      · rw [if_neg q3] at hB
        refine ev_iload dX10_wetNights_170 rfl ?_
        refine ev_goto 176 dX10_wetNights_172 (by decide) ?_
        exact ev_ls (u_X10_wetNights_176 hk65 l0 l1 l2 l3 l4 l6 l5 l7 S hl0 hB) (And.intro rfl (And.intro rfl (And.intro rfl (And.intro rfl (And.intro rfl (And.intro rfl trivial))))))
    · rw [if_neg q1] at hB
      refine ev_iload dX10_wetNights_89 rfl ?_
      refine ev_iload dX10_wetNights_91 rfl ?_
      refine ev_ishr dX10_wetNights_93 ?_
      refine ev_iconst 1 dX10_wetNights_94 (by decide) ?_
      refine ev_iand dX10_wetNights_95 ?_
      refine ev_iconst 1 dX10_wetNights_96 (by decide) ?_
      refine ev_icmpne 104 dX10_wetNights_97 (by decide) (fun q4 => ?_) (fun q4 => ?_)
      · rw [if_neg q4] at hB
        refine ev_iconst 0 dX10_wetNights_104 (by decide) ?_
        exact ev_ls (u_X10_wetNights_105 hk65 ih l0 l1 l2 l3 l4 l5 l6 l7 l8 0 S hl0 hB) (And.intro rfl (And.intro rfl (And.intro rfl (And.intro rfl (And.intro rfl (And.intro rfl (And.intro rfl (And.intro rfl (And.intro rfl trivial)))))))))
      · rw [if_pos q4] at hB
        refine ev_iconst 1 dX10_wetNights_100 (by decide) ?_
        refine ev_goto 105 dX10_wetNights_101 (by decide) ?_
        exact ev_ls (u_X10_wetNights_105 hk65 ih l0 l1 l2 l3 l4 l5 l6 l7 l8 1 S hl0 hB) (And.intro rfl (And.intro rfl (And.intro rfl (And.intro rfl (And.intro rfl (And.intro rfl (And.intro rfl (And.intro rfl (And.intro rfl trivial)))))))))
theorem u_X10_wetNights_65 {G : am_G} {N : Nat} {h0 : am_H} {out : Int32 × am_S} : ∀ (n : Nat) (l0 : Nat) (l1 : Int32) (l2 : Int32) (l3 : Int32) (l4 : Int32) (l5 : Int32) (l6 : Int32) (S : am_S), isC 10 l0 = true → b_X10_wetNights_65 N n l0 l1 l2 l3 l4 l5 l6 S = some out → Ev G (am_R 6 0 0) (am_Φ G h0 0 0 (q_i out) q_n) mX10_wetNights 0 0 65 [some (.ref l0), some (.int l1), some (.int l2), some (.int l3), some (.int l4), some (.int l5), some (.int l6), none, none, none] [] (hp S) := by
  intro n
  induction n with
  | zero =>
    intro l0 l1 l2 l3 l4 l5 l6 S hl0 hB
    exact absurd (show none = some out from hB) (fun q => by cases q)
  | succ n ih =>
    intro l0 l1 l2 l3 l4 l5 l6 S hl0 hB
    unfold b_X10_wetNights_65 at hB
    refine ev_iload dX10_wetNights_65 rfl ?_
    refine ev_iconst 1 dX10_wetNights_67 (by decide) ?_
    refine ev_iload_n dX10_wetNights_68 rfl ?_
    refine ev_ishl dX10_wetNights_69 ?_
    refine ev_icmpge 185 dX10_wetNights_70 (by decide) (fun q1 => ?_) (fun q1 => ?_)
    · rw [if_pos q1] at hB
      refine ev_aload_n dX10_wetNights_185 rfl ?_
      refine ev_iconst (-1) dX10_wetNights_186 (by decide) ?_
      refine es_puti k_10 51 dX10_wetNights_187 (by decide) rfl (Or.inl w_1576) rfl rfl hl0 rfl ?_
      refine ev_iload dX10_wetNights_190 rfl ?_
      obtain rfl := Option.some.inj hB
      exact ev_iret dX10_wetNights_192 rfl (Nat.zero_le _) (Nat.zero_le _) (fun z => absurd z (hp_sealed _)) ⟨rfl, rfl⟩
    · rw [if_neg q1] at hB
      refine ev_iconst 1 dX10_wetNights_73 (by decide) ?_
      refine ev_istore dX10_wetNights_74 (by decide) rfl ?_
      refine ev_aload_n dX10_wetNights_76 rfl ?_
      obtain ⟨S3, e4, hB⟩ := bv_of hB
      refine es_callVv (As := []) (t_X10_tries hl0 e4) dX10_wetNights_77 oX10_tries w_2034 rfl hl0 rfl rfl (Nat.le_of_ble_eq_true rfl) rfl (am_fit.of (by decide)) ⟨Nat.zero_le _, Nat.zero_le _⟩ ?_
      refine ev_iconst 0 dX10_wetNights_80 (by decide) ?_
      refine ev_istore dX10_wetNights_81 (by decide) rfl ?_
      exact ev_ls (u_X10_wetNights_83 ih N l0 l1 l2 l3 l4 l5 l6 1 0 S3 hl0 hB) (And.intro rfl (And.intro rfl (And.intro rfl (And.intro rfl (And.intro rfl (And.intro rfl (And.intro rfl (And.intro rfl (And.intro rfl trivial)))))))))
theorem u_X10_wetNights_50 {G : am_G} {N : Nat} {h0 : am_H} {out : Int32 × am_S} (l0 : Nat) (l1 : Int32) (l2 : Int32) (l3 : Int32) (l4 : Int32) (z0 : Nat) (z1 : Int32) (S : am_S) (hl0 : isC 10 l0 = true) (hz0 : isC 10 z0 = true) (hB : b_X10_wetNights_50 N l0 l1 l2 l3 l4 z0 z1 S = some out) : Ev G (am_R 6 0 0) (am_Φ G h0 0 0 (q_i out) q_n) mX10_wetNights 0 0 50 [some (.ref l0), some (.int l1), some (.int l2), some (.int l3), some (.int l4), none, none, none, none, none] [.int z1, .ref z0] (hp S) := by
  unfold b_X10_wetNights_50 at hB
  refine ev_iconst 2 dX10_wetNights_50 (by decide) ?_
  obtain ⟨r1, S2, e3, hB⟩ := bd_of hB
  refine es_callVi (As := [.int z1, .int 2]) (t_X10_right hz0 e3) dX10_wetNights_51 oX10_right w_1744 rfl hz0 rfl rfl (Nat.le_of_ble_eq_true rfl) rfl (am_fit.of (by decide)) ⟨Nat.zero_le _, Nat.zero_le _⟩ ?_
  refine ev_ifne 59 dX10_wetNights_54 (by decide) (fun q4 => ?_) (fun q4 => ?_)
  · rw [if_neg q4] at hB
    refine ev_iconst 0 dX10_wetNights_59 (by decide) ?_
    refine ev_istore dX10_wetNights_60 (by decide) rfl ?_
    refine ev_iconst 0 dX10_wetNights_62 (by decide) ?_
    refine ev_istore dX10_wetNights_63 (by decide) rfl ?_
    exact ev_ls (u_X10_wetNights_65 N l0 l1 l2 l3 l4 0 0 S2 hl0 hB) (And.intro rfl (And.intro rfl (And.intro rfl (And.intro rfl (And.intro rfl (And.intro rfl (And.intro rfl trivial)))))))
  · rw [if_pos q4] at hB
    exact ev_ls (u_X10_wetNights_57 S2 hB) trivial
theorem u_X10_wetNights_49 {G : am_G} {N : Nat} {h0 : am_H} {out : Int32 × am_S} (l0 : Nat) (l1 : Int32) (l2 : Int32) (l3 : Int32) (l4 : Int32) (z0 : Nat) (S : am_S) (hl0 : isC 10 l0 = true) (hz0 : isC 10 z0 = true) (hB : b_X10_wetNights_49 N l0 l1 l2 l3 l4 z0 S = some out) : Ev G (am_R 6 0 0) (am_Φ G h0 0 0 (q_i out) q_n) mX10_wetNights 0 0 49 [some (.ref l0), some (.int l1), some (.int l2), some (.int l3), some (.int l4), none, none, none, none, none] [.ref z0] (hp S) := by
  unfold b_X10_wetNights_49 at hB
  refine ev_iconst 0 dX10_wetNights_49 (by decide) ?_
  exact ev_ls (u_X10_wetNights_50 l0 l1 l2 l3 l4 z0 0 S hl0 hz0 hB) (And.intro rfl (And.intro rfl (And.intro rfl (And.intro rfl (And.intro rfl trivial)))))
theorem t_X10_wetNights {G : am_G} {N : Nat} {l0 : Nat} {l1 : Int32} {l2 : Int32} {l3 : Int32} {l4 : Int32} {S : am_S} {out : Int32 × am_S} (hl0 : isC 10 l0 = true) (hB : f_X10_wetNights N l0 l1 l2 l3 l4 S = some out) : am_Met G 6 mX10_wetNights 0 0 [.ref l0, .int l1, .int l2, .int l3, .int l4] (hp S) (q_i out) q_n := by
  refine am_of (by decide +kernel) rfl rfl rfl (Nat.le_of_ble_eq_true rfl) ?_
  unfold f_X10_wetNights at hB
  refine ev_aload_n dX10_wetNights_0 rfl ?_
  refine ev_iconst 0 dX10_wetNights_1 (by decide) ?_
  refine es_puti k_10 0 dX10_wetNights_2 (by decide) rfl (Or.inl w_1525) rfl rfl hl0 rfl ?_
  refine ev_aload_n dX10_wetNights_5 rfl ?_
  refine ev_iload_n dX10_wetNights_6 rfl ?_
  obtain ⟨r1, S2, e3, hB⟩ := bd_of hB
  refine es_callVi (As := [.int l1]) (t_X10_isPerson hl0 e3) dX10_wetNights_7 oX10_isPerson w_1941 rfl hl0 rfl rfl (Nat.le_of_ble_eq_true rfl) rfl (am_fit.of (by decide)) ⟨Nat.zero_le _, Nat.zero_le _⟩ ?_
  refine ev_ifeq 57 dX10_wetNights_10 (by decide) (fun q4 => ?_) (fun q4 => ?_)
  · rw [if_pos q4] at hB
    exact ev_ls (u_X10_wetNights_57 S2 hB) trivial
  · rw [if_neg q4] at hB
    refine ev_aload_n dX10_wetNights_13 rfl ?_
    refine ev_iload_n dX10_wetNights_14 rfl ?_
    refine ev_iconst 0 dX10_wetNights_15 (by decide) ?_
    refine ev_sipush 9999 dX10_wetNights_16 (by decide) ?_
    obtain ⟨r5, S6, e7, hB⟩ := bd_of hB
    refine es_callSi (As := [.int l2, .int 0, .int 9999]) (t_X10_within e7) dX10_wetNights_19 oX10_within w_1875 rfl (Nat.le_of_ble_eq_true rfl) rfl (am_fit.of (by decide)) ⟨Nat.zero_le _, Nat.zero_le _⟩ ?_
    refine ev_ifeq 49 dX10_wetNights_22 (by decide) (fun q8 => ?_) (fun q8 => ?_)
    · rw [if_pos q8] at hB
      exact ev_ls (u_X10_wetNights_49 l0 l1 l2 l3 l4 l0 S6 hl0 hl0 hB) (And.intro rfl (And.intro rfl (And.intro rfl (And.intro rfl (And.intro rfl trivial)))))
    · rw [if_neg q8] at hB
      refine ev_iload_n dX10_wetNights_25 rfl ?_
      refine ev_iconst 1 dX10_wetNights_26 (by decide) ?_
      refine ev_iconst 5 dX10_wetNights_27 (by decide) ?_
      obtain ⟨r9, S10, e11, hB⟩ := bd_of hB
      refine es_callSi (As := [.int l3, .int 1, .int 5]) (t_X10_within e11) dX10_wetNights_28 oX10_within w_1875 rfl (Nat.le_of_ble_eq_true rfl) rfl (am_fit.of (by decide)) ⟨Nat.zero_le _, Nat.zero_le _⟩ ?_
      refine ev_ifeq 49 dX10_wetNights_31 (by decide) (fun q12 => ?_) (fun q12 => ?_)
      · rw [if_pos q12] at hB
        exact ev_ls (u_X10_wetNights_49 l0 l1 l2 l3 l4 l0 S10 hl0 hl0 hB) (And.intro rfl (And.intro rfl (And.intro rfl (And.intro rfl (And.intro rfl trivial)))))
      · rw [if_neg q12] at hB
        refine ev_iload dX10_wetNights_34 rfl ?_
        refine ev_iconst 0 dX10_wetNights_36 (by decide) ?_
        refine ev_bipush 10 dX10_wetNights_37 (by decide) ?_
        obtain ⟨r13, S14, e15, hB⟩ := bd_of hB
        refine es_callSi (As := [.int l4, .int 0, .int 10]) (t_X10_within e15) dX10_wetNights_39 oX10_within w_1875 rfl (Nat.le_of_ble_eq_true rfl) rfl (am_fit.of (by decide)) ⟨Nat.zero_le _, Nat.zero_le _⟩ ?_
        refine ev_ifeq 49 dX10_wetNights_42 (by decide) (fun q16 => ?_) (fun q16 => ?_)
        · rw [if_pos q16] at hB
          exact ev_ls (u_X10_wetNights_49 l0 l1 l2 l3 l4 l0 S14 hl0 hl0 hB) (And.intro rfl (And.intro rfl (And.intro rfl (And.intro rfl (And.intro rfl trivial)))))
        · rw [if_neg q16] at hB
          refine ev_iconst 1 dX10_wetNights_45 (by decide) ?_
          refine ev_goto 50 dX10_wetNights_46 (by decide) ?_
          exact ev_ls (u_X10_wetNights_50 l0 l1 l2 l3 l4 l0 1 S14 hl0 hl0 hB) (And.intro rfl (And.intro rfl (And.intro rfl (And.intro rfl (And.intro rfl trivial)))))
def b_X10_gains_51 (N : Nat) (l0 : Nat) (l1 : Int32) (l3 : Int32) (S : am_S) : Option (Int32 × am_S) := (bv (f_X10_daysGo N l0 3 S) (fun S2 => (if inb (144 + l1) (ln (rf l0 46)) = true then (if inb (136 + l1) (ln (rf l0 46)) = true then some (((((sg S2 (rf l0 46) (Int32.toNatClampNeg (144 + l1))) / 5) - ((sg S2 (rf l0 46) (Int32.toNatClampNeg (136 + l1))) / 5)) - (2 * l3)), S2) else none) else none)))
def b_X10_gains_34 (N : Nat) (l0 : Nat) (l1 : Int32) (l2 : Int32) (l3 : Int32) (S : am_S) : Option (Int32 × am_S) := (if l3 = 1 then (if l1 ≤ l2 then b_X10_gains_51 N l0 l1 l3 S else (bv (f_X10_writes N l0 80 l1 S) (fun S4 => b_X10_gains_51 N l0 l1 l3 S4))) else b_X10_gains_51 N l0 l1 l3 S)
def b_X10_gains_21 (N : Nat) (l0 : Nat) (l1 : Int32) (l2 : Int32) (l3 : Int32) (l4 : Int32) (S : am_S) : Option (Int32 × am_S) := (if l4 = 1 then (bv (f_X10_writes N l0 80 l2 S) (fun S3 => b_X10_gains_34 N l0 l1 l2 l3 S3)) else b_X10_gains_34 N l0 l1 l2 l3 S)
def f_X10_gains (N : Nat) (l0 : Nat) (l1 : Int32) (l2 : Int32) (l3 : Int32) (l4 : Int32) (S : am_S) : Option (Int32 × am_S) := (bv (f_X10_tries N l0 S) (fun S2 => (if l3 = 1 then (if l2 ≤ l1 then b_X10_gains_21 N l0 l1 l2 l3 l4 S2 else (bv (f_X10_writes N l0 80 l1 S2) (fun S7 => b_X10_gains_21 N l0 l1 l2 l3 l4 S7))) else b_X10_gains_21 N l0 l1 l2 l3 l4 S2)))
theorem u_X10_gains_51 {G : am_G} {N : Nat} {h0 : am_H} {out : Int32 × am_S} (l0 : Nat) (l1 : Int32) (l3 : Int32) (S : am_S) (hl0 : isC 10 l0 = true) (hB : b_X10_gains_51 N l0 l1 l3 S = some out) : Ev G (am_R 7 0 0) (am_Φ G h0 0 0 (q_i out) q_n) mX10_gains 0 0 51 [some (.ref l0), some (.int l1), none, some (.int l3), none] [] (hp S) := by
  unfold b_X10_gains_51 at hB
  refine ev_aload_n dX10_gains_51 rfl ?_
  refine ev_iconst 3 dX10_gains_52 (by decide) ?_
  obtain ⟨S2, e3, hB⟩ := bv_of hB
  refine es_callVv (As := [.int 3]) (t_X10_daysGo hl0 e3) dX10_gains_53 oX10_daysGo w_2038 rfl hl0 rfl rfl (Nat.le_of_ble_eq_true rfl) rfl (am_fit.of (by decide)) ⟨Nat.zero_le _, Nat.zero_le _⟩ ?_
  refine ev_aload_n dX10_gains_56 rfl ?_
  refine es_getr k_10 46 dX10_gains_57 (by decide) rfl (Or.inl w_1571) hl0 rfl ?_
  refine ev_sipush 144 dX10_gains_60 (by decide) ?_
  refine ev_iload_n dX10_gains_63 rfl ?_
  refine ev_iadd dX10_gains_64 ?_
  obtain ⟨c4, hB⟩ := ck_of hB
  refine es_iald dX10_gains_65 (tr_10_46 hl0) c4 ?_
  refine ev_iconst 5 dX10_gains_66 (by decide) ?_
  refine ev_idiv dX10_gains_67 (by decide) ?_
  refine ev_aload_n dX10_gains_68 rfl ?_
  refine es_getr k_10 46 dX10_gains_69 (by decide) rfl (Or.inl w_1571) hl0 rfl ?_
  refine ev_sipush 136 dX10_gains_72 (by decide) ?_
  refine ev_iload_n dX10_gains_75 rfl ?_
  refine ev_iadd dX10_gains_76 ?_
  obtain ⟨c6, hB⟩ := ck_of hB
  refine es_iald dX10_gains_77 (tr_10_46 hl0) c6 ?_
  refine ev_iconst 5 dX10_gains_78 (by decide) ?_
  refine ev_idiv dX10_gains_79 (by decide) ?_
  refine ev_isub dX10_gains_80 ?_
  refine ev_iconst 2 dX10_gains_81 (by decide) ?_
  refine ev_iload_n dX10_gains_82 rfl ?_
  refine ev_imul dX10_gains_83 ?_
  refine ev_isub dX10_gains_84 ?_
  obtain rfl := Option.some.inj hB
  exact ev_iret dX10_gains_85 rfl (Nat.zero_le _) (Nat.zero_le _) (fun z => absurd z (hp_sealed _)) ⟨rfl, rfl⟩
theorem u_X10_gains_34 {G : am_G} {N : Nat} {h0 : am_H} {out : Int32 × am_S} (l0 : Nat) (l1 : Int32) (l2 : Int32) (l3 : Int32) (S : am_S) (hl0 : isC 10 l0 = true) (hB : b_X10_gains_34 N l0 l1 l2 l3 S = some out) : Ev G (am_R 7 0 0) (am_Φ G h0 0 0 (q_i out) q_n) mX10_gains 0 0 34 [some (.ref l0), some (.int l1), some (.int l2), some (.int l3), none] [] (hp S) := by
  unfold b_X10_gains_34 at hB
  refine ev_iload_n dX10_gains_34 rfl ?_
  refine ev_iconst 1 dX10_gains_35 (by decide) ?_
  refine ev_icmpne 51 dX10_gains_36 (by decide) (fun q1 => ?_) (fun q1 => ?_)
  · rw [if_neg q1] at hB
    exact ev_ls (u_X10_gains_51 l0 l1 l3 S hl0 hB) (And.intro rfl (And.intro rfl (And.intro rfl trivial)))
  · rw [if_pos q1] at hB
    refine ev_iload_n dX10_gains_39 rfl ?_
    refine ev_iload_n dX10_gains_40 rfl ?_
    refine ev_icmple 51 dX10_gains_41 (by decide) (fun q2 => ?_) (fun q2 => ?_)
    · rw [if_pos q2] at hB
      exact ev_ls (u_X10_gains_51 l0 l1 l3 S hl0 hB) (And.intro rfl (And.intro rfl (And.intro rfl trivial)))
    · rw [if_neg q2] at hB
      refine ev_aload_n dX10_gains_44 rfl ?_
      refine ev_bipush 80 dX10_gains_45 (by decide) ?_
      refine ev_iload_n dX10_gains_47 rfl ?_
      obtain ⟨S4, e5, hB⟩ := bv_of hB
      refine es_callVv (As := [.int 80, .int l1]) (t_X10_writes hl0 e5) dX10_gains_48 oX10_writes w_2002 rfl hl0 rfl rfl (Nat.le_of_ble_eq_true rfl) rfl (am_fit.of (by decide)) ⟨Nat.zero_le _, Nat.zero_le _⟩ ?_
      exact ev_ls (u_X10_gains_51 l0 l1 l3 S4 hl0 hB) (And.intro rfl (And.intro rfl (And.intro rfl trivial)))
theorem u_X10_gains_21 {G : am_G} {N : Nat} {h0 : am_H} {out : Int32 × am_S} (l0 : Nat) (l1 : Int32) (l2 : Int32) (l3 : Int32) (l4 : Int32) (S : am_S) (hl0 : isC 10 l0 = true) (hB : b_X10_gains_21 N l0 l1 l2 l3 l4 S = some out) : Ev G (am_R 7 0 0) (am_Φ G h0 0 0 (q_i out) q_n) mX10_gains 0 0 21 [some (.ref l0), some (.int l1), some (.int l2), some (.int l3), some (.int l4)] [] (hp S) := by
  unfold b_X10_gains_21 at hB
  refine ev_iload dX10_gains_21 rfl ?_
  refine ev_iconst 1 dX10_gains_23 (by decide) ?_
  refine ev_icmpne 34 dX10_gains_24 (by decide) (fun q1 => ?_) (fun q1 => ?_)
  · rw [if_neg q1] at hB
    exact ev_ls (u_X10_gains_34 l0 l1 l2 l3 S hl0 hB) (And.intro rfl (And.intro rfl (And.intro rfl (And.intro rfl trivial))))
  · rw [if_pos q1] at hB
    refine ev_aload_n dX10_gains_27 rfl ?_
    refine ev_bipush 80 dX10_gains_28 (by decide) ?_
    refine ev_iload_n dX10_gains_30 rfl ?_
    obtain ⟨S3, e4, hB⟩ := bv_of hB
    refine es_callVv (As := [.int 80, .int l2]) (t_X10_writes hl0 e4) dX10_gains_31 oX10_writes w_2002 rfl hl0 rfl rfl (Nat.le_of_ble_eq_true rfl) rfl (am_fit.of (by decide)) ⟨Nat.zero_le _, Nat.zero_le _⟩ ?_
    exact ev_ls (u_X10_gains_34 l0 l1 l2 l3 S3 hl0 hB) (And.intro rfl (And.intro rfl (And.intro rfl (And.intro rfl trivial))))
theorem t_X10_gains {G : am_G} {N : Nat} {l0 : Nat} {l1 : Int32} {l2 : Int32} {l3 : Int32} {l4 : Int32} {S : am_S} {out : Int32 × am_S} (hl0 : isC 10 l0 = true) (hB : f_X10_gains N l0 l1 l2 l3 l4 S = some out) : am_Met G 7 mX10_gains 0 0 [.ref l0, .int l1, .int l2, .int l3, .int l4] (hp S) (q_i out) q_n := by
  refine am_of (by decide +kernel) rfl rfl rfl (Nat.le_of_ble_eq_true rfl) ?_
  unfold f_X10_gains at hB
  refine ev_aload_n dX10_gains_0 rfl ?_
  obtain ⟨S2, e3, hB⟩ := bv_of hB
  refine es_callVv (As := []) (t_X10_tries hl0 e3) dX10_gains_1 oX10_tries w_2034 rfl hl0 rfl rfl (Nat.le_of_ble_eq_true rfl) rfl (am_fit.of (by decide)) ⟨Nat.zero_le _, Nat.zero_le _⟩ ?_
  refine ev_iload_n dX10_gains_4 rfl ?_
  refine ev_iconst 1 dX10_gains_5 (by decide) ?_
  refine ev_icmpne 21 dX10_gains_6 (by decide) (fun q4 => ?_) (fun q4 => ?_)
  · rw [if_neg q4] at hB
    exact ev_ls (u_X10_gains_21 l0 l1 l2 l3 l4 S2 hl0 hB) (And.intro rfl (And.intro rfl (And.intro rfl (And.intro rfl (And.intro rfl trivial)))))
  · rw [if_pos q4] at hB
    refine ev_iload_n dX10_gains_9 rfl ?_
    refine ev_iload_n dX10_gains_10 rfl ?_
    refine ev_icmpge 21 dX10_gains_11 (by decide) (fun q5 => ?_) (fun q5 => ?_)
    · rw [if_pos q5] at hB
      exact ev_ls (u_X10_gains_21 l0 l1 l2 l3 l4 S2 hl0 hB) (And.intro rfl (And.intro rfl (And.intro rfl (And.intro rfl (And.intro rfl trivial)))))
    · rw [if_neg q5] at hB
      refine ev_aload_n dX10_gains_14 rfl ?_
      refine ev_bipush 80 dX10_gains_15 (by decide) ?_
      refine ev_iload_n dX10_gains_17 rfl ?_
      obtain ⟨S7, e8, hB⟩ := bv_of hB
      refine es_callVv (As := [.int 80, .int l1]) (t_X10_writes hl0 e8) dX10_gains_18 oX10_writes w_2002 rfl hl0 rfl rfl (Nat.le_of_ble_eq_true rfl) rfl (am_fit.of (by decide)) ⟨Nat.zero_le _, Nat.zero_le _⟩ ?_
      exact ev_ls (u_X10_gains_21 l0 l1 l2 l3 l4 S7 hl0 hB) (And.intro rfl (And.intro rfl (And.intro rfl (And.intro rfl (And.intro rfl trivial)))))
def b_X10_game_48 (N : Nat)  (S : am_S) : Option (Int32 × am_S) := some (0, S)
def b_X10_game_76 (N : Nat)  (S : am_S) : Option (Int32 × am_S) := some ((-1), S)
def b_X10_game_177 (N : Nat) (k87 : Nat → Int32 → Int32 → Int32 → Int32 → Int32 → Int32 → am_S → Option (Int32 × am_S)) (l0 : Nat) (l1 : Int32) (l2 : Int32) (l3 : Int32) (l4 : Int32) (l5 : Int32) (l6 : Int32) (S : am_S) : Option (Int32 × am_S) := k87 l0 l1 l2 l3 l4 l5 (l6 + 1) S
def b_X10_game_194 (N : Nat) (z0 : Int32) (S : am_S) : Option (Int32 × am_S) := some (z0, S)
def b_X10_game_87 (N : Nat) : Nat → Nat → Int32 → Int32 → Int32 → Int32 → Int32 → Int32 → am_S → Option (Int32 × am_S)
  | 0, _, _, _, _, _, _, _, _ => none
  | n + 1, l0, l1, l2, l3, l4, l5, l6, S => (if 4 ≤ l6 then (if l3 = 0 then b_X10_game_194 N l4 S else b_X10_game_194 N l5 S) else (bd (f_X10_gains N l0 l1 l2 (1 - (l6 / 2)) (l6 - l6 / 2 * 2) S) (fun r5 S6 => (bd (f_X10_gains N l0 l1 l2 (l6 / 2) (l6 - l6 / 2 * 2) S6) (fun r8 S9 => (if r8 < r5 then b_X10_game_177 N (b_X10_game_87 N n) l0 l1 l2 l3 l4 l5 l6 S9 else (bd (f_X10_gains N l0 l2 l1 (1 - (l6 - l6 / 2 * 2)) (l6 / 2) S9) (fun r12 S13 => (bd (f_X10_gains N l0 l2 l1 (l6 - l6 / 2 * 2) (l6 / 2) S13) (fun r15 S16 => (if r12 ≤ r15 then (if l5 = (-1) then b_X10_game_177 N (b_X10_game_87 N n) l0 l1 l2 l3 (l4 + 1) ((10 * (l6 / 2)) + (l6 - l6 / 2 * 2)) l6 S16 else b_X10_game_177 N (b_X10_game_87 N n) l0 l1 l2 l3 (l4 + 1) l5 l6 S16) else b_X10_game_177 N (b_X10_game_87 N n) l0 l1 l2 l3 l4 l5 l6 S16)))))))))))
def b_X10_game_41 (N : Nat) (l0 : Nat) (l1 : Int32) (l2 : Int32) (l3 : Int32) (z0 : Nat) (z1 : Int32) (S : am_S) : Option (Int32 × am_S) := (bd (f_X10_right N z0 z1 2 S) (fun r1 S2 => (if r1 = 0 then b_X10_game_48 N S2 else (if inb (72 + l1) (ln (rf l0 46)) = true then (if (sg S2 (rf l0 46) (Int32.toNatClampNeg (72 + l1))) = (-1) then b_X10_game_76 N S2 else (if inb (72 + l2) (ln (rf l0 46)) = true then (if (sg S2 (rf l0 46) (Int32.toNatClampNeg (72 + l2))) = (-1) then b_X10_game_76 N S2 else b_X10_game_87 N N l0 l1 l2 l3 0 (-1) 0 S2) else none)) else none))))
def f_X10_game (N : Nat) (l0 : Nat) (l1 : Int32) (l2 : Int32) (l3 : Int32) (S : am_S) : Option (Int32 × am_S) := (bd (f_X10_isPerson N l0 l1 (sp S l0 0 0)) (fun r1 S2 => (if r1 = 0 then b_X10_game_48 N S2 else (bd (f_X10_isPerson N l0 l2 S2) (fun r5 S6 => (if r5 = 0 then b_X10_game_48 N S6 else (bd (f_X10_isWhat N l0 l3 1 S6) (fun r9 S10 => (if r9 = 0 then b_X10_game_48 N S10 else (if l1 = l2 then b_X10_game_41 N l0 l1 l2 l3 l0 0 S10 else b_X10_game_41 N l0 l1 l2 l3 l0 1 S10))))))))))
theorem u_X10_game_48 {G : am_G} {N : Nat} {h0 : am_H} {out : Int32 × am_S}  (S : am_S) (hB : b_X10_game_48 N  S = some out) : Ev G (am_R 8 0 0) (am_Φ G h0 0 0 (q_i out) q_n) mX10_game 0 0 48 [none, none, none, none, none, none, none, none, none] [] (hp S) := by
  unfold b_X10_game_48 at hB
  refine ev_iconst 0 dX10_game_48 (by decide) ?_
  obtain rfl := Option.some.inj hB
  exact ev_iret dX10_game_49 rfl (Nat.zero_le _) (Nat.zero_le _) (fun z => absurd z (hp_sealed _)) ⟨rfl, rfl⟩
theorem u_X10_game_76 {G : am_G} {N : Nat} {h0 : am_H} {out : Int32 × am_S}  (S : am_S) (hB : b_X10_game_76 N  S = some out) : Ev G (am_R 8 0 0) (am_Φ G h0 0 0 (q_i out) q_n) mX10_game 0 0 76 [none, none, none, none, none, none, none, none, none] [] (hp S) := by
  unfold b_X10_game_76 at hB
  refine ev_iconst (-1) dX10_game_76 (by decide) ?_
  obtain rfl := Option.some.inj hB
  exact ev_iret dX10_game_77 rfl (Nat.zero_le _) (Nat.zero_le _) (fun z => absurd z (hp_sealed _)) ⟨rfl, rfl⟩
theorem u_X10_game_177 {G : am_G} {N : Nat} {h0 : am_H} {out : Int32 × am_S} {k87 : Nat → Int32 → Int32 → Int32 → Int32 → Int32 → Int32 → am_S → Option (Int32 × am_S)} (hk87 : ∀ (l0 : Nat) (l1 : Int32) (l2 : Int32) (l3 : Int32) (l4 : Int32) (l5 : Int32) (l6 : Int32) (S : am_S), isC 10 l0 = true → k87 l0 l1 l2 l3 l4 l5 l6 S = some out → Ev G (am_R 8 0 0) (am_Φ G h0 0 0 (q_i out) q_n) mX10_game 0 0 87 [some (.ref l0), some (.int l1), some (.int l2), some (.int l3), some (.int l4), some (.int l5), some (.int l6), none, none] [] (hp S)) (l0 : Nat) (l1 : Int32) (l2 : Int32) (l3 : Int32) (l4 : Int32) (l5 : Int32) (l6 : Int32) (S : am_S) (hl0 : isC 10 l0 = true) (hB : b_X10_game_177 N k87 l0 l1 l2 l3 l4 l5 l6 S = some out) : Ev G (am_R 8 0 0) (am_Φ G h0 0 0 (q_i out) q_n) mX10_game 0 0 177 [some (.ref l0), some (.int l1), some (.int l2), some (.int l3), some (.int l4), some (.int l5), some (.int l6), none, none] [] (hp S) := by
  unfold b_X10_game_177 at hB
  refine es_iinc 1 dX10_game_177 rfl (by decide) (by decide) rfl ?_
  refine ev_goto 87 dX10_game_180 (by decide) ?_
  exact ev_ls (hk87 l0 l1 l2 l3 l4 l5 (l6 + 1) S hl0 hB) (And.intro rfl (And.intro rfl (And.intro rfl (And.intro rfl (And.intro rfl (And.intro rfl (And.intro rfl trivial)))))))
theorem u_X10_game_194 {G : am_G} {N : Nat} {h0 : am_H} {out : Int32 × am_S} (z0 : Int32) (S : am_S) (hB : b_X10_game_194 N z0 S = some out) : Ev G (am_R 8 0 0) (am_Φ G h0 0 0 (q_i out) q_n) mX10_game 0 0 194 [none, none, none, none, none, none, none, none, none] [.int z0] (hp S) := by
  unfold b_X10_game_194 at hB
  obtain rfl := Option.some.inj hB
  exact ev_iret dX10_game_194 rfl (Nat.zero_le _) (Nat.zero_le _) (fun z => absurd z (hp_sealed _)) ⟨rfl, rfl⟩
theorem u_X10_game_87 {G : am_G} {N : Nat} {h0 : am_H} {out : Int32 × am_S} : ∀ (n : Nat) (l0 : Nat) (l1 : Int32) (l2 : Int32) (l3 : Int32) (l4 : Int32) (l5 : Int32) (l6 : Int32) (S : am_S), isC 10 l0 = true → b_X10_game_87 N n l0 l1 l2 l3 l4 l5 l6 S = some out → Ev G (am_R 8 0 0) (am_Φ G h0 0 0 (q_i out) q_n) mX10_game 0 0 87 [some (.ref l0), some (.int l1), some (.int l2), some (.int l3), some (.int l4), some (.int l5), some (.int l6), none, none] [] (hp S) := by
  intro n
  induction n with
  | zero =>
    intro l0 l1 l2 l3 l4 l5 l6 S hl0 hB
    exact absurd (show none = some out from hB) (fun q => by cases q)
  | succ n ih =>
    intro l0 l1 l2 l3 l4 l5 l6 S hl0 hB
    unfold b_X10_game_87 at hB
    refine ev_iload dX10_game_87 rfl ?_
    refine ev_iconst 4 dX10_game_89 (by decide) ?_
    refine ev_icmpge 183 dX10_game_90 (by decide) (fun q1 => ?_) (fun q1 => ?_)
    · rw [if_pos q1] at hB
      refine ev_iload_n dX10_game_183 rfl ?_
      refine ev_ifne 192 dX10_game_184 (by decide) (fun q2 => ?_) (fun q2 => ?_)
      · rw [if_neg q2] at hB
        refine ev_iload dX10_game_192 rfl ?_
        exact ev_ls (u_X10_game_194 l5 S hB) trivial
      · rw [if_pos q2] at hB
        refine ev_iload dX10_game_187 rfl ?_
        refine ev_goto 194 dX10_game_189 (by decide) ?_
        exact ev_ls (u_X10_game_194 l4 S hB) trivial
    · rw [if_neg q1] at hB
      refine ev_iload dX10_game_93 rfl ?_
      refine ev_iconst 2 dX10_game_95 (by decide) ?_
      refine ev_idiv dX10_game_96 (by decide) ?_
      refine ev_istore dX10_game_97 (by decide) rfl ?_
      refine ev_iload dX10_game_99 rfl ?_
      refine ev_iconst 2 dX10_game_101 (by decide) ?_
      refine ev_irem dX10_game_102 (by decide) ?_
      refine ev_istore dX10_game_103 (by decide) rfl ?_
      refine ev_aload_n dX10_game_105 rfl ?_
      refine ev_iload_n dX10_game_106 rfl ?_
      refine ev_iload_n dX10_game_107 rfl ?_
      refine ev_iconst 1 dX10_game_108 (by decide) ?_
      refine ev_iload dX10_game_109 rfl ?_
      refine ev_isub dX10_game_111 ?_
      refine ev_iload dX10_game_112 rfl ?_
      obtain ⟨r5, S6, e7, hB⟩ := bd_of hB
      refine es_callVi (As := [.int l1, .int l2, .int (1 - (l6 / 2)), .int (l6 - l6 / 2 * 2)]) (t_X10_gains hl0 e7) dX10_game_114 oX10_gains w_2177 rfl hl0 rfl rfl (Nat.le_of_ble_eq_true rfl) rfl (am_fit.of (by decide)) ⟨Nat.zero_le _, Nat.zero_le _⟩ ?_
      refine ev_aload_n dX10_game_117 rfl ?_
      refine ev_iload_n dX10_game_118 rfl ?_
      refine ev_iload_n dX10_game_119 rfl ?_
      refine ev_iload dX10_game_120 rfl ?_
      refine ev_iload dX10_game_122 rfl ?_
      obtain ⟨r8, S9, e10, hB⟩ := bd_of hB
      refine es_callVi (As := [.int l1, .int l2, .int (l6 / 2), .int (l6 - l6 / 2 * 2)]) (t_X10_gains hl0 e10) dX10_game_124 oX10_gains w_2177 rfl hl0 rfl rfl (Nat.le_of_ble_eq_true rfl) rfl (am_fit.of (by decide)) ⟨Nat.zero_le _, Nat.zero_le _⟩ ?_
      refine ev_icmpgt 177 dX10_game_127 (by decide) (fun q11 => ?_) (fun q11 => ?_)
      · rw [if_pos q11] at hB
        exact ev_ls (u_X10_game_177 ih l0 l1 l2 l3 l4 l5 l6 S9 hl0 hB) (And.intro rfl (And.intro rfl (And.intro rfl (And.intro rfl (And.intro rfl (And.intro rfl (And.intro rfl trivial)))))))
      · rw [if_neg q11] at hB
        refine ev_aload_n dX10_game_130 rfl ?_
        refine ev_iload_n dX10_game_131 rfl ?_
        refine ev_iload_n dX10_game_132 rfl ?_
        refine ev_iconst 1 dX10_game_133 (by decide) ?_
        refine ev_iload dX10_game_134 rfl ?_
        refine ev_isub dX10_game_136 ?_
        refine ev_iload dX10_game_137 rfl ?_
        obtain ⟨r12, S13, e14, hB⟩ := bd_of hB
        refine es_callVi (As := [.int l2, .int l1, .int (1 - (l6 - l6 / 2 * 2)), .int (l6 / 2)]) (t_X10_gains hl0 e14) dX10_game_139 oX10_gains w_2177 rfl hl0 rfl rfl (Nat.le_of_ble_eq_true rfl) rfl (am_fit.of (by decide)) ⟨Nat.zero_le _, Nat.zero_le _⟩ ?_
        refine ev_aload_n dX10_game_142 rfl ?_
        refine ev_iload_n dX10_game_143 rfl ?_
        refine ev_iload_n dX10_game_144 rfl ?_
        refine ev_iload dX10_game_145 rfl ?_
        refine ev_iload dX10_game_147 rfl ?_
        obtain ⟨r15, S16, e17, hB⟩ := bd_of hB
        refine es_callVi (As := [.int l2, .int l1, .int (l6 - l6 / 2 * 2), .int (l6 / 2)]) (t_X10_gains hl0 e17) dX10_game_149 oX10_gains w_2177 rfl hl0 rfl rfl (Nat.le_of_ble_eq_true rfl) rfl (am_fit.of (by decide)) ⟨Nat.zero_le _, Nat.zero_le _⟩ ?_
        refine ev_icmple 158 dX10_game_152 (by decide) (fun q18 => ?_) (fun q18 => ?_)
        · rw [if_pos q18] at hB
          refine es_iinc 1 dX10_game_158 rfl (by decide) (by decide) rfl ?_
          refine ev_iload dX10_game_161 rfl ?_
          refine ev_iconst (-1) dX10_game_163 (by decide) ?_
          refine ev_icmpne 177 dX10_game_164 (by decide) (fun q19 => ?_) (fun q19 => ?_)
          · rw [if_neg q19] at hB
            exact ev_ls (u_X10_game_177 ih l0 l1 l2 l3 (l4 + 1) l5 l6 S16 hl0 hB) (And.intro rfl (And.intro rfl (And.intro rfl (And.intro rfl (And.intro rfl (And.intro rfl (And.intro rfl trivial)))))))
          · rw [if_pos q19] at hB
            refine ev_bipush 10 dX10_game_167 (by decide) ?_
            refine ev_iload dX10_game_169 rfl ?_
            refine ev_imul dX10_game_171 ?_
            refine ev_iload dX10_game_172 rfl ?_
            refine ev_iadd dX10_game_174 ?_
            refine ev_istore dX10_game_175 (by decide) rfl ?_
            exact ev_ls (u_X10_game_177 ih l0 l1 l2 l3 (l4 + 1) ((10 * (l6 / 2)) + (l6 - l6 / 2 * 2)) l6 S16 hl0 hB) (And.intro rfl (And.intro rfl (And.intro rfl (And.intro rfl (And.intro rfl (And.intro rfl (And.intro rfl trivial)))))))
        · rw [if_neg q18] at hB
          refine ev_goto 177 dX10_game_155 (by decide) ?_
          exact ev_ls (u_X10_game_177 ih l0 l1 l2 l3 l4 l5 l6 S16 hl0 hB) (And.intro rfl (And.intro rfl (And.intro rfl (And.intro rfl (And.intro rfl (And.intro rfl (And.intro rfl trivial)))))))
theorem u_X10_game_41 {G : am_G} {N : Nat} {h0 : am_H} {out : Int32 × am_S} (l0 : Nat) (l1 : Int32) (l2 : Int32) (l3 : Int32) (z0 : Nat) (z1 : Int32) (S : am_S) (hl0 : isC 10 l0 = true) (hz0 : isC 10 z0 = true) (hB : b_X10_game_41 N l0 l1 l2 l3 z0 z1 S = some out) : Ev G (am_R 8 0 0) (am_Φ G h0 0 0 (q_i out) q_n) mX10_game 0 0 41 [some (.ref l0), some (.int l1), some (.int l2), some (.int l3), none, none, none, none, none] [.int z1, .ref z0] (hp S) := by
  unfold b_X10_game_41 at hB
  refine ev_iconst 2 dX10_game_41 (by decide) ?_
  obtain ⟨r1, S2, e3, hB⟩ := bd_of hB
  refine es_callVi (As := [.int z1, .int 2]) (t_X10_right hz0 e3) dX10_game_42 oX10_right w_1744 rfl hz0 rfl rfl (Nat.le_of_ble_eq_true rfl) rfl (am_fit.of (by decide)) ⟨Nat.zero_le _, Nat.zero_le _⟩ ?_
  refine ev_ifne 50 dX10_game_45 (by decide) (fun q4 => ?_) (fun q4 => ?_)
  · rw [if_neg q4] at hB
    refine ev_aload_n dX10_game_50 rfl ?_
    refine es_getr k_10 46 dX10_game_51 (by decide) rfl (Or.inl w_1571) hl0 rfl ?_
    refine ev_bipush 72 dX10_game_54 (by decide) ?_
    refine ev_iload_n dX10_game_56 rfl ?_
    refine ev_iadd dX10_game_57 ?_
    obtain ⟨c5, hB⟩ := ck_of hB
    refine es_iald dX10_game_58 (tr_10_46 hl0) c5 ?_
    refine ev_iconst (-1) dX10_game_59 (by decide) ?_
    refine ev_icmpeq 76 dX10_game_60 (by decide) (fun q6 => ?_) (fun q6 => ?_)
    · rw [if_pos q6] at hB
      exact ev_ls (u_X10_game_76 S2 hB) trivial
    · rw [if_neg q6] at hB
      refine ev_aload_n dX10_game_63 rfl ?_
      refine es_getr k_10 46 dX10_game_64 (by decide) rfl (Or.inl w_1571) hl0 rfl ?_
      refine ev_bipush 72 dX10_game_67 (by decide) ?_
      refine ev_iload_n dX10_game_69 rfl ?_
      refine ev_iadd dX10_game_70 ?_
      obtain ⟨c7, hB⟩ := ck_of hB
      refine es_iald dX10_game_71 (tr_10_46 hl0) c7 ?_
      refine ev_iconst (-1) dX10_game_72 (by decide) ?_
      refine ev_icmpne 78 dX10_game_73 (by decide) (fun q8 => ?_) (fun q8 => ?_)
      · rw [if_neg q8] at hB
        refine ev_iconst 0 dX10_game_78 (by decide) ?_
        refine ev_istore dX10_game_79 (by decide) rfl ?_
        refine ev_iconst (-1) dX10_game_81 (by decide) ?_
        refine ev_istore dX10_game_82 (by decide) rfl ?_
        refine ev_iconst 0 dX10_game_84 (by decide) ?_
        refine ev_istore dX10_game_85 (by decide) rfl ?_
        exact ev_ls (u_X10_game_87 N l0 l1 l2 l3 0 (-1) 0 S2 hl0 hB) (And.intro rfl (And.intro rfl (And.intro rfl (And.intro rfl (And.intro rfl (And.intro rfl (And.intro rfl trivial)))))))
      · rw [if_pos q8] at hB
        exact ev_ls (u_X10_game_76 S2 hB) trivial
  · rw [if_pos q4] at hB
    exact ev_ls (u_X10_game_48 S2 hB) trivial
theorem t_X10_game {G : am_G} {N : Nat} {l0 : Nat} {l1 : Int32} {l2 : Int32} {l3 : Int32} {S : am_S} {out : Int32 × am_S} (hl0 : isC 10 l0 = true) (hB : f_X10_game N l0 l1 l2 l3 S = some out) : am_Met G 8 mX10_game 0 0 [.ref l0, .int l1, .int l2, .int l3] (hp S) (q_i out) q_n := by
  refine am_of (by decide +kernel) rfl rfl rfl (Nat.le_of_ble_eq_true rfl) ?_
  unfold f_X10_game at hB
  refine ev_aload_n dX10_game_0 rfl ?_
  refine ev_iconst 0 dX10_game_1 (by decide) ?_
  refine es_puti k_10 0 dX10_game_2 (by decide) rfl (Or.inl w_1525) rfl rfl hl0 rfl ?_
  refine ev_aload_n dX10_game_5 rfl ?_
  refine ev_iload_n dX10_game_6 rfl ?_
  obtain ⟨r1, S2, e3, hB⟩ := bd_of hB
  refine es_callVi (As := [.int l1]) (t_X10_isPerson hl0 e3) dX10_game_7 oX10_isPerson w_1941 rfl hl0 rfl rfl (Nat.le_of_ble_eq_true rfl) rfl (am_fit.of (by decide)) ⟨Nat.zero_le _, Nat.zero_le _⟩ ?_
  refine ev_ifeq 48 dX10_game_10 (by decide) (fun q4 => ?_) (fun q4 => ?_)
  · rw [if_pos q4] at hB
    exact ev_ls (u_X10_game_48 S2 hB) trivial
  · rw [if_neg q4] at hB
    refine ev_aload_n dX10_game_13 rfl ?_
    refine ev_iload_n dX10_game_14 rfl ?_
    obtain ⟨r5, S6, e7, hB⟩ := bd_of hB
    refine es_callVi (As := [.int l2]) (t_X10_isPerson hl0 e7) dX10_game_15 oX10_isPerson w_1941 rfl hl0 rfl rfl (Nat.le_of_ble_eq_true rfl) rfl (am_fit.of (by decide)) ⟨Nat.zero_le _, Nat.zero_le _⟩ ?_
    refine ev_ifeq 48 dX10_game_18 (by decide) (fun q8 => ?_) (fun q8 => ?_)
    · rw [if_pos q8] at hB
      exact ev_ls (u_X10_game_48 S6 hB) trivial
    · rw [if_neg q8] at hB
      refine ev_aload_n dX10_game_21 rfl ?_
      refine ev_iload_n dX10_game_22 rfl ?_
      refine ev_iconst 1 dX10_game_23 (by decide) ?_
      obtain ⟨r9, S10, e11, hB⟩ := bd_of hB
      refine es_callVi (As := [.int l3, .int 1]) (t_X10_isWhat hl0 e11) dX10_game_24 oX10_isWhat w_1918 rfl hl0 rfl rfl (Nat.le_of_ble_eq_true rfl) rfl (am_fit.of (by decide)) ⟨Nat.zero_le _, Nat.zero_le _⟩ ?_
      refine ev_ifeq 48 dX10_game_27 (by decide) (fun q12 => ?_) (fun q12 => ?_)
      · rw [if_pos q12] at hB
        exact ev_ls (u_X10_game_48 S10 hB) trivial
      · rw [if_neg q12] at hB
        refine ev_aload_n dX10_game_30 rfl ?_
        refine ev_iload_n dX10_game_31 rfl ?_
        refine ev_iload_n dX10_game_32 rfl ?_
        refine ev_icmpeq 40 dX10_game_33 (by decide) (fun q13 => ?_) (fun q13 => ?_)
        · rw [if_pos q13] at hB
          refine ev_iconst 0 dX10_game_40 (by decide) ?_
          exact ev_ls (u_X10_game_41 l0 l1 l2 l3 l0 0 S10 hl0 hl0 hB) (And.intro rfl (And.intro rfl (And.intro rfl (And.intro rfl trivial))))
        · rw [if_neg q13] at hB
          refine ev_iconst 1 dX10_game_36 (by decide) ?_
          refine ev_goto 41 dX10_game_37 (by decide) ?_
          exact ev_ls (u_X10_game_41 l0 l1 l2 l3 l0 1 S10 hl0 hl0 hB) (And.intro rfl (And.intro rfl (And.intro rfl (And.intro rfl trivial))))
def f_X10_draw (N : Nat) (l0 : Nat) (l1 : Int32) (S : am_S) : Option (Int32 × am_S) := (if l1 = 0 then none else some (((((sg (sp S l0 60 (((sg S l0 60) * 1103515245) + 12345)) l0 60) >>> (16 &&& (31 : Int32))) &&& 32767) - (((sg (sp S l0 60 (((sg S l0 60) * 1103515245) + 12345)) l0 60) >>> (16 &&& (31 : Int32))) &&& 32767) / l1 * l1), (sp S l0 60 (((sg S l0 60) * 1103515245) + 12345))))
theorem t_X10_draw {G : am_G} {N : Nat} {l0 : Nat} {l1 : Int32} {S : am_S} {out : Int32 × am_S} (hl0 : isC 10 l0 = true) (hB : f_X10_draw N l0 l1 S = some out) : am_Met G 1 mX10_draw 0 0 [.ref l0, .int l1] (hp S) (q_i out) q_n := by
  refine am_of (by decide +kernel) rfl rfl rfl (Nat.le_of_ble_eq_true rfl) ?_
  unfold f_X10_draw at hB
  refine ev_aload_n dX10_draw_0 rfl ?_
  refine ev_aload_n dX10_draw_1 rfl ?_
  refine es_geti k_10 60 dX10_draw_2 (by decide) rfl (Or.inl w_1585) hl0 rfl ?_
  refine ev_ldcw (v := 1103515245) dX10_draw_5 w_2189 ?_
  refine ev_imul dX10_draw_8 ?_
  refine ev_sipush 12345 dX10_draw_9 (by decide) ?_
  refine ev_iadd dX10_draw_12 ?_
  refine es_puti k_10 60 dX10_draw_13 (by decide) rfl (Or.inl w_1585) rfl rfl hl0 rfl ?_
  refine ev_aload_n dX10_draw_16 rfl ?_
  refine es_geti k_10 60 dX10_draw_17 (by decide) rfl (Or.inl w_1585) hl0 rfl ?_
  refine ev_bipush 16 dX10_draw_20 (by decide) ?_
  refine ev_ishr dX10_draw_22 ?_
  refine ev_sipush 32767 dX10_draw_23 (by decide) ?_
  refine ev_iand dX10_draw_26 ?_
  refine ev_iload_n dX10_draw_27 rfl ?_
  obtain ⟨c1, hB⟩ := ckn_of hB
  refine ev_irem dX10_draw_28 c1 ?_
  obtain rfl := Option.some.inj hB
  exact ev_iret dX10_draw_29 rfl (Nat.zero_le _) (Nat.zero_le _) (fun z => absurd z (hp_sealed _)) ⟨rfl, rfl⟩
def b_X10_happens_96 (N : Nat)  (S : am_S) : Option (am_S) := some S
def b_X10_happens_75 (N : Nat) (l0 : Nat) (l2 : Int32) (S : am_S) : Option (am_S) := (if l2 = 2 then (if inb 81 (ln (rf l0 46)) = true then (if inb 81 (ln (rf l0 46)) = true then b_X10_happens_96 N (sp S (rf l0 46) (Int32.toNatClampNeg 81) (1 - (sg S (rf l0 46) (Int32.toNatClampNeg 81)))) else none) else none) else b_X10_happens_96 N S)
def b_X10_happens_74 (N : Nat) (l0 : Nat) (l2 : Int32) (z0 : Nat) (z1 : Int32) (z2 : Int32) (S : am_S) : Option (am_S) := (if inb z1 (ln z0) = true then b_X10_happens_75 N l0 l2 (sp S z0 (Int32.toNatClampNeg z1) z2) else none)
def b_X10_happens_41 (N : Nat) (l0 : Nat) (l1 : Int32) (l2 : Int32) (S : am_S) : Option (am_S) := (if l2 = 1 then (bd (f_X10_draw N l0 (sg S l0 2) S) (fun r2 S3 => (if r2 = l1 then b_X10_happens_74 N l0 l2 (rf l0 46) (152 + l1) (-1) S3 else b_X10_happens_74 N l0 l2 (rf l0 46) (152 + l1) r2 S3))) else b_X10_happens_75 N l0 l2 S)
def f_X10_happens (N : Nat) (l0 : Nat) (S : am_S) : Option (am_S) := (bd (f_X10_draw N l0 (sg S l0 2) S) (fun r1 S2 => (bd (f_X10_draw N l0 6 S2) (fun r4 S5 => (if r4 = 0 then (if inb (152 + r1) (ln (rf l0 46)) = true then (if (sg S5 (rf l0 46) (Int32.toNatClampNeg (152 + r1))) = (-1) then b_X10_happens_41 N l0 r1 r4 S5 else (bv (f_X10_writes N l0 80 r1 S5) (fun S11 => b_X10_happens_41 N l0 r1 r4 S11))) else none) else b_X10_happens_41 N l0 r1 r4 S5)))))
theorem u_X10_happens_96 {G : am_G} {N : Nat} {h0 : am_H} {out : am_S}  (S : am_S) (hB : b_X10_happens_96 N  S = some out) : Ev G (am_R 4 0 0) (am_Φ G h0 0 0 (q_v out) q_n) mX10_happens 0 0 96 [none, none, none, none] [] (hp S) := by
  unfold b_X10_happens_96 at hB
  obtain rfl := Option.some.inj hB
  exact ev_vret dX10_happens_96 rfl (Nat.zero_le _) (Nat.zero_le _) (fun z => absurd z (hp_sealed _)) ⟨rfl, rfl⟩
theorem u_X10_happens_75 {G : am_G} {N : Nat} {h0 : am_H} {out : am_S} (l0 : Nat) (l2 : Int32) (S : am_S) (hl0 : isC 10 l0 = true) (hB : b_X10_happens_75 N l0 l2 S = some out) : Ev G (am_R 4 0 0) (am_Φ G h0 0 0 (q_v out) q_n) mX10_happens 0 0 75 [some (.ref l0), none, some (.int l2), none] [] (hp S) := by
  unfold b_X10_happens_75 at hB
  refine ev_iload_n dX10_happens_75 rfl ?_
  refine ev_iconst 2 dX10_happens_76 (by decide) ?_
  refine ev_icmpne 96 dX10_happens_77 (by decide) (fun q1 => ?_) (fun q1 => ?_)
  · rw [if_neg q1] at hB
    exact ev_ls (u_X10_happens_96 S hB) trivial
  · rw [if_pos q1] at hB
    refine ev_aload_n dX10_happens_80 rfl ?_
    refine es_getr k_10 46 dX10_happens_81 (by decide) rfl (Or.inl w_1571) hl0 rfl ?_
    refine ev_bipush 81 dX10_happens_84 (by decide) ?_
    refine ev_iconst 1 dX10_happens_86 (by decide) ?_
    refine ev_aload_n dX10_happens_87 rfl ?_
    refine es_getr k_10 46 dX10_happens_88 (by decide) rfl (Or.inl w_1571) hl0 rfl ?_
    refine ev_bipush 81 dX10_happens_91 (by decide) ?_
    obtain ⟨c2, hB⟩ := ck_of hB
    refine es_iald dX10_happens_93 (tr_10_46 hl0) c2 ?_
    refine ev_isub dX10_happens_94 ?_
    obtain ⟨c3, hB⟩ := ck_of hB
    refine es_iast dX10_happens_95 (tr_10_46 hl0) c3 ?_
    exact ev_ls (u_X10_happens_96 (sp S (rf l0 46) (Int32.toNatClampNeg 81) (1 - (sg S (rf l0 46) (Int32.toNatClampNeg 81)))) hB) trivial
theorem u_X10_happens_74 {G : am_G} {N : Nat} {h0 : am_H} {out : am_S} (l0 : Nat) (l2 : Int32) (z0 : Nat) (z1 : Int32) (z2 : Int32) (S : am_S) (hl0 : isC 10 l0 = true) (hz0 : isAr 1 z0 = true) (hB : b_X10_happens_74 N l0 l2 z0 z1 z2 S = some out) : Ev G (am_R 4 0 0) (am_Φ G h0 0 0 (q_v out) q_n) mX10_happens 0 0 74 [some (.ref l0), none, some (.int l2), none] [.int z2, .int z1, .ref z0] (hp S) := by
  unfold b_X10_happens_74 at hB
  obtain ⟨c1, hB⟩ := ck_of hB
  refine es_iast dX10_happens_74 hz0 c1 ?_
  exact ev_ls (u_X10_happens_75 l0 l2 (sp S z0 (Int32.toNatClampNeg z1) z2) hl0 hB) (And.intro rfl (And.intro rfl trivial))
theorem u_X10_happens_41 {G : am_G} {N : Nat} {h0 : am_H} {out : am_S} (l0 : Nat) (l1 : Int32) (l2 : Int32) (S : am_S) (hl0 : isC 10 l0 = true) (hB : b_X10_happens_41 N l0 l1 l2 S = some out) : Ev G (am_R 4 0 0) (am_Φ G h0 0 0 (q_v out) q_n) mX10_happens 0 0 41 [some (.ref l0), some (.int l1), some (.int l2), none] [] (hp S) := by
  unfold b_X10_happens_41 at hB
  refine ev_iload_n dX10_happens_41 rfl ?_
  refine ev_iconst 1 dX10_happens_42 (by decide) ?_
  refine ev_icmpne 75 dX10_happens_43 (by decide) (fun q1 => ?_) (fun q1 => ?_)
  · rw [if_neg q1] at hB
    exact ev_ls (u_X10_happens_75 l0 l2 S hl0 hB) (And.intro rfl (And.intro rfl trivial))
  · rw [if_pos q1] at hB
    refine ev_aload_n dX10_happens_46 rfl ?_
    refine ev_aload_n dX10_happens_47 rfl ?_
    refine es_geti k_10 2 dX10_happens_48 (by decide) rfl (Or.inl w_1527) hl0 rfl ?_
    obtain ⟨r2, S3, e4, hB⟩ := bd_of hB
    refine es_callVi (As := [.int (sg S l0 2)]) (t_X10_draw hl0 e4) dX10_happens_51 oX10_draw w_2185 rfl hl0 rfl rfl (Nat.le_of_ble_eq_true rfl) rfl (am_fit.of (by decide)) ⟨Nat.zero_le _, Nat.zero_le _⟩ ?_
    refine ev_istore_n dX10_happens_54 (by decide) rfl ?_
    refine ev_aload_n dX10_happens_55 rfl ?_
    refine es_getr k_10 46 dX10_happens_56 (by decide) rfl (Or.inl w_1571) hl0 rfl ?_
    refine ev_sipush 152 dX10_happens_59 (by decide) ?_
    refine ev_iload_n dX10_happens_62 rfl ?_
    refine ev_iadd dX10_happens_63 ?_
    refine ev_iload_n dX10_happens_64 rfl ?_
    refine ev_iload_n dX10_happens_65 rfl ?_
    refine ev_icmpne 73 dX10_happens_66 (by decide) (fun q5 => ?_) (fun q5 => ?_)
    · rw [if_neg q5] at hB
      refine ev_iload_n dX10_happens_73 rfl ?_
      exact ev_ls (u_X10_happens_74 l0 l2 (rf l0 46) (152 + l1) r2 S3 hl0 (tr_10_46 hl0) hB) (And.intro rfl (And.intro rfl trivial))
    · rw [if_pos q5] at hB
      refine ev_iconst (-1) dX10_happens_69 (by decide) ?_
      refine ev_goto 74 dX10_happens_70 (by decide) ?_
      exact ev_ls (u_X10_happens_74 l0 l2 (rf l0 46) (152 + l1) (-1) S3 hl0 (tr_10_46 hl0) hB) (And.intro rfl (And.intro rfl trivial))
theorem t_X10_happens {G : am_G} {N : Nat} {l0 : Nat} {S : am_S} {out : am_S} (hl0 : isC 10 l0 = true) (hB : f_X10_happens N l0 S = some out) : am_Met G 4 mX10_happens 0 0 [.ref l0] (hp S) (q_v out) q_n := by
  refine am_of (by decide +kernel) rfl rfl rfl (Nat.le_of_ble_eq_true rfl) ?_
  unfold f_X10_happens at hB
  refine ev_aload_n dX10_happens_0 rfl ?_
  refine ev_aload_n dX10_happens_1 rfl ?_
  refine es_geti k_10 2 dX10_happens_2 (by decide) rfl (Or.inl w_1527) hl0 rfl ?_
  obtain ⟨r1, S2, e3, hB⟩ := bd_of hB
  refine es_callVi (As := [.int (sg S l0 2)]) (t_X10_draw hl0 e3) dX10_happens_5 oX10_draw w_2185 rfl hl0 rfl rfl (Nat.le_of_ble_eq_true rfl) rfl (am_fit.of (by decide)) ⟨Nat.zero_le _, Nat.zero_le _⟩ ?_
  refine ev_istore_n dX10_happens_8 (by decide) rfl ?_
  refine ev_aload_n dX10_happens_9 rfl ?_
  refine ev_bipush 6 dX10_happens_10 (by decide) ?_
  obtain ⟨r4, S5, e6, hB⟩ := bd_of hB
  refine es_callVi (As := [.int 6]) (t_X10_draw hl0 e6) dX10_happens_12 oX10_draw w_2185 rfl hl0 rfl rfl (Nat.le_of_ble_eq_true rfl) rfl (am_fit.of (by decide)) ⟨Nat.zero_le _, Nat.zero_le _⟩ ?_
  refine ev_istore_n dX10_happens_15 (by decide) rfl ?_
  refine ev_iload_n dX10_happens_16 rfl ?_
  refine ev_ifne 41 dX10_happens_17 (by decide) (fun q7 => ?_) (fun q7 => ?_)
  · rw [if_neg q7] at hB
    exact ev_ls (u_X10_happens_41 l0 r1 r4 S5 hl0 hB) (And.intro rfl (And.intro rfl (And.intro rfl trivial)))
  · rw [if_pos q7] at hB
    refine ev_aload_n dX10_happens_20 rfl ?_
    refine es_getr k_10 46 dX10_happens_21 (by decide) rfl (Or.inl w_1571) hl0 rfl ?_
    refine ev_sipush 152 dX10_happens_24 (by decide) ?_
    refine ev_iload_n dX10_happens_27 rfl ?_
    refine ev_iadd dX10_happens_28 ?_
    obtain ⟨c8, hB⟩ := ck_of hB
    refine es_iald dX10_happens_29 (tr_10_46 hl0) c8 ?_
    refine ev_iconst (-1) dX10_happens_30 (by decide) ?_
    refine ev_icmpeq 41 dX10_happens_31 (by decide) (fun q9 => ?_) (fun q9 => ?_)
    · rw [if_pos q9] at hB
      exact ev_ls (u_X10_happens_41 l0 r1 r4 S5 hl0 hB) (And.intro rfl (And.intro rfl (And.intro rfl trivial)))
    · rw [if_neg q9] at hB
      refine ev_aload_n dX10_happens_34 rfl ?_
      refine ev_bipush 80 dX10_happens_35 (by decide) ?_
      refine ev_iload_n dX10_happens_37 rfl ?_
      obtain ⟨S11, e12, hB⟩ := bv_of hB
      refine es_callVv (As := [.int 80, .int r1]) (t_X10_writes hl0 e12) dX10_happens_38 oX10_writes w_2002 rfl hl0 rfl rfl (Nat.le_of_ble_eq_true rfl) rfl (am_fit.of (by decide)) ⟨Nat.zero_le _, Nat.zero_le _⟩ ?_
      exact ev_ls (u_X10_happens_41 l0 r1 r4 S11 hl0 hB) (And.intro rfl (And.intro rfl (And.intro rfl trivial)))
def b_X10_years_24 (N : Nat)  (S : am_S) : Option (Int32 × am_S) := some (0, S)
def b_X10_years_65 (N : Nat) (k38 : Nat → Int32 → Int32 → Int32 → am_S → Option (Int32 × am_S)) (l0 : Nat) (l2 : Int32) (l3 : Int32) (l4 : Int32) (S : am_S) : Option (Int32 × am_S) := (bv (f_X10_dayGoes N l0 80 S) (fun S2 => k38 l0 l2 l3 (l4 + 1) S2))
def b_X10_years_127 (N : Nat) (z0 : Int32) (S : am_S) : Option (Int32 × am_S) := some (z0, S)
def b_X10_years_38 (N : Nat) : Nat → Nat → Int32 → Int32 → Int32 → am_S → Option (Int32 × am_S)
  | 0, _, _, _, _, _ => none
  | n + 1, l0, l2, l3, l4, S => (if l2 ≤ l4 then (if l3 = 0 then (bd (f_X10_sumOf N l0 80 64 (sp S l0 51 (-1))) (fun r10 S11 => (bd (f_X10_sumOf N l0 0 64 S11) (fun r13 S14 => b_X10_years_127 N (r10 - r13) S14)))) else (if l3 = 1 then (bd (f_X10_sumOf N l0 80 56 (sp S l0 51 (-1))) (fun r7 S8 => b_X10_years_127 N r7 S8)) else (bd (f_X10_heldAll N l0 80 (sp S l0 51 (-1))) (fun r4 S5 => b_X10_years_127 N r4 S5)))) else (bd (f_X10_draw N l0 10 S) (fun r16 S17 => (if (sg (sp S17 l0 51 r16) l0 2) ≤ 0 then b_X10_years_65 N (b_X10_years_38 N n) l0 l2 l3 l4 (sp S17 l0 51 r16) else (bv (f_X10_happens N l0 (sp S17 l0 51 r16)) (fun S21 => b_X10_years_65 N (b_X10_years_38 N n) l0 l2 l3 l4 S21))))))
def f_X10_years (N : Nat) (l0 : Nat) (l1 : Int32) (l2 : Int32) (l3 : Int32) (S : am_S) : Option (Int32 × am_S) := (bd (f_X10_isWhat N l0 l3 2 (sp S l0 0 0)) (fun r1 S2 => (if r1 = 0 then b_X10_years_24 N S2 else (bd (f_X10_isDays N l0 l2 0 2 S2) (fun r5 S6 => (if r5 = 0 then b_X10_years_24 N S6 else (bv (f_X10_tries N l0 S6) (fun S10 => b_X10_years_38 N N l0 l2 l3 0 (sp S10 l0 60 l1)))))))))
theorem u_X10_years_24 {G : am_G} {N : Nat} {h0 : am_H} {out : Int32 × am_S}  (S : am_S) (hB : b_X10_years_24 N  S = some out) : Ev G (am_R 6 0 0) (am_Φ G h0 0 0 (q_i out) q_n) mX10_years 0 0 24 [none, none, none, none, none] [] (hp S) := by
  unfold b_X10_years_24 at hB
  refine ev_iconst 0 dX10_years_24 (by decide) ?_
  obtain rfl := Option.some.inj hB
  exact ev_iret dX10_years_25 rfl (Nat.zero_le _) (Nat.zero_le _) (fun z => absurd z (hp_sealed _)) ⟨rfl, rfl⟩
theorem u_X10_years_65 {G : am_G} {N : Nat} {h0 : am_H} {out : Int32 × am_S} {k38 : Nat → Int32 → Int32 → Int32 → am_S → Option (Int32 × am_S)} (hk38 : ∀ (l0 : Nat) (l2 : Int32) (l3 : Int32) (l4 : Int32) (S : am_S), isC 10 l0 = true → k38 l0 l2 l3 l4 S = some out → Ev G (am_R 6 0 0) (am_Φ G h0 0 0 (q_i out) q_n) mX10_years 0 0 38 [some (.ref l0), none, some (.int l2), some (.int l3), some (.int l4)] [] (hp S)) (l0 : Nat) (l2 : Int32) (l3 : Int32) (l4 : Int32) (S : am_S) (hl0 : isC 10 l0 = true) (hB : b_X10_years_65 N k38 l0 l2 l3 l4 S = some out) : Ev G (am_R 6 0 0) (am_Φ G h0 0 0 (q_i out) q_n) mX10_years 0 0 65 [some (.ref l0), none, some (.int l2), some (.int l3), some (.int l4)] [] (hp S) := by
  unfold b_X10_years_65 at hB
  refine ev_aload_n dX10_years_65 rfl ?_
  refine ev_bipush 80 dX10_years_66 (by decide) ?_
  obtain ⟨S2, e3, hB⟩ := bv_of hB
  refine es_callVv (As := [.int 80]) (t_X10_dayGoes hl0 e3) dX10_years_68 oX10_dayGoes w_1961 rfl hl0 rfl rfl (Nat.le_of_ble_eq_true rfl) rfl (am_fit.of (by decide)) ⟨Nat.zero_le _, Nat.zero_le _⟩ ?_
  refine es_iinc 1 dX10_years_71 rfl (by decide) (by decide) rfl ?_
  refine ev_goto 38 dX10_years_74 (by decide) ?_
  exact ev_ls (hk38 l0 l2 l3 (l4 + 1) S2 hl0 hB) (And.intro rfl (And.intro rfl (And.intro rfl (And.intro rfl trivial))))
theorem u_X10_years_127 {G : am_G} {N : Nat} {h0 : am_H} {out : Int32 × am_S} (z0 : Int32) (S : am_S) (hB : b_X10_years_127 N z0 S = some out) : Ev G (am_R 6 0 0) (am_Φ G h0 0 0 (q_i out) q_n) mX10_years 0 0 127 [none, none, none, none, none] [.int z0] (hp S) := by
  unfold b_X10_years_127 at hB
  obtain rfl := Option.some.inj hB
  exact ev_iret dX10_years_127 rfl (Nat.zero_le _) (Nat.zero_le _) (fun z => absurd z (hp_sealed _)) ⟨rfl, rfl⟩
theorem u_X10_years_38 {G : am_G} {N : Nat} {h0 : am_H} {out : Int32 × am_S} : ∀ (n : Nat) (l0 : Nat) (l2 : Int32) (l3 : Int32) (l4 : Int32) (S : am_S), isC 10 l0 = true → b_X10_years_38 N n l0 l2 l3 l4 S = some out → Ev G (am_R 6 0 0) (am_Φ G h0 0 0 (q_i out) q_n) mX10_years 0 0 38 [some (.ref l0), none, some (.int l2), some (.int l3), some (.int l4)] [] (hp S) := by
  intro n
  induction n with
  | zero =>
    intro l0 l2 l3 l4 S hl0 hB
    exact absurd (show none = some out from hB) (fun q => by cases q)
  | succ n ih =>
    intro l0 l2 l3 l4 S hl0 hB
    unfold b_X10_years_38 at hB
    refine ev_iload dX10_years_38 rfl ?_
    refine ev_iload_n dX10_years_40 rfl ?_
    refine ev_icmpge 77 dX10_years_41 (by decide) (fun q1 => ?_) (fun q1 => ?_)
    · rw [if_pos q1] at hB
      refine ev_aload_n dX10_years_77 rfl ?_
      refine ev_iconst (-1) dX10_years_78 (by decide) ?_
      refine es_puti k_10 51 dX10_years_79 (by decide) rfl (Or.inl w_1576) rfl rfl hl0 rfl ?_
      refine ev_iload_n dX10_years_82 rfl ?_
      refine ev_ifne 105 dX10_years_83 (by decide) (fun q2 => ?_) (fun q2 => ?_)
      · rw [if_neg q2] at hB
        refine ev_iload_n dX10_years_105 rfl ?_
        refine ev_iconst 1 dX10_years_106 (by decide) ?_
        refine ev_icmpne 121 dX10_years_107 (by decide) (fun q3 => ?_) (fun q3 => ?_)
        · rw [if_neg q3] at hB
          refine ev_aload_n dX10_years_121 rfl ?_
          refine ev_bipush 80 dX10_years_122 (by decide) ?_
          obtain ⟨r4, S5, e6, hB⟩ := bd_of hB
          refine es_callVi (As := [.int 80]) (t_X10_heldAll hl0 e6) dX10_years_124 oX10_heldAll w_1886 rfl hl0 rfl rfl (Nat.le_of_ble_eq_true rfl) rfl (am_fit.of (by decide)) ⟨Nat.zero_le _, Nat.zero_le _⟩ ?_
          exact ev_ls (u_X10_years_127 r4 S5 hB) trivial
        · rw [if_pos q3] at hB
          refine ev_aload_n dX10_years_110 rfl ?_
          refine ev_bipush 80 dX10_years_111 (by decide) ?_
          refine ev_bipush 56 dX10_years_113 (by decide) ?_
          obtain ⟨r7, S8, e9, hB⟩ := bd_of hB
          refine es_callVi (As := [.int 80, .int 56]) (t_X10_sumOf hl0 e9) dX10_years_115 oX10_sumOf w_1894 rfl hl0 rfl rfl (Nat.le_of_ble_eq_true rfl) rfl (am_fit.of (by decide)) ⟨Nat.zero_le _, Nat.zero_le _⟩ ?_
          refine ev_goto 127 dX10_years_118 (by decide) ?_
          exact ev_ls (u_X10_years_127 r7 S8 hB) trivial
      · rw [if_pos q2] at hB
        refine ev_aload_n dX10_years_86 rfl ?_
        refine ev_bipush 80 dX10_years_87 (by decide) ?_
        refine ev_bipush 64 dX10_years_89 (by decide) ?_
        obtain ⟨r10, S11, e12, hB⟩ := bd_of hB
        refine es_callVi (As := [.int 80, .int 64]) (t_X10_sumOf hl0 e12) dX10_years_91 oX10_sumOf w_1894 rfl hl0 rfl rfl (Nat.le_of_ble_eq_true rfl) rfl (am_fit.of (by decide)) ⟨Nat.zero_le _, Nat.zero_le _⟩ ?_
        refine ev_aload_n dX10_years_94 rfl ?_
        refine ev_iconst 0 dX10_years_95 (by decide) ?_
        refine ev_bipush 64 dX10_years_96 (by decide) ?_
        obtain ⟨r13, S14, e15, hB⟩ := bd_of hB
        refine es_callVi (As := [.int 0, .int 64]) (t_X10_sumOf hl0 e15) dX10_years_98 oX10_sumOf w_1894 rfl hl0 rfl rfl (Nat.le_of_ble_eq_true rfl) rfl (am_fit.of (by decide)) ⟨Nat.zero_le _, Nat.zero_le _⟩ ?_
        refine ev_isub dX10_years_101 ?_
        refine ev_goto 127 dX10_years_102 (by decide) ?_
        exact ev_ls (u_X10_years_127 (r10 - r13) S14 hB) trivial
    · rw [if_neg q1] at hB
      refine ev_aload_n dX10_years_44 rfl ?_
      refine ev_aload_n dX10_years_45 rfl ?_
      refine ev_bipush 10 dX10_years_46 (by decide) ?_
      obtain ⟨r16, S17, e18, hB⟩ := bd_of hB
      refine es_callVi (As := [.int 10]) (t_X10_draw hl0 e18) dX10_years_48 oX10_draw w_2185 rfl hl0 rfl rfl (Nat.le_of_ble_eq_true rfl) rfl (am_fit.of (by decide)) ⟨Nat.zero_le _, Nat.zero_le _⟩ ?_
      refine es_puti k_10 51 dX10_years_51 (by decide) rfl (Or.inl w_1576) rfl rfl hl0 rfl ?_
      refine ev_aload_n dX10_years_54 rfl ?_
      refine es_geti k_10 2 dX10_years_55 (by decide) rfl (Or.inl w_1527) hl0 rfl ?_
      refine ev_ifle 65 dX10_years_58 (by decide) (fun q19 => ?_) (fun q19 => ?_)
      · rw [if_pos q19] at hB
        exact ev_ls (u_X10_years_65 ih l0 l2 l3 l4 (sp S17 l0 51 r16) hl0 hB) (And.intro rfl (And.intro rfl (And.intro rfl (And.intro rfl trivial))))
      · rw [if_neg q19] at hB
        refine ev_aload_n dX10_years_61 rfl ?_
        obtain ⟨S21, e22, hB⟩ := bv_of hB
        refine es_callVv (As := []) (t_X10_happens hl0 e22) dX10_years_62 oX10_happens w_2190 rfl hl0 rfl rfl (Nat.le_of_ble_eq_true rfl) rfl (am_fit.of (by decide)) ⟨Nat.zero_le _, Nat.zero_le _⟩ ?_
        exact ev_ls (u_X10_years_65 ih l0 l2 l3 l4 S21 hl0 hB) (And.intro rfl (And.intro rfl (And.intro rfl (And.intro rfl trivial))))
theorem t_X10_years {G : am_G} {N : Nat} {l0 : Nat} {l1 : Int32} {l2 : Int32} {l3 : Int32} {S : am_S} {out : Int32 × am_S} (hl0 : isC 10 l0 = true) (hB : f_X10_years N l0 l1 l2 l3 S = some out) : am_Met G 6 mX10_years 0 0 [.ref l0, .int l1, .int l2, .int l3] (hp S) (q_i out) q_n := by
  refine am_of (by decide +kernel) rfl rfl rfl (Nat.le_of_ble_eq_true rfl) ?_
  unfold f_X10_years at hB
  refine ev_aload_n dX10_years_0 rfl ?_
  refine ev_iconst 0 dX10_years_1 (by decide) ?_
  refine es_puti k_10 0 dX10_years_2 (by decide) rfl (Or.inl w_1525) rfl rfl hl0 rfl ?_
  refine ev_aload_n dX10_years_5 rfl ?_
  refine ev_iload_n dX10_years_6 rfl ?_
  refine ev_iconst 2 dX10_years_7 (by decide) ?_
  obtain ⟨r1, S2, e3, hB⟩ := bd_of hB
  refine es_callVi (As := [.int l3, .int 2]) (t_X10_isWhat hl0 e3) dX10_years_8 oX10_isWhat w_1918 rfl hl0 rfl rfl (Nat.le_of_ble_eq_true rfl) rfl (am_fit.of (by decide)) ⟨Nat.zero_le _, Nat.zero_le _⟩ ?_
  refine ev_ifeq 24 dX10_years_11 (by decide) (fun q4 => ?_) (fun q4 => ?_)
  · rw [if_pos q4] at hB
    exact ev_ls (u_X10_years_24 S2 hB) trivial
  · rw [if_neg q4] at hB
    refine ev_aload_n dX10_years_14 rfl ?_
    refine ev_iload_n dX10_years_15 rfl ?_
    refine ev_iconst 0 dX10_years_16 (by decide) ?_
    refine ev_iconst 2 dX10_years_17 (by decide) ?_
    obtain ⟨r5, S6, e7, hB⟩ := bd_of hB
    refine es_callVi (As := [.int l2, .int 0, .int 2]) (t_X10_isDays hl0 e7) dX10_years_18 oX10_isDays w_2026 rfl hl0 rfl rfl (Nat.le_of_ble_eq_true rfl) rfl (am_fit.of (by decide)) ⟨Nat.zero_le _, Nat.zero_le _⟩ ?_
    refine ev_ifne 26 dX10_years_21 (by decide) (fun q8 => ?_) (fun q8 => ?_)
    · rw [if_neg q8] at hB
      refine ev_aload_n dX10_years_26 rfl ?_
      obtain ⟨S10, e11, hB⟩ := bv_of hB
      refine es_callVv (As := []) (t_X10_tries hl0 e11) dX10_years_27 oX10_tries w_2034 rfl hl0 rfl rfl (Nat.le_of_ble_eq_true rfl) rfl (am_fit.of (by decide)) ⟨Nat.zero_le _, Nat.zero_le _⟩ ?_
      refine ev_aload_n dX10_years_30 rfl ?_
      refine ev_iload_n dX10_years_31 rfl ?_
      refine es_puti k_10 60 dX10_years_32 (by decide) rfl (Or.inl w_1585) rfl rfl hl0 rfl ?_
      refine ev_iconst 0 dX10_years_35 (by decide) ?_
      refine ev_istore dX10_years_36 (by decide) rfl ?_
      exact ev_ls (u_X10_years_38 N l0 l2 l3 0 (sp S10 l0 60 l1) hl0 hB) (And.intro rfl (And.intro rfl (And.intro rfl (And.intro rfl trivial))))
    · rw [if_pos q8] at hB
      exact ev_ls (u_X10_years_24 S6 hB) trivial
def b_X10_image_28 (N : Nat) : Nat → Nat → Int32 → am_S → Option (am_S)
  | 0, _, _, _ => none
  | n + 1, l0, l1, S => (if 80 ≤ l1 then (bv (f_X10_copies N l0 (rf l0 47) (rf l0 65) S) (fun S3 => (bv (f_X10_copies N l0 (rf l0 57) (rf l0 66) S3) (fun S6 => some S6)))) else (if inb l1 (ln (rf l0 46)) = true then (if inb l1 (ln (rf l0 64)) = true then b_X10_image_28 N n l0 (l1 + 1) (sp S (rf l0 64) (Int32.toNatClampNeg l1) (sg S (rf l0 46) (Int32.toNatClampNeg l1))) else none) else none))
def f_X10_image (N : Nat) (l0 : Nat) (S : am_S) : Option (am_S) := b_X10_image_28 N N l0 0 (sp (sp (sp (sp S l0 0 0) l0 61 1) l0 62 (sg (sp (sp S l0 0 0) l0 61 1) l0 48)) l0 63 (sg (sp (sp (sp S l0 0 0) l0 61 1) l0 62 (sg (sp (sp S l0 0 0) l0 61 1) l0 48)) l0 56))
theorem u_X10_image_28 {G : am_G} {N : Nat} {h0 : am_H} {out : am_S} : ∀ (n : Nat) (l0 : Nat) (l1 : Int32) (S : am_S), isC 10 l0 = true → b_X10_image_28 N n l0 l1 S = some out → Ev G (am_R 2 0 0) (am_Φ G h0 0 0 (q_v out) q_n) mX10_image 0 0 28 [some (.ref l0), some (.int l1)] [] (hp S) := by
  intro n
  induction n with
  | zero =>
    intro l0 l1 S hl0 hB
    exact absurd (show none = some out from hB) (fun q => by cases q)
  | succ n ih =>
    intro l0 l1 S hl0 hB
    unfold b_X10_image_28 at hB
    refine ev_iload_n dX10_image_28 rfl ?_
    refine ev_bipush 80 dX10_image_29 (by decide) ?_
    refine ev_icmpge 52 dX10_image_31 (by decide) (fun q1 => ?_) (fun q1 => ?_)
    · rw [if_pos q1] at hB
      refine ev_aload_n dX10_image_52 rfl ?_
      refine ev_aload_n dX10_image_53 rfl ?_
      refine es_getr k_10 47 dX10_image_54 (by decide) rfl (Or.inl w_1572) hl0 rfl ?_
      refine ev_aload_n dX10_image_57 rfl ?_
      refine es_getr k_10 65 dX10_image_58 (by decide) rfl (Or.inl w_1590) hl0 rfl ?_
      obtain ⟨S3, e4, hB⟩ := bv_of hB
      refine es_callVv (As := [.ref (rf l0 47), .ref (rf l0 65)]) (t_X10_copies hl0 (tr_10_47 hl0) (tr_10_65 hl0) e4) dX10_image_61 oX10_copies w_1859 rfl hl0 rfl rfl (Nat.le_of_ble_eq_true rfl) rfl (am_fit.of (by decide)) ⟨Nat.zero_le _, Nat.zero_le _⟩ ?_
      refine ev_aload_n dX10_image_64 rfl ?_
      refine ev_aload_n dX10_image_65 rfl ?_
      refine es_getr k_10 57 dX10_image_66 (by decide) rfl (Or.inl w_1582) hl0 rfl ?_
      refine ev_aload_n dX10_image_69 rfl ?_
      refine es_getr k_10 66 dX10_image_70 (by decide) rfl (Or.inl w_1591) hl0 rfl ?_
      obtain ⟨S6, e7, hB⟩ := bv_of hB
      refine es_callVv (As := [.ref (rf l0 57), .ref (rf l0 66)]) (t_X10_copies hl0 (tr_10_57 hl0) (tr_10_66 hl0) e7) dX10_image_73 oX10_copies w_1859 rfl hl0 rfl rfl (Nat.le_of_ble_eq_true rfl) rfl (am_fit.of (by decide)) ⟨Nat.zero_le _, Nat.zero_le _⟩ ?_
      obtain rfl := Option.some.inj hB
      exact ev_vret dX10_image_76 rfl (Nat.zero_le _) (Nat.zero_le _) (fun z => absurd z (hp_sealed _)) ⟨rfl, rfl⟩
    · rw [if_neg q1] at hB
      refine ev_aload_n dX10_image_34 rfl ?_
      refine es_getr k_10 64 dX10_image_35 (by decide) rfl (Or.inl w_1589) hl0 rfl ?_
      refine ev_iload_n dX10_image_38 rfl ?_
      refine ev_aload_n dX10_image_39 rfl ?_
      refine es_getr k_10 46 dX10_image_40 (by decide) rfl (Or.inl w_1571) hl0 rfl ?_
      refine ev_iload_n dX10_image_43 rfl ?_
      obtain ⟨c8, hB⟩ := ck_of hB
      refine es_iald dX10_image_44 (tr_10_46 hl0) c8 ?_
      obtain ⟨c9, hB⟩ := ck_of hB
      refine es_iast dX10_image_45 (tr_10_64 hl0) c9 ?_
      refine es_iinc 1 dX10_image_46 rfl (by decide) (by decide) rfl ?_
      refine ev_goto 28 dX10_image_49 (by decide) ?_
      exact ev_ls (ih l0 (l1 + 1) (sp S (rf l0 64) (Int32.toNatClampNeg l1) (sg S (rf l0 46) (Int32.toNatClampNeg l1))) hl0 hB) (And.intro rfl (And.intro rfl trivial))
theorem t_X10_image {G : am_G} {N : Nat} {l0 : Nat} {S : am_S} {out : am_S} (hl0 : isC 10 l0 = true) (hB : f_X10_image N l0 S = some out) : am_Met G 2 mX10_image 0 0 [.ref l0] (hp S) (q_v out) q_n := by
  refine am_of (by decide +kernel) rfl rfl rfl (Nat.le_of_ble_eq_true rfl) ?_
  unfold f_X10_image at hB
  refine ev_aload_n dX10_image_0 rfl ?_
  refine ev_iconst 0 dX10_image_1 (by decide) ?_
  refine es_puti k_10 0 dX10_image_2 (by decide) rfl (Or.inl w_1525) rfl rfl hl0 rfl ?_
  refine ev_aload_n dX10_image_5 rfl ?_
  refine ev_iconst 1 dX10_image_6 (by decide) ?_
  refine es_putz k_10 61 dX10_image_7 (by decide) rfl (Or.inl w_1586) rfl rfl (Or.inr rfl) hl0 rfl ?_
  refine ev_aload_n dX10_image_10 rfl ?_
  refine ev_aload_n dX10_image_11 rfl ?_
  refine es_geti k_10 48 dX10_image_12 (by decide) rfl (Or.inl w_1573) hl0 rfl ?_
  refine es_puti k_10 62 dX10_image_15 (by decide) rfl (Or.inl w_1587) rfl rfl hl0 rfl ?_
  refine ev_aload_n dX10_image_18 rfl ?_
  refine ev_aload_n dX10_image_19 rfl ?_
  refine es_geti k_10 56 dX10_image_20 (by decide) rfl (Or.inl w_1581) hl0 rfl ?_
  refine es_puti k_10 63 dX10_image_23 (by decide) rfl (Or.inl w_1588) rfl rfl hl0 rfl ?_
  refine ev_iconst 0 dX10_image_26 (by decide) ?_
  refine ev_istore_n dX10_image_27 (by decide) rfl ?_
  exact ev_ls (u_X10_image_28 N l0 0 (sp (sp (sp (sp S l0 0 0) l0 61 1) l0 62 (sg (sp (sp S l0 0 0) l0 61 1) l0 48)) l0 63 (sg (sp (sp (sp S l0 0 0) l0 61 1) l0 62 (sg (sp (sp S l0 0 0) l0 61 1) l0 48)) l0 56)) hl0 hB) (And.intro rfl (And.intro rfl trivial))
def b_X10_restore_32 (N : Nat) : Nat → Nat → Int32 → am_S → Option (Int32 × am_S)
  | 0, _, _, _ => none
  | n + 1, l0, l1, S => (if 80 ≤ l1 then (bv (f_X10_copies N l0 (rf l0 65) (rf l0 47) S) (fun S3 => (bv (f_X10_copies N l0 (rf l0 66) (rf l0 57) S3) (fun S6 => some (1, S6))))) else (if inb l1 (ln (rf l0 64)) = true then (if inb l1 (ln (rf l0 46)) = true then b_X10_restore_32 N n l0 (l1 + 1) (sp S (rf l0 46) (Int32.toNatClampNeg l1) (sg S (rf l0 64) (Int32.toNatClampNeg l1))) else none) else none))
def f_X10_restore (N : Nat) (l0 : Nat) (S : am_S) : Option (Int32 × am_S) := (if (sg (sp S l0 0 0) l0 61) = 0 then some (0, (sp S l0 0 0)) else b_X10_restore_32 N N l0 0 (sp (sp (sp S l0 0 0) l0 48 (sg (sp S l0 0 0) l0 62)) l0 56 (sg (sp (sp S l0 0 0) l0 48 (sg (sp S l0 0 0) l0 62)) l0 63)))
theorem u_X10_restore_32 {G : am_G} {N : Nat} {h0 : am_H} {out : Int32 × am_S} : ∀ (n : Nat) (l0 : Nat) (l1 : Int32) (S : am_S), isC 10 l0 = true → b_X10_restore_32 N n l0 l1 S = some out → Ev G (am_R 2 0 0) (am_Φ G h0 0 0 (q_i out) q_n) mX10_restore 0 0 32 [some (.ref l0), some (.int l1)] [] (hp S) := by
  intro n
  induction n with
  | zero =>
    intro l0 l1 S hl0 hB
    exact absurd (show none = some out from hB) (fun q => by cases q)
  | succ n ih =>
    intro l0 l1 S hl0 hB
    unfold b_X10_restore_32 at hB
    refine ev_iload_n dX10_restore_32 rfl ?_
    refine ev_bipush 80 dX10_restore_33 (by decide) ?_
    refine ev_icmpge 56 dX10_restore_35 (by decide) (fun q1 => ?_) (fun q1 => ?_)
    · rw [if_pos q1] at hB
      refine ev_aload_n dX10_restore_56 rfl ?_
      refine ev_aload_n dX10_restore_57 rfl ?_
      refine es_getr k_10 65 dX10_restore_58 (by decide) rfl (Or.inl w_1590) hl0 rfl ?_
      refine ev_aload_n dX10_restore_61 rfl ?_
      refine es_getr k_10 47 dX10_restore_62 (by decide) rfl (Or.inl w_1572) hl0 rfl ?_
      obtain ⟨S3, e4, hB⟩ := bv_of hB
      refine es_callVv (As := [.ref (rf l0 65), .ref (rf l0 47)]) (t_X10_copies hl0 (tr_10_65 hl0) (tr_10_47 hl0) e4) dX10_restore_65 oX10_copies w_1859 rfl hl0 rfl rfl (Nat.le_of_ble_eq_true rfl) rfl (am_fit.of (by decide)) ⟨Nat.zero_le _, Nat.zero_le _⟩ ?_
      refine ev_aload_n dX10_restore_68 rfl ?_
      refine ev_aload_n dX10_restore_69 rfl ?_
      refine es_getr k_10 66 dX10_restore_70 (by decide) rfl (Or.inl w_1591) hl0 rfl ?_
      refine ev_aload_n dX10_restore_73 rfl ?_
      refine es_getr k_10 57 dX10_restore_74 (by decide) rfl (Or.inl w_1582) hl0 rfl ?_
      obtain ⟨S6, e7, hB⟩ := bv_of hB
      refine es_callVv (As := [.ref (rf l0 66), .ref (rf l0 57)]) (t_X10_copies hl0 (tr_10_66 hl0) (tr_10_57 hl0) e7) dX10_restore_77 oX10_copies w_1859 rfl hl0 rfl rfl (Nat.le_of_ble_eq_true rfl) rfl (am_fit.of (by decide)) ⟨Nat.zero_le _, Nat.zero_le _⟩ ?_
      refine ev_iconst 1 dX10_restore_80 (by decide) ?_
      obtain rfl := Option.some.inj hB
      exact ev_zret dX10_restore_81 rfl (by rfl) (Nat.zero_le _) (Nat.zero_le _) (fun z => absurd z (hp_sealed _)) ⟨rfl, rfl⟩
    · rw [if_neg q1] at hB
      refine ev_aload_n dX10_restore_38 rfl ?_
      refine es_getr k_10 46 dX10_restore_39 (by decide) rfl (Or.inl w_1571) hl0 rfl ?_
      refine ev_iload_n dX10_restore_42 rfl ?_
      refine ev_aload_n dX10_restore_43 rfl ?_
      refine es_getr k_10 64 dX10_restore_44 (by decide) rfl (Or.inl w_1589) hl0 rfl ?_
      refine ev_iload_n dX10_restore_47 rfl ?_
      obtain ⟨c8, hB⟩ := ck_of hB
      refine es_iald dX10_restore_48 (tr_10_64 hl0) c8 ?_
      obtain ⟨c9, hB⟩ := ck_of hB
      refine es_iast dX10_restore_49 (tr_10_46 hl0) c9 ?_
      refine es_iinc 1 dX10_restore_50 rfl (by decide) (by decide) rfl ?_
      refine ev_goto 32 dX10_restore_53 (by decide) ?_
      exact ev_ls (ih l0 (l1 + 1) (sp S (rf l0 46) (Int32.toNatClampNeg l1) (sg S (rf l0 64) (Int32.toNatClampNeg l1))) hl0 hB) (And.intro rfl (And.intro rfl trivial))
theorem t_X10_restore {G : am_G} {N : Nat} {l0 : Nat} {S : am_S} {out : Int32 × am_S} (hl0 : isC 10 l0 = true) (hB : f_X10_restore N l0 S = some out) : am_Met G 2 mX10_restore 0 0 [.ref l0] (hp S) (q_i out) q_n := by
  refine am_of (by decide +kernel) rfl rfl rfl (Nat.le_of_ble_eq_true rfl) ?_
  unfold f_X10_restore at hB
  refine ev_aload_n dX10_restore_0 rfl ?_
  refine ev_iconst 0 dX10_restore_1 (by decide) ?_
  refine es_puti k_10 0 dX10_restore_2 (by decide) rfl (Or.inl w_1525) rfl rfl hl0 rfl ?_
  refine ev_aload_n dX10_restore_5 rfl ?_
  refine es_geti k_10 61 dX10_restore_6 (by decide) rfl (Or.inl w_1586) hl0 rfl ?_
  refine ev_ifne 14 dX10_restore_9 (by decide) (fun q1 => ?_) (fun q1 => ?_)
  · rw [if_neg q1] at hB
    refine ev_aload_n dX10_restore_14 rfl ?_
    refine ev_aload_n dX10_restore_15 rfl ?_
    refine es_geti k_10 62 dX10_restore_16 (by decide) rfl (Or.inl w_1587) hl0 rfl ?_
    refine es_puti k_10 48 dX10_restore_19 (by decide) rfl (Or.inl w_1573) rfl rfl hl0 rfl ?_
    refine ev_aload_n dX10_restore_22 rfl ?_
    refine ev_aload_n dX10_restore_23 rfl ?_
    refine es_geti k_10 63 dX10_restore_24 (by decide) rfl (Or.inl w_1588) hl0 rfl ?_
    refine es_puti k_10 56 dX10_restore_27 (by decide) rfl (Or.inl w_1581) rfl rfl hl0 rfl ?_
    refine ev_iconst 0 dX10_restore_30 (by decide) ?_
    refine ev_istore_n dX10_restore_31 (by decide) rfl ?_
    exact ev_ls (u_X10_restore_32 N l0 0 (sp (sp (sp S l0 0 0) l0 48 (sg (sp S l0 0 0) l0 62)) l0 56 (sg (sp (sp S l0 0 0) l0 48 (sg (sp S l0 0 0) l0 62)) l0 63)) hl0 hB) (And.intro rfl (And.intro rfl trivial))
  · rw [if_pos q1] at hB
    refine ev_iconst 0 dX10_restore_12 (by decide) ?_
    obtain rfl := Option.some.inj hB
    exact ev_zret dX10_restore_13 rfl (by rfl) (Nat.zero_le _) (Nat.zero_le _) (fun z => absurd z (hp_sealed _)) ⟨rfl, rfl⟩
