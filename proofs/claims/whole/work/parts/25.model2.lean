def b_X10_isOpened_38 (N : Nat) (z0 : Int32) (S : am_S) : Option (Int32 × am_S) := (if isB z0 = true then some (z0, S) else none)
def b_X10_isOpened_29 (N : Nat) (l1 : Int32) (S : am_S) : Option (Int32 × am_S) := (if l1 < 0 then b_X10_isOpened_38 N 0 S else b_X10_isOpened_38 N 1 S)
def b_X10_isOpened_7 (N : Nat) : Nat → Nat → Int32 → am_S → Option (Int32 × am_S)
  | 0, _, _, _ => none
  | n + 1, l0, l1, S => (if l1 < 0 then b_X10_isOpened_29 N l1 S else (if inb l1 (ln (rf l0 44)) = true then (bd (f_X10_isOpen N (sg S (rf l0 44) (Int32.toNatClampNeg l1)) S) (fun r3 S4 => (if r3 = 0 then b_X10_isOpened_7 N n l0 (l1 + (-1)) S4 else b_X10_isOpened_29 N l1 S4))) else none))
def f_X10_isOpened (N : Nat) (l0 : Nat) (S : am_S) : Option (Int32 × am_S) := b_X10_isOpened_7 N N l0 ((sg S l0 35) - 1) S
theorem u_X10_isOpened_38 {G : am_G} {N : Nat} {h0 : am_H} {out : Int32 × am_S} (z0 : Int32) (S : am_S) (hB : b_X10_isOpened_38 N z0 S = some out) : Ev G (am_R 2 0 0) (am_Φ G h0 0 0 (q_i out) q_n) mX10_isOpened 0 0 38 [none, none] [.int z0] (hp S) := by
  unfold b_X10_isOpened_38 at hB
  obtain ⟨c1, hB⟩ := ck_of hB
  obtain rfl := Option.some.inj hB
  exact ev_zret dX10_isOpened_38 rfl (isB_nar c1) (Nat.zero_le _) (Nat.zero_le _) (fun z => absurd z (hp_sealed _)) ⟨rfl, rfl⟩
theorem u_X10_isOpened_29 {G : am_G} {N : Nat} {h0 : am_H} {out : Int32 × am_S} (l1 : Int32) (S : am_S) (hB : b_X10_isOpened_29 N l1 S = some out) : Ev G (am_R 2 0 0) (am_Φ G h0 0 0 (q_i out) q_n) mX10_isOpened 0 0 29 [none, some (.int l1)] [] (hp S) := by
  unfold b_X10_isOpened_29 at hB
  refine ev_iload_n dX10_isOpened_29 rfl ?_
  refine ev_iflt 37 dX10_isOpened_30 (by decide) (fun q1 => ?_) (fun q1 => ?_)
  · rw [if_pos q1] at hB
    refine ev_iconst 0 dX10_isOpened_37 (by decide) ?_
    exact ev_ls (u_X10_isOpened_38 0 S hB) trivial
  · rw [if_neg q1] at hB
    refine ev_iconst 1 dX10_isOpened_33 (by decide) ?_
    refine ev_goto 38 dX10_isOpened_34 (by decide) ?_
    exact ev_ls (u_X10_isOpened_38 1 S hB) trivial
theorem u_X10_isOpened_7 {G : am_G} {N : Nat} {h0 : am_H} {out : Int32 × am_S} : ∀ (n : Nat) (l0 : Nat) (l1 : Int32) (S : am_S), isC 10 l0 = true → b_X10_isOpened_7 N n l0 l1 S = some out → Ev G (am_R 2 0 0) (am_Φ G h0 0 0 (q_i out) q_n) mX10_isOpened 0 0 7 [some (.ref l0), some (.int l1)] [] (hp S) := by
  intro n
  induction n with
  | zero =>
    intro l0 l1 S hl0 hB
    exact absurd (show none = some out from hB) (fun q => by cases q)
  | succ n ih =>
    intro l0 l1 S hl0 hB
    unfold b_X10_isOpened_7 at hB
    refine ev_iload_n dX10_isOpened_7 rfl ?_
    refine ev_iflt 29 dX10_isOpened_8 (by decide) (fun q1 => ?_) (fun q1 => ?_)
    · rw [if_pos q1] at hB
      exact ev_ls (u_X10_isOpened_29 l1 S hB) (And.intro rfl trivial)
    · rw [if_neg q1] at hB
      refine ev_aload_n dX10_isOpened_11 rfl ?_
      refine es_getr k_10 44 dX10_isOpened_12 (by decide) rfl (Or.inl w_1569) hl0 rfl ?_
      refine ev_iload_n dX10_isOpened_15 rfl ?_
      obtain ⟨c2, hB⟩ := ck_of hB
      refine es_iald dX10_isOpened_16 (tr_10_44 hl0) c2 ?_
      obtain ⟨r3, S4, e5, hB⟩ := bd_of hB
      refine es_callSi (As := [.int (sg S (rf l0 44) (Int32.toNatClampNeg l1))]) (t_X10_isOpen e5) dX10_isOpened_17 oX10_isOpen w_1841 rfl (Nat.le_of_ble_eq_true rfl) rfl (am_fit.of (by decide)) ⟨Nat.zero_le _, Nat.zero_le _⟩ ?_
      refine ev_ifne 29 dX10_isOpened_20 (by decide) (fun q6 => ?_) (fun q6 => ?_)
      · rw [if_neg q6] at hB
        exact ev_ls (u_X10_isOpened_29 l1 S4 hB) (And.intro rfl trivial)
      · rw [if_pos q6] at hB
        refine es_iinc (-1) dX10_isOpened_23 rfl (by decide) (by decide) rfl ?_
        refine ev_goto 7 dX10_isOpened_26 (by decide) ?_
        exact ev_ls (ih l0 (l1 + (-1)) S4 hl0 hB) (And.intro rfl (And.intro rfl trivial))
theorem t_X10_isOpened {G : am_G} {N : Nat} {l0 : Nat} {S : am_S} {out : Int32 × am_S} (hl0 : isC 10 l0 = true) (hB : f_X10_isOpened N l0 S = some out) : am_Met G 2 mX10_isOpened 0 0 [.ref l0] (hp S) (q_i out) q_n := by
  refine am_of (by decide +kernel) rfl rfl rfl (Nat.le_of_ble_eq_true rfl) ?_
  unfold f_X10_isOpened at hB
  refine ev_aload_n dX10_isOpened_0 rfl ?_
  refine es_geti k_10 35 dX10_isOpened_1 (by decide) rfl (Or.inl w_1560) hl0 rfl ?_
  refine ev_iconst 1 dX10_isOpened_4 (by decide) ?_
  refine ev_isub dX10_isOpened_5 ?_
  refine ev_istore_n dX10_isOpened_6 (by decide) rfl ?_
  exact ev_ls (u_X10_isOpened_7 N l0 ((sg S l0 35) - 1) S hl0 hB) (And.intro rfl (And.intro rfl trivial))
def f_X10_closes (N : Nat) (l0 : Nat) (S : am_S) : Option (am_S) := (bv (f_X10_drops N l0 0 S) (fun S2 => (bv (f_X10_goes N l0 (sp (sp S2 l0 35 ((sg S2 l0 35) - 1)) l0 36 ((sg (sp S2 l0 35 ((sg S2 l0 35) - 1)) l0 36) - 1))) (fun S5 => some S5))))
theorem t_X10_closes {G : am_G} {N : Nat} {l0 : Nat} {S : am_S} {out : am_S} (hl0 : isC 10 l0 = true) (hB : f_X10_closes N l0 S = some out) : am_Met G 3 mX10_closes 0 0 [.ref l0] (hp S) (q_v out) q_n := by
  refine am_of (by decide +kernel) rfl rfl rfl (Nat.le_of_ble_eq_true rfl) ?_
  unfold f_X10_closes at hB
  refine ev_aload_n dX10_closes_0 rfl ?_
  refine ev_iconst 0 dX10_closes_1 (by decide) ?_
  obtain ⟨S2, e3, hB⟩ := bv_of hB
  refine es_callVv (As := [.int 0]) (t_X10_drops hl0 e3) dX10_closes_2 oX10_drops w_1837 rfl hl0 rfl rfl (Nat.le_of_ble_eq_true rfl) rfl (am_fit.of (by decide)) ⟨Nat.zero_le _, Nat.zero_le _⟩ ?_
  refine ev_aload_n dX10_closes_5 rfl ?_
  refine ev_dup dX10_closes_6 rfl ?_
  refine es_geti k_10 35 dX10_closes_7 (by decide) rfl (Or.inl w_1560) hl0 rfl ?_
  refine ev_iconst 1 dX10_closes_10 (by decide) ?_
  refine ev_isub dX10_closes_11 ?_
  refine es_puti k_10 35 dX10_closes_12 (by decide) rfl (Or.inl w_1560) rfl rfl hl0 rfl ?_
  refine ev_aload_n dX10_closes_15 rfl ?_
  refine ev_dup dX10_closes_16 rfl ?_
  refine es_geti k_10 36 dX10_closes_17 (by decide) rfl (Or.inl w_1561) hl0 rfl ?_
  refine ev_iconst 1 dX10_closes_20 (by decide) ?_
  refine ev_isub dX10_closes_21 ?_
  refine es_puti k_10 36 dX10_closes_22 (by decide) rfl (Or.inl w_1561) rfl rfl hl0 rfl ?_
  refine ev_aload_n dX10_closes_25 rfl ?_
  obtain ⟨S5, e6, hB⟩ := bv_of hB
  refine es_callVv (As := []) (t_X10_goes hl0 e6) dX10_closes_26 oX10_goes w_1748 rfl hl0 rfl rfl (Nat.le_of_ble_eq_true rfl) rfl (am_fit.of (by decide)) ⟨Nat.zero_le _, Nat.zero_le _⟩ ?_
  obtain rfl := Option.some.inj hB
  exact ev_vret dX10_closes_29 rfl (Nat.zero_le _) (Nat.zero_le _) (fun z => absurd z (hp_sealed _)) ⟨rfl, rfl⟩
def b_X10_expression_337 (N : Nat) (k39 : Nat → Int32 → am_S → Option (am_S)) (l0 : Nat) (l3 : Int32) (S : am_S) : Option (am_S) := k39 l0 l3 S
def b_X10_expression_99 (N : Nat) (k39 : Nat → Int32 → am_S → Option (am_S)) (l0 : Nat) (l3 : Int32) (z0 : Nat) (z1 : Int32) (S : am_S) : Option (am_S) := (bv (f_X10_waitsFor N z0 z1 S) (fun S2 => (if inb (sg S2 l0 36) (ln (rf l0 45)) = true then (bv (f_X10_goes N l0 (sp S2 (rf l0 45) (Int32.toNatClampNeg (sg S2 l0 36)) (vp_nar .boolean 0))) (fun S6 => (bv (f_X10_operand N l0 1 S6) (fun S9 => b_X10_expression_337 N (k39) l0 l3 S9)))) else none)))
def b_X10_expression_83 (N : Nat) (k39 : Nat → Int32 → am_S → Option (am_S)) (l0 : Nat) (l3 : Int32) (l4 : Int32) (z0 : Nat) (z1 : Int32) (S : am_S) : Option (am_S) := (bv (f_X10_drops N z0 z1 S) (fun S2 => (if l4 = 15 then b_X10_expression_99 N (k39) l0 l3 l0 4 S2 else b_X10_expression_99 N (k39) l0 l3 l0 5 S2)))
def b_X10_expression_70 (N : Nat) (k39 : Nat → Int32 → am_S → Option (am_S)) (l0 : Nat) (l3 : Int32) (l4 : Int32) (S : am_S) : Option (am_S) := (if l4 = 15 then b_X10_expression_83 N (k39) l0 l3 l4 l0 2 S else b_X10_expression_83 N (k39) l0 l3 l4 l0 1 S)
def b_X10_expression_176 (N : Nat) (k39 : Nat → Int32 → am_S → Option (am_S)) (l0 : Nat) (l3 : Int32) (z0 : Nat) (z1 : Int32) (S : am_S) : Option (am_S) := (bv (f_X10_waitsFor N z0 z1 S) (fun S2 => (if inb (sg S2 l0 36) (ln (rf l0 45)) = true then (bv (f_X10_goes N l0 (sp S2 (rf l0 45) (Int32.toNatClampNeg (sg S2 l0 36)) (vp_nar .boolean 1))) (fun S6 => (bv (f_X10_operand N l0 0 S6) (fun S9 => b_X10_expression_337 N (k39) l0 l3 S9)))) else none)))
def b_X10_expression_241 (N : Nat) (k39 : Nat → Int32 → am_S → Option (am_S)) (l0 : Nat) (l3 : Int32) (z0 : Nat) (z1 : Int32) (S : am_S) : Option (am_S) := (bv (f_X10_waitsFor N z0 z1 S) (fun S2 => (bv (f_X10_goes N l0 S2) (fun S5 => (bv (f_X10_operand N l0 0 S5) (fun S8 => b_X10_expression_337 N (k39) l0 l3 S8))))))
def b_X10_expression_219 (N : Nat) (k39 : Nat → Int32 → am_S → Option (am_S)) (l0 : Nat) (l3 : Int32) (S : am_S) : Option (am_S) := (bv (f_X10_drops N l0 5 S) (fun S2 => (bd (f_X10_isSign N l0 43 S2) (fun r4 S5 => (if r4 = 0 then b_X10_expression_241 N (k39) l0 l3 l0 9 S5 else b_X10_expression_241 N (k39) l0 l3 l0 8 S5)))))
def b_X10_expression_297 (N : Nat) (k39 : Nat → Int32 → am_S → Option (am_S)) (l0 : Nat) (l3 : Int32) (z0 : Nat) (z1 : Int32) (S : am_S) : Option (am_S) := (bv (f_X10_waitsFor N z0 z1 S) (fun S2 => (bv (f_X10_goes N l0 S2) (fun S5 => (bv (f_X10_operand N l0 0 S5) (fun S8 => b_X10_expression_337 N (k39) l0 l3 S8))))))
def b_X10_expression_274 (N : Nat) (k39 : Nat → Int32 → am_S → Option (am_S)) (l0 : Nat) (l3 : Int32) (S : am_S) : Option (am_S) := (bv (f_X10_drops N l0 6 S) (fun S2 => (bd (f_X10_isSign N l0 42 S2) (fun r4 S5 => (if r4 = 0 then b_X10_expression_297 N (k39) l0 l3 l0 11 S5 else b_X10_expression_297 N (k39) l0 l3 l0 10 S5)))))
def b_X10_expression_335 (N : Nat) (k39 : Nat → Int32 → am_S → Option (am_S)) (l0 : Nat) (S : am_S) : Option (am_S) := b_X10_expression_337 N (k39) l0 0 S
def b_X10_expression_201 (N : Nat) (k39 : Nat → Int32 → am_S → Option (am_S)) (l0 : Nat) (l3 : Int32) (S : am_S) : Option (am_S) := (bd (f_X10_isSign N l0 43 S) (fun r1 S2 => (if r1 = 0 then (bd (f_X10_isSign N l0 45 S2) (fun r5 S6 => (if r5 = 0 then (bd (f_X10_isSign N l0 42 S6) (fun r9 S10 => (if r9 = 0 then (bd (f_X10_isSign N l0 47 S10) (fun r13 S14 => (if r13 = 0 then (bd (f_X10_isSign N l0 41 S14) (fun r17 S18 => (if r17 = 0 then b_X10_expression_335 N (k39) l0 S18 else (bd (f_X10_isOpened N l0 S18) (fun r21 S22 => (if r21 = 0 then b_X10_expression_335 N (k39) l0 S22 else (bv (f_X10_closes N l0 S22) (fun S26 => b_X10_expression_337 N (k39) l0 l3 S26)))))))) else b_X10_expression_274 N (k39) l0 l3 S14))) else b_X10_expression_274 N (k39) l0 l3 S10))) else b_X10_expression_219 N (k39) l0 l3 S6))) else b_X10_expression_219 N (k39) l0 l3 S2)))
def b_X10_expression_142 (N : Nat) (k39 : Nat → Int32 → am_S → Option (am_S)) (l0 : Nat) (l3 : Int32) (S : am_S) : Option (am_S) := (if inb (sg S l0 36) (ln (rf l0 45)) = true then (if (sg S (rf l0 45) (Int32.toNatClampNeg (sg S l0 36))) = 0 then (bv (f_X10_drops N l0 4 S) (fun S4 => (bd (f_X10_isSign N l0 60 S4) (fun r6 S7 => (if r6 = 0 then b_X10_expression_176 N (k39) l0 l3 l0 7 S7 else b_X10_expression_176 N (k39) l0 l3 l0 6 S7))))) else b_X10_expression_201 N (k39) l0 l3 S) else none)
def b_X10_expression_360 (N : Nat) (l0 : Nat) (S : am_S) : Option (am_S) := (bv (f_X10_drops N l0 0 S) (fun S2 => (bv (f_X10_puts N l0 0 S2) (fun S5 => some S5))))
def b_X10_expression_340 (N : Nat) (l0 : Nat) (S : am_S) : Option (am_S) := (bd (f_X10_isGood N l0 S) (fun r1 S2 => (if r1 = 0 then b_X10_expression_360 N l0 S2 else (if (sg S2 l0 36) ≤ 1 then b_X10_expression_360 N l0 S2 else (bv (f_X10_wrong N l0 1 S2) (fun S7 => b_X10_expression_360 N l0 S7))))))
def b_X10_expression_39 (N : Nat) : Nat → Nat → Int32 → am_S → Option (am_S)
  | 0, _, _, _ => none
  | n + 1, l0, l3, S => (if l3 = 0 then b_X10_expression_340 N l0 S else (bd (f_X10_isGood N l0 S) (fun r2 S3 => (if r2 = 0 then b_X10_expression_340 N l0 S3 else (bd (f_X10_knownWord N l0 S3) (fun r6 S7 => (if r6 = 15 then b_X10_expression_70 N (b_X10_expression_39 N n) l0 l3 r6 S7 else (if r6 = 16 then b_X10_expression_70 N (b_X10_expression_39 N n) l0 l3 r6 S7 else (bd (f_X10_isSign N l0 60 S7) (fun r11 S12 => (if r11 = 0 then (bd (f_X10_isSign N l0 61 S12) (fun r15 S16 => (if r15 = 0 then b_X10_expression_201 N (b_X10_expression_39 N n) l0 l3 S16 else b_X10_expression_142 N (b_X10_expression_39 N n) l0 l3 S16))) else b_X10_expression_142 N (b_X10_expression_39 N n) l0 l3 S12)))))))))))
def f_X10_expression (N : Nat) (l0 : Nat) (l1 : Int32) (l2 : Int32) (S : am_S) : Option (am_S) := (bd (f_X10_isGood N l0 S) (fun r1 S2 => (if r1 = 0 then some S2 else (bv (f_X10_deeper N l0 (sp (sp (sp (sp S2 l0 33 l1) l0 34 l2) l0 35 0) l0 36 0)) (fun S6 => (bv (f_X10_operand N l0 1 S6) (fun S9 => b_X10_expression_39 N N l0 1 S9)))))))
theorem u_X10_expression_337 {G : am_G} {N : Nat} {h0 : am_H} {out : am_S} {k39 : Nat → Int32 → am_S → Option (am_S)} (hk39 : ∀ (l0 : Nat) (l3 : Int32) (S : am_S), isC 10 l0 = true → k39 l0 l3 S = some out → Ev G (am_R 6 0 0) (am_Φ G h0 0 0 (q_v out) q_n) mX10_expression 0 0 39 [some (.ref l0), none, none, some (.int l3), none] [] (hp S)) (l0 : Nat) (l3 : Int32) (S : am_S) (hl0 : isC 10 l0 = true) (hB : b_X10_expression_337 N k39 l0 l3 S = some out) : Ev G (am_R 6 0 0) (am_Φ G h0 0 0 (q_v out) q_n) mX10_expression 0 0 337 [some (.ref l0), none, none, some (.int l3), none] [] (hp S) := by
  unfold b_X10_expression_337 at hB
  refine ev_goto 39 dX10_expression_337 (by decide) ?_
  exact ev_ls (hk39 l0 l3 S hl0 hB) (And.intro rfl (And.intro rfl trivial))
theorem u_X10_expression_99 {G : am_G} {N : Nat} {h0 : am_H} {out : am_S} {k39 : Nat → Int32 → am_S → Option (am_S)} (hk39 : ∀ (l0 : Nat) (l3 : Int32) (S : am_S), isC 10 l0 = true → k39 l0 l3 S = some out → Ev G (am_R 6 0 0) (am_Φ G h0 0 0 (q_v out) q_n) mX10_expression 0 0 39 [some (.ref l0), none, none, some (.int l3), none] [] (hp S)) (l0 : Nat) (l3 : Int32) (z0 : Nat) (z1 : Int32) (S : am_S) (hl0 : isC 10 l0 = true) (hz0 : isC 10 z0 = true) (hB : b_X10_expression_99 N k39 l0 l3 z0 z1 S = some out) : Ev G (am_R 6 0 0) (am_Φ G h0 0 0 (q_v out) q_n) mX10_expression 0 0 99 [some (.ref l0), none, none, some (.int l3), none] [.int z1, .ref z0] (hp S) := by
  unfold b_X10_expression_99 at hB
  obtain ⟨S2, e3, hB⟩ := bv_of hB
  refine es_callVv (As := [.int z1]) (t_X10_waitsFor hz0 e3) dX10_expression_99 oX10_waitsFor w_1825 rfl hz0 rfl rfl (Nat.le_of_ble_eq_true rfl) rfl (am_fit.of (by decide)) ⟨Nat.zero_le _, Nat.zero_le _⟩ ?_
  refine ev_aload_n dX10_expression_102 rfl ?_
  refine es_getr k_10 45 dX10_expression_103 (by decide) rfl (Or.inl w_1570) hl0 rfl ?_
  refine ev_aload_n dX10_expression_106 rfl ?_
  refine es_geti k_10 36 dX10_expression_107 (by decide) rfl (Or.inl w_1561) hl0 rfl ?_
  refine ev_iconst 0 dX10_expression_110 (by decide) ?_
  obtain ⟨c4, hB⟩ := ck_of hB
  refine es_zast dX10_expression_111 (tr_10_45 hl0) c4 ?_
  refine ev_aload_n dX10_expression_112 rfl ?_
  obtain ⟨S6, e7, hB⟩ := bv_of hB
  refine es_callVv (As := []) (t_X10_goes hl0 e7) dX10_expression_113 oX10_goes w_1748 rfl hl0 rfl rfl (Nat.le_of_ble_eq_true rfl) rfl (am_fit.of (by decide)) ⟨Nat.zero_le _, Nat.zero_le _⟩ ?_
  refine ev_aload_n dX10_expression_116 rfl ?_
  refine ev_iconst 1 dX10_expression_117 (by decide) ?_
  obtain ⟨S9, e10, hB⟩ := bv_of hB
  refine es_callVv (As := [.int 1]) (t_X10_operand hl0 e10) dX10_expression_118 oX10_operand w_1821 rfl hl0 rfl rfl (Nat.le_of_ble_eq_true rfl) rfl (am_fit.of (by decide)) ⟨Nat.zero_le _, Nat.zero_le _⟩ ?_
  refine ev_goto 337 dX10_expression_121 (by decide) ?_
  exact ev_ls (u_X10_expression_337 hk39 l0 l3 S9 hl0 hB) (And.intro rfl (And.intro rfl trivial))
theorem u_X10_expression_83 {G : am_G} {N : Nat} {h0 : am_H} {out : am_S} {k39 : Nat → Int32 → am_S → Option (am_S)} (hk39 : ∀ (l0 : Nat) (l3 : Int32) (S : am_S), isC 10 l0 = true → k39 l0 l3 S = some out → Ev G (am_R 6 0 0) (am_Φ G h0 0 0 (q_v out) q_n) mX10_expression 0 0 39 [some (.ref l0), none, none, some (.int l3), none] [] (hp S)) (l0 : Nat) (l3 : Int32) (l4 : Int32) (z0 : Nat) (z1 : Int32) (S : am_S) (hl0 : isC 10 l0 = true) (hz0 : isC 10 z0 = true) (hB : b_X10_expression_83 N k39 l0 l3 l4 z0 z1 S = some out) : Ev G (am_R 6 0 0) (am_Φ G h0 0 0 (q_v out) q_n) mX10_expression 0 0 83 [some (.ref l0), none, none, some (.int l3), some (.int l4)] [.int z1, .ref z0] (hp S) := by
  unfold b_X10_expression_83 at hB
  obtain ⟨S2, e3, hB⟩ := bv_of hB
  refine es_callVv (As := [.int z1]) (t_X10_drops hz0 e3) dX10_expression_83 oX10_drops w_1837 rfl hz0 rfl rfl (Nat.le_of_ble_eq_true rfl) rfl (am_fit.of (by decide)) ⟨Nat.zero_le _, Nat.zero_le _⟩ ?_
  refine ev_aload_n dX10_expression_86 rfl ?_
  refine ev_iload dX10_expression_87 rfl ?_
  refine ev_bipush 15 dX10_expression_89 (by decide) ?_
  refine ev_icmpne 98 dX10_expression_91 (by decide) (fun q4 => ?_) (fun q4 => ?_)
  · rw [if_neg q4] at hB
    refine ev_iconst 5 dX10_expression_98 (by decide) ?_
    exact ev_ls (u_X10_expression_99 hk39 l0 l3 l0 5 S2 hl0 hl0 hB) (And.intro rfl (And.intro rfl trivial))
  · rw [if_pos q4] at hB
    refine ev_iconst 4 dX10_expression_94 (by decide) ?_
    refine ev_goto 99 dX10_expression_95 (by decide) ?_
    exact ev_ls (u_X10_expression_99 hk39 l0 l3 l0 4 S2 hl0 hl0 hB) (And.intro rfl (And.intro rfl trivial))
theorem u_X10_expression_70 {G : am_G} {N : Nat} {h0 : am_H} {out : am_S} {k39 : Nat → Int32 → am_S → Option (am_S)} (hk39 : ∀ (l0 : Nat) (l3 : Int32) (S : am_S), isC 10 l0 = true → k39 l0 l3 S = some out → Ev G (am_R 6 0 0) (am_Φ G h0 0 0 (q_v out) q_n) mX10_expression 0 0 39 [some (.ref l0), none, none, some (.int l3), none] [] (hp S)) (l0 : Nat) (l3 : Int32) (l4 : Int32) (S : am_S) (hl0 : isC 10 l0 = true) (hB : b_X10_expression_70 N k39 l0 l3 l4 S = some out) : Ev G (am_R 6 0 0) (am_Φ G h0 0 0 (q_v out) q_n) mX10_expression 0 0 70 [some (.ref l0), none, none, some (.int l3), some (.int l4)] [] (hp S) := by
  unfold b_X10_expression_70 at hB
  refine ev_aload_n dX10_expression_70 rfl ?_
  refine ev_iload dX10_expression_71 rfl ?_
  refine ev_bipush 15 dX10_expression_73 (by decide) ?_
  refine ev_icmpne 82 dX10_expression_75 (by decide) (fun q1 => ?_) (fun q1 => ?_)
  · rw [if_neg q1] at hB
    refine ev_iconst 1 dX10_expression_82 (by decide) ?_
    exact ev_ls (u_X10_expression_83 hk39 l0 l3 l4 l0 1 S hl0 hl0 hB) (And.intro rfl (And.intro rfl (And.intro rfl trivial)))
  · rw [if_pos q1] at hB
    refine ev_iconst 2 dX10_expression_78 (by decide) ?_
    refine ev_goto 83 dX10_expression_79 (by decide) ?_
    exact ev_ls (u_X10_expression_83 hk39 l0 l3 l4 l0 2 S hl0 hl0 hB) (And.intro rfl (And.intro rfl (And.intro rfl trivial)))
theorem u_X10_expression_176 {G : am_G} {N : Nat} {h0 : am_H} {out : am_S} {k39 : Nat → Int32 → am_S → Option (am_S)} (hk39 : ∀ (l0 : Nat) (l3 : Int32) (S : am_S), isC 10 l0 = true → k39 l0 l3 S = some out → Ev G (am_R 6 0 0) (am_Φ G h0 0 0 (q_v out) q_n) mX10_expression 0 0 39 [some (.ref l0), none, none, some (.int l3), none] [] (hp S)) (l0 : Nat) (l3 : Int32) (z0 : Nat) (z1 : Int32) (S : am_S) (hl0 : isC 10 l0 = true) (hz0 : isC 10 z0 = true) (hB : b_X10_expression_176 N k39 l0 l3 z0 z1 S = some out) : Ev G (am_R 6 0 0) (am_Φ G h0 0 0 (q_v out) q_n) mX10_expression 0 0 176 [some (.ref l0), none, none, some (.int l3), none] [.int z1, .ref z0] (hp S) := by
  unfold b_X10_expression_176 at hB
  obtain ⟨S2, e3, hB⟩ := bv_of hB
  refine es_callVv (As := [.int z1]) (t_X10_waitsFor hz0 e3) dX10_expression_176 oX10_waitsFor w_1825 rfl hz0 rfl rfl (Nat.le_of_ble_eq_true rfl) rfl (am_fit.of (by decide)) ⟨Nat.zero_le _, Nat.zero_le _⟩ ?_
  refine ev_aload_n dX10_expression_179 rfl ?_
  refine es_getr k_10 45 dX10_expression_180 (by decide) rfl (Or.inl w_1570) hl0 rfl ?_
  refine ev_aload_n dX10_expression_183 rfl ?_
  refine es_geti k_10 36 dX10_expression_184 (by decide) rfl (Or.inl w_1561) hl0 rfl ?_
  refine ev_iconst 1 dX10_expression_187 (by decide) ?_
  obtain ⟨c4, hB⟩ := ck_of hB
  refine es_zast dX10_expression_188 (tr_10_45 hl0) c4 ?_
  refine ev_aload_n dX10_expression_189 rfl ?_
  obtain ⟨S6, e7, hB⟩ := bv_of hB
  refine es_callVv (As := []) (t_X10_goes hl0 e7) dX10_expression_190 oX10_goes w_1748 rfl hl0 rfl rfl (Nat.le_of_ble_eq_true rfl) rfl (am_fit.of (by decide)) ⟨Nat.zero_le _, Nat.zero_le _⟩ ?_
  refine ev_aload_n dX10_expression_193 rfl ?_
  refine ev_iconst 0 dX10_expression_194 (by decide) ?_
  obtain ⟨S9, e10, hB⟩ := bv_of hB
  refine es_callVv (As := [.int 0]) (t_X10_operand hl0 e10) dX10_expression_195 oX10_operand w_1821 rfl hl0 rfl rfl (Nat.le_of_ble_eq_true rfl) rfl (am_fit.of (by decide)) ⟨Nat.zero_le _, Nat.zero_le _⟩ ?_
  refine ev_goto 337 dX10_expression_198 (by decide) ?_
  exact ev_ls (u_X10_expression_337 hk39 l0 l3 S9 hl0 hB) (And.intro rfl (And.intro rfl trivial))
theorem u_X10_expression_241 {G : am_G} {N : Nat} {h0 : am_H} {out : am_S} {k39 : Nat → Int32 → am_S → Option (am_S)} (hk39 : ∀ (l0 : Nat) (l3 : Int32) (S : am_S), isC 10 l0 = true → k39 l0 l3 S = some out → Ev G (am_R 6 0 0) (am_Φ G h0 0 0 (q_v out) q_n) mX10_expression 0 0 39 [some (.ref l0), none, none, some (.int l3), none] [] (hp S)) (l0 : Nat) (l3 : Int32) (z0 : Nat) (z1 : Int32) (S : am_S) (hl0 : isC 10 l0 = true) (hz0 : isC 10 z0 = true) (hB : b_X10_expression_241 N k39 l0 l3 z0 z1 S = some out) : Ev G (am_R 6 0 0) (am_Φ G h0 0 0 (q_v out) q_n) mX10_expression 0 0 241 [some (.ref l0), none, none, some (.int l3), none] [.int z1, .ref z0] (hp S) := by
  unfold b_X10_expression_241 at hB
  obtain ⟨S2, e3, hB⟩ := bv_of hB
  refine es_callVv (As := [.int z1]) (t_X10_waitsFor hz0 e3) dX10_expression_241 oX10_waitsFor w_1825 rfl hz0 rfl rfl (Nat.le_of_ble_eq_true rfl) rfl (am_fit.of (by decide)) ⟨Nat.zero_le _, Nat.zero_le _⟩ ?_
  refine ev_aload_n dX10_expression_244 rfl ?_
  obtain ⟨S5, e6, hB⟩ := bv_of hB
  refine es_callVv (As := []) (t_X10_goes hl0 e6) dX10_expression_245 oX10_goes w_1748 rfl hl0 rfl rfl (Nat.le_of_ble_eq_true rfl) rfl (am_fit.of (by decide)) ⟨Nat.zero_le _, Nat.zero_le _⟩ ?_
  refine ev_aload_n dX10_expression_248 rfl ?_
  refine ev_iconst 0 dX10_expression_249 (by decide) ?_
  obtain ⟨S8, e9, hB⟩ := bv_of hB
  refine es_callVv (As := [.int 0]) (t_X10_operand hl0 e9) dX10_expression_250 oX10_operand w_1821 rfl hl0 rfl rfl (Nat.le_of_ble_eq_true rfl) rfl (am_fit.of (by decide)) ⟨Nat.zero_le _, Nat.zero_le _⟩ ?_
  refine ev_goto 337 dX10_expression_253 (by decide) ?_
  exact ev_ls (u_X10_expression_337 hk39 l0 l3 S8 hl0 hB) (And.intro rfl (And.intro rfl trivial))
theorem u_X10_expression_219 {G : am_G} {N : Nat} {h0 : am_H} {out : am_S} {k39 : Nat → Int32 → am_S → Option (am_S)} (hk39 : ∀ (l0 : Nat) (l3 : Int32) (S : am_S), isC 10 l0 = true → k39 l0 l3 S = some out → Ev G (am_R 6 0 0) (am_Φ G h0 0 0 (q_v out) q_n) mX10_expression 0 0 39 [some (.ref l0), none, none, some (.int l3), none] [] (hp S)) (l0 : Nat) (l3 : Int32) (S : am_S) (hl0 : isC 10 l0 = true) (hB : b_X10_expression_219 N k39 l0 l3 S = some out) : Ev G (am_R 6 0 0) (am_Φ G h0 0 0 (q_v out) q_n) mX10_expression 0 0 219 [some (.ref l0), none, none, some (.int l3), none] [] (hp S) := by
  unfold b_X10_expression_219 at hB
  refine ev_aload_n dX10_expression_219 rfl ?_
  refine ev_iconst 5 dX10_expression_220 (by decide) ?_
  obtain ⟨S2, e3, hB⟩ := bv_of hB
  refine es_callVv (As := [.int 5]) (t_X10_drops hl0 e3) dX10_expression_221 oX10_drops w_1837 rfl hl0 rfl rfl (Nat.le_of_ble_eq_true rfl) rfl (am_fit.of (by decide)) ⟨Nat.zero_le _, Nat.zero_le _⟩ ?_
  refine ev_aload_n dX10_expression_224 rfl ?_
  refine ev_aload_n dX10_expression_225 rfl ?_
  refine ev_bipush 43 dX10_expression_226 (by decide) ?_
  obtain ⟨r4, S5, e6, hB⟩ := bd_of hB
  refine es_callVi (As := [.int 43]) (t_X10_isSign hl0 e6) dX10_expression_228 oX10_isSign w_1817 rfl hl0 rfl rfl (Nat.le_of_ble_eq_true rfl) rfl (am_fit.of (by decide)) ⟨Nat.zero_le _, Nat.zero_le _⟩ ?_
  refine ev_ifeq 239 dX10_expression_231 (by decide) (fun q7 => ?_) (fun q7 => ?_)
  · rw [if_pos q7] at hB
    refine ev_bipush 9 dX10_expression_239 (by decide) ?_
    exact ev_ls (u_X10_expression_241 hk39 l0 l3 l0 9 S5 hl0 hl0 hB) (And.intro rfl (And.intro rfl trivial))
  · rw [if_neg q7] at hB
    refine ev_bipush 8 dX10_expression_234 (by decide) ?_
    refine ev_goto 241 dX10_expression_236 (by decide) ?_
    exact ev_ls (u_X10_expression_241 hk39 l0 l3 l0 8 S5 hl0 hl0 hB) (And.intro rfl (And.intro rfl trivial))
theorem u_X10_expression_297 {G : am_G} {N : Nat} {h0 : am_H} {out : am_S} {k39 : Nat → Int32 → am_S → Option (am_S)} (hk39 : ∀ (l0 : Nat) (l3 : Int32) (S : am_S), isC 10 l0 = true → k39 l0 l3 S = some out → Ev G (am_R 6 0 0) (am_Φ G h0 0 0 (q_v out) q_n) mX10_expression 0 0 39 [some (.ref l0), none, none, some (.int l3), none] [] (hp S)) (l0 : Nat) (l3 : Int32) (z0 : Nat) (z1 : Int32) (S : am_S) (hl0 : isC 10 l0 = true) (hz0 : isC 10 z0 = true) (hB : b_X10_expression_297 N k39 l0 l3 z0 z1 S = some out) : Ev G (am_R 6 0 0) (am_Φ G h0 0 0 (q_v out) q_n) mX10_expression 0 0 297 [some (.ref l0), none, none, some (.int l3), none] [.int z1, .ref z0] (hp S) := by
  unfold b_X10_expression_297 at hB
  obtain ⟨S2, e3, hB⟩ := bv_of hB
  refine es_callVv (As := [.int z1]) (t_X10_waitsFor hz0 e3) dX10_expression_297 oX10_waitsFor w_1825 rfl hz0 rfl rfl (Nat.le_of_ble_eq_true rfl) rfl (am_fit.of (by decide)) ⟨Nat.zero_le _, Nat.zero_le _⟩ ?_
  refine ev_aload_n dX10_expression_300 rfl ?_
  obtain ⟨S5, e6, hB⟩ := bv_of hB
  refine es_callVv (As := []) (t_X10_goes hl0 e6) dX10_expression_301 oX10_goes w_1748 rfl hl0 rfl rfl (Nat.le_of_ble_eq_true rfl) rfl (am_fit.of (by decide)) ⟨Nat.zero_le _, Nat.zero_le _⟩ ?_
  refine ev_aload_n dX10_expression_304 rfl ?_
  refine ev_iconst 0 dX10_expression_305 (by decide) ?_
  obtain ⟨S8, e9, hB⟩ := bv_of hB
  refine es_callVv (As := [.int 0]) (t_X10_operand hl0 e9) dX10_expression_306 oX10_operand w_1821 rfl hl0 rfl rfl (Nat.le_of_ble_eq_true rfl) rfl (am_fit.of (by decide)) ⟨Nat.zero_le _, Nat.zero_le _⟩ ?_
  refine ev_goto 337 dX10_expression_309 (by decide) ?_
  exact ev_ls (u_X10_expression_337 hk39 l0 l3 S8 hl0 hB) (And.intro rfl (And.intro rfl trivial))
theorem u_X10_expression_274 {G : am_G} {N : Nat} {h0 : am_H} {out : am_S} {k39 : Nat → Int32 → am_S → Option (am_S)} (hk39 : ∀ (l0 : Nat) (l3 : Int32) (S : am_S), isC 10 l0 = true → k39 l0 l3 S = some out → Ev G (am_R 6 0 0) (am_Φ G h0 0 0 (q_v out) q_n) mX10_expression 0 0 39 [some (.ref l0), none, none, some (.int l3), none] [] (hp S)) (l0 : Nat) (l3 : Int32) (S : am_S) (hl0 : isC 10 l0 = true) (hB : b_X10_expression_274 N k39 l0 l3 S = some out) : Ev G (am_R 6 0 0) (am_Φ G h0 0 0 (q_v out) q_n) mX10_expression 0 0 274 [some (.ref l0), none, none, some (.int l3), none] [] (hp S) := by
  unfold b_X10_expression_274 at hB
  refine ev_aload_n dX10_expression_274 rfl ?_
  refine ev_bipush 6 dX10_expression_275 (by decide) ?_
  obtain ⟨S2, e3, hB⟩ := bv_of hB
  refine es_callVv (As := [.int 6]) (t_X10_drops hl0 e3) dX10_expression_277 oX10_drops w_1837 rfl hl0 rfl rfl (Nat.le_of_ble_eq_true rfl) rfl (am_fit.of (by decide)) ⟨Nat.zero_le _, Nat.zero_le _⟩ ?_
  refine ev_aload_n dX10_expression_280 rfl ?_
  refine ev_aload_n dX10_expression_281 rfl ?_
  refine ev_bipush 42 dX10_expression_282 (by decide) ?_
  obtain ⟨r4, S5, e6, hB⟩ := bd_of hB
  refine es_callVi (As := [.int 42]) (t_X10_isSign hl0 e6) dX10_expression_284 oX10_isSign w_1817 rfl hl0 rfl rfl (Nat.le_of_ble_eq_true rfl) rfl (am_fit.of (by decide)) ⟨Nat.zero_le _, Nat.zero_le _⟩ ?_
  refine ev_ifeq 295 dX10_expression_287 (by decide) (fun q7 => ?_) (fun q7 => ?_)
  · rw [if_pos q7] at hB
    refine ev_bipush 11 dX10_expression_295 (by decide) ?_
    exact ev_ls (u_X10_expression_297 hk39 l0 l3 l0 11 S5 hl0 hl0 hB) (And.intro rfl (And.intro rfl trivial))
  · rw [if_neg q7] at hB
    refine ev_bipush 10 dX10_expression_290 (by decide) ?_
    refine ev_goto 297 dX10_expression_292 (by decide) ?_
    exact ev_ls (u_X10_expression_297 hk39 l0 l3 l0 10 S5 hl0 hl0 hB) (And.intro rfl (And.intro rfl trivial))
theorem u_X10_expression_335 {G : am_G} {N : Nat} {h0 : am_H} {out : am_S} {k39 : Nat → Int32 → am_S → Option (am_S)} (hk39 : ∀ (l0 : Nat) (l3 : Int32) (S : am_S), isC 10 l0 = true → k39 l0 l3 S = some out → Ev G (am_R 6 0 0) (am_Φ G h0 0 0 (q_v out) q_n) mX10_expression 0 0 39 [some (.ref l0), none, none, some (.int l3), none] [] (hp S)) (l0 : Nat) (S : am_S) (hl0 : isC 10 l0 = true) (hB : b_X10_expression_335 N k39 l0 S = some out) : Ev G (am_R 6 0 0) (am_Φ G h0 0 0 (q_v out) q_n) mX10_expression 0 0 335 [some (.ref l0), none, none, none, none] [] (hp S) := by
  unfold b_X10_expression_335 at hB
  refine ev_iconst 0 dX10_expression_335 (by decide) ?_
  refine ev_istore_n dX10_expression_336 (by decide) rfl ?_
  exact ev_ls (u_X10_expression_337 hk39 l0 0 S hl0 hB) (And.intro rfl (And.intro rfl trivial))
theorem u_X10_expression_201 {G : am_G} {N : Nat} {h0 : am_H} {out : am_S} {k39 : Nat → Int32 → am_S → Option (am_S)} (hk39 : ∀ (l0 : Nat) (l3 : Int32) (S : am_S), isC 10 l0 = true → k39 l0 l3 S = some out → Ev G (am_R 6 0 0) (am_Φ G h0 0 0 (q_v out) q_n) mX10_expression 0 0 39 [some (.ref l0), none, none, some (.int l3), none] [] (hp S)) (l0 : Nat) (l3 : Int32) (S : am_S) (hl0 : isC 10 l0 = true) (hB : b_X10_expression_201 N k39 l0 l3 S = some out) : Ev G (am_R 6 0 0) (am_Φ G h0 0 0 (q_v out) q_n) mX10_expression 0 0 201 [some (.ref l0), none, none, some (.int l3), none] [] (hp S) := by
  unfold b_X10_expression_201 at hB
  refine ev_aload_n dX10_expression_201 rfl ?_
  refine ev_bipush 43 dX10_expression_202 (by decide) ?_
  obtain ⟨r1, S2, e3, hB⟩ := bd_of hB
  refine es_callVi (As := [.int 43]) (t_X10_isSign hl0 e3) dX10_expression_204 oX10_isSign w_1817 rfl hl0 rfl rfl (Nat.le_of_ble_eq_true rfl) rfl (am_fit.of (by decide)) ⟨Nat.zero_le _, Nat.zero_le _⟩ ?_
  refine ev_ifne 219 dX10_expression_207 (by decide) (fun q4 => ?_) (fun q4 => ?_)
  · rw [if_neg q4] at hB
    exact ev_ls (u_X10_expression_219 hk39 l0 l3 S2 hl0 hB) (And.intro rfl (And.intro rfl trivial))
  · rw [if_pos q4] at hB
    refine ev_aload_n dX10_expression_210 rfl ?_
    refine ev_bipush 45 dX10_expression_211 (by decide) ?_
    obtain ⟨r5, S6, e7, hB⟩ := bd_of hB
    refine es_callVi (As := [.int 45]) (t_X10_isSign hl0 e7) dX10_expression_213 oX10_isSign w_1817 rfl hl0 rfl rfl (Nat.le_of_ble_eq_true rfl) rfl (am_fit.of (by decide)) ⟨Nat.zero_le _, Nat.zero_le _⟩ ?_
    refine ev_ifeq 256 dX10_expression_216 (by decide) (fun q8 => ?_) (fun q8 => ?_)
    · rw [if_pos q8] at hB
      refine ev_aload_n dX10_expression_256 rfl ?_
      refine ev_bipush 42 dX10_expression_257 (by decide) ?_
      obtain ⟨r9, S10, e11, hB⟩ := bd_of hB
      refine es_callVi (As := [.int 42]) (t_X10_isSign hl0 e11) dX10_expression_259 oX10_isSign w_1817 rfl hl0 rfl rfl (Nat.le_of_ble_eq_true rfl) rfl (am_fit.of (by decide)) ⟨Nat.zero_le _, Nat.zero_le _⟩ ?_
      refine ev_ifne 274 dX10_expression_262 (by decide) (fun q12 => ?_) (fun q12 => ?_)
      · rw [if_neg q12] at hB
        exact ev_ls (u_X10_expression_274 hk39 l0 l3 S10 hl0 hB) (And.intro rfl (And.intro rfl trivial))
      · rw [if_pos q12] at hB
        refine ev_aload_n dX10_expression_265 rfl ?_
        refine ev_bipush 47 dX10_expression_266 (by decide) ?_
        obtain ⟨r13, S14, e15, hB⟩ := bd_of hB
        refine es_callVi (As := [.int 47]) (t_X10_isSign hl0 e15) dX10_expression_268 oX10_isSign w_1817 rfl hl0 rfl rfl (Nat.le_of_ble_eq_true rfl) rfl (am_fit.of (by decide)) ⟨Nat.zero_le _, Nat.zero_le _⟩ ?_
        refine ev_ifeq 312 dX10_expression_271 (by decide) (fun q16 => ?_) (fun q16 => ?_)
        · rw [if_pos q16] at hB
          refine ev_aload_n dX10_expression_312 rfl ?_
          refine ev_bipush 41 dX10_expression_313 (by decide) ?_
          obtain ⟨r17, S18, e19, hB⟩ := bd_of hB
          refine es_callVi (As := [.int 41]) (t_X10_isSign hl0 e19) dX10_expression_315 oX10_isSign w_1817 rfl hl0 rfl rfl (Nat.le_of_ble_eq_true rfl) rfl (am_fit.of (by decide)) ⟨Nat.zero_le _, Nat.zero_le _⟩ ?_
          refine ev_ifeq 335 dX10_expression_318 (by decide) (fun q20 => ?_) (fun q20 => ?_)
          · rw [if_pos q20] at hB
            exact ev_ls (u_X10_expression_335 hk39 l0 S18 hl0 hB) (And.intro rfl trivial)
          · rw [if_neg q20] at hB
            refine ev_aload_n dX10_expression_321 rfl ?_
            obtain ⟨r21, S22, e23, hB⟩ := bd_of hB
            refine es_callVi (As := []) (t_X10_isOpened hl0 e23) dX10_expression_322 oX10_isOpened w_1847 rfl hl0 rfl rfl (Nat.le_of_ble_eq_true rfl) rfl (am_fit.of (by decide)) ⟨Nat.zero_le _, Nat.zero_le _⟩ ?_
            refine ev_ifeq 335 dX10_expression_325 (by decide) (fun q24 => ?_) (fun q24 => ?_)
            · rw [if_pos q24] at hB
              exact ev_ls (u_X10_expression_335 hk39 l0 S22 hl0 hB) (And.intro rfl trivial)
            · rw [if_neg q24] at hB
              refine ev_aload_n dX10_expression_328 rfl ?_
              obtain ⟨S26, e27, hB⟩ := bv_of hB
              refine es_callVv (As := []) (t_X10_closes hl0 e27) dX10_expression_329 oX10_closes w_1851 rfl hl0 rfl rfl (Nat.le_of_ble_eq_true rfl) rfl (am_fit.of (by decide)) ⟨Nat.zero_le _, Nat.zero_le _⟩ ?_
              refine ev_goto 337 dX10_expression_332 (by decide) ?_
              exact ev_ls (u_X10_expression_337 hk39 l0 l3 S26 hl0 hB) (And.intro rfl (And.intro rfl trivial))
        · rw [if_neg q16] at hB
          exact ev_ls (u_X10_expression_274 hk39 l0 l3 S14 hl0 hB) (And.intro rfl (And.intro rfl trivial))
    · rw [if_neg q8] at hB
      exact ev_ls (u_X10_expression_219 hk39 l0 l3 S6 hl0 hB) (And.intro rfl (And.intro rfl trivial))
theorem u_X10_expression_142 {G : am_G} {N : Nat} {h0 : am_H} {out : am_S} {k39 : Nat → Int32 → am_S → Option (am_S)} (hk39 : ∀ (l0 : Nat) (l3 : Int32) (S : am_S), isC 10 l0 = true → k39 l0 l3 S = some out → Ev G (am_R 6 0 0) (am_Φ G h0 0 0 (q_v out) q_n) mX10_expression 0 0 39 [some (.ref l0), none, none, some (.int l3), none] [] (hp S)) (l0 : Nat) (l3 : Int32) (S : am_S) (hl0 : isC 10 l0 = true) (hB : b_X10_expression_142 N k39 l0 l3 S = some out) : Ev G (am_R 6 0 0) (am_Φ G h0 0 0 (q_v out) q_n) mX10_expression 0 0 142 [some (.ref l0), none, none, some (.int l3), none] [] (hp S) := by
  unfold b_X10_expression_142 at hB
  refine ev_aload_n dX10_expression_142 rfl ?_
  refine es_getr k_10 45 dX10_expression_143 (by decide) rfl (Or.inl w_1570) hl0 rfl ?_
  refine ev_aload_n dX10_expression_146 rfl ?_
  refine es_geti k_10 36 dX10_expression_147 (by decide) rfl (Or.inl w_1561) hl0 rfl ?_
  obtain ⟨c1, hB⟩ := ck_of hB
  refine es_zald dX10_expression_150 (tr_10_45 hl0) c1 ?_
  refine ev_ifne 201 dX10_expression_151 (by decide) (fun q2 => ?_) (fun q2 => ?_)
  · rw [if_neg q2] at hB
    exact ev_ls (u_X10_expression_201 hk39 l0 l3 S hl0 hB) (And.intro rfl (And.intro rfl trivial))
  · rw [if_pos q2] at hB
    refine ev_aload_n dX10_expression_154 rfl ?_
    refine ev_iconst 4 dX10_expression_155 (by decide) ?_
    obtain ⟨S4, e5, hB⟩ := bv_of hB
    refine es_callVv (As := [.int 4]) (t_X10_drops hl0 e5) dX10_expression_156 oX10_drops w_1837 rfl hl0 rfl rfl (Nat.le_of_ble_eq_true rfl) rfl (am_fit.of (by decide)) ⟨Nat.zero_le _, Nat.zero_le _⟩ ?_
    refine ev_aload_n dX10_expression_159 rfl ?_
    refine ev_aload_n dX10_expression_160 rfl ?_
    refine ev_bipush 60 dX10_expression_161 (by decide) ?_
    obtain ⟨r6, S7, e8, hB⟩ := bd_of hB
    refine es_callVi (As := [.int 60]) (t_X10_isSign hl0 e8) dX10_expression_163 oX10_isSign w_1817 rfl hl0 rfl rfl (Nat.le_of_ble_eq_true rfl) rfl (am_fit.of (by decide)) ⟨Nat.zero_le _, Nat.zero_le _⟩ ?_
    refine ev_ifeq 174 dX10_expression_166 (by decide) (fun q9 => ?_) (fun q9 => ?_)
    · rw [if_pos q9] at hB
      refine ev_bipush 7 dX10_expression_174 (by decide) ?_
      exact ev_ls (u_X10_expression_176 hk39 l0 l3 l0 7 S7 hl0 hl0 hB) (And.intro rfl (And.intro rfl trivial))
    · rw [if_neg q9] at hB
      refine ev_bipush 6 dX10_expression_169 (by decide) ?_
      refine ev_goto 176 dX10_expression_171 (by decide) ?_
      exact ev_ls (u_X10_expression_176 hk39 l0 l3 l0 6 S7 hl0 hl0 hB) (And.intro rfl (And.intro rfl trivial))
theorem u_X10_expression_360 {G : am_G} {N : Nat} {h0 : am_H} {out : am_S} (l0 : Nat) (S : am_S) (hl0 : isC 10 l0 = true) (hB : b_X10_expression_360 N l0 S = some out) : Ev G (am_R 6 0 0) (am_Φ G h0 0 0 (q_v out) q_n) mX10_expression 0 0 360 [some (.ref l0), none, none, none, none] [] (hp S) := by
  unfold b_X10_expression_360 at hB
  refine ev_aload_n dX10_expression_360 rfl ?_
  refine ev_iconst 0 dX10_expression_361 (by decide) ?_
  obtain ⟨S2, e3, hB⟩ := bv_of hB
  refine es_callVv (As := [.int 0]) (t_X10_drops hl0 e3) dX10_expression_362 oX10_drops w_1837 rfl hl0 rfl rfl (Nat.le_of_ble_eq_true rfl) rfl (am_fit.of (by decide)) ⟨Nat.zero_le _, Nat.zero_le _⟩ ?_
  refine ev_aload_n dX10_expression_365 rfl ?_
  refine ev_iconst 0 dX10_expression_366 (by decide) ?_
  obtain ⟨S5, e6, hB⟩ := bv_of hB
  refine es_callVv (As := [.int 0]) (t_X10_puts hl0 e6) dX10_expression_367 oX10_puts w_1833 rfl hl0 rfl rfl (Nat.le_of_ble_eq_true rfl) rfl (am_fit.of (by decide)) ⟨Nat.zero_le _, Nat.zero_le _⟩ ?_
  obtain rfl := Option.some.inj hB
  exact ev_vret dX10_expression_370 rfl (Nat.zero_le _) (Nat.zero_le _) (fun z => absurd z (hp_sealed _)) ⟨rfl, rfl⟩
theorem u_X10_expression_340 {G : am_G} {N : Nat} {h0 : am_H} {out : am_S} (l0 : Nat) (S : am_S) (hl0 : isC 10 l0 = true) (hB : b_X10_expression_340 N l0 S = some out) : Ev G (am_R 6 0 0) (am_Φ G h0 0 0 (q_v out) q_n) mX10_expression 0 0 340 [some (.ref l0), none, none, none, none] [] (hp S) := by
  unfold b_X10_expression_340 at hB
  refine ev_aload_n dX10_expression_340 rfl ?_
  obtain ⟨r1, S2, e3, hB⟩ := bd_of hB
  refine es_callVi (As := []) (t_X10_isGood hl0 e3) dX10_expression_341 oX10_isGood w_1762 rfl hl0 rfl rfl (Nat.le_of_ble_eq_true rfl) rfl (am_fit.of (by decide)) ⟨Nat.zero_le _, Nat.zero_le _⟩ ?_
  refine ev_ifeq 360 dX10_expression_344 (by decide) (fun q4 => ?_) (fun q4 => ?_)
  · rw [if_pos q4] at hB
    exact ev_ls (u_X10_expression_360 l0 S2 hl0 hB) (And.intro rfl trivial)
  · rw [if_neg q4] at hB
    refine ev_aload_n dX10_expression_347 rfl ?_
    refine es_geti k_10 36 dX10_expression_348 (by decide) rfl (Or.inl w_1561) hl0 rfl ?_
    refine ev_iconst 1 dX10_expression_351 (by decide) ?_
    refine ev_icmple 360 dX10_expression_352 (by decide) (fun q5 => ?_) (fun q5 => ?_)
    · rw [if_pos q5] at hB
      exact ev_ls (u_X10_expression_360 l0 S2 hl0 hB) (And.intro rfl trivial)
    · rw [if_neg q5] at hB
      refine ev_aload_n dX10_expression_355 rfl ?_
      refine ev_iconst 1 dX10_expression_356 (by decide) ?_
      obtain ⟨S7, e8, hB⟩ := bv_of hB
      refine es_callVv (As := [.int 1]) (t_X10_wrong hl0 e8) dX10_expression_357 oX10_wrong w_1785 rfl hl0 rfl rfl (Nat.le_of_ble_eq_true rfl) rfl (am_fit.of (by decide)) ⟨Nat.zero_le _, Nat.zero_le _⟩ ?_
      exact ev_ls (u_X10_expression_360 l0 S7 hl0 hB) (And.intro rfl trivial)
theorem u_X10_expression_39 {G : am_G} {N : Nat} {h0 : am_H} {out : am_S} : ∀ (n : Nat) (l0 : Nat) (l3 : Int32) (S : am_S), isC 10 l0 = true → b_X10_expression_39 N n l0 l3 S = some out → Ev G (am_R 6 0 0) (am_Φ G h0 0 0 (q_v out) q_n) mX10_expression 0 0 39 [some (.ref l0), none, none, some (.int l3), none] [] (hp S) := by
  intro n
  induction n with
  | zero =>
    intro l0 l3 S hl0 hB
    exact absurd (show none = some out from hB) (fun q => by cases q)
  | succ n ih =>
    intro l0 l3 S hl0 hB
    unfold b_X10_expression_39 at hB
    refine ev_iload_n dX10_expression_39 rfl ?_
    refine ev_ifeq 340 dX10_expression_40 (by decide) (fun q1 => ?_) (fun q1 => ?_)
    · rw [if_pos q1] at hB
      exact ev_ls (u_X10_expression_340 l0 S hl0 hB) (And.intro rfl trivial)
    · rw [if_neg q1] at hB
      refine ev_aload_n dX10_expression_43 rfl ?_
      obtain ⟨r2, S3, e4, hB⟩ := bd_of hB
      refine es_callVi (As := []) (t_X10_isGood hl0 e4) dX10_expression_44 oX10_isGood w_1762 rfl hl0 rfl rfl (Nat.le_of_ble_eq_true rfl) rfl (am_fit.of (by decide)) ⟨Nat.zero_le _, Nat.zero_le _⟩ ?_
      refine ev_ifeq 340 dX10_expression_47 (by decide) (fun q5 => ?_) (fun q5 => ?_)
      · rw [if_pos q5] at hB
        exact ev_ls (u_X10_expression_340 l0 S3 hl0 hB) (And.intro rfl trivial)
      · rw [if_neg q5] at hB
        refine ev_aload_n dX10_expression_50 rfl ?_
        obtain ⟨r6, S7, e8, hB⟩ := bd_of hB
        refine es_callVi (As := []) (t_X10_knownWord hl0 e8) dX10_expression_51 oX10_knownWord w_1770 rfl hl0 rfl rfl (Nat.le_of_ble_eq_true rfl) rfl (am_fit.of (by decide)) ⟨Nat.zero_le _, Nat.zero_le _⟩ ?_
        refine ev_istore dX10_expression_54 (by decide) rfl ?_
        refine ev_iload dX10_expression_56 rfl ?_
        refine ev_bipush 15 dX10_expression_58 (by decide) ?_
        refine ev_icmpeq 70 dX10_expression_60 (by decide) (fun q9 => ?_) (fun q9 => ?_)
        · rw [if_pos q9] at hB
          exact ev_ls (u_X10_expression_70 ih l0 l3 r6 S7 hl0 hB) (And.intro rfl (And.intro rfl (And.intro rfl trivial)))
        · rw [if_neg q9] at hB
          refine ev_iload dX10_expression_63 rfl ?_
          refine ev_bipush 16 dX10_expression_65 (by decide) ?_
          refine ev_icmpne 124 dX10_expression_67 (by decide) (fun q10 => ?_) (fun q10 => ?_)
          · rw [if_neg q10] at hB
            refine ev_aload_n dX10_expression_124 rfl ?_
            refine ev_bipush 60 dX10_expression_125 (by decide) ?_
            obtain ⟨r11, S12, e13, hB⟩ := bd_of hB
            refine es_callVi (As := [.int 60]) (t_X10_isSign hl0 e13) dX10_expression_127 oX10_isSign w_1817 rfl hl0 rfl rfl (Nat.le_of_ble_eq_true rfl) rfl (am_fit.of (by decide)) ⟨Nat.zero_le _, Nat.zero_le _⟩ ?_
            refine ev_ifne 142 dX10_expression_130 (by decide) (fun q14 => ?_) (fun q14 => ?_)
            · rw [if_neg q14] at hB
              exact ev_ls (u_X10_expression_142 ih l0 l3 S12 hl0 hB) (And.intro rfl (And.intro rfl trivial))
            · rw [if_pos q14] at hB
              refine ev_aload_n dX10_expression_133 rfl ?_
              refine ev_bipush 61 dX10_expression_134 (by decide) ?_
              obtain ⟨r15, S16, e17, hB⟩ := bd_of hB
              refine es_callVi (As := [.int 61]) (t_X10_isSign hl0 e17) dX10_expression_136 oX10_isSign w_1817 rfl hl0 rfl rfl (Nat.le_of_ble_eq_true rfl) rfl (am_fit.of (by decide)) ⟨Nat.zero_le _, Nat.zero_le _⟩ ?_
              refine ev_ifeq 201 dX10_expression_139 (by decide) (fun q18 => ?_) (fun q18 => ?_)
              · rw [if_pos q18] at hB
                exact ev_ls (u_X10_expression_201 ih l0 l3 S16 hl0 hB) (And.intro rfl (And.intro rfl trivial))
              · rw [if_neg q18] at hB
                exact ev_ls (u_X10_expression_142 ih l0 l3 S16 hl0 hB) (And.intro rfl (And.intro rfl trivial))
          · rw [if_pos q10] at hB
            exact ev_ls (u_X10_expression_70 ih l0 l3 r6 S7 hl0 hB) (And.intro rfl (And.intro rfl (And.intro rfl trivial)))
theorem t_X10_expression {G : am_G} {N : Nat} {l0 : Nat} {l1 : Int32} {l2 : Int32} {S : am_S} {out : am_S} (hl0 : isC 10 l0 = true) (hB : f_X10_expression N l0 l1 l2 S = some out) : am_Met G 6 mX10_expression 0 0 [.ref l0, .int l1, .int l2] (hp S) (q_v out) q_n := by
  refine am_of (by decide +kernel) rfl rfl rfl (Nat.le_of_ble_eq_true rfl) ?_
  unfold f_X10_expression at hB
  refine ev_aload_n dX10_expression_0 rfl ?_
  obtain ⟨r1, S2, e3, hB⟩ := bd_of hB
  refine es_callVi (As := []) (t_X10_isGood hl0 e3) dX10_expression_1 oX10_isGood w_1762 rfl hl0 rfl rfl (Nat.le_of_ble_eq_true rfl) rfl (am_fit.of (by decide)) ⟨Nat.zero_le _, Nat.zero_le _⟩ ?_
  refine ev_ifne 8 dX10_expression_4 (by decide) (fun q4 => ?_) (fun q4 => ?_)
  · rw [if_neg q4] at hB
    refine ev_aload_n dX10_expression_8 rfl ?_
    refine ev_iload_n dX10_expression_9 rfl ?_
    refine es_puti k_10 33 dX10_expression_10 (by decide) rfl (Or.inl w_1558) rfl rfl hl0 rfl ?_
    refine ev_aload_n dX10_expression_13 rfl ?_
    refine ev_iload_n dX10_expression_14 rfl ?_
    refine es_puti k_10 34 dX10_expression_15 (by decide) rfl (Or.inl w_1559) rfl rfl hl0 rfl ?_
    refine ev_aload_n dX10_expression_18 rfl ?_
    refine ev_iconst 0 dX10_expression_19 (by decide) ?_
    refine es_puti k_10 35 dX10_expression_20 (by decide) rfl (Or.inl w_1560) rfl rfl hl0 rfl ?_
    refine ev_aload_n dX10_expression_23 rfl ?_
    refine ev_iconst 0 dX10_expression_24 (by decide) ?_
    refine es_puti k_10 36 dX10_expression_25 (by decide) rfl (Or.inl w_1561) rfl rfl hl0 rfl ?_
    refine ev_aload_n dX10_expression_28 rfl ?_
    obtain ⟨S6, e7, hB⟩ := bv_of hB
    refine es_callVv (As := []) (t_X10_deeper hl0 e7) dX10_expression_29 oX10_deeper w_1813 rfl hl0 rfl rfl (Nat.le_of_ble_eq_true rfl) rfl (am_fit.of (by decide)) ⟨Nat.zero_le _, Nat.zero_le _⟩ ?_
    refine ev_aload_n dX10_expression_32 rfl ?_
    refine ev_iconst 1 dX10_expression_33 (by decide) ?_
    obtain ⟨S9, e10, hB⟩ := bv_of hB
    refine es_callVv (As := [.int 1]) (t_X10_operand hl0 e10) dX10_expression_34 oX10_operand w_1821 rfl hl0 rfl rfl (Nat.le_of_ble_eq_true rfl) rfl (am_fit.of (by decide)) ⟨Nat.zero_le _, Nat.zero_le _⟩ ?_
    refine ev_iconst 1 dX10_expression_37 (by decide) ?_
    refine ev_istore_n dX10_expression_38 (by decide) rfl ?_
    exact ev_ls (u_X10_expression_39 N l0 1 S9 hl0 hB) (And.intro rfl (And.intro rfl trivial))
  · rw [if_pos q4] at hB
    obtain rfl := Option.some.inj hB
    exact ev_vret dX10_expression_7 rfl (Nat.zero_le _) (Nat.zero_le _) (fun z => absurd z (hp_sealed _)) ⟨rfl, rfl⟩
def b_X10_begins_18 (N : Nat) (l0 : Nat) (S : am_S) : Option (Int32 × am_S) := (bd (f_X10_isGood N l0 S) (fun r1 S2 => (if r1 = 0 then some (0, S2) else (bv (f_X10_goes N l0 S2) (fun S6 => some (1, S6))))))
def b_X10_begins_9 (N : Nat) (l0 : Nat) (l2 : Int32) (S : am_S) : Option (Int32 × am_S) := (if l2 = 0 then b_X10_begins_18 N l0 S else (bv (f_X10_wrong N l0 5 S) (fun S3 => b_X10_begins_18 N l0 S3)))
def f_X10_begins (N : Nat) (l0 : Nat) (l1 : Int32) (l2 : Int32) (S : am_S) : Option (Int32 × am_S) := (if l1 = 0 then b_X10_begins_9 N l0 l2 S else (bv (f_X10_wrong N l0 2 S) (fun S3 => b_X10_begins_9 N l0 l2 S3)))
theorem u_X10_begins_18 {G : am_G} {N : Nat} {h0 : am_H} {out : Int32 × am_S} (l0 : Nat) (S : am_S) (hl0 : isC 10 l0 = true) (hB : b_X10_begins_18 N l0 S = some out) : Ev G (am_R 3 0 0) (am_Φ G h0 0 0 (q_i out) q_n) mX10_begins 0 0 18 [some (.ref l0), none, none] [] (hp S) := by
  unfold b_X10_begins_18 at hB
  refine ev_aload_n dX10_begins_18 rfl ?_
  obtain ⟨r1, S2, e3, hB⟩ := bd_of hB
  refine es_callVi (As := []) (t_X10_isGood hl0 e3) dX10_begins_19 oX10_isGood w_1762 rfl hl0 rfl rfl (Nat.le_of_ble_eq_true rfl) rfl (am_fit.of (by decide)) ⟨Nat.zero_le _, Nat.zero_le _⟩ ?_
  refine ev_ifne 27 dX10_begins_22 (by decide) (fun q4 => ?_) (fun q4 => ?_)
  · rw [if_neg q4] at hB
    refine ev_aload_n dX10_begins_27 rfl ?_
    obtain ⟨S6, e7, hB⟩ := bv_of hB
    refine es_callVv (As := []) (t_X10_goes hl0 e7) dX10_begins_28 oX10_goes w_1748 rfl hl0 rfl rfl (Nat.le_of_ble_eq_true rfl) rfl (am_fit.of (by decide)) ⟨Nat.zero_le _, Nat.zero_le _⟩ ?_
    refine ev_iconst 1 dX10_begins_31 (by decide) ?_
    obtain rfl := Option.some.inj hB
    exact ev_zret dX10_begins_32 rfl (by rfl) (Nat.zero_le _) (Nat.zero_le _) (fun z => absurd z (hp_sealed _)) ⟨rfl, rfl⟩
  · rw [if_pos q4] at hB
    refine ev_iconst 0 dX10_begins_25 (by decide) ?_
    obtain rfl := Option.some.inj hB
    exact ev_zret dX10_begins_26 rfl (by rfl) (Nat.zero_le _) (Nat.zero_le _) (fun z => absurd z (hp_sealed _)) ⟨rfl, rfl⟩
theorem u_X10_begins_9 {G : am_G} {N : Nat} {h0 : am_H} {out : Int32 × am_S} (l0 : Nat) (l2 : Int32) (S : am_S) (hl0 : isC 10 l0 = true) (hB : b_X10_begins_9 N l0 l2 S = some out) : Ev G (am_R 3 0 0) (am_Φ G h0 0 0 (q_i out) q_n) mX10_begins 0 0 9 [some (.ref l0), none, some (.int l2)] [] (hp S) := by
  unfold b_X10_begins_9 at hB
  refine ev_iload_n dX10_begins_9 rfl ?_
  refine ev_ifeq 18 dX10_begins_10 (by decide) (fun q1 => ?_) (fun q1 => ?_)
  · rw [if_pos q1] at hB
    exact ev_ls (u_X10_begins_18 l0 S hl0 hB) (And.intro rfl trivial)
  · rw [if_neg q1] at hB
    refine ev_aload_n dX10_begins_13 rfl ?_
    refine ev_iconst 5 dX10_begins_14 (by decide) ?_
    obtain ⟨S3, e4, hB⟩ := bv_of hB
    refine es_callVv (As := [.int 5]) (t_X10_wrong hl0 e4) dX10_begins_15 oX10_wrong w_1785 rfl hl0 rfl rfl (Nat.le_of_ble_eq_true rfl) rfl (am_fit.of (by decide)) ⟨Nat.zero_le _, Nat.zero_le _⟩ ?_
    exact ev_ls (u_X10_begins_18 l0 S3 hl0 hB) (And.intro rfl trivial)
theorem t_X10_begins {G : am_G} {N : Nat} {l0 : Nat} {l1 : Int32} {l2 : Int32} {S : am_S} {out : Int32 × am_S} (hl0 : isC 10 l0 = true) (hB : f_X10_begins N l0 l1 l2 S = some out) : am_Met G 3 mX10_begins 0 0 [.ref l0, .int l1, .int l2] (hp S) (q_i out) q_n := by
  refine am_of (by decide +kernel) rfl rfl rfl (Nat.le_of_ble_eq_true rfl) ?_
  unfold f_X10_begins at hB
  refine ev_iload_n dX10_begins_0 rfl ?_
  refine ev_ifeq 9 dX10_begins_1 (by decide) (fun q1 => ?_) (fun q1 => ?_)
  · rw [if_pos q1] at hB
    exact ev_ls (u_X10_begins_9 l0 l2 S hl0 hB) (And.intro rfl (And.intro rfl trivial))
  · rw [if_neg q1] at hB
    refine ev_aload_n dX10_begins_4 rfl ?_
    refine ev_iconst 2 dX10_begins_5 (by decide) ?_
    obtain ⟨S3, e4, hB⟩ := bv_of hB
    refine es_callVv (As := [.int 2]) (t_X10_wrong hl0 e4) dX10_begins_6 oX10_wrong w_1785 rfl hl0 rfl rfl (Nat.le_of_ble_eq_true rfl) rfl (am_fit.of (by decide)) ⟨Nat.zero_le _, Nat.zero_le _⟩ ?_
    exact ev_ls (u_X10_begins_9 l0 l2 S3 hl0 hB) (And.intro rfl (And.intro rfl trivial))
def b_X10_readsBox_51 (N : Nat)  (S : am_S) : Option (am_S) := some S
def f_X10_readsBox (N : Nat) (l0 : Nat) (S : am_S) : Option (am_S) := (bd (f_X10_number N l0 0 30 S) (fun r1 S2 => (if inb (sg S l0 26) (ln (rf l0 37)) = true then (bd (f_X10_number N l0 0 99 (sp S2 (rf l0 37) (Int32.toNatClampNeg (sg S l0 26)) r1)) (fun r5 S6 => (if inb (2 + (sg (sp S2 (rf l0 37) (Int32.toNatClampNeg (sg S l0 26)) r1) l0 26)) (ln (rf l0 42)) = true then (bd (f_X10_isGood N l0 (sp S6 (rf l0 42) (Int32.toNatClampNeg (2 + (sg (sp S2 (rf l0 37) (Int32.toNatClampNeg (sg S l0 26)) r1) l0 26))) r5)) (fun r9 S10 => (if r9 = 0 then b_X10_readsBox_51 N S10 else b_X10_readsBox_51 N (sp S10 l0 26 ((sg S10 l0 26) + 1))))) else none))) else none)))
theorem u_X10_readsBox_51 {G : am_G} {N : Nat} {h0 : am_H} {out : am_S}  (S : am_S) (hB : b_X10_readsBox_51 N  S = some out) : Ev G (am_R 4 0 0) (am_Φ G h0 0 0 (q_v out) q_n) mX10_readsBox 0 0 51 [none] [] (hp S) := by
  unfold b_X10_readsBox_51 at hB
  obtain rfl := Option.some.inj hB
  exact ev_vret dX10_readsBox_51 rfl (Nat.zero_le _) (Nat.zero_le _) (fun z => absurd z (hp_sealed _)) ⟨rfl, rfl⟩
theorem t_X10_readsBox {G : am_G} {N : Nat} {l0 : Nat} {S : am_S} {out : am_S} (hl0 : isC 10 l0 = true) (hB : f_X10_readsBox N l0 S = some out) : am_Met G 4 mX10_readsBox 0 0 [.ref l0] (hp S) (q_v out) q_n := by
  refine am_of (by decide +kernel) rfl rfl rfl (Nat.le_of_ble_eq_true rfl) ?_
  unfold f_X10_readsBox at hB
  refine ev_aload_n dX10_readsBox_0 rfl ?_
  refine es_getr k_10 37 dX10_readsBox_1 (by decide) rfl (Or.inl w_1562) hl0 rfl ?_
  refine ev_aload_n dX10_readsBox_4 rfl ?_
  refine es_geti k_10 26 dX10_readsBox_5 (by decide) rfl (Or.inl w_1551) hl0 rfl ?_
  refine ev_aload_n dX10_readsBox_8 rfl ?_
  refine ev_iconst 0 dX10_readsBox_9 (by decide) ?_
  refine ev_bipush 30 dX10_readsBox_10 (by decide) ?_
  obtain ⟨r1, S2, e3, hB⟩ := bd_of hB
  refine es_callVi (As := [.int 0, .int 30]) (t_X10_number hl0 e3) dX10_readsBox_12 oX10_number w_1793 rfl hl0 rfl rfl (Nat.le_of_ble_eq_true rfl) rfl (am_fit.of (by decide)) ⟨Nat.zero_le _, Nat.zero_le _⟩ ?_
  obtain ⟨c4, hB⟩ := ck_of hB
  refine es_iast dX10_readsBox_15 (tr_10_37 hl0) c4 ?_
  refine ev_aload_n dX10_readsBox_16 rfl ?_
  refine es_getr k_10 42 dX10_readsBox_17 (by decide) rfl (Or.inl w_1567) hl0 rfl ?_
  refine ev_iconst 2 dX10_readsBox_20 (by decide) ?_
  refine ev_aload_n dX10_readsBox_21 rfl ?_
  refine es_geti k_10 26 dX10_readsBox_22 (by decide) rfl (Or.inl w_1551) hl0 rfl ?_
  refine ev_iadd dX10_readsBox_25 ?_
  refine ev_aload_n dX10_readsBox_26 rfl ?_
  refine ev_iconst 0 dX10_readsBox_27 (by decide) ?_
  refine ev_bipush 99 dX10_readsBox_28 (by decide) ?_
  obtain ⟨r5, S6, e7, hB⟩ := bd_of hB
  refine es_callVi (As := [.int 0, .int 99]) (t_X10_number hl0 e7) dX10_readsBox_30 oX10_number w_1793 rfl hl0 rfl rfl (Nat.le_of_ble_eq_true rfl) rfl (am_fit.of (by decide)) ⟨Nat.zero_le _, Nat.zero_le _⟩ ?_
  obtain ⟨c8, hB⟩ := ck_of hB
  refine es_iast dX10_readsBox_33 (tr_10_42 hl0) c8 ?_
  refine ev_aload_n dX10_readsBox_34 rfl ?_
  obtain ⟨r9, S10, e11, hB⟩ := bd_of hB
  refine es_callVi (As := []) (t_X10_isGood hl0 e11) dX10_readsBox_35 oX10_isGood w_1762 rfl hl0 rfl rfl (Nat.le_of_ble_eq_true rfl) rfl (am_fit.of (by decide)) ⟨Nat.zero_le _, Nat.zero_le _⟩ ?_
  refine ev_ifeq 51 dX10_readsBox_38 (by decide) (fun q12 => ?_) (fun q12 => ?_)
  · rw [if_pos q12] at hB
    exact ev_ls (u_X10_readsBox_51 S10 hB) trivial
  · rw [if_neg q12] at hB
    refine ev_aload_n dX10_readsBox_41 rfl ?_
    refine ev_dup dX10_readsBox_42 rfl ?_
    refine es_geti k_10 26 dX10_readsBox_43 (by decide) rfl (Or.inl w_1551) hl0 rfl ?_
    refine ev_iconst 1 dX10_readsBox_46 (by decide) ?_
    refine ev_iadd dX10_readsBox_47 ?_
    refine es_puti k_10 26 dX10_readsBox_48 (by decide) rfl (Or.inl w_1551) rfl rfl hl0 rfl ?_
    exact ev_ls (u_X10_readsBox_51 (sp S10 l0 26 ((sg S10 l0 26) + 1)) hB) trivial
def b_X10_readsPerson_123 (N : Nat)  (S : am_S) : Option (am_S) := some S
def b_X10_readsPerson_106 (N : Nat) (l0 : Nat) (S : am_S) : Option (am_S) := (bd (f_X10_isGood N l0 S) (fun r1 S2 => (if r1 = 0 then b_X10_readsPerson_123 N S2 else b_X10_readsPerson_123 N (sp S2 l0 27 ((sg S2 l0 27) + 1)))))
def b_X10_readsPerson_90 (N : Nat) (l0 : Nat) (l1 : Int32) (S : am_S) : Option (am_S) := (bd (f_X10_number N l0 0 7 S) (fun r1 S2 => (if inb (72 + l1) (ln (rf l0 42)) = true then b_X10_readsPerson_106 N l0 (sp S2 (rf l0 42) (Int32.toNatClampNeg (72 + l1)) r1) else none)))
def f_X10_readsPerson (N : Nat) (l0 : Nat) (S : am_S) : Option (am_S) := (bd (f_X10_number N l0 0 30 S) (fun r1 S2 => (if inb (sg S l0 27) (ln (rf l0 38)) = true then (bd (f_X10_number N l0 0 9 (sp S2 (rf l0 38) (Int32.toNatClampNeg (sg S l0 27)) r1)) (fun r5 S6 => (if inb (sg S l0 27) (ln (rf l0 39)) = true then (if inb (72 + (sg S l0 27)) (ln (rf l0 42)) = true then (bd (f_X10_isGood N l0 (sp (sp S6 (rf l0 39) (Int32.toNatClampNeg (sg S l0 27)) r5) (rf l0 42) (Int32.toNatClampNeg (72 + (sg S l0 27))) (-1))) (fun r10 S11 => (if r10 = 0 then b_X10_readsPerson_106 N l0 S11 else (bd (f_X10_knownWord N l0 S11) (fun r14 S15 => (if r14 = 11 then (bv (f_X10_goes N l0 S15) (fun S19 => (if (sg S19 l0 20) = 2 then (if 4 < (sg S19 l0 22) then b_X10_readsPerson_90 N l0 (sg S l0 27) S19 else (if (sg S19 l0 23) = (sg S l0 27) then (bv (f_X10_wrong N l0 4 S19) (fun S25 => b_X10_readsPerson_90 N l0 (sg S l0 27) S25)) else b_X10_readsPerson_90 N l0 (sg S l0 27) S19)) else b_X10_readsPerson_90 N l0 (sg S l0 27) S19))) else b_X10_readsPerson_106 N l0 S15)))))) else none) else none))) else none)))
theorem u_X10_readsPerson_123 {G : am_G} {N : Nat} {h0 : am_H} {out : am_S}  (S : am_S) (hB : b_X10_readsPerson_123 N  S = some out) : Ev G (am_R 4 0 0) (am_Φ G h0 0 0 (q_v out) q_n) mX10_readsPerson 0 0 123 [none, none] [] (hp S) := by
  unfold b_X10_readsPerson_123 at hB
  obtain rfl := Option.some.inj hB
  exact ev_vret dX10_readsPerson_123 rfl (Nat.zero_le _) (Nat.zero_le _) (fun z => absurd z (hp_sealed _)) ⟨rfl, rfl⟩
theorem u_X10_readsPerson_106 {G : am_G} {N : Nat} {h0 : am_H} {out : am_S} (l0 : Nat) (S : am_S) (hl0 : isC 10 l0 = true) (hB : b_X10_readsPerson_106 N l0 S = some out) : Ev G (am_R 4 0 0) (am_Φ G h0 0 0 (q_v out) q_n) mX10_readsPerson 0 0 106 [some (.ref l0), none] [] (hp S) := by
  unfold b_X10_readsPerson_106 at hB
  refine ev_aload_n dX10_readsPerson_106 rfl ?_
  obtain ⟨r1, S2, e3, hB⟩ := bd_of hB
  refine es_callVi (As := []) (t_X10_isGood hl0 e3) dX10_readsPerson_107 oX10_isGood w_1762 rfl hl0 rfl rfl (Nat.le_of_ble_eq_true rfl) rfl (am_fit.of (by decide)) ⟨Nat.zero_le _, Nat.zero_le _⟩ ?_
  refine ev_ifeq 123 dX10_readsPerson_110 (by decide) (fun q4 => ?_) (fun q4 => ?_)
  · rw [if_pos q4] at hB
    exact ev_ls (u_X10_readsPerson_123 S2 hB) trivial
  · rw [if_neg q4] at hB
    refine ev_aload_n dX10_readsPerson_113 rfl ?_
    refine ev_dup dX10_readsPerson_114 rfl ?_
    refine es_geti k_10 27 dX10_readsPerson_115 (by decide) rfl (Or.inl w_1552) hl0 rfl ?_
    refine ev_iconst 1 dX10_readsPerson_118 (by decide) ?_
    refine ev_iadd dX10_readsPerson_119 ?_
    refine es_puti k_10 27 dX10_readsPerson_120 (by decide) rfl (Or.inl w_1552) rfl rfl hl0 rfl ?_
    exact ev_ls (u_X10_readsPerson_123 (sp S2 l0 27 ((sg S2 l0 27) + 1)) hB) trivial
theorem u_X10_readsPerson_90 {G : am_G} {N : Nat} {h0 : am_H} {out : am_S} (l0 : Nat) (l1 : Int32) (S : am_S) (hl0 : isC 10 l0 = true) (hB : b_X10_readsPerson_90 N l0 l1 S = some out) : Ev G (am_R 4 0 0) (am_Φ G h0 0 0 (q_v out) q_n) mX10_readsPerson 0 0 90 [some (.ref l0), some (.int l1)] [] (hp S) := by
  unfold b_X10_readsPerson_90 at hB
  refine ev_aload_n dX10_readsPerson_90 rfl ?_
  refine es_getr k_10 42 dX10_readsPerson_91 (by decide) rfl (Or.inl w_1567) hl0 rfl ?_
  refine ev_bipush 72 dX10_readsPerson_94 (by decide) ?_
  refine ev_iload_n dX10_readsPerson_96 rfl ?_
  refine ev_iadd dX10_readsPerson_97 ?_
  refine ev_aload_n dX10_readsPerson_98 rfl ?_
  refine ev_iconst 0 dX10_readsPerson_99 (by decide) ?_
  refine ev_bipush 7 dX10_readsPerson_100 (by decide) ?_
  obtain ⟨r1, S2, e3, hB⟩ := bd_of hB
  refine es_callVi (As := [.int 0, .int 7]) (t_X10_number hl0 e3) dX10_readsPerson_102 oX10_number w_1793 rfl hl0 rfl rfl (Nat.le_of_ble_eq_true rfl) rfl (am_fit.of (by decide)) ⟨Nat.zero_le _, Nat.zero_le _⟩ ?_
  obtain ⟨c4, hB⟩ := ck_of hB
  refine es_iast dX10_readsPerson_105 (tr_10_42 hl0) c4 ?_
  exact ev_ls (u_X10_readsPerson_106 l0 (sp S2 (rf l0 42) (Int32.toNatClampNeg (72 + l1)) r1) hl0 hB) (And.intro rfl trivial)
theorem t_X10_readsPerson {G : am_G} {N : Nat} {l0 : Nat} {S : am_S} {out : am_S} (hl0 : isC 10 l0 = true) (hB : f_X10_readsPerson N l0 S = some out) : am_Met G 4 mX10_readsPerson 0 0 [.ref l0] (hp S) (q_v out) q_n := by
  refine am_of (by decide +kernel) rfl rfl rfl (Nat.le_of_ble_eq_true rfl) ?_
  unfold f_X10_readsPerson at hB
  refine ev_aload_n dX10_readsPerson_0 rfl ?_
  refine es_geti k_10 27 dX10_readsPerson_1 (by decide) rfl (Or.inl w_1552) hl0 rfl ?_
  refine ev_istore_n dX10_readsPerson_4 (by decide) rfl ?_
  refine ev_aload_n dX10_readsPerson_5 rfl ?_
  refine es_getr k_10 38 dX10_readsPerson_6 (by decide) rfl (Or.inl w_1563) hl0 rfl ?_
  refine ev_iload_n dX10_readsPerson_9 rfl ?_
  refine ev_aload_n dX10_readsPerson_10 rfl ?_
  refine ev_iconst 0 dX10_readsPerson_11 (by decide) ?_
  refine ev_bipush 30 dX10_readsPerson_12 (by decide) ?_
  obtain ⟨r1, S2, e3, hB⟩ := bd_of hB
  refine es_callVi (As := [.int 0, .int 30]) (t_X10_number hl0 e3) dX10_readsPerson_14 oX10_number w_1793 rfl hl0 rfl rfl (Nat.le_of_ble_eq_true rfl) rfl (am_fit.of (by decide)) ⟨Nat.zero_le _, Nat.zero_le _⟩ ?_
  obtain ⟨c4, hB⟩ := ck_of hB
  refine es_iast dX10_readsPerson_17 (tr_10_38 hl0) c4 ?_
  refine ev_aload_n dX10_readsPerson_18 rfl ?_
  refine es_getr k_10 39 dX10_readsPerson_19 (by decide) rfl (Or.inl w_1564) hl0 rfl ?_
  refine ev_iload_n dX10_readsPerson_22 rfl ?_
  refine ev_aload_n dX10_readsPerson_23 rfl ?_
  refine ev_iconst 0 dX10_readsPerson_24 (by decide) ?_
  refine ev_bipush 9 dX10_readsPerson_25 (by decide) ?_
  obtain ⟨r5, S6, e7, hB⟩ := bd_of hB
  refine es_callVi (As := [.int 0, .int 9]) (t_X10_number hl0 e7) dX10_readsPerson_27 oX10_number w_1793 rfl hl0 rfl rfl (Nat.le_of_ble_eq_true rfl) rfl (am_fit.of (by decide)) ⟨Nat.zero_le _, Nat.zero_le _⟩ ?_
  obtain ⟨c8, hB⟩ := ck_of hB
  refine es_iast dX10_readsPerson_30 (tr_10_39 hl0) c8 ?_
  refine ev_aload_n dX10_readsPerson_31 rfl ?_
  refine es_getr k_10 42 dX10_readsPerson_32 (by decide) rfl (Or.inl w_1567) hl0 rfl ?_
  refine ev_bipush 72 dX10_readsPerson_35 (by decide) ?_
  refine ev_iload_n dX10_readsPerson_37 rfl ?_
  refine ev_iadd dX10_readsPerson_38 ?_
  refine ev_iconst (-1) dX10_readsPerson_39 (by decide) ?_
  obtain ⟨c9, hB⟩ := ck_of hB
  refine es_iast dX10_readsPerson_40 (tr_10_42 hl0) c9 ?_
  refine ev_aload_n dX10_readsPerson_41 rfl ?_
  obtain ⟨r10, S11, e12, hB⟩ := bd_of hB
  refine es_callVi (As := []) (t_X10_isGood hl0 e12) dX10_readsPerson_42 oX10_isGood w_1762 rfl hl0 rfl rfl (Nat.le_of_ble_eq_true rfl) rfl (am_fit.of (by decide)) ⟨Nat.zero_le _, Nat.zero_le _⟩ ?_
  refine ev_ifeq 106 dX10_readsPerson_45 (by decide) (fun q13 => ?_) (fun q13 => ?_)
  · rw [if_pos q13] at hB
    exact ev_ls (u_X10_readsPerson_106 l0 S11 hl0 hB) (And.intro rfl trivial)
  · rw [if_neg q13] at hB
    refine ev_aload_n dX10_readsPerson_48 rfl ?_
    obtain ⟨r14, S15, e16, hB⟩ := bd_of hB
    refine es_callVi (As := []) (t_X10_knownWord hl0 e16) dX10_readsPerson_49 oX10_knownWord w_1770 rfl hl0 rfl rfl (Nat.le_of_ble_eq_true rfl) rfl (am_fit.of (by decide)) ⟨Nat.zero_le _, Nat.zero_le _⟩ ?_
    refine ev_bipush 11 dX10_readsPerson_52 (by decide) ?_
    refine ev_icmpne 106 dX10_readsPerson_54 (by decide) (fun q17 => ?_) (fun q17 => ?_)
    · rw [if_neg q17] at hB
      exact ev_ls (u_X10_readsPerson_106 l0 S15 hl0 hB) (And.intro rfl trivial)
    · rw [if_pos q17] at hB
      refine ev_aload_n dX10_readsPerson_57 rfl ?_
      obtain ⟨S19, e20, hB⟩ := bv_of hB
      refine es_callVv (As := []) (t_X10_goes hl0 e20) dX10_readsPerson_58 oX10_goes w_1748 rfl hl0 rfl rfl (Nat.le_of_ble_eq_true rfl) rfl (am_fit.of (by decide)) ⟨Nat.zero_le _, Nat.zero_le _⟩ ?_
      refine ev_aload_n dX10_readsPerson_61 rfl ?_
      refine es_geti k_10 20 dX10_readsPerson_62 (by decide) rfl (Or.inl w_1545) hl0 rfl ?_
      refine ev_iconst 2 dX10_readsPerson_65 (by decide) ?_
      refine ev_icmpne 90 dX10_readsPerson_66 (by decide) (fun q21 => ?_) (fun q21 => ?_)
      · rw [if_neg q21] at hB
        exact ev_ls (u_X10_readsPerson_90 l0 (sg S l0 27) S19 hl0 hB) (And.intro rfl (And.intro rfl trivial))
      · rw [if_pos q21] at hB
        refine ev_aload_n dX10_readsPerson_69 rfl ?_
        refine es_geti k_10 22 dX10_readsPerson_70 (by decide) rfl (Or.inl w_1547) hl0 rfl ?_
        refine ev_iconst 4 dX10_readsPerson_73 (by decide) ?_
        refine ev_icmpgt 90 dX10_readsPerson_74 (by decide) (fun q22 => ?_) (fun q22 => ?_)
        · rw [if_pos q22] at hB
          exact ev_ls (u_X10_readsPerson_90 l0 (sg S l0 27) S19 hl0 hB) (And.intro rfl (And.intro rfl trivial))
        · rw [if_neg q22] at hB
          refine ev_aload_n dX10_readsPerson_77 rfl ?_
          refine es_geti k_10 23 dX10_readsPerson_78 (by decide) rfl (Or.inl w_1548) hl0 rfl ?_
          refine ev_iload_n dX10_readsPerson_81 rfl ?_
          refine ev_icmpne 90 dX10_readsPerson_82 (by decide) (fun q23 => ?_) (fun q23 => ?_)
          · rw [if_neg q23] at hB
            exact ev_ls (u_X10_readsPerson_90 l0 (sg S l0 27) S19 hl0 hB) (And.intro rfl (And.intro rfl trivial))
          · rw [if_pos q23] at hB
            refine ev_aload_n dX10_readsPerson_85 rfl ?_
            refine ev_iconst 4 dX10_readsPerson_86 (by decide) ?_
            obtain ⟨S25, e26, hB⟩ := bv_of hB
            refine es_callVv (As := [.int 4]) (t_X10_wrong hl0 e26) dX10_readsPerson_87 oX10_wrong w_1785 rfl hl0 rfl rfl (Nat.le_of_ble_eq_true rfl) rfl (am_fit.of (by decide)) ⟨Nat.zero_le _, Nat.zero_le _⟩ ?_
            exact ev_ls (u_X10_readsPerson_90 l0 (sg S l0 27) S25 hl0 hB) (And.intro rfl (And.intro rfl trivial))
def b_X10_readsRound_118 (N : Nat) (k2 : Nat → Int32 → am_S → Option (am_S)) (l0 : Nat) (z0 : Int32) (S : am_S) : Option (am_S) := k2 l0 z0 S
def b_X10_readsRound_70 (N : Nat) (k2 : Nat → Int32 → am_S → Option (am_S)) (l0 : Nat) (S : am_S) : Option (am_S) := (bd (f_X10_isGood N l0 S) (fun r1 S2 => (if r1 = 0 then some S2 else (if inb (sg S2 l0 28) (ln (rf l0 40)) = true then (bv (f_X10_goes N l0 (sp (sp S2 (rf l0 40) (Int32.toNatClampNeg (sg S2 l0 28)) (sg S2 l0 23)) l0 28 ((sg (sp S2 (rf l0 40) (Int32.toNatClampNeg (sg S2 l0 28)) (sg S2 l0 23)) l0 28) + 1))) (fun S7 => (if (sg S7 l0 20) = 2 then b_X10_readsRound_118 N (k2) l0 1 S7 else b_X10_readsRound_118 N (k2) l0 0 S7))) else none))))
def b_X10_readsRound_46 (N : Nat) (k2 : Nat → Int32 → am_S → Option (am_S)) (l0 : Nat) (S : am_S) : Option (am_S) := (bv (f_X10_wrong N l0 2 S) (fun S2 => b_X10_readsRound_70 N (k2) l0 S2))
def b_X10_readsRound_122 (N : Nat)  (S : am_S) : Option (am_S) := some S
def b_X10_readsRound_2 (N : Nat) : Nat → Nat → Int32 → am_S → Option (am_S)
  | 0, _, _, _ => none
  | n + 1, l0, l1, S => (if l1 = 0 then b_X10_readsRound_122 N S else (bd (f_X10_isGood N l0 S) (fun r2 S3 => (if r2 = 0 then b_X10_readsRound_122 N S3 else (if (sg S3 l0 20) = 2 then (if (sg S3 l0 28) = 8 then b_X10_readsRound_46 N (b_X10_readsRound_2 N n) l0 S3 else (if (sg S3 l0 22) ≤ 4 then (if (sg S3 l0 23) < (sg S3 l0 26) then b_X10_readsRound_70 N (b_X10_readsRound_2 N n) l0 S3 else (bv (f_X10_wrong N l0 3 S3) (fun S11 => b_X10_readsRound_70 N (b_X10_readsRound_2 N n) l0 S11))) else b_X10_readsRound_46 N (b_X10_readsRound_2 N n) l0 S3)) else (bv (f_X10_wrong N l0 1 S3) (fun S14 => b_X10_readsRound_70 N (b_X10_readsRound_2 N n) l0 S14)))))))
def f_X10_readsRound (N : Nat) (l0 : Nat) (S : am_S) : Option (am_S) := b_X10_readsRound_2 N N l0 1 S
theorem u_X10_readsRound_118 {G : am_G} {N : Nat} {h0 : am_H} {out : am_S} {k2 : Nat → Int32 → am_S → Option (am_S)} (hk2 : ∀ (l0 : Nat) (l1 : Int32) (S : am_S), isC 10 l0 = true → k2 l0 l1 S = some out → Ev G (am_R 3 0 0) (am_Φ G h0 0 0 (q_v out) q_n) mX10_readsRound 0 0 2 [some (.ref l0), some (.int l1)] [] (hp S)) (l0 : Nat) (z0 : Int32) (S : am_S) (hl0 : isC 10 l0 = true) (hB : b_X10_readsRound_118 N k2 l0 z0 S = some out) : Ev G (am_R 3 0 0) (am_Φ G h0 0 0 (q_v out) q_n) mX10_readsRound 0 0 118 [some (.ref l0), none] [.int z0] (hp S) := by
  unfold b_X10_readsRound_118 at hB
  refine ev_istore_n dX10_readsRound_118 (by decide) rfl ?_
  refine ev_goto 2 dX10_readsRound_119 (by decide) ?_
  exact ev_ls (hk2 l0 z0 S hl0 hB) (And.intro rfl (And.intro rfl trivial))
theorem u_X10_readsRound_70 {G : am_G} {N : Nat} {h0 : am_H} {out : am_S} {k2 : Nat → Int32 → am_S → Option (am_S)} (hk2 : ∀ (l0 : Nat) (l1 : Int32) (S : am_S), isC 10 l0 = true → k2 l0 l1 S = some out → Ev G (am_R 3 0 0) (am_Φ G h0 0 0 (q_v out) q_n) mX10_readsRound 0 0 2 [some (.ref l0), some (.int l1)] [] (hp S)) (l0 : Nat) (S : am_S) (hl0 : isC 10 l0 = true) (hB : b_X10_readsRound_70 N k2 l0 S = some out) : Ev G (am_R 3 0 0) (am_Φ G h0 0 0 (q_v out) q_n) mX10_readsRound 0 0 70 [some (.ref l0), none] [] (hp S) := by
  unfold b_X10_readsRound_70 at hB
  refine ev_aload_n dX10_readsRound_70 rfl ?_
  obtain ⟨r1, S2, e3, hB⟩ := bd_of hB
  refine es_callVi (As := []) (t_X10_isGood hl0 e3) dX10_readsRound_71 oX10_isGood w_1762 rfl hl0 rfl rfl (Nat.le_of_ble_eq_true rfl) rfl (am_fit.of (by decide)) ⟨Nat.zero_le _, Nat.zero_le _⟩ ?_
  refine ev_ifne 78 dX10_readsRound_74 (by decide) (fun q4 => ?_) (fun q4 => ?_)
  · rw [if_neg q4] at hB
    refine ev_aload_n dX10_readsRound_78 rfl ?_
    refine es_getr k_10 40 dX10_readsRound_79 (by decide) rfl (Or.inl w_1565) hl0 rfl ?_
    refine ev_aload_n dX10_readsRound_82 rfl ?_
    refine es_geti k_10 28 dX10_readsRound_83 (by decide) rfl (Or.inl w_1553) hl0 rfl ?_
    refine ev_aload_n dX10_readsRound_86 rfl ?_
    refine es_geti k_10 23 dX10_readsRound_87 (by decide) rfl (Or.inl w_1548) hl0 rfl ?_
    obtain ⟨c5, hB⟩ := ck_of hB
    refine es_iast dX10_readsRound_90 (tr_10_40 hl0) c5 ?_
    refine ev_aload_n dX10_readsRound_91 rfl ?_
    refine ev_dup dX10_readsRound_92 rfl ?_
    refine es_geti k_10 28 dX10_readsRound_93 (by decide) rfl (Or.inl w_1553) hl0 rfl ?_
    refine ev_iconst 1 dX10_readsRound_96 (by decide) ?_
    refine ev_iadd dX10_readsRound_97 ?_
    refine es_puti k_10 28 dX10_readsRound_98 (by decide) rfl (Or.inl w_1553) rfl rfl hl0 rfl ?_
    refine ev_aload_n dX10_readsRound_101 rfl ?_
    obtain ⟨S7, e8, hB⟩ := bv_of hB
    refine es_callVv (As := []) (t_X10_goes hl0 e8) dX10_readsRound_102 oX10_goes w_1748 rfl hl0 rfl rfl (Nat.le_of_ble_eq_true rfl) rfl (am_fit.of (by decide)) ⟨Nat.zero_le _, Nat.zero_le _⟩ ?_
    refine ev_aload_n dX10_readsRound_105 rfl ?_
    refine es_geti k_10 20 dX10_readsRound_106 (by decide) rfl (Or.inl w_1545) hl0 rfl ?_
    refine ev_iconst 2 dX10_readsRound_109 (by decide) ?_
    refine ev_icmpne 117 dX10_readsRound_110 (by decide) (fun q9 => ?_) (fun q9 => ?_)
    · rw [if_neg q9] at hB
      refine ev_iconst 0 dX10_readsRound_117 (by decide) ?_
      exact ev_ls (u_X10_readsRound_118 hk2 l0 0 S7 hl0 hB) (And.intro rfl trivial)
    · rw [if_pos q9] at hB
      refine ev_iconst 1 dX10_readsRound_113 (by decide) ?_
      refine ev_goto 118 dX10_readsRound_114 (by decide) ?_
      exact ev_ls (u_X10_readsRound_118 hk2 l0 1 S7 hl0 hB) (And.intro rfl trivial)
  · rw [if_pos q4] at hB
    obtain rfl := Option.some.inj hB
    exact ev_vret dX10_readsRound_77 rfl (Nat.zero_le _) (Nat.zero_le _) (fun z => absurd z (hp_sealed _)) ⟨rfl, rfl⟩
theorem u_X10_readsRound_46 {G : am_G} {N : Nat} {h0 : am_H} {out : am_S} {k2 : Nat → Int32 → am_S → Option (am_S)} (hk2 : ∀ (l0 : Nat) (l1 : Int32) (S : am_S), isC 10 l0 = true → k2 l0 l1 S = some out → Ev G (am_R 3 0 0) (am_Φ G h0 0 0 (q_v out) q_n) mX10_readsRound 0 0 2 [some (.ref l0), some (.int l1)] [] (hp S)) (l0 : Nat) (S : am_S) (hl0 : isC 10 l0 = true) (hB : b_X10_readsRound_46 N k2 l0 S = some out) : Ev G (am_R 3 0 0) (am_Φ G h0 0 0 (q_v out) q_n) mX10_readsRound 0 0 46 [some (.ref l0), none] [] (hp S) := by
  unfold b_X10_readsRound_46 at hB
  refine ev_aload_n dX10_readsRound_46 rfl ?_
  refine ev_iconst 2 dX10_readsRound_47 (by decide) ?_
  obtain ⟨S2, e3, hB⟩ := bv_of hB
  refine es_callVv (As := [.int 2]) (t_X10_wrong hl0 e3) dX10_readsRound_48 oX10_wrong w_1785 rfl hl0 rfl rfl (Nat.le_of_ble_eq_true rfl) rfl (am_fit.of (by decide)) ⟨Nat.zero_le _, Nat.zero_le _⟩ ?_
  refine ev_goto 70 dX10_readsRound_51 (by decide) ?_
  exact ev_ls (u_X10_readsRound_70 hk2 l0 S2 hl0 hB) (And.intro rfl trivial)
theorem u_X10_readsRound_122 {G : am_G} {N : Nat} {h0 : am_H} {out : am_S}  (S : am_S) (hB : b_X10_readsRound_122 N  S = some out) : Ev G (am_R 3 0 0) (am_Φ G h0 0 0 (q_v out) q_n) mX10_readsRound 0 0 122 [none, none] [] (hp S) := by
  unfold b_X10_readsRound_122 at hB
  obtain rfl := Option.some.inj hB
  exact ev_vret dX10_readsRound_122 rfl (Nat.zero_le _) (Nat.zero_le _) (fun z => absurd z (hp_sealed _)) ⟨rfl, rfl⟩
theorem u_X10_readsRound_2 {G : am_G} {N : Nat} {h0 : am_H} {out : am_S} : ∀ (n : Nat) (l0 : Nat) (l1 : Int32) (S : am_S), isC 10 l0 = true → b_X10_readsRound_2 N n l0 l1 S = some out → Ev G (am_R 3 0 0) (am_Φ G h0 0 0 (q_v out) q_n) mX10_readsRound 0 0 2 [some (.ref l0), some (.int l1)] [] (hp S) := by
  intro n
  induction n with
  | zero =>
    intro l0 l1 S hl0 hB
    exact absurd (show none = some out from hB) (fun q => by cases q)
  | succ n ih =>
    intro l0 l1 S hl0 hB
    unfold b_X10_readsRound_2 at hB
    refine ev_iload_n dX10_readsRound_2 rfl ?_
    refine ev_ifeq 122 dX10_readsRound_3 (by decide) (fun q1 => ?_) (fun q1 => ?_)
    · rw [if_pos q1] at hB
      exact ev_ls (u_X10_readsRound_122 S hB) trivial
    · rw [if_neg q1] at hB
      refine ev_aload_n dX10_readsRound_6 rfl ?_
      obtain ⟨r2, S3, e4, hB⟩ := bd_of hB
      refine es_callVi (As := []) (t_X10_isGood hl0 e4) dX10_readsRound_7 oX10_isGood w_1762 rfl hl0 rfl rfl (Nat.le_of_ble_eq_true rfl) rfl (am_fit.of (by decide)) ⟨Nat.zero_le _, Nat.zero_le _⟩ ?_
      refine ev_ifeq 122 dX10_readsRound_10 (by decide) (fun q5 => ?_) (fun q5 => ?_)
      · rw [if_pos q5] at hB
        exact ev_ls (u_X10_readsRound_122 S3 hB) trivial
      · rw [if_neg q5] at hB
        refine ev_aload_n dX10_readsRound_13 rfl ?_
        refine es_geti k_10 20 dX10_readsRound_14 (by decide) rfl (Or.inl w_1545) hl0 rfl ?_
        refine ev_iconst 2 dX10_readsRound_17 (by decide) ?_
        refine ev_icmpeq 29 dX10_readsRound_18 (by decide) (fun q6 => ?_) (fun q6 => ?_)
        · rw [if_pos q6] at hB
          refine ev_aload_n dX10_readsRound_29 rfl ?_
          refine es_geti k_10 28 dX10_readsRound_30 (by decide) rfl (Or.inl w_1553) hl0 rfl ?_
          refine ev_bipush 8 dX10_readsRound_33 (by decide) ?_
          refine ev_icmpeq 46 dX10_readsRound_35 (by decide) (fun q7 => ?_) (fun q7 => ?_)
          · rw [if_pos q7] at hB
            exact ev_ls (u_X10_readsRound_46 ih l0 S3 hl0 hB) (And.intro rfl trivial)
          · rw [if_neg q7] at hB
            refine ev_aload_n dX10_readsRound_38 rfl ?_
            refine es_geti k_10 22 dX10_readsRound_39 (by decide) rfl (Or.inl w_1547) hl0 rfl ?_
            refine ev_iconst 4 dX10_readsRound_42 (by decide) ?_
            refine ev_icmple 54 dX10_readsRound_43 (by decide) (fun q8 => ?_) (fun q8 => ?_)
            · rw [if_pos q8] at hB
              refine ev_aload_n dX10_readsRound_54 rfl ?_
              refine es_geti k_10 23 dX10_readsRound_55 (by decide) rfl (Or.inl w_1548) hl0 rfl ?_
              refine ev_aload_n dX10_readsRound_58 rfl ?_
              refine es_geti k_10 26 dX10_readsRound_59 (by decide) rfl (Or.inl w_1551) hl0 rfl ?_
              refine ev_icmplt 70 dX10_readsRound_62 (by decide) (fun q9 => ?_) (fun q9 => ?_)
              · rw [if_pos q9] at hB
                exact ev_ls (u_X10_readsRound_70 ih l0 S3 hl0 hB) (And.intro rfl trivial)
              · rw [if_neg q9] at hB
                refine ev_aload_n dX10_readsRound_65 rfl ?_
                refine ev_iconst 3 dX10_readsRound_66 (by decide) ?_
                obtain ⟨S11, e12, hB⟩ := bv_of hB
                refine es_callVv (As := [.int 3]) (t_X10_wrong hl0 e12) dX10_readsRound_67 oX10_wrong w_1785 rfl hl0 rfl rfl (Nat.le_of_ble_eq_true rfl) rfl (am_fit.of (by decide)) ⟨Nat.zero_le _, Nat.zero_le _⟩ ?_
                exact ev_ls (u_X10_readsRound_70 ih l0 S11 hl0 hB) (And.intro rfl trivial)
            · rw [if_neg q8] at hB
              exact ev_ls (u_X10_readsRound_46 ih l0 S3 hl0 hB) (And.intro rfl trivial)
        · rw [if_neg q6] at hB
          refine ev_aload_n dX10_readsRound_21 rfl ?_
          refine ev_iconst 1 dX10_readsRound_22 (by decide) ?_
          obtain ⟨S14, e15, hB⟩ := bv_of hB
          refine es_callVv (As := [.int 1]) (t_X10_wrong hl0 e15) dX10_readsRound_23 oX10_wrong w_1785 rfl hl0 rfl rfl (Nat.le_of_ble_eq_true rfl) rfl (am_fit.of (by decide)) ⟨Nat.zero_le _, Nat.zero_le _⟩ ?_
          refine ev_goto 70 dX10_readsRound_26 (by decide) ?_
          exact ev_ls (u_X10_readsRound_70 ih l0 S14 hl0 hB) (And.intro rfl trivial)
theorem t_X10_readsRound {G : am_G} {N : Nat} {l0 : Nat} {S : am_S} {out : am_S} (hl0 : isC 10 l0 = true) (hB : f_X10_readsRound N l0 S = some out) : am_Met G 3 mX10_readsRound 0 0 [.ref l0] (hp S) (q_v out) q_n := by
  refine am_of (by decide +kernel) rfl rfl rfl (Nat.le_of_ble_eq_true rfl) ?_
  unfold f_X10_readsRound at hB
  refine ev_iconst 1 dX10_readsRound_0 (by decide) ?_
  refine ev_istore_n dX10_readsRound_1 (by decide) rfl ?_
  exact ev_ls (u_X10_readsRound_2 N l0 1 S hl0 hB) (And.intro rfl (And.intro rfl trivial))
def b_X10_readsWet_84 (N : Nat) (k2 : Nat → Int32 → am_S → Option (am_S)) (l0 : Nat) (z0 : Int32) (S : am_S) : Option (am_S) := k2 l0 z0 S
def b_X10_readsWet_35 (N : Nat) (k2 : Nat → Int32 → am_S → Option (am_S)) (l0 : Nat) (S : am_S) : Option (am_S) := (bd (f_X10_number N l0 0 9 S) (fun r1 S2 => (bd (f_X10_isGood N l0 S2) (fun r4 S5 => (if r4 = 0 then some S5 else (if inb (sg S5 l0 29) (ln (rf l0 41)) = true then (if (sg (sp (sp S5 (rf l0 41) (Int32.toNatClampNeg (sg S5 l0 29)) r1) l0 29 ((sg (sp S5 (rf l0 41) (Int32.toNatClampNeg (sg S5 l0 29)) r1) l0 29) + 1)) l0 20) = 2 then b_X10_readsWet_84 N (k2) l0 1 (sp (sp S5 (rf l0 41) (Int32.toNatClampNeg (sg S5 l0 29)) r1) l0 29 ((sg (sp S5 (rf l0 41) (Int32.toNatClampNeg (sg S5 l0 29)) r1) l0 29) + 1)) else b_X10_readsWet_84 N (k2) l0 0 (sp (sp S5 (rf l0 41) (Int32.toNatClampNeg (sg S5 l0 29)) r1) l0 29 ((sg (sp S5 (rf l0 41) (Int32.toNatClampNeg (sg S5 l0 29)) r1) l0 29) + 1))) else none))))))
def b_X10_readsWet_88 (N : Nat)  (S : am_S) : Option (am_S) := some S
def b_X10_readsWet_2 (N : Nat) : Nat → Nat → Int32 → am_S → Option (am_S)
  | 0, _, _, _ => none
  | n + 1, l0, l1, S => (if l1 = 0 then b_X10_readsWet_88 N S else (bd (f_X10_isGood N l0 S) (fun r2 S3 => (if r2 = 0 then b_X10_readsWet_88 N S3 else (if (sg S3 l0 29) = 8 then (if (sg S3 l0 20) = 2 then (bv (f_X10_wrong N l0 2 S3) (fun S9 => b_X10_readsWet_35 N (b_X10_readsWet_2 N n) l0 S9)) else b_X10_readsWet_35 N (b_X10_readsWet_2 N n) l0 S3) else b_X10_readsWet_35 N (b_X10_readsWet_2 N n) l0 S3)))))
def f_X10_readsWet (N : Nat) (l0 : Nat) (S : am_S) : Option (am_S) := b_X10_readsWet_2 N N l0 1 S
theorem u_X10_readsWet_84 {G : am_G} {N : Nat} {h0 : am_H} {out : am_S} {k2 : Nat → Int32 → am_S → Option (am_S)} (hk2 : ∀ (l0 : Nat) (l1 : Int32) (S : am_S), isC 10 l0 = true → k2 l0 l1 S = some out → Ev G (am_R 4 0 0) (am_Φ G h0 0 0 (q_v out) q_n) mX10_readsWet 0 0 2 [some (.ref l0), some (.int l1), none] [] (hp S)) (l0 : Nat) (z0 : Int32) (S : am_S) (hl0 : isC 10 l0 = true) (hB : b_X10_readsWet_84 N k2 l0 z0 S = some out) : Ev G (am_R 4 0 0) (am_Φ G h0 0 0 (q_v out) q_n) mX10_readsWet 0 0 84 [some (.ref l0), none, none] [.int z0] (hp S) := by
  unfold b_X10_readsWet_84 at hB
  refine ev_istore_n dX10_readsWet_84 (by decide) rfl ?_
  refine ev_goto 2 dX10_readsWet_85 (by decide) ?_
  exact ev_ls (hk2 l0 z0 S hl0 hB) (And.intro rfl (And.intro rfl trivial))
theorem u_X10_readsWet_35 {G : am_G} {N : Nat} {h0 : am_H} {out : am_S} {k2 : Nat → Int32 → am_S → Option (am_S)} (hk2 : ∀ (l0 : Nat) (l1 : Int32) (S : am_S), isC 10 l0 = true → k2 l0 l1 S = some out → Ev G (am_R 4 0 0) (am_Φ G h0 0 0 (q_v out) q_n) mX10_readsWet 0 0 2 [some (.ref l0), some (.int l1), none] [] (hp S)) (l0 : Nat) (S : am_S) (hl0 : isC 10 l0 = true) (hB : b_X10_readsWet_35 N k2 l0 S = some out) : Ev G (am_R 4 0 0) (am_Φ G h0 0 0 (q_v out) q_n) mX10_readsWet 0 0 35 [some (.ref l0), none, none] [] (hp S) := by
  unfold b_X10_readsWet_35 at hB
  refine ev_aload_n dX10_readsWet_35 rfl ?_
  refine ev_iconst 0 dX10_readsWet_36 (by decide) ?_
  refine ev_bipush 9 dX10_readsWet_37 (by decide) ?_
  obtain ⟨r1, S2, e3, hB⟩ := bd_of hB
  refine es_callVi (As := [.int 0, .int 9]) (t_X10_number hl0 e3) dX10_readsWet_39 oX10_number w_1793 rfl hl0 rfl rfl (Nat.le_of_ble_eq_true rfl) rfl (am_fit.of (by decide)) ⟨Nat.zero_le _, Nat.zero_le _⟩ ?_
  refine ev_istore_n dX10_readsWet_42 (by decide) rfl ?_
  refine ev_aload_n dX10_readsWet_43 rfl ?_
  obtain ⟨r4, S5, e6, hB⟩ := bd_of hB
  refine es_callVi (As := []) (t_X10_isGood hl0 e6) dX10_readsWet_44 oX10_isGood w_1762 rfl hl0 rfl rfl (Nat.le_of_ble_eq_true rfl) rfl (am_fit.of (by decide)) ⟨Nat.zero_le _, Nat.zero_le _⟩ ?_
  refine ev_ifne 51 dX10_readsWet_47 (by decide) (fun q7 => ?_) (fun q7 => ?_)
  · rw [if_neg q7] at hB
    refine ev_aload_n dX10_readsWet_51 rfl ?_
    refine es_getr k_10 41 dX10_readsWet_52 (by decide) rfl (Or.inl w_1566) hl0 rfl ?_
    refine ev_aload_n dX10_readsWet_55 rfl ?_
    refine es_geti k_10 29 dX10_readsWet_56 (by decide) rfl (Or.inl w_1554) hl0 rfl ?_
    refine ev_iload_n dX10_readsWet_59 rfl ?_
    obtain ⟨c8, hB⟩ := ck_of hB
    refine es_iast dX10_readsWet_60 (tr_10_41 hl0) c8 ?_
    refine ev_aload_n dX10_readsWet_61 rfl ?_
    refine ev_dup dX10_readsWet_62 rfl ?_
    refine es_geti k_10 29 dX10_readsWet_63 (by decide) rfl (Or.inl w_1554) hl0 rfl ?_
    refine ev_iconst 1 dX10_readsWet_66 (by decide) ?_
    refine ev_iadd dX10_readsWet_67 ?_
    refine es_puti k_10 29 dX10_readsWet_68 (by decide) rfl (Or.inl w_1554) rfl rfl hl0 rfl ?_
    refine ev_aload_n dX10_readsWet_71 rfl ?_
    refine es_geti k_10 20 dX10_readsWet_72 (by decide) rfl (Or.inl w_1545) hl0 rfl ?_
    refine ev_iconst 2 dX10_readsWet_75 (by decide) ?_
    refine ev_icmpne 83 dX10_readsWet_76 (by decide) (fun q9 => ?_) (fun q9 => ?_)
    · rw [if_neg q9] at hB
      refine ev_iconst 0 dX10_readsWet_83 (by decide) ?_
      exact ev_ls (u_X10_readsWet_84 hk2 l0 0 (sp (sp S5 (rf l0 41) (Int32.toNatClampNeg (sg S5 l0 29)) r1) l0 29 ((sg (sp S5 (rf l0 41) (Int32.toNatClampNeg (sg S5 l0 29)) r1) l0 29) + 1)) hl0 hB) (And.intro rfl trivial)
    · rw [if_pos q9] at hB
      refine ev_iconst 1 dX10_readsWet_79 (by decide) ?_
      refine ev_goto 84 dX10_readsWet_80 (by decide) ?_
      exact ev_ls (u_X10_readsWet_84 hk2 l0 1 (sp (sp S5 (rf l0 41) (Int32.toNatClampNeg (sg S5 l0 29)) r1) l0 29 ((sg (sp S5 (rf l0 41) (Int32.toNatClampNeg (sg S5 l0 29)) r1) l0 29) + 1)) hl0 hB) (And.intro rfl trivial)
  · rw [if_pos q7] at hB
    obtain rfl := Option.some.inj hB
    exact ev_vret dX10_readsWet_50 rfl (Nat.zero_le _) (Nat.zero_le _) (fun z => absurd z (hp_sealed _)) ⟨rfl, rfl⟩
theorem u_X10_readsWet_88 {G : am_G} {N : Nat} {h0 : am_H} {out : am_S}  (S : am_S) (hB : b_X10_readsWet_88 N  S = some out) : Ev G (am_R 4 0 0) (am_Φ G h0 0 0 (q_v out) q_n) mX10_readsWet 0 0 88 [none, none, none] [] (hp S) := by
  unfold b_X10_readsWet_88 at hB
  obtain rfl := Option.some.inj hB
  exact ev_vret dX10_readsWet_88 rfl (Nat.zero_le _) (Nat.zero_le _) (fun z => absurd z (hp_sealed _)) ⟨rfl, rfl⟩
theorem u_X10_readsWet_2 {G : am_G} {N : Nat} {h0 : am_H} {out : am_S} : ∀ (n : Nat) (l0 : Nat) (l1 : Int32) (S : am_S), isC 10 l0 = true → b_X10_readsWet_2 N n l0 l1 S = some out → Ev G (am_R 4 0 0) (am_Φ G h0 0 0 (q_v out) q_n) mX10_readsWet 0 0 2 [some (.ref l0), some (.int l1), none] [] (hp S) := by
  intro n
  induction n with
  | zero =>
    intro l0 l1 S hl0 hB
    exact absurd (show none = some out from hB) (fun q => by cases q)
  | succ n ih =>
    intro l0 l1 S hl0 hB
    unfold b_X10_readsWet_2 at hB
    refine ev_iload_n dX10_readsWet_2 rfl ?_
    refine ev_ifeq 88 dX10_readsWet_3 (by decide) (fun q1 => ?_) (fun q1 => ?_)
    · rw [if_pos q1] at hB
      exact ev_ls (u_X10_readsWet_88 S hB) trivial
    · rw [if_neg q1] at hB
      refine ev_aload_n dX10_readsWet_6 rfl ?_
      obtain ⟨r2, S3, e4, hB⟩ := bd_of hB
      refine es_callVi (As := []) (t_X10_isGood hl0 e4) dX10_readsWet_7 oX10_isGood w_1762 rfl hl0 rfl rfl (Nat.le_of_ble_eq_true rfl) rfl (am_fit.of (by decide)) ⟨Nat.zero_le _, Nat.zero_le _⟩ ?_
      refine ev_ifeq 88 dX10_readsWet_10 (by decide) (fun q5 => ?_) (fun q5 => ?_)
      · rw [if_pos q5] at hB
        exact ev_ls (u_X10_readsWet_88 S3 hB) trivial
      · rw [if_neg q5] at hB
        refine ev_aload_n dX10_readsWet_13 rfl ?_
        refine es_geti k_10 29 dX10_readsWet_14 (by decide) rfl (Or.inl w_1554) hl0 rfl ?_
        refine ev_bipush 8 dX10_readsWet_17 (by decide) ?_
        refine ev_icmpne 35 dX10_readsWet_19 (by decide) (fun q6 => ?_) (fun q6 => ?_)
        · rw [if_neg q6] at hB
          exact ev_ls (u_X10_readsWet_35 ih l0 S3 hl0 hB) (And.intro rfl trivial)
        · rw [if_pos q6] at hB
          refine ev_aload_n dX10_readsWet_22 rfl ?_
          refine es_geti k_10 20 dX10_readsWet_23 (by decide) rfl (Or.inl w_1545) hl0 rfl ?_
          refine ev_iconst 2 dX10_readsWet_26 (by decide) ?_
          refine ev_icmpne 35 dX10_readsWet_27 (by decide) (fun q7 => ?_) (fun q7 => ?_)
          · rw [if_neg q7] at hB
            exact ev_ls (u_X10_readsWet_35 ih l0 S3 hl0 hB) (And.intro rfl trivial)
          · rw [if_pos q7] at hB
            refine ev_aload_n dX10_readsWet_30 rfl ?_
            refine ev_iconst 2 dX10_readsWet_31 (by decide) ?_
            obtain ⟨S9, e10, hB⟩ := bv_of hB
            refine es_callVv (As := [.int 2]) (t_X10_wrong hl0 e10) dX10_readsWet_32 oX10_wrong w_1785 rfl hl0 rfl rfl (Nat.le_of_ble_eq_true rfl) rfl (am_fit.of (by decide)) ⟨Nat.zero_le _, Nat.zero_le _⟩ ?_
            exact ev_ls (u_X10_readsWet_35 ih l0 S9 hl0 hB) (And.intro rfl trivial)
theorem t_X10_readsWet {G : am_G} {N : Nat} {l0 : Nat} {S : am_S} {out : am_S} (hl0 : isC 10 l0 = true) (hB : f_X10_readsWet N l0 S = some out) : am_Met G 4 mX10_readsWet 0 0 [.ref l0] (hp S) (q_v out) q_n := by
  refine am_of (by decide +kernel) rfl rfl rfl (Nat.le_of_ble_eq_true rfl) ?_
  unfold f_X10_readsWet at hB
  refine ev_iconst 1 dX10_readsWet_0 (by decide) ?_
  refine ev_istore_n dX10_readsWet_1 (by decide) rfl ?_
  exact ev_ls (u_X10_readsWet_2 N l0 1 S hl0 hB) (And.intro rfl (And.intro rfl trivial))
def b_X10_line_235 (N : Nat) (l0 : Nat) (S : am_S) : Option (am_S) := (bd (f_X10_isSign N l0 59 S) (fun r1 S2 => (bv (f_X10_need N l0 r1 S2) (fun S5 => some S5))))
def b_X10_line_26 (N : Nat) (l0 : Nat) (z0 : Nat) (z1 : Int32) (S : am_S) : Option (am_S) := (bd (f_X10_begins N z0 z1 0 S) (fun r1 S2 => (if r1 = 0 then b_X10_line_235 N l0 S2 else (bv (f_X10_readsBox N l0 S2) (fun S6 => b_X10_line_235 N l0 S6)))))
def b_X10_line_61 (N : Nat) (l0 : Nat) (z0 : Nat) (z1 : Int32) (S : am_S) : Option (am_S) := (bd (f_X10_begins N z0 z1 0 S) (fun r1 S2 => (if r1 = 0 then b_X10_line_235 N l0 S2 else (bv (f_X10_readsPerson N l0 S2) (fun S6 => b_X10_line_235 N l0 S6)))))
def b_X10_line_95 (N : Nat) (l0 : Nat) (z0 : Nat) (z1 : Int32) (z2 : Int32) (S : am_S) : Option (am_S) := (bd (f_X10_begins N z0 z1 z2 S) (fun r1 S2 => (if r1 = 0 then b_X10_line_235 N l0 S2 else (bv (f_X10_readsRound N l0 S2) (fun S6 => b_X10_line_235 N l0 S6)))))
def b_X10_line_128 (N : Nat) (l0 : Nat) (z0 : Nat) (z1 : Int32) (z2 : Int32) (S : am_S) : Option (am_S) := (bd (f_X10_begins N z0 z1 z2 S) (fun r1 S2 => (if r1 = 0 then b_X10_line_235 N l0 S2 else (bv (f_X10_readsWet N l0 S2) (fun S6 => b_X10_line_235 N l0 S6)))))
def b_X10_line_162 (N : Nat) (l0 : Nat) (z0 : Nat) (z1 : Int32) (z2 : Int32) (S : am_S) : Option (am_S) := (bd (f_X10_begins N z0 z1 z2 S) (fun r1 S2 => (if r1 = 0 then b_X10_line_235 N l0 S2 else (bv (f_X10_expression N l0 0 5 (sp S2 l0 30 (sg S2 l0 32))) (fun S6 => b_X10_line_235 N l0 S6)))))
def b_X10_line_206 (N : Nat) (l0 : Nat) (z0 : Nat) (z1 : Int32) (z2 : Int32) (S : am_S) : Option (am_S) := (bd (f_X10_begins N z0 z1 z2 S) (fun r1 S2 => (if r1 = 0 then b_X10_line_235 N l0 S2 else (bv (f_X10_expression N l0 4 8 (sp S2 l0 31 (sg S2 l0 32))) (fun S6 => b_X10_line_235 N l0 S6)))))
def f_X10_line (N : Nat) (l0 : Nat) (S : am_S) : Option (am_S) := (bd (f_X10_knownWord N l0 S) (fun r1 S2 => (if r1 = 9 then (if (sg S2 l0 26) = 6 then b_X10_line_26 N l0 l0 1 S2 else b_X10_line_26 N l0 l0 0 S2) else (if r1 = 10 then (if (sg S2 l0 27) = 8 then b_X10_line_61 N l0 l0 1 S2 else b_X10_line_61 N l0 l0 0 S2) else (if r1 = 12 then (if (sg S2 l0 28) ≤ 0 then b_X10_line_95 N l0 l0 0 0 S2 else b_X10_line_95 N l0 l0 0 1 S2) else (if r1 = 8 then (if (sg S2 l0 29) ≤ 0 then b_X10_line_128 N l0 l0 0 0 S2 else b_X10_line_128 N l0 l0 0 1 S2) else (if r1 = 13 then (if (sg S2 l0 30) = (-1) then b_X10_line_162 N l0 l0 0 0 S2 else b_X10_line_162 N l0 l0 0 1 S2) else (if r1 = 14 then (if (sg S2 l0 31) = (-1) then b_X10_line_206 N l0 l0 0 0 S2 else b_X10_line_206 N l0 l0 0 1 S2) else (bv (f_X10_wrong N l0 1 S2) (fun S11 => b_X10_line_235 N l0 S11))))))))))
theorem u_X10_line_235 {G : am_G} {N : Nat} {h0 : am_H} {out : am_S} (l0 : Nat) (S : am_S) (hl0 : isC 10 l0 = true) (hB : b_X10_line_235 N l0 S = some out) : Ev G (am_R 7 0 0) (am_Φ G h0 0 0 (q_v out) q_n) mX10_line 0 0 235 [some (.ref l0), none] [] (hp S) := by
  unfold b_X10_line_235 at hB
  refine ev_aload_n dX10_line_235 rfl ?_
  refine ev_aload_n dX10_line_236 rfl ?_
  refine ev_bipush 59 dX10_line_237 (by decide) ?_
  obtain ⟨r1, S2, e3, hB⟩ := bd_of hB
  refine es_callVi (As := [.int 59]) (t_X10_isSign hl0 e3) dX10_line_239 oX10_isSign w_1817 rfl hl0 rfl rfl (Nat.le_of_ble_eq_true rfl) rfl (am_fit.of (by decide)) ⟨Nat.zero_le _, Nat.zero_le _⟩ ?_
  obtain ⟨S5, e6, hB⟩ := bv_of hB
  refine es_callVv (As := [.int r1]) (t_X10_need hl0 e6) dX10_line_242 oX10_need w_1855 rfl hl0 rfl rfl (Nat.le_of_ble_eq_true rfl) rfl (am_fit.of (by decide)) ⟨Nat.zero_le _, Nat.zero_le _⟩ ?_
  obtain rfl := Option.some.inj hB
  exact ev_vret dX10_line_245 rfl (Nat.zero_le _) (Nat.zero_le _) (fun z => absurd z (hp_sealed _)) ⟨rfl, rfl⟩
theorem u_X10_line_26 {G : am_G} {N : Nat} {h0 : am_H} {out : am_S} (l0 : Nat) (z0 : Nat) (z1 : Int32) (S : am_S) (hl0 : isC 10 l0 = true) (hz0 : isC 10 z0 = true) (hB : b_X10_line_26 N l0 z0 z1 S = some out) : Ev G (am_R 7 0 0) (am_Φ G h0 0 0 (q_v out) q_n) mX10_line 0 0 26 [some (.ref l0), none] [.int z1, .ref z0] (hp S) := by
  unfold b_X10_line_26 at hB
  refine ev_iconst 0 dX10_line_26 (by decide) ?_
  obtain ⟨r1, S2, e3, hB⟩ := bd_of hB
  refine es_callVi (As := [.int z1, .int 0]) (t_X10_begins hz0 e3) dX10_line_27 oX10_begins w_1781 rfl hz0 rfl rfl (Nat.le_of_ble_eq_true rfl) rfl (am_fit.of (by decide)) ⟨Nat.zero_le _, Nat.zero_le _⟩ ?_
  refine ev_ifeq 235 dX10_line_30 (by decide) (fun q4 => ?_) (fun q4 => ?_)
  · rw [if_pos q4] at hB
    exact ev_ls (u_X10_line_235 l0 S2 hl0 hB) (And.intro rfl trivial)
  · rw [if_neg q4] at hB
    refine ev_aload_n dX10_line_33 rfl ?_
    obtain ⟨S6, e7, hB⟩ := bv_of hB
    refine es_callVv (As := []) (t_X10_readsBox hl0 e7) dX10_line_34 oX10_readsBox w_1789 rfl hl0 rfl rfl (Nat.le_of_ble_eq_true rfl) rfl (am_fit.of (by decide)) ⟨Nat.zero_le _, Nat.zero_le _⟩ ?_
    refine ev_goto 235 dX10_line_37 (by decide) ?_
    exact ev_ls (u_X10_line_235 l0 S6 hl0 hB) (And.intro rfl trivial)
theorem u_X10_line_61 {G : am_G} {N : Nat} {h0 : am_H} {out : am_S} (l0 : Nat) (z0 : Nat) (z1 : Int32) (S : am_S) (hl0 : isC 10 l0 = true) (hz0 : isC 10 z0 = true) (hB : b_X10_line_61 N l0 z0 z1 S = some out) : Ev G (am_R 7 0 0) (am_Φ G h0 0 0 (q_v out) q_n) mX10_line 0 0 61 [some (.ref l0), none] [.int z1, .ref z0] (hp S) := by
  unfold b_X10_line_61 at hB
  refine ev_iconst 0 dX10_line_61 (by decide) ?_
  obtain ⟨r1, S2, e3, hB⟩ := bd_of hB
  refine es_callVi (As := [.int z1, .int 0]) (t_X10_begins hz0 e3) dX10_line_62 oX10_begins w_1781 rfl hz0 rfl rfl (Nat.le_of_ble_eq_true rfl) rfl (am_fit.of (by decide)) ⟨Nat.zero_le _, Nat.zero_le _⟩ ?_
  refine ev_ifeq 235 dX10_line_65 (by decide) (fun q4 => ?_) (fun q4 => ?_)
  · rw [if_pos q4] at hB
    exact ev_ls (u_X10_line_235 l0 S2 hl0 hB) (And.intro rfl trivial)
  · rw [if_neg q4] at hB
    refine ev_aload_n dX10_line_68 rfl ?_
    obtain ⟨S6, e7, hB⟩ := bv_of hB
    refine es_callVv (As := []) (t_X10_readsPerson hl0 e7) dX10_line_69 oX10_readsPerson w_1797 rfl hl0 rfl rfl (Nat.le_of_ble_eq_true rfl) rfl (am_fit.of (by decide)) ⟨Nat.zero_le _, Nat.zero_le _⟩ ?_
    refine ev_goto 235 dX10_line_72 (by decide) ?_
    exact ev_ls (u_X10_line_235 l0 S6 hl0 hB) (And.intro rfl trivial)
theorem u_X10_line_95 {G : am_G} {N : Nat} {h0 : am_H} {out : am_S} (l0 : Nat) (z0 : Nat) (z1 : Int32) (z2 : Int32) (S : am_S) (hl0 : isC 10 l0 = true) (hz0 : isC 10 z0 = true) (hB : b_X10_line_95 N l0 z0 z1 z2 S = some out) : Ev G (am_R 7 0 0) (am_Φ G h0 0 0 (q_v out) q_n) mX10_line 0 0 95 [some (.ref l0), none] [.int z2, .int z1, .ref z0] (hp S) := by
  unfold b_X10_line_95 at hB
  obtain ⟨r1, S2, e3, hB⟩ := bd_of hB
  refine es_callVi (As := [.int z1, .int z2]) (t_X10_begins hz0 e3) dX10_line_95 oX10_begins w_1781 rfl hz0 rfl rfl (Nat.le_of_ble_eq_true rfl) rfl (am_fit.of (by decide)) ⟨Nat.zero_le _, Nat.zero_le _⟩ ?_
  refine ev_ifeq 235 dX10_line_98 (by decide) (fun q4 => ?_) (fun q4 => ?_)
  · rw [if_pos q4] at hB
    exact ev_ls (u_X10_line_235 l0 S2 hl0 hB) (And.intro rfl trivial)
  · rw [if_neg q4] at hB
    refine ev_aload_n dX10_line_101 rfl ?_
    obtain ⟨S6, e7, hB⟩ := bv_of hB
    refine es_callVv (As := []) (t_X10_readsRound hl0 e7) dX10_line_102 oX10_readsRound w_1801 rfl hl0 rfl rfl (Nat.le_of_ble_eq_true rfl) rfl (am_fit.of (by decide)) ⟨Nat.zero_le _, Nat.zero_le _⟩ ?_
    refine ev_goto 235 dX10_line_105 (by decide) ?_
    exact ev_ls (u_X10_line_235 l0 S6 hl0 hB) (And.intro rfl trivial)
theorem u_X10_line_128 {G : am_G} {N : Nat} {h0 : am_H} {out : am_S} (l0 : Nat) (z0 : Nat) (z1 : Int32) (z2 : Int32) (S : am_S) (hl0 : isC 10 l0 = true) (hz0 : isC 10 z0 = true) (hB : b_X10_line_128 N l0 z0 z1 z2 S = some out) : Ev G (am_R 7 0 0) (am_Φ G h0 0 0 (q_v out) q_n) mX10_line 0 0 128 [some (.ref l0), none] [.int z2, .int z1, .ref z0] (hp S) := by
  unfold b_X10_line_128 at hB
  obtain ⟨r1, S2, e3, hB⟩ := bd_of hB
  refine es_callVi (As := [.int z1, .int z2]) (t_X10_begins hz0 e3) dX10_line_128 oX10_begins w_1781 rfl hz0 rfl rfl (Nat.le_of_ble_eq_true rfl) rfl (am_fit.of (by decide)) ⟨Nat.zero_le _, Nat.zero_le _⟩ ?_
  refine ev_ifeq 235 dX10_line_131 (by decide) (fun q4 => ?_) (fun q4 => ?_)
  · rw [if_pos q4] at hB
    exact ev_ls (u_X10_line_235 l0 S2 hl0 hB) (And.intro rfl trivial)
  · rw [if_neg q4] at hB
    refine ev_aload_n dX10_line_134 rfl ?_
    obtain ⟨S6, e7, hB⟩ := bv_of hB
    refine es_callVv (As := []) (t_X10_readsWet hl0 e7) dX10_line_135 oX10_readsWet w_1805 rfl hl0 rfl rfl (Nat.le_of_ble_eq_true rfl) rfl (am_fit.of (by decide)) ⟨Nat.zero_le _, Nat.zero_le _⟩ ?_
    refine ev_goto 235 dX10_line_138 (by decide) ?_
    exact ev_ls (u_X10_line_235 l0 S6 hl0 hB) (And.intro rfl trivial)
theorem u_X10_line_162 {G : am_G} {N : Nat} {h0 : am_H} {out : am_S} (l0 : Nat) (z0 : Nat) (z1 : Int32) (z2 : Int32) (S : am_S) (hl0 : isC 10 l0 = true) (hz0 : isC 10 z0 = true) (hB : b_X10_line_162 N l0 z0 z1 z2 S = some out) : Ev G (am_R 7 0 0) (am_Φ G h0 0 0 (q_v out) q_n) mX10_line 0 0 162 [some (.ref l0), none] [.int z2, .int z1, .ref z0] (hp S) := by
  unfold b_X10_line_162 at hB
  obtain ⟨r1, S2, e3, hB⟩ := bd_of hB
  refine es_callVi (As := [.int z1, .int z2]) (t_X10_begins hz0 e3) dX10_line_162 oX10_begins w_1781 rfl hz0 rfl rfl (Nat.le_of_ble_eq_true rfl) rfl (am_fit.of (by decide)) ⟨Nat.zero_le _, Nat.zero_le _⟩ ?_
  refine ev_ifeq 235 dX10_line_165 (by decide) (fun q4 => ?_) (fun q4 => ?_)
  · rw [if_pos q4] at hB
    exact ev_ls (u_X10_line_235 l0 S2 hl0 hB) (And.intro rfl trivial)
  · rw [if_neg q4] at hB
    refine ev_aload_n dX10_line_168 rfl ?_
    refine ev_aload_n dX10_line_169 rfl ?_
    refine es_geti k_10 32 dX10_line_170 (by decide) rfl (Or.inl w_1557) hl0 rfl ?_
    refine es_puti k_10 30 dX10_line_173 (by decide) rfl (Or.inl w_1555) rfl rfl hl0 rfl ?_
    refine ev_aload_n dX10_line_176 rfl ?_
    refine ev_iconst 0 dX10_line_177 (by decide) ?_
    refine ev_iconst 5 dX10_line_178 (by decide) ?_
    obtain ⟨S6, e7, hB⟩ := bv_of hB
    refine es_callVv (As := [.int 0, .int 5]) (t_X10_expression hl0 e7) dX10_line_179 oX10_expression w_1809 rfl hl0 rfl rfl (Nat.le_of_ble_eq_true rfl) rfl (am_fit.of (by decide)) ⟨Nat.zero_le _, Nat.zero_le _⟩ ?_
    refine ev_goto 235 dX10_line_182 (by decide) ?_
    exact ev_ls (u_X10_line_235 l0 S6 hl0 hB) (And.intro rfl trivial)
theorem u_X10_line_206 {G : am_G} {N : Nat} {h0 : am_H} {out : am_S} (l0 : Nat) (z0 : Nat) (z1 : Int32) (z2 : Int32) (S : am_S) (hl0 : isC 10 l0 = true) (hz0 : isC 10 z0 = true) (hB : b_X10_line_206 N l0 z0 z1 z2 S = some out) : Ev G (am_R 7 0 0) (am_Φ G h0 0 0 (q_v out) q_n) mX10_line 0 0 206 [some (.ref l0), none] [.int z2, .int z1, .ref z0] (hp S) := by
  unfold b_X10_line_206 at hB
  obtain ⟨r1, S2, e3, hB⟩ := bd_of hB
  refine es_callVi (As := [.int z1, .int z2]) (t_X10_begins hz0 e3) dX10_line_206 oX10_begins w_1781 rfl hz0 rfl rfl (Nat.le_of_ble_eq_true rfl) rfl (am_fit.of (by decide)) ⟨Nat.zero_le _, Nat.zero_le _⟩ ?_
  refine ev_ifeq 235 dX10_line_209 (by decide) (fun q4 => ?_) (fun q4 => ?_)
  · rw [if_pos q4] at hB
    exact ev_ls (u_X10_line_235 l0 S2 hl0 hB) (And.intro rfl trivial)
  · rw [if_neg q4] at hB
    refine ev_aload_n dX10_line_212 rfl ?_
    refine ev_aload_n dX10_line_213 rfl ?_
    refine es_geti k_10 32 dX10_line_214 (by decide) rfl (Or.inl w_1557) hl0 rfl ?_
    refine es_puti k_10 31 dX10_line_217 (by decide) rfl (Or.inl w_1556) rfl rfl hl0 rfl ?_
    refine ev_aload_n dX10_line_220 rfl ?_
    refine ev_iconst 4 dX10_line_221 (by decide) ?_
    refine ev_bipush 8 dX10_line_222 (by decide) ?_
    obtain ⟨S6, e7, hB⟩ := bv_of hB
    refine es_callVv (As := [.int 4, .int 8]) (t_X10_expression hl0 e7) dX10_line_224 oX10_expression w_1809 rfl hl0 rfl rfl (Nat.le_of_ble_eq_true rfl) rfl (am_fit.of (by decide)) ⟨Nat.zero_le _, Nat.zero_le _⟩ ?_
    refine ev_goto 235 dX10_line_227 (by decide) ?_
    exact ev_ls (u_X10_line_235 l0 S6 hl0 hB) (And.intro rfl trivial)
theorem t_X10_line {G : am_G} {N : Nat} {l0 : Nat} {S : am_S} {out : am_S} (hl0 : isC 10 l0 = true) (hB : f_X10_line N l0 S = some out) : am_Met G 7 mX10_line 0 0 [.ref l0] (hp S) (q_v out) q_n := by
  refine am_of (by decide +kernel) rfl rfl rfl (Nat.le_of_ble_eq_true rfl) ?_
  unfold f_X10_line at hB
  refine ev_aload_n dX10_line_0 rfl ?_
  obtain ⟨r1, S2, e3, hB⟩ := bd_of hB
  refine es_callVi (As := []) (t_X10_knownWord hl0 e3) dX10_line_1 oX10_knownWord w_1770 rfl hl0 rfl rfl (Nat.le_of_ble_eq_true rfl) rfl (am_fit.of (by decide)) ⟨Nat.zero_le _, Nat.zero_le _⟩ ?_
  refine ev_istore_n dX10_line_4 (by decide) rfl ?_
  refine ev_iload_n dX10_line_5 rfl ?_
  refine ev_bipush 9 dX10_line_6 (by decide) ?_
  refine ev_icmpne 40 dX10_line_8 (by decide) (fun q4 => ?_) (fun q4 => ?_)
  · rw [if_neg q4] at hB
    refine ev_iload_n dX10_line_40 rfl ?_
    refine ev_bipush 10 dX10_line_41 (by decide) ?_
    refine ev_icmpne 75 dX10_line_43 (by decide) (fun q5 => ?_) (fun q5 => ?_)
    · rw [if_neg q5] at hB
      refine ev_iload_n dX10_line_75 rfl ?_
      refine ev_bipush 12 dX10_line_76 (by decide) ?_
      refine ev_icmpne 108 dX10_line_78 (by decide) (fun q6 => ?_) (fun q6 => ?_)
      · rw [if_neg q6] at hB
        refine ev_iload_n dX10_line_108 rfl ?_
        refine ev_bipush 8 dX10_line_109 (by decide) ?_
        refine ev_icmpne 141 dX10_line_111 (by decide) (fun q7 => ?_) (fun q7 => ?_)
        · rw [if_neg q7] at hB
          refine ev_iload_n dX10_line_141 rfl ?_
          refine ev_bipush 13 dX10_line_142 (by decide) ?_
          refine ev_icmpne 185 dX10_line_144 (by decide) (fun q8 => ?_) (fun q8 => ?_)
          · rw [if_neg q8] at hB
            refine ev_iload_n dX10_line_185 rfl ?_
            refine ev_bipush 14 dX10_line_186 (by decide) ?_
            refine ev_icmpne 230 dX10_line_188 (by decide) (fun q9 => ?_) (fun q9 => ?_)
            · rw [if_neg q9] at hB
              refine ev_aload_n dX10_line_230 rfl ?_
              refine ev_iconst 1 dX10_line_231 (by decide) ?_
              obtain ⟨S11, e12, hB⟩ := bv_of hB
              refine es_callVv (As := [.int 1]) (t_X10_wrong hl0 e12) dX10_line_232 oX10_wrong w_1785 rfl hl0 rfl rfl (Nat.le_of_ble_eq_true rfl) rfl (am_fit.of (by decide)) ⟨Nat.zero_le _, Nat.zero_le _⟩ ?_
              exact ev_ls (u_X10_line_235 l0 S11 hl0 hB) (And.intro rfl trivial)
            · rw [if_pos q9] at hB
              refine ev_aload_n dX10_line_191 rfl ?_
              refine ev_iconst 0 dX10_line_192 (by decide) ?_
              refine ev_aload_n dX10_line_193 rfl ?_
              refine es_geti k_10 31 dX10_line_194 (by decide) rfl (Or.inl w_1556) hl0 rfl ?_
              refine ev_iconst (-1) dX10_line_197 (by decide) ?_
              refine ev_icmpeq 205 dX10_line_198 (by decide) (fun q13 => ?_) (fun q13 => ?_)
              · rw [if_pos q13] at hB
                refine ev_iconst 0 dX10_line_205 (by decide) ?_
                exact ev_ls (u_X10_line_206 l0 l0 0 0 S2 hl0 hl0 hB) (And.intro rfl trivial)
              · rw [if_neg q13] at hB
                refine ev_iconst 1 dX10_line_201 (by decide) ?_
                refine ev_goto 206 dX10_line_202 (by decide) ?_
                exact ev_ls (u_X10_line_206 l0 l0 0 1 S2 hl0 hl0 hB) (And.intro rfl trivial)
          · rw [if_pos q8] at hB
            refine ev_aload_n dX10_line_147 rfl ?_
            refine ev_iconst 0 dX10_line_148 (by decide) ?_
            refine ev_aload_n dX10_line_149 rfl ?_
            refine es_geti k_10 30 dX10_line_150 (by decide) rfl (Or.inl w_1555) hl0 rfl ?_
            refine ev_iconst (-1) dX10_line_153 (by decide) ?_
            refine ev_icmpeq 161 dX10_line_154 (by decide) (fun q14 => ?_) (fun q14 => ?_)
            · rw [if_pos q14] at hB
              refine ev_iconst 0 dX10_line_161 (by decide) ?_
              exact ev_ls (u_X10_line_162 l0 l0 0 0 S2 hl0 hl0 hB) (And.intro rfl trivial)
            · rw [if_neg q14] at hB
              refine ev_iconst 1 dX10_line_157 (by decide) ?_
              refine ev_goto 162 dX10_line_158 (by decide) ?_
              exact ev_ls (u_X10_line_162 l0 l0 0 1 S2 hl0 hl0 hB) (And.intro rfl trivial)
        · rw [if_pos q7] at hB
          refine ev_aload_n dX10_line_114 rfl ?_
          refine ev_iconst 0 dX10_line_115 (by decide) ?_
          refine ev_aload_n dX10_line_116 rfl ?_
          refine es_geti k_10 29 dX10_line_117 (by decide) rfl (Or.inl w_1554) hl0 rfl ?_
          refine ev_ifle 127 dX10_line_120 (by decide) (fun q15 => ?_) (fun q15 => ?_)
          · rw [if_pos q15] at hB
            refine ev_iconst 0 dX10_line_127 (by decide) ?_
            exact ev_ls (u_X10_line_128 l0 l0 0 0 S2 hl0 hl0 hB) (And.intro rfl trivial)
          · rw [if_neg q15] at hB
            refine ev_iconst 1 dX10_line_123 (by decide) ?_
            refine ev_goto 128 dX10_line_124 (by decide) ?_
            exact ev_ls (u_X10_line_128 l0 l0 0 1 S2 hl0 hl0 hB) (And.intro rfl trivial)
      · rw [if_pos q6] at hB
        refine ev_aload_n dX10_line_81 rfl ?_
        refine ev_iconst 0 dX10_line_82 (by decide) ?_
        refine ev_aload_n dX10_line_83 rfl ?_
        refine es_geti k_10 28 dX10_line_84 (by decide) rfl (Or.inl w_1553) hl0 rfl ?_
        refine ev_ifle 94 dX10_line_87 (by decide) (fun q16 => ?_) (fun q16 => ?_)
        · rw [if_pos q16] at hB
          refine ev_iconst 0 dX10_line_94 (by decide) ?_
          exact ev_ls (u_X10_line_95 l0 l0 0 0 S2 hl0 hl0 hB) (And.intro rfl trivial)
        · rw [if_neg q16] at hB
          refine ev_iconst 1 dX10_line_90 (by decide) ?_
          refine ev_goto 95 dX10_line_91 (by decide) ?_
          exact ev_ls (u_X10_line_95 l0 l0 0 1 S2 hl0 hl0 hB) (And.intro rfl trivial)
    · rw [if_pos q5] at hB
      refine ev_aload_n dX10_line_46 rfl ?_
      refine ev_aload_n dX10_line_47 rfl ?_
      refine es_geti k_10 27 dX10_line_48 (by decide) rfl (Or.inl w_1552) hl0 rfl ?_
      refine ev_bipush 8 dX10_line_51 (by decide) ?_
      refine ev_icmpne 60 dX10_line_53 (by decide) (fun q17 => ?_) (fun q17 => ?_)
      · rw [if_neg q17] at hB
        refine ev_iconst 0 dX10_line_60 (by decide) ?_
        exact ev_ls (u_X10_line_61 l0 l0 0 S2 hl0 hl0 hB) (And.intro rfl trivial)
      · rw [if_pos q17] at hB
        refine ev_iconst 1 dX10_line_56 (by decide) ?_
        refine ev_goto 61 dX10_line_57 (by decide) ?_
        exact ev_ls (u_X10_line_61 l0 l0 1 S2 hl0 hl0 hB) (And.intro rfl trivial)
  · rw [if_pos q4] at hB
    refine ev_aload_n dX10_line_11 rfl ?_
    refine ev_aload_n dX10_line_12 rfl ?_
    refine es_geti k_10 26 dX10_line_13 (by decide) rfl (Or.inl w_1551) hl0 rfl ?_
    refine ev_bipush 6 dX10_line_16 (by decide) ?_
    refine ev_icmpne 25 dX10_line_18 (by decide) (fun q18 => ?_) (fun q18 => ?_)
    · rw [if_neg q18] at hB
      refine ev_iconst 0 dX10_line_25 (by decide) ?_
      exact ev_ls (u_X10_line_26 l0 l0 0 S2 hl0 hl0 hB) (And.intro rfl trivial)
    · rw [if_pos q18] at hB
      refine ev_iconst 1 dX10_line_21 (by decide) ?_
      refine ev_goto 26 dX10_line_22 (by decide) ?_
      exact ev_ls (u_X10_line_26 l0 l0 1 S2 hl0 hl0 hB) (And.intro rfl trivial)
def b_X10_city_342 (N : Nat) (k308 : Nat → Int32 → am_S → Option (Int32 × am_S)) (l0 : Nat) (l2 : Int32) (S : am_S) : Option (Int32 × am_S) := k308 l0 (l2 + 1) S
def b_X10_city_308 (N : Nat) : Nat → Nat → Int32 → am_S → Option (Int32 × am_S)
  | 0, _, _, _ => none
  | n + 1, l0, l2, S => (if (sg S l0 2) ≤ l2 then some (0, (sp (sp (sp S l0 48 0) l0 56 0) l0 61 0)) else (if inb (72 + l2) (ln (rf l0 46)) = true then (if (sg S (rf l0 46) (Int32.toNatClampNeg (72 + l2))) < (sg S l0 2) then b_X10_city_342 N (b_X10_city_308 N n) l0 l2 S else (if inb (72 + l2) (ln (rf l0 46)) = true then b_X10_city_342 N (b_X10_city_308 N n) l0 l2 (sp S (rf l0 46) (Int32.toNatClampNeg (72 + l2)) (-1)) else none)) else none))
def b_X10_city_282 (N : Nat) : Nat → Nat → Int32 → am_S → Option (Int32 × am_S)
  | 0, _, _, _ => none
  | n + 1, l0, l2, S => (if 80 ≤ l2 then b_X10_city_308 N N l0 0 S else (if inb l2 (ln (rf l0 42)) = true then (if inb l2 (ln (rf l0 46)) = true then b_X10_city_282 N n l0 (l2 + 1) (sp S (rf l0 46) (Int32.toNatClampNeg l2) (sg S (rf l0 42) (Int32.toNatClampNeg l2))) else none) else none))
def b_X10_city_138 (N : Nat) (l0 : Nat) (S : am_S) : Option (Int32 × am_S) := (bd (f_X10_isGood N l0 S) (fun r1 S2 => (if r1 = 0 then (if inb 0 (ln (rf l0 17)) = true then (if inb 0 (ln (rf l0 17)) = true then some ((sg (sp S2 (rf l0 17) (Int32.toNatClampNeg 0) ((sg S2 (rf l0 17) (Int32.toNatClampNeg 0)) + 1)) l0 15), (sp S2 (rf l0 17) (Int32.toNatClampNeg 0) ((sg S2 (rf l0 17) (Int32.toNatClampNeg 0)) + 1))) else none) else none) else (bv (f_X10_copies N l0 (rf l0 37) (rf l0 7) (sp (sp (sp (sp (sp (sp S2 l0 1 (sg S2 l0 26)) l0 2 (sg (sp S2 l0 1 (sg S2 l0 26)) l0 27)) l0 3 (sg (sp (sp S2 l0 1 (sg S2 l0 26)) l0 2 (sg (sp S2 l0 1 (sg S2 l0 26)) l0 27)) l0 28)) l0 4 (sg (sp (sp (sp S2 l0 1 (sg S2 l0 26)) l0 2 (sg (sp S2 l0 1 (sg S2 l0 26)) l0 27)) l0 3 (sg (sp (sp S2 l0 1 (sg S2 l0 26)) l0 2 (sg (sp S2 l0 1 (sg S2 l0 26)) l0 27)) l0 28)) l0 29)) l0 5 (sg (sp (sp (sp (sp S2 l0 1 (sg S2 l0 26)) l0 2 (sg (sp S2 l0 1 (sg S2 l0 26)) l0 27)) l0 3 (sg (sp (sp S2 l0 1 (sg S2 l0 26)) l0 2 (sg (sp S2 l0 1 (sg S2 l0 26)) l0 27)) l0 28)) l0 4 (sg (sp (sp (sp S2 l0 1 (sg S2 l0 26)) l0 2 (sg (sp S2 l0 1 (sg S2 l0 26)) l0 27)) l0 3 (sg (sp (sp S2 l0 1 (sg S2 l0 26)) l0 2 (sg (sp S2 l0 1 (sg S2 l0 26)) l0 27)) l0 28)) l0 29)) l0 30)) l0 6 (sg (sp (sp (sp (sp (sp S2 l0 1 (sg S2 l0 26)) l0 2 (sg (sp S2 l0 1 (sg S2 l0 26)) l0 27)) l0 3 (sg (sp (sp S2 l0 1 (sg S2 l0 26)) l0 2 (sg (sp S2 l0 1 (sg S2 l0 26)) l0 27)) l0 28)) l0 4 (sg (sp (sp (sp S2 l0 1 (sg S2 l0 26)) l0 2 (sg (sp S2 l0 1 (sg S2 l0 26)) l0 27)) l0 3 (sg (sp (sp S2 l0 1 (sg S2 l0 26)) l0 2 (sg (sp S2 l0 1 (sg S2 l0 26)) l0 27)) l0 28)) l0 29)) l0 5 (sg (sp (sp (sp (sp S2 l0 1 (sg S2 l0 26)) l0 2 (sg (sp S2 l0 1 (sg S2 l0 26)) l0 27)) l0 3 (sg (sp (sp S2 l0 1 (sg S2 l0 26)) l0 2 (sg (sp S2 l0 1 (sg S2 l0 26)) l0 27)) l0 28)) l0 4 (sg (sp (sp (sp S2 l0 1 (sg S2 l0 26)) l0 2 (sg (sp S2 l0 1 (sg S2 l0 26)) l0 27)) l0 3 (sg (sp (sp S2 l0 1 (sg S2 l0 26)) l0 2 (sg (sp S2 l0 1 (sg S2 l0 26)) l0 27)) l0 28)) l0 29)) l0 30)) l0 31))) (fun S6 => (bv (f_X10_copies N l0 (rf l0 38) (rf l0 8) S6) (fun S9 => (bv (f_X10_copies N l0 (rf l0 39) (rf l0 9) S9) (fun S12 => (bv (f_X10_copies N l0 (rf l0 40) (rf l0 10) S12) (fun S15 => (bv (f_X10_copies N l0 (rf l0 41) (rf l0 11) S15) (fun S18 => (bv (f_X10_copies N l0 (rf l0 43) (rf l0 12) S18) (fun S21 => b_X10_city_282 N N l0 0 S21)))))))))))))))
def b_X10_city_117 (N : Nat) : Nat → Nat → am_S → Option (Int32 × am_S)
  | 0, _, _ => none
  | n + 1, l0, S => (bd (f_X10_isGood N l0 S) (fun r1 S2 => (if r1 = 0 then b_X10_city_138 N l0 S2 else (if (sg S2 l0 20) = 0 then b_X10_city_138 N l0 S2 else (bv (f_X10_line N l0 S2) (fun S7 => b_X10_city_117 N n l0 S7))))))
def b_X10_city_89 (N : Nat) : Nat → Nat → Int32 → am_S → Option (Int32 × am_S)
  | 0, _, _, _ => none
  | n + 1, l0, l2, S => (if 80 ≤ l2 then (bv (f_X10_goes N l0 (sp S l0 32 0)) (fun S3 => b_X10_city_117 N N l0 S3)) else (if inb l2 (ln (rf l0 42)) = true then b_X10_city_89 N n l0 (l2 + 1) (sp S (rf l0 42) (Int32.toNatClampNeg l2) 0) else none))
def b_X10_city_23 (N : Nat) (l0 : Nat) (l1 : Int32) (z0 : Nat) (z1 : Int32) (S : am_S) : Option (Int32 × am_S) := (bd (f_X10_right N z0 z1 1 S) (fun r1 S2 => (if r1 = 0 then some (0, S2) else b_X10_city_89 N N l0 0 (sp (sp (sp (sp (sp (sp (sp (sp (sp (sp (sp S2 l0 14 0) l0 16 (-1)) l0 15 0) l0 18 l1) l0 19 0) l0 26 0) l0 27 0) l0 28 0) l0 29 0) l0 30 (-1)) l0 31 (-1)))))
def b_X10_city_22 (N : Nat) (l0 : Nat) (l1 : Int32) (z0 : Nat) (S : am_S) : Option (Int32 × am_S) := b_X10_city_23 N l0 l1 z0 0 S
def f_X10_city (N : Nat) (l0 : Nat) (l1 : Int32) (S : am_S) : Option (Int32 × am_S) := (if l1 < 0 then b_X10_city_22 N l0 l1 l0 (sp S l0 0 0) else (if (sg (sp S l0 0 0) l0 14) < l1 then b_X10_city_22 N l0 l1 l0 (sp S l0 0 0) else b_X10_city_23 N l0 l1 l0 1 (sp S l0 0 0)))
theorem u_X10_city_342 {G : am_G} {N : Nat} {h0 : am_H} {out : Int32 × am_S} {k308 : Nat → Int32 → am_S → Option (Int32 × am_S)} (hk308 : ∀ (l0 : Nat) (l2 : Int32) (S : am_S), isC 10 l0 = true → k308 l0 l2 S = some out → Ev G (am_R 8 0 0) (am_Φ G h0 0 0 (q_i out) q_n) mX10_city 0 0 308 [some (.ref l0), none, some (.int l2)] [] (hp S)) (l0 : Nat) (l2 : Int32) (S : am_S) (hl0 : isC 10 l0 = true) (hB : b_X10_city_342 N k308 l0 l2 S = some out) : Ev G (am_R 8 0 0) (am_Φ G h0 0 0 (q_i out) q_n) mX10_city 0 0 342 [some (.ref l0), none, some (.int l2)] [] (hp S) := by
  unfold b_X10_city_342 at hB
  refine es_iinc 1 dX10_city_342 rfl (by decide) (by decide) rfl ?_
  refine ev_goto 308 dX10_city_345 (by decide) ?_
  exact ev_ls (hk308 l0 (l2 + 1) S hl0 hB) (And.intro rfl (And.intro rfl trivial))
theorem u_X10_city_308 {G : am_G} {N : Nat} {h0 : am_H} {out : Int32 × am_S} : ∀ (n : Nat) (l0 : Nat) (l2 : Int32) (S : am_S), isC 10 l0 = true → b_X10_city_308 N n l0 l2 S = some out → Ev G (am_R 8 0 0) (am_Φ G h0 0 0 (q_i out) q_n) mX10_city 0 0 308 [some (.ref l0), none, some (.int l2)] [] (hp S) := by
  intro n
  induction n with
  | zero =>
    intro l0 l2 S hl0 hB
    exact absurd (show none = some out from hB) (fun q => by cases q)
  | succ n ih =>
    intro l0 l2 S hl0 hB
    unfold b_X10_city_308 at hB
    refine ev_iload_n dX10_city_308 rfl ?_
    refine ev_aload_n dX10_city_309 rfl ?_
    refine es_geti k_10 2 dX10_city_310 (by decide) rfl (Or.inl w_1527) hl0 rfl ?_
    refine ev_icmpge 348 dX10_city_313 (by decide) (fun q1 => ?_) (fun q1 => ?_)
    · rw [if_pos q1] at hB
      refine ev_aload_n dX10_city_348 rfl ?_
      refine ev_iconst 0 dX10_city_349 (by decide) ?_
      refine es_puti k_10 48 dX10_city_350 (by decide) rfl (Or.inl w_1573) rfl rfl hl0 rfl ?_
      refine ev_aload_n dX10_city_353 rfl ?_
      refine ev_iconst 0 dX10_city_354 (by decide) ?_
      refine es_puti k_10 56 dX10_city_355 (by decide) rfl (Or.inl w_1581) rfl rfl hl0 rfl ?_
      refine ev_aload_n dX10_city_358 rfl ?_
      refine ev_iconst 0 dX10_city_359 (by decide) ?_
      refine es_putz k_10 61 dX10_city_360 (by decide) rfl (Or.inl w_1586) rfl rfl (Or.inl rfl) hl0 rfl ?_
      refine ev_iconst 0 dX10_city_363 (by decide) ?_
      obtain rfl := Option.some.inj hB
      exact ev_iret dX10_city_364 rfl (Nat.zero_le _) (Nat.zero_le _) (fun z => absurd z (hp_sealed _)) ⟨rfl, rfl⟩
    · rw [if_neg q1] at hB
      refine ev_aload_n dX10_city_316 rfl ?_
      refine es_getr k_10 46 dX10_city_317 (by decide) rfl (Or.inl w_1571) hl0 rfl ?_
      refine ev_bipush 72 dX10_city_320 (by decide) ?_
      refine ev_iload_n dX10_city_322 rfl ?_
      refine ev_iadd dX10_city_323 ?_
      obtain ⟨c2, hB⟩ := ck_of hB
      refine es_iald dX10_city_324 (tr_10_46 hl0) c2 ?_
      refine ev_aload_n dX10_city_325 rfl ?_
      refine es_geti k_10 2 dX10_city_326 (by decide) rfl (Or.inl w_1527) hl0 rfl ?_
      refine ev_icmplt 342 dX10_city_329 (by decide) (fun q3 => ?_) (fun q3 => ?_)
      · rw [if_pos q3] at hB
        exact ev_ls (u_X10_city_342 ih l0 l2 S hl0 hB) (And.intro rfl (And.intro rfl trivial))
      · rw [if_neg q3] at hB
        refine ev_aload_n dX10_city_332 rfl ?_
        refine es_getr k_10 46 dX10_city_333 (by decide) rfl (Or.inl w_1571) hl0 rfl ?_
        refine ev_bipush 72 dX10_city_336 (by decide) ?_
        refine ev_iload_n dX10_city_338 rfl ?_
        refine ev_iadd dX10_city_339 ?_
        refine ev_iconst (-1) dX10_city_340 (by decide) ?_
        obtain ⟨c4, hB⟩ := ck_of hB
        refine es_iast dX10_city_341 (tr_10_46 hl0) c4 ?_
        exact ev_ls (u_X10_city_342 ih l0 l2 (sp S (rf l0 46) (Int32.toNatClampNeg (72 + l2)) (-1)) hl0 hB) (And.intro rfl (And.intro rfl trivial))
theorem u_X10_city_282 {G : am_G} {N : Nat} {h0 : am_H} {out : Int32 × am_S} : ∀ (n : Nat) (l0 : Nat) (l2 : Int32) (S : am_S), isC 10 l0 = true → b_X10_city_282 N n l0 l2 S = some out → Ev G (am_R 8 0 0) (am_Φ G h0 0 0 (q_i out) q_n) mX10_city 0 0 282 [some (.ref l0), none, some (.int l2)] [] (hp S) := by
  intro n
  induction n with
  | zero =>
    intro l0 l2 S hl0 hB
    exact absurd (show none = some out from hB) (fun q => by cases q)
  | succ n ih =>
    intro l0 l2 S hl0 hB
    unfold b_X10_city_282 at hB
    refine ev_iload_n dX10_city_282 rfl ?_
    refine ev_bipush 80 dX10_city_283 (by decide) ?_
    refine ev_icmpge 306 dX10_city_285 (by decide) (fun q1 => ?_) (fun q1 => ?_)
    · rw [if_pos q1] at hB
      refine ev_iconst 0 dX10_city_306 (by decide) ?_
      refine ev_istore_n dX10_city_307 (by decide) rfl ?_
      exact ev_ls (u_X10_city_308 N l0 0 S hl0 hB) (And.intro rfl (And.intro rfl trivial))
    · rw [if_neg q1] at hB
      refine ev_aload_n dX10_city_288 rfl ?_
      refine es_getr k_10 46 dX10_city_289 (by decide) rfl (Or.inl w_1571) hl0 rfl ?_
      refine ev_iload_n dX10_city_292 rfl ?_
      refine ev_aload_n dX10_city_293 rfl ?_
      refine es_getr k_10 42 dX10_city_294 (by decide) rfl (Or.inl w_1567) hl0 rfl ?_
      refine ev_iload_n dX10_city_297 rfl ?_
      obtain ⟨c2, hB⟩ := ck_of hB
      refine es_iald dX10_city_298 (tr_10_42 hl0) c2 ?_
      obtain ⟨c3, hB⟩ := ck_of hB
      refine es_iast dX10_city_299 (tr_10_46 hl0) c3 ?_
      refine es_iinc 1 dX10_city_300 rfl (by decide) (by decide) rfl ?_
      refine ev_goto 282 dX10_city_303 (by decide) ?_
      exact ev_ls (ih l0 (l2 + 1) (sp S (rf l0 46) (Int32.toNatClampNeg l2) (sg S (rf l0 42) (Int32.toNatClampNeg l2))) hl0 hB) (And.intro rfl (And.intro rfl trivial))
theorem u_X10_city_138 {G : am_G} {N : Nat} {h0 : am_H} {out : Int32 × am_S} (l0 : Nat) (S : am_S) (hl0 : isC 10 l0 = true) (hB : b_X10_city_138 N l0 S = some out) : Ev G (am_R 8 0 0) (am_Φ G h0 0 0 (q_i out) q_n) mX10_city 0 0 138 [some (.ref l0), none, none] [] (hp S) := by
  unfold b_X10_city_138 at hB
  refine ev_aload_n dX10_city_138 rfl ?_
  obtain ⟨r1, S2, e3, hB⟩ := bd_of hB
  refine es_callVi (As := []) (t_X10_isGood hl0 e3) dX10_city_139 oX10_isGood w_1762 rfl hl0 rfl rfl (Nat.le_of_ble_eq_true rfl) rfl (am_fit.of (by decide)) ⟨Nat.zero_le _, Nat.zero_le _⟩ ?_
  refine ev_ifne 160 dX10_city_142 (by decide) (fun q4 => ?_) (fun q4 => ?_)
  · rw [if_neg q4] at hB
    refine ev_aload_n dX10_city_160 rfl ?_
    refine ev_aload_n dX10_city_161 rfl ?_
    refine es_geti k_10 26 dX10_city_162 (by decide) rfl (Or.inl w_1551) hl0 rfl ?_
    refine es_puti k_10 1 dX10_city_165 (by decide) rfl (Or.inl w_1526) rfl rfl hl0 rfl ?_
    refine ev_aload_n dX10_city_168 rfl ?_
    refine ev_aload_n dX10_city_169 rfl ?_
    refine es_geti k_10 27 dX10_city_170 (by decide) rfl (Or.inl w_1552) hl0 rfl ?_
    refine es_puti k_10 2 dX10_city_173 (by decide) rfl (Or.inl w_1527) rfl rfl hl0 rfl ?_
    refine ev_aload_n dX10_city_176 rfl ?_
    refine ev_aload_n dX10_city_177 rfl ?_
    refine es_geti k_10 28 dX10_city_178 (by decide) rfl (Or.inl w_1553) hl0 rfl ?_
    refine es_puti k_10 3 dX10_city_181 (by decide) rfl (Or.inl w_1528) rfl rfl hl0 rfl ?_
    refine ev_aload_n dX10_city_184 rfl ?_
    refine ev_aload_n dX10_city_185 rfl ?_
    refine es_geti k_10 29 dX10_city_186 (by decide) rfl (Or.inl w_1554) hl0 rfl ?_
    refine es_puti k_10 4 dX10_city_189 (by decide) rfl (Or.inl w_1529) rfl rfl hl0 rfl ?_
    refine ev_aload_n dX10_city_192 rfl ?_
    refine ev_aload_n dX10_city_193 rfl ?_
    refine es_geti k_10 30 dX10_city_194 (by decide) rfl (Or.inl w_1555) hl0 rfl ?_
    refine es_puti k_10 5 dX10_city_197 (by decide) rfl (Or.inl w_1530) rfl rfl hl0 rfl ?_
    refine ev_aload_n dX10_city_200 rfl ?_
    refine ev_aload_n dX10_city_201 rfl ?_
    refine es_geti k_10 31 dX10_city_202 (by decide) rfl (Or.inl w_1556) hl0 rfl ?_
    refine es_puti k_10 6 dX10_city_205 (by decide) rfl (Or.inl w_1531) rfl rfl hl0 rfl ?_
    refine ev_aload_n dX10_city_208 rfl ?_
    refine ev_aload_n dX10_city_209 rfl ?_
    refine es_getr k_10 37 dX10_city_210 (by decide) rfl (Or.inl w_1562) hl0 rfl ?_
    refine ev_aload_n dX10_city_213 rfl ?_
    refine es_getr k_10 7 dX10_city_214 (by decide) rfl (Or.inl w_1532) hl0 rfl ?_
    obtain ⟨S6, e7, hB⟩ := bv_of hB
    refine es_callVv (As := [.ref (rf l0 37), .ref (rf l0 7)]) (t_X10_copies hl0 (tr_10_37 hl0) (tr_10_7 hl0) e7) dX10_city_217 oX10_copies w_1859 rfl hl0 rfl rfl (Nat.le_of_ble_eq_true rfl) rfl (am_fit.of (by decide)) ⟨Nat.zero_le _, Nat.zero_le _⟩ ?_
    refine ev_aload_n dX10_city_220 rfl ?_
    refine ev_aload_n dX10_city_221 rfl ?_
    refine es_getr k_10 38 dX10_city_222 (by decide) rfl (Or.inl w_1563) hl0 rfl ?_
    refine ev_aload_n dX10_city_225 rfl ?_
    refine es_getr k_10 8 dX10_city_226 (by decide) rfl (Or.inl w_1533) hl0 rfl ?_
    obtain ⟨S9, e10, hB⟩ := bv_of hB
    refine es_callVv (As := [.ref (rf l0 38), .ref (rf l0 8)]) (t_X10_copies hl0 (tr_10_38 hl0) (tr_10_8 hl0) e10) dX10_city_229 oX10_copies w_1859 rfl hl0 rfl rfl (Nat.le_of_ble_eq_true rfl) rfl (am_fit.of (by decide)) ⟨Nat.zero_le _, Nat.zero_le _⟩ ?_
    refine ev_aload_n dX10_city_232 rfl ?_
    refine ev_aload_n dX10_city_233 rfl ?_
    refine es_getr k_10 39 dX10_city_234 (by decide) rfl (Or.inl w_1564) hl0 rfl ?_
    refine ev_aload_n dX10_city_237 rfl ?_
    refine es_getr k_10 9 dX10_city_238 (by decide) rfl (Or.inl w_1534) hl0 rfl ?_
    obtain ⟨S12, e13, hB⟩ := bv_of hB
    refine es_callVv (As := [.ref (rf l0 39), .ref (rf l0 9)]) (t_X10_copies hl0 (tr_10_39 hl0) (tr_10_9 hl0) e13) dX10_city_241 oX10_copies w_1859 rfl hl0 rfl rfl (Nat.le_of_ble_eq_true rfl) rfl (am_fit.of (by decide)) ⟨Nat.zero_le _, Nat.zero_le _⟩ ?_
    refine ev_aload_n dX10_city_244 rfl ?_
    refine ev_aload_n dX10_city_245 rfl ?_
    refine es_getr k_10 40 dX10_city_246 (by decide) rfl (Or.inl w_1565) hl0 rfl ?_
    refine ev_aload_n dX10_city_249 rfl ?_
    refine es_getr k_10 10 dX10_city_250 (by decide) rfl (Or.inl w_1535) hl0 rfl ?_
    obtain ⟨S15, e16, hB⟩ := bv_of hB
    refine es_callVv (As := [.ref (rf l0 40), .ref (rf l0 10)]) (t_X10_copies hl0 (tr_10_40 hl0) (tr_10_10 hl0) e16) dX10_city_253 oX10_copies w_1859 rfl hl0 rfl rfl (Nat.le_of_ble_eq_true rfl) rfl (am_fit.of (by decide)) ⟨Nat.zero_le _, Nat.zero_le _⟩ ?_
    refine ev_aload_n dX10_city_256 rfl ?_
    refine ev_aload_n dX10_city_257 rfl ?_
    refine es_getr k_10 41 dX10_city_258 (by decide) rfl (Or.inl w_1566) hl0 rfl ?_
    refine ev_aload_n dX10_city_261 rfl ?_
    refine es_getr k_10 11 dX10_city_262 (by decide) rfl (Or.inl w_1536) hl0 rfl ?_
    obtain ⟨S18, e19, hB⟩ := bv_of hB
    refine es_callVv (As := [.ref (rf l0 41), .ref (rf l0 11)]) (t_X10_copies hl0 (tr_10_41 hl0) (tr_10_11 hl0) e19) dX10_city_265 oX10_copies w_1859 rfl hl0 rfl rfl (Nat.le_of_ble_eq_true rfl) rfl (am_fit.of (by decide)) ⟨Nat.zero_le _, Nat.zero_le _⟩ ?_
    refine ev_aload_n dX10_city_268 rfl ?_
    refine ev_aload_n dX10_city_269 rfl ?_
    refine es_getr k_10 43 dX10_city_270 (by decide) rfl (Or.inl w_1568) hl0 rfl ?_
    refine ev_aload_n dX10_city_273 rfl ?_
    refine es_getr k_10 12 dX10_city_274 (by decide) rfl (Or.inl w_1537) hl0 rfl ?_
    obtain ⟨S21, e22, hB⟩ := bv_of hB
    refine es_callVv (As := [.ref (rf l0 43), .ref (rf l0 12)]) (t_X10_copies hl0 (tr_10_43 hl0) (tr_10_12 hl0) e22) dX10_city_277 oX10_copies w_1859 rfl hl0 rfl rfl (Nat.le_of_ble_eq_true rfl) rfl (am_fit.of (by decide)) ⟨Nat.zero_le _, Nat.zero_le _⟩ ?_
    refine ev_iconst 0 dX10_city_280 (by decide) ?_
    refine ev_istore_n dX10_city_281 (by decide) rfl ?_
    exact ev_ls (u_X10_city_282 N l0 0 S21 hl0 hB) (And.intro rfl (And.intro rfl trivial))
  · rw [if_pos q4] at hB
    refine ev_aload_n dX10_city_145 rfl ?_
    refine es_getr k_10 17 dX10_city_146 (by decide) rfl (Or.inl w_1542) hl0 rfl ?_
    refine ev_iconst 0 dX10_city_149 (by decide) ?_
    refine ev_dup2 dX10_city_150 rfl rfl ?_
    obtain ⟨c23, hB⟩ := ck_of hB
    refine es_iald dX10_city_151 (tr_10_17 hl0) c23 ?_
    refine ev_iconst 1 dX10_city_152 (by decide) ?_
    refine ev_iadd dX10_city_153 ?_
    obtain ⟨c24, hB⟩ := ck_of hB
    refine es_iast dX10_city_154 (tr_10_17 hl0) c24 ?_
    refine ev_aload_n dX10_city_155 rfl ?_
    refine es_geti k_10 15 dX10_city_156 (by decide) rfl (Or.inl w_1540) hl0 rfl ?_
    obtain rfl := Option.some.inj hB
    exact ev_iret dX10_city_159 rfl (Nat.zero_le _) (Nat.zero_le _) (fun z => absurd z (hp_sealed _)) ⟨rfl, rfl⟩
theorem u_X10_city_117 {G : am_G} {N : Nat} {h0 : am_H} {out : Int32 × am_S} : ∀ (n : Nat) (l0 : Nat) (S : am_S), isC 10 l0 = true → b_X10_city_117 N n l0 S = some out → Ev G (am_R 8 0 0) (am_Φ G h0 0 0 (q_i out) q_n) mX10_city 0 0 117 [some (.ref l0), none, none] [] (hp S) := by
  intro n
  induction n with
  | zero =>
    intro l0 S hl0 hB
    exact absurd (show none = some out from hB) (fun q => by cases q)
  | succ n ih =>
    intro l0 S hl0 hB
    unfold b_X10_city_117 at hB
    refine ev_aload_n dX10_city_117 rfl ?_
    obtain ⟨r1, S2, e3, hB⟩ := bd_of hB
    refine es_callVi (As := []) (t_X10_isGood hl0 e3) dX10_city_118 oX10_isGood w_1762 rfl hl0 rfl rfl (Nat.le_of_ble_eq_true rfl) rfl (am_fit.of (by decide)) ⟨Nat.zero_le _, Nat.zero_le _⟩ ?_
    refine ev_ifeq 138 dX10_city_121 (by decide) (fun q4 => ?_) (fun q4 => ?_)
    · rw [if_pos q4] at hB
      exact ev_ls (u_X10_city_138 l0 S2 hl0 hB) (And.intro rfl trivial)
    · rw [if_neg q4] at hB
      refine ev_aload_n dX10_city_124 rfl ?_
      refine es_geti k_10 20 dX10_city_125 (by decide) rfl (Or.inl w_1545) hl0 rfl ?_
      refine ev_ifeq 138 dX10_city_128 (by decide) (fun q5 => ?_) (fun q5 => ?_)
      · rw [if_pos q5] at hB
        exact ev_ls (u_X10_city_138 l0 S2 hl0 hB) (And.intro rfl trivial)
      · rw [if_neg q5] at hB
        refine ev_aload_n dX10_city_131 rfl ?_
        obtain ⟨S7, e8, hB⟩ := bv_of hB
        refine es_callVv (As := []) (t_X10_line hl0 e8) dX10_city_132 oX10_line w_1766 rfl hl0 rfl rfl (Nat.le_of_ble_eq_true rfl) rfl (am_fit.of (by decide)) ⟨Nat.zero_le _, Nat.zero_le _⟩ ?_
        refine ev_goto 117 dX10_city_135 (by decide) ?_
        exact ev_ls (ih l0 S7 hl0 hB) (And.intro rfl trivial)
theorem u_X10_city_89 {G : am_G} {N : Nat} {h0 : am_H} {out : Int32 × am_S} : ∀ (n : Nat) (l0 : Nat) (l2 : Int32) (S : am_S), isC 10 l0 = true → b_X10_city_89 N n l0 l2 S = some out → Ev G (am_R 8 0 0) (am_Φ G h0 0 0 (q_i out) q_n) mX10_city 0 0 89 [some (.ref l0), none, some (.int l2)] [] (hp S) := by
  intro n
  induction n with
  | zero =>
    intro l0 l2 S hl0 hB
    exact absurd (show none = some out from hB) (fun q => by cases q)
  | succ n ih =>
    intro l0 l2 S hl0 hB
    unfold b_X10_city_89 at hB
    refine ev_iload_n dX10_city_89 rfl ?_
    refine ev_bipush 80 dX10_city_90 (by decide) ?_
    refine ev_icmpge 108 dX10_city_92 (by decide) (fun q1 => ?_) (fun q1 => ?_)
    · rw [if_pos q1] at hB
      refine ev_aload_n dX10_city_108 rfl ?_
      refine ev_iconst 0 dX10_city_109 (by decide) ?_
      refine es_puti k_10 32 dX10_city_110 (by decide) rfl (Or.inl w_1557) rfl rfl hl0 rfl ?_
      refine ev_aload_n dX10_city_113 rfl ?_
      obtain ⟨S3, e4, hB⟩ := bv_of hB
      refine es_callVv (As := []) (t_X10_goes hl0 e4) dX10_city_114 oX10_goes w_1748 rfl hl0 rfl rfl (Nat.le_of_ble_eq_true rfl) rfl (am_fit.of (by decide)) ⟨Nat.zero_le _, Nat.zero_le _⟩ ?_
      exact ev_ls (u_X10_city_117 N l0 S3 hl0 hB) (And.intro rfl trivial)
    · rw [if_neg q1] at hB
      refine ev_aload_n dX10_city_95 rfl ?_
      refine es_getr k_10 42 dX10_city_96 (by decide) rfl (Or.inl w_1567) hl0 rfl ?_
      refine ev_iload_n dX10_city_99 rfl ?_
      refine ev_iconst 0 dX10_city_100 (by decide) ?_
      obtain ⟨c5, hB⟩ := ck_of hB
      refine es_iast dX10_city_101 (tr_10_42 hl0) c5 ?_
      refine es_iinc 1 dX10_city_102 rfl (by decide) (by decide) rfl ?_
      refine ev_goto 89 dX10_city_105 (by decide) ?_
      exact ev_ls (ih l0 (l2 + 1) (sp S (rf l0 42) (Int32.toNatClampNeg l2) 0) hl0 hB) (And.intro rfl (And.intro rfl trivial))
theorem u_X10_city_23 {G : am_G} {N : Nat} {h0 : am_H} {out : Int32 × am_S} (l0 : Nat) (l1 : Int32) (z0 : Nat) (z1 : Int32) (S : am_S) (hl0 : isC 10 l0 = true) (hz0 : isC 10 z0 = true) (hB : b_X10_city_23 N l0 l1 z0 z1 S = some out) : Ev G (am_R 8 0 0) (am_Φ G h0 0 0 (q_i out) q_n) mX10_city 0 0 23 [some (.ref l0), some (.int l1), none] [.int z1, .ref z0] (hp S) := by
  unfold b_X10_city_23 at hB
  refine ev_iconst 1 dX10_city_23 (by decide) ?_
  obtain ⟨r1, S2, e3, hB⟩ := bd_of hB
  refine es_callVi (As := [.int z1, .int 1]) (t_X10_right hz0 e3) dX10_city_24 oX10_right w_1744 rfl hz0 rfl rfl (Nat.le_of_ble_eq_true rfl) rfl (am_fit.of (by decide)) ⟨Nat.zero_le _, Nat.zero_le _⟩ ?_
  refine ev_ifne 32 dX10_city_27 (by decide) (fun q4 => ?_) (fun q4 => ?_)
  · rw [if_neg q4] at hB
    refine ev_aload_n dX10_city_32 rfl ?_
    refine ev_iconst 0 dX10_city_33 (by decide) ?_
    refine es_puti k_10 14 dX10_city_34 (by decide) rfl (Or.inl w_1539) rfl rfl hl0 rfl ?_
    refine ev_aload_n dX10_city_37 rfl ?_
    refine ev_iconst (-1) dX10_city_38 (by decide) ?_
    refine es_puti k_10 16 dX10_city_39 (by decide) rfl (Or.inl w_1541) rfl rfl hl0 rfl ?_
    refine ev_aload_n dX10_city_42 rfl ?_
    refine ev_iconst 0 dX10_city_43 (by decide) ?_
    refine es_puti k_10 15 dX10_city_44 (by decide) rfl (Or.inl w_1540) rfl rfl hl0 rfl ?_
    refine ev_aload_n dX10_city_47 rfl ?_
    refine ev_iload_n dX10_city_48 rfl ?_
    refine es_puti k_10 18 dX10_city_49 (by decide) rfl (Or.inl w_1543) rfl rfl hl0 rfl ?_
    refine ev_aload_n dX10_city_52 rfl ?_
    refine ev_iconst 0 dX10_city_53 (by decide) ?_
    refine es_puti k_10 19 dX10_city_54 (by decide) rfl (Or.inl w_1544) rfl rfl hl0 rfl ?_
    refine ev_aload_n dX10_city_57 rfl ?_
    refine ev_iconst 0 dX10_city_58 (by decide) ?_
    refine es_puti k_10 26 dX10_city_59 (by decide) rfl (Or.inl w_1551) rfl rfl hl0 rfl ?_
    refine ev_aload_n dX10_city_62 rfl ?_
    refine ev_iconst 0 dX10_city_63 (by decide) ?_
    refine es_puti k_10 27 dX10_city_64 (by decide) rfl (Or.inl w_1552) rfl rfl hl0 rfl ?_
    refine ev_aload_n dX10_city_67 rfl ?_
    refine ev_iconst 0 dX10_city_68 (by decide) ?_
    refine es_puti k_10 28 dX10_city_69 (by decide) rfl (Or.inl w_1553) rfl rfl hl0 rfl ?_
    refine ev_aload_n dX10_city_72 rfl ?_
    refine ev_iconst 0 dX10_city_73 (by decide) ?_
    refine es_puti k_10 29 dX10_city_74 (by decide) rfl (Or.inl w_1554) rfl rfl hl0 rfl ?_
    refine ev_aload_n dX10_city_77 rfl ?_
    refine ev_iconst (-1) dX10_city_78 (by decide) ?_
    refine es_puti k_10 30 dX10_city_79 (by decide) rfl (Or.inl w_1555) rfl rfl hl0 rfl ?_
    refine ev_aload_n dX10_city_82 rfl ?_
    refine ev_iconst (-1) dX10_city_83 (by decide) ?_
    refine es_puti k_10 31 dX10_city_84 (by decide) rfl (Or.inl w_1556) rfl rfl hl0 rfl ?_
    refine ev_iconst 0 dX10_city_87 (by decide) ?_
    refine ev_istore_n dX10_city_88 (by decide) rfl ?_
    exact ev_ls (u_X10_city_89 N l0 0 (sp (sp (sp (sp (sp (sp (sp (sp (sp (sp (sp S2 l0 14 0) l0 16 (-1)) l0 15 0) l0 18 l1) l0 19 0) l0 26 0) l0 27 0) l0 28 0) l0 29 0) l0 30 (-1)) l0 31 (-1)) hl0 hB) (And.intro rfl (And.intro rfl trivial))
  · rw [if_pos q4] at hB
    refine ev_iconst 0 dX10_city_30 (by decide) ?_
    obtain rfl := Option.some.inj hB
    exact ev_iret dX10_city_31 rfl (Nat.zero_le _) (Nat.zero_le _) (fun z => absurd z (hp_sealed _)) ⟨rfl, rfl⟩
theorem u_X10_city_22 {G : am_G} {N : Nat} {h0 : am_H} {out : Int32 × am_S} (l0 : Nat) (l1 : Int32) (z0 : Nat) (S : am_S) (hl0 : isC 10 l0 = true) (hz0 : isC 10 z0 = true) (hB : b_X10_city_22 N l0 l1 z0 S = some out) : Ev G (am_R 8 0 0) (am_Φ G h0 0 0 (q_i out) q_n) mX10_city 0 0 22 [some (.ref l0), some (.int l1), none] [.ref z0] (hp S) := by
  unfold b_X10_city_22 at hB
  refine ev_iconst 0 dX10_city_22 (by decide) ?_
  exact ev_ls (u_X10_city_23 l0 l1 z0 0 S hl0 hz0 hB) (And.intro rfl (And.intro rfl trivial))
theorem t_X10_city {G : am_G} {N : Nat} {l0 : Nat} {l1 : Int32} {S : am_S} {out : Int32 × am_S} (hl0 : isC 10 l0 = true) (hB : f_X10_city N l0 l1 S = some out) : am_Met G 8 mX10_city 0 0 [.ref l0, .int l1] (hp S) (q_i out) q_n := by
  refine am_of (by decide +kernel) rfl rfl rfl (Nat.le_of_ble_eq_true rfl) ?_
  unfold f_X10_city at hB
  refine ev_aload_n dX10_city_0 rfl ?_
  refine ev_iconst 0 dX10_city_1 (by decide) ?_
  refine es_puti k_10 0 dX10_city_2 (by decide) rfl (Or.inl w_1525) rfl rfl hl0 rfl ?_
  refine ev_aload_n dX10_city_5 rfl ?_
  refine ev_iload_n dX10_city_6 rfl ?_
  refine ev_iflt 22 dX10_city_7 (by decide) (fun q1 => ?_) (fun q1 => ?_)
  · rw [if_pos q1] at hB
    exact ev_ls (u_X10_city_22 l0 l1 l0 (sp S l0 0 0) hl0 hl0 hB) (And.intro rfl (And.intro rfl trivial))
  · rw [if_neg q1] at hB
    refine ev_iload_n dX10_city_10 rfl ?_
    refine ev_aload_n dX10_city_11 rfl ?_
    refine es_geti k_10 14 dX10_city_12 (by decide) rfl (Or.inl w_1539) hl0 rfl ?_
    refine ev_icmpgt 22 dX10_city_15 (by decide) (fun q2 => ?_) (fun q2 => ?_)
    · rw [if_pos q2] at hB
      exact ev_ls (u_X10_city_22 l0 l1 l0 (sp S l0 0 0) hl0 hl0 hB) (And.intro rfl (And.intro rfl trivial))
    · rw [if_neg q2] at hB
      refine ev_iconst 1 dX10_city_18 (by decide) ?_
      refine ev_goto 23 dX10_city_19 (by decide) ?_
      exact ev_ls (u_X10_city_23 l0 l1 l0 1 (sp S l0 0 0) hl0 hl0 hB) (And.intro rfl (And.intro rfl trivial))
def f_X10_fault (N : Nat) (l0 : Nat) (S : am_S) : Option (Int32 × am_S) := some ((sg (sp S l0 0 0) l0 16), (sp S l0 0 0))
theorem t_X10_fault {G : am_G} {N : Nat} {l0 : Nat} {S : am_S} {out : Int32 × am_S} (hl0 : isC 10 l0 = true) (hB : f_X10_fault N l0 S = some out) : am_Met G 1 mX10_fault 0 0 [.ref l0] (hp S) (q_i out) q_n := by
  refine am_of (by decide +kernel) rfl rfl rfl (Nat.le_of_ble_eq_true rfl) ?_
  unfold f_X10_fault at hB
  refine ev_aload_n dX10_fault_0 rfl ?_
  refine ev_iconst 0 dX10_fault_1 (by decide) ?_
  refine es_puti k_10 0 dX10_fault_2 (by decide) rfl (Or.inl w_1525) rfl rfl hl0 rfl ?_
  refine ev_aload_n dX10_fault_5 rfl ?_
  refine es_geti k_10 16 dX10_fault_6 (by decide) rfl (Or.inl w_1541) hl0 rfl ?_
  obtain rfl := Option.some.inj hB
  exact ev_iret dX10_fault_9 rfl (Nat.zero_le _) (Nat.zero_le _) (fun z => absurd z (hp_sealed _)) ⟨rfl, rfl⟩
def b_X10_keeps_52 (N : Nat) : Nat → Nat → Int32 → am_S → Option (am_S)
  | 0, _, _, _ => none
  | n + 1, l0, l1, S => (if 80 ≤ l1 then some (sp S l0 48 ((sg S l0 48) + 1)) else (if inb l1 (ln (rf l0 46)) = true then (if inb ((80 * (sg S l0 48)) + l1) (ln (rf l0 47)) = true then b_X10_keeps_52 N n l0 (l1 + 1) (sp S (rf l0 47) (Int32.toNatClampNeg ((80 * (sg S l0 48)) + l1)) (sg S (rf l0 46) (Int32.toNatClampNeg l1))) else none) else none))
def b_X10_keeps_50 (N : Nat) (l0 : Nat) (S : am_S) : Option (am_S) := b_X10_keeps_52 N N l0 0 S
def b_X10_keeps_12 (N : Nat) : Nat → Nat → Int32 → am_S → Option (am_S)
  | 0, _, _, _ => none
  | n + 1, l0, l1, S => (if 3200 ≤ l1 then b_X10_keeps_50 N l0 (sp S l0 48 ((sg S l0 48) - 1)) else (if inb l1 (ln (rf l0 47)) = true then (if inb (l1 - 80) (ln (rf l0 47)) = true then b_X10_keeps_12 N n l0 (l1 + 1) (sp S (rf l0 47) (Int32.toNatClampNeg (l1 - 80)) (sg S (rf l0 47) (Int32.toNatClampNeg l1))) else none) else none))
def f_X10_keeps (N : Nat) (l0 : Nat) (S : am_S) : Option (am_S) := (if (sg S l0 48) = 40 then b_X10_keeps_12 N N l0 80 S else b_X10_keeps_50 N l0 S)
theorem u_X10_keeps_52 {G : am_G} {N : Nat} {h0 : am_H} {out : am_S} : ∀ (n : Nat) (l0 : Nat) (l1 : Int32) (S : am_S), isC 10 l0 = true → b_X10_keeps_52 N n l0 l1 S = some out → Ev G (am_R 1 0 0) (am_Φ G h0 0 0 (q_v out) q_n) mX10_keeps 0 0 52 [some (.ref l0), some (.int l1)] [] (hp S) := by
  intro n
  induction n with
  | zero =>
    intro l0 l1 S hl0 hB
    exact absurd (show none = some out from hB) (fun q => by cases q)
  | succ n ih =>
    intro l0 l1 S hl0 hB
    unfold b_X10_keeps_52 at hB
    refine ev_iload_n dX10_keeps_52 rfl ?_
    refine ev_bipush 80 dX10_keeps_53 (by decide) ?_
    refine ev_icmpge 84 dX10_keeps_55 (by decide) (fun q1 => ?_) (fun q1 => ?_)
    · rw [if_pos q1] at hB
      refine ev_aload_n dX10_keeps_84 rfl ?_
      refine ev_dup dX10_keeps_85 rfl ?_
      refine es_geti k_10 48 dX10_keeps_86 (by decide) rfl (Or.inl w_1573) hl0 rfl ?_
      refine ev_iconst 1 dX10_keeps_89 (by decide) ?_
      refine ev_iadd dX10_keeps_90 ?_
      refine es_puti k_10 48 dX10_keeps_91 (by decide) rfl (Or.inl w_1573) rfl rfl hl0 rfl ?_
      obtain rfl := Option.some.inj hB
      exact ev_vret dX10_keeps_94 rfl (Nat.zero_le _) (Nat.zero_le _) (fun z => absurd z (hp_sealed _)) ⟨rfl, rfl⟩
    · rw [if_neg q1] at hB
      refine ev_aload_n dX10_keeps_58 rfl ?_
      refine es_getr k_10 47 dX10_keeps_59 (by decide) rfl (Or.inl w_1572) hl0 rfl ?_
      refine ev_bipush 80 dX10_keeps_62 (by decide) ?_
      refine ev_aload_n dX10_keeps_64 rfl ?_
      refine es_geti k_10 48 dX10_keeps_65 (by decide) rfl (Or.inl w_1573) hl0 rfl ?_
      refine ev_imul dX10_keeps_68 ?_
      refine ev_iload_n dX10_keeps_69 rfl ?_
      refine ev_iadd dX10_keeps_70 ?_
      refine ev_aload_n dX10_keeps_71 rfl ?_
      refine es_getr k_10 46 dX10_keeps_72 (by decide) rfl (Or.inl w_1571) hl0 rfl ?_
      refine ev_iload_n dX10_keeps_75 rfl ?_
      obtain ⟨c2, hB⟩ := ck_of hB
      refine es_iald dX10_keeps_76 (tr_10_46 hl0) c2 ?_
      obtain ⟨c3, hB⟩ := ck_of hB
      refine es_iast dX10_keeps_77 (tr_10_47 hl0) c3 ?_
      refine es_iinc 1 dX10_keeps_78 rfl (by decide) (by decide) rfl ?_
      refine ev_goto 52 dX10_keeps_81 (by decide) ?_
      exact ev_ls (ih l0 (l1 + 1) (sp S (rf l0 47) (Int32.toNatClampNeg ((80 * (sg S l0 48)) + l1)) (sg S (rf l0 46) (Int32.toNatClampNeg l1))) hl0 hB) (And.intro rfl (And.intro rfl trivial))
theorem u_X10_keeps_50 {G : am_G} {N : Nat} {h0 : am_H} {out : am_S} (l0 : Nat) (S : am_S) (hl0 : isC 10 l0 = true) (hB : b_X10_keeps_50 N l0 S = some out) : Ev G (am_R 1 0 0) (am_Φ G h0 0 0 (q_v out) q_n) mX10_keeps 0 0 50 [some (.ref l0), none] [] (hp S) := by
  unfold b_X10_keeps_50 at hB
  refine ev_iconst 0 dX10_keeps_50 (by decide) ?_
  refine ev_istore_n dX10_keeps_51 (by decide) rfl ?_
  exact ev_ls (u_X10_keeps_52 N l0 0 S hl0 hB) (And.intro rfl (And.intro rfl trivial))
theorem u_X10_keeps_12 {G : am_G} {N : Nat} {h0 : am_H} {out : am_S} : ∀ (n : Nat) (l0 : Nat) (l1 : Int32) (S : am_S), isC 10 l0 = true → b_X10_keeps_12 N n l0 l1 S = some out → Ev G (am_R 1 0 0) (am_Φ G h0 0 0 (q_v out) q_n) mX10_keeps 0 0 12 [some (.ref l0), some (.int l1)] [] (hp S) := by
  intro n
  induction n with
  | zero =>
    intro l0 l1 S hl0 hB
    exact absurd (show none = some out from hB) (fun q => by cases q)
  | succ n ih =>
    intro l0 l1 S hl0 hB
    unfold b_X10_keeps_12 at hB
    refine ev_iload_n dX10_keeps_12 rfl ?_
    refine ev_sipush 3200 dX10_keeps_13 (by decide) ?_
    refine ev_icmpge 40 dX10_keeps_16 (by decide) (fun q1 => ?_) (fun q1 => ?_)
    · rw [if_pos q1] at hB
      refine ev_aload_n dX10_keeps_40 rfl ?_
      refine ev_dup dX10_keeps_41 rfl ?_
      refine es_geti k_10 48 dX10_keeps_42 (by decide) rfl (Or.inl w_1573) hl0 rfl ?_
      refine ev_iconst 1 dX10_keeps_45 (by decide) ?_
      refine ev_isub dX10_keeps_46 ?_
      refine es_puti k_10 48 dX10_keeps_47 (by decide) rfl (Or.inl w_1573) rfl rfl hl0 rfl ?_
      exact ev_ls (u_X10_keeps_50 l0 (sp S l0 48 ((sg S l0 48) - 1)) hl0 hB) (And.intro rfl trivial)
    · rw [if_neg q1] at hB
      refine ev_aload_n dX10_keeps_19 rfl ?_
      refine es_getr k_10 47 dX10_keeps_20 (by decide) rfl (Or.inl w_1572) hl0 rfl ?_
      refine ev_iload_n dX10_keeps_23 rfl ?_
      refine ev_bipush 80 dX10_keeps_24 (by decide) ?_
      refine ev_isub dX10_keeps_26 ?_
      refine ev_aload_n dX10_keeps_27 rfl ?_
      refine es_getr k_10 47 dX10_keeps_28 (by decide) rfl (Or.inl w_1572) hl0 rfl ?_
      refine ev_iload_n dX10_keeps_31 rfl ?_
      obtain ⟨c2, hB⟩ := ck_of hB
      refine es_iald dX10_keeps_32 (tr_10_47 hl0) c2 ?_
      obtain ⟨c3, hB⟩ := ck_of hB
      refine es_iast dX10_keeps_33 (tr_10_47 hl0) c3 ?_
      refine es_iinc 1 dX10_keeps_34 rfl (by decide) (by decide) rfl ?_
      refine ev_goto 12 dX10_keeps_37 (by decide) ?_
      exact ev_ls (ih l0 (l1 + 1) (sp S (rf l0 47) (Int32.toNatClampNeg (l1 - 80)) (sg S (rf l0 47) (Int32.toNatClampNeg l1))) hl0 hB) (And.intro rfl (And.intro rfl trivial))
theorem t_X10_keeps {G : am_G} {N : Nat} {l0 : Nat} {S : am_S} {out : am_S} (hl0 : isC 10 l0 = true) (hB : f_X10_keeps N l0 S = some out) : am_Met G 1 mX10_keeps 0 0 [.ref l0] (hp S) (q_v out) q_n := by
  refine am_of (by decide +kernel) rfl rfl rfl (Nat.le_of_ble_eq_true rfl) ?_
  unfold f_X10_keeps at hB
  refine ev_aload_n dX10_keeps_0 rfl ?_
  refine es_geti k_10 48 dX10_keeps_1 (by decide) rfl (Or.inl w_1573) hl0 rfl ?_
  refine ev_bipush 40 dX10_keeps_4 (by decide) ?_
  refine ev_icmpne 50 dX10_keeps_6 (by decide) (fun q1 => ?_) (fun q1 => ?_)
  · rw [if_neg q1] at hB
    exact ev_ls (u_X10_keeps_50 l0 S hl0 hB) (And.intro rfl trivial)
  · rw [if_pos q1] at hB
    refine ev_bipush 80 dX10_keeps_9 (by decide) ?_
    refine ev_istore_n dX10_keeps_11 (by decide) rfl ?_
    exact ev_ls (u_X10_keeps_12 N l0 80 S hl0 hB) (And.intro rfl (And.intro rfl trivial))
def f_X10_refuses (N : Nat) (l0 : Nat) (l1 : Int32) (S : am_S) : Option (Int32 × am_S) := (if inb l1 (ln (rf l0 17)) = true then (if inb l1 (ln (rf l0 17)) = true then some ((-1), (sp S (rf l0 17) (Int32.toNatClampNeg l1) ((sg S (rf l0 17) (Int32.toNatClampNeg l1)) + 1))) else none) else none)
theorem t_X10_refuses {G : am_G} {N : Nat} {l0 : Nat} {l1 : Int32} {S : am_S} {out : Int32 × am_S} (hl0 : isC 10 l0 = true) (hB : f_X10_refuses N l0 l1 S = some out) : am_Met G 1 mX10_refuses 0 0 [.ref l0, .int l1] (hp S) (q_i out) q_n := by
  refine am_of (by decide +kernel) rfl rfl rfl (Nat.le_of_ble_eq_true rfl) ?_
  unfold f_X10_refuses at hB
  refine ev_aload_n dX10_refuses_0 rfl ?_
  refine es_getr k_10 17 dX10_refuses_1 (by decide) rfl (Or.inl w_1542) hl0 rfl ?_
  refine ev_iload_n dX10_refuses_4 rfl ?_
  refine ev_dup2 dX10_refuses_5 rfl rfl ?_
  obtain ⟨c1, hB⟩ := ck_of hB
  refine es_iald dX10_refuses_6 (tr_10_17 hl0) c1 ?_
  refine ev_iconst 1 dX10_refuses_7 (by decide) ?_
  refine ev_iadd dX10_refuses_8 ?_
  obtain ⟨c2, hB⟩ := ck_of hB
  refine es_iast dX10_refuses_9 (tr_10_17 hl0) c2 ?_
  refine ev_iconst (-1) dX10_refuses_10 (by decide) ?_
  obtain rfl := Option.some.inj hB
  exact ev_iret dX10_refuses_11 rfl (Nat.zero_le _) (Nat.zero_le _) (fun z => absurd z (hp_sealed _)) ⟨rfl, rfl⟩
def b_X10_undo_26 (N : Nat) : Nat → Nat → Int32 → am_S → Option (Int32 × am_S)
  | 0, _, _, _ => none
  | n + 1, l0, l1, S => (if 80 ≤ l1 then some ((sg S l0 48), S) else (if inb ((80 * (sg S l0 48)) + l1) (ln (rf l0 47)) = true then (if inb l1 (ln (rf l0 46)) = true then b_X10_undo_26 N n l0 (l1 + 1) (sp S (rf l0 46) (Int32.toNatClampNeg l1) (sg S (rf l0 47) (Int32.toNatClampNeg ((80 * (sg S l0 48)) + l1)))) else none) else none))
def f_X10_undo (N : Nat) (l0 : Nat) (S : am_S) : Option (Int32 × am_S) := (if (sg (sp S l0 0 0) l0 48) = 0 then some ((-1), (sp S l0 0 0)) else b_X10_undo_26 N N l0 0 (sp (sp S l0 0 0) l0 48 ((sg (sp S l0 0 0) l0 48) - 1)))
theorem u_X10_undo_26 {G : am_G} {N : Nat} {h0 : am_H} {out : Int32 × am_S} : ∀ (n : Nat) (l0 : Nat) (l1 : Int32) (S : am_S), isC 10 l0 = true → b_X10_undo_26 N n l0 l1 S = some out → Ev G (am_R 1 0 0) (am_Φ G h0 0 0 (q_i out) q_n) mX10_undo 0 0 26 [some (.ref l0), some (.int l1)] [] (hp S) := by
  intro n
  induction n with
  | zero =>
    intro l0 l1 S hl0 hB
    exact absurd (show none = some out from hB) (fun q => by cases q)
  | succ n ih =>
    intro l0 l1 S hl0 hB
    unfold b_X10_undo_26 at hB
    refine ev_iload_n dX10_undo_26 rfl ?_
    refine ev_bipush 80 dX10_undo_27 (by decide) ?_
    refine ev_icmpge 58 dX10_undo_29 (by decide) (fun q1 => ?_) (fun q1 => ?_)
    · rw [if_pos q1] at hB
      refine ev_aload_n dX10_undo_58 rfl ?_
      refine es_geti k_10 48 dX10_undo_59 (by decide) rfl (Or.inl w_1573) hl0 rfl ?_
      obtain rfl := Option.some.inj hB
      exact ev_iret dX10_undo_62 rfl (Nat.zero_le _) (Nat.zero_le _) (fun z => absurd z (hp_sealed _)) ⟨rfl, rfl⟩
    · rw [if_neg q1] at hB
      refine ev_aload_n dX10_undo_32 rfl ?_
      refine es_getr k_10 46 dX10_undo_33 (by decide) rfl (Or.inl w_1571) hl0 rfl ?_
      refine ev_iload_n dX10_undo_36 rfl ?_
      refine ev_aload_n dX10_undo_37 rfl ?_
      refine es_getr k_10 47 dX10_undo_38 (by decide) rfl (Or.inl w_1572) hl0 rfl ?_
      refine ev_bipush 80 dX10_undo_41 (by decide) ?_
      refine ev_aload_n dX10_undo_43 rfl ?_
      refine es_geti k_10 48 dX10_undo_44 (by decide) rfl (Or.inl w_1573) hl0 rfl ?_
      refine ev_imul dX10_undo_47 ?_
      refine ev_iload_n dX10_undo_48 rfl ?_
      refine ev_iadd dX10_undo_49 ?_
      obtain ⟨c2, hB⟩ := ck_of hB
      refine es_iald dX10_undo_50 (tr_10_47 hl0) c2 ?_
      obtain ⟨c3, hB⟩ := ck_of hB
      refine es_iast dX10_undo_51 (tr_10_46 hl0) c3 ?_
      refine es_iinc 1 dX10_undo_52 rfl (by decide) (by decide) rfl ?_
      refine ev_goto 26 dX10_undo_55 (by decide) ?_
      exact ev_ls (ih l0 (l1 + 1) (sp S (rf l0 46) (Int32.toNatClampNeg l1) (sg S (rf l0 47) (Int32.toNatClampNeg ((80 * (sg S l0 48)) + l1)))) hl0 hB) (And.intro rfl (And.intro rfl trivial))
theorem t_X10_undo {G : am_G} {N : Nat} {l0 : Nat} {S : am_S} {out : Int32 × am_S} (hl0 : isC 10 l0 = true) (hB : f_X10_undo N l0 S = some out) : am_Met G 1 mX10_undo 0 0 [.ref l0] (hp S) (q_i out) q_n := by
  refine am_of (by decide +kernel) rfl rfl rfl (Nat.le_of_ble_eq_true rfl) ?_
  unfold f_X10_undo at hB
  refine ev_aload_n dX10_undo_0 rfl ?_
  refine ev_iconst 0 dX10_undo_1 (by decide) ?_
  refine es_puti k_10 0 dX10_undo_2 (by decide) rfl (Or.inl w_1525) rfl rfl hl0 rfl ?_
  refine ev_aload_n dX10_undo_5 rfl ?_
  refine es_geti k_10 48 dX10_undo_6 (by decide) rfl (Or.inl w_1573) hl0 rfl ?_
  refine ev_ifne 14 dX10_undo_9 (by decide) (fun q1 => ?_) (fun q1 => ?_)
  · rw [if_neg q1] at hB
    refine ev_aload_n dX10_undo_14 rfl ?_
    refine ev_dup dX10_undo_15 rfl ?_
    refine es_geti k_10 48 dX10_undo_16 (by decide) rfl (Or.inl w_1573) hl0 rfl ?_
    refine ev_iconst 1 dX10_undo_19 (by decide) ?_
    refine ev_isub dX10_undo_20 ?_
    refine es_puti k_10 48 dX10_undo_21 (by decide) rfl (Or.inl w_1573) rfl rfl hl0 rfl ?_
    refine ev_iconst 0 dX10_undo_24 (by decide) ?_
    refine ev_istore_n dX10_undo_25 (by decide) rfl ?_
    exact ev_ls (u_X10_undo_26 N l0 0 (sp (sp S l0 0 0) l0 48 ((sg (sp S l0 0 0) l0 48) - 1)) hl0 hB) (And.intro rfl (And.intro rfl trivial))
  · rw [if_pos q1] at hB
    refine ev_iconst (-1) dX10_undo_12 (by decide) ?_
    obtain rfl := Option.some.inj hB
    exact ev_iret dX10_undo_13 rfl (Nat.zero_le _) (Nat.zero_le _) (fun z => absurd z (hp_sealed _)) ⟨rfl, rfl⟩
def b_X10_tries_2 (N : Nat) : Nat → Nat → Int32 → am_S → Option (am_S)
  | 0, _, _, _ => none
  | n + 1, l0, l1, S => (if 80 ≤ l1 then some S else (if inb l1 (ln (rf l0 46)) = true then (if inb (80 + l1) (ln (rf l0 46)) = true then b_X10_tries_2 N n l0 (l1 + 1) (sp S (rf l0 46) (Int32.toNatClampNeg (80 + l1)) (sg S (rf l0 46) (Int32.toNatClampNeg l1))) else none) else none))
def f_X10_tries (N : Nat) (l0 : Nat) (S : am_S) : Option (am_S) := b_X10_tries_2 N N l0 0 S
theorem u_X10_tries_2 {G : am_G} {N : Nat} {h0 : am_H} {out : am_S} : ∀ (n : Nat) (l0 : Nat) (l1 : Int32) (S : am_S), isC 10 l0 = true → b_X10_tries_2 N n l0 l1 S = some out → Ev G (am_R 1 0 0) (am_Φ G h0 0 0 (q_v out) q_n) mX10_tries 0 0 2 [some (.ref l0), some (.int l1)] [] (hp S) := by
  intro n
  induction n with
  | zero =>
    intro l0 l1 S hl0 hB
    exact absurd (show none = some out from hB) (fun q => by cases q)
  | succ n ih =>
    intro l0 l1 S hl0 hB
    unfold b_X10_tries_2 at hB
    refine ev_iload_n dX10_tries_2 rfl ?_
    refine ev_bipush 80 dX10_tries_3 (by decide) ?_
    refine ev_icmpge 29 dX10_tries_5 (by decide) (fun q1 => ?_) (fun q1 => ?_)
    · rw [if_pos q1] at hB
      obtain rfl := Option.some.inj hB
      exact ev_vret dX10_tries_29 rfl (Nat.zero_le _) (Nat.zero_le _) (fun z => absurd z (hp_sealed _)) ⟨rfl, rfl⟩
    · rw [if_neg q1] at hB
      refine ev_aload_n dX10_tries_8 rfl ?_
      refine es_getr k_10 46 dX10_tries_9 (by decide) rfl (Or.inl w_1571) hl0 rfl ?_
      refine ev_bipush 80 dX10_tries_12 (by decide) ?_
      refine ev_iload_n dX10_tries_14 rfl ?_
      refine ev_iadd dX10_tries_15 ?_
      refine ev_aload_n dX10_tries_16 rfl ?_
      refine es_getr k_10 46 dX10_tries_17 (by decide) rfl (Or.inl w_1571) hl0 rfl ?_
      refine ev_iload_n dX10_tries_20 rfl ?_
      obtain ⟨c2, hB⟩ := ck_of hB
      refine es_iald dX10_tries_21 (tr_10_46 hl0) c2 ?_
      obtain ⟨c3, hB⟩ := ck_of hB
      refine es_iast dX10_tries_22 (tr_10_46 hl0) c3 ?_
      refine es_iinc 1 dX10_tries_23 rfl (by decide) (by decide) rfl ?_
      refine ev_goto 2 dX10_tries_26 (by decide) ?_
      exact ev_ls (ih l0 (l1 + 1) (sp S (rf l0 46) (Int32.toNatClampNeg (80 + l1)) (sg S (rf l0 46) (Int32.toNatClampNeg l1))) hl0 hB) (And.intro rfl (And.intro rfl trivial))
theorem t_X10_tries {G : am_G} {N : Nat} {l0 : Nat} {S : am_S} {out : am_S} (hl0 : isC 10 l0 = true) (hB : f_X10_tries N l0 S = some out) : am_Met G 1 mX10_tries 0 0 [.ref l0] (hp S) (q_v out) q_n := by
  refine am_of (by decide +kernel) rfl rfl rfl (Nat.le_of_ble_eq_true rfl) ?_
  unfold f_X10_tries at hB
  refine ev_iconst 0 dX10_tries_0 (by decide) ?_
  refine ev_istore_n dX10_tries_1 (by decide) rfl ?_
  exact ev_ls (u_X10_tries_2 N l0 0 S hl0 hB) (And.intro rfl (And.intro rfl trivial))
def b_X10_works_117 (N : Nat) (z0 : Int32) (S : am_S) : Option (Int32 × am_S) := some (z0, S)
def b_X10_works_93 (N : Nat) (z0 : Int32) (S : am_S) : Option (Int32 × am_S) := some (z0, S)
def b_X10_works_82 (N : Nat) (z0 : Int32) (S : am_S) : Option (Int32 × am_S) := some (z0, S)
def b_X10_works_71 (N : Nat) (z0 : Int32) (S : am_S) : Option (Int32 × am_S) := some (z0, S)
def b_X10_works_66 (N : Nat)  (S : am_S) : Option (Int32 × am_S) := b_X10_works_71 N 1 S
def b_X10_works_57 (N : Nat) (z0 : Int32) (S : am_S) : Option (Int32 × am_S) := some (z0, S)
def b_X10_works_56 (N : Nat)  (S : am_S) : Option (Int32 × am_S) := b_X10_works_57 N 0 S
def f_X10_works (N : Nat) (l0 : Int32) (l1 : Int32) (l2 : Int32) (S : am_S) : Option (Int32 × am_S) := (if l0 = 4 then (if l1 = 0 then b_X10_works_56 N S else (if l2 = 0 then b_X10_works_56 N S else b_X10_works_57 N 1 S)) else (if l0 = 5 then (if l1 = 0 then (if l2 = 0 then b_X10_works_71 N 0 S else b_X10_works_66 N S) else b_X10_works_66 N S) else (if l0 = 6 then (if l2 ≤ l1 then b_X10_works_82 N 0 S else b_X10_works_82 N 1 S) else (if l0 = 7 then (if l1 = l2 then b_X10_works_93 N 1 S else b_X10_works_93 N 0 S) else (if l0 = 8 then some ((l1 + l2), S) else (if l0 = 9 then some ((l1 - l2), S) else (if l0 = 10 then some ((l1 * l2), S) else (if l2 = 0 then b_X10_works_117 N 0 S else (if l2 = 0 then none else b_X10_works_117 N (l1 / l2) S)))))))))
theorem u_X10_works_117 {G : am_G} {N : Nat} {h0 : am_H} {out : Int32 × am_S} (z0 : Int32) (S : am_S) (hB : b_X10_works_117 N z0 S = some out) : Ev G (am_R 1 0 0) (am_Φ G h0 0 0 (q_i out) q_n) mX10_works 0 0 117 [none, none, none] [.int z0] (hp S) := by
  unfold b_X10_works_117 at hB
  obtain rfl := Option.some.inj hB
  exact ev_iret dX10_works_117 rfl (Nat.zero_le _) (Nat.zero_le _) (fun z => absurd z (hp_sealed _)) ⟨rfl, rfl⟩
theorem u_X10_works_93 {G : am_G} {N : Nat} {h0 : am_H} {out : Int32 × am_S} (z0 : Int32) (S : am_S) (hB : b_X10_works_93 N z0 S = some out) : Ev G (am_R 1 0 0) (am_Φ G h0 0 0 (q_i out) q_n) mX10_works 0 0 93 [none, none, none] [.int z0] (hp S) := by
  unfold b_X10_works_93 at hB
  obtain rfl := Option.some.inj hB
  exact ev_iret dX10_works_93 rfl (Nat.zero_le _) (Nat.zero_le _) (fun z => absurd z (hp_sealed _)) ⟨rfl, rfl⟩
theorem u_X10_works_82 {G : am_G} {N : Nat} {h0 : am_H} {out : Int32 × am_S} (z0 : Int32) (S : am_S) (hB : b_X10_works_82 N z0 S = some out) : Ev G (am_R 1 0 0) (am_Φ G h0 0 0 (q_i out) q_n) mX10_works 0 0 82 [none, none, none] [.int z0] (hp S) := by
  unfold b_X10_works_82 at hB
  obtain rfl := Option.some.inj hB
  exact ev_iret dX10_works_82 rfl (Nat.zero_le _) (Nat.zero_le _) (fun z => absurd z (hp_sealed _)) ⟨rfl, rfl⟩
theorem u_X10_works_71 {G : am_G} {N : Nat} {h0 : am_H} {out : Int32 × am_S} (z0 : Int32) (S : am_S) (hB : b_X10_works_71 N z0 S = some out) : Ev G (am_R 1 0 0) (am_Φ G h0 0 0 (q_i out) q_n) mX10_works 0 0 71 [none, none, none] [.int z0] (hp S) := by
  unfold b_X10_works_71 at hB
  obtain rfl := Option.some.inj hB
  exact ev_iret dX10_works_71 rfl (Nat.zero_le _) (Nat.zero_le _) (fun z => absurd z (hp_sealed _)) ⟨rfl, rfl⟩
theorem u_X10_works_66 {G : am_G} {N : Nat} {h0 : am_H} {out : Int32 × am_S}  (S : am_S) (hB : b_X10_works_66 N  S = some out) : Ev G (am_R 1 0 0) (am_Φ G h0 0 0 (q_i out) q_n) mX10_works 0 0 66 [none, none, none] [] (hp S) := by
  unfold b_X10_works_66 at hB
  refine ev_iconst 1 dX10_works_66 (by decide) ?_
  refine ev_goto 71 dX10_works_67 (by decide) ?_
  exact ev_ls (u_X10_works_71 1 S hB) trivial
theorem u_X10_works_57 {G : am_G} {N : Nat} {h0 : am_H} {out : Int32 × am_S} (z0 : Int32) (S : am_S) (hB : b_X10_works_57 N z0 S = some out) : Ev G (am_R 1 0 0) (am_Φ G h0 0 0 (q_i out) q_n) mX10_works 0 0 57 [none, none, none] [.int z0] (hp S) := by
  unfold b_X10_works_57 at hB
  obtain rfl := Option.some.inj hB
  exact ev_iret dX10_works_57 rfl (Nat.zero_le _) (Nat.zero_le _) (fun z => absurd z (hp_sealed _)) ⟨rfl, rfl⟩
theorem u_X10_works_56 {G : am_G} {N : Nat} {h0 : am_H} {out : Int32 × am_S}  (S : am_S) (hB : b_X10_works_56 N  S = some out) : Ev G (am_R 1 0 0) (am_Φ G h0 0 0 (q_i out) q_n) mX10_works 0 0 56 [none, none, none] [] (hp S) := by
  unfold b_X10_works_56 at hB
  refine ev_iconst 0 dX10_works_56 (by decide) ?_
  exact ev_ls (u_X10_works_57 0 S hB) trivial
theorem t_X10_works {G : am_G} {N : Nat} {l0 : Int32} {l1 : Int32} {l2 : Int32} {S : am_S} {out : Int32 × am_S} (hB : f_X10_works N l0 l1 l2 S = some out) : am_Met G 1 mX10_works 0 0 [.int l0, .int l1, .int l2] (hp S) (q_i out) q_n := by
  refine am_of (by decide +kernel) rfl rfl rfl (Nat.le_of_ble_eq_true rfl) ?_
  unfold f_X10_works at hB
  refine ev_iload_n dX10_works_0 rfl ?_
  by_cases q3 : l0 = 4
  · rw [if_pos q3] at hB
    refine ev_tableIn (off := 43) 44 dX10_works_1 (by rw [q3]; decide) (by rw [q3]; decide) (by rw [q3]; rfl) (by decide) ?_
    refine ev_iload_n dX10_works_44 rfl ?_
    refine ev_ifeq 56 dX10_works_45 (by decide) (fun q1 => ?_) (fun q1 => ?_)
    · rw [if_pos q1] at hB
      exact ev_ls (u_X10_works_56 S hB) trivial
    · rw [if_neg q1] at hB
      refine ev_iload_n dX10_works_48 rfl ?_
      refine ev_ifeq 56 dX10_works_49 (by decide) (fun q2 => ?_) (fun q2 => ?_)
      · rw [if_pos q2] at hB
        exact ev_ls (u_X10_works_56 S hB) trivial
      · rw [if_neg q2] at hB
        refine ev_iconst 1 dX10_works_52 (by decide) ?_
        refine ev_goto 57 dX10_works_53 (by decide) ?_
        exact ev_ls (u_X10_works_57 1 S hB) trivial
  rw [if_neg q3] at hB
  have tq3 := am_nt (k := 4) q3 (by decide)
  by_cases q6 : l0 = 5
  · rw [if_pos q6] at hB
    refine ev_tableIn (off := 57) 58 dX10_works_1 (by rw [q6]; decide) (by rw [q6]; decide) (by rw [q6]; rfl) (by decide) ?_
    refine ev_iload_n dX10_works_58 rfl ?_
    refine ev_ifne 66 dX10_works_59 (by decide) (fun q4 => ?_) (fun q4 => ?_)
    · rw [if_neg q4] at hB
      exact ev_ls (u_X10_works_66 S hB) trivial
    · rw [if_pos q4] at hB
      refine ev_iload_n dX10_works_62 rfl ?_
      refine ev_ifeq 70 dX10_works_63 (by decide) (fun q5 => ?_) (fun q5 => ?_)
      · rw [if_pos q5] at hB
        refine ev_iconst 0 dX10_works_70 (by decide) ?_
        exact ev_ls (u_X10_works_71 0 S hB) trivial
      · rw [if_neg q5] at hB
        exact ev_ls (u_X10_works_66 S hB) trivial
  rw [if_neg q6] at hB
  have tq6 := am_nt (k := 5) q6 (by decide)
  by_cases q8 : l0 = 6
  · rw [if_pos q8] at hB
    refine ev_tableIn (off := 71) 72 dX10_works_1 (by rw [q8]; decide) (by rw [q8]; decide) (by rw [q8]; rfl) (by decide) ?_
    refine ev_iload_n dX10_works_72 rfl ?_
    refine ev_iload_n dX10_works_73 rfl ?_
    refine ev_icmpge 81 dX10_works_74 (by decide) (fun q7 => ?_) (fun q7 => ?_)
    · rw [if_pos q7] at hB
      refine ev_iconst 0 dX10_works_81 (by decide) ?_
      exact ev_ls (u_X10_works_82 0 S hB) trivial
    · rw [if_neg q7] at hB
      refine ev_iconst 1 dX10_works_77 (by decide) ?_
      refine ev_goto 82 dX10_works_78 (by decide) ?_
      exact ev_ls (u_X10_works_82 1 S hB) trivial
  rw [if_neg q8] at hB
  have tq8 := am_nt (k := 6) q8 (by decide)
  by_cases q10 : l0 = 7
  · rw [if_pos q10] at hB
    refine ev_tableIn (off := 82) 83 dX10_works_1 (by rw [q10]; decide) (by rw [q10]; decide) (by rw [q10]; rfl) (by decide) ?_
    refine ev_iload_n dX10_works_83 rfl ?_
    refine ev_iload_n dX10_works_84 rfl ?_
    refine ev_icmpne 92 dX10_works_85 (by decide) (fun q9 => ?_) (fun q9 => ?_)
    · rw [if_neg q9] at hB
      refine ev_iconst 0 dX10_works_92 (by decide) ?_
      exact ev_ls (u_X10_works_93 0 S hB) trivial
    · rw [if_pos q9] at hB
      refine ev_iconst 1 dX10_works_88 (by decide) ?_
      refine ev_goto 93 dX10_works_89 (by decide) ?_
      exact ev_ls (u_X10_works_93 1 S hB) trivial
  rw [if_neg q10] at hB
  have tq10 := am_nt (k := 7) q10 (by decide)
  by_cases q11 : l0 = 8
  · rw [if_pos q11] at hB
    refine ev_tableIn (off := 93) 94 dX10_works_1 (by rw [q11]; decide) (by rw [q11]; decide) (by rw [q11]; rfl) (by decide) ?_
    refine ev_iload_n dX10_works_94 rfl ?_
    refine ev_iload_n dX10_works_95 rfl ?_
    refine ev_iadd dX10_works_96 ?_
    obtain rfl := Option.some.inj hB
    exact ev_iret dX10_works_97 rfl (Nat.zero_le _) (Nat.zero_le _) (fun z => absurd z (hp_sealed _)) ⟨rfl, rfl⟩
  rw [if_neg q11] at hB
  have tq11 := am_nt (k := 8) q11 (by decide)
  by_cases q12 : l0 = 9
  · rw [if_pos q12] at hB
    refine ev_tableIn (off := 97) 98 dX10_works_1 (by rw [q12]; decide) (by rw [q12]; decide) (by rw [q12]; rfl) (by decide) ?_
    refine ev_iload_n dX10_works_98 rfl ?_
    refine ev_iload_n dX10_works_99 rfl ?_
    refine ev_isub dX10_works_100 ?_
    obtain rfl := Option.some.inj hB
    exact ev_iret dX10_works_101 rfl (Nat.zero_le _) (Nat.zero_le _) (fun z => absurd z (hp_sealed _)) ⟨rfl, rfl⟩
  rw [if_neg q12] at hB
  have tq12 := am_nt (k := 9) q12 (by decide)
  by_cases q13 : l0 = 10
  · rw [if_pos q13] at hB
    refine ev_tableIn (off := 101) 102 dX10_works_1 (by rw [q13]; decide) (by rw [q13]; decide) (by rw [q13]; rfl) (by decide) ?_
    refine ev_iload_n dX10_works_102 rfl ?_
    refine ev_iload_n dX10_works_103 rfl ?_
    refine ev_imul dX10_works_104 ?_
    obtain rfl := Option.some.inj hB
    exact ev_iret dX10_works_105 rfl (Nat.zero_le _) (Nat.zero_le _) (fun z => absurd z (hp_sealed _)) ⟨rfl, rfl⟩
  rw [if_neg q13] at hB
  have tq13 := am_nt (k := 10) q13 (by decide)
  refine ev_tableOut 106 dX10_works_1 (by omega) (by decide) ?_
  refine ev_iload_n dX10_works_106 rfl ?_
  refine ev_ifne 114 dX10_works_107 (by decide) (fun q14 => ?_) (fun q14 => ?_)
  · rw [if_neg q14] at hB
    refine ev_iload_n dX10_works_114 rfl ?_
    refine ev_iload_n dX10_works_115 rfl ?_
    obtain ⟨c15, hB⟩ := ckn_of hB
    refine ev_idiv dX10_works_116 c15 ?_
    exact ev_ls (u_X10_works_117 (l1 / l2) S hB) trivial
  · rw [if_pos q14] at hB
    refine ev_iconst 0 dX10_works_110 (by decide) ?_
    refine ev_goto 117 dX10_works_111 (by decide) ?_
    exact ev_ls (u_X10_works_117 0 S hB) trivial
def b_X10_reckons_140 (N : Nat) (k4 : Nat → Int32 → Int32 → am_S → Option (Int32 × am_S)) (l0 : Nat) (l2 : Int32) (l3 : Int32) (S : am_S) : Option (Int32 × am_S) := k4 l0 l2 l3 S
def b_X10_reckons_67 (N : Nat) (k4 : Nat → Int32 → Int32 → am_S → Option (Int32 × am_S)) (l0 : Nat) (l2 : Int32) (l3 : Int32) (z0 : Nat) (z1 : Int32) (z2 : Int32) (S : am_S) : Option (Int32 × am_S) := (if inb z1 (ln z0) = true then b_X10_reckons_140 N (k4) l0 (l2 + 1) (l3 + 1) (sp S z0 (Int32.toNatClampNeg z1) z2) else none)
def b_X10_reckons_36 (N : Nat) (k4 : Nat → Int32 → Int32 → am_S → Option (Int32 × am_S)) (l0 : Nat) (l2 : Int32) (l3 : Int32) (l4 : Int32) (S : am_S) : Option (Int32 × am_S) := (if l4 = 1 then (if inb l3 (ln (rf l0 12)) = true then b_X10_reckons_67 N (k4) l0 l2 l3 (rf l0 50) l2 (sg S (rf l0 12) (Int32.toNatClampNeg l3)) S else none) else (if inb l3 (ln (rf l0 12)) = true then (if inb (sg S (rf l0 12) (Int32.toNatClampNeg l3)) (ln (rf l0 49)) = true then b_X10_reckons_67 N (k4) l0 l2 l3 (rf l0 50) l2 (sg S (rf l0 49) (Int32.toNatClampNeg (sg S (rf l0 12) (Int32.toNatClampNeg l3)))) S else none) else none))
def b_X10_reckons_106 (N : Nat) (k4 : Nat → Int32 → Int32 → am_S → Option (Int32 × am_S)) (l0 : Nat) (l2 : Int32) (l3 : Int32) (z0 : Nat) (z1 : Int32) (z2 : Int32) (S : am_S) : Option (Int32 × am_S) := (if inb z1 (ln z0) = true then b_X10_reckons_140 N (k4) l0 l2 l3 (sp S z0 (Int32.toNatClampNeg z1) z2) else none)
def b_X10_reckons_4 (N : Nat) : Nat → Nat → Int32 → Int32 → am_S → Option (Int32 × am_S)
  | 0, _, _, _, _ => none
  | n + 1, l0, l2, l3, S => (if inb l3 (ln (rf l0 12)) = true then (if (sg S (rf l0 12) (Int32.toNatClampNeg l3)) = 0 then (if inb 0 (ln (rf l0 50)) = true then some ((sg S (rf l0 50) (Int32.toNatClampNeg 0)), S) else none) else (if inb l3 (ln (rf l0 12)) = true then (if (sg S (rf l0 12) (Int32.toNatClampNeg l3)) = 1 then b_X10_reckons_36 N (b_X10_reckons_4 N n) l0 l2 (l3 + 1) (sg S (rf l0 12) (Int32.toNatClampNeg l3)) S else (if (sg S (rf l0 12) (Int32.toNatClampNeg l3)) = 2 then b_X10_reckons_36 N (b_X10_reckons_4 N n) l0 l2 (l3 + 1) (sg S (rf l0 12) (Int32.toNatClampNeg l3)) S else (if (sg S (rf l0 12) (Int32.toNatClampNeg l3)) = 3 then (if inb (l2 - 1) (ln (rf l0 50)) = true then (if (sg S (rf l0 50) (Int32.toNatClampNeg (l2 - 1))) = 0 then b_X10_reckons_106 N (b_X10_reckons_4 N n) l0 l2 (l3 + 1) (rf l0 50) (l2 - 1) 1 S else b_X10_reckons_106 N (b_X10_reckons_4 N n) l0 l2 (l3 + 1) (rf l0 50) (l2 - 1) 0 S) else none) else (if inb ((l2 + (-1)) - 1) (ln (rf l0 50)) = true then (if inb (l2 + (-1)) (ln (rf l0 50)) = true then (bd (f_X10_works N (sg S (rf l0 12) (Int32.toNatClampNeg l3)) (sg S (rf l0 50) (Int32.toNatClampNeg ((l2 + (-1)) - 1))) (sg S (rf l0 50) (Int32.toNatClampNeg (l2 + (-1)))) S) (fun r10 S11 => (if inb ((l2 + (-1)) - 1) (ln (rf l0 50)) = true then b_X10_reckons_140 N (b_X10_reckons_4 N n) l0 (l2 + (-1)) (l3 + 1) (sp S11 (rf l0 50) (Int32.toNatClampNeg ((l2 + (-1)) - 1)) r10) else none))) else none) else none)))) else none)) else none)
def f_X10_reckons (N : Nat) (l0 : Nat) (l1 : Int32) (S : am_S) : Option (Int32 × am_S) := b_X10_reckons_4 N N l0 0 l1 S
theorem u_X10_reckons_140 {G : am_G} {N : Nat} {h0 : am_H} {out : Int32 × am_S} {k4 : Nat → Int32 → Int32 → am_S → Option (Int32 × am_S)} (hk4 : ∀ (l0 : Nat) (l2 : Int32) (l3 : Int32) (S : am_S), isC 10 l0 = true → k4 l0 l2 l3 S = some out → Ev G (am_R 2 0 0) (am_Φ G h0 0 0 (q_i out) q_n) mX10_reckons 0 0 4 [some (.ref l0), none, some (.int l2), some (.int l3), none] [] (hp S)) (l0 : Nat) (l2 : Int32) (l3 : Int32) (S : am_S) (hl0 : isC 10 l0 = true) (hB : b_X10_reckons_140 N k4 l0 l2 l3 S = some out) : Ev G (am_R 2 0 0) (am_Φ G h0 0 0 (q_i out) q_n) mX10_reckons 0 0 140 [some (.ref l0), none, some (.int l2), some (.int l3), none] [] (hp S) := by
  unfold b_X10_reckons_140 at hB
  refine ev_goto 4 dX10_reckons_140 (by decide) ?_
  exact ev_ls (hk4 l0 l2 l3 S hl0 hB) (And.intro rfl (And.intro rfl (And.intro rfl trivial)))
theorem u_X10_reckons_67 {G : am_G} {N : Nat} {h0 : am_H} {out : Int32 × am_S} {k4 : Nat → Int32 → Int32 → am_S → Option (Int32 × am_S)} (hk4 : ∀ (l0 : Nat) (l2 : Int32) (l3 : Int32) (S : am_S), isC 10 l0 = true → k4 l0 l2 l3 S = some out → Ev G (am_R 2 0 0) (am_Φ G h0 0 0 (q_i out) q_n) mX10_reckons 0 0 4 [some (.ref l0), none, some (.int l2), some (.int l3), none] [] (hp S)) (l0 : Nat) (l2 : Int32) (l3 : Int32) (z0 : Nat) (z1 : Int32) (z2 : Int32) (S : am_S) (hl0 : isC 10 l0 = true) (hz0 : isAr 1 z0 = true) (hB : b_X10_reckons_67 N k4 l0 l2 l3 z0 z1 z2 S = some out) : Ev G (am_R 2 0 0) (am_Φ G h0 0 0 (q_i out) q_n) mX10_reckons 0 0 67 [some (.ref l0), none, some (.int l2), some (.int l3), none] [.int z2, .int z1, .ref z0] (hp S) := by
  unfold b_X10_reckons_67 at hB
  obtain ⟨c1, hB⟩ := ck_of hB
  refine es_iast dX10_reckons_67 hz0 c1 ?_
  refine es_iinc 1 dX10_reckons_68 rfl (by decide) (by decide) rfl ?_
  refine es_iinc 1 dX10_reckons_71 rfl (by decide) (by decide) rfl ?_
  refine ev_goto 140 dX10_reckons_74 (by decide) ?_
  exact ev_ls (u_X10_reckons_140 hk4 l0 (l2 + 1) (l3 + 1) (sp S z0 (Int32.toNatClampNeg z1) z2) hl0 hB) (And.intro rfl (And.intro rfl (And.intro rfl trivial)))
theorem u_X10_reckons_36 {G : am_G} {N : Nat} {h0 : am_H} {out : Int32 × am_S} {k4 : Nat → Int32 → Int32 → am_S → Option (Int32 × am_S)} (hk4 : ∀ (l0 : Nat) (l2 : Int32) (l3 : Int32) (S : am_S), isC 10 l0 = true → k4 l0 l2 l3 S = some out → Ev G (am_R 2 0 0) (am_Φ G h0 0 0 (q_i out) q_n) mX10_reckons 0 0 4 [some (.ref l0), none, some (.int l2), some (.int l3), none] [] (hp S)) (l0 : Nat) (l2 : Int32) (l3 : Int32) (l4 : Int32) (S : am_S) (hl0 : isC 10 l0 = true) (hB : b_X10_reckons_36 N k4 l0 l2 l3 l4 S = some out) : Ev G (am_R 2 0 0) (am_Φ G h0 0 0 (q_i out) q_n) mX10_reckons 0 0 36 [some (.ref l0), none, some (.int l2), some (.int l3), some (.int l4)] [] (hp S) := by
  unfold b_X10_reckons_36 at hB
  refine ev_aload_n dX10_reckons_36 rfl ?_
  refine es_getr k_10 50 dX10_reckons_37 (by decide) rfl (Or.inl w_1575) hl0 rfl ?_
  refine ev_iload_n dX10_reckons_40 rfl ?_
  refine ev_iload dX10_reckons_41 rfl ?_
  refine ev_iconst 1 dX10_reckons_43 (by decide) ?_
  refine ev_icmpne 56 dX10_reckons_44 (by decide) (fun q1 => ?_) (fun q1 => ?_)
  · rw [if_neg q1] at hB
    refine ev_aload_n dX10_reckons_56 rfl ?_
    refine es_getr k_10 49 dX10_reckons_57 (by decide) rfl (Or.inl w_1574) hl0 rfl ?_
    refine ev_aload_n dX10_reckons_60 rfl ?_
    refine es_getr k_10 12 dX10_reckons_61 (by decide) rfl (Or.inl w_1537) hl0 rfl ?_
    refine ev_iload_n dX10_reckons_64 rfl ?_
    obtain ⟨c2, hB⟩ := ck_of hB
    refine es_iald dX10_reckons_65 (tr_10_12 hl0) c2 ?_
    obtain ⟨c3, hB⟩ := ck_of hB
    refine es_iald dX10_reckons_66 (tr_10_49 hl0) c3 ?_
    exact ev_ls (u_X10_reckons_67 hk4 l0 l2 l3 (rf l0 50) l2 (sg S (rf l0 49) (Int32.toNatClampNeg (sg S (rf l0 12) (Int32.toNatClampNeg l3)))) S hl0 (tr_10_50 hl0) hB) (And.intro rfl (And.intro rfl (And.intro rfl trivial)))
  · rw [if_pos q1] at hB
    refine ev_aload_n dX10_reckons_47 rfl ?_
    refine es_getr k_10 12 dX10_reckons_48 (by decide) rfl (Or.inl w_1537) hl0 rfl ?_
    refine ev_iload_n dX10_reckons_51 rfl ?_
    obtain ⟨c4, hB⟩ := ck_of hB
    refine es_iald dX10_reckons_52 (tr_10_12 hl0) c4 ?_
    refine ev_goto 67 dX10_reckons_53 (by decide) ?_
    exact ev_ls (u_X10_reckons_67 hk4 l0 l2 l3 (rf l0 50) l2 (sg S (rf l0 12) (Int32.toNatClampNeg l3)) S hl0 (tr_10_50 hl0) hB) (And.intro rfl (And.intro rfl (And.intro rfl trivial)))
theorem u_X10_reckons_106 {G : am_G} {N : Nat} {h0 : am_H} {out : Int32 × am_S} {k4 : Nat → Int32 → Int32 → am_S → Option (Int32 × am_S)} (hk4 : ∀ (l0 : Nat) (l2 : Int32) (l3 : Int32) (S : am_S), isC 10 l0 = true → k4 l0 l2 l3 S = some out → Ev G (am_R 2 0 0) (am_Φ G h0 0 0 (q_i out) q_n) mX10_reckons 0 0 4 [some (.ref l0), none, some (.int l2), some (.int l3), none] [] (hp S)) (l0 : Nat) (l2 : Int32) (l3 : Int32) (z0 : Nat) (z1 : Int32) (z2 : Int32) (S : am_S) (hl0 : isC 10 l0 = true) (hz0 : isAr 1 z0 = true) (hB : b_X10_reckons_106 N k4 l0 l2 l3 z0 z1 z2 S = some out) : Ev G (am_R 2 0 0) (am_Φ G h0 0 0 (q_i out) q_n) mX10_reckons 0 0 106 [some (.ref l0), none, some (.int l2), some (.int l3), none] [.int z2, .int z1, .ref z0] (hp S) := by
  unfold b_X10_reckons_106 at hB
  obtain ⟨c1, hB⟩ := ck_of hB
  refine es_iast dX10_reckons_106 hz0 c1 ?_
  refine ev_goto 140 dX10_reckons_107 (by decide) ?_
  exact ev_ls (u_X10_reckons_140 hk4 l0 l2 l3 (sp S z0 (Int32.toNatClampNeg z1) z2) hl0 hB) (And.intro rfl (And.intro rfl (And.intro rfl trivial)))
theorem u_X10_reckons_4 {G : am_G} {N : Nat} {h0 : am_H} {out : Int32 × am_S} : ∀ (n : Nat) (l0 : Nat) (l2 : Int32) (l3 : Int32) (S : am_S), isC 10 l0 = true → b_X10_reckons_4 N n l0 l2 l3 S = some out → Ev G (am_R 2 0 0) (am_Φ G h0 0 0 (q_i out) q_n) mX10_reckons 0 0 4 [some (.ref l0), none, some (.int l2), some (.int l3), none] [] (hp S) := by
  intro n
  induction n with
  | zero =>
    intro l0 l2 l3 S hl0 hB
    exact absurd (show none = some out from hB) (fun q => by cases q)
  | succ n ih =>
    intro l0 l2 l3 S hl0 hB
    unfold b_X10_reckons_4 at hB
    refine ev_aload_n dX10_reckons_4 rfl ?_
    refine es_getr k_10 12 dX10_reckons_5 (by decide) rfl (Or.inl w_1537) hl0 rfl ?_
    refine ev_iload_n dX10_reckons_8 rfl ?_
    obtain ⟨c1, hB⟩ := ck_of hB
    refine es_iald dX10_reckons_9 (tr_10_12 hl0) c1 ?_
    refine ev_ifeq 143 dX10_reckons_10 (by decide) (fun q2 => ?_) (fun q2 => ?_)
    · rw [if_pos q2] at hB
      refine ev_aload_n dX10_reckons_143 rfl ?_
      refine es_getr k_10 50 dX10_reckons_144 (by decide) rfl (Or.inl w_1575) hl0 rfl ?_
      refine ev_iconst 0 dX10_reckons_147 (by decide) ?_
      obtain ⟨c3, hB⟩ := ck_of hB
      refine es_iald dX10_reckons_148 (tr_10_50 hl0) c3 ?_
      obtain rfl := Option.some.inj hB
      exact ev_iret dX10_reckons_149 rfl (Nat.zero_le _) (Nat.zero_le _) (fun z => absurd z (hp_sealed _)) ⟨rfl, rfl⟩
    · rw [if_neg q2] at hB
      refine ev_aload_n dX10_reckons_13 rfl ?_
      refine es_getr k_10 12 dX10_reckons_14 (by decide) rfl (Or.inl w_1537) hl0 rfl ?_
      refine ev_iload_n dX10_reckons_17 rfl ?_
      obtain ⟨c4, hB⟩ := ck_of hB
      refine es_iald dX10_reckons_18 (tr_10_12 hl0) c4 ?_
      refine ev_istore dX10_reckons_19 (by decide) rfl ?_
      refine es_iinc 1 dX10_reckons_21 rfl (by decide) (by decide) rfl ?_
      refine ev_iload dX10_reckons_24 rfl ?_
      refine ev_iconst 1 dX10_reckons_26 (by decide) ?_
      refine ev_icmpeq 36 dX10_reckons_27 (by decide) (fun q5 => ?_) (fun q5 => ?_)
      · rw [if_pos q5] at hB
        exact ev_ls (u_X10_reckons_36 ih l0 l2 (l3 + 1) (sg S (rf l0 12) (Int32.toNatClampNeg l3)) S hl0 hB) (And.intro rfl (And.intro rfl (And.intro rfl (And.intro rfl trivial))))
      · rw [if_neg q5] at hB
        refine ev_iload dX10_reckons_30 rfl ?_
        refine ev_iconst 2 dX10_reckons_32 (by decide) ?_
        refine ev_icmpne 77 dX10_reckons_33 (by decide) (fun q6 => ?_) (fun q6 => ?_)
        · rw [if_neg q6] at hB
          refine ev_iload dX10_reckons_77 rfl ?_
          refine ev_iconst 3 dX10_reckons_79 (by decide) ?_
          refine ev_icmpne 110 dX10_reckons_80 (by decide) (fun q7 => ?_) (fun q7 => ?_)
          · rw [if_neg q7] at hB
            refine es_iinc (-1) dX10_reckons_110 rfl (by decide) (by decide) rfl ?_
            refine ev_aload_n dX10_reckons_113 rfl ?_
            refine es_getr k_10 50 dX10_reckons_114 (by decide) rfl (Or.inl w_1575) hl0 rfl ?_
            refine ev_iload_n dX10_reckons_117 rfl ?_
            refine ev_iconst 1 dX10_reckons_118 (by decide) ?_
            refine ev_isub dX10_reckons_119 ?_
            refine ev_iload dX10_reckons_120 rfl ?_
            refine ev_aload_n dX10_reckons_122 rfl ?_
            refine es_getr k_10 50 dX10_reckons_123 (by decide) rfl (Or.inl w_1575) hl0 rfl ?_
            refine ev_iload_n dX10_reckons_126 rfl ?_
            refine ev_iconst 1 dX10_reckons_127 (by decide) ?_
            refine ev_isub dX10_reckons_128 ?_
            obtain ⟨c8, hB⟩ := ck_of hB
            refine es_iald dX10_reckons_129 (tr_10_50 hl0) c8 ?_
            refine ev_aload_n dX10_reckons_130 rfl ?_
            refine es_getr k_10 50 dX10_reckons_131 (by decide) rfl (Or.inl w_1575) hl0 rfl ?_
            refine ev_iload_n dX10_reckons_134 rfl ?_
            obtain ⟨c9, hB⟩ := ck_of hB
            refine es_iald dX10_reckons_135 (tr_10_50 hl0) c9 ?_
            obtain ⟨r10, S11, e12, hB⟩ := bd_of hB
            refine es_callSi (As := [.int (sg S (rf l0 12) (Int32.toNatClampNeg l3)), .int (sg S (rf l0 50) (Int32.toNatClampNeg ((l2 + (-1)) - 1))), .int (sg S (rf l0 50) (Int32.toNatClampNeg (l2 + (-1))))]) (t_X10_works e12) dX10_reckons_136 oX10_works w_1977 rfl (Nat.le_of_ble_eq_true rfl) rfl (am_fit.of (by decide)) ⟨Nat.zero_le _, Nat.zero_le _⟩ ?_
            obtain ⟨c13, hB⟩ := ck_of hB
            refine es_iast dX10_reckons_139 (tr_10_50 hl0) c13 ?_
            exact ev_ls (u_X10_reckons_140 ih l0 (l2 + (-1)) (l3 + 1) (sp S11 (rf l0 50) (Int32.toNatClampNeg ((l2 + (-1)) - 1)) r10) hl0 hB) (And.intro rfl (And.intro rfl (And.intro rfl trivial)))
          · rw [if_pos q7] at hB
            refine ev_aload_n dX10_reckons_83 rfl ?_
            refine es_getr k_10 50 dX10_reckons_84 (by decide) rfl (Or.inl w_1575) hl0 rfl ?_
            refine ev_iload_n dX10_reckons_87 rfl ?_
            refine ev_iconst 1 dX10_reckons_88 (by decide) ?_
            refine ev_isub dX10_reckons_89 ?_
            refine ev_aload_n dX10_reckons_90 rfl ?_
            refine es_getr k_10 50 dX10_reckons_91 (by decide) rfl (Or.inl w_1575) hl0 rfl ?_
            refine ev_iload_n dX10_reckons_94 rfl ?_
            refine ev_iconst 1 dX10_reckons_95 (by decide) ?_
            refine ev_isub dX10_reckons_96 ?_
            obtain ⟨c14, hB⟩ := ck_of hB
            refine es_iald dX10_reckons_97 (tr_10_50 hl0) c14 ?_
            refine ev_ifne 105 dX10_reckons_98 (by decide) (fun q15 => ?_) (fun q15 => ?_)
            · rw [if_neg q15] at hB
              refine ev_iconst 0 dX10_reckons_105 (by decide) ?_
              exact ev_ls (u_X10_reckons_106 ih l0 l2 (l3 + 1) (rf l0 50) (l2 - 1) 0 S hl0 (tr_10_50 hl0) hB) (And.intro rfl (And.intro rfl (And.intro rfl trivial)))
            · rw [if_pos q15] at hB
              refine ev_iconst 1 dX10_reckons_101 (by decide) ?_
              refine ev_goto 106 dX10_reckons_102 (by decide) ?_
              exact ev_ls (u_X10_reckons_106 ih l0 l2 (l3 + 1) (rf l0 50) (l2 - 1) 1 S hl0 (tr_10_50 hl0) hB) (And.intro rfl (And.intro rfl (And.intro rfl trivial)))
        · rw [if_pos q6] at hB
          exact ev_ls (u_X10_reckons_36 ih l0 l2 (l3 + 1) (sg S (rf l0 12) (Int32.toNatClampNeg l3)) S hl0 hB) (And.intro rfl (And.intro rfl (And.intro rfl (And.intro rfl trivial))))
theorem t_X10_reckons {G : am_G} {N : Nat} {l0 : Nat} {l1 : Int32} {S : am_S} {out : Int32 × am_S} (hl0 : isC 10 l0 = true) (hB : f_X10_reckons N l0 l1 S = some out) : am_Met G 2 mX10_reckons 0 0 [.ref l0, .int l1] (hp S) (q_i out) q_n := by
  refine am_of (by decide +kernel) rfl rfl rfl (Nat.le_of_ble_eq_true rfl) ?_
  unfold f_X10_reckons at hB
  refine ev_iconst 0 dX10_reckons_0 (by decide) ?_
  refine ev_istore_n dX10_reckons_1 (by decide) rfl ?_
  refine ev_iload_n dX10_reckons_2 rfl ?_
  refine ev_istore_n dX10_reckons_3 (by decide) rfl ?_
  exact ev_ls (u_X10_reckons_4 N l0 0 l1 S hl0 hB) (And.intro rfl (And.intro rfl (And.intro rfl trivial)))
def b_X10_wetIn_44 (N : Nat) (z0 : Int32) (S : am_S) : Option (Int32 × am_S) := some (z0, S)
def f_X10_wetIn (N : Nat) (l0 : Nat) (l1 : Int32) (S : am_S) : Option (Int32 × am_S) := (if (sg S l0 51) = (-1) then (if (sg S l0 4) = 0 then b_X10_wetIn_44 N 2 S else (if inb (l1 + 0) (ln (rf l0 46)) = true then (if (sg S l0 4) = 0 then none else (if inb ((sg S (rf l0 46) (Int32.toNatClampNeg (l1 + 0))) - (sg S (rf l0 46) (Int32.toNatClampNeg (l1 + 0))) / (sg S l0 4) * (sg S l0 4)) (ln (rf l0 11)) = true then b_X10_wetIn_44 N (sg S (rf l0 11) (Int32.toNatClampNeg ((sg S (rf l0 46) (Int32.toNatClampNeg (l1 + 0))) - (sg S (rf l0 46) (Int32.toNatClampNeg (l1 + 0))) / (sg S l0 4) * (sg S l0 4)))) S else none)) else none)) else b_X10_wetIn_44 N (sg S l0 51) S)
theorem u_X10_wetIn_44 {G : am_G} {N : Nat} {h0 : am_H} {out : Int32 × am_S} (z0 : Int32) (S : am_S) (hB : b_X10_wetIn_44 N z0 S = some out) : Ev G (am_R 1 0 0) (am_Φ G h0 0 0 (q_i out) q_n) mX10_wetIn 0 0 44 [none, none] [.int z0] (hp S) := by
  unfold b_X10_wetIn_44 at hB
  obtain rfl := Option.some.inj hB
  exact ev_iret dX10_wetIn_44 rfl (Nat.zero_le _) (Nat.zero_le _) (fun z => absurd z (hp_sealed _)) ⟨rfl, rfl⟩
theorem t_X10_wetIn {G : am_G} {N : Nat} {l0 : Nat} {l1 : Int32} {S : am_S} {out : Int32 × am_S} (hl0 : isC 10 l0 = true) (hB : f_X10_wetIn N l0 l1 S = some out) : am_Met G 1 mX10_wetIn 0 0 [.ref l0, .int l1] (hp S) (q_i out) q_n := by
  refine am_of (by decide +kernel) rfl rfl rfl (Nat.le_of_ble_eq_true rfl) ?_
  unfold f_X10_wetIn at hB
  refine ev_aload_n dX10_wetIn_0 rfl ?_
  refine es_geti k_10 51 dX10_wetIn_1 (by decide) rfl (Or.inl w_1576) hl0 rfl ?_
  refine ev_iconst (-1) dX10_wetIn_4 (by decide) ?_
  refine ev_icmpeq 15 dX10_wetIn_5 (by decide) (fun q1 => ?_) (fun q1 => ?_)
  · rw [if_pos q1] at hB
    refine ev_aload_n dX10_wetIn_15 rfl ?_
    refine es_geti k_10 4 dX10_wetIn_16 (by decide) rfl (Or.inl w_1529) hl0 rfl ?_
    refine ev_ifne 26 dX10_wetIn_19 (by decide) (fun q2 => ?_) (fun q2 => ?_)
    · rw [if_neg q2] at hB
      refine ev_aload_n dX10_wetIn_26 rfl ?_
      refine es_getr k_10 11 dX10_wetIn_27 (by decide) rfl (Or.inl w_1536) hl0 rfl ?_
      refine ev_aload_n dX10_wetIn_30 rfl ?_
      refine es_getr k_10 46 dX10_wetIn_31 (by decide) rfl (Or.inl w_1571) hl0 rfl ?_
      refine ev_iload_n dX10_wetIn_34 rfl ?_
      refine ev_iconst 0 dX10_wetIn_35 (by decide) ?_
      refine ev_iadd dX10_wetIn_36 ?_
      obtain ⟨c3, hB⟩ := ck_of hB
      refine es_iald dX10_wetIn_37 (tr_10_46 hl0) c3 ?_
      refine ev_aload_n dX10_wetIn_38 rfl ?_
      refine es_geti k_10 4 dX10_wetIn_39 (by decide) rfl (Or.inl w_1529) hl0 rfl ?_
      obtain ⟨c4, hB⟩ := ckn_of hB
      refine ev_irem dX10_wetIn_42 c4 ?_
      obtain ⟨c5, hB⟩ := ck_of hB
      refine es_iald dX10_wetIn_43 (tr_10_11 hl0) c5 ?_
      exact ev_ls (u_X10_wetIn_44 (sg S (rf l0 11) (Int32.toNatClampNeg ((sg S (rf l0 46) (Int32.toNatClampNeg (l1 + 0))) - (sg S (rf l0 46) (Int32.toNatClampNeg (l1 + 0))) / (sg S l0 4) * (sg S l0 4)))) S hB) trivial
    · rw [if_pos q2] at hB
      refine ev_iconst 2 dX10_wetIn_22 (by decide) ?_
      refine ev_goto 44 dX10_wetIn_23 (by decide) ?_
      exact ev_ls (u_X10_wetIn_44 2 S hB) trivial
  · rw [if_neg q1] at hB
    refine ev_aload_n dX10_wetIn_8 rfl ?_
    refine es_geti k_10 51 dX10_wetIn_9 (by decide) rfl (Or.inl w_1576) hl0 rfl ?_
    refine ev_goto 44 dX10_wetIn_12 (by decide) ?_
    exact ev_ls (u_X10_wetIn_44 (sg S l0 51) S hB) trivial
def b_X10_comesOn_62 (N : Nat) (z0 : Int32) (S : am_S) : Option (Int32 × am_S) := some (z0, S)
def f_X10_comesOn (N : Nat) (l0 : Nat) (l1 : Int32) (S : am_S) : Option (Int32 × am_S) := (if (sg S l0 1) = 0 then some ((-1), S) else (if (sg S l0 52) = 0 then (if (sg S l0 3) = 0 then (if (sg S l0 1) = 0 then none else b_X10_comesOn_62 N (l1 - l1 / (sg S l0 1) * (sg S l0 1)) S) else (if (sg S l0 3) = 0 then none else (if inb (l1 - l1 / (sg S l0 3) * (sg S l0 3)) (ln (rf l0 10)) = true then b_X10_comesOn_62 N (sg S (rf l0 10) (Int32.toNatClampNeg (l1 - l1 / (sg S l0 3) * (sg S l0 3)))) S else none))) else (if inb 0 (ln (rf l0 46)) = true then (if (sg S l0 1) = 0 then none else (if inb ((l1 - (sg S (rf l0 46) (Int32.toNatClampNeg 0))) - (l1 - (sg S (rf l0 46) (Int32.toNatClampNeg 0))) / (sg S l0 1) * (sg S l0 1)) (ln (rf l0 53)) = true then some ((sg S (rf l0 53) (Int32.toNatClampNeg ((l1 - (sg S (rf l0 46) (Int32.toNatClampNeg 0))) - (l1 - (sg S (rf l0 46) (Int32.toNatClampNeg 0))) / (sg S l0 1) * (sg S l0 1)))), S) else none)) else none)))
theorem u_X10_comesOn_62 {G : am_G} {N : Nat} {h0 : am_H} {out : Int32 × am_S} (z0 : Int32) (S : am_S) (hB : b_X10_comesOn_62 N z0 S = some out) : Ev G (am_R 1 0 0) (am_Φ G h0 0 0 (q_i out) q_n) mX10_comesOn 0 0 62 [none, none] [.int z0] (hp S) := by
  unfold b_X10_comesOn_62 at hB
  obtain rfl := Option.some.inj hB
  exact ev_iret dX10_comesOn_62 rfl (Nat.zero_le _) (Nat.zero_le _) (fun z => absurd z (hp_sealed _)) ⟨rfl, rfl⟩
theorem t_X10_comesOn {G : am_G} {N : Nat} {l0 : Nat} {l1 : Int32} {S : am_S} {out : Int32 × am_S} (hl0 : isC 10 l0 = true) (hB : f_X10_comesOn N l0 l1 S = some out) : am_Met G 1 mX10_comesOn 0 0 [.ref l0, .int l1] (hp S) (q_i out) q_n := by
  refine am_of (by decide +kernel) rfl rfl rfl (Nat.le_of_ble_eq_true rfl) ?_
  unfold f_X10_comesOn at hB
  refine ev_aload_n dX10_comesOn_0 rfl ?_
  refine es_geti k_10 1 dX10_comesOn_1 (by decide) rfl (Or.inl w_1526) hl0 rfl ?_
  refine ev_ifne 9 dX10_comesOn_4 (by decide) (fun q1 => ?_) (fun q1 => ?_)
  · rw [if_neg q1] at hB
    refine ev_aload_n dX10_comesOn_9 rfl ?_
    refine es_geti k_10 52 dX10_comesOn_10 (by decide) rfl (Or.inl w_1577) hl0 rfl ?_
    refine ev_ifeq 35 dX10_comesOn_13 (by decide) (fun q2 => ?_) (fun q2 => ?_)
    · rw [if_pos q2] at hB
      refine ev_aload_n dX10_comesOn_35 rfl ?_
      refine es_geti k_10 3 dX10_comesOn_36 (by decide) rfl (Or.inl w_1528) hl0 rfl ?_
      refine ev_ifne 51 dX10_comesOn_39 (by decide) (fun q3 => ?_) (fun q3 => ?_)
      · rw [if_neg q3] at hB
        refine ev_aload_n dX10_comesOn_51 rfl ?_
        refine es_getr k_10 10 dX10_comesOn_52 (by decide) rfl (Or.inl w_1535) hl0 rfl ?_
        refine ev_iload_n dX10_comesOn_55 rfl ?_
        refine ev_aload_n dX10_comesOn_56 rfl ?_
        refine es_geti k_10 3 dX10_comesOn_57 (by decide) rfl (Or.inl w_1528) hl0 rfl ?_
        obtain ⟨c4, hB⟩ := ckn_of hB
        refine ev_irem dX10_comesOn_60 c4 ?_
        obtain ⟨c5, hB⟩ := ck_of hB
        refine es_iald dX10_comesOn_61 (tr_10_10 hl0) c5 ?_
        exact ev_ls (u_X10_comesOn_62 (sg S (rf l0 10) (Int32.toNatClampNeg (l1 - l1 / (sg S l0 3) * (sg S l0 3)))) S hB) trivial
      · rw [if_pos q3] at hB
        refine ev_iload_n dX10_comesOn_42 rfl ?_
        refine ev_aload_n dX10_comesOn_43 rfl ?_
        refine es_geti k_10 1 dX10_comesOn_44 (by decide) rfl (Or.inl w_1526) hl0 rfl ?_
        obtain ⟨c6, hB⟩ := ckn_of hB
        refine ev_irem dX10_comesOn_47 c6 ?_
        refine ev_goto 62 dX10_comesOn_48 (by decide) ?_
        exact ev_ls (u_X10_comesOn_62 (l1 - l1 / (sg S l0 1) * (sg S l0 1)) S hB) trivial
    · rw [if_neg q2] at hB
      refine ev_aload_n dX10_comesOn_16 rfl ?_
      refine es_getr k_10 53 dX10_comesOn_17 (by decide) rfl (Or.inl w_1578) hl0 rfl ?_
      refine ev_iload_n dX10_comesOn_20 rfl ?_
      refine ev_aload_n dX10_comesOn_21 rfl ?_
      refine es_getr k_10 46 dX10_comesOn_22 (by decide) rfl (Or.inl w_1571) hl0 rfl ?_
      refine ev_iconst 0 dX10_comesOn_25 (by decide) ?_
      obtain ⟨c7, hB⟩ := ck_of hB
      refine es_iald dX10_comesOn_26 (tr_10_46 hl0) c7 ?_
      refine ev_isub dX10_comesOn_27 ?_
      refine ev_aload_n dX10_comesOn_28 rfl ?_
      refine es_geti k_10 1 dX10_comesOn_29 (by decide) rfl (Or.inl w_1526) hl0 rfl ?_
      obtain ⟨c8, hB⟩ := ckn_of hB
      refine ev_irem dX10_comesOn_32 c8 ?_
      obtain ⟨c9, hB⟩ := ck_of hB
      refine es_iald dX10_comesOn_33 (tr_10_53 hl0) c9 ?_
      obtain rfl := Option.some.inj hB
      exact ev_iret dX10_comesOn_34 rfl (Nat.zero_le _) (Nat.zero_le _) (fun z => absurd z (hp_sealed _)) ⟨rfl, rfl⟩
  · rw [if_pos q1] at hB
    refine ev_iconst (-1) dX10_comesOn_7 (by decide) ?_
    obtain rfl := Option.some.inj hB
    exact ev_iret dX10_comesOn_8 rfl (Nat.zero_le _) (Nat.zero_le _) (fun z => absurd z (hp_sealed _)) ⟨rfl, rfl⟩
def b_X10_boxOf_52 (N : Nat) (k4 : Nat → Int32 → Int32 → Int32 → am_S → Option (Int32 × am_S)) (l0 : Nat) (l1 : Int32) (l2 : Int32) (l3 : Int32) (S : am_S) : Option (Int32 × am_S) := k4 l0 l1 l2 (l3 + 1) S
def b_X10_boxOf_50 (N : Nat) (k4 : Nat → Int32 → Int32 → Int32 → am_S → Option (Int32 × am_S)) (l0 : Nat) (l1 : Int32) (l3 : Int32) (S : am_S) : Option (Int32 × am_S) := b_X10_boxOf_52 N (k4) l0 l1 l3 l3 S
def b_X10_boxOf_4 (N : Nat) : Nat → Nat → Int32 → Int32 → Int32 → am_S → Option (Int32 × am_S)
  | 0, _, _, _, _, _ => none
  | n + 1, l0, l1, l2, l3, S => (if (sg S l0 1) ≤ l3 then some (l2, S) else (if l2 = (-1) then b_X10_boxOf_50 N (b_X10_boxOf_4 N n) l0 l1 l3 S else (if inb l3 (ln (rf l0 7)) = true then (if inb l1 (ln (rf l0 8)) = true then (bd (f_X10_off N (sg S (rf l0 7) (Int32.toNatClampNeg l3)) (sg S (rf l0 8) (Int32.toNatClampNeg l1)) S) (fun r5 S6 => (if inb l2 (ln (rf l0 7)) = true then (if inb l1 (ln (rf l0 8)) = true then (bd (f_X10_off N (sg S6 (rf l0 7) (Int32.toNatClampNeg l2)) (sg S6 (rf l0 8) (Int32.toNatClampNeg l1)) S6) (fun r10 S11 => (if r10 ≤ r5 then b_X10_boxOf_52 N (b_X10_boxOf_4 N n) l0 l1 l2 l3 S11 else b_X10_boxOf_50 N (b_X10_boxOf_4 N n) l0 l1 l3 S11))) else none) else none))) else none) else none)))
def f_X10_boxOf (N : Nat) (l0 : Nat) (l1 : Int32) (S : am_S) : Option (Int32 × am_S) := b_X10_boxOf_4 N N l0 l1 (-1) 0 S
theorem u_X10_boxOf_52 {G : am_G} {N : Nat} {h0 : am_H} {out : Int32 × am_S} {k4 : Nat → Int32 → Int32 → Int32 → am_S → Option (Int32 × am_S)} (hk4 : ∀ (l0 : Nat) (l1 : Int32) (l2 : Int32) (l3 : Int32) (S : am_S), isC 10 l0 = true → k4 l0 l1 l2 l3 S = some out → Ev G (am_R 2 0 0) (am_Φ G h0 0 0 (q_i out) q_n) mX10_boxOf 0 0 4 [some (.ref l0), some (.int l1), some (.int l2), some (.int l3)] [] (hp S)) (l0 : Nat) (l1 : Int32) (l2 : Int32) (l3 : Int32) (S : am_S) (hl0 : isC 10 l0 = true) (hB : b_X10_boxOf_52 N k4 l0 l1 l2 l3 S = some out) : Ev G (am_R 2 0 0) (am_Φ G h0 0 0 (q_i out) q_n) mX10_boxOf 0 0 52 [some (.ref l0), some (.int l1), some (.int l2), some (.int l3)] [] (hp S) := by
  unfold b_X10_boxOf_52 at hB
  refine es_iinc 1 dX10_boxOf_52 rfl (by decide) (by decide) rfl ?_
  refine ev_goto 4 dX10_boxOf_55 (by decide) ?_
  exact ev_ls (hk4 l0 l1 l2 (l3 + 1) S hl0 hB) (And.intro rfl (And.intro rfl (And.intro rfl (And.intro rfl trivial))))
theorem u_X10_boxOf_50 {G : am_G} {N : Nat} {h0 : am_H} {out : Int32 × am_S} {k4 : Nat → Int32 → Int32 → Int32 → am_S → Option (Int32 × am_S)} (hk4 : ∀ (l0 : Nat) (l1 : Int32) (l2 : Int32) (l3 : Int32) (S : am_S), isC 10 l0 = true → k4 l0 l1 l2 l3 S = some out → Ev G (am_R 2 0 0) (am_Φ G h0 0 0 (q_i out) q_n) mX10_boxOf 0 0 4 [some (.ref l0), some (.int l1), some (.int l2), some (.int l3)] [] (hp S)) (l0 : Nat) (l1 : Int32) (l3 : Int32) (S : am_S) (hl0 : isC 10 l0 = true) (hB : b_X10_boxOf_50 N k4 l0 l1 l3 S = some out) : Ev G (am_R 2 0 0) (am_Φ G h0 0 0 (q_i out) q_n) mX10_boxOf 0 0 50 [some (.ref l0), some (.int l1), none, some (.int l3)] [] (hp S) := by
  unfold b_X10_boxOf_50 at hB
  refine ev_iload_n dX10_boxOf_50 rfl ?_
  refine ev_istore_n dX10_boxOf_51 (by decide) rfl ?_
  exact ev_ls (u_X10_boxOf_52 hk4 l0 l1 l3 l3 S hl0 hB) (And.intro rfl (And.intro rfl (And.intro rfl (And.intro rfl trivial))))
theorem u_X10_boxOf_4 {G : am_G} {N : Nat} {h0 : am_H} {out : Int32 × am_S} : ∀ (n : Nat) (l0 : Nat) (l1 : Int32) (l2 : Int32) (l3 : Int32) (S : am_S), isC 10 l0 = true → b_X10_boxOf_4 N n l0 l1 l2 l3 S = some out → Ev G (am_R 2 0 0) (am_Φ G h0 0 0 (q_i out) q_n) mX10_boxOf 0 0 4 [some (.ref l0), some (.int l1), some (.int l2), some (.int l3)] [] (hp S) := by
  intro n
  induction n with
  | zero =>
    intro l0 l1 l2 l3 S hl0 hB
    exact absurd (show none = some out from hB) (fun q => by cases q)
  | succ n ih =>
    intro l0 l1 l2 l3 S hl0 hB
    unfold b_X10_boxOf_4 at hB
    refine ev_iload_n dX10_boxOf_4 rfl ?_
    refine ev_aload_n dX10_boxOf_5 rfl ?_
    refine es_geti k_10 1 dX10_boxOf_6 (by decide) rfl (Or.inl w_1526) hl0 rfl ?_
    refine ev_icmpge 58 dX10_boxOf_9 (by decide) (fun q1 => ?_) (fun q1 => ?_)
    · rw [if_pos q1] at hB
      refine ev_iload_n dX10_boxOf_58 rfl ?_
      obtain rfl := Option.some.inj hB
      exact ev_iret dX10_boxOf_59 rfl (Nat.zero_le _) (Nat.zero_le _) (fun z => absurd z (hp_sealed _)) ⟨rfl, rfl⟩
    · rw [if_neg q1] at hB
      refine ev_iload_n dX10_boxOf_12 rfl ?_
      refine ev_iconst (-1) dX10_boxOf_13 (by decide) ?_
      refine ev_icmpeq 50 dX10_boxOf_14 (by decide) (fun q2 => ?_) (fun q2 => ?_)
      · rw [if_pos q2] at hB
        exact ev_ls (u_X10_boxOf_50 ih l0 l1 l3 S hl0 hB) (And.intro rfl (And.intro rfl (And.intro rfl trivial)))
      · rw [if_neg q2] at hB
        refine ev_aload_n dX10_boxOf_17 rfl ?_
        refine es_getr k_10 7 dX10_boxOf_18 (by decide) rfl (Or.inl w_1532) hl0 rfl ?_
        refine ev_iload_n dX10_boxOf_21 rfl ?_
        obtain ⟨c3, hB⟩ := ck_of hB
        refine es_iald dX10_boxOf_22 (tr_10_7 hl0) c3 ?_
        refine ev_aload_n dX10_boxOf_23 rfl ?_
        refine es_getr k_10 8 dX10_boxOf_24 (by decide) rfl (Or.inl w_1533) hl0 rfl ?_
        refine ev_iload_n dX10_boxOf_27 rfl ?_
        obtain ⟨c4, hB⟩ := ck_of hB
        refine es_iald dX10_boxOf_28 (tr_10_8 hl0) c4 ?_
        obtain ⟨r5, S6, e7, hB⟩ := bd_of hB
        refine es_callSi (As := [.int (sg S (rf l0 7) (Int32.toNatClampNeg l3)), .int (sg S (rf l0 8) (Int32.toNatClampNeg l1))]) (t_X10_off e7) dX10_boxOf_29 oX10_off w_1930 rfl (Nat.le_of_ble_eq_true rfl) rfl (am_fit.of (by decide)) ⟨Nat.zero_le _, Nat.zero_le _⟩ ?_
        refine ev_aload_n dX10_boxOf_32 rfl ?_
        refine es_getr k_10 7 dX10_boxOf_33 (by decide) rfl (Or.inl w_1532) hl0 rfl ?_
        refine ev_iload_n dX10_boxOf_36 rfl ?_
        obtain ⟨c8, hB⟩ := ck_of hB
        refine es_iald dX10_boxOf_37 (tr_10_7 hl0) c8 ?_
        refine ev_aload_n dX10_boxOf_38 rfl ?_
        refine es_getr k_10 8 dX10_boxOf_39 (by decide) rfl (Or.inl w_1533) hl0 rfl ?_
        refine ev_iload_n dX10_boxOf_42 rfl ?_
        obtain ⟨c9, hB⟩ := ck_of hB
        refine es_iald dX10_boxOf_43 (tr_10_8 hl0) c9 ?_
        obtain ⟨r10, S11, e12, hB⟩ := bd_of hB
        refine es_callSi (As := [.int (sg S6 (rf l0 7) (Int32.toNatClampNeg l2)), .int (sg S6 (rf l0 8) (Int32.toNatClampNeg l1))]) (t_X10_off e12) dX10_boxOf_44 oX10_off w_1930 rfl (Nat.le_of_ble_eq_true rfl) rfl (am_fit.of (by decide)) ⟨Nat.zero_le _, Nat.zero_le _⟩ ?_
        refine ev_icmpge 52 dX10_boxOf_47 (by decide) (fun q13 => ?_) (fun q13 => ?_)
        · rw [if_pos q13] at hB
          exact ev_ls (u_X10_boxOf_52 ih l0 l1 l2 l3 S11 hl0 hB) (And.intro rfl (And.intro rfl (And.intro rfl (And.intro rfl trivial))))
        · rw [if_neg q13] at hB
          exact ev_ls (u_X10_boxOf_50 ih l0 l1 l3 S11 hl0 hB) (And.intro rfl (And.intro rfl (And.intro rfl trivial)))
theorem t_X10_boxOf {G : am_G} {N : Nat} {l0 : Nat} {l1 : Int32} {S : am_S} {out : Int32 × am_S} (hl0 : isC 10 l0 = true) (hB : f_X10_boxOf N l0 l1 S = some out) : am_Met G 2 mX10_boxOf 0 0 [.ref l0, .int l1] (hp S) (q_i out) q_n := by
  refine am_of (by decide +kernel) rfl rfl rfl (Nat.le_of_ble_eq_true rfl) ?_
  unfold f_X10_boxOf at hB
  refine ev_iconst (-1) dX10_boxOf_0 (by decide) ?_
  refine ev_istore_n dX10_boxOf_1 (by decide) rfl ?_
  refine ev_iconst 0 dX10_boxOf_2 (by decide) ?_
  refine ev_istore_n dX10_boxOf_3 (by decide) rfl ?_
  exact ev_ls (u_X10_boxOf_4 N l0 l1 (-1) 0 S hl0 hB) (And.intro rfl (And.intro rfl (And.intro rfl (And.intro rfl trivial))))
def b_X10_heldIn_5 (N : Nat) : Nat → Nat → Int32 → Int32 → Int32 → Int32 → am_S → Option (Int32 × am_S)
  | 0, _, _, _, _, _, _ => none
  | n + 1, l0, l1, l2, l3, l4, S => (if (sg S l0 2) ≤ l4 then some (l3, S) else (if inb (((l1 + 8) + (8 * l2)) + l4) (ln (rf l0 46)) = true then b_X10_heldIn_5 N n l0 l1 l2 (l3 + (sg S (rf l0 46) (Int32.toNatClampNeg (((l1 + 8) + (8 * l2)) + l4)))) (l4 + 1) S else none))
def f_X10_heldIn (N : Nat) (l0 : Nat) (l1 : Int32) (l2 : Int32) (S : am_S) : Option (Int32 × am_S) := b_X10_heldIn_5 N N l0 l1 l2 0 0 S
theorem u_X10_heldIn_5 {G : am_G} {N : Nat} {h0 : am_H} {out : Int32 × am_S} : ∀ (n : Nat) (l0 : Nat) (l1 : Int32) (l2 : Int32) (l3 : Int32) (l4 : Int32) (S : am_S), isC 10 l0 = true → b_X10_heldIn_5 N n l0 l1 l2 l3 l4 S = some out → Ev G (am_R 1 0 0) (am_Φ G h0 0 0 (q_i out) q_n) mX10_heldIn 0 0 5 [some (.ref l0), some (.int l1), some (.int l2), some (.int l3), some (.int l4)] [] (hp S) := by
  intro n
  induction n with
  | zero =>
    intro l0 l1 l2 l3 l4 S hl0 hB
    exact absurd (show none = some out from hB) (fun q => by cases q)
  | succ n ih =>
    intro l0 l1 l2 l3 l4 S hl0 hB
    unfold b_X10_heldIn_5 at hB
    refine ev_iload dX10_heldIn_5 rfl ?_
    refine ev_aload_n dX10_heldIn_7 rfl ?_
    refine es_geti k_10 2 dX10_heldIn_8 (by decide) rfl (Or.inl w_1527) hl0 rfl ?_
    refine ev_icmpge 40 dX10_heldIn_11 (by decide) (fun q1 => ?_) (fun q1 => ?_)
    · rw [if_pos q1] at hB
      refine ev_iload_n dX10_heldIn_40 rfl ?_
      obtain rfl := Option.some.inj hB
      exact ev_iret dX10_heldIn_41 rfl (Nat.zero_le _) (Nat.zero_le _) (fun z => absurd z (hp_sealed _)) ⟨rfl, rfl⟩
    · rw [if_neg q1] at hB
      refine ev_iload_n dX10_heldIn_14 rfl ?_
      refine ev_aload_n dX10_heldIn_15 rfl ?_
      refine es_getr k_10 46 dX10_heldIn_16 (by decide) rfl (Or.inl w_1571) hl0 rfl ?_
      refine ev_iload_n dX10_heldIn_19 rfl ?_
      refine ev_bipush 8 dX10_heldIn_20 (by decide) ?_
      refine ev_iadd dX10_heldIn_22 ?_
      refine ev_bipush 8 dX10_heldIn_23 (by decide) ?_
      refine ev_iload_n dX10_heldIn_25 rfl ?_
      refine ev_imul dX10_heldIn_26 ?_
      refine ev_iadd dX10_heldIn_27 ?_
      refine ev_iload dX10_heldIn_28 rfl ?_
      refine ev_iadd dX10_heldIn_30 ?_
      obtain ⟨c2, hB⟩ := ck_of hB
      refine es_iald dX10_heldIn_31 (tr_10_46 hl0) c2 ?_
      refine ev_iadd dX10_heldIn_32 ?_
      refine ev_istore_n dX10_heldIn_33 (by decide) rfl ?_
      refine es_iinc 1 dX10_heldIn_34 rfl (by decide) (by decide) rfl ?_
      refine ev_goto 5 dX10_heldIn_37 (by decide) ?_
      exact ev_ls (ih l0 l1 l2 (l3 + (sg S (rf l0 46) (Int32.toNatClampNeg (((l1 + 8) + (8 * l2)) + l4)))) (l4 + 1) S hl0 hB) (And.intro rfl (And.intro rfl (And.intro rfl (And.intro rfl (And.intro rfl trivial)))))
theorem t_X10_heldIn {G : am_G} {N : Nat} {l0 : Nat} {l1 : Int32} {l2 : Int32} {S : am_S} {out : Int32 × am_S} (hl0 : isC 10 l0 = true) (hB : f_X10_heldIn N l0 l1 l2 S = some out) : am_Met G 1 mX10_heldIn 0 0 [.ref l0, .int l1, .int l2] (hp S) (q_i out) q_n := by
  refine am_of (by decide +kernel) rfl rfl rfl (Nat.le_of_ble_eq_true rfl) ?_
  unfold f_X10_heldIn at hB
  refine ev_iconst 0 dX10_heldIn_0 (by decide) ?_
  refine ev_istore_n dX10_heldIn_1 (by decide) rfl ?_
  refine ev_iconst 0 dX10_heldIn_2 (by decide) ?_
  refine ev_istore dX10_heldIn_3 (by decide) rfl ?_
  exact ev_ls (u_X10_heldIn_5 N l0 l1 l2 0 0 S hl0 hB) (And.intro rfl (And.intro rfl (And.intro rfl (And.intro rfl (And.intro rfl trivial)))))
def b_X10_heldOf_5 (N : Nat) : Nat → Nat → Int32 → Int32 → Int32 → Int32 → am_S → Option (Int32 × am_S)
  | 0, _, _, _, _, _, _ => none
  | n + 1, l0, l1, l2, l3, l4, S => (if (sg S l0 1) ≤ l4 then some (l3, S) else (if inb (((l1 + 8) + (8 * l4)) + l2) (ln (rf l0 46)) = true then b_X10_heldOf_5 N n l0 l1 l2 (l3 + (sg S (rf l0 46) (Int32.toNatClampNeg (((l1 + 8) + (8 * l4)) + l2)))) (l4 + 1) S else none))
def f_X10_heldOf (N : Nat) (l0 : Nat) (l1 : Int32) (l2 : Int32) (S : am_S) : Option (Int32 × am_S) := b_X10_heldOf_5 N N l0 l1 l2 0 0 S
theorem u_X10_heldOf_5 {G : am_G} {N : Nat} {h0 : am_H} {out : Int32 × am_S} : ∀ (n : Nat) (l0 : Nat) (l1 : Int32) (l2 : Int32) (l3 : Int32) (l4 : Int32) (S : am_S), isC 10 l0 = true → b_X10_heldOf_5 N n l0 l1 l2 l3 l4 S = some out → Ev G (am_R 1 0 0) (am_Φ G h0 0 0 (q_i out) q_n) mX10_heldOf 0 0 5 [some (.ref l0), some (.int l1), some (.int l2), some (.int l3), some (.int l4)] [] (hp S) := by
  intro n
  induction n with
  | zero =>
    intro l0 l1 l2 l3 l4 S hl0 hB
    exact absurd (show none = some out from hB) (fun q => by cases q)
  | succ n ih =>
    intro l0 l1 l2 l3 l4 S hl0 hB
    unfold b_X10_heldOf_5 at hB
    refine ev_iload dX10_heldOf_5 rfl ?_
    refine ev_aload_n dX10_heldOf_7 rfl ?_
    refine es_geti k_10 1 dX10_heldOf_8 (by decide) rfl (Or.inl w_1526) hl0 rfl ?_
    refine ev_icmpge 40 dX10_heldOf_11 (by decide) (fun q1 => ?_) (fun q1 => ?_)
    · rw [if_pos q1] at hB
      refine ev_iload_n dX10_heldOf_40 rfl ?_
      obtain rfl := Option.some.inj hB
      exact ev_iret dX10_heldOf_41 rfl (Nat.zero_le _) (Nat.zero_le _) (fun z => absurd z (hp_sealed _)) ⟨rfl, rfl⟩
    · rw [if_neg q1] at hB
      refine ev_iload_n dX10_heldOf_14 rfl ?_
      refine ev_aload_n dX10_heldOf_15 rfl ?_
      refine es_getr k_10 46 dX10_heldOf_16 (by decide) rfl (Or.inl w_1571) hl0 rfl ?_
      refine ev_iload_n dX10_heldOf_19 rfl ?_
      refine ev_bipush 8 dX10_heldOf_20 (by decide) ?_
      refine ev_iadd dX10_heldOf_22 ?_
      refine ev_bipush 8 dX10_heldOf_23 (by decide) ?_
      refine ev_iload dX10_heldOf_25 rfl ?_
      refine ev_imul dX10_heldOf_27 ?_
      refine ev_iadd dX10_heldOf_28 ?_
      refine ev_iload_n dX10_heldOf_29 rfl ?_
      refine ev_iadd dX10_heldOf_30 ?_
      obtain ⟨c2, hB⟩ := ck_of hB
      refine es_iald dX10_heldOf_31 (tr_10_46 hl0) c2 ?_
      refine ev_iadd dX10_heldOf_32 ?_
      refine ev_istore_n dX10_heldOf_33 (by decide) rfl ?_
      refine es_iinc 1 dX10_heldOf_34 rfl (by decide) (by decide) rfl ?_
      refine ev_goto 5 dX10_heldOf_37 (by decide) ?_
      exact ev_ls (ih l0 l1 l2 (l3 + (sg S (rf l0 46) (Int32.toNatClampNeg (((l1 + 8) + (8 * l4)) + l2)))) (l4 + 1) S hl0 hB) (And.intro rfl (And.intro rfl (And.intro rfl (And.intro rfl (And.intro rfl trivial)))))
theorem t_X10_heldOf {G : am_G} {N : Nat} {l0 : Nat} {l1 : Int32} {l2 : Int32} {S : am_S} {out : Int32 × am_S} (hl0 : isC 10 l0 = true) (hB : f_X10_heldOf N l0 l1 l2 S = some out) : am_Met G 1 mX10_heldOf 0 0 [.ref l0, .int l1, .int l2] (hp S) (q_i out) q_n := by
  refine am_of (by decide +kernel) rfl rfl rfl (Nat.le_of_ble_eq_true rfl) ?_
  unfold f_X10_heldOf at hB
  refine ev_iconst 0 dX10_heldOf_0 (by decide) ?_
  refine ev_istore_n dX10_heldOf_1 (by decide) rfl ?_
  refine ev_iconst 0 dX10_heldOf_2 (by decide) ?_
  refine ev_istore dX10_heldOf_3 (by decide) rfl ?_
  exact ev_ls (u_X10_heldOf_5 N l0 l1 l2 0 0 S hl0 hB) (And.intro rfl (And.intro rfl (And.intro rfl (And.intro rfl (And.intro rfl trivial)))))
def b_X10_sumOf_5 (N : Nat) : Nat → Nat → Int32 → Int32 → Int32 → Int32 → am_S → Option (Int32 × am_S)
  | 0, _, _, _, _, _, _ => none
  | n + 1, l0, l1, l2, l3, l4, S => (if (sg S l0 2) ≤ l4 then some (l3, S) else (if inb ((l1 + l2) + l4) (ln (rf l0 46)) = true then b_X10_sumOf_5 N n l0 l1 l2 (l3 + (sg S (rf l0 46) (Int32.toNatClampNeg ((l1 + l2) + l4)))) (l4 + 1) S else none))
def f_X10_sumOf (N : Nat) (l0 : Nat) (l1 : Int32) (l2 : Int32) (S : am_S) : Option (Int32 × am_S) := b_X10_sumOf_5 N N l0 l1 l2 0 0 S
theorem u_X10_sumOf_5 {G : am_G} {N : Nat} {h0 : am_H} {out : Int32 × am_S} : ∀ (n : Nat) (l0 : Nat) (l1 : Int32) (l2 : Int32) (l3 : Int32) (l4 : Int32) (S : am_S), isC 10 l0 = true → b_X10_sumOf_5 N n l0 l1 l2 l3 l4 S = some out → Ev G (am_R 1 0 0) (am_Φ G h0 0 0 (q_i out) q_n) mX10_sumOf 0 0 5 [some (.ref l0), some (.int l1), some (.int l2), some (.int l3), some (.int l4)] [] (hp S) := by
  intro n
  induction n with
  | zero =>
    intro l0 l1 l2 l3 l4 S hl0 hB
    exact absurd (show none = some out from hB) (fun q => by cases q)
  | succ n ih =>
    intro l0 l1 l2 l3 l4 S hl0 hB
    unfold b_X10_sumOf_5 at hB
    refine ev_iload dX10_sumOf_5 rfl ?_
    refine ev_aload_n dX10_sumOf_7 rfl ?_
    refine es_geti k_10 2 dX10_sumOf_8 (by decide) rfl (Or.inl w_1527) hl0 rfl ?_
    refine ev_icmpge 34 dX10_sumOf_11 (by decide) (fun q1 => ?_) (fun q1 => ?_)
    · rw [if_pos q1] at hB
      refine ev_iload_n dX10_sumOf_34 rfl ?_
      obtain rfl := Option.some.inj hB
      exact ev_iret dX10_sumOf_35 rfl (Nat.zero_le _) (Nat.zero_le _) (fun z => absurd z (hp_sealed _)) ⟨rfl, rfl⟩
    · rw [if_neg q1] at hB
      refine ev_iload_n dX10_sumOf_14 rfl ?_
      refine ev_aload_n dX10_sumOf_15 rfl ?_
      refine es_getr k_10 46 dX10_sumOf_16 (by decide) rfl (Or.inl w_1571) hl0 rfl ?_
      refine ev_iload_n dX10_sumOf_19 rfl ?_
      refine ev_iload_n dX10_sumOf_20 rfl ?_
      refine ev_iadd dX10_sumOf_21 ?_
      refine ev_iload dX10_sumOf_22 rfl ?_
      refine ev_iadd dX10_sumOf_24 ?_
      obtain ⟨c2, hB⟩ := ck_of hB
      refine es_iald dX10_sumOf_25 (tr_10_46 hl0) c2 ?_
      refine ev_iadd dX10_sumOf_26 ?_
      refine ev_istore_n dX10_sumOf_27 (by decide) rfl ?_
      refine es_iinc 1 dX10_sumOf_28 rfl (by decide) (by decide) rfl ?_
      refine ev_goto 5 dX10_sumOf_31 (by decide) ?_
      exact ev_ls (ih l0 l1 l2 (l3 + (sg S (rf l0 46) (Int32.toNatClampNeg ((l1 + l2) + l4)))) (l4 + 1) S hl0 hB) (And.intro rfl (And.intro rfl (And.intro rfl (And.intro rfl (And.intro rfl trivial)))))
theorem t_X10_sumOf {G : am_G} {N : Nat} {l0 : Nat} {l1 : Int32} {l2 : Int32} {S : am_S} {out : Int32 × am_S} (hl0 : isC 10 l0 = true) (hB : f_X10_sumOf N l0 l1 l2 S = some out) : am_Met G 1 mX10_sumOf 0 0 [.ref l0, .int l1, .int l2] (hp S) (q_i out) q_n := by
  refine am_of (by decide +kernel) rfl rfl rfl (Nat.le_of_ble_eq_true rfl) ?_
  unfold f_X10_sumOf at hB
  refine ev_iconst 0 dX10_sumOf_0 (by decide) ?_
  refine ev_istore_n dX10_sumOf_1 (by decide) rfl ?_
  refine ev_iconst 0 dX10_sumOf_2 (by decide) ?_
  refine ev_istore dX10_sumOf_3 (by decide) rfl ?_
  exact ev_ls (u_X10_sumOf_5 N l0 l1 l2 0 0 S hl0 hB) (And.intro rfl (And.intro rfl (And.intro rfl (And.intro rfl (And.intro rfl trivial)))))
def b_X10_heldAll_4 (N : Nat) : Nat → Nat → Int32 → Int32 → Int32 → am_S → Option (Int32 × am_S)
  | 0, _, _, _, _, _ => none
  | n + 1, l0, l1, l2, l3, S => (if (sg S l0 1) ≤ l3 then some (l2, S) else (bd (f_X10_heldIn N l0 l1 l3 S) (fun r2 S3 => b_X10_heldAll_4 N n l0 l1 (l2 + r2) (l3 + 1) S3)))
def f_X10_heldAll (N : Nat) (l0 : Nat) (l1 : Int32) (S : am_S) : Option (Int32 × am_S) := b_X10_heldAll_4 N N l0 l1 0 0 S
theorem u_X10_heldAll_4 {G : am_G} {N : Nat} {h0 : am_H} {out : Int32 × am_S} : ∀ (n : Nat) (l0 : Nat) (l1 : Int32) (l2 : Int32) (l3 : Int32) (S : am_S), isC 10 l0 = true → b_X10_heldAll_4 N n l0 l1 l2 l3 S = some out → Ev G (am_R 2 0 0) (am_Φ G h0 0 0 (q_i out) q_n) mX10_heldAll 0 0 4 [some (.ref l0), some (.int l1), some (.int l2), some (.int l3)] [] (hp S) := by
  intro n
  induction n with
  | zero =>
    intro l0 l1 l2 l3 S hl0 hB
    exact absurd (show none = some out from hB) (fun q => by cases q)
  | succ n ih =>
    intro l0 l1 l2 l3 S hl0 hB
    unfold b_X10_heldAll_4 at hB
    refine ev_iload_n dX10_heldAll_4 rfl ?_
    refine ev_aload_n dX10_heldAll_5 rfl ?_
    refine es_geti k_10 1 dX10_heldAll_6 (by decide) rfl (Or.inl w_1526) hl0 rfl ?_
    refine ev_icmpge 27 dX10_heldAll_9 (by decide) (fun q1 => ?_) (fun q1 => ?_)
    · rw [if_pos q1] at hB
      refine ev_iload_n dX10_heldAll_27 rfl ?_
      obtain rfl := Option.some.inj hB
      exact ev_iret dX10_heldAll_28 rfl (Nat.zero_le _) (Nat.zero_le _) (fun z => absurd z (hp_sealed _)) ⟨rfl, rfl⟩
    · rw [if_neg q1] at hB
      refine ev_iload_n dX10_heldAll_12 rfl ?_
      refine ev_aload_n dX10_heldAll_13 rfl ?_
      refine ev_iload_n dX10_heldAll_14 rfl ?_
      refine ev_iload_n dX10_heldAll_15 rfl ?_
      obtain ⟨r2, S3, e4, hB⟩ := bd_of hB
      refine es_callVi (As := [.int l1, .int l3]) (t_X10_heldIn hl0 e4) dX10_heldAll_16 oX10_heldIn w_1890 rfl hl0 rfl rfl (Nat.le_of_ble_eq_true rfl) rfl (am_fit.of (by decide)) ⟨Nat.zero_le _, Nat.zero_le _⟩ ?_
      refine ev_iadd dX10_heldAll_19 ?_
      refine ev_istore_n dX10_heldAll_20 (by decide) rfl ?_
      refine es_iinc 1 dX10_heldAll_21 rfl (by decide) (by decide) rfl ?_
      refine ev_goto 4 dX10_heldAll_24 (by decide) ?_
      exact ev_ls (ih l0 l1 (l2 + r2) (l3 + 1) S3 hl0 hB) (And.intro rfl (And.intro rfl (And.intro rfl (And.intro rfl trivial))))
theorem t_X10_heldAll {G : am_G} {N : Nat} {l0 : Nat} {l1 : Int32} {S : am_S} {out : Int32 × am_S} (hl0 : isC 10 l0 = true) (hB : f_X10_heldAll N l0 l1 S = some out) : am_Met G 2 mX10_heldAll 0 0 [.ref l0, .int l1] (hp S) (q_i out) q_n := by
  refine am_of (by decide +kernel) rfl rfl rfl (Nat.le_of_ble_eq_true rfl) ?_
  unfold f_X10_heldAll at hB
  refine ev_iconst 0 dX10_heldAll_0 (by decide) ?_
  refine ev_istore_n dX10_heldAll_1 (by decide) rfl ?_
  refine ev_iconst 0 dX10_heldAll_2 (by decide) ?_
  refine ev_istore_n dX10_heldAll_3 (by decide) rfl ?_
  exact ev_ls (u_X10_heldAll_4 N l0 l1 0 0 S hl0 hB) (And.intro rfl (And.intro rfl (And.intro rfl (And.intro rfl trivial))))
def f_X10_thinksInto (N : Nat) (l0 : Nat) (l1 : Int32) (l2 : Int32) (l3 : Int32) (S : am_S) : Option (Int32 × am_S) := (if (sg S l0 5) = (-1) then (if inb l2 (ln (rf l0 9)) = true then some ((sg S (rf l0 9) (Int32.toNatClampNeg l2)), S) else none) else (if inb l2 (ln (rf l0 9)) = true then (if inb 0 (ln (rf l0 49)) = true then (if inb ((l1 + 56) + l2) (ln (rf l0 46)) = true then (if inb 1 (ln (rf l0 49)) = true then (if inb ((l1 + 2) + l3) (ln (rf l0 46)) = true then (if inb 2 (ln (rf l0 49)) = true then (bd (f_X10_heldIn N l0 l1 l3 (sp (sp (sp S (rf l0 49) (Int32.toNatClampNeg 0) (sg S (rf l0 9) (Int32.toNatClampNeg l2))) (rf l0 49) (Int32.toNatClampNeg 1) (sg (sp S (rf l0 49) (Int32.toNatClampNeg 0) (sg S (rf l0 9) (Int32.toNatClampNeg l2))) (rf l0 46) (Int32.toNatClampNeg ((l1 + 56) + l2)))) (rf l0 49) (Int32.toNatClampNeg 2) (sg (sp (sp S (rf l0 49) (Int32.toNatClampNeg 0) (sg S (rf l0 9) (Int32.toNatClampNeg l2))) (rf l0 49) (Int32.toNatClampNeg 1) (sg (sp S (rf l0 49) (Int32.toNatClampNeg 0) (sg S (rf l0 9) (Int32.toNatClampNeg l2))) (rf l0 46) (Int32.toNatClampNeg ((l1 + 56) + l2)))) (rf l0 46) (Int32.toNatClampNeg ((l1 + 2) + l3))))) (fun r8 S9 => (if inb 3 (ln (rf l0 49)) = true then (if inb ((l1 + 64) + l2) (ln (rf l0 46)) = true then (if inb 4 (ln (rf l0 49)) = true then (if inb (l1 + 0) (ln (rf l0 46)) = true then (if inb 5 (ln (rf l0 49)) = true then (bd (f_X10_reckons N l0 (sg (sp (sp (sp S9 (rf l0 49) (Int32.toNatClampNeg 3) r8) (rf l0 49) (Int32.toNatClampNeg 4) (sg (sp S9 (rf l0 49) (Int32.toNatClampNeg 3) r8) (rf l0 46) (Int32.toNatClampNeg ((l1 + 64) + l2)))) (rf l0 49) (Int32.toNatClampNeg 5) (sg (sp (sp S9 (rf l0 49) (Int32.toNatClampNeg 3) r8) (rf l0 49) (Int32.toNatClampNeg 4) (sg (sp S9 (rf l0 49) (Int32.toNatClampNeg 3) r8) (rf l0 46) (Int32.toNatClampNeg ((l1 + 64) + l2)))) (rf l0 46) (Int32.toNatClampNeg (l1 + 0)))) l0 5) (sp (sp (sp S9 (rf l0 49) (Int32.toNatClampNeg 3) r8) (rf l0 49) (Int32.toNatClampNeg 4) (sg (sp S9 (rf l0 49) (Int32.toNatClampNeg 3) r8) (rf l0 46) (Int32.toNatClampNeg ((l1 + 64) + l2)))) (rf l0 49) (Int32.toNatClampNeg 5) (sg (sp (sp S9 (rf l0 49) (Int32.toNatClampNeg 3) r8) (rf l0 49) (Int32.toNatClampNeg 4) (sg (sp S9 (rf l0 49) (Int32.toNatClampNeg 3) r8) (rf l0 46) (Int32.toNatClampNeg ((l1 + 64) + l2)))) (rf l0 46) (Int32.toNatClampNeg (l1 + 0))))) (fun r16 S17 => (bd (f_X10_bounded N r16 0 9 S17) (fun r19 S20 => some (r19, S20))))) else none) else none) else none) else none) else none))) else none) else none) else none) else none) else none) else none))
theorem t_X10_thinksInto {G : am_G} {N : Nat} {l0 : Nat} {l1 : Int32} {l2 : Int32} {l3 : Int32} {S : am_S} {out : Int32 × am_S} (hl0 : isC 10 l0 = true) (hB : f_X10_thinksInto N l0 l1 l2 l3 S = some out) : am_Met G 3 mX10_thinksInto 0 0 [.ref l0, .int l1, .int l2, .int l3] (hp S) (q_i out) q_n := by
  refine am_of (by decide +kernel) rfl rfl rfl (Nat.le_of_ble_eq_true rfl) ?_
  unfold f_X10_thinksInto at hB
  refine ev_aload_n dX10_thinksInto_0 rfl ?_
  refine es_geti k_10 5 dX10_thinksInto_1 (by decide) rfl (Or.inl w_1530) hl0 rfl ?_
  refine ev_iconst (-1) dX10_thinksInto_4 (by decide) ?_
  refine ev_icmpne 15 dX10_thinksInto_5 (by decide) (fun q1 => ?_) (fun q1 => ?_)
  · rw [if_neg q1] at hB
    refine ev_aload_n dX10_thinksInto_15 rfl ?_
    refine es_getr k_10 49 dX10_thinksInto_16 (by decide) rfl (Or.inl w_1574) hl0 rfl ?_
    refine ev_iconst 0 dX10_thinksInto_19 (by decide) ?_
    refine ev_aload_n dX10_thinksInto_20 rfl ?_
    refine es_getr k_10 9 dX10_thinksInto_21 (by decide) rfl (Or.inl w_1534) hl0 rfl ?_
    refine ev_iload_n dX10_thinksInto_24 rfl ?_
    obtain ⟨c2, hB⟩ := ck_of hB
    refine es_iald dX10_thinksInto_25 (tr_10_9 hl0) c2 ?_
    obtain ⟨c3, hB⟩ := ck_of hB
    refine es_iast dX10_thinksInto_26 (tr_10_49 hl0) c3 ?_
    refine ev_aload_n dX10_thinksInto_27 rfl ?_
    refine es_getr k_10 49 dX10_thinksInto_28 (by decide) rfl (Or.inl w_1574) hl0 rfl ?_
    refine ev_iconst 1 dX10_thinksInto_31 (by decide) ?_
    refine ev_aload_n dX10_thinksInto_32 rfl ?_
    refine es_getr k_10 46 dX10_thinksInto_33 (by decide) rfl (Or.inl w_1571) hl0 rfl ?_
    refine ev_iload_n dX10_thinksInto_36 rfl ?_
    refine ev_bipush 56 dX10_thinksInto_37 (by decide) ?_
    refine ev_iadd dX10_thinksInto_39 ?_
    refine ev_iload_n dX10_thinksInto_40 rfl ?_
    refine ev_iadd dX10_thinksInto_41 ?_
    obtain ⟨c4, hB⟩ := ck_of hB
    refine es_iald dX10_thinksInto_42 (tr_10_46 hl0) c4 ?_
    obtain ⟨c5, hB⟩ := ck_of hB
    refine es_iast dX10_thinksInto_43 (tr_10_49 hl0) c5 ?_
    refine ev_aload_n dX10_thinksInto_44 rfl ?_
    refine es_getr k_10 49 dX10_thinksInto_45 (by decide) rfl (Or.inl w_1574) hl0 rfl ?_
    refine ev_iconst 2 dX10_thinksInto_48 (by decide) ?_
    refine ev_aload_n dX10_thinksInto_49 rfl ?_
    refine es_getr k_10 46 dX10_thinksInto_50 (by decide) rfl (Or.inl w_1571) hl0 rfl ?_
    refine ev_iload_n dX10_thinksInto_53 rfl ?_
    refine ev_iconst 2 dX10_thinksInto_54 (by decide) ?_
    refine ev_iadd dX10_thinksInto_55 ?_
    refine ev_iload_n dX10_thinksInto_56 rfl ?_
    refine ev_iadd dX10_thinksInto_57 ?_
    obtain ⟨c6, hB⟩ := ck_of hB
    refine es_iald dX10_thinksInto_58 (tr_10_46 hl0) c6 ?_
    obtain ⟨c7, hB⟩ := ck_of hB
    refine es_iast dX10_thinksInto_59 (tr_10_49 hl0) c7 ?_
    refine ev_aload_n dX10_thinksInto_60 rfl ?_
    refine es_getr k_10 49 dX10_thinksInto_61 (by decide) rfl (Or.inl w_1574) hl0 rfl ?_
    refine ev_iconst 3 dX10_thinksInto_64 (by decide) ?_
    refine ev_aload_n dX10_thinksInto_65 rfl ?_
    refine ev_iload_n dX10_thinksInto_66 rfl ?_
    refine ev_iload_n dX10_thinksInto_67 rfl ?_
    obtain ⟨r8, S9, e10, hB⟩ := bd_of hB
    refine es_callVi (As := [.int l1, .int l3]) (t_X10_heldIn hl0 e10) dX10_thinksInto_68 oX10_heldIn w_1890 rfl hl0 rfl rfl (Nat.le_of_ble_eq_true rfl) rfl (am_fit.of (by decide)) ⟨Nat.zero_le _, Nat.zero_le _⟩ ?_
    obtain ⟨c11, hB⟩ := ck_of hB
    refine es_iast dX10_thinksInto_71 (tr_10_49 hl0) c11 ?_
    refine ev_aload_n dX10_thinksInto_72 rfl ?_
    refine es_getr k_10 49 dX10_thinksInto_73 (by decide) rfl (Or.inl w_1574) hl0 rfl ?_
    refine ev_iconst 4 dX10_thinksInto_76 (by decide) ?_
    refine ev_aload_n dX10_thinksInto_77 rfl ?_
    refine es_getr k_10 46 dX10_thinksInto_78 (by decide) rfl (Or.inl w_1571) hl0 rfl ?_
    refine ev_iload_n dX10_thinksInto_81 rfl ?_
    refine ev_bipush 64 dX10_thinksInto_82 (by decide) ?_
    refine ev_iadd dX10_thinksInto_84 ?_
    refine ev_iload_n dX10_thinksInto_85 rfl ?_
    refine ev_iadd dX10_thinksInto_86 ?_
    obtain ⟨c12, hB⟩ := ck_of hB
    refine es_iald dX10_thinksInto_87 (tr_10_46 hl0) c12 ?_
    obtain ⟨c13, hB⟩ := ck_of hB
    refine es_iast dX10_thinksInto_88 (tr_10_49 hl0) c13 ?_
    refine ev_aload_n dX10_thinksInto_89 rfl ?_
    refine es_getr k_10 49 dX10_thinksInto_90 (by decide) rfl (Or.inl w_1574) hl0 rfl ?_
    refine ev_iconst 5 dX10_thinksInto_93 (by decide) ?_
    refine ev_aload_n dX10_thinksInto_94 rfl ?_
    refine es_getr k_10 46 dX10_thinksInto_95 (by decide) rfl (Or.inl w_1571) hl0 rfl ?_
    refine ev_iload_n dX10_thinksInto_98 rfl ?_
    refine ev_iconst 0 dX10_thinksInto_99 (by decide) ?_
    refine ev_iadd dX10_thinksInto_100 ?_
    obtain ⟨c14, hB⟩ := ck_of hB
    refine es_iald dX10_thinksInto_101 (tr_10_46 hl0) c14 ?_
    obtain ⟨c15, hB⟩ := ck_of hB
    refine es_iast dX10_thinksInto_102 (tr_10_49 hl0) c15 ?_
    refine ev_aload_n dX10_thinksInto_103 rfl ?_
    refine ev_aload_n dX10_thinksInto_104 rfl ?_
    refine es_geti k_10 5 dX10_thinksInto_105 (by decide) rfl (Or.inl w_1530) hl0 rfl ?_
    obtain ⟨r16, S17, e18, hB⟩ := bd_of hB
    refine es_callVi (As := [.int (sg (sp (sp (sp S9 (rf l0 49) (Int32.toNatClampNeg 3) r8) (rf l0 49) (Int32.toNatClampNeg 4) (sg (sp S9 (rf l0 49) (Int32.toNatClampNeg 3) r8) (rf l0 46) (Int32.toNatClampNeg ((l1 + 64) + l2)))) (rf l0 49) (Int32.toNatClampNeg 5) (sg (sp (sp S9 (rf l0 49) (Int32.toNatClampNeg 3) r8) (rf l0 49) (Int32.toNatClampNeg 4) (sg (sp S9 (rf l0 49) (Int32.toNatClampNeg 3) r8) (rf l0 46) (Int32.toNatClampNeg ((l1 + 64) + l2)))) (rf l0 46) (Int32.toNatClampNeg (l1 + 0)))) l0 5)]) (t_X10_reckons hl0 e18) dX10_thinksInto_108 oX10_reckons w_1973 rfl hl0 rfl rfl (Nat.le_of_ble_eq_true rfl) rfl (am_fit.of (by decide)) ⟨Nat.zero_le _, Nat.zero_le _⟩ ?_
    refine ev_iconst 0 dX10_thinksInto_111 (by decide) ?_
    refine ev_bipush 9 dX10_thinksInto_112 (by decide) ?_
    obtain ⟨r19, S20, e21, hB⟩ := bd_of hB
    refine es_callSi (As := [.int r16, .int 0, .int 9]) (t_X10_bounded e21) dX10_thinksInto_114 oX10_bounded w_1980 rfl (Nat.le_of_ble_eq_true rfl) rfl (am_fit.of (by decide)) ⟨Nat.zero_le _, Nat.zero_le _⟩ ?_
    obtain rfl := Option.some.inj hB
    exact ev_iret dX10_thinksInto_117 rfl (Nat.zero_le _) (Nat.zero_le _) (fun z => absurd z (hp_sealed _)) ⟨rfl, rfl⟩
  · rw [if_pos q1] at hB
    refine ev_aload_n dX10_thinksInto_8 rfl ?_
    refine es_getr k_10 9 dX10_thinksInto_9 (by decide) rfl (Or.inl w_1534) hl0 rfl ?_
    refine ev_iload_n dX10_thinksInto_12 rfl ?_
    obtain ⟨c22, hB⟩ := ck_of hB
    refine es_iald dX10_thinksInto_13 (tr_10_9 hl0) c22 ?_
    obtain rfl := Option.some.inj hB
    exact ev_iret dX10_thinksInto_14 rfl (Nat.zero_le _) (Nat.zero_le _) (fun z => absurd z (hp_sealed _)) ⟨rfl, rfl⟩
def f_X10_soundsBy (N : Nat) (l0 : Nat) (l1 : Int32) (l2 : Int32) (l3 : Int32) (l4 : Int32) (S : am_S) : Option (Int32 × am_S) := (if inb l3 (ln (rf l0 7)) = true then (if inb l4 (ln (rf l0 8)) = true then (bd (f_X10_off N (sg S (rf l0 7) (Int32.toNatClampNeg l3)) (sg S (rf l0 8) (Int32.toNatClampNeg l4)) S) (fun r3 S4 => (if (sg S4 l0 6) = (-1) then (bd (f_X10_wetIn N l0 l1 S4) (fun r24 S25 => (bd (f_X10_bounded N (((l2 / 2) + r24) - (r3 / 3)) 0 99 S25) (fun r28 S29 => some (r28, S29))))) else (if inb 6 (ln (rf l0 49)) = true then (if inb 7 (ln (rf l0 49)) = true then (if inb ((l1 + 64) + l4) (ln (rf l0 46)) = true then (if inb 4 (ln (rf l0 49)) = true then (bd (f_X10_wetIn N l0 l1 (sp (sp (sp S4 (rf l0 49) (Int32.toNatClampNeg 6) l2) (rf l0 49) (Int32.toNatClampNeg 7) r3) (rf l0 49) (Int32.toNatClampNeg 4) (sg (sp (sp S4 (rf l0 49) (Int32.toNatClampNeg 6) l2) (rf l0 49) (Int32.toNatClampNeg 7) r3) (rf l0 46) (Int32.toNatClampNeg ((l1 + 64) + l4))))) (fun r11 S12 => (if inb 8 (ln (rf l0 49)) = true then (if inb (l1 + 0) (ln (rf l0 46)) = true then (if inb 5 (ln (rf l0 49)) = true then (bd (f_X10_reckons N l0 (sg (sp (sp S12 (rf l0 49) (Int32.toNatClampNeg 8) r11) (rf l0 49) (Int32.toNatClampNeg 5) (sg (sp S12 (rf l0 49) (Int32.toNatClampNeg 8) r11) (rf l0 46) (Int32.toNatClampNeg (l1 + 0)))) l0 6) (sp (sp S12 (rf l0 49) (Int32.toNatClampNeg 8) r11) (rf l0 49) (Int32.toNatClampNeg 5) (sg (sp S12 (rf l0 49) (Int32.toNatClampNeg 8) r11) (rf l0 46) (Int32.toNatClampNeg (l1 + 0))))) (fun r17 S18 => (bd (f_X10_bounded N r17 0 99 S18) (fun r20 S21 => some (r20, S21))))) else none) else none) else none))) else none) else none) else none) else none)))) else none) else none)
theorem t_X10_soundsBy {G : am_G} {N : Nat} {l0 : Nat} {l1 : Int32} {l2 : Int32} {l3 : Int32} {l4 : Int32} {S : am_S} {out : Int32 × am_S} (hl0 : isC 10 l0 = true) (hB : f_X10_soundsBy N l0 l1 l2 l3 l4 S = some out) : am_Met G 3 mX10_soundsBy 0 0 [.ref l0, .int l1, .int l2, .int l3, .int l4] (hp S) (q_i out) q_n := by
  refine am_of (by decide +kernel) rfl rfl rfl (Nat.le_of_ble_eq_true rfl) ?_
  unfold f_X10_soundsBy at hB
  refine ev_aload_n dX10_soundsBy_0 rfl ?_
  refine es_getr k_10 7 dX10_soundsBy_1 (by decide) rfl (Or.inl w_1532) hl0 rfl ?_
  refine ev_iload_n dX10_soundsBy_4 rfl ?_
  obtain ⟨c1, hB⟩ := ck_of hB
  refine es_iald dX10_soundsBy_5 (tr_10_7 hl0) c1 ?_
  refine ev_aload_n dX10_soundsBy_6 rfl ?_
  refine es_getr k_10 8 dX10_soundsBy_7 (by decide) rfl (Or.inl w_1533) hl0 rfl ?_
  refine ev_iload dX10_soundsBy_10 rfl ?_
  obtain ⟨c2, hB⟩ := ck_of hB
  refine es_iald dX10_soundsBy_12 (tr_10_8 hl0) c2 ?_
  obtain ⟨r3, S4, e5, hB⟩ := bd_of hB
  refine es_callSi (As := [.int (sg S (rf l0 7) (Int32.toNatClampNeg l3)), .int (sg S (rf l0 8) (Int32.toNatClampNeg l4))]) (t_X10_off e5) dX10_soundsBy_13 oX10_off w_1930 rfl (Nat.le_of_ble_eq_true rfl) rfl (am_fit.of (by decide)) ⟨Nat.zero_le _, Nat.zero_le _⟩ ?_
  refine ev_istore dX10_soundsBy_16 (by decide) rfl ?_
  refine ev_aload_n dX10_soundsBy_18 rfl ?_
  refine es_geti k_10 6 dX10_soundsBy_19 (by decide) rfl (Or.inl w_1531) hl0 rfl ?_
  refine ev_iconst (-1) dX10_soundsBy_22 (by decide) ?_
  refine ev_icmpne 47 dX10_soundsBy_23 (by decide) (fun q6 => ?_) (fun q6 => ?_)
  · rw [if_neg q6] at hB
    refine ev_aload_n dX10_soundsBy_47 rfl ?_
    refine es_getr k_10 49 dX10_soundsBy_48 (by decide) rfl (Or.inl w_1574) hl0 rfl ?_
    refine ev_bipush 6 dX10_soundsBy_51 (by decide) ?_
    refine ev_iload_n dX10_soundsBy_53 rfl ?_
    obtain ⟨c7, hB⟩ := ck_of hB
    refine es_iast dX10_soundsBy_54 (tr_10_49 hl0) c7 ?_
    refine ev_aload_n dX10_soundsBy_55 rfl ?_
    refine es_getr k_10 49 dX10_soundsBy_56 (by decide) rfl (Or.inl w_1574) hl0 rfl ?_
    refine ev_bipush 7 dX10_soundsBy_59 (by decide) ?_
    refine ev_iload dX10_soundsBy_61 rfl ?_
    obtain ⟨c8, hB⟩ := ck_of hB
    refine es_iast dX10_soundsBy_63 (tr_10_49 hl0) c8 ?_
    refine ev_aload_n dX10_soundsBy_64 rfl ?_
    refine es_getr k_10 49 dX10_soundsBy_65 (by decide) rfl (Or.inl w_1574) hl0 rfl ?_
    refine ev_iconst 4 dX10_soundsBy_68 (by decide) ?_
    refine ev_aload_n dX10_soundsBy_69 rfl ?_
    refine es_getr k_10 46 dX10_soundsBy_70 (by decide) rfl (Or.inl w_1571) hl0 rfl ?_
    refine ev_iload_n dX10_soundsBy_73 rfl ?_
    refine ev_bipush 64 dX10_soundsBy_74 (by decide) ?_
    refine ev_iadd dX10_soundsBy_76 ?_
    refine ev_iload dX10_soundsBy_77 rfl ?_
    refine ev_iadd dX10_soundsBy_79 ?_
    obtain ⟨c9, hB⟩ := ck_of hB
    refine es_iald dX10_soundsBy_80 (tr_10_46 hl0) c9 ?_
    obtain ⟨c10, hB⟩ := ck_of hB
    refine es_iast dX10_soundsBy_81 (tr_10_49 hl0) c10 ?_
    refine ev_aload_n dX10_soundsBy_82 rfl ?_
    refine es_getr k_10 49 dX10_soundsBy_83 (by decide) rfl (Or.inl w_1574) hl0 rfl ?_
    refine ev_bipush 8 dX10_soundsBy_86 (by decide) ?_
    refine ev_aload_n dX10_soundsBy_88 rfl ?_
    refine ev_iload_n dX10_soundsBy_89 rfl ?_
    obtain ⟨r11, S12, e13, hB⟩ := bd_of hB
    refine es_callVi (As := [.int l1]) (t_X10_wetIn hl0 e13) dX10_soundsBy_90 oX10_wetIn w_1878 rfl hl0 rfl rfl (Nat.le_of_ble_eq_true rfl) rfl (am_fit.of (by decide)) ⟨Nat.zero_le _, Nat.zero_le _⟩ ?_
    obtain ⟨c14, hB⟩ := ck_of hB
    refine es_iast dX10_soundsBy_93 (tr_10_49 hl0) c14 ?_
    refine ev_aload_n dX10_soundsBy_94 rfl ?_
    refine es_getr k_10 49 dX10_soundsBy_95 (by decide) rfl (Or.inl w_1574) hl0 rfl ?_
    refine ev_iconst 5 dX10_soundsBy_98 (by decide) ?_
    refine ev_aload_n dX10_soundsBy_99 rfl ?_
    refine es_getr k_10 46 dX10_soundsBy_100 (by decide) rfl (Or.inl w_1571) hl0 rfl ?_
    refine ev_iload_n dX10_soundsBy_103 rfl ?_
    refine ev_iconst 0 dX10_soundsBy_104 (by decide) ?_
    refine ev_iadd dX10_soundsBy_105 ?_
    obtain ⟨c15, hB⟩ := ck_of hB
    refine es_iald dX10_soundsBy_106 (tr_10_46 hl0) c15 ?_
    obtain ⟨c16, hB⟩ := ck_of hB
    refine es_iast dX10_soundsBy_107 (tr_10_49 hl0) c16 ?_
    refine ev_aload_n dX10_soundsBy_108 rfl ?_
    refine ev_aload_n dX10_soundsBy_109 rfl ?_
    refine es_geti k_10 6 dX10_soundsBy_110 (by decide) rfl (Or.inl w_1531) hl0 rfl ?_
    obtain ⟨r17, S18, e19, hB⟩ := bd_of hB
    refine es_callVi (As := [.int (sg (sp (sp S12 (rf l0 49) (Int32.toNatClampNeg 8) r11) (rf l0 49) (Int32.toNatClampNeg 5) (sg (sp S12 (rf l0 49) (Int32.toNatClampNeg 8) r11) (rf l0 46) (Int32.toNatClampNeg (l1 + 0)))) l0 6)]) (t_X10_reckons hl0 e19) dX10_soundsBy_113 oX10_reckons w_1973 rfl hl0 rfl rfl (Nat.le_of_ble_eq_true rfl) rfl (am_fit.of (by decide)) ⟨Nat.zero_le _, Nat.zero_le _⟩ ?_
    refine ev_iconst 0 dX10_soundsBy_116 (by decide) ?_
    refine ev_bipush 99 dX10_soundsBy_117 (by decide) ?_
    obtain ⟨r20, S21, e22, hB⟩ := bd_of hB
    refine es_callSi (As := [.int r17, .int 0, .int 99]) (t_X10_bounded e22) dX10_soundsBy_119 oX10_bounded w_1980 rfl (Nat.le_of_ble_eq_true rfl) rfl (am_fit.of (by decide)) ⟨Nat.zero_le _, Nat.zero_le _⟩ ?_
    obtain rfl := Option.some.inj hB
    exact ev_iret dX10_soundsBy_122 rfl (Nat.zero_le _) (Nat.zero_le _) (fun z => absurd z (hp_sealed _)) ⟨rfl, rfl⟩
  · rw [if_pos q6] at hB
    refine ev_iload_n dX10_soundsBy_26 rfl ?_
    refine ev_iconst 2 dX10_soundsBy_27 (by decide) ?_
    refine ev_idiv dX10_soundsBy_28 (by decide) ?_
    refine ev_aload_n dX10_soundsBy_29 rfl ?_
    refine ev_iload_n dX10_soundsBy_30 rfl ?_
    obtain ⟨r24, S25, e26, hB⟩ := bd_of hB
    refine es_callVi (As := [.int l1]) (t_X10_wetIn hl0 e26) dX10_soundsBy_31 oX10_wetIn w_1878 rfl hl0 rfl rfl (Nat.le_of_ble_eq_true rfl) rfl (am_fit.of (by decide)) ⟨Nat.zero_le _, Nat.zero_le _⟩ ?_
    refine ev_iadd dX10_soundsBy_34 ?_
    refine ev_iload dX10_soundsBy_35 rfl ?_
    refine ev_iconst 3 dX10_soundsBy_37 (by decide) ?_
    refine ev_idiv dX10_soundsBy_38 (by decide) ?_
    refine ev_isub dX10_soundsBy_39 ?_
    refine ev_iconst 0 dX10_soundsBy_40 (by decide) ?_
    refine ev_bipush 99 dX10_soundsBy_41 (by decide) ?_
    obtain ⟨r28, S29, e30, hB⟩ := bd_of hB
    refine es_callSi (As := [.int (((l2 / 2) + r24) - (r3 / 3)), .int 0, .int 99]) (t_X10_bounded e30) dX10_soundsBy_43 oX10_bounded w_1980 rfl (Nat.le_of_ble_eq_true rfl) rfl (am_fit.of (by decide)) ⟨Nat.zero_le _, Nat.zero_le _⟩ ?_
    obtain rfl := Option.some.inj hB
    exact ev_iret dX10_soundsBy_46 rfl (Nat.zero_le _) (Nat.zero_le _) (fun z => absurd z (hp_sealed _)) ⟨rfl, rfl⟩
def f_X10_hears (N : Nat) (l0 : Nat) (l1 : Int32) (l2 : Int32) (l3 : Int32) (S : am_S) : Option (am_S) := (if inb ((l1 + 64) + l2) (ln (rf l0 46)) = true then (bd (f_X10_lesser N 9999 ((sg S (rf l0 46) (Int32.toNatClampNeg ((l1 + 64) + l2))) + l3) S) (fun r2 S3 => (if inb ((l1 + 64) + l2) (ln (rf l0 46)) = true then some (sp S3 (rf l0 46) (Int32.toNatClampNeg ((l1 + 64) + l2)) r2) else none))) else none)
theorem t_X10_hears {G : am_G} {N : Nat} {l0 : Nat} {l1 : Int32} {l2 : Int32} {l3 : Int32} {S : am_S} {out : am_S} (hl0 : isC 10 l0 = true) (hB : f_X10_hears N l0 l1 l2 l3 S = some out) : am_Met G 2 mX10_hears 0 0 [.ref l0, .int l1, .int l2, .int l3] (hp S) (q_v out) q_n := by
  refine am_of (by decide +kernel) rfl rfl rfl (Nat.le_of_ble_eq_true rfl) ?_
  unfold f_X10_hears at hB
  refine ev_aload_n dX10_hears_0 rfl ?_
  refine es_getr k_10 46 dX10_hears_1 (by decide) rfl (Or.inl w_1571) hl0 rfl ?_
  refine ev_iload_n dX10_hears_4 rfl ?_
  refine ev_bipush 64 dX10_hears_5 (by decide) ?_
  refine ev_iadd dX10_hears_7 ?_
  refine ev_iload_n dX10_hears_8 rfl ?_
  refine ev_iadd dX10_hears_9 ?_
  refine ev_sipush 9999 dX10_hears_10 (by decide) ?_
  refine ev_aload_n dX10_hears_13 rfl ?_
  refine es_getr k_10 46 dX10_hears_14 (by decide) rfl (Or.inl w_1571) hl0 rfl ?_
  refine ev_iload_n dX10_hears_17 rfl ?_
  refine ev_bipush 64 dX10_hears_18 (by decide) ?_
  refine ev_iadd dX10_hears_20 ?_
  refine ev_iload_n dX10_hears_21 rfl ?_
  refine ev_iadd dX10_hears_22 ?_
  obtain ⟨c1, hB⟩ := ck_of hB
  refine es_iald dX10_hears_23 (tr_10_46 hl0) c1 ?_
  refine ev_iload_n dX10_hears_24 rfl ?_
  refine ev_iadd dX10_hears_25 ?_
  obtain ⟨r2, S3, e4, hB⟩ := bd_of hB
  refine es_callSi (As := [.int 9999, .int ((sg S (rf l0 46) (Int32.toNatClampNeg ((l1 + 64) + l2))) + l3)]) (t_X10_lesser e4) dX10_hears_26 oX10_lesser w_1983 rfl (Nat.le_of_ble_eq_true rfl) rfl (am_fit.of (by decide)) ⟨Nat.zero_le _, Nat.zero_le _⟩ ?_
  obtain ⟨c5, hB⟩ := ck_of hB
  refine es_iast dX10_hears_29 (tr_10_46 hl0) c5 ?_
  obtain rfl := Option.some.inj hB
  exact ev_vret dX10_hears_30 rfl (Nat.zero_le _) (Nat.zero_le _) (fun z => absurd z (hp_sealed _)) ⟨rfl, rfl⟩
def f_X10_thinks (N : Nat) (l0 : Nat) (l1 : Int32) (l2 : Int32) (S : am_S) : Option (am_S) := (bd (f_X10_boxOf N l0 l2 S) (fun r1 S2 => (if r1 = (-1) then some S2 else (bd (f_X10_thinksInto N l0 l1 l2 r1 S2) (fun r5 S6 => (if inb (((l1 + 8) + (8 * r1)) + l2) (ln (rf l0 46)) = true then (bd (f_X10_lesser N 99 ((sg S6 (rf l0 46) (Int32.toNatClampNeg (((l1 + 8) + (8 * r1)) + l2))) + r5) S6) (fun r9 S10 => (if inb (((l1 + 8) + (8 * r1)) + l2) (ln (rf l0 46)) = true then (if inb ((l1 + 56) + l2) (ln (rf l0 46)) = true then (bd (f_X10_lesser N 999 ((sg (sp S10 (rf l0 46) (Int32.toNatClampNeg (((l1 + 8) + (8 * r1)) + l2)) r9) (rf l0 46) (Int32.toNatClampNeg ((l1 + 56) + l2))) + r5) (sp S10 (rf l0 46) (Int32.toNatClampNeg (((l1 + 8) + (8 * r1)) + l2)) r9)) (fun r14 S15 => (if inb ((l1 + 56) + l2) (ln (rf l0 46)) = true then some (sp S15 (rf l0 46) (Int32.toNatClampNeg ((l1 + 56) + l2)) r14) else none))) else none) else none))) else none))))))
theorem t_X10_thinks {G : am_G} {N : Nat} {l0 : Nat} {l1 : Int32} {l2 : Int32} {S : am_S} {out : am_S} (hl0 : isC 10 l0 = true) (hB : f_X10_thinks N l0 l1 l2 S = some out) : am_Met G 4 mX10_thinks 0 0 [.ref l0, .int l1, .int l2] (hp S) (q_v out) q_n := by
  refine am_of (by decide +kernel) rfl rfl rfl (Nat.le_of_ble_eq_true rfl) ?_
  unfold f_X10_thinks at hB
  refine ev_aload_n dX10_thinks_0 rfl ?_
  refine ev_iload_n dX10_thinks_1 rfl ?_
  obtain ⟨r1, S2, e3, hB⟩ := bd_of hB
  refine es_callVi (As := [.int l2]) (t_X10_boxOf hl0 e3) dX10_thinks_2 oX10_boxOf w_1926 rfl hl0 rfl rfl (Nat.le_of_ble_eq_true rfl) rfl (am_fit.of (by decide)) ⟨Nat.zero_le _, Nat.zero_le _⟩ ?_
  refine ev_istore_n dX10_thinks_5 (by decide) rfl ?_
  refine ev_iload_n dX10_thinks_6 rfl ?_
  refine ev_iconst (-1) dX10_thinks_7 (by decide) ?_
  refine ev_icmpne 12 dX10_thinks_8 (by decide) (fun q4 => ?_) (fun q4 => ?_)
  · rw [if_neg q4] at hB
    refine ev_aload_n dX10_thinks_12 rfl ?_
    refine ev_iload_n dX10_thinks_13 rfl ?_
    refine ev_iload_n dX10_thinks_14 rfl ?_
    refine ev_iload_n dX10_thinks_15 rfl ?_
    obtain ⟨r5, S6, e7, hB⟩ := bd_of hB
    refine es_callVi (As := [.int l1, .int l2, .int r1]) (t_X10_thinksInto hl0 e7) dX10_thinks_16 oX10_thinksInto w_1969 rfl hl0 rfl rfl (Nat.le_of_ble_eq_true rfl) rfl (am_fit.of (by decide)) ⟨Nat.zero_le _, Nat.zero_le _⟩ ?_
    refine ev_istore dX10_thinks_19 (by decide) rfl ?_
    refine ev_aload_n dX10_thinks_21 rfl ?_
    refine es_getr k_10 46 dX10_thinks_22 (by decide) rfl (Or.inl w_1571) hl0 rfl ?_
    refine ev_iload_n dX10_thinks_25 rfl ?_
    refine ev_bipush 8 dX10_thinks_26 (by decide) ?_
    refine ev_iadd dX10_thinks_28 ?_
    refine ev_bipush 8 dX10_thinks_29 (by decide) ?_
    refine ev_iload_n dX10_thinks_31 rfl ?_
    refine ev_imul dX10_thinks_32 ?_
    refine ev_iadd dX10_thinks_33 ?_
    refine ev_iload_n dX10_thinks_34 rfl ?_
    refine ev_iadd dX10_thinks_35 ?_
    refine ev_bipush 99 dX10_thinks_36 (by decide) ?_
    refine ev_aload_n dX10_thinks_38 rfl ?_
    refine es_getr k_10 46 dX10_thinks_39 (by decide) rfl (Or.inl w_1571) hl0 rfl ?_
    refine ev_iload_n dX10_thinks_42 rfl ?_
    refine ev_bipush 8 dX10_thinks_43 (by decide) ?_
    refine ev_iadd dX10_thinks_45 ?_
    refine ev_bipush 8 dX10_thinks_46 (by decide) ?_
    refine ev_iload_n dX10_thinks_48 rfl ?_
    refine ev_imul dX10_thinks_49 ?_
    refine ev_iadd dX10_thinks_50 ?_
    refine ev_iload_n dX10_thinks_51 rfl ?_
    refine ev_iadd dX10_thinks_52 ?_
    obtain ⟨c8, hB⟩ := ck_of hB
    refine es_iald dX10_thinks_53 (tr_10_46 hl0) c8 ?_
    refine ev_iload dX10_thinks_54 rfl ?_
    refine ev_iadd dX10_thinks_56 ?_
    obtain ⟨r9, S10, e11, hB⟩ := bd_of hB
    refine es_callSi (As := [.int 99, .int ((sg S6 (rf l0 46) (Int32.toNatClampNeg (((l1 + 8) + (8 * r1)) + l2))) + r5)]) (t_X10_lesser e11) dX10_thinks_57 oX10_lesser w_1983 rfl (Nat.le_of_ble_eq_true rfl) rfl (am_fit.of (by decide)) ⟨Nat.zero_le _, Nat.zero_le _⟩ ?_
    obtain ⟨c12, hB⟩ := ck_of hB
    refine es_iast dX10_thinks_60 (tr_10_46 hl0) c12 ?_
    refine ev_aload_n dX10_thinks_61 rfl ?_
    refine es_getr k_10 46 dX10_thinks_62 (by decide) rfl (Or.inl w_1571) hl0 rfl ?_
    refine ev_iload_n dX10_thinks_65 rfl ?_
    refine ev_bipush 56 dX10_thinks_66 (by decide) ?_
    refine ev_iadd dX10_thinks_68 ?_
    refine ev_iload_n dX10_thinks_69 rfl ?_
    refine ev_iadd dX10_thinks_70 ?_
    refine ev_sipush 999 dX10_thinks_71 (by decide) ?_
    refine ev_aload_n dX10_thinks_74 rfl ?_
    refine es_getr k_10 46 dX10_thinks_75 (by decide) rfl (Or.inl w_1571) hl0 rfl ?_
    refine ev_iload_n dX10_thinks_78 rfl ?_
    refine ev_bipush 56 dX10_thinks_79 (by decide) ?_
    refine ev_iadd dX10_thinks_81 ?_
    refine ev_iload_n dX10_thinks_82 rfl ?_
    refine ev_iadd dX10_thinks_83 ?_
    obtain ⟨c13, hB⟩ := ck_of hB
    refine es_iald dX10_thinks_84 (tr_10_46 hl0) c13 ?_
    refine ev_iload dX10_thinks_85 rfl ?_
    refine ev_iadd dX10_thinks_87 ?_
    obtain ⟨r14, S15, e16, hB⟩ := bd_of hB
    refine es_callSi (As := [.int 999, .int ((sg (sp S10 (rf l0 46) (Int32.toNatClampNeg (((l1 + 8) + (8 * r1)) + l2)) r9) (rf l0 46) (Int32.toNatClampNeg ((l1 + 56) + l2))) + r5)]) (t_X10_lesser e16) dX10_thinks_88 oX10_lesser w_1983 rfl (Nat.le_of_ble_eq_true rfl) rfl (am_fit.of (by decide)) ⟨Nat.zero_le _, Nat.zero_le _⟩ ?_
    obtain ⟨c17, hB⟩ := ck_of hB
    refine es_iast dX10_thinks_91 (tr_10_46 hl0) c17 ?_
    obtain rfl := Option.some.inj hB
    exact ev_vret dX10_thinks_92 rfl (Nat.zero_le _) (Nat.zero_le _) (fun z => absurd z (hp_sealed _)) ⟨rfl, rfl⟩
  · rw [if_pos q4] at hB
    obtain rfl := Option.some.inj hB
    exact ev_vret dX10_thinks_11 rfl (Nat.zero_le _) (Nat.zero_le _) (fun z => absurd z (hp_sealed _)) ⟨rfl, rfl⟩
def b_X10_fetches_132 (N : Nat) (k2 : Nat → Int32 → Int32 → Int32 → am_S → Option (am_S)) (l0 : Nat) (l1 : Int32) (l2 : Int32) (l3 : Int32) (S : am_S) : Option (am_S) := k2 l0 l1 l2 (l3 + 1) S
def b_X10_fetches_72 (N : Nat) (k2 : Nat → Int32 → Int32 → Int32 → am_S → Option (am_S)) (l0 : Nat) (l1 : Int32) (l2 : Int32) (l3 : Int32) (l4 : Int32) (S : am_S) : Option (am_S) := (if inb ((l1 + 56) + l3) (ln (rf l0 46)) = true then (bd (f_X10_bounded N ((sg S (rf l0 46) (Int32.toNatClampNeg ((l1 + 56) + l3))) - l4) 0 999 S) (fun r2 S3 => (if inb ((l1 + 56) + l3) (ln (rf l0 46)) = true then (if inb (((l1 + 8) + (8 * l2)) + l3) (ln (rf l0 46)) = true then b_X10_fetches_132 N (k2) l0 l1 l2 l3 (sp (sp (sp S3 (rf l0 46) (Int32.toNatClampNeg ((l1 + 56) + l3)) r2) (rf l0 46) (Int32.toNatClampNeg (((l1 + 8) + (8 * l2)) + l3)) 0) l0 54 ((sg (sp (sp S3 (rf l0 46) (Int32.toNatClampNeg ((l1 + 56) + l3)) r2) (rf l0 46) (Int32.toNatClampNeg (((l1 + 8) + (8 * l2)) + l3)) 0) l0 54) + l4)) else none) else none))) else none)
def b_X10_fetches_2 (N : Nat) : Nat → Nat → Int32 → Int32 → Int32 → am_S → Option (am_S)
  | 0, _, _, _, _, _ => none
  | n + 1, l0, l1, l2, l3, S => (if (sg S l0 2) ≤ l3 then some S else (if inb (((l1 + 8) + (8 * l2)) + l3) (ln (rf l0 46)) = true then (if (sg S (rf l0 46) (Int32.toNatClampNeg (((l1 + 8) + (8 * l2)) + l3))) = 0 then b_X10_fetches_132 N (b_X10_fetches_2 N n) l0 l1 l2 l3 S else (if inb ((l1 + 72) + l3) (ln (rf l0 46)) = true then (if (sg S (rf l0 46) (Int32.toNatClampNeg ((l1 + 72) + l3))) = (-1) then b_X10_fetches_72 N (b_X10_fetches_2 N n) l0 l1 l2 l3 (sg S (rf l0 46) (Int32.toNatClampNeg (((l1 + 8) + (8 * l2)) + l3))) S else (bd (f_X10_soundsBy N l0 l1 (sg S (rf l0 46) (Int32.toNatClampNeg (((l1 + 8) + (8 * l2)) + l3))) l2 (sg S (rf l0 46) (Int32.toNatClampNeg ((l1 + 72) + l3))) S) (fun r6 S7 => (bv (f_X10_hears N l0 l1 (sg S (rf l0 46) (Int32.toNatClampNeg ((l1 + 72) + l3))) r6 S7) (fun S10 => b_X10_fetches_72 N (b_X10_fetches_2 N n) l0 l1 l2 l3 (sg S (rf l0 46) (Int32.toNatClampNeg (((l1 + 8) + (8 * l2)) + l3))) S10))))) else none)) else none))
def f_X10_fetches (N : Nat) (l0 : Nat) (l1 : Int32) (l2 : Int32) (S : am_S) : Option (am_S) := b_X10_fetches_2 N N l0 l1 l2 0 S
theorem u_X10_fetches_132 {G : am_G} {N : Nat} {h0 : am_H} {out : am_S} {k2 : Nat → Int32 → Int32 → Int32 → am_S → Option (am_S)} (hk2 : ∀ (l0 : Nat) (l1 : Int32) (l2 : Int32) (l3 : Int32) (S : am_S), isC 10 l0 = true → k2 l0 l1 l2 l3 S = some out → Ev G (am_R 4 0 0) (am_Φ G h0 0 0 (q_v out) q_n) mX10_fetches 0 0 2 [some (.ref l0), some (.int l1), some (.int l2), some (.int l3), none, none] [] (hp S)) (l0 : Nat) (l1 : Int32) (l2 : Int32) (l3 : Int32) (S : am_S) (hl0 : isC 10 l0 = true) (hB : b_X10_fetches_132 N k2 l0 l1 l2 l3 S = some out) : Ev G (am_R 4 0 0) (am_Φ G h0 0 0 (q_v out) q_n) mX10_fetches 0 0 132 [some (.ref l0), some (.int l1), some (.int l2), some (.int l3), none, none] [] (hp S) := by
  unfold b_X10_fetches_132 at hB
  refine es_iinc 1 dX10_fetches_132 rfl (by decide) (by decide) rfl ?_
  refine ev_goto 2 dX10_fetches_135 (by decide) ?_
  exact ev_ls (hk2 l0 l1 l2 (l3 + 1) S hl0 hB) (And.intro rfl (And.intro rfl (And.intro rfl (And.intro rfl trivial))))
theorem u_X10_fetches_72 {G : am_G} {N : Nat} {h0 : am_H} {out : am_S} {k2 : Nat → Int32 → Int32 → Int32 → am_S → Option (am_S)} (hk2 : ∀ (l0 : Nat) (l1 : Int32) (l2 : Int32) (l3 : Int32) (S : am_S), isC 10 l0 = true → k2 l0 l1 l2 l3 S = some out → Ev G (am_R 4 0 0) (am_Φ G h0 0 0 (q_v out) q_n) mX10_fetches 0 0 2 [some (.ref l0), some (.int l1), some (.int l2), some (.int l3), none, none] [] (hp S)) (l0 : Nat) (l1 : Int32) (l2 : Int32) (l3 : Int32) (l4 : Int32) (S : am_S) (hl0 : isC 10 l0 = true) (hB : b_X10_fetches_72 N k2 l0 l1 l2 l3 l4 S = some out) : Ev G (am_R 4 0 0) (am_Φ G h0 0 0 (q_v out) q_n) mX10_fetches 0 0 72 [some (.ref l0), some (.int l1), some (.int l2), some (.int l3), some (.int l4), none] [] (hp S) := by
  unfold b_X10_fetches_72 at hB
  refine ev_aload_n dX10_fetches_72 rfl ?_
  refine es_getr k_10 46 dX10_fetches_73 (by decide) rfl (Or.inl w_1571) hl0 rfl ?_
  refine ev_iload_n dX10_fetches_76 rfl ?_
  refine ev_bipush 56 dX10_fetches_77 (by decide) ?_
  refine ev_iadd dX10_fetches_79 ?_
  refine ev_iload_n dX10_fetches_80 rfl ?_
  refine ev_iadd dX10_fetches_81 ?_
  refine ev_aload_n dX10_fetches_82 rfl ?_
  refine es_getr k_10 46 dX10_fetches_83 (by decide) rfl (Or.inl w_1571) hl0 rfl ?_
  refine ev_iload_n dX10_fetches_86 rfl ?_
  refine ev_bipush 56 dX10_fetches_87 (by decide) ?_
  refine ev_iadd dX10_fetches_89 ?_
  refine ev_iload_n dX10_fetches_90 rfl ?_
  refine ev_iadd dX10_fetches_91 ?_
  obtain ⟨c1, hB⟩ := ck_of hB
  refine es_iald dX10_fetches_92 (tr_10_46 hl0) c1 ?_
  refine ev_iload dX10_fetches_93 rfl ?_
  refine ev_isub dX10_fetches_95 ?_
  refine ev_iconst 0 dX10_fetches_96 (by decide) ?_
  refine ev_sipush 999 dX10_fetches_97 (by decide) ?_
  obtain ⟨r2, S3, e4, hB⟩ := bd_of hB
  refine es_callSi (As := [.int ((sg S (rf l0 46) (Int32.toNatClampNeg ((l1 + 56) + l3))) - l4), .int 0, .int 999]) (t_X10_bounded e4) dX10_fetches_100 oX10_bounded w_1980 rfl (Nat.le_of_ble_eq_true rfl) rfl (am_fit.of (by decide)) ⟨Nat.zero_le _, Nat.zero_le _⟩ ?_
  obtain ⟨c5, hB⟩ := ck_of hB
  refine es_iast dX10_fetches_103 (tr_10_46 hl0) c5 ?_
  refine ev_aload_n dX10_fetches_104 rfl ?_
  refine es_getr k_10 46 dX10_fetches_105 (by decide) rfl (Or.inl w_1571) hl0 rfl ?_
  refine ev_iload_n dX10_fetches_108 rfl ?_
  refine ev_bipush 8 dX10_fetches_109 (by decide) ?_
  refine ev_iadd dX10_fetches_111 ?_
  refine ev_bipush 8 dX10_fetches_112 (by decide) ?_
  refine ev_iload_n dX10_fetches_114 rfl ?_
  refine ev_imul dX10_fetches_115 ?_
  refine ev_iadd dX10_fetches_116 ?_
  refine ev_iload_n dX10_fetches_117 rfl ?_
  refine ev_iadd dX10_fetches_118 ?_
  refine ev_iconst 0 dX10_fetches_119 (by decide) ?_
  obtain ⟨c6, hB⟩ := ck_of hB
  refine es_iast dX10_fetches_120 (tr_10_46 hl0) c6 ?_
  refine ev_aload_n dX10_fetches_121 rfl ?_
  refine ev_dup dX10_fetches_122 rfl ?_
  refine es_geti k_10 54 dX10_fetches_123 (by decide) rfl (Or.inl w_1579) hl0 rfl ?_
  refine ev_iload dX10_fetches_126 rfl ?_
  refine ev_iadd dX10_fetches_128 ?_
  refine es_puti k_10 54 dX10_fetches_129 (by decide) rfl (Or.inl w_1579) rfl rfl hl0 rfl ?_
  exact ev_ls (u_X10_fetches_132 hk2 l0 l1 l2 l3 (sp (sp (sp S3 (rf l0 46) (Int32.toNatClampNeg ((l1 + 56) + l3)) r2) (rf l0 46) (Int32.toNatClampNeg (((l1 + 8) + (8 * l2)) + l3)) 0) l0 54 ((sg (sp (sp S3 (rf l0 46) (Int32.toNatClampNeg ((l1 + 56) + l3)) r2) (rf l0 46) (Int32.toNatClampNeg (((l1 + 8) + (8 * l2)) + l3)) 0) l0 54) + l4)) hl0 hB) (And.intro rfl (And.intro rfl (And.intro rfl (And.intro rfl trivial))))
theorem u_X10_fetches_2 {G : am_G} {N : Nat} {h0 : am_H} {out : am_S} : ∀ (n : Nat) (l0 : Nat) (l1 : Int32) (l2 : Int32) (l3 : Int32) (S : am_S), isC 10 l0 = true → b_X10_fetches_2 N n l0 l1 l2 l3 S = some out → Ev G (am_R 4 0 0) (am_Φ G h0 0 0 (q_v out) q_n) mX10_fetches 0 0 2 [some (.ref l0), some (.int l1), some (.int l2), some (.int l3), none, none] [] (hp S) := by
  intro n
  induction n with
  | zero =>
    intro l0 l1 l2 l3 S hl0 hB
    exact absurd (show none = some out from hB) (fun q => by cases q)
  | succ n ih =>
    intro l0 l1 l2 l3 S hl0 hB
    unfold b_X10_fetches_2 at hB
    refine ev_iload_n dX10_fetches_2 rfl ?_
    refine ev_aload_n dX10_fetches_3 rfl ?_
    refine es_geti k_10 2 dX10_fetches_4 (by decide) rfl (Or.inl w_1527) hl0 rfl ?_
    refine ev_icmpge 138 dX10_fetches_7 (by decide) (fun q1 => ?_) (fun q1 => ?_)
    · rw [if_pos q1] at hB
      obtain rfl := Option.some.inj hB
      exact ev_vret dX10_fetches_138 rfl (Nat.zero_le _) (Nat.zero_le _) (fun z => absurd z (hp_sealed _)) ⟨rfl, rfl⟩
    · rw [if_neg q1] at hB
      refine ev_aload_n dX10_fetches_10 rfl ?_
      refine es_getr k_10 46 dX10_fetches_11 (by decide) rfl (Or.inl w_1571) hl0 rfl ?_
      refine ev_iload_n dX10_fetches_14 rfl ?_
      refine ev_bipush 8 dX10_fetches_15 (by decide) ?_
      refine ev_iadd dX10_fetches_17 ?_
      refine ev_bipush 8 dX10_fetches_18 (by decide) ?_
      refine ev_iload_n dX10_fetches_20 rfl ?_
      refine ev_imul dX10_fetches_21 ?_
      refine ev_iadd dX10_fetches_22 ?_
      refine ev_iload_n dX10_fetches_23 rfl ?_
      refine ev_iadd dX10_fetches_24 ?_
      obtain ⟨c2, hB⟩ := ck_of hB
      refine es_iald dX10_fetches_25 (tr_10_46 hl0) c2 ?_
      refine ev_istore dX10_fetches_26 (by decide) rfl ?_
      refine ev_iload dX10_fetches_28 rfl ?_
      refine ev_ifne 36 dX10_fetches_30 (by decide) (fun q3 => ?_) (fun q3 => ?_)
      · rw [if_neg q3] at hB
        refine ev_aload_n dX10_fetches_36 rfl ?_
        refine es_getr k_10 46 dX10_fetches_37 (by decide) rfl (Or.inl w_1571) hl0 rfl ?_
        refine ev_iload_n dX10_fetches_40 rfl ?_
        refine ev_bipush 72 dX10_fetches_41 (by decide) ?_
        refine ev_iadd dX10_fetches_43 ?_
        refine ev_iload_n dX10_fetches_44 rfl ?_
        refine ev_iadd dX10_fetches_45 ?_
        obtain ⟨c4, hB⟩ := ck_of hB
        refine es_iald dX10_fetches_46 (tr_10_46 hl0) c4 ?_
        refine ev_istore dX10_fetches_47 (by decide) rfl ?_
        refine ev_iload dX10_fetches_49 rfl ?_
        refine ev_iconst (-1) dX10_fetches_51 (by decide) ?_
        refine ev_icmpeq 72 dX10_fetches_52 (by decide) (fun q5 => ?_) (fun q5 => ?_)
        · rw [if_pos q5] at hB
          exact ev_ls (u_X10_fetches_72 ih l0 l1 l2 l3 (sg S (rf l0 46) (Int32.toNatClampNeg (((l1 + 8) + (8 * l2)) + l3))) S hl0 hB) (And.intro rfl (And.intro rfl (And.intro rfl (And.intro rfl (And.intro rfl trivial)))))
        · rw [if_neg q5] at hB
          refine ev_aload_n dX10_fetches_55 rfl ?_
          refine ev_iload_n dX10_fetches_56 rfl ?_
          refine ev_iload dX10_fetches_57 rfl ?_
          refine ev_aload_n dX10_fetches_59 rfl ?_
          refine ev_iload_n dX10_fetches_60 rfl ?_
          refine ev_iload dX10_fetches_61 rfl ?_
          refine ev_iload_n dX10_fetches_63 rfl ?_
          refine ev_iload dX10_fetches_64 rfl ?_
          obtain ⟨r6, S7, e8, hB⟩ := bd_of hB
          refine es_callVi (As := [.int l1, .int (sg S (rf l0 46) (Int32.toNatClampNeg (((l1 + 8) + (8 * l2)) + l3))), .int l2, .int (sg S (rf l0 46) (Int32.toNatClampNeg ((l1 + 72) + l3)))]) (t_X10_soundsBy hl0 e8) dX10_fetches_66 oX10_soundsBy w_1990 rfl hl0 rfl rfl (Nat.le_of_ble_eq_true rfl) rfl (am_fit.of (by decide)) ⟨Nat.zero_le _, Nat.zero_le _⟩ ?_
          obtain ⟨S10, e11, hB⟩ := bv_of hB
          refine es_callVv (As := [.int l1, .int (sg S (rf l0 46) (Int32.toNatClampNeg ((l1 + 72) + l3))), .int r6]) (t_X10_hears hl0 e11) dX10_fetches_69 oX10_hears w_1994 rfl hl0 rfl rfl (Nat.le_of_ble_eq_true rfl) rfl (am_fit.of (by decide)) ⟨Nat.zero_le _, Nat.zero_le _⟩ ?_
          exact ev_ls (u_X10_fetches_72 ih l0 l1 l2 l3 (sg S (rf l0 46) (Int32.toNatClampNeg (((l1 + 8) + (8 * l2)) + l3))) S10 hl0 hB) (And.intro rfl (And.intro rfl (And.intro rfl (And.intro rfl (And.intro rfl trivial)))))
      · rw [if_pos q3] at hB
        refine ev_goto 132 dX10_fetches_33 (by decide) ?_
        exact ev_ls (u_X10_fetches_132 ih l0 l1 l2 l3 S hl0 hB) (And.intro rfl (And.intro rfl (And.intro rfl (And.intro rfl trivial))))
theorem t_X10_fetches {G : am_G} {N : Nat} {l0 : Nat} {l1 : Int32} {l2 : Int32} {S : am_S} {out : am_S} (hl0 : isC 10 l0 = true) (hB : f_X10_fetches N l0 l1 l2 S = some out) : am_Met G 4 mX10_fetches 0 0 [.ref l0, .int l1, .int l2] (hp S) (q_v out) q_n := by
  refine am_of (by decide +kernel) rfl rfl rfl (Nat.le_of_ble_eq_true rfl) ?_
  unfold f_X10_fetches at hB
  refine ev_iconst 0 dX10_fetches_0 (by decide) ?_
  refine ev_istore_n dX10_fetches_1 (by decide) rfl ?_
  exact ev_ls (u_X10_fetches_2 N l0 l1 l2 0 S hl0 hB) (And.intro rfl (And.intro rfl (And.intro rfl (And.intro rfl trivial))))
def b_X10_dayGoes_110 (N : Nat) (k64 : Nat → Int32 → Int32 → am_S → Option (am_S)) (l0 : Nat) (l1 : Int32) (l3 : Int32) (z0 : Nat) (z1 : Int32) (z2 : Int32) (z3 : Int32) (S : am_S) : Option (am_S) := (if inb z1 (ln z0) = true then k64 l0 l1 (l3 + 1) (sp S z0 (Int32.toNatClampNeg z1) (z2 - z3)) else none)
def b_X10_dayGoes_109 (N : Nat) (k64 : Nat → Int32 → Int32 → am_S → Option (am_S)) (l0 : Nat) (l1 : Int32) (l3 : Int32) (z0 : Nat) (z1 : Int32) (z2 : Int32) (S : am_S) : Option (am_S) := b_X10_dayGoes_110 N (k64) l0 l1 l3 z0 z1 z2 0 S
def b_X10_dayGoes_64 (N : Nat) : Nat → Nat → Int32 → Int32 → am_S → Option (am_S)
  | 0, _, _, _, _ => none
  | n + 1, l0, l1, l3, S => (if (sg S l0 1) ≤ l3 then (if inb (l1 + 0) (ln (rf l0 46)) = true then (if inb (l1 + 0) (ln (rf l0 46)) = true then some (sp S (rf l0 46) (Int32.toNatClampNeg (l1 + 0)) ((sg S (rf l0 46) (Int32.toNatClampNeg (l1 + 0))) + 1)) else none) else none) else (if inb ((l1 + 2) + l3) (ln (rf l0 46)) = true then (bd (f_X10_heldIn N l0 l1 l3 S) (fun r5 S6 => (if r5 ≤ 0 then b_X10_dayGoes_109 N (b_X10_dayGoes_64 N n) l0 l1 l3 (rf l0 46) ((l1 + 2) + l3) (sg S (rf l0 46) (Int32.toNatClampNeg ((l1 + 2) + l3))) S6 else (if inb ((l1 + 2) + l3) (ln (rf l0 46)) = true then (if (sg S6 (rf l0 46) (Int32.toNatClampNeg ((l1 + 2) + l3))) ≤ 0 then b_X10_dayGoes_109 N (b_X10_dayGoes_64 N n) l0 l1 l3 (rf l0 46) ((l1 + 2) + l3) (sg S (rf l0 46) (Int32.toNatClampNeg ((l1 + 2) + l3))) S6 else b_X10_dayGoes_110 N (b_X10_dayGoes_64 N n) l0 l1 l3 (rf l0 46) ((l1 + 2) + l3) (sg S (rf l0 46) (Int32.toNatClampNeg ((l1 + 2) + l3))) 1 S6) else none)))) else none))
def b_X10_dayGoes_62 (N : Nat) (l0 : Nat) (l1 : Int32) (S : am_S) : Option (am_S) := b_X10_dayGoes_64 N N l0 l1 0 S
def b_X10_dayGoes_7 (N : Nat) : Nat → Nat → Int32 → Int32 → am_S → Option (am_S)
  | 0, _, _, _, _ => none
  | n + 1, l0, l1, l2, S => (if (sg S l0 2) ≤ l2 then (if inb (l1 + 0) (ln (rf l0 46)) = true then (bd (f_X10_comesOn N l0 (sg S (rf l0 46) (Int32.toNatClampNeg (l1 + 0))) S) (fun r3 S4 => (if inb (l1 + 1) (ln (rf l0 46)) = true then (if (sg S4 (rf l0 46) (Int32.toNatClampNeg (l1 + 1))) = 0 then (if r3 = (-1) then b_X10_dayGoes_62 N l0 l1 S4 else (bv (f_X10_fetches N l0 l1 r3 S4) (fun S10 => b_X10_dayGoes_62 N l0 l1 S10))) else b_X10_dayGoes_62 N l0 l1 S4) else none))) else none) else (bv (f_X10_thinks N l0 l1 l2 S) (fun S13 => b_X10_dayGoes_7 N n l0 l1 (l2 + 1) S13)))
def f_X10_dayGoes (N : Nat) (l0 : Nat) (l1 : Int32) (S : am_S) : Option (am_S) := b_X10_dayGoes_7 N N l0 l1 0 (sp S l0 54 0)
theorem u_X10_dayGoes_110 {G : am_G} {N : Nat} {h0 : am_H} {out : am_S} {k64 : Nat → Int32 → Int32 → am_S → Option (am_S)} (hk64 : ∀ (l0 : Nat) (l1 : Int32) (l3 : Int32) (S : am_S), isC 10 l0 = true → k64 l0 l1 l3 S = some out → Ev G (am_R 5 0 0) (am_Φ G h0 0 0 (q_v out) q_n) mX10_dayGoes 0 0 64 [some (.ref l0), some (.int l1), none, some (.int l3)] [] (hp S)) (l0 : Nat) (l1 : Int32) (l3 : Int32) (z0 : Nat) (z1 : Int32) (z2 : Int32) (z3 : Int32) (S : am_S) (hl0 : isC 10 l0 = true) (hz0 : isAr 1 z0 = true) (hB : b_X10_dayGoes_110 N k64 l0 l1 l3 z0 z1 z2 z3 S = some out) : Ev G (am_R 5 0 0) (am_Φ G h0 0 0 (q_v out) q_n) mX10_dayGoes 0 0 110 [some (.ref l0), some (.int l1), none, some (.int l3)] [.int z3, .int z2, .int z1, .ref z0] (hp S) := by
  unfold b_X10_dayGoes_110 at hB
  refine ev_isub dX10_dayGoes_110 ?_
  obtain ⟨c1, hB⟩ := ck_of hB
  refine es_iast dX10_dayGoes_111 hz0 c1 ?_
  refine es_iinc 1 dX10_dayGoes_112 rfl (by decide) (by decide) rfl ?_
  refine ev_goto 64 dX10_dayGoes_115 (by decide) ?_
  exact ev_ls (hk64 l0 l1 (l3 + 1) (sp S z0 (Int32.toNatClampNeg z1) (z2 - z3)) hl0 hB) (And.intro rfl (And.intro rfl (And.intro rfl trivial)))
theorem u_X10_dayGoes_109 {G : am_G} {N : Nat} {h0 : am_H} {out : am_S} {k64 : Nat → Int32 → Int32 → am_S → Option (am_S)} (hk64 : ∀ (l0 : Nat) (l1 : Int32) (l3 : Int32) (S : am_S), isC 10 l0 = true → k64 l0 l1 l3 S = some out → Ev G (am_R 5 0 0) (am_Φ G h0 0 0 (q_v out) q_n) mX10_dayGoes 0 0 64 [some (.ref l0), some (.int l1), none, some (.int l3)] [] (hp S)) (l0 : Nat) (l1 : Int32) (l3 : Int32) (z0 : Nat) (z1 : Int32) (z2 : Int32) (S : am_S) (hl0 : isC 10 l0 = true) (hz0 : isAr 1 z0 = true) (hB : b_X10_dayGoes_109 N k64 l0 l1 l3 z0 z1 z2 S = some out) : Ev G (am_R 5 0 0) (am_Φ G h0 0 0 (q_v out) q_n) mX10_dayGoes 0 0 109 [some (.ref l0), some (.int l1), none, some (.int l3)] [.int z2, .int z1, .ref z0] (hp S) := by
  unfold b_X10_dayGoes_109 at hB
  refine ev_iconst 0 dX10_dayGoes_109 (by decide) ?_
  exact ev_ls (u_X10_dayGoes_110 hk64 l0 l1 l3 z0 z1 z2 0 S hl0 hz0 hB) (And.intro rfl (And.intro rfl (And.intro rfl trivial)))
theorem u_X10_dayGoes_64 {G : am_G} {N : Nat} {h0 : am_H} {out : am_S} : ∀ (n : Nat) (l0 : Nat) (l1 : Int32) (l3 : Int32) (S : am_S), isC 10 l0 = true → b_X10_dayGoes_64 N n l0 l1 l3 S = some out → Ev G (am_R 5 0 0) (am_Φ G h0 0 0 (q_v out) q_n) mX10_dayGoes 0 0 64 [some (.ref l0), some (.int l1), none, some (.int l3)] [] (hp S) := by
  intro n
  induction n with
  | zero =>
    intro l0 l1 l3 S hl0 hB
    exact absurd (show none = some out from hB) (fun q => by cases q)
  | succ n ih =>
    intro l0 l1 l3 S hl0 hB
    unfold b_X10_dayGoes_64 at hB
    refine ev_iload_n dX10_dayGoes_64 rfl ?_
    refine ev_aload_n dX10_dayGoes_65 rfl ?_
    refine es_geti k_10 1 dX10_dayGoes_66 (by decide) rfl (Or.inl w_1526) hl0 rfl ?_
    refine ev_icmpge 118 dX10_dayGoes_69 (by decide) (fun q1 => ?_) (fun q1 => ?_)
    · rw [if_pos q1] at hB
      refine ev_aload_n dX10_dayGoes_118 rfl ?_
      refine es_getr k_10 46 dX10_dayGoes_119 (by decide) rfl (Or.inl w_1571) hl0 rfl ?_
      refine ev_iload_n dX10_dayGoes_122 rfl ?_
      refine ev_iconst 0 dX10_dayGoes_123 (by decide) ?_
      refine ev_iadd dX10_dayGoes_124 ?_
      refine ev_dup2 dX10_dayGoes_125 rfl rfl ?_
      obtain ⟨c2, hB⟩ := ck_of hB
      refine es_iald dX10_dayGoes_126 (tr_10_46 hl0) c2 ?_
      refine ev_iconst 1 dX10_dayGoes_127 (by decide) ?_
      refine ev_iadd dX10_dayGoes_128 ?_
      obtain ⟨c3, hB⟩ := ck_of hB
      refine es_iast dX10_dayGoes_129 (tr_10_46 hl0) c3 ?_
      obtain rfl := Option.some.inj hB
      exact ev_vret dX10_dayGoes_130 rfl (Nat.zero_le _) (Nat.zero_le _) (fun z => absurd z (hp_sealed _)) ⟨rfl, rfl⟩
    · rw [if_neg q1] at hB
      refine ev_aload_n dX10_dayGoes_72 rfl ?_
      refine es_getr k_10 46 dX10_dayGoes_73 (by decide) rfl (Or.inl w_1571) hl0 rfl ?_
      refine ev_iload_n dX10_dayGoes_76 rfl ?_
      refine ev_iconst 2 dX10_dayGoes_77 (by decide) ?_
      refine ev_iadd dX10_dayGoes_78 ?_
      refine ev_iload_n dX10_dayGoes_79 rfl ?_
      refine ev_iadd dX10_dayGoes_80 ?_
      refine ev_dup2 dX10_dayGoes_81 rfl rfl ?_
      obtain ⟨c4, hB⟩ := ck_of hB
      refine es_iald dX10_dayGoes_82 (tr_10_46 hl0) c4 ?_
      refine ev_aload_n dX10_dayGoes_83 rfl ?_
      refine ev_iload_n dX10_dayGoes_84 rfl ?_
      refine ev_iload_n dX10_dayGoes_85 rfl ?_
      obtain ⟨r5, S6, e7, hB⟩ := bd_of hB
      refine es_callVi (As := [.int l1, .int l3]) (t_X10_heldIn hl0 e7) dX10_dayGoes_86 oX10_heldIn w_1890 rfl hl0 rfl rfl (Nat.le_of_ble_eq_true rfl) rfl (am_fit.of (by decide)) ⟨Nat.zero_le _, Nat.zero_le _⟩ ?_
      refine ev_ifle 109 dX10_dayGoes_89 (by decide) (fun q8 => ?_) (fun q8 => ?_)
      · rw [if_pos q8] at hB
        exact ev_ls (u_X10_dayGoes_109 ih l0 l1 l3 (rf l0 46) ((l1 + 2) + l3) (sg S (rf l0 46) (Int32.toNatClampNeg ((l1 + 2) + l3))) S6 hl0 (tr_10_46 hl0) hB) (And.intro rfl (And.intro rfl (And.intro rfl trivial)))
      · rw [if_neg q8] at hB
        refine ev_aload_n dX10_dayGoes_92 rfl ?_
        refine es_getr k_10 46 dX10_dayGoes_93 (by decide) rfl (Or.inl w_1571) hl0 rfl ?_
        refine ev_iload_n dX10_dayGoes_96 rfl ?_
        refine ev_iconst 2 dX10_dayGoes_97 (by decide) ?_
        refine ev_iadd dX10_dayGoes_98 ?_
        refine ev_iload_n dX10_dayGoes_99 rfl ?_
        refine ev_iadd dX10_dayGoes_100 ?_
        obtain ⟨c9, hB⟩ := ck_of hB
        refine es_iald dX10_dayGoes_101 (tr_10_46 hl0) c9 ?_
        refine ev_ifle 109 dX10_dayGoes_102 (by decide) (fun q10 => ?_) (fun q10 => ?_)
        · rw [if_pos q10] at hB
          exact ev_ls (u_X10_dayGoes_109 ih l0 l1 l3 (rf l0 46) ((l1 + 2) + l3) (sg S (rf l0 46) (Int32.toNatClampNeg ((l1 + 2) + l3))) S6 hl0 (tr_10_46 hl0) hB) (And.intro rfl (And.intro rfl (And.intro rfl trivial)))
        · rw [if_neg q10] at hB
          refine ev_iconst 1 dX10_dayGoes_105 (by decide) ?_
          refine ev_goto 110 dX10_dayGoes_106 (by decide) ?_
          exact ev_ls (u_X10_dayGoes_110 ih l0 l1 l3 (rf l0 46) ((l1 + 2) + l3) (sg S (rf l0 46) (Int32.toNatClampNeg ((l1 + 2) + l3))) 1 S6 hl0 (tr_10_46 hl0) hB) (And.intro rfl (And.intro rfl (And.intro rfl trivial)))
theorem u_X10_dayGoes_62 {G : am_G} {N : Nat} {h0 : am_H} {out : am_S} (l0 : Nat) (l1 : Int32) (S : am_S) (hl0 : isC 10 l0 = true) (hB : b_X10_dayGoes_62 N l0 l1 S = some out) : Ev G (am_R 5 0 0) (am_Φ G h0 0 0 (q_v out) q_n) mX10_dayGoes 0 0 62 [some (.ref l0), some (.int l1), none, none] [] (hp S) := by
  unfold b_X10_dayGoes_62 at hB
  refine ev_iconst 0 dX10_dayGoes_62 (by decide) ?_
  refine ev_istore_n dX10_dayGoes_63 (by decide) rfl ?_
  exact ev_ls (u_X10_dayGoes_64 N l0 l1 0 S hl0 hB) (And.intro rfl (And.intro rfl (And.intro rfl trivial)))
theorem u_X10_dayGoes_7 {G : am_G} {N : Nat} {h0 : am_H} {out : am_S} : ∀ (n : Nat) (l0 : Nat) (l1 : Int32) (l2 : Int32) (S : am_S), isC 10 l0 = true → b_X10_dayGoes_7 N n l0 l1 l2 S = some out → Ev G (am_R 5 0 0) (am_Φ G h0 0 0 (q_v out) q_n) mX10_dayGoes 0 0 7 [some (.ref l0), some (.int l1), some (.int l2), none] [] (hp S) := by
  intro n
  induction n with
  | zero =>
    intro l0 l1 l2 S hl0 hB
    exact absurd (show none = some out from hB) (fun q => by cases q)
  | succ n ih =>
    intro l0 l1 l2 S hl0 hB
    unfold b_X10_dayGoes_7 at hB
    refine ev_iload_n dX10_dayGoes_7 rfl ?_
    refine ev_aload_n dX10_dayGoes_8 rfl ?_
    refine es_geti k_10 2 dX10_dayGoes_9 (by decide) rfl (Or.inl w_1527) hl0 rfl ?_
    refine ev_icmpge 27 dX10_dayGoes_12 (by decide) (fun q1 => ?_) (fun q1 => ?_)
    · rw [if_pos q1] at hB
      refine ev_aload_n dX10_dayGoes_27 rfl ?_
      refine ev_aload_n dX10_dayGoes_28 rfl ?_
      refine es_getr k_10 46 dX10_dayGoes_29 (by decide) rfl (Or.inl w_1571) hl0 rfl ?_
      refine ev_iload_n dX10_dayGoes_32 rfl ?_
      refine ev_iconst 0 dX10_dayGoes_33 (by decide) ?_
      refine ev_iadd dX10_dayGoes_34 ?_
      obtain ⟨c2, hB⟩ := ck_of hB
      refine es_iald dX10_dayGoes_35 (tr_10_46 hl0) c2 ?_
      obtain ⟨r3, S4, e5, hB⟩ := bd_of hB
      refine es_callVi (As := [.int (sg S (rf l0 46) (Int32.toNatClampNeg (l1 + 0)))]) (t_X10_comesOn hl0 e5) dX10_dayGoes_36 oX10_comesOn w_1882 rfl hl0 rfl rfl (Nat.le_of_ble_eq_true rfl) rfl (am_fit.of (by decide)) ⟨Nat.zero_le _, Nat.zero_le _⟩ ?_
      refine ev_istore_n dX10_dayGoes_39 (by decide) rfl ?_
      refine ev_aload_n dX10_dayGoes_40 rfl ?_
      refine es_getr k_10 46 dX10_dayGoes_41 (by decide) rfl (Or.inl w_1571) hl0 rfl ?_
      refine ev_iload_n dX10_dayGoes_44 rfl ?_
      refine ev_iconst 1 dX10_dayGoes_45 (by decide) ?_
      refine ev_iadd dX10_dayGoes_46 ?_
      obtain ⟨c6, hB⟩ := ck_of hB
      refine es_iald dX10_dayGoes_47 (tr_10_46 hl0) c6 ?_
      refine ev_ifne 62 dX10_dayGoes_48 (by decide) (fun q7 => ?_) (fun q7 => ?_)
      · rw [if_neg q7] at hB
        exact ev_ls (u_X10_dayGoes_62 l0 l1 S4 hl0 hB) (And.intro rfl (And.intro rfl trivial))
      · rw [if_pos q7] at hB
        refine ev_iload_n dX10_dayGoes_51 rfl ?_
        refine ev_iconst (-1) dX10_dayGoes_52 (by decide) ?_
        refine ev_icmpeq 62 dX10_dayGoes_53 (by decide) (fun q8 => ?_) (fun q8 => ?_)
        · rw [if_pos q8] at hB
          exact ev_ls (u_X10_dayGoes_62 l0 l1 S4 hl0 hB) (And.intro rfl (And.intro rfl trivial))
        · rw [if_neg q8] at hB
          refine ev_aload_n dX10_dayGoes_56 rfl ?_
          refine ev_iload_n dX10_dayGoes_57 rfl ?_
          refine ev_iload_n dX10_dayGoes_58 rfl ?_
          obtain ⟨S10, e11, hB⟩ := bv_of hB
          refine es_callVv (As := [.int l1, .int r3]) (t_X10_fetches hl0 e11) dX10_dayGoes_59 oX10_fetches w_1986 rfl hl0 rfl rfl (Nat.le_of_ble_eq_true rfl) rfl (am_fit.of (by decide)) ⟨Nat.zero_le _, Nat.zero_le _⟩ ?_
          exact ev_ls (u_X10_dayGoes_62 l0 l1 S10 hl0 hB) (And.intro rfl (And.intro rfl trivial))
    · rw [if_neg q1] at hB
      refine ev_aload_n dX10_dayGoes_15 rfl ?_
      refine ev_iload_n dX10_dayGoes_16 rfl ?_
      refine ev_iload_n dX10_dayGoes_17 rfl ?_
      obtain ⟨S13, e14, hB⟩ := bv_of hB
      refine es_callVv (As := [.int l1, .int l2]) (t_X10_thinks hl0 e14) dX10_dayGoes_18 oX10_thinks w_1965 rfl hl0 rfl rfl (Nat.le_of_ble_eq_true rfl) rfl (am_fit.of (by decide)) ⟨Nat.zero_le _, Nat.zero_le _⟩ ?_
      refine es_iinc 1 dX10_dayGoes_21 rfl (by decide) (by decide) rfl ?_
      refine ev_goto 7 dX10_dayGoes_24 (by decide) ?_
      exact ev_ls (ih l0 l1 (l2 + 1) S13 hl0 hB) (And.intro rfl (And.intro rfl (And.intro rfl trivial)))
theorem t_X10_dayGoes {G : am_G} {N : Nat} {l0 : Nat} {l1 : Int32} {S : am_S} {out : am_S} (hl0 : isC 10 l0 = true) (hB : f_X10_dayGoes N l0 l1 S = some out) : am_Met G 5 mX10_dayGoes 0 0 [.ref l0, .int l1] (hp S) (q_v out) q_n := by
  refine am_of (by decide +kernel) rfl rfl rfl (Nat.le_of_ble_eq_true rfl) ?_
  unfold f_X10_dayGoes at hB
  refine ev_aload_n dX10_dayGoes_0 rfl ?_
  refine ev_iconst 0 dX10_dayGoes_1 (by decide) ?_
  refine es_puti k_10 54 dX10_dayGoes_2 (by decide) rfl (Or.inl w_1579) rfl rfl hl0 rfl ?_
  refine ev_iconst 0 dX10_dayGoes_5 (by decide) ?_
  refine ev_istore_n dX10_dayGoes_6 (by decide) rfl ?_
  exact ev_ls (u_X10_dayGoes_7 N l0 l1 0 (sp S l0 54 0) hl0 hB) (And.intro rfl (And.intro rfl (And.intro rfl trivial)))
