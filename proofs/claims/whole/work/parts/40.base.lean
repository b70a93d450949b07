/-! numbers as Int32; memory; runs -/
theorem l0 : (0 : Int32) = nI 0 := rfl
theorem l1 : (1 : Int32) = nI 1 := rfl
theorem l2 : (2 : Int32) = nI 2 := rfl
theorem l3 : (3 : Int32) = nI 3 := rfl
theorem l4 : (4 : Int32) = nI 4 := rfl
theorem l5 : (5 : Int32) = nI 5 := rfl
theorem l6 : (6 : Int32) = nI 6 := rfl
theorem l7 : (7 : Int32) = nI 7 := rfl
theorem l8 : (8 : Int32) = nI 8 := rfl
theorem l9 : (9 : Int32) = nI 9 := rfl
theorem l10 : (10 : Int32) = nI 10 := rfl
theorem l11 : (11 : Int32) = nI 11 := rfl
theorem l12 : (12 : Int32) = nI 12 := rfl
theorem l13 : (13 : Int32) = nI 13 := rfl
theorem l14 : (14 : Int32) = nI 14 := rfl
theorem l15 : (15 : Int32) = nI 15 := rfl
theorem l16 : (16 : Int32) = nI 16 := rfl
theorem l17 : (17 : Int32) = nI 17 := rfl
theorem l18 : (18 : Int32) = nI 18 := rfl
theorem l19 : (19 : Int32) = nI 19 := rfl
theorem l20 : (20 : Int32) = nI 20 := rfl
theorem l24 : (24 : Int32) = nI 24 := rfl
theorem l26 : (26 : Int32) = nI 26 := rfl
theorem l27 : (27 : Int32) = nI 27 := rfl
theorem l28 : (28 : Int32) = nI 28 := rfl
theorem l30 : (30 : Int32) = nI 30 := rfl
theorem l31 : (31 : Int32) = nI 31 := rfl
theorem l32 : (32 : Int32) = nI 32 := rfl
theorem l40 : (40 : Int32) = nI 40 := rfl
theorem l48 : (48 : Int32) = nI 48 := rfl
theorem l56 : (56 : Int32) = nI 56 := rfl
theorem l64 : (64 : Int32) = nI 64 := rfl
theorem l72 : (72 : Int32) = nI 72 := rfl
theorem l80 : (80 : Int32) = nI 80 := rfl
theorem l99 : (99 : Int32) = nI 99 := rfl
theorem l160 : (160 : Int32) = nI 160 := rfl
theorem l255 : (255 : Int32) = nI 255 := rfl
theorem l448 : (448 : Int32) = nI 448 := rfl
theorem l700 : (700 : Int32) = nI 700 := rfl
theorem l792 : (792 : Int32) = nI 792 := rfl
theorem l950 : (950 : Int32) = nI 950 := rfl
theorem l999 : (999 : Int32) = nI 999 := rfl
theorem l1400 : (1400 : Int32) = nI 1400 := rfl
theorem l3072 : (3072 : Int32) = nI 3072 := rfl
theorem l3200 : (3200 : Int32) = nI 3200 := rfl
theorem l9999 : (9999 : Int32) = nI 9999 := rfl
theorem l10000 : (10000 : Int32) = nI 10000 := rfl
theorem l20000 : (20000 : Int32) = nI 20000 := rfl
theorem nIa (a b : Nat) : nI a + nI b = nI (a + b) := (Int32.ofNat_add a b).symm
theorem nIm (a b : Nat) : nI a * nI b = nI (a * b) := (Int32.ofNat_mul a b).symm
theorem nIs {a b : Nat} (h : b ≤ a) : nI a - nI b = nI (a - b) := (Int32.ofNat_sub a b h).symm
theorem nI1 (a : Nat) : nI a + 1 = nI (a + 1) := nIa a 1
theorem nIc {a : Nat} (h : a < 2147483648) : Int32.toNatClampNeg (nI a) = a := Int32.toNatClampNeg_ofNat_of_lt h
theorem nIle {a b : Nat} (ha : a < 2147483648) (hb : b < 2147483648) : (nI a ≤ nI b) ↔ a ≤ b := Int32.ofNat_le_iff_le ha hb
theorem nIlt {a b : Nat} (ha : a < 2147483648) (hb : b < 2147483648) : (nI a < nI b) ↔ a < b := Int32.ofNat_lt_iff_lt ha hb
theorem nIi {a : Nat} (h : a < 2147483648) : (nI a).toInt = a := Int32.toInt_ofNat_of_lt h
theorem nIeq {a b : Nat} (ha : a < 2147483648) (hb : b < 2147483648) : (nI a = nI b) ↔ a = b := by
  constructor
  · intro h
    have h1 := congrArg Int32.toNatClampNeg h
    rwa [nIc ha, nIc hb] at h1
  · intro h
    rw [h]
theorem nIn {a : Nat} (h : a < 2147483648) : ¬ nI a = -1 := by
  intro h1
  have h2 := congrArg Int32.toInt h1
  rw [nIi h] at h2
  have h3 : ((-1 : Int32)).toInt = -1 := rfl
  rw [h3] at h2
  omega
theorem nIne {a : Nat} (h : a < 2147483648) : (nI a = -1) ↔ False := ⟨fun h1 => nIn h h1, False.elim⟩
theorem nI0 {a : Nat} (h : a < 2147483648) : ¬ nI a < 0 := by
  rw [l0, nIlt h (by decide)]
  omega
theorem inbN {a n : Nat} (h : a < n) (hn : n ≤ 2147483648) : inb (nI a) n = true := by
  unfold inb
  rw [nIc (by omega)]
  have h1 : Nat.blt a n = true := by
    rw [Nat.blt_eq]
    exact h
  rw [h1, Bool.and_true]
  exact decide_eq_true (nI0 (by omega))
theorem ofC {x : Int32} (h : 0 ≤ x) : x = nI x.toNatClampNeg := (Int32.ofNat_toNatClampNeg x h).symm
theorem ofI {x : Int32} (h : 0 ≤ x.toInt) : x = nI x.toInt.toNat := by
  have h1 : (0 : Int32) ≤ x := by
    rw [Int32.le_iff_toInt_le]
    exact h
  exact ofC h1
theorem tA {a b : Int32} (h1 : -2147483648 ≤ a.toInt + b.toInt) (h2 : a.toInt + b.toInt < 2147483648) : (a + b).toInt = a.toInt + b.toInt := by
  rw [Int32.toInt_add, Int.bmod_eq_of_le (by omega) (by omega)]
theorem tS {a b : Int32} (h1 : -2147483648 ≤ a.toInt - b.toInt) (h2 : a.toInt - b.toInt < 2147483648) : (a - b).toInt = a.toInt - b.toInt := by
  rw [Int32.toInt_sub, Int.bmod_eq_of_le (by omega) (by omega)]
theorem t0 : (0 : Int32).toInt = 0 := rfl
theorem t1 : (1 : Int32).toInt = 1 := rfl
theorem tm1 : (-1 : Int32).toInt = -1 := rfl
theorem r0_0 : rf 0 0 = 1 := rfl
theorem r0_2 : rf 0 2 = 2 := rfl
theorem r0_4 : rf 0 4 = 7 := rfl
theorem r0_7 : rf 0 7 = 40 := rfl
theorem r0_8 : rf 0 8 = 42 := rfl
theorem r0_9 : rf 0 9 = 44 := rfl
theorem r0_10 : rf 0 10 = 46 := rfl
theorem r0_12 : rf 0 12 = 50 := rfl
theorem r0_13 : rf 0 13 = 52 := rfl
theorem r0_14 : rf 0 14 = 54 := rfl
theorem r0_15 : rf 0 15 = 58 := rfl
theorem r0_16 : rf 0 16 = 76 := rfl
theorem r0_17 : rf 0 17 = 77 := rfl
theorem r2_0 : rf 2 0 = 3 := rfl
theorem r2_1 : rf 2 1 = 5 := rfl
theorem r5_0 : rf 5 0 = 6 := rfl
theorem r44_0 : rf 44 0 = 45 := rfl
theorem r46_0 : rf 46 0 = 47 := rfl
theorem r46_1 : rf 46 1 = 48 := rfl
theorem r46_2 : rf 46 2 = 49 := rfl
theorem r52_0 : rf 52 0 = 53 := rfl
theorem r54_0 : rf 54 0 = 55 := rfl
theorem r54_1 : rf 54 1 = 56 := rfl
theorem r54_2 : rf 54 2 = 57 := rfl
theorem r58_0 : rf 58 0 = 59 := rfl
theorem r58_1 : rf 58 1 = 60 := rfl
theorem r58_2 : rf 58 2 = 61 := rfl
theorem r78_7 : rf 78 7 = 79 := rfl
theorem r78_8 : rf 78 8 = 80 := rfl
theorem r78_9 : rf 78 9 = 81 := rfl
theorem r78_10 : rf 78 10 = 82 := rfl
theorem r78_11 : rf 78 11 = 83 := rfl
theorem r78_12 : rf 78 12 = 84 := rfl
theorem r78_13 : rf 78 13 = 85 := rfl
theorem r78_17 : rf 78 17 = 86 := rfl
theorem r78_37 : rf 78 37 = 87 := rfl
theorem r78_38 : rf 78 38 = 88 := rfl
theorem r78_39 : rf 78 39 = 89 := rfl
theorem r78_40 : rf 78 40 = 90 := rfl
theorem r78_41 : rf 78 41 = 91 := rfl
theorem r78_42 : rf 78 42 = 92 := rfl
theorem r78_43 : rf 78 43 = 93 := rfl
theorem r78_44 : rf 78 44 = 94 := rfl
theorem r78_45 : rf 78 45 = 95 := rfl
theorem r78_46 : rf 78 46 = 96 := rfl
theorem r78_47 : rf 78 47 = 97 := rfl
theorem r78_49 : rf 78 49 = 98 := rfl
theorem r78_50 : rf 78 50 = 99 := rfl
theorem r78_53 : rf 78 53 = 100 := rfl
theorem r78_55 : rf 78 55 = 101 := rfl
theorem r78_57 : rf 78 57 = 102 := rfl
theorem r78_58 : rf 78 58 = 103 := rfl
theorem r78_59 : rf 78 59 = 104 := rfl
theorem r78_64 : rf 78 64 = 105 := rfl
theorem r78_65 : rf 78 65 = 106 := rfl
theorem r78_66 : rf 78 66 = 107 := rfl
theorem n1 : ln 1 = 700 := rfl
theorem n4 : ln 4 = 0 := rfl
theorem n6 : ln 6 = 84 := rfl
theorem n7 : ln 7 = 3 := rfl
theorem n9 : ln 9 = 6 := rfl
theorem n10 : ln 10 = 6 := rfl
theorem n11 : ln 11 = 8 := rfl
theorem n12 : ln 12 = 8 := rfl
theorem n13 : ln 13 = 8 := rfl
theorem n14 : ln 14 = 8 := rfl
theorem n15 : ln 15 = 8 := rfl
theorem n16 : ln 16 = 8 := rfl
theorem n18 : ln 18 = 700 := rfl
theorem n19 : ln 19 = 40 := rfl
theorem n21 : ln 21 = 700 := rfl
theorem n22 : ln 22 = 40 := rfl
theorem n23 : ln 23 = 6 := rfl
theorem n25 : ln 25 = 6 := rfl
theorem n26 : ln 26 = 6 := rfl
theorem n27 : ln 27 = 8 := rfl
theorem n28 : ln 28 = 8 := rfl
theorem n29 : ln 29 = 8 := rfl
theorem n30 : ln 30 = 8 := rfl
theorem n31 : ln 31 = 8 := rfl
theorem n32 : ln 32 = 8 := rfl
theorem n34 : ln 34 = 700 := rfl
theorem n35 : ln 35 = 40 := rfl
theorem n37 : ln 37 = 700 := rfl
theorem n38 : ln 38 = 40 := rfl
theorem n39 : ln 39 = 6 := rfl
theorem n41 : ln 41 = 80 := rfl
theorem n43 : ln 43 = 80 := rfl
theorem n45 : ln 45 = 3200 := rfl
theorem n47 : ln 47 = 8 := rfl
theorem n48 : ln 48 = 8 := rfl
theorem n49 : ln 49 = 8 := rfl
theorem n51 : ln 51 = 80 := rfl
theorem n53 : ln 53 = 3200 := rfl
theorem n55 : ln 55 = 8 := rfl
theorem n56 : ln 56 = 8 := rfl
theorem n57 : ln 57 = 8 := rfl
theorem n59 : ln 59 = 7 := rfl
theorem n60 : ln 60 = 6 := rfl
theorem n61 : ln 61 = 6 := rfl
theorem n63 : ln 63 = 80 := rfl
theorem n65 : ln 65 = 80 := rfl
theorem n67 : ln 67 = 80 := rfl
theorem n69 : ln 69 = 80 := rfl
theorem n71 : ln 71 = 80 := rfl
theorem n73 : ln 73 = 80 := rfl
theorem n75 : ln 75 = 80 := rfl
theorem n76 : ln 76 = 512 := rfl
theorem n77 : ln 77 = 8 := rfl
theorem n79 : ln 79 = 6 := rfl
theorem n80 : ln 80 = 8 := rfl
theorem n81 : ln 81 = 8 := rfl
theorem n82 : ln 82 = 8 := rfl
theorem n83 : ln 83 = 8 := rfl
theorem n84 : ln 84 = 1400 := rfl
theorem n85 : ln 85 = 700 := rfl
theorem n86 : ln 86 = 3 := rfl
theorem n87 : ln 87 = 6 := rfl
theorem n88 : ln 88 = 8 := rfl
theorem n89 : ln 89 = 8 := rfl
theorem n90 : ln 90 = 8 := rfl
theorem n91 : ln 91 = 8 := rfl
theorem n92 : ln 92 = 80 := rfl
theorem n93 : ln 93 = 1400 := rfl
theorem n94 : ln 94 = 950 := rfl
theorem n95 : ln 95 = 9 := rfl
theorem n96 : ln 96 = 160 := rfl
theorem n97 : ln 97 = 3200 := rfl
theorem n98 : ln 98 = 9 := rfl
theorem n99 : ln 99 = 950 := rfl
theorem n100 : ln 100 = 6 := rfl
theorem n101 : ln 101 = 6 := rfl
theorem n102 : ln 102 = 24 := rfl
theorem n103 : ln 103 = 8 := rfl
theorem n104 : ln 104 = 448 := rfl
theorem n105 : ln 105 = 80 := rfl
theorem n106 : ln 106 = 3200 := rfl
theorem n107 : ln 107 = 24 := rfl
theorem n108 : ln 108 = 1 := rfl
theorem sgp (S : am_S) (k j : Nat) (v : Int32) : sg (sp S k j v) k j = v := by
  unfold sg sp up2
  simp
theorem sgn {S : am_S} {k j a i : Nat} {v : Int32} (h : ¬ a = k) : sg (sp S k j v) a i = sg S a i := by
  unfold sg sp up2
  have h1 : Nat.beq a k = false := by
    cases hb : Nat.beq a k with
    | false => rfl
    | true => exact absurd (Nat.eq_of_beq_eq_true hb) h
  simp [h1]
theorem sgj {S : am_S} {k j i : Nat} {v : Int32} (h : ¬ i = j) : sg (sp S k j v) k i = sg S k i := by
  unfold sg sp up2
  have h1 : Nat.beq i j = false := by
    cases hb : Nat.beq i j with
    | false => rfl
    | true => exact absurd (Nat.eq_of_beq_eq_true hb) h
  simp [h1]
theorem sgw (S : am_S) (k i : Nat) (f : Nat → Int32) : sg (sw S k f) k i = f i := by
  unfold sg sw
  simp
theorem sgwn {S : am_S} {k a i : Nat} {f : Nat → Int32} (h : ¬ a = k) : sg (sw S k f) a i = sg S a i := by
  unfold sg sw
  have h1 : Nat.beq a k = false := by
    cases hb : Nat.beq a k with
    | false => rfl
    | true => exact absurd (Nat.eq_of_beq_eq_true hb) h
  simp [h1]
theorem sp2 (S : am_S) (k j : Nat) (v : Int32) : (sp S k j v).2 = S.2 := rfl
theorem sw2 (S : am_S) (k : Nat) (f : Nat → Int32) : (sw S k f).2 = S.2 := rfl
theorem bd_some {α β : Type} (r : α) (S : am_S) (F : α → am_S → Option β) : bd (some (r, S)) F = F r S := rfl
theorem bv_some {β : Type} (S : am_S) (F : am_S → Option β) : bv (some S) F = F S := rfl
theorem bt_inl (r : Int32) (S : am_S) (F : Int32 → am_S → Option am_T) : bt (some (.inl r, S)) F = F r S := rfl
theorem bt_inr (e : Nat) (S : am_S) (F : Int32 → am_S → Option am_T) : bt (some (.inr e, S)) F = some (.inr e, S) := rfl
theorem ckT {β : Type} {X : Option β} : (if true = true then X else none) = X := if_pos rfl
theorem isB0 : isB 0 = true := rfl
theorem isB1 : isB 1 = true := rfl
/-- a run that ends, with what holds at its end -/
def Rn {α : Type} (o : Option α) (Q : α → Prop) : Prop := ∃ a, o = some a ∧ Q a
theorem Rn_bd {α β : Type} {o : Option (α × am_S)} {F : α → am_S → Option β} {Q : β → Prop} (h : Rn o (fun q => Rn (F q.1 q.2) Q)) : Rn (bd o F) Q := by
  obtain ⟨⟨r, S⟩, rfl, h⟩ := h
  exact h
theorem Rn_bv {β : Type} {o : Option am_S} {F : am_S → Option β} {Q : β → Prop} (h : Rn o (fun S => Rn (F S) Q)) : Rn (bv o F) Q := by
  obtain ⟨S, rfl, h⟩ := h
  exact h
theorem Rn_ret {α : Type} {a : α} {Q : α → Prop} (h : Q a) : Rn (some a) Q := ⟨a, rfl, h⟩
theorem Rn_mono {α : Type} {o : Option α} {Q Q' : α → Prop} (h : Rn o Q) (hq : ∀ a, Q a → Q' a) : Rn o Q' := by
  obtain ⟨a, h1, h2⟩ := h
  exact ⟨a, h1, hq a h2⟩
theorem Rn_eq {α : Type} {o : Option α} {a : α} {Q : α → Prop} (h : o = some a) (hq : Q a) : Rn o Q := ⟨a, h, hq⟩
/-- nothing changed but in the cells W -/
def Fr (W : Nat → Prop) (S S' : am_S) : Prop := (∀ k j, ¬ W k → sg S' k j = sg S k j) ∧ S'.2 = S.2
theorem Fr_rf (W : Nat → Prop) (S : am_S) : Fr W S S := ⟨fun _ _ _ => rfl, rfl⟩
theorem Fr_tr {W : Nat → Prop} {S S' S'' : am_S} (h : Fr W S S') (h' : Fr W S' S'') : Fr W S S'' := ⟨fun k j hk => (h'.1 k j hk).trans (h.1 k j hk), h'.2.trans h.2⟩
theorem Fr_wk {W W' : Nat → Prop} {S S' : am_S} (h : Fr W S S') (hw : ∀ k, W k → W' k) : Fr W' S S' := ⟨fun k j hk => h.1 k j (fun q => hk (hw k q)), h.2⟩
theorem Fr_sp {W : Nat → Prop} {S S' : am_S} {k j : Nat} {v : Int32} (h : Fr W S S') (hk : W k) : Fr W S (sp S' k j v) := ⟨fun a i ha => by
  rw [sgn (fun q => ha (by rw [q]; exact hk))]
  exact h.1 a i ha, h.2⟩
theorem Fr_sw {W : Nat → Prop} {S S' : am_S} {k : Nat} {f : Nat → Int32} (h : Fr W S S') (hk : W k) : Fr W S (sw S' k f) := ⟨fun a i ha => by
  rw [sgwn (fun q => ha (by rw [q]; exact hk))]
  exact h.1 a i ha, h.2⟩
