/-! every run of calls -/
section
def a00 : Ax := (cyN cp0, (rwN cp0, (0, fun _ _ => 0), (0, fun _ => (0, 0, 0))), none, (0, fun _ => 0), -1, fun _ => 0)
theorem W_00 : WX a00 := ⟨CI_N CpI_0 RuA_0, ⟨WR_N CpI_0, ⟨Nat.zero_le _, fun i hi => absurd hi (Nat.not_lt_zero i)⟩, ⟨Nat.zero_le _, fun i hi => absurd hi (Nat.not_lt_zero i)⟩⟩, fun v q => nnE q, Nat.zero_le _, fun _ => by show 0 < 256; omega⟩
theorem row0c : ∀ j, j < 72 → sg S0 41 (pm j) = rwN cp0 j := by decide +kernel
theorem row0m : ∀ j, j < 72 → sg S0 96 (0 + j) = rwN cp0 j := by decide +kernel
theorem XC_00 : XC S0 8 a00 := by
  refine ⟨⟨rfl, Ci8, rfl⟩, ⟨⟨rfl, rfl⟩, ⟨fun x hx => absurd hx (Nat.not_lt_zero x), fun x hx => absurd hx (Nat.not_lt_zero x), fun x hx => absurd hx (Nat.not_lt_zero x), fun x hx => absurd hx (Nat.not_lt_zero x)⟩, ⟨⟨0, by omega, rfl, fun d => rfl⟩, ⟨0, by omega, rfl, fun d => rfl⟩⟩, rfl, rfl⟩, ⟨row0c, ⟨rfl, 0, by omega, rfl, fun i j hi => absurd hi (Nat.not_lt_zero i)⟩, rfl, fun i hi => absurd hi (Nat.not_lt_zero i)⟩, rfl, ⟨rfl, fun j hj => absurd hj (Nat.not_lt_zero j)⟩, rfl, fun j _ => rfl⟩
theorem XM_00 : XM S0 a00 := by
  refine ⟨⟨⟨⟨rfl, rfl⟩, ⟨fun x hx => absurd hx (Nat.not_lt_zero x), fun x hx => absurd hx (Nat.not_lt_zero x), fun x hx => absurd hx (Nat.not_lt_zero x)⟩, ⟨⟨0, by omega, rfl, fun d => rfl⟩, ⟨0, by omega, rfl, fun d => rfl⟩⟩, rfl, rfl⟩, rfl, rfl⟩, ⟨row0m, ⟨rfl, fun i j hi => absurd hi (Nat.not_lt_zero i)⟩, rfl, fun i hi => absurd hi (Nat.not_lt_zero i)⟩, rfl, ⟨rfl, fun j hj => absurd hj (Nat.not_lt_zero j)⟩, rfl, fun j _ => rfl⟩
theorem LSt_00 : LSt S0 := ⟨8, a00, W_00, XC_00, Or.inl rfl, XM_00⟩
theorem law_all {N L : Nat} {xs : Nat → Int32} (hN : 10000 ≤ N) (hL : L ≤ 3072) : ∀ n i S, L + 1 ≤ i + 6 * n → i ≤ L → LSt S → Rn (b_L_law_23 N L xs n (nI i) S) (fun _ => True) := by
  intro n
  induction n with
  | zero => intro i S h1 h2 _; omega
  | succ n ih =>
    intro i S h1 h2 hS
    have e6 : (nI L - 6).toInt = (L : Int) - 6 := by
      rw [tS (by rw [nIi (by omega), show (6 : Int32).toInt = 6 from rfl]; omega) (by rw [nIi (by omega), show (6 : Int32).toInt = 6 from rfl]; omega), nIi (by omega)]
      rfl
    unfold b_L_law_23
    by_cases z : L < i + 6
    · rw [if_pos (Int32.lt_iff_toInt_lt.mpr (by rw [e6, nIi (by omega)]; omega))]
      exact Rn_ret trivial
    · rw [if_neg (fun q => by have := Int32.lt_iff_toInt_lt.mp q; rw [e6, nIi (by omega)] at this; omega), if_pos (inbN (by omega) (by omega))]
      have hi : i + 6 ≤ L := by omega
      have hK : ∀ S', LSt S' → Rn (b_L_law_23 N L xs n (nI i + 6) S') (fun _ => True) := fun S' h' => by
        rw [l6, nIa]
        exact ih (i + 6) S' (by omega) hi h'
      generalize (xs (Int32.toNatClampNeg (nI i)) &&& 63) = w
      by_cases z0 : w = 0
      · rw [if_pos z0]; exact lc_0 hN hi hL hS hK
      rw [if_neg z0]
      by_cases z1 : w = 1
      · rw [if_pos z1]; exact lc_1 hN hi hL hS hK
      rw [if_neg z1]
      by_cases z2 : w = 2
      · rw [if_pos z2]; exact lc_2 hN hi hL hS hK
      rw [if_neg z2]
      by_cases z3 : w = 3
      · rw [if_pos z3]; exact lc_3 hN hi hL hS hK
      rw [if_neg z3]
      by_cases z4 : w = 4
      · rw [if_pos z4]; exact lc_4 hN hi hL hS hK
      rw [if_neg z4]
      by_cases z5 : w = 5
      · rw [if_pos z5]; exact lc_5 hN hi hL hS hK
      rw [if_neg z5]
      by_cases z6 : w = 6
      · rw [if_pos z6]; exact lc_6 hN hi hL hS hK
      rw [if_neg z6]
      by_cases z7 : w = 7
      · rw [if_pos z7]; exact lc_7 hN hi hL hS hK
      rw [if_neg z7]
      by_cases z8 : w = 8
      · rw [if_pos z8]; exact lc_8 hN hi hL hS hK
      rw [if_neg z8]
      by_cases z9 : w = 9
      · rw [if_pos z9]; exact lc_9 hN hi hL hS hK
      rw [if_neg z9]
      by_cases z10 : w = 10
      · rw [if_pos z10]; exact lc_10 hN hi hL hS hK
      rw [if_neg z10]
      by_cases z11 : w = 11
      · rw [if_pos z11]; exact lc_11 hN hi hL hS hK
      rw [if_neg z11]
      by_cases z12 : w = 12
      · rw [if_pos z12]; exact lc_12 hN hi hL hS hK
      rw [if_neg z12]
      by_cases z13 : w = 13
      · rw [if_pos z13]; exact lc_13 hN hi hL hS hK
      rw [if_neg z13]
      by_cases z14 : w = 14
      · rw [if_pos z14]; exact lc_14 hN hi hL hS hK
      rw [if_neg z14]
      by_cases z15 : w = 15
      · rw [if_pos z15]; exact lc_15 hN hi hL hS hK
      rw [if_neg z15]
      by_cases z16 : w = 16
      · rw [if_pos z16]; exact lc_16 hN hi hL hS hK
      rw [if_neg z16]
      by_cases z17 : w = 17
      · rw [if_pos z17]; exact lc_17 hN hi hL hS hK
      rw [if_neg z17]
      by_cases z18 : w = 18
      · rw [if_pos z18]; exact lc_18 hN hi hL hS hK
      rw [if_neg z18]
      by_cases z19 : w = 19
      · rw [if_pos z19]; exact lc_19 hN hi hL hS hK
      rw [if_neg z19]
      by_cases z20 : w = 20
      · rw [if_pos z20]; exact lc_20 hN hi hL hS hK
      rw [if_neg z20]
      by_cases z21 : w = 21
      · rw [if_pos z21]; exact lc_21 hN hi hL hS hK
      rw [if_neg z21]
      by_cases z22 : w = 22
      · rw [if_pos z22]; exact lc_22 hN hi hL hS hK
      rw [if_neg z22]
      by_cases z23 : w = 23
      · rw [if_pos z23]; exact lc_23 hN hi hL hS hK
      rw [if_neg z23]
      by_cases z24 : w = 24
      · rw [if_pos z24]; exact lc_24 hN hi hL hS hK
      rw [if_neg z24]
      by_cases z25 : w = 25
      · rw [if_pos z25]; exact lc_25 hN hi hL hS hK
      rw [if_neg z25]
      by_cases z26 : w = 26
      · rw [if_pos z26]; exact lc_26 hN hi hL hS hK
      rw [if_neg z26]
      by_cases z27 : w = 27
      · rw [if_pos z27]; exact lc_27 hN hi hL hS hK
      rw [if_neg z27]
      by_cases z28 : w = 28
      · rw [if_pos z28]; exact lc_28 hN hi hL hS hK
      rw [if_neg z28]
      by_cases z29 : w = 29
      · rw [if_pos z29]; exact lc_29 hN hi hL hS hK
      rw [if_neg z29]
      by_cases z30 : w = 30
      · rw [if_pos z30]; exact lc_30 hN hi hL hS hK
      rw [if_neg z30]
      by_cases z31 : w = 31
      · rw [if_pos z31]; exact lc_31 hN hi hL hS hK
      rw [if_neg z31]
      by_cases z32 : w = 32
      · rw [if_pos z32]; exact lc_32 hN hi hL hS hK
      rw [if_neg z32]
      by_cases z33 : w = 33
      · rw [if_pos z33]; exact lc_33 hN hi hL hS hK
      rw [if_neg z33]
      by_cases z34 : w = 34
      · rw [if_pos z34]; exact lc_34 hN hi hL hS hK
      rw [if_neg z34]
      by_cases z35 : w = 35
      · rw [if_pos z35]; exact lc_35 hN hi hL hS hK
      rw [if_neg z35]
      by_cases z36 : w = 36
      · rw [if_pos z36]; exact lc_36 hN hi hL hS hK
      rw [if_neg z36]
      by_cases z37 : w = 37
      · rw [if_pos z37]; exact lc_37 hN hi hL hS hK
      rw [if_neg z37]
      by_cases z38 : w = 38
      · rw [if_pos z38]; exact lc_38 hN hi hL hS hK
      rw [if_neg z38]
      by_cases z39 : w = 39
      · rw [if_pos z39]; exact lc_39 hN hi hL hS hK
      rw [if_neg z39]
      unfold b_L_law_2453
      exact hK S hS
theorem h_pure : ∀ (L : Nat) (xs : Nat → Int32), L ≤ 3072 → ∃ (N : Nat) (out : am_S), b_L_law_23 N L xs 600 0 S0 = some out := by
  intro L xs hL
  obtain ⟨out, h, -⟩ := law_all (N := 10000) (L := L) (xs := xs) (Nat.le_refl _) hL 600 0 S0 (by omega) (Nat.zero_le _) LSt_00
  exact ⟨10000, out, h⟩
end
