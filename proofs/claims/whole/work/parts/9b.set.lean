/-! the city that was read, and how the class settles it -/
section
variable {N : Nat}
def cyN (c : Cp) : Cy := ((pnb c, pnp c), (fun i => nI (pba c i), fun i => nI (ppa c i), fun i => nI (ppe c i)), (fun d => if pnw c = 0 then 2 else nI (pwe c (d % pnw c)), fun d => if pnb c = 0 then -1 else if pnr c = 0 then nI (d % pnb c) else nI (pro c (d % pnr c))), (pth c, pso c))
def atN (c : Cp) (p : Nat) : Int32 := if pat c p < nI (pnp c) then pat c p else -1
def rwN (c : Cp) : Rw := fun j => if 2 ≤ j ∧ j < 8 then (if j - 2 < pnb c then nI (prd c (j - 2)) else 0) else if 72 ≤ j then atN c (j - 72) else 0
theorem nIr {a m : Nat} (h : a ≤ m) (hm : m < 100000) : 0 ≤ (nI a).toInt ∧ (nI a).toInt ≤ m := by
  rw [nIi (by omega)]
  omega
theorem CI_N {c : Cp} (hI : CpI c) (hR : RuA c) : CI (cyN c) := by
  obtain ⟨⟨i1, i2, i3, i4⟩, i5, i6, i7, i8⟩ := hI
  refine ⟨⟨i1, i2⟩, ⟨fun x hx => nIr (m := 30) (i5 x hx).1 (by omega), fun p hp => nIr (m := 30) (i6 p hp).1 (by omega), fun p hp => nIr (m := 9) (i6 p hp).2.1 (by omega)⟩, ⟨fun d => ?_, fun d => ?_⟩, ⟨fun P q => ⟨dq_dp (hR.1 P q).1 (by omega), (hR.1 P q).2⟩, fun P q => ⟨dq_dp (hR.2 P q).1 (by omega), (hR.2 P q).2⟩⟩⟩
  · show 0 ≤ (if pnw c = 0 then (2 : Int32) else nI (pwe c (d % pnw c))).toInt ∧ (if pnw c = 0 then (2 : Int32) else nI (pwe c (d % pnw c))).toInt ≤ 9
    by_cases z : pnw c = 0
    · rw [if_pos z]
      decide
    · rw [if_neg z]
      exact nIr (m := 9) (i8 _ (Nat.mod_lt _ (by omega))) (by omega)
  · show (pnb c = 0 ∧ (if pnb c = 0 then (-1 : Int32) else if pnr c = 0 then nI (d % pnb c) else nI (pro c (d % pnr c))) = -1) ∨ ∃ x, x < pnb c ∧ (if pnb c = 0 then (-1 : Int32) else if pnr c = 0 then nI (d % pnb c) else nI (pro c (d % pnr c))) = nI x
    by_cases z : pnb c = 0
    · exact Or.inl ⟨z, if_pos z⟩
    · rw [if_neg z]
      refine Or.inr ?_
      by_cases y : pnr c = 0
      · rw [if_pos y]
        exact ⟨_, Nat.mod_lt _ (by omega), rfl⟩
      · rw [if_neg y]
        exact ⟨_, i7 _ (Nat.mod_lt _ (by omega)), rfl⟩
theorem atN_in {c : Cp} {p : Nat} (hI : CpI c) (hp : p < pnp c) : atN c p = -1 ∨ ∃ q, q < pnp c ∧ atN c p = nI q := by
  obtain ⟨⟨i1, i2, i3, i4⟩, i5, i6, i7, i8⟩ := hI
  unfold atN
  rcases (i6 p hp).2.2 with h | ⟨q, h1, h2⟩
  · rw [h, ite_self]
    exact Or.inl rfl
  · rw [h2]
    by_cases z : q < pnp c
    · rw [ltT z (by omega)]
      exact Or.inr ⟨q, z, rfl⟩
    · rw [ltF (by omega) (by omega)]
      exact Or.inl rfl
theorem rwN_2 {c : Cp} {x : Nat} (h : x < 6) : rwN c (2 + x) = if x < pnb c then nI (prd c x) else 0 := by
  unfold rwN
  rw [if_pos (by omega), show 2 + x - 2 = x by omega]
theorem rwN_72 {c : Cp} {p : Nat} : rwN c (72 + p) = atN c p := by
  unfold rwN
  rw [if_neg (by omega), if_pos (by omega), show 72 + p - 72 = p by omega]
theorem rwN_0 {c : Cp} {j : Nat} (h : j < 2 ∨ (8 ≤ j ∧ j < 72)) : rwN c j = 0 := by
  unfold rwN
  rw [if_neg (by omega), if_neg (by omega)]
theorem WR_N {c : Cp} (hI : CpI c) : WR (cyN c) (rwN c) := by
  have z0 : ∀ m : Nat, 0 ≤ (0 : Int32).toInt ∧ (0 : Int32).toInt ≤ m := fun m => ⟨by decide, by rw [t0]; omega⟩
  refine ⟨⟨⟨0, by omega, rwN_0 (by omega)⟩, Or.inl (rwN_0 (by omega)), fun x hx => ?_, fun x p hx hp => ?_, fun p hp => ?_, fun p hp => ?_⟩, 0, by omega, rwN_0 (by omega)⟩
  · rw [rwN_2 hx]
    refine ⟨?_, fun q => if_neg (by have q' : pnb c ≤ x := q; omega)⟩
    by_cases z : x < pnb c
    · rw [if_pos z]
      exact nIr (m := 99) (hI.2.1 x z).2 (by omega)
    · rw [if_neg z]
      exact z0 99
  · rw [rwN_0 (by omega)]
    exact ⟨z0 99, fun _ => rfl⟩
  · rw [rwN_0 (by omega), rwN_0 (by omega)]
    exact ⟨⟨z0 999, fun _ => rfl⟩, z0 9999, fun _ => rfl⟩
  · rw [rwN_72]
    exact atN_in hI hp
theorem c_fill {S : am_S} {k la : Nat} {v : Int32} (ha : ln k = la) (h : la < N) (h3 : la < 100000) : Rn (f_J7_fill_53178 N k v S) (fun S' => (∀ j, j < la → sg S' k j = v) ∧ Fm (fun a j => a = k ∧ j < la) S S') := by
  unfold f_J7_fill_53178
  rw [ha]
  refine lp0 (fun n (s : am_S) i => b_J7_fill_53178_5 N n k v i (nI la) s) (fun i s => (∀ j, j < i → sg s k j = v) ∧ Fm (fun a j => a = k ∧ j < la) S s) _ la ?_ ?_ N S h ⟨fun j hj => by omega, Fm_rf _ _⟩
  · intro n s hs
    show Rn (b_J7_fill_53178_5 N (n + 1) k v (nI la) (nI la) s) _
    unfold b_J7_fill_53178_5
    rw [leT (Nat.le_refl _) (by omega)]
    exact Rn_ret hs
  · intro n i s hi hs ih
    show Rn (b_J7_fill_53178_5 N (n + 1) k v (nI i) (nI la) s) _
    unfold b_J7_fill_53178_5
    rw [ha, leF (by omega) (by omega), inbT (by omega) (by omega), nIc (by omega), nI1]
    refine ih _ ⟨fun j hj => ?_, Fm_sp hs.2 ⟨rfl, hi⟩⟩
    by_cases z : j = i
    · subst z
      exact sgp _ _ _ _
    · rw [sgj z]
      exact hs.1 j (by omega)
def cp0 : Cp := (((0, fun _ => 0, fun _ => 0), (0, fun _ => 0, fun _ => 0, fun _ => 0)), ((0, fun _ => 0), (0, fun _ => 0)), (none, none))
theorem CpI_0 : CpI cp0 := ⟨⟨Nat.zero_le _, Nat.zero_le _, Nat.zero_le _, Nat.zero_le _⟩, fun i hi => absurd hi (Nat.not_lt_zero i), fun i hi => absurd hi (Nat.not_lt_zero i), fun i hi => absurd hi (Nat.not_lt_zero i), fun i hi => absurd hi (Nat.not_lt_zero i)⟩
theorem nnE {α : Type} {x : α} {C : Prop} (h : (none : Option α) = some x) : C := by cases h
theorem RuA_0 : RuA cp0 := ⟨fun P q => nnE q, fun P q => nnE q⟩
def twW (t : Nat) : Nat → Nat → Prop := fun k _ => t ≤ k ∧ k < t + 15
theorem c_clear {S : am_S} {t : Nat} (hN : 10000 ≤ N) (ht : Ci t) : Rn (f_X1_clearAll N t S) (fun S' => CT S' t cp0 ∧ Fm (twW t) S S') := by
  have h8 := Ci_8 ht
  obtain ⟨⟨-, -, r2, n2⟩, ⟨-, -, -, -, r5, n5, -, -⟩, -, ⟨r12, -, r13, -⟩, -⟩ := ht
  unfold f_X1_clearAll
  rw [r2, r5, r12, r13]
  refine Rn_bv (Rn_mono (c_fill n2 (by omega) (by omega)) (fun S1 h1 => ?_))
  refine Rn_bv (Rn_mono (c_fill n5 (by omega) (by omega)) (fun S2 h2 => ?_))
  unfold f_X5_clearAll
  refine Rn_bv (Rn_ret (Rn_bv (Rn_ret ?_)))
  have e : ∀ j, sg (sp (sp S2 (t + 9) 1 0) (t + 12) 1 0) t j = sg (sp (sp (sp (sp S t 0 0) t 3 0) t 8 0) t 10 0) t j := fun j => by rw [sgn (by omega), sgn (by omega), h2.2.1 _ _ (by omega), h1.2.1 _ _ (by omega)]
  refine Rn_ret ⟨⟨⟨⟨?_, ?_⟩, ?_, ?_⟩, ⟨fun i hi => absurd hi (Nat.not_lt_zero i), fun i q1 q2 => ?_⟩, fun i hi => absurd hi (Nat.not_lt_zero i), ⟨fun i hi => absurd hi (Nat.not_lt_zero i), fun i hi => absurd hi (Nat.not_lt_zero i)⟩, ?_, ?_⟩, ?_⟩
  · rw [e]
    simp (disch := omega) only [sgp, sgn, sgj]
    rfl
  · rw [e]
    simp (disch := omega) only [sgp, sgn, sgj]
    rfl
  · rw [e]
    simp (disch := omega) only [sgp, sgn, sgj]
    rfl
  · rw [e]
    simp (disch := omega) only [sgp, sgn, sgj]
    rfl
  · rw [sgn (by omega), sgn (by omega), h2.2.1 _ _ (by omega), h1.1 i q2]
  · show sg _ (t + 9) 1 = 0
    rw [sgn (by omega), sgp]
  · show sg _ (t + 12) 1 = 0
    rw [sgp]
  · have f1 : Fm (twW t) S (sp (sp (sp (sp S t 0 0) t 3 0) t 8 0) t 10 0) := Fm_sp (Fm_sp (Fm_sp (Fm_sp (Fm_rf _ _) (by unfold twW; omega)) (by unfold twW; omega)) (by unfold twW; omega)) (by unfold twW; omega)
    exact Fm_sp (Fm_sp (Fm_tr (Fm_tr f1 (Fm_wk h1.2 (fun k j q => by unfold twW; omega))) (Fm_wk h2.2 (fun k j q => by unfold twW; omega))) (by unfold twW; omega)) (by unfold twW; omega)
theorem c_nea2 {S : am_S} {t n : Nat} {ba : Nat → Int32} {w : Int32} (hN : 10000 ≤ N) (ht : Ci t) (hn : n ≤ 6) (h0 : sg S t 0 = nI n) (hb : ∀ x, x < n → sg S (t + 1) x = ba x ∧ 0 ≤ (ba x).toInt ∧ (ba x).toInt ≤ 30) (hw : 0 ≤ w.toInt ∧ w.toInt ≤ 30) : f_X1_nearestTo N t w S = some (nrs ba w n, S) := by
  obtain ⟨⟨r1, n1, -, -⟩, -⟩ := ht
  have key : ∀ d m i, i + d = n → d < m → b_X1_nearestTo_8 N m t w (nrs ba w i) (if i = 0 then 31 else ff (ba (nrs ba w i).toNatClampNeg) w) (nI i) S = some (nrs ba w n, S) := by
    intro d
    induction d with
    | zero =>
      intro m i hi hm
      obtain ⟨m, rfl⟩ : ∃ k, m = k + 1 := ⟨m - 1, by omega⟩
      unfold b_X1_nearestTo_8
      rw [h0, leT (by omega) (by omega), show i = n by omega]
    | succ d ih =>
      intro m i hi hm
      obtain ⟨m, rfl⟩ : ∃ k, m = k + 1 := ⟨m - 1, by omega⟩
      have g := ih m (i + 1) (by omega) (by omega)
      rw [if_neg (by omega)] at g
      obtain ⟨b1, b2⟩ := hb i (by omega)
      unfold b_X1_nearestTo_8 b_X1_nearestTo_43
      rw [h0, leF (by omega) (by omega), r1, n1, inbT (by omega) (by omega), nIc (by omega), b1, jabs_ff b2 hw, nI1]
      by_cases z : i = 0
      · subst z
        have hf := ff_nn b2 hw
        rw [if_pos rfl, if_neg (fun q => by have := Int32.le_iff_toInt_le.mp q; rw [show (31 : Int32).toInt = 31 from rfl] at this; omega)]
        have e : nrs ba w (0 + 1) = nI 0 := if_pos rfl
        rw [e, nIc (by omega)] at g
        exact g
      · rw [if_neg z]
        rcases nrs_in ba w i (by omega) with q | ⟨x, q1, q2⟩
        · omega
        · rw [q2]
          have e : nrs ba w (i + 1) = if nI x = -1 then nI i else if ff (ba (nI x).toNatClampNeg) w ≤ ff (ba i) w then nI x else nI i := by rw [nrs, q2]
          rw [eqmF (by omega)] at e
          by_cases y : ff (ba (nI x).toNatClampNeg) w ≤ ff (ba i) w
          · rw [if_pos y] at e ⊢
            rw [e] at g
            exact g
          · rw [if_neg y] at e ⊢
            rw [e, nIc (by omega)] at g
            exact g
  have := key n N 0 (by omega) (by omega)
  unfold f_X1_nearestTo
  rw [if_pos rfl] at this
  exact this
end
