/-! a text that was read well, by the model -/
section
variable {N : Nat}
def ceW : Nat → Nat → Prop := fun k j => (k = 78 ∧ ((1 ≤ j ∧ j ≤ 6) ∨ j = 48 ∨ j = 56 ∨ j = 61)) ∨ (79 ≤ k ∧ k ≤ 84) ∨ (k = 96 ∧ j < 80)
theorem m_done {S : am_S} {b : Tx} {x : Ft} {c : Cp} {tp : Nat} (hN : 10000 ≤ N) (h : PMs S b x) (hx : x.1 = 0) (hI : CpI c) (hC : CTM S tp c) (htp : tp ≤ 1400) : Rn (b_X10_city_138 N 78 S) (fun q => q.1 = 0 ∧ CM q.2 (cyN c) ∧ RM q.2 0 (72 + pnp c) (rwN c) ∧ (sg q.2 78 48 = 0 ∧ sg q.2 78 56 = 0 ∧ sg q.2 78 61 = 0) ∧ Fm ceW S q.2) := by
  obtain ⟨⟨i1, i2, i3, i4⟩, i5, i6, i7, i8⟩ := id hI
  obtain ⟨⟨⟨a1, a2⟩, a3, a4, a12⟩, ⟨a5, a6, a13⟩, a7, ⟨a8, a9⟩, a10, a11⟩ := hC
  unfold b_X10_city_138
  rw [m_good h, bd_some, if_pos hx, one0, r78_37, r78_38, r78_39, r78_40, r78_41, r78_43, r78_7, r78_8, r78_9, r78_10, r78_11, r78_12]
  obtain ⟨S1, hS1⟩ : ∃ S1, S1 = sp (sp (sp (sp (sp (sp S 78 1 (sg S 78 26)) 78 2 (sg S 78 27)) 78 3 (sg S 78 28)) 78 4 (sg S 78 29)) 78 5 (sg S 78 30)) 78 6 (sg S 78 31) := ⟨_, rfl⟩
  have f1 : Fm ceW S S1 := by
    rw [hS1]
    refine Fm_sp (Fm_sp (Fm_sp (Fm_sp (Fm_sp (Fm_sp (Fm_rf _ _) ?_) ?_) ?_) ?_) ?_) ?_
    all_goals (unfold ceW; omega)
  have e1 : sg S1 78 1 = sg S 78 26 := by rw [hS1]; simp (disch := omega) only [sgp, sgn, sgj]
  have e2 : sg S1 78 2 = sg S 78 27 := by rw [hS1]; simp (disch := omega) only [sgp, sgn, sgj]
  have e3 : sg S1 78 3 = sg S 78 28 := by rw [hS1]; simp (disch := omega) only [sgp, sgn, sgj]
  have e4 : sg S1 78 4 = sg S 78 29 := by rw [hS1]; simp (disch := omega) only [sgp, sgn, sgj]
  have e5 : sg S1 78 5 = sg S 78 30 := by rw [hS1]; simp (disch := omega) only [sgp, sgn, sgj]
  have e6 : sg S1 78 6 = sg S 78 31 := by rw [hS1]; simp (disch := omega) only [sgp, sgn, sgj]
  simp (disch := omega) only [sgp, sgn, sgj]
  rw [← hS1]
  refine Rn_bv (Rn_mono (m_copies n87 n79 (by omega) (by omega) (by omega) (by omega)) (fun S2 g2 => ?_))
  refine Rn_bv (Rn_mono (m_copies n88 n80 (by omega) (by omega) (by omega) (by omega)) (fun S3 g3 => ?_))
  refine Rn_bv (Rn_mono (m_copies n89 n81 (by omega) (by omega) (by omega) (by omega)) (fun S4 g4 => ?_))
  refine Rn_bv (Rn_mono (m_copies n90 n82 (by omega) (by omega) (by omega) (by omega)) (fun S5 g5 => ?_))
  refine Rn_bv (Rn_mono (m_copies n91 n83 (by omega) (by omega) (by omega) (by omega)) (fun S6 g6 => ?_))
  refine Rn_bv (Rn_mono (m_copies n93 n84 (by omega) (by omega) (by omega) (by omega)) (fun S7 g7 => ?_))
  have fk : ∀ k j, ¬ (79 ≤ k ∧ k ≤ 84) → sg S7 k j = sg S1 k j := fun k j hk => by
    rw [g7.2.1 _ _ (by omega), g6.2.1 _ _ (by omega), g5.2.1 _ _ (by omega), g4.2.1 _ _ (by omega), g3.2.1 _ _ (by omega), g2.2.1 _ _ (by omega)]
  have fS : ∀ k j, 85 ≤ k → k ≤ 95 → sg S1 k j = sg S k j := fun k j h1 h2 => f1.1 _ _ (by unfold ceW; omega)
  have k79 : ∀ j, j < 6 → sg S7 79 j = sg S 87 j := fun j hj => by
    rw [g7.2.1 _ _ (by omega), g6.2.1 _ _ (by omega), g5.2.1 _ _ (by omega), g4.2.1 _ _ (by omega), g3.2.1 _ _ (by omega), g2.1 j hj, fS _ _ (by omega) (by omega)]
  have k80 : ∀ j, j < 8 → sg S7 80 j = sg S 88 j := fun j hj => by
    rw [g7.2.1 _ _ (by omega), g6.2.1 _ _ (by omega), g5.2.1 _ _ (by omega), g4.2.1 _ _ (by omega), g3.1 j hj, g2.2.1 _ _ (by omega), fS _ _ (by omega) (by omega)]
  have k81 : ∀ j, j < 8 → sg S7 81 j = sg S 89 j := fun j hj => by
    rw [g7.2.1 _ _ (by omega), g6.2.1 _ _ (by omega), g5.2.1 _ _ (by omega), g4.1 j hj, g3.2.1 _ _ (by omega), g2.2.1 _ _ (by omega), fS _ _ (by omega) (by omega)]
  have k82 : ∀ j, j < 8 → sg S7 82 j = sg S 90 j := fun j hj => by
    rw [g7.2.1 _ _ (by omega), g6.2.1 _ _ (by omega), g5.1 j hj, g4.2.1 _ _ (by omega), g3.2.1 _ _ (by omega), g2.2.1 _ _ (by omega), fS _ _ (by omega) (by omega)]
  have k83 : ∀ j, j < 8 → sg S7 83 j = sg S 91 j := fun j hj => by
    rw [g7.2.1 _ _ (by omega), g6.1 j hj, g5.2.1 _ _ (by omega), g4.2.1 _ _ (by omega), g3.2.1 _ _ (by omega), g2.2.1 _ _ (by omega), fS _ _ (by omega) (by omega)]
  have k84 : ∀ j, j < 1400 → sg S7 84 j = sg S 93 j := fun j hj => by
    rw [g7.1 j hj, g6.2.1 _ _ (by omega), g5.2.1 _ _ (by omega), g4.2.1 _ _ (by omega), g3.2.1 _ _ (by omega), g2.2.1 _ _ (by omega), fS _ _ (by omega) (by omega)]
  have f7 : Fm ceW S S7 := by
    refine Fm_tr f1 (Fm_tr (Fm_tr (Fm_tr (Fm_tr (Fm_tr (Fm_wk g2.2 ?_) (Fm_wk g3.2 ?_)) (Fm_wk g4.2 ?_)) (Fm_wk g5.2 ?_)) (Fm_wk g6.2 ?_)) (Fm_wk g7.2 ?_))
    all_goals (intro k j q; unfold ceW; omega)
  have cod : ∀ f o, sg S7 78 f = sg S 78 (f + 25) → mru S tp (f + 25) o → codeM S7 f o := by
    intro f o hf ho
    cases o with
    | none => exact hf.trans ho
    | some P =>
      obtain ⟨a, b1, b2, b3, b4⟩ := ho
      exact ⟨a, hf.trans b1, by omega, codeAt_of k84 b2 b3 (by omega)⟩
  have hCM : CM S7 (cyN c) := by
    refine ⟨⟨?_, ?_⟩, ⟨fun x hx => ?_, fun p hp => ?_, fun p hp => ?_⟩, ⟨⟨pnw c, i4, ?_, fun d => ?_⟩, ⟨pnr c, i3, ?_, fun d => ?_⟩⟩, cod 5 _ ((fk 78 5 (by omega)).trans e5) a10, cod 6 _ ((fk 78 6 (by omega)).trans e6) a11⟩
    · rw [fk _ _ (by omega), e1]; exact a1
    · rw [fk _ _ (by omega), e2]; exact a2
    · have hx' : x < pnb c := hx
      rw [k79 _ (by omega)]; exact (a5 x hx).1
    · have hp' : p < pnp c := hp
      rw [k80 _ (by omega)]; exact (a7 p hp).1
    · have hp' : p < pnp c := hp
      rw [k81 _ (by omega)]; exact (a7 p hp).2.1
    · rw [fk _ _ (by omega), e4]; exact a4
    · show (if pnw c = 0 then (2 : Int32) else nI (pwe c (d % pnw c))) = _
      by_cases z : pnw c = 0
      · rw [if_pos z, if_pos z]
      · have hm : d % pnw c < pnw c := Nat.mod_lt _ (by omega)
        rw [if_neg z, if_neg z, k83 _ (by omega)]
        exact (a9 _ hm).symm
    · rw [fk _ _ (by omega), e3]; exact a3
    · show (if pnb c = 0 then (-1 : Int32) else if pnr c = 0 then nI (d % pnb c) else nI (pro c (d % pnr c))) = if pnb c = 0 then -1 else if pnr c = 0 then nI (d % pnb c) else sg S7 82 (d % pnr c)
      by_cases z : pnr c = 0
      · rw [if_pos z, if_pos z]
      · have hm : d % pnr c < pnr c := Nat.mod_lt _ (by omega)
        rw [if_neg z, if_neg z, k82 _ (by omega), a8 _ hm]
  have k92 : ∀ j, sg S7 92 j = sg S 92 j := fun j => by rw [fk _ _ (by omega), fS _ _ (by omega) (by omega)]
  have h78 : sg S7 78 2 = nI (pnp c) := hCM.1.2
  refine lp0 (fun n (s : am_S) i => b_X10_city_282 N n 78 i s) (fun i s => (∀ j, j < i → sg s 96 j = sg S 92 j) ∧ Fm (fun k j => k = 96 ∧ j < 80) S7 s) _ 80 ?_ ?_ N S7 (by omega) ⟨fun j hj => absurd hj (Nat.not_lt_zero j), Fm_rf _ _⟩
  · intro n s hs
    show Rn (b_X10_city_282 N (n + 1) 78 (nI 80) s) _
    unfold b_X10_city_282
    rw [l80, leT (Nat.le_refl _) (by omega)]
    refine lp0 (fun n (s' : am_S) i => b_X10_city_308 N n 78 i s') (fun i s' => (∀ p, p < pnp c → sg s' 96 (72 + p) = if p < i then atN c p else pat c p) ∧ (∀ j, j < 72 → sg s' 96 j = sg S 92 j) ∧ Fm (fun k j => k = 96 ∧ j < 80) S7 s') _ (pnp c) ?_ ?_ N s (by omega) ⟨fun p hp => ?_, fun j hj => hs.1 j (by omega), hs.2⟩
    · intro n s' hs'
      show Rn (b_X10_city_308 N (n + 1) 78 (nI (pnp c)) s') _
      obtain ⟨v1, v2, v3⟩ := hs'
      unfold b_X10_city_308
      rw [v3.1 _ _ (by omega), h78, leT (Nat.le_refl _) (by omega)]
      refine Rn_ret ⟨rfl, CM_same hCM (fun k j hk => ?_), fun j hj => ?_, ⟨by simp (disch := omega) only [sgp, sgn, sgj], by simp (disch := omega) only [sgp, sgn, sgj], by simp (disch := omega) only [sgp, sgn, sgj]⟩, Fm_sp (Fm_sp (Fm_sp (Fm_tr f7 (Fm_wk v3 (fun k j q => by unfold ceW; omega))) (by unfold ceW; omega)) (by unfold ceW; omega)) (by unfold ceW; omega)⟩
      · unfold mC at hk
        rw [sgx (by omega), sgx (by omega), sgx (by omega)]
        exact v3.1 _ _ (by omega)
      · rw [sgn (by omega), sgn (by omega), sgn (by omega), Nat.zero_add]
        by_cases y1 : 2 ≤ j ∧ j < 8
        · rw [show j = 2 + (j - 2) by omega, rwN_2 (by omega), v2 _ (by omega)]
          by_cases z : j - 2 < pnb c
          · rw [if_pos z]
            exact (a5 _ z).2
          · rw [if_neg z]
            exact a6 _ (by omega) (by omega)
        · by_cases y2 : 72 ≤ j
          · rw [show j = 72 + (j - 72) by omega, rwN_72, v1 _ (by omega), if_pos (by omega)]
          · rw [rwN_0 (by omega), v2 _ (by omega)]
            exact a13 _ (by omega)
    · intro n i s' hi hs' ih
      show Rn (b_X10_city_308 N (n + 1) 78 (nI i) s') _
      obtain ⟨v1, v2, v3⟩ := hs'
      unfold b_X10_city_308 b_X10_city_342
      rw [v3.1 78 _ (by omega), h78, leF (by omega) (by omega), r78_46, n96, l72, nIa, inbT (by omega) (by omega), nIc (by omega), v1 i hi, if_neg (Nat.lt_irrefl i), nI1]
      by_cases z : pat c i < nI (pnp c)
      · rw [if_pos z]
        refine ih _ ⟨fun p hp => ?_, v2, v3⟩
        rw [v1 p hp]
        by_cases y : p = i
        · subst y
          rw [if_neg (Nat.lt_irrefl p), if_pos (Nat.lt_succ_self p)]
          exact (if_pos z).symm
        · by_cases w : p < i
          · rw [if_pos w, if_pos (by omega)]
          · rw [if_neg w, if_neg (by omega)]
      · rw [if_neg z, inbT (by omega) (by omega)]
        refine ih _ ⟨fun p hp => ?_, fun j hj => by rw [sgj (by omega)]; exact v2 j hj, Fm_sp v3 ⟨rfl, by omega⟩⟩
        by_cases y : p = i
        · subst y
          rw [sgp, if_pos (by omega)]
          exact (if_neg z).symm
        · rw [sgj (by omega), v1 p hp]
          by_cases w : p < i
          · rw [if_pos w, if_pos (by omega)]
          · rw [if_neg w, if_neg (by omega)]
    · rw [if_neg (Nat.not_lt_zero p), hs.1 _ (by omega)]
      exact (a7 p hp).2.2
  · intro n i s hi hs ih
    show Rn (b_X10_city_282 N (n + 1) 78 (nI i) s) _
    unfold b_X10_city_282
    rw [l80, leF (by omega) (by omega), r78_42, r78_46, n92, n96, inbT (by omega) (by omega), inbT (by omega) (by omega), nIc (by omega), nI1]
    refine ih _ ⟨fun j hj => ?_, Fm_sp hs.2 ⟨rfl, by omega⟩⟩
    by_cases z : j = i
    · subst z
      rw [sgp, hs.2.1 _ _ (by omega)]
      exact k92 j
    · rw [sgj z]
      exact hs.1 j (by omega)
end
