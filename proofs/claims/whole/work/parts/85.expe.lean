/-! behind a part; the whole expression, by the class -/
section
variable {N : Nat}
theorem PCs_w {S S' : am_S} {k : Nat} {b : Tx} {x : Ft} (hk2 : 10 < k) (h : PCs S b x) (hf : Fm (fun c j => c = 5 ∨ c = 6 ∨ (c = k ∧ j = 1) ∨ c = k + 1) S S') : PCs S' b x := PCs_f h hf.2 (fun c j hc => hf.1 c j (by omega))
theorem cwk12 : ∀ op, op < 12 → 4 ≤ op → (cwk op = 1 ↔ op = 5) ∧ (cwk op = 2 ↔ op = 4) := by decide +kernel
theorem c_wait {S : am_S} {k op : Nat} {b : Tx} {x : Ft} {s : List Nat} {r : List (List Nat)} {pg : Prg} {f : Nat × Nat × Nat} (hop : 4 ≤ op ∧ op ≤ 11) (hk2 : 10 < k) (hl : (flt s r).length < 84) (h : PCs S b x) (hR : ER S k s r pg) (hF : EF S r f) : Rn (f_X6_letWait N 5 (nI (cwk op)) S) (fun S' => PCs S' b x ∧ ER S' k (op :: s) r pg ∧ EF S' r (1, (if op = 4 ∨ op = 5 then 1 else 0), 0) ∧ Fm (eWk k) S S') := by
  obtain ⟨q1, q2⟩ := cwk12 op (by omega) hop.1
  have hcb := cwk_b op (by omega)
  unfold f_X6_letWait b_X6_letWait_21 b_X6_letWait_26
  rw [isB0, isB1]
  refine Rn_bv (Rn_mono (c_psh (a := op) hk2 hl hR) (fun S1 g => ?_))
  have fin : ∀ m : Nat, m = (if op = 4 ∨ op = 5 then 1 else 0) → Rn (some (sp (sp (sp S1 5 4 1) 5 5 (nI m)) 5 3 0)) (fun S' => PCs S' b x ∧ ER S' k (op :: s) r pg ∧ EF S' r (1, (if op = 4 ∨ op = 5 then 1 else 0), 0) ∧ Fm (eWk k) S S') := by
    intro m hm
    refine Rn_ret ⟨PCs_o (PCs_o (PCs_o (PCs_e hk2 h g.2) (by omega)) (by omega)) (by omega), ⟨?_, ?_, ?_, ?_⟩, ⟨?_, ?_, ?_, ?_⟩, Fm_sp (Fm_sp (Fm_sp (ek_w g.2) (by unfold eWk; omega)) (by unfold eWk; omega)) (by unfold eWk; omega)⟩
    · rw [flt_c]
      simp (disch := omega) only [sgp, sgn, sgj]
      exact g.1.1
    · rw [flt_c]
      exact stN_s g.1.2.1 (fun j _ => by simp (disch := omega) only [sgp, sgn, sgj])
    · simp (disch := omega) only [sgp, sgn, sgj]
      exact g.1.2.2.1
    · exact stepsAt_same (fun j => by simp (disch := omega) only [sgp, sgn, sgj]) g.1.2.2.2
    · simp (disch := omega) only [sgp, sgn, sgj]
      exact (EF_e hk2 hF g.2).1
    · simp (disch := omega) only [sgp, sgn, sgj]
      rfl
    · simp (disch := omega) only [sgp, sgn, sgj]
      rfl
    · simp (disch := omega) only [sgp, sgn, sgj]
      rw [hm]
  by_cases z5 : op = 5
  · have e : nI (cwk op) = (1 : Int32) := by rw [q1.mpr z5]; rfl
    rw [if_pos e, ckT]
    exact fin 1 (by rw [if_pos (Or.inr z5)])
  · have e : ¬ nI (cwk op) = (1 : Int32) := fun y => z5 (q1.mp ((nIeq (b := 1) (by omega) (by omega)).mp y))
    rw [if_neg e]
    by_cases z4 : op = 4
    · have e : nI (cwk op) = (2 : Int32) := by rw [q2.mpr z4]; rfl
      rw [if_pos e, ckT]
      exact fin 1 (by rw [if_pos (Or.inl z4)])
    · have e : ¬ nI (cwk op) = (2 : Int32) := fun y => z4 (q2.mp ((nIeq (b := 2) (by omega) (by omega)).mp y))
      rw [if_neg e, ckT]
      exact fin 0 (by rw [if_neg (by omega)])
theorem rnk_t : ∀ op, op < 12 → 4 ≤ op → ((am_rank.getD (cwk op) 0 = am_rank.getD 4 0) ↔ (op = 6 ∨ op = 7)) ∧ (rk op < 10 ∧ 1 ≤ rk op) := by decide +kernel
theorem flt_le {s s' : List Nat} {r : List (List Nat)} (h : s'.length ≤ s.length) : (flt s' r).length ≤ (flt s r).length := by
  have h1 := flt_len r s
  have h2 := flt_len r s'
  have h3 : wln (s :: r) = s.length + 1 + wln r := rfl
  have h4 : wln (s' :: r) = s'.length + 1 + wln r := rfl
  omega
theorem rls_le (rr : Nat) : ∀ (s : List Nat) (pg : Prg), (rls rr s pg).1.length ≤ s.length := by
  intro s
  induction s with
  | nil => intro pg; exact Nat.le_refl _
  | cons a s ih =>
    intro pg
    by_cases z : rr ≤ rk a
    · have e : rls rr (a :: s) pg = rls rr s (pg ++ [(a, 0)]) := if_pos z
      rw [e]
      exact Nat.le_trans (ih _) (Nat.le_succ _)
    · have e : rls rr (a :: s) pg = (a :: s, pg) := if_neg z
      rw [e]
      exact Nat.le_refl _
theorem flt_sl {s : List Nat} {r : List (List Nat)} : s.length ≤ (flt s r).length := by
  have h1 := flt_len r s
  have h3 : wln (s :: r) = s.length + 1 + wln r := rfl
  omega
theorem c_beh {A : Nat → Prop} {S : am_S} {b : Tx} {k p : Nat} {x : Ft} {s : List Nat} {r : List (List Nat)} {pg : Prg} {mn nt : Nat} (hN : 10000 ≤ N) (hb : TxI b) (hk : Ru k) (hk2 : 10 < k) (hE : EI A b p (x, (s, r), pg, 0, mn, nt)) (hx : x.1 = 0) (h : PCs S b x) (hR : ER S k s r pg) (hF : EF S r (0, mn, nt)) : Rn (f_X6_readBehindPart N 5 3 k S) (fun S' => ∃ y, PCs S' b y ∧ aS b y = (eB b (x, (s, r), pg, 0, mn, nt)).1 ∧ ((eB b (x, (s, r), pg, 0, mn, nt)).1.1 = 0 → ER S' k (eB b (x, (s, r), pg, 0, mn, nt)).2.1.1 (eB b (x, (s, r), pg, 0, mn, nt)).2.1.2 (eB b (x, (s, r), pg, 0, mn, nt)).2.2.1 ∧ EF S' (eB b (x, (s, r), pg, 0, mn, nt)).2.1.2 (eB b (x, (s, r), pg, 0, mn, nt)).2.2.2) ∧ Fm (eWk k) S S') := by
  obtain ⟨b1, b2, b3, b4, b5, b6⟩ := EI_b hb hE
  have hkd := G_kd h.1.1
  have hL := hb.1
  have hsl := flt_sl (s := s) (r := r)
  have hdq : dq A pg 0 (bns s + bnw r + 1) := hE.2.2.2.2.1
  have aSF : ∀ m, ¬ m = 0 → aS b (aF m x) = aF m x := fun m hm => aSf (aF_n hm hx)
  generalize he : eB b (x, (s, r), pg, 0, mn, nt) = e'
  unfold eB at he
  unfold f_X6_readBehindPart b_X6_readBehindPart_44 b_X6_readBehindPart_91
  rw [c_op hN hb h, bd_some, h.2.1.2.2.2.1, (show sg S 5 2 = nI r.length from hF.1)]
  have k41 : (nI x.2.2.2 = (41 : Int32)) ↔ x.2.2.2 = 41 := nIeq (b := 41) (by omega) (by omega)
  have w0 : (nI r.length ≤ (0 : Int32)) ↔ r.length ≤ 0 := nIle (b := 0) (by omega) (by omega)
  have t9 : am_rank.getD 1 0 = nI 1 := by decide +kernel
  have t6 : am_rank.getD 6 0 = nI 5 := by decide +kernel
  -- an operator
  have opr : ¬ (x.2.2.2 = 41 ∧ 0 < r.length) → Rn (if oI (tko b x.2) = -1 then (bv (f_X8_fail N 3 1 S) (fun S15 => some S15)) else (if inb (oI (tko b x.2)) 10 = true then (if inb 4 10 = true then (if (am_rank.getD (Int32.toNatClampNeg (oI (tko b x.2))) 0) = (am_rank.getD (Int32.toNatClampNeg 4) 0) then (bv (f_X6_readTest N 5 3 k (oI (tko b x.2)) S) (fun S12 => some S12)) else (bv (f_X6_release N 5 k (oI (tko b x.2)) S) (fun S6 => (bv (f_X6_letWait N 5 (oI (tko b x.2)) S6) (fun S9 => some S9))))) else none) else none)) (fun S' => ∃ y, PCs S' b y ∧ aS b y = e'.1 ∧ (e'.1.1 = 0 → ER S' k e'.2.1.1 e'.2.1.2 e'.2.2.1 ∧ EF S' e'.2.1.2 e'.2.2.2) ∧ Fm (eWk k) S S') := by
    intro z1
    rw [if_neg z1] at he
    by_cases z2 : tko b x.2 = 0
    · rw [if_pos z2] at he
      have e : oI (tko b x.2) = -1 := by rw [z2]; rfl
      rw [if_pos e]
      subst he
      exact Rn_bv (Rn_mono (c_F (k := 1) (by omega) h) (fun S1 g => Rn_ret ⟨_, g.1, aSF 1 (by omega), fun q => absurd q (aF_n (by omega) hx), c6_w g.2⟩))
    rw [if_neg z2] at he
    have hop := tko_op z2
    obtain ⟨rt1, rt2⟩ := rnk_t (tko b x.2) (by omega) hop.1
    obtain ⟨rn1, rn2⟩ := rnk (tko b x.2) (by omega) (by omega)
    have e : oI (tko b x.2) = nI (cwk (tko b x.2)) := if_neg z2
    have i4 : inb 4 10 = true := by decide
    rw [e, eqmF (by omega), inbT rn1 (by omega), i4, ckT, nIc (by omega), show Int32.toNatClampNeg 4 = 4 from rfl]
    have pl : pg.length + s.length ≤ 700 := by omega
    by_cases z3 : tko b x.2 = 6 ∨ tko b x.2 = 7
    · rw [if_pos z3] at he
      rw [if_pos (rt1.mpr z3)]
      unfold f_X6_readTest f_X6_release
      refine Rn_bv (Rn_bv (Rn_mono (c_rel (lr := 6) (rr := 5) hk hk2 (by omega) ⟨t6, by omega, by omega⟩ s N S pg b6 (by omega) (by omega) pl hR) (fun S1 g1 => ?_)))
      obtain ⟨j1, j2, j3, j4, j5⟩ := rls_I (r := 5) b6 hdq
      have jt := rls_t (r := 5) (by omega) (s := s) (P := pg)
      have jl := flt_le (r := r) (rls_le 5 s pg)
      have hP1 := PCs_e hk2 h g1.2
      have hF1 := EF_e hk2 hF g1.2
      have bad : tst s = 1 → Rn (bv (f_X8_fail N 3 1 S1) (fun S10 => b_X6_readTest_42 N 5 (nI (cwk (tko b x.2))) S10)) (fun S' => Rn (some S') (fun S' => ∃ y, PCs S' b y ∧ aS b y = e'.1 ∧ (e'.1.1 = 0 → ER S' k e'.2.1.1 e'.2.1.2 e'.2.2.1 ∧ EF S' e'.2.1.2 e'.2.2.2) ∧ Fm (eWk k) S S')) := by
        intro z4
        rw [if_pos z4] at he
        subst he
        refine Rn_bv (Rn_mono (c_F (k := 1) (by omega) hP1) (fun S2 g2 => ?_))
        unfold b_X6_readTest_42
        refine Rn_bv (Rn_mono (c_wait hop hk2 (by omega) g2.1 (ER_6 hk2 g1.1 g2.2) (EF_6 hF1 g2.2)) (fun S3 g3 => Rn_ret (Rn_ret ⟨_, g3.1, aSF 1 (by omega), fun q => absurd q (aF_n (by omega) hx), Fm_tr (Fm_tr (ek_w g1.2) (c6_w g2.2)) g3.2.2.2⟩)))
      have good : ¬ tst s = 1 → Rn (b_X6_readTest_42 N 5 (nI (cwk (tko b x.2))) S1) (fun S' => Rn (some S') (fun S' => ∃ y, PCs S' b y ∧ aS b y = e'.1 ∧ (e'.1.1 = 0 → ER S' k e'.2.1.1 e'.2.1.2 e'.2.2.1 ∧ EF S' e'.2.1.2 e'.2.2.2) ∧ Fm (eWk k) S S')) := by
        intro z4
        rw [if_neg z4] at he
        subst he
        unfold b_X6_readTest_42
        refine Rn_bv (Rn_mono (c_wait hop hk2 (by omega) hP1 g1.1 hF1) (fun S3 g3 => Rn_ret (Rn_ret ⟨x, g3.1, rfl, fun _ => ⟨g3.2.1, g3.2.2.1⟩, Fm_tr (ek_w g1.2) g3.2.2.2⟩)))
      rw [g1.1.1, r5_0, show ln 6 = 84 from rfl]
      -- what waits on top
      have g12 := g1.1.2.1
      generalize hs' : (rls 5 s pg).1 = s' at *
      cases s' with
      | nil =>
        have z4 : ¬ tst s = 1 := by rw [← jt]; show ¬ (0 : Nat) = 1; omega
        cases r with
        | nil =>
          have e0 : nI (flt [] []).length ≤ 0 := by decide
          rw [if_pos e0]
          exact good z4
        | cons t r =>
          rw [flt_o] at g12
          have g12' : sg S1 6 (flt t r).length = nI 0 := g12.1
          have jl' : (flt t r).length + 1 ≤ (flt s (t :: r)).length := jl
          show Rn (if nI ((flt t r).length + 1) ≤ 0 then _ else _) _
          rw [le0F (by omega) (by omega)]
          rw [show nI (flt [] (t :: r)).length = nI ((flt t r).length + 1) from rfl, l1, nIs (by omega), show (flt t r).length + 1 - 1 = (flt t r).length by omega, inbT (by omega) (by omega), nIc (by omega), g12', inbT (by omega) (by omega), i4, ckT, nIc (by omega), if_neg (by decide +kernel : ¬ am_rank.getD 0 0 = am_rank.getD (Int32.toNatClampNeg 4) 0)]
          rw [← l1] at *
          exact good z4
      | cons a s2 =>
        rw [flt_c] at g12
        have g12' : sg S1 6 (flt s2 r).length = nI (cwk a) := g12.1
        rw [flt_c] at jl
        have jl' : (flt s2 r).length + 1 ≤ (flt s r).length := jl
        obtain ⟨ra1, ra2⟩ := rnk a (by have := j1.1; omega) j1.1.1
        rw [flt_c]
        show Rn (if nI ((flt s2 r).length + 1) ≤ 0 then _ else _) _
        rw [le0F (by omega) (by omega)]
        rw [show nI (a :: flt s2 r).length - 1 = nI (flt s2 r).length from by rw [show nI (a :: flt s2 r).length = nI ((flt s2 r).length + 1) from rfl, l1, nIs (by omega)]; rfl, inbT (by omega) (by omega), nIc (by omega), g12', inbT (by omega) (by omega), i4, ckT, nIc (by omega), ra2, show am_rank.getD (Int32.toNatClampNeg 4) 0 = nI 4 from by decide +kernel]
        have hrb := rk_b (a := a)
        by_cases y : rk a = 4
        · rw [eqT y]
          exact bad (by rw [← jt]; exact if_pos y)
        · rw [eqF y (by omega) (by omega)]
          refine good (fun q => y ?_)
          rw [← jt] at q
          have h5 : rk a < 5 ∨ a :: s2 = [] := j5
          rcases h5 with h5 | h5
          · by_cases h3 : rk a ≤ 3
            · have := sg_t0 j1 (by exact h3)
              omega
            · omega
          · exact absurd h5 (by intro q; cases q)
    · rw [if_neg z3] at he
      rw [if_neg (fun q => z3 (rt1.mp q))]
      subst he
      unfold f_X6_release
      refine Rn_bv (Rn_mono (c_rel (rr := rk (tko b x.2)) hk hk2 rn1 ⟨rn2, rt2.2, rt2.1⟩ s N S pg b6 (by omega) (by omega) pl hR) (fun S1 g1 => ?_))
      have jl := flt_le (r := r) (rls_le (rk (tko b x.2)) s pg)
      refine Rn_bv (Rn_mono (c_wait hop hk2 (by omega) (PCs_e hk2 h g1.2) g1.1 (EF_e hk2 hF g1.2)) (fun S3 g3 => Rn_ret ⟨x, g3.1, rfl, fun _ => ⟨g3.2.1, g3.2.2.1⟩, Fm_tr (ek_w g1.2) g3.2.2.2⟩))
  by_cases z1 : x.2.2.2 = 41 ∧ 0 < r.length
  · rw [if_pos z1] at he
    rw [if_pos (k41.mpr z1.1), if_neg (fun q => by have := w0.mp q; omega)]
    subst he
    unfold f_X6_release
    refine Rn_bv (Rn_mono (c_rel (lr := 1) (rr := 1) hk hk2 (by omega) ⟨t9, by omega, by omega⟩ s N S pg b6 (by omega) (by omega) (by omega) hR) (fun S1 g1 => ?_))
    have g11 := g1.1
    rw [rls_1] at g11
    cases r with
    | nil => exact absurd z1.2 (by show ¬ (0 < 0); omega)
    | cons t r =>
      rw [show ER S1 k [] (t :: r) (rls 1 s pg).2 = (sg S1 5 1 = nI ((flt t r).length + 1) ∧ stN S1 6 cwk (14 :: flt t r) ∧ sg S1 k 1 = nI (rls 1 s pg).2.length ∧ stepsAt S1 (k + 1) 0 (rls 1 s pg).2) from rfl] at g11
      have jl := flt_le (s := s) (s' := []) (r := t :: r) (Nat.zero_le _)
      have jl' : (flt t r).length + 1 ≤ (flt s (t :: r)).length := jl
      have hF1 := EF_e hk2 hF g1.2
      unfold f_X6_pop b_X6_pop_17
      rw [g11.1, le0F (by omega) (by omega), bv_some, l1, nIs (by omega), show (flt t r).length + 1 - 1 = (flt t r).length by omega]
      have e2 : sg (sp S1 5 1 (nI (flt t r).length)) 5 2 = nI (r.length + 1) := by rw [sgj (by omega)]; exact hF1.1
      rw [e2, nIs (by omega), show r.length + 1 - 1 = r.length by omega]
      refine Rn_ret ⟨x, PCs_o (PCs_o (PCs_e hk2 h g1.2) (by omega)) (by omega), rfl, fun _ => ⟨⟨?_, ?_, ?_, ?_⟩, ?_, ?_, ?_, ?_⟩, Fm_sp (Fm_sp (ek_w g1.2) (by unfold eWk; omega)) (by unfold eWk; omega)⟩
      · simp (disch := omega) only [sgp, sgn, sgj]
        rfl
      · exact stN_s g11.2.1.2 (fun j _ => by simp (disch := omega) only [sgp, sgn, sgj])
      · simp (disch := omega) only [sgp, sgn, sgj]
        exact g11.2.2.1
      · exact stepsAt_same (fun j => by simp (disch := omega) only [sgp, sgn, sgj]) g11.2.2.2
      · simp (disch := omega) only [sgp, sgn, sgj]
        rfl
      · simp (disch := omega) only [sgp, sgn, sgj]
        exact hF1.2.1
      · simp (disch := omega) only [sgp, sgn, sgj]
        exact hF1.2.2.1
      · simp (disch := omega) only [sgp, sgn, sgj]
        exact hF1.2.2.2
  · by_cases y : x.2.2.2 = 41
    · rw [if_pos (k41.mpr y), if_pos (w0.mpr (by omega))]
      exact opr z1
    · rw [if_neg (fun q => y (k41.mp q))]
      exact opr z1
end
