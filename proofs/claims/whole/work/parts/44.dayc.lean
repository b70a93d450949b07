theorem c02 : Int32.toNatClampNeg 2 = 2 := rfl
theorem c03 : Int32.toNatClampNeg 3 = 3 := rfl
theorem c04 : Int32.toNatClampNeg 4 = 4 := rfl
theorem c05 : Int32.toNatClampNeg 5 = 5 := rfl
theorem RC_o {S : am_S} {k m a j : Nat} {r : Nat → Int32} {v : Int32} (h : RC S k m r) (ha : ¬ a = k + 1) : RC (sp S a j v) k m r := RC_same h (fun i => sgn (fun q => ha q.symm))
theorem cl_kept {N : Nat} {v a b : Int32} {S : am_S} : f_X9_keptWithin N v a b S = some (cl v a b, S) := by
  unfold f_X9_keptWithin b_X9_keptWithin_17 cl
  split
  · split <;> rfl
  · rfl
theorem cl_bounded {N : Nat} {v a b : Int32} {S : am_S} : f_X10_bounded N v a b S = some (cl v a b, S) := by
  unfold f_X10_bounded b_X10_bounded_19 cl
  split
  · split <;> rfl
  · rfl
def unt : Option Prg → Int32
  | none => 1
  | some _ => 0
theorem c_untold {N k : Nat} {S : am_S} {o : Option Prg} (h : RuC S k o) (ho : ∀ P, o = some P → P.length ≤ 700 ∧ P ≠ []) : f_X5_isUntold N k S = some (unt o, S) := by
  unfold f_X5_isUntold b_X5_isUntold_12
  cases o with
  | none =>
    have h1 : sg S k 1 = 0 := h
    rw [h1, if_pos rfl, isB1, ckT]
    rfl
  | some P =>
    obtain ⟨h2, h3⟩ := ho P rfl
    have h4 : 0 < P.length := List.length_pos_iff.mpr h3
    rw [h.1, eq0F h4 (by omega), isB0, ckT]
    rfl
theorem c_thoughts {N t k m p x : Nat} {S : am_S} {c : Cy} {r : Nat → Int32} (hN : 10000 ≤ N) (ht : Ci t) (hk : Sk k) (hC : CC S t c) (hI : CI c) (hp : p < cnp c) (hx : x < 6) (hm : 72 ≤ m) (hm2 : m ≤ 80) (h : RC S k m r) : Rn (f_X1_thoughtsOf N t k (nI p) (nI x) S) (fun q => q.1 = tho c r p x ∧ Fr (fun a => a = t + 11 ∨ a = t + 15) S q.2) := by
  obtain ⟨-, ⟨-, -, t1, t2, -⟩, -, ⟨t3, t4, -, -, t5, t6⟩, t7, -⟩ := ht
  obtain ⟨hk, hk1, hk2⟩ := hk
  obtain ⟨⟨-, hI1⟩, -, -, hI2, -⟩ := hI
  obtain ⟨-, ⟨-, -, hC1, -⟩, -, hC2, -⟩ := hC
  unfold f_X1_thoughtsOf
  rw [t1, t2, t3, t5, t6, c_untold hC2 (fun P hP => (hI2 P hP).2), bd_some]
  cases hc : cth c with
  | none =>
    show Rn (if (1 : Int32) = 0 then _ else _) _
    rw [if_neg (by decide), inbT (by omega) (by decide), nIc (by omega), hC1 p hp]
    refine Rn_ret ⟨?_, Fr_rf _ _⟩
    unfold tho
    rw [hc]
  | some P =>
    obtain ⟨hP1, hP2, hP3⟩ := hI2 P hc
    rw [hc] at hC2
    show Rn (if (0 : Int32) = 0 then _ else _) _
    rw [if_pos rfl, inbT (by omega) (by decide), nIc (by omega), hC1 p hp, inb0T (by decide) (by decide), c_regretOf (r := r) hk (by omega) hm (by repeat (first | assumption | refine RC_o ?_ (by omega))), bd_some, inb1T (by decide) (by decide), c_heardBy (r := r) hk (by omega) hm (by repeat (first | assumption | refine RC_o ?_ (by omega))), bd_some, l2, inbT (by decide) (by decide), nIc (by decide), c_redOf (r := r) hk hx hm (by repeat (first | assumption | refine RC_o ?_ (by omega))), bd_some, l3, inbT (by decide) (by decide), nIc (by decide), c_heldIn (r := r) hN hk hx hm (by repeat (first | assumption | refine RC_o ?_ (by omega))), bd_some, l4, inbT (by decide) (by decide), nIc (by decide), c_dayNow (r := r) hk hm (by repeat (first | assumption | refine RC_o ?_ (by omega))), bd_some, l5, inbT (by decide) (by decide), nIc (by decide)]
    unfold f_X5_worth
    refine Rn_bd (Rn_mono (c_worth (A := AT_) (vals := tvals c r p x) t4 t6 (by omega) P N 0 [] _ (by omega) ?_ trivial ?_ (by omega) hP1 (by decide) ?_) ?_)
    · exact stepsAt_same (fun j => by simp (disch := omega) only [sgn]) hC2.2
    · rw [Nat.zero_add, ← hC2.1]
      simp (disch := omega) only [sgn]
    · intro j hj
      have hj2 : j ≤ 5 := hj
      have h1 : j = 0 ∨ j = 1 ∨ j = 2 ∨ j = 3 ∨ j = 4 ∨ j = 5 := by omega
      rcases h1 with h | h | h | h | h | h <;> subst h
      · show sg _ _ 0 = cpe c p
        simp (disch := omega) only [sgj, sgp, c00, c01, c02, c03, c04, c05]
      · show sg _ _ 1 = r (56 + p)
        simp (disch := omega) only [sgj, sgp, c00, c01, c02, c03, c04, c05]
      · show sg _ _ 3 = r (2 + x)
        simp (disch := omega) only [sgj, sgp, c00, c01, c02, c03, c04, c05]
      · show sg _ _ 4 = hIn r x
        simp (disch := omega) only [sgj, sgp, c00, c01, c02, c03, c04, c05]
      · show sg _ _ 2 = r (64 + p)
        simp (disch := omega) only [sgj, sgp, c00, c01, c02, c03, c04, c05]
      · show sg _ _ 5 = r 0
        simp (disch := omega) only [sgj, sgp, c00, c01, c02, c03, c04, c05]
    · intro q hq
      rw [cl_kept, bd_some]
      refine Rn_ret ⟨?_, ?_⟩
      · show cl q.1 0 9 = _
        rw [hq.1]
        unfold tho
        rw [hc]
        rfl
      · refine Fr_tr ?_ (Fr_wk hq.2 (fun a ha => Or.inl ha))
        repeat (refine Fr_sp ?_ (Or.inr rfl))
        exact Fr_rf _ _
theorem d1_ne {c : Cy} {r : Nat → Int32} {p : Nat} (h : cne c p = -1) : d1 c r p = r := if_pos h
theorem d1_eq {c : Cy} {r : Nat → Int32} {p x : Nat} (h : cne c p = nI x) (hx : x < 6) : d1 c r p = wr (wr r (8 + 8 * x + p) (jmin 99 (r (8 + 8 * x + p) + tho c r p x))) (56 + p) (jmin 999 (r (56 + p) + tho c r p x)) := by
  unfold d1
  rw [h, if_neg (nIn (by omega)), nIc (by omega)]
theorem cne_in {c : Cy} {p : Nat} (hI : CI c) : cne c p = -1 ∨ ∃ x, x < cnb c ∧ cne c p = nI x := by
  rcases nrs_in (cba c) (cpa c p) (cnb c) (by have := hI.1.1; omega) with ⟨_, h⟩ | h
  · exact Or.inl h
  · exact Or.inr h
/-- the red that fades, and the next day -/
theorem c_day3 {N t k m : Nat} {c : Cy} {f : Int32} (hN : 10000 ≤ N) (ht : Ci t) (hk : Sk k) (hI : CI c) (hm : 72 ≤ m) (hm2 : m ≤ 80) : ∀ (d n x : Nat) (S : am_S) (r : Nat → Int32), d < n → x + d = cnb c → CC S t c → RC S k m (d3s r x) → Rn (b_X1_passDayWith_77 N n t k f (nI x) S) (fun q => q.1 = f ∧ RC q.2 k m (wr (d3s r (cnb c)) 0 (d3s r (cnb c) 0 + 1)) ∧ Fr (dW t k) S q.2) := by
  have hnb := hI.1.1
  intro d
  induction d with
  | zero =>
    intro n x S r hn hx hC hR
    cases n with
    | zero => omega
    | succ n =>
      have hxe : x = cnb c := by omega
      unfold b_X1_passDayWith_77
      rw [hC.1.1, leT (by omega) (by omega)]
      rw [hxe] at hR
      refine Rn_bv (Rn_mono (c_nextDay hk.1 hm hm2 hR) (fun S' hS => Rn_ret ⟨rfl, hS.1, Fr_wk hS.2 (fun a ha => Or.inl ha)⟩))
  | succ d ih =>
    intro n x S r hn hx hC hR
    cases n with
    | zero => omega
    | succ n =>
      unfold b_X1_passDayWith_77 b_X1_passDayWith_118
      rw [hC.1.1, leF (by omega) (by omega), c_redOf hk.1 (by omega) hm hR, bd_some]
      by_cases q1 : d3s r x (2 + x) ≤ 0
      · rw [if_pos q1, nI1]
        refine ih n (x + 1) S r (by omega) (by omega) hC ?_
        show RC S k m (d3 (d3s r x) x)
        unfold d3
        rw [if_pos q1]
        exact hR
      · rw [if_neg q1, c_heldIn hN hk.1 (by omega) hm hR, bd_some]
        by_cases q2 : hIn (d3s r x) x ≤ 0
        · rw [if_pos q2, nI1]
          refine ih n (x + 1) S r (by omega) (by omega) hC ?_
          show RC S k m (d3 (d3s r x) x)
          unfold d3
          rw [if_neg q1, if_pos q2]
          exact hR
        · rw [if_neg q2, c_redOf hk.1 (by omega) hm hR, bd_some]
          refine Rn_bv (Rn_mono (c_setRed hk.1 (by omega) hm2 hR) (fun S' hS => ?_))
          have hf : Fr (dW t k) S S' := Fr_wk hS.2 (fun a ha => Or.inl ha)
          rw [nI1]
          refine Rn_mono (ih n (x + 1) S' r (by omega) (by omega) (CC_day ht hk hC hf) ?_) (fun q hq => ⟨hq.1, hq.2.1, Fr_tr hf hq.2.2⟩)
          show RC S' k m (d3 (d3s r x) x)
          unfold d3
          rw [if_neg q1, if_neg q2]
          exact hS.1

/-- what is fetched of one -/
theorem jabs_ff {a b : Int32} (ha : 0 ≤ a.toInt ∧ a.toInt ≤ 30) (hb : 0 ≤ b.toInt ∧ b.toInt ≤ 30) : jabs (a - b) = ff a b := by
  unfold jabs ff
  have h1 : (a - b).toInt = a.toInt - b.toInt := tS (by omega) (by omega)
  by_cases h : b ≤ a
  · have h2 := Int32.le_iff_toInt_le.mp h
    rw [if_pos (Int32.le_iff_toInt_le.mpr (by rw [h1, t0]; omega)), if_pos h]
  · have h2 : ¬ b.toInt ≤ a.toInt := fun q => h (Int32.le_iff_toInt_le.mpr q)
    rw [if_neg (fun q => by have := Int32.le_iff_toInt_le.mp q; rw [h1, t0] at this; omega), if_neg h]
    rw [← Int32.toInt_inj]
    have h3 : (b - a).toInt = b.toInt - a.toInt := tS (by omega) (by omega)
    have h4 : (0 - (a - b)).toInt = (0 : Int32).toInt - (a - b).toInt := tS (by rw [h1, t0]; omega) (by rw [h1, t0]; omega)
    rw [h4, h3, h1, t0]
    omega
theorem c_hear' {N k m p : Nat} {S : am_S} {r : Nat → Int32} {v w : Int32} (hw : w = nI p) (hk : St k) (hp : p < 8) (hm : 72 ≤ m) (hm2 : m ≤ 80) (h : RC S k m r) : Rn (f_X7_hear N k w v S) (fun S' => RCw S S' k m (wr r (64 + p) (jmin 9999 (r (64 + p) + v)))) := by
  rw [hw]
  exact c_hear hk hp hm hm2 h
theorem le0_of {v : Int32} (h : 0 ≤ v.toInt) : v ≤ 0 ↔ v = 0 := by
  constructor
  · intro q
    have q2 := Int32.le_iff_toInt_le.mp q
    rw [t0] at q2
    rw [← Int32.toInt_inj, t0]
    omega
  · intro q
    rw [q]
    exact Int32.le_refl _
theorem wr_id {r : Nat → Int32} {j : Nat} {v : Int32} (h : r j = v) : wr r j v = r := by
  funext i
  unfold wr
  split
  · rename_i q
    rw [q, h]
  · rfl
theorem jmax0 {v : Int32} (h : 0 ≤ v.toInt) : jmax 0 v = v := by
  unfold jmax
  split
  · rfl
  · rename_i q
    have q2 : ¬ (0 : Int32).toInt < v.toInt := fun z => q (Int32.lt_iff_toInt_lt.mpr z)
    rw [t0] at q2
    rw [← Int32.toInt_inj, t0]
    omega
theorem c_fetch {N t k x : Nat} {wet : Int32} {c : Cy} (hN : 10000 ≤ N) (ht : Ci t) (hk : Sk k) (hI : CI c) (hx : x < cnb c) : ∀ (d n p : Nat) (S : am_S) (r : Nat → Int32), d < n → p + d = cnp c → CC S t c → RC S k (72 + cnp c) (d2s c wet x r p) → (∀ p', p' ≤ cnp c → RI c (d2s c wet x r p')) → Rn (b_X1_fetchAll_6 N n t k wet (nI x) (d2f c wet x r p) (nI p) S) (fun q => q.1 = d2f c wet x r (cnp c) ∧ RC q.2 k (72 + cnp c) (d2s c wet x r (cnp c)) ∧ Fr (dW t k) S q.2) := by
  have hnb := hI.1.1
  have hnp := hI.1.2
  intro d
  induction d with
  | zero =>
    intro n p S r hn hp hC hR hRI
    cases n with
    | zero => omega
    | succ n =>
      have hpe : p = cnp c := by omega
      unfold b_X1_fetchAll_6
      rw [hC.1.2, leT (by omega) (by omega)]
      rw [hpe] at hR ⊢
      exact Rn_ret ⟨rfl, hR, Fr_rf _ _⟩
  | succ d ih =>
    intro n p S r hn hp hC hR hRI
    cases n with
    | zero => omega
    | succ n =>
      obtain ⟨⟨ti1, ti2, -, -⟩, ⟨ti3, ti4, -⟩, -, ⟨-, -, ti5, ti6, ti7, ti8⟩, ti9, -⟩ := id ht
      obtain ⟨hk0, hk1, hk2⟩ := id hk
      obtain ⟨i1, i2, i3, i4, i5, i6⟩ := hRI p (by omega)
      have hb := i4 x p (by omega) (by omega)
      have hgo : ∀ (S1 : am_S) (R1 : Nat → Int32), CC S1 t c → RC S1 k (72 + cnp c) R1 → Fr (dW t k) S S1 → wr (wr R1 (56 + p) (jmax 0 (R1 (56 + p) - R1 (8 + 8 * x + p)))) (8 + 8 * x + p) 0 = d2 c wet x (d2s c wet x r p) p → Rn (b_X1_fetchAll_158 N (b_X1_fetchAll_6 N n) t k wet (nI x) (d2f c wet x r p) (nI p) (d2s c wet x r p (8 + 8 * x + p)) S1) (fun q => q.1 = d2f c wet x r (cnp c) ∧ RC q.2 k (72 + cnp c) (d2s c wet x r (cnp c)) ∧ Fr (dW t k) S q.2) := by
        intro S1 R1 hC1 hR1 hF1 heq
        unfold b_X1_fetchAll_158
        refine Rn_bv (Rn_mono (c_letGo hk0 (by omega) (by omega) (by omega) (by omega) hR1) (fun S2 hS => ?_))
        have hF2 : Fr (dW t k) S1 S2 := Fr_wk hS.2 (fun a ha => Or.inl ha)
        rw [nI1]
        refine Rn_mono (ih n (p + 1) S2 r (by omega) (by omega) (CC_day ht hk hC1 hF2) ?_ hRI) (fun q hq => ⟨hq.1, hq.2.1, Fr_tr hF1 (Fr_tr hF2 hq.2.2)⟩)
        show RC S2 k _ (d2 c wet x (d2s c wet x r p) p)
        rw [← heq]
        exact hS.1
      unfold b_X1_fetchAll_6
      rw [hC.1.2, leF (by omega) (by omega), c_heldOf hk0 (by omega) (by omega) (by omega) hR, bd_some, c_atOf hk0 (by omega) (by omega) hR, bd_some]
      by_cases q1 : d2s c wet x r p (8 + 8 * x + p) = 0
      · rw [if_pos ((le0_of hb.1.1).mpr q1)]
        refine hgo S _ hC hR (Fr_rf _ _) ?_
        unfold d2
        rw [if_pos q1, q1, Int32.sub_zero, jmax0 (i5 p (by omega)).1.1.1]
        rw [wr_id (r := d2s c wet x r p) rfl, wr_id q1]
      · rw [if_neg (fun z => q1 ((le0_of hb.1.1).mp z))]
        rcases i6 p (by omega) with q2 | ⟨o, ho, q2⟩
        · rw [if_pos q2]
          refine hgo S _ hC hR (Fr_rf _ _) ?_
          unfold d2 d2a
          rw [if_neg q1, if_pos q2]
        · rw [if_neg (by rw [q2]; exact nIn (by omega)), ti1, ti2, inbT (by omega) (by decide), ti3, ti4, q2, inbT (by omega) (by decide), ti7, ti8, inb0T (by decide) (by decide), inb1T (by decide) (by decide), nIc (by omega), nIc (by omega), hC.2.1.1 x hx, hC.2.1.2.1 o ho, jabs_ff (hI.2.1.1 x hx) (hI.2.1.2.1 o ho), c_heardBy (m := 72 + cnp c) (r := d2s c wet x r p) hk0 (by omega) (by omega) (by repeat (first | assumption | refine RC_o ?_ (by omega))), bd_some, l2, inbT (by decide) (by decide), l3, inbT (by decide) (by decide), c_dayNow (m := 72 + cnp c) (r := d2s c wet x r p) hk0 (by omega) (by repeat (first | assumption | refine RC_o ?_ (by omega))), bd_some, l5, inbT (by decide) (by decide), ti5, ← l2, ← l3, nIc (by decide)]
          have hgo2 : ∀ (z : Int32) (S3 : am_S), CC S3 t c → RC S3 k (72 + cnp c) (d2s c wet x r p) → Fr (dW t k) S S3 → cl z 0 99 = snd_ c wet (d2s c wet x r p) x (d2s c wet x r p (8 + 8 * x + p)) o → Rn (b_X1_fetchAll_142 N (b_X1_fetchAll_6 N n) t k wet (nI x) (d2f c wet x r p) (nI p) (d2s c wet x r p (8 + 8 * x + p)) (nI o) z S3) (fun q => q.1 = d2f c wet x r (cnp c) ∧ RC q.2 k (72 + cnp c) (d2s c wet x r (cnp c)) ∧ Fr (dW t k) S q.2) := by
            intro z S3 hC3 hR3 hF3 hz
            unfold b_X1_fetchAll_142
            rw [cl_kept, bd_some, hz]
            refine Rn_bv (Rn_mono (c_hear hk0 (by omega) (by omega) (by omega) hR3) (fun S4 hS => ?_))
            have hF4 : Fr (dW t k) S3 S4 := Fr_wk hS.2 (fun a ha => Or.inl ha)
            refine hgo S4 _ (CC_day ht hk hC3 hF4) hS.1 (Fr_tr hF3 hF4) ?_
            unfold d2 d2a
            rw [if_neg q1, if_neg (by rw [q2]; exact nIn (by omega)), q2, nIc (by omega)]
          have hFv : ∀ (a b c0 d0 e0 : Int32) , Fr (dW t k) S (sp (sp (sp (sp (sp S (t + 15) 0 a) (t + 15) 1 b) (t + 15) 2 c0) (t + 15) 3 d0) (t + 15) 5 e0) := fun a b c0 d0 e0 => by
            repeat (refine Fr_sp ?_ (Or.inr (Or.inr (Or.inr rfl))))
            exact Fr_rf _ _
          have hU := hC.2.2.2.2
          rw [c_untold (RuC_same hU (fun j => by simp (disch := omega) only [sgn]) (fun j => by simp (disch := omega) only [sgn])) (fun P hP => (hI.2.2.2.2 P hP).2), bd_some]
          cases hc : cso c with
          | none =>
            show Rn (if (1 : Int32) = 0 then _ else _) _
            rw [if_neg (by decide)]
            refine hgo2 _ _ (CC_day ht hk hC (hFv _ _ _ _ _)) (by repeat (first | assumption | refine RC_o ?_ (by omega))) (hFv _ _ _ _ _) ?_
            unfold snd_
            rw [hc]
          | some P =>
            obtain ⟨hP1, hP2, hP3⟩ := hI.2.2.2.2 P hc
            rw [hc] at hU
            show Rn (if (0 : Int32) = 0 then _ else _) _
            rw [if_pos rfl]
            unfold f_X5_worth
            refine Rn_bd (Rn_mono (c_worth (A := AS_) (vals := svals c wet (d2s c wet x r p) x (d2s c wet x r p (8 + 8 * x + p)) o) ti6 ti8 (by omega) P N 0 [] _ (by omega) ?_ trivial ?_ (by omega) hP1 (by decide) ?_) ?_)
            · exact stepsAt_same (fun j => by simp (disch := omega) only [sgn]) hU.2
            · rw [Nat.zero_add, ← hU.1]
              simp (disch := omega) only [sgn]
            · intro j hj
              have hj2 : 4 ≤ j ∧ j ≤ 8 := hj
              have h1 : j = 4 ∨ j = 5 ∨ j = 6 ∨ j = 7 ∨ j = 8 := by omega
              rcases h1 with h | h | h | h | h <;> subst h
              · show sg _ _ 2 = d2s c wet x r p (64 + o)
                simp (disch := omega) only [sgj, sgp, c00, c01, c02, c03, c04, c05]
              · show sg _ _ 5 = d2s c wet x r p 0
                simp (disch := omega) only [sgj, sgp, c00, c01, c02, c03, c04, c05]
              · show sg _ _ 0 = d2s c wet x r p (8 + 8 * x + p)
                simp (disch := omega) only [sgj, sgp, c00, c01, c02, c03, c04, c05]
              · show sg _ _ 1 = ff (cba c x) (cpa c o)
                simp (disch := omega) only [sgj, sgp, c00, c01, c02, c03, c04, c05]
              · show sg _ _ 3 = wet
                simp (disch := omega) only [sgj, sgp, c00, c01, c02, c03, c04, c05]
            · intro q hq
              have hF5 : Fr (dW t k) _ q.2 := Fr_tr (hFv _ _ _ _ _) (Fr_wk hq.2 (fun a ha => Or.inr (Or.inr (Or.inl ha))))
              refine hgo2 _ _ (CC_day ht hk hC hF5) (RC_same (by repeat (first | assumption | refine RC_o ?_ (by omega))) (fun j => hq.2.1 _ j (by omega))) hF5 ?_
              · rw [hq.1]
                unfold snd_
                rw [hc]
                rfl
