/-! couples; whom one comes to; steps -/
def cpl (r : Rw) (p o : Nat) : Int32 := if r (72 + p) = nI o then (if r (72 + o) = nI p then 1 else 0) else 0
def mut_ (c : Cy) (r : Rw) : Int32 := sI (fun p => sI (cpl r p) p) (cnp c)
theorem sI_add (f g : Nat → Int32) : ∀ n, sI (fun i => f i + g i) n = sI f n + sI g n := by
  intro n
  induction n with
  | zero => rfl
  | succ n ih =>
    show sI _ n + (f n + g n) = (sI f n + f n) + (sI g n + g n)
    rw [ih, Int32.add_assoc, Int32.add_assoc]
    congr 1
    rw [← Int32.add_assoc, ← Int32.add_assoc, Int32.add_comm (sI g n)]
theorem sI_zero {f : Nat → Int32} : ∀ n, (∀ i, i < n → f i = 0) → sI f n = 0 := by
  intro n
  induction n with
  | zero => intro _; rfl
  | succ n ih =>
    intro h
    show sI f n + f n = 0
    rw [ih (fun i hi => h i (by omega)), h n (by omega)]
    rfl
theorem sI_one {f : Nat → Int32} {q : Nat} : ∀ n, q < n → (∀ i, i < n → ¬ i = q → f i = 0) → sI f n = f q := by
  intro n
  induction n with
  | zero => intro h; omega
  | succ n ih =>
    intro hq h
    show sI f n + f n = f q
    by_cases e : q = n
    · subst e
      rw [sI_zero q (fun i hi => h i (by omega) (by omega)), Int32.zero_add]
    · rw [ih (by omega) (fun i hi => h i (by omega)), h n (by omega) (by omega), Int32.add_zero]
theorem cpl_c {r : Rw} {p o : Nat} : cpl r p o = cpl r o p := by
  unfold cpl
  by_cases h1 : r (72 + p) = nI o
  · by_cases h2 : r (72 + o) = nI p
    · rw [if_pos h1, if_pos h2, if_pos h2, if_pos h1]
    · rw [if_pos h1, if_neg h2, if_neg h2]
  · by_cases h2 : r (72 + o) = nI p
    · rw [if_neg h1, if_pos h2, if_neg h1]
    · rw [if_neg h1, if_neg h2]
theorem mut_tri {r : Rw} : ∀ n, sI (fun p => sI (fun o => if p < o then cpl r p o else 0) n) n = sI (fun p => sI (cpl r p) p) n := by
  intro n
  induction n with
  | zero => rfl
  | succ n ih =>
    show sI (fun p => sI (fun o => if p < o then cpl r p o else 0) n + (if p < n then cpl r p n else 0)) n + (sI (fun o => if n < o then cpl r n o else 0) n + (if n < n then cpl r n n else 0)) = sI (fun p => sI (cpl r p) p) n + sI (cpl r n) n
    rw [sI_add, ih, sI_zero (f := fun o => if n < o then cpl r n o else 0) n (fun i hi => if_neg (by omega)), if_neg (by omega), Int32.add_zero, Int32.add_zero]
    congr 1
    refine sI_ext n (fun i hi => ?_)
    rw [if_pos hi, cpl_c]
section
variable {N t k : Nat} {c : Cy} {S : am_S} {r : Nat → Int32}
theorem c_mut (hN : 10000 ≤ N) (hI : CI c) (hk : Sk k) (hC : CC S t c) (hR : RC S k (72 + cnp c) r) (hRI : RI c r) : f_X1_mutualCouples N t k S = some (mut_ c r, S) := by
  have hnp := hI.1.2
  unfold f_X1_mutualCouples mut_
  rw [← mut_tri]
  refine lp_sI (fun n v i => b_X1_mutualCouples_4 N n t k v i S) (fun p => sI (fun o => if p < o then cpl r p o else 0) (cnp c)) (fun v => some (v, S)) (cnp c) (fun n v => ?_) (fun n i v hi => ?_) N (by omega)
  · show b_X1_mutualCouples_4 N (n + 1) t k v (nI (cnp c)) S = _
    unfold b_X1_mutualCouples_4
    rw [hC.1.2, leT (Nat.le_refl _) (by omega)]
  · show b_X1_mutualCouples_4 N (n + 1) t k v (nI i) S = b_X1_mutualCouples_4 N n t k (v + sI (fun o => if i < o then cpl r i o else 0) (cnp c)) (nI (i + 1)) S
    rw [b_X1_mutualCouples_4]
    unfold b_X1_mutualCouples_38
    rw [hC.1.2, leF (by omega) (by omega), r_at hI hk hR hi, bd_some, nI1]
    rcases hRI.2.2.2.2.2 i hi with q | ⟨o, ho, q⟩
    · rw [q, if_pos (Int32.le_iff_toInt_le.mpr (by rw [tm1, nIi (by omega)]; omega)), sI_zero (cnp c) (fun j hj => by
        show (if i < j then cpl r i j else 0) = 0
        have e9 : cpl r i j = 0 := by
          unfold cpl
          rw [q]
          exact if_neg (fun z => nIn (show j < 2147483648 by omega) z.symm)
        rw [e9]
        split <;> rfl), Int32.add_zero]
    · rw [q]
      by_cases h1 : o ≤ i
      · rw [leT h1 (by omega), sI_zero (cnp c) (fun j hj => by
          show (if i < j then cpl r i j else 0) = 0
          by_cases h2 : i < j
          · rw [if_pos h2]
            unfold cpl
            rw [q, eqF (by omega) (by omega) (by omega)]
          · rw [if_neg h2]), Int32.add_zero]
      · rw [leF (by omega) (by omega), r_at hI hk hR ho, bd_some, sI_one (q := o) (cnp c) ho (fun j hj hne => by
          show (if i < j then cpl r i j else 0) = 0
          by_cases h2 : i < j
          · rw [if_pos h2]
            unfold cpl
            rw [q, eqF (by omega) (by omega) (by omega)]
          · rw [if_neg h2]), if_pos (show i < o by omega)]
        unfold cpl
        rw [q, if_pos rfl]
        split
        · rfl
        · rw [Int32.add_zero]
theorem m_mut (hN : 10000 ≤ N) (hI : CI c) (hC : CM S c) (hR : RM S 0 (72 + cnp c) r) : f_X10_mutual N 78 S = some (mut_ c r, S) := by
  have hnp := hI.1.2
  have e : ∀ j, j < cnp c → sg S 96 (72 + j) = r (72 + j) := fun j hj => by rw [← hR (72 + j) (by omega), Nat.zero_add]
  unfold f_X10_mutual mut_
  refine lp_sI (fun n v i => b_X10_mutual_4 N n 78 v i S) (fun p => sI (cpl r p) p) (fun v => some (v, S)) (cnp c) (fun n v => ?_) (fun n i v hi => ?_) N (by omega)
  · show b_X10_mutual_4 N (n + 1) 78 v (nI (cnp c)) S = _
    unfold b_X10_mutual_4
    rw [hC.1.2, leT (Nat.le_refl _) (by omega)]
  · show b_X10_mutual_4 N (n + 1) 78 v (nI i) S = b_X10_mutual_4 N n 78 (v + sI (cpl r i) i) (nI (i + 1)) S
    rw [b_X10_mutual_4, hC.1.2, leF (by omega) (by omega)]
    have h := lp_eq (fun m a j => b_X10_mutual_14 N (b_X10_mutual_4 N n) m 78 a (nI i) j S) (fun o a => a + cpl r i o) (fun a => b_X10_mutual_4 N n 78 a (nI (i + 1)) S) i (fun _ _ => True) v trivial (fun _ _ _ _ => trivial) (fun m a _ => by
      show b_X10_mutual_14 N (b_X10_mutual_4 N n) (m + 1) 78 a (nI i) (nI i) S = _
      unfold b_X10_mutual_14
      rw [leT (Nat.le_refl _) (by omega), nI1]) (fun m j a hj _ => by
      show b_X10_mutual_14 N (b_X10_mutual_4 N n) (m + 1) 78 a (nI i) (nI j) S = b_X10_mutual_14 N (b_X10_mutual_4 N n) m 78 (a + cpl r i j) (nI i) (nI (j + 1)) S
      rw [b_X10_mutual_14]
      unfold b_X10_mutual_50 b_X10_mutual_51 cpl
      rw [leF (by omega) (by omega), l72, nIa, nIa, r78_46, n96, inbT (by omega) (by decide), inbT (by omega) (by decide), nIc (by omega), nIc (by omega), e i hi, e j (by omega), nI1]
      split
      · split <;> rfl
      · rfl) N (by omega)
    refine h.trans ?_
    have e2 : ∀ n, itr (fun o a => a + cpl r i o) n v = v + sI (cpl r i) n := by
      intro n
      induction n with
      | zero => exact (Int32.add_zero v).symm
      | succ n ih =>
        show itr _ n v + cpl r i n = v + (sI (cpl r i) n + cpl r i n)
        rw [ih, Int32.add_assoc]
    show b_X10_mutual_4 N n 78 (itr _ i v) _ S = _
    rw [e2]
end
/-! sets of people, as numbers below 256 -/
def crd (V : Nat) : Nat := (if V.testBit 0 then 1 else 0) + (if V.testBit 1 then 1 else 0) + (if V.testBit 2 then 1 else 0) + (if V.testBit 3 then 1 else 0) + (if V.testBit 4 then 1 else 0) + (if V.testBit 5 then 1 else 0) + (if V.testBit 6 then 1 else 0) + (if V.testBit 7 then 1 else 0)
def setOk (V q : Nat) : Bool := decide (V ||| 2 ^ q < 256) && decide (nI V ||| bt1 q = nI (V ||| 2 ^ q)) && decide (((nI V >>> (nI q &&& (31 : Int32))) &&& 1 = 0) ↔ V.testBit q = false) && decide (((nI V >>> (nI q &&& (31 : Int32))) &&& 1 = 1) ↔ V.testBit q = true) && decide (V.testBit q = true → V ||| 2 ^ q = V) && decide (V.testBit q = false → crd (V ||| 2 ^ q) = crd V + 1) && (List.range 8).all (fun i => (V ||| 2 ^ q).testBit i == (V.testBit i || i == q))
theorem set_ok : ∀ V, V < 256 → ∀ q, q < 8 → setOk V q = true := by decide +kernel
theorem set_full : ∀ n, n ≤ 8 → ∀ V, V < 2 ^ n → crd V = n → V = 2 ^ n - 1 := by decide +kernel
theorem full_bit : ∀ n, n ≤ 8 → ∀ q, q < n → (2 ^ n - 1).testBit q = true := by decide +kernel
theorem or_lt : ∀ n, n ≤ 8 → ∀ V, V < 2 ^ n → ∀ q, q < n → V ||| 2 ^ q < 2 ^ n := by decide +kernel
theorem set_f {V q : Nat} (hV : V < 256) (hq : q < 8) : V ||| 2 ^ q < 256 ∧ nI V ||| bt1 q = nI (V ||| 2 ^ q) ∧ (((nI V >>> (nI q &&& (31 : Int32))) &&& 1 = 0) ↔ V.testBit q = false) ∧ (((nI V >>> (nI q &&& (31 : Int32))) &&& 1 = 1) ↔ V.testBit q = true) ∧ (V.testBit q = true → V ||| 2 ^ q = V) ∧ (V.testBit q = false → crd (V ||| 2 ^ q) = crd V + 1) ∧ (∀ i, i < 8 → (V ||| 2 ^ q).testBit i = (V.testBit i || i == q)) := by
  have h := set_ok V hV q hq
  unfold setOk at h
  simp only [Bool.and_eq_true, decide_eq_true_eq, List.all_eq_true, List.mem_range, beq_iff_eq] at h
  exact ⟨h.1.1.1.1.1.1, h.1.1.1.1.1.2, h.1.1.1.1.2, h.1.1.1.2, h.1.1.2, h.1.2, h.2⟩
/-- whom one comes to -/
def rchF (r : Rw) : Nat → Int32 → Int32 → Int32
  | 0, v, _ => v
  | j + 1, v, a => if a = -1 then v else rchF r j (v ||| bt1 a.toNatClampNeg) (r (72 + a.toNatClampNeg))
def rch (r : Rw) (p : Nat) : Int32 := rchF r 8 0 (r (72 + p))
def Pth (np : Nat) (r : Rw) (V : Nat) (a : Int32) : Prop := V < 2 ^ np ∧ ixP np a ∧ ∀ q, q < np → V.testBit q = true → r (72 + q) = a ∨ ∃ q', q' < np ∧ V.testBit q' = true ∧ r (72 + q) = nI q'
theorem p256 : ∀ n, n ≤ 8 → 2 ^ n ≤ 256 := by decide
theorem Pth_s {np V q : Nat} {r : Rw} (hnp : np ≤ 8) (hq : q < np) (hr : ∀ p, p < np → ixP np (r (72 + p))) (h : Pth np r V (nI q)) : Pth np r (V ||| 2 ^ q) (r (72 + q)) := by
  have hb := p256 np hnp
  obtain ⟨h1, h2, h3⟩ := h
  obtain ⟨-, -, -, -, -, -, f7⟩ := set_f (V := V) (q := q) (by omega) (by omega)
  refine ⟨or_lt np hnp V h1 q hq, hr q hq, fun p hp hpb => ?_⟩
  rw [f7 p (by omega), Bool.or_eq_true, beq_iff_eq] at hpb
  rcases hpb with hpb | hpb
  · rcases h3 p hp hpb with h4 | ⟨q', g1, g2, g3⟩
    · refine Or.inr ⟨q, hq, ?_, h4⟩
      rw [f7 q (by omega)]
      simp
    · refine Or.inr ⟨q', g1, ?_, g3⟩
      rw [f7 q' (by omega), g2, Bool.true_or]
  · rw [hpb]
    exact Or.inl rfl
theorem rch_stay {np V : Nat} {r : Rw} (hnp : np ≤ 8) (hV : V < 256) (hc : ∀ q, q < np → V.testBit q = true → ∃ q', q' < np ∧ V.testBit q' = true ∧ r (72 + q) = nI q') : ∀ (j q : Nat), q < np → V.testBit q = true → rchF r j (nI V) (nI q) = nI V := by
  intro j
  induction j with
  | zero => intro q _ _; rfl
  | succ j ih =>
    intro q hq hb
    obtain ⟨-, f2, -, -, f5, -, -⟩ := set_f (V := V) (q := q) hV (by omega)
    obtain ⟨q', g1, g2, g3⟩ := hc q hq hb
    unfold rchF
    rw [eqmF (by omega), nIc (by omega), f2, f5 hb, g3]
    exact ih q' g1 g2
theorem Pth_c {np V q : Nat} {r : Rw} (h : Pth np r V (nI q)) (hq : q < np) (hb : V.testBit q = true) : ∀ p, p < np → V.testBit p = true → ∃ q', q' < np ∧ V.testBit q' = true ∧ r (72 + p) = nI q' := by
  intro p hp hpb
  rcases h.2.2 p hp hpb with h4 | h4
  · exact ⟨q, hq, hb, h4⟩
  · exact h4
section
variable {N t k : Nat} {c : Cy} {S : am_S} {r : Nat → Int32}
theorem c_rch {p : Nat} (hN : 10000 ≤ N) (hI : CI c) (hk : Sk k) (hR : RC S k (72 + cnp c) r) (hRI : RI c r) (hp : p < cnp c) : f_X1_reachedBits N t k (nI p) S = some (rch r p, S) := by
  have hnp := hI.1.2
  unfold f_X1_reachedBits
  rw [r_at hI hk hR hp, bd_some]
  have key : ∀ (d n i : Nat) (v a : Int32), i + d = 8 → d < n → ixP (cnp c) a → b_X1_reachedBits_12 N n k v a (nI i) S = some (rchF r d v a, S) := by
    intro d
    induction d with
    | zero =>
      intro n i v a hi hn ha
      cases n with
      | zero => omega
      | succ n =>
        unfold b_X1_reachedBits_12 b_X1_reachedBits_46
        rw [l8, leT (by omega) (by omega)]
        rfl
    | succ d ih =>
      intro n i v a hi hn ha
      cases n with
      | zero => omega
      | succ n =>
        unfold b_X1_reachedBits_12 b_X1_reachedBits_46 rchF
        rw [l8, leF (by omega) (by omega)]
        rcases ha with ha | ⟨q, hq, ha⟩
        · rw [if_pos ha, if_pos ha]
        · rw [ha, eqmF (by omega), eqmF (by omega), r_at hI hk hR hq, bd_some, nI1, nIc (by omega)]
          exact ih n (i + 1) _ _ (by omega) (by omega) (hRI.2.2.2.2.2 q hq)
  exact key 8 N 0 0 _ (by omega) (by omega) (hRI.2.2.2.2.2 p hp)
theorem m_rch {p : Nat} (hN : 10000 ≤ N) (hI : CI c) (hR : RM S 0 (72 + cnp c) r) (hRI : RI c r) (hp : p < cnp c) : f_X10_goesOnFrom N 78 (nI p) S = some (rch r p, S) := by
  have hnp := hI.1.2
  have hb := p256 _ hnp
  have e : ∀ j, j < cnp c → sg S 96 (72 + j) = r (72 + j) := fun j hj => by rw [← hR (72 + j) (by omega), Nat.zero_add]
  unfold f_X10_goesOnFrom rch
  rw [l72, nIa, r78_46, n96, inbT (by omega) (by decide), nIc (by omega), e p hp]
  have key : ∀ (j n V : Nat) (a : Int32), j < n → crd V + j = 8 → Pth (cnp c) r V a → b_X10_goesOnFrom_12 N n 78 (nI V) a S = some (rchF r j (nI V) a, S) := by
    intro j
    induction j with
    | zero =>
      intro n V a hn hc hP
      cases n with
      | zero => omega
      | succ n =>
        unfold b_X10_goesOnFrom_12 b_X10_goesOnFrom_44
        rcases hP.2.1 with ha | ⟨q, hq, ha⟩
        · rw [if_pos ha]; rfl
        · obtain ⟨-, -, f3, -, -, -, -⟩ := set_f (V := V) (q := q) (by have := hP.1; omega) (by omega)
          have hV := set_full 8 (by omega) V (by have := hP.1; omega) (by omega)
          have hq2 : V.testBit q = true := by rw [hV]; exact full_bit 8 (by omega) q (by omega)
          rw [ha, eqmF (by omega), if_neg (fun z => by rw [f3.mp z] at hq2; cases hq2)]
          rfl
    | succ j ih =>
      intro n V a hn hc hP
      cases n with
      | zero => omega
      | succ n =>
        unfold b_X10_goesOnFrom_12 b_X10_goesOnFrom_44
        rcases hP.2.1 with ha | ⟨q, hq, ha⟩
        · rw [if_pos ha]
          unfold rchF
          rw [if_pos ha]
        · subst ha
          obtain ⟨-, f2, f3, -, -, f6, -⟩ := set_f (V := V) (q := q) (by have := hP.1; omega) (by omega)
          rw [eqmF (by omega)]
          cases hbt : V.testBit q with
          | true =>
            rw [if_neg (fun z => by rw [f3.mp z] at hbt; cases hbt), rch_stay hnp (by have := hP.1; omega) (Pth_c hP hq hbt) (j + 1) q hq hbt]
          | false =>
            rw [if_pos (f3.mpr hbt), l72, nIa, r78_46, n96, inbT (by omega) (by decide), nIc (by omega), e q hq]
            unfold rchF
            rw [eqmF (by omega), nIc (by omega), f2]
            have hs : (nI V ||| (1 : Int32) <<< (nI q &&& (31 : Int32))) = nI (V ||| 2 ^ q) := f2
            rw [hs]
            exact ih n (V ||| 2 ^ q) _ (by omega) (by rw [f6 hbt]; omega) (Pth_s hnp hq (hRI.2.2.2.2.2) hP)
  have h := key 8 N 0 _ (by omega) (by decide) ⟨Nat.two_pow_pos _, hRI.2.2.2.2.2 p hp, fun q _ hq => by rw [Nat.zero_testBit] at hq; cases hq⟩
  exact h
/-- steps -/
def stpF (r : Rw) (o : Nat) : Nat → Nat → Int32 → Int32
  | 0, _, _ => -1
  | j + 1, k, a => if a = -1 then -1 else if a = nI o then nI k else stpF r o j (k + 1) (r (72 + a.toNatClampNeg))
theorem c_stp {p o : Nat} (hN : 10000 ≤ N) (hI : CI c) (hR : RC S 40 (72 + cnp c) r) (hRI : RI c r) (hp : p < cnp c) (ho : o < cnp c) : b_X9_steps_15 N N 0 (nI o) (nI p) 0 S = some (.inl (stpF r o 8 0 (nI p)), S) := by
  have hnp := hI.1.2
  have key : ∀ (d n i : Nat) (a : Int32), i + d = 8 → d < n → ixP (cnp c) a → b_X9_steps_15 N n 0 (nI o) a (nI i) S = some (.inl (stpF r o d i a), S) := by
    intro d
    induction d with
    | zero =>
      intro n i a hi hn ha
      cases n with
      | zero => omega
      | succ n =>
        unfold b_X9_steps_15 b_X9_steps_50
        rw [l8, leT (by omega) (by omega)]
        rfl
    | succ d ih =>
      intro n i a hi hn ha
      cases n with
      | zero => omega
      | succ n =>
        unfold b_X9_steps_15 b_X9_steps_50 stpF
        rw [l8, leF (by omega) (by omega)]
        rcases ha with ha | ⟨q, hq, ha⟩
        · rw [if_pos ha, if_pos ha]
        · rw [ha, eqmF (by omega), eqmF (by omega), r0_7, r_at hI Sk40 hR hq, bd_some, nI1, nIc (by omega)]
          by_cases z : nI q = nI o
          · rw [if_pos z, if_pos z]
          · rw [if_neg z, if_neg z]
            exact ih n (i + 1) _ (by omega) (by omega) (hRI.2.2.2.2.2 q hq)
  exact key 8 N 0 _ (by omega) (by omega) (ixP_n hp)
theorem stp_none {np V o : Nat} {r : Rw} (hnp : np ≤ 8) (ho : V.testBit o = false) (ho8 : o < 8) (hc : ∀ q, q < np → V.testBit q = true → ∃ q', q' < np ∧ V.testBit q' = true ∧ r (72 + q) = nI q') : ∀ (j k q : Nat), q < np → V.testBit q = true → stpF r o j k (nI q) = -1 := by
  intro j
  induction j with
  | zero => intro k q _ _; rfl
  | succ j ih =>
    intro k q hq hb
    obtain ⟨q', g1, g2, g3⟩ := hc q hq hb
    unfold stpF
    rw [eqmF (by omega), eqF (fun z => by rw [z, ho] at hb; cases hb) (by omega) (by omega), nIc (by omega), g3]
    exact ih (k + 1) q' g1 g2
theorem m_stp {p o : Nat} (hN : 10000 ≤ N) (hI : CI c) (hC : CM S c) (hR : RM S 0 (72 + cnp c) r) (hRI : RI c r) (hp : p < cnp c) (ho : o < cnp c) : b_X10_steps_28 N N 78 (nI o) (nI p) 0 S = some (stpF r o 8 0 (nI p), S) := by
  have hnp := hI.1.2
  have hb := p256 _ hnp
  have e : ∀ j, j < cnp c → sg S 96 (72 + j) = r (72 + j) := fun j hj => by rw [← hR (72 + j) (by omega), Nat.zero_add]
  have stay : ∀ (V : Nat), V.testBit o = false → (∀ q, q < cnp c → V.testBit q = true → ∃ q', q' < cnp c ∧ V.testBit q' = true ∧ r (72 + q) = nI q') → ∀ (d n i q : Nat), i + d = cnp c → d < n → q < cnp c → V.testBit q = true → b_X10_steps_28 N n 78 (nI o) (nI q) (nI i) S = some (-1, S) := by
    intro V hVo hcl d
    induction d with
    | zero =>
      intro n i q hi hn hq hqb
      cases n with
      | zero => omega
      | succ n =>
        unfold b_X10_steps_28
        rw [hC.1.2, leT (by omega) (by omega)]
    | succ d ih =>
      intro n i q hi hn hq hqb
      cases n with
      | zero => omega
      | succ n =>
        obtain ⟨q', g1, g2, g3⟩ := hcl q hq hqb
        unfold b_X10_steps_28
        rw [hC.1.2, leF (by omega) (by omega), eqF (fun z => by rw [z, hVo] at hqb; cases hqb) (by omega) (by omega), l72, nIa, r78_46, n96, inbT (by omega) (by decide), nIc (by omega), e q hq, g3, eqmF (by omega), nI1]
        exact ih n (i + 1) q' (by omega) (by omega) g1 g2
  have key : ∀ (d n V i q : Nat), i + d = cnp c → d < n → crd V = i → V.testBit o = false → q < cnp c → Pth (cnp c) r V (nI q) → b_X10_steps_28 N n 78 (nI o) (nI q) (nI i) S = some (stpF r o (8 - i) i (nI q), S) := by
    intro d
    induction d with
    | zero =>
      intro n V i q hi hn hc hVo hq hP
      have hV := set_full (cnp c) hnp V hP.1 (by omega)
      have := full_bit (cnp c) hnp o ho
      rw [← hV, hVo] at this
      cases this
    | succ d ih =>
      intro n V i q hi hn hc hVo hq hP
      have hV2 := hP.1
      obtain ⟨-, -, -, -, -, f6, f7⟩ := set_f (V := V) (q := q) (by omega) (by omega)
      cases hbt : V.testBit q with
      | true =>
        rw [stp_none hnp hVo (by omega) (Pth_c hP hq hbt) _ _ q hq hbt]
        exact stay V hVo (Pth_c hP hq hbt) (d + 1) n i q hi hn hq hbt
      | false =>
        cases n with
        | zero => omega
        | succ n =>
          have e8 : 8 - i = (8 - (i + 1)) + 1 := by omega
          unfold b_X10_steps_28
          rw [e8]
          unfold stpF
          rw [hC.1.2, leF (by omega) (by omega), eqmF (by omega)]
          by_cases z : q = o
          · subst z
            rw [if_pos rfl, if_pos rfl]
          · rw [eqF z (by omega) (by omega), eqF z (by omega) (by omega), l72, nIa, r78_46, n96, inbT (by omega) (by decide), nIc (by omega), nIc (by omega), e q hq, nI1]
            have hP2 := Pth_s hnp hq (hRI.2.2.2.2.2) hP
            rcases hRI.2.2.2.2.2 q hq with g | ⟨q', hq', g⟩
            · rw [g, if_pos rfl]
              congr 1
              cases hk : 8 - (i + 1) with
              | zero => rfl
              | succ m => rfl
            · rw [g] at hP2 ⊢
              rw [eqmF (by omega)]
              by_cases hi2 : i + 1 = cnp c
              · have hfull := set_full (cnp c) hnp _ hP2.1 (by rw [f6 hbt, hc]; exact hi2)
                have h9 := full_bit (cnp c) hnp o ho
                rw [← hfull, f7 o (by omega), hVo, Bool.false_or, beq_iff_eq] at h9
                exact absurd h9.symm z
              · refine ih n (V ||| 2 ^ q) (i + 1) q' (by omega) (by omega) (by rw [f6 hbt, hc]) ?_ hq' hP2
                rw [f7 o (by omega), hVo, Bool.false_or]
                exact beq_eq_false_iff_ne.mpr (fun zz => z zz.symm)
  exact key (cnp c) N 0 0 p (by omega) (by omega) rfl (Nat.zero_testBit o) hp ⟨Nat.two_pow_pos _, ixP_n hp, fun q _ hq => by rw [Nat.zero_testBit] at hq; cases hq⟩
end
