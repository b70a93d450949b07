/-! letters -/
def zr (r : Rw) (p : Nat) : Nat → Rw
  | 0 => r
  | n + 1 => wr (zr r p n) (8 + 8 * n + p) 0
def hof (r : Rw) (p : Nat) : Nat → Int32 := sI (fun x => r (8 + 8 * x + p))
def wrt (r : Rw) (p : Nat) : Rw := if r (72 + p) = -1 then r else wr (wr (zr r p 6) (64 + (r (72 + p)).toNatClampNeg) (jmin 9999 (r (64 + (r (72 + p)).toNatClampNeg) + (9 + hof r p 6)))) (56 + p) 0
theorem zr_ne {r : Rw} {p j : Nat} : ∀ n, (∀ x, x < n → ¬ j = 8 + 8 * x + p) → zr r p n j = r j := by
  intro n
  induction n with
  | zero => intro _; rfl
  | succ n ih =>
    intro h
    show wr (zr r p n) (8 + 8 * n + p) 0 j = r j
    rw [wr_ne (h n (by omega)), ih (fun x hx => h x (by omega))]
theorem wr_comm {r : Rw} {a b : Nat} {v w : Int32} (h : ¬ a = b) : wr (wr r a v) b w = wr (wr r b w) a v := by
  funext j
  unfold wr
  by_cases h1 : j = a
  · rw [if_neg (by omega : ¬ j = b), if_pos h1, if_pos h1]
  · by_cases h2 : j = b
    · rw [if_pos h2, if_neg h1, if_pos h2]
    · rw [if_neg h2, if_neg h1, if_neg h1, if_neg h2]
theorem zr_wr {r : Rw} {p a : Nat} {v : Int32} : ∀ n, (∀ x, x < n → ¬ a = 8 + 8 * x + p) → zr (wr r a v) p n = wr (zr r p n) a v := by
  intro n
  induction n with
  | zero => intro _; rfl
  | succ n ih =>
    intro h
    show wr (zr (wr r a v) p n) _ 0 = wr (wr (zr r p n) _ 0) a v
    rw [ih (fun x hx => h x (by omega)), wr_comm (h n (by omega))]
theorem zr_cut {r : Rw} {p m : Nat} : ∀ n, m ≤ n → n ≤ 6 → p < 8 → (∀ x, m ≤ x → x < n → r (8 + 8 * x + p) = 0) → zr r p n = zr r p m := by
  intro n
  induction n with
  | zero =>
    intro h _ _ _
    have : m = 0 := by omega
    rw [this]
  | succ n ih =>
    intro h h6 hp hz
    by_cases e : m = n + 1
    · rw [e]
    · show wr (zr r p n) (8 + 8 * n + p) 0 = _
      rw [ih (by omega) (by omega) hp (fun x h1 h2 => hz x h1 (by omega))]
      refine wr_id ?_
      rw [zr_ne m (fun x hx => by omega)]
      exact hz n (by omega) (by omega)
theorem sI_cut {g : Nat → Int32} {m : Nat} : ∀ n, m ≤ n → (∀ x, m ≤ x → x < n → g x = 0) → sI g n = sI g m := by
  intro n
  induction n with
  | zero =>
    intro h _
    have : m = 0 := by omega
    rw [this]
  | succ n ih =>
    intro h hz
    by_cases e : m = n + 1
    · rw [e]
    · show sI g n + g n = _
      rw [ih (by omega) (fun x h1 h2 => hz x h1 (by omega)), hz n (by omega) (by omega), Int32.add_zero]
theorem RI_zr {c : Cy} {r : Rw} {p : Nat} (hI : CI c) (h : RI c r) (hp : p < cnp c) : ∀ n, n ≤ cnb c → RI c (zr r p n) := by
  intro n
  induction n with
  | zero => intro _; exact h
  | succ n ih => intro hn; exact RI_hd (ih (by omega)) hI (by omega) hp ⟨by decide, by decide⟩
theorem hof_b {c : Cy} {r : Rw} {p : Nat} (h : RI c r) (hp : p < 8) : ∀ n, n ≤ 6 → Bd (hof r p n) (99 * n) := by
  intro n
  induction n with
  | zero => intro _; exact ⟨(by decide : 0 ≤ (0 : Int32).toInt), (by decide : (0 : Int32).toInt ≤ 99 * ((0 : Nat) : Int))⟩
  | succ n ih =>
    intro hn
    obtain ⟨a1, a2⟩ := ih (by omega)
    obtain ⟨b1, b2⟩ := (h.2.2.2.1 n p (by omega) hp).1
    show Bd (hof r p n + r (8 + 8 * n + p)) _
    unfold Bd
    rw [tA (by omega) (by omega)]
    omega
theorem RI_wrt {c : Cy} {r : Rw} {p : Nat} (hI : CI c) (h : RI c r) (hp : p < cnp c) : RI c (wrt r p) ∧ wrt r p 0 = r 0 ∧ ∀ q, wrt r p (72 + q) = r (72 + q) := by
  have hnb := hI.1.1
  have hnp := hI.1.2
  unfold wrt
  rcases h.2.2.2.2.2 p hp with z | ⟨q, hq, z⟩
  · rw [if_pos z]
    exact ⟨h, rfl, fun _ => rfl⟩
  · rw [z, if_neg (nIn (by omega)), nIc (by omega)]
    have e : zr r p 6 = zr r p (cnb c) := zr_cut 6 hnb (by omega) (by omega) (fun x h1 h2 => (h.2.2.2.1 x p h2 (by omega)).2 (Or.inl h1))
    refine ⟨?_, ?_, fun q2 => ?_⟩
    · rw [e]
      refine RI_rg (RI_he (RI_zr hI h hp _ (Nat.le_refl _)) hI hq ?_) hI hp ⟨by decide, by decide⟩
      have hb := hof_b h (show p < 8 by omega) 6 (by omega)
      have e9 : (9 : Int32).toInt = 9 := rfl
      have h9 : Bd (9 + hof r p 6) 603 := by
        obtain ⟨b1, b2⟩ := hb
        unfold Bd
        rw [tA (by rw [e9]; omega) (by rw [e9]; omega), e9]
        omega
      exact jmin_b (m := 9999) (h.2.2.2.2.1 q (by omega)).2.1 h9 (by decide) (by decide) (by decide)
    · rw [wr_ne (by omega), wr_ne (by omega), zr_ne 6 (fun x hx => by omega)]
    · rw [wr_ne (by omega), wr_ne (by omega), zr_ne 6 (fun x hx => by omega)]
section
variable {N k : Nat} {c : Cy} {S : am_S} {r : Rw}
theorem c_letter {p : Nat} (hN : 10000 ≤ N) (hI : CI c) (hk : Sk k) (hR : RC S k (72 + cnp c) r) (hRI : RI c r) (hp : p < cnp c) : Rn (f_X7_sendLetter N k (nI p) S) (fun S' => RC S' k (72 + cnp c) (wrt r p) ∧ Fr (fun a => a = k + 1) S S') := by
  have hnp := hI.1.2
  unfold f_X7_sendLetter wrt
  rw [r_at hI hk hR hp, bd_some]
  rcases hRI.2.2.2.2.2 p hp with z | ⟨q, hq, z⟩
  · rw [if_pos z, if_pos z]
    exact Rn_ret ⟨hR, Fr_rf _ _⟩
  · rw [z, if_neg (nIn (by omega)), if_neg (nIn (by omega)), nIc (by omega)]
    refine lp0 (fun n (s : Int32 × am_S) i => b_X7_sendLetter_17 N n k (nI p) (nI q) s.1 i s.2) (fun i s => s.1 = hof r p i ∧ RC s.2 k (72 + cnp c) (zr r p i) ∧ Fr (fun a => a = k + 1) S s.2) _ 6 ?_ ?_ N (0, S) (by omega) ⟨rfl, hR, Fr_rf _ _⟩
    · intro n s hs
      obtain ⟨h1, h2, h3⟩ := hs
      show Rn (b_X7_sendLetter_17 N (n + 1) k (nI p) (nI q) s.1 (nI 6) s.2) _
      unfold b_X7_sendLetter_17
      rw [l6, leT (Nat.le_refl _) (by omega), h1]
      refine Rn_bv (Rn_mono (c_hear hk.1 (by omega) (by omega) (by omega) h2) (fun S2 hS => ?_))
      rw [l8, nIa, hk.1.1, hk.1.2, inbT (by omega) (by decide), nIc (by omega)]
      have g := hS.1
      rw [zr_ne 6 (fun x hx => by omega)] at g
      exact Rn_ret ⟨RC_rg (by omega) (by omega) g, Fr_sp (Fr_tr h3 hS.2) rfl⟩
    · intro n i s hi hs ih
      obtain ⟨h1, h2, h3⟩ := hs
      show Rn (b_X7_sendLetter_17 N (n + 1) k (nI p) (nI q) s.1 (nI i) s.2) _
      unfold b_X7_sendLetter_17
      rw [l6, leF (by omega) (by omega), c_heldOf hk.1 (by omega) (by omega) (by omega) h2, bd_some, ixh, hk.1.1, hk.1.2, inbT (by omega) (by decide), nIc (by omega), nI1]
      refine ih (s.1 + _, _) ⟨?_, RC_hd (by omega) (by omega) (by omega) h2, Fr_sp h3 rfl⟩
      show s.1 + zr r p i (8 + 8 * i + p) = hof r p i + r (8 + 8 * i + p)
      rw [h1, zr_ne i (fun x hx => by omega)]
theorem m_heldOf {b p : Nat} (hN : 10000 ≤ N) (hb : b ≤ 80) (hI : CI c) (hC : CM S c) (hR : RM S b (72 + cnp c) r) (hRI : RI c r) (hp : p < cnp c) : f_X10_heldOf N 78 (nI b) (nI p) S = some (hof r p 6, S) := by
  have hnb := hI.1.1
  have hnp := hI.1.2
  have e : hof r p 6 = hof r p (cnb c) := sI_cut 6 hnb (fun x h1 h2 => (hRI.2.2.2.1 x p h2 (by omega)).2 (Or.inl h1))
  unfold f_X10_heldOf
  rw [e]
  refine lp_sI (fun n v i => b_X10_heldOf_5 N n 78 (nI b) (nI p) v i S) (fun x => r (8 + 8 * x + p)) (fun v => some (v, S)) (cnb c) (fun n v => ?_) (fun n i v hi => ?_) N (by omega)
  · show b_X10_heldOf_5 N (n + 1) 78 (nI b) (nI p) v (nI (cnb c)) S = _
    unfold b_X10_heldOf_5
    rw [hC.1.1, leT (Nat.le_refl _) (by omega)]
  · show b_X10_heldOf_5 N (n + 1) 78 (nI b) (nI p) v (nI i) S = b_X10_heldOf_5 N n 78 (nI b) (nI p) (v + r (8 + 8 * i + p)) (nI (i + 1)) S
    rw [b_X10_heldOf_5]
    simp (disch := omega) only [hC.1.1, r78_7, r78_8, r78_9, r78_10, r78_11, r78_12, r78_13, r78_17, r78_37, r78_38, r78_39, r78_40, r78_41, r78_42, r78_43, r78_44, r78_45, r78_46, r78_47, r78_49, r78_50, r78_53, r78_55, r78_57, r78_58, r78_59, r78_64, r78_65, r78_66, n79, n80, n81, n82, n83, n84, n85, n86, n87, n88, n89, n90, n91, n92, n93, n94, n95, n96, n97, n98, n99, n100, n101, n102, n103, n104, n105, n106, n107, l2, l3, l4, l5, l6, l7, l8, l56, l64, l72, l80, nIa, nIm, nI1, nIz, nIc, inbT, inb0T, inb1T, c00, c01, leT, leF, ltT, ltF, eqT, eqF, eqmF, oneT, bd_some, bv_some, sgn, sgj, sgp, RM_hd hR]
theorem m_writes {b p q : Nat} (hN : 10000 ≤ N) (hb : b ≤ 80) (hI : CI c) (hC : CM S c) (hR : RM S b (72 + cnp c) r) (hRI : RI c r) (hp : p < cnp c) (hq : q < cnp c) (z : r (72 + p) = nI q) : Rn (f_X10_writes N 78 (nI b) (nI p) S) (fun S' => RM S' b (72 + cnp c) (wrt r p) ∧ Fm (mR b) S S') := by
  have hnb := hI.1.1
  have hnp := hI.1.2
  have e : zr r p 6 = zr r p (cnb c) := zr_cut 6 hnb (by omega) (by omega) (fun x h1 h2 => (hRI.2.2.2.1 x p h2 (by omega)).2 (Or.inl h1))
  unfold f_X10_writes wrt
  rw [z, if_neg (nIn (by omega)), nIc (by omega), l72, nIa, nIa, r78_46, n96, inbT (by omega) (by decide), nIc (by omega), RM_at hR (by omega), z, m_heldOf hN hb hI hC hR hRI hp, bd_some]
  refine Rn_bv (Rn_mono (m_hears (c := c) hb hR (by omega)) (fun S1 h1 => ?_))
  have hC1 : CM S1 c := CM_m hC (Fm_wk h1.2 mR_W)
  refine lp0 (fun n (s : am_S) i => b_X10_writes_27 N n 78 (nI b) (nI p) i s) (fun i s => RM s b (72 + cnp c) (zr (wr r (64 + q) (jmin 9999 (r (64 + q) + (9 + hof r p 6)))) p i) ∧ Fm (mR b) S s) _ (cnb c) ?_ ?_ N S1 (by omega) ⟨h1.1, h1.2⟩
  · intro n s hs
    show Rn (b_X10_writes_27 N (n + 1) 78 (nI b) (nI p) (nI (cnb c)) s) _
    unfold b_X10_writes_27
    have hC2 := CM_m hC (Fm_wk hs.2 mR_W)
    rw [hC2.1.1, leT (Nat.le_refl _) (by omega), l56, nIa, nIa, r78_46, n96, inbT (by omega) (by decide), nIc (by omega)]
    have g := hs.1
    rw [zr_wr _ (fun x hx => by omega), ← e] at g
    exact Rn_ret ⟨RMw_rg g, Fm_sp hs.2 ⟨rfl, by omega, by omega⟩⟩
  · intro n i s hi hs ih
    show Rn (b_X10_writes_27 N (n + 1) 78 (nI b) (nI p) (nI i) s) _
    unfold b_X10_writes_27
    have hC2 := CM_m hC (Fm_wk hs.2 mR_W)
    rw [hC2.1.1, leF (by omega) (by omega), l8, nIm, nIa, nIa, nIa, r78_46, n96, inbT (by omega) (by decide), nIc (by omega), nI1]
    exact ih _ ⟨RMw_hd hs.1, Fm_sp hs.2 ⟨rfl, by omega, by omega⟩⟩
end
/-! nights -/
def bitE (b i : Nat) : Bool := decide ((nI b >>> (nI i &&& (31 : Int32))) &&& 1 = 1)
def wgt (b : Nat) (tn : Int32) : Nat → Int32
  | 0 => 1
  | n + 1 => wgt b tn n * (if bitE b n = true then tn else 10 - tn)
def wetE (b i : Nat) : Int32 := if bitE b i = true then 9 else 0
def ngt (c : Cy) (d : Nat) (r : Rw) (b : Nat) : Nat → Rw
  | 0 => r
  | n + 1 => day_ c (wetE b n) (cro c (d + n)) (ngt c d r b n)
theorem ngt_in {c : Cy} {d b : Nat} {r : Rw} (hI : CI c) (h : RI c r) (hd : r 0 = nI d) : ∀ n, d + n < 4999 → RI c (ngt c d r b n) ∧ ngt c d r b n 0 = nI (d + n) := by
  intro n
  induction n with
  | zero => intro _; exact ⟨h, hd⟩
  | succ n ih =>
    intro hn
    obtain ⟨i1, i2⟩ := ih (by omega)
    obtain ⟨j1, j2, -, -⟩ := day_in (wet := wetE b n) (vis := cro c (d + n)) hI i1 (Vi_cro hI) i2 (by omega)
    exact ⟨j1, j2⟩
theorem tM {a b : Int32} (h1 : 0 ≤ a.toInt * b.toInt) (h2 : a.toInt * b.toInt < 2147483648) : (a * b).toInt = a.toInt * b.toInt := by
  rw [Int32.toInt_mul, Int.bmod_eq_of_le (by omega) (by omega)]
theorem wgt_b {b : Nat} {tn : Int32} (ht : Bd tn 10) : ∀ n, n ≤ 5 → Bd (wgt b tn n) (10 ^ n) := by
  intro n
  induction n with
  | zero => intro _; exact ⟨(by decide : 0 ≤ (1 : Int32).toInt), (by decide : (1 : Int32).toInt ≤ 10 ^ 0)⟩
  | succ n ih =>
    intro hn
    obtain ⟨a1, a2⟩ := ih (by omega)
    have key : ∀ m : Int32, Bd m 10 → Bd (wgt b tn n * m) (10 ^ (n + 1)) := by
      intro m hm
      obtain ⟨m1, m2⟩ := hm
      have p1 : 0 ≤ (wgt b tn n).toInt * m.toInt := Int.mul_nonneg a1 m1
      have p2 : (wgt b tn n).toInt * m.toInt ≤ 10 ^ n * 10 := Int.mul_le_mul a2 m2 m1 (by omega)
      have p3 : (10 : Int) ^ n * 10 ≤ 100000 := by
        have : n = 0 ∨ n = 1 ∨ n = 2 ∨ n = 3 ∨ n = 4 := by omega
        rcases this with h | h | h | h | h <;> subst h <;> decide
      unfold Bd
      rw [tM p1 (by omega), Int.pow_succ]
      exact ⟨p1, p2⟩
    show Bd (wgt b tn n * _) _
    split
    · exact key tn ht
    · obtain ⟨t1, t2⟩ := ht
      refine key _ ?_
      have e10 : (10 : Int32).toInt = 10 := rfl
      unfold Bd
      rw [tS (by rw [e10]; omega) (by rw [e10]; omega), e10]
      omega
def nigT (c : Cy) (d : Nat) (r : Rw) (p : Nat) (much : Int32) (n : Nat) (tn : Int32) (b : Nat) : Int32 := if ngt c d r b n (64 + p) < much then 0 else wgt b tn n
section
variable {N t : Nat} {c : Cy} {S : am_S} {r : Rw}
theorem c_weight {b n : Nat} {tn : Int32} (hN : 10000 ≤ N) (hn : n ≤ 5) : f_X9_weightOf N (nI b) (nI n) tn S = some (wgt b tn n, S) := by
  unfold f_X9_weightOf
  have h := lp_eq (fun m a i => b_X9_weightOf_5 N m (nI b) (nI n) tn a i S) (fun i a => a * (if bitE b i = true then tn else 10 - tn)) (fun a => some (a, S)) n (fun _ _ => True) 1 trivial (fun _ _ _ _ => trivial) (fun m a _ => by
    show b_X9_weightOf_5 N (m + 1) (nI b) (nI n) tn a (nI n) S = _
    unfold b_X9_weightOf_5
    rw [leT (Nat.le_refl _) (by omega)]) (fun m i a hi _ => by
    show b_X9_weightOf_5 N (m + 1) (nI b) (nI n) tn a (nI i) S = b_X9_weightOf_5 N m (nI b) (nI n) tn (a * (if bitE b i = true then tn else 10 - tn)) (nI (i + 1)) S
    rw [b_X9_weightOf_5]
    unfold b_X9_weightOf_30
    rw [leF (by omega) (by omega), nI1]
    unfold bitE
    by_cases z : (nI b >>> (nI i &&& (31 : Int32))) &&& 1 = 1
    · rw [if_pos z, if_pos (decide_eq_true z)]
    · rw [if_neg z, if_neg (by rw [decide_eq_false z]; decide)]) N (by omega)
  refine h.trans ?_
  congr 2
  clear h hn
  induction n with
  | zero => rfl
  | succ n ih => rw [itr, ih]; rfl
theorem c_nights {b n p d : Nat} (hN : 10000 ≤ N) (hI : CI c) (hRI : RI c r) (hd0 : r 0 = nI d) (hd : d ≤ 999) (hn : n ≤ 5) (hp : p < cnp c) (hK : KC S t c r) : Rn (f_X9_heardByNights N 0 (nI p) (nI b) (nI n) S) (fun q => q.1 = ngt c d r b n (64 + p) ∧ KC q.2 t c r ∧ Fm (qC t) S q.2) := by
  unfold f_X9_heardByNights
  rw [r0_7, r0_8]
  refine Rn_bv (Rn_mono (c_ahead hI hK) (fun S1 h1 => ?_))
  refine lp0 (fun m (s : am_S) i => b_X9_heardByNights_14 N m 0 (nI p) (nI b) (nI n) i s) (fun i s => KC s t c r ∧ RC s 42 (72 + cnp c) (ngt c d r b i) ∧ Fm (qC t) S s) _ n ?_ ?_ N S1 (by omega) ⟨h1.1, h1.2.1, h1.2.2⟩
  · intro m s hs
    show Rn (b_X9_heardByNights_14 N (m + 1) 0 (nI p) (nI b) (nI n) (nI n) s) _
    unfold b_X9_heardByNights_14
    rw [leT (Nat.le_refl _) (by omega), r0_8, r_heard hI Sk42 hs.2.1 hp, bd_some]
    exact Rn_ret ⟨rfl, hs.1, hs.2.2⟩
  · intro m i s hi hs ih
    obtain ⟨g1, g2, g3⟩ := hs
    show Rn (b_X9_heardByNights_14 N (m + 1) 0 (nI p) (nI b) (nI n) (nI i) s) _
    unfold b_X9_heardByNights_14 b_X9_heardByNights_36
    obtain ⟨i1, i2⟩ := ngt_in (b := b) hI hRI hd0 i (by omega)
    have key : ∀ w, wetE b i = w → Rn (if isC 1 (rg s 0) = true then (if isC 1 (rg s 0) = true then (bd (f_X7_dayNow N (rf 0 8) s) (fun r3 S4 => (bd (f_X1_boxOn N (rg s 0) r3 S4) (fun r6 S7 => (bd (f_X1_passDayWith N (rg s 0) (rf 0 8) w r6 S7) (fun r9 S10 => b_X9_heardByNights_14 N m 0 (nI p) (nI b) (nI n) (nI i + 1) S10)))))) else none) else none) (fun q => q.1 = ngt c d r b n (64 + p) ∧ KC q.2 t c r ∧ Fm (qC t) S q.2) := by
      intro w hw
      rw [g_isC g1.1, g_isC g1.1, g1.1.1, r0_8, c_dayNow Sk42.1 (by omega) g2, bd_some, i2, c_boxOn g1.1.2.1 g1.2.1 (by omega), bd_some, nI1]
      refine Rn_bd (Rn_mono (c_passDayWith hN g1.1.2.1 Sk42 hI (Vi_cro hI) g1.2.1 g2 i1) (fun q h => ?_))
      refine ih q.2 ⟨KC_q g1 (q_dW h.2.2), ?_, Fm_tr g3 (q_dW h.2.2)⟩
      show RC q.2 42 _ (day_ c (wetE b i) (cro c (d + i)) (ngt c d r b i))
      rw [hw]
      exact h.2.1
    rw [leF (by omega) (by omega)]
    by_cases z : (nI b >>> (nI i &&& (31 : Int32))) &&& 1 = 1
    · rw [if_pos z]
      exact key 9 (if_pos (decide_eq_true z))
    · rw [if_neg z]
      exact key 0 (if_neg (by unfold bitE; rw [decide_eq_false z]; decide))
theorem p32 : ∀ n, n ≤ 5 → 2 ^ n ≤ 32 := by decide
theorem c_wetN {n p d : Nat} {much tn : Int32} (ht : Bd tn 10) (hN : 10000 ≤ N) (hI : CI c) (hRI : RI c r) (hd0 : r 0 = nI d) (hd : d ≤ 999) (hn : n ≤ 5) (hp : p < cnp c) (hK : KC S t c r) : Rn (b_X9_wetNights_33 N N 0 (nI p) much (nI n) tn 0 0 S) (fun q => q.1 = .inl (sI (nigT c d r p much n tn) (2 ^ n)) ∧ Fm (qC t) S q.2) := by
  have h32 := p32 n hn
  have e2 : ((1 : Int32) <<< (nI n &&& (31 : Int32))) = nI (2 ^ n) := bt1_n n (by omega)
  refine lp0 (fun m (s : Int32 × am_S) i => b_X9_wetNights_33 N m 0 (nI p) much (nI n) tn s.1 i s.2) (fun i s => s.1 = sI (nigT c d r p much n tn) i ∧ KC s.2 t c r ∧ Fm (qC t) S s.2) _ (2 ^ n) ?_ ?_ N (0, S) (by omega) ⟨rfl, hK, Fm_rf _ _⟩
  · intro m s hs
    show Rn (b_X9_wetNights_33 N (m + 1) 0 (nI p) much (nI n) tn s.1 (nI (2 ^ n)) s.2) _
    unfold b_X9_wetNights_33
    rw [e2, leT (Nat.le_refl _) (by omega), hs.1]
    exact Rn_ret ⟨rfl, hs.2.2⟩
  · intro m i s hi hs ih
    obtain ⟨g1, g2, g3⟩ := hs
    show Rn (b_X9_wetNights_33 N (m + 1) 0 (nI p) much (nI n) tn s.1 (nI i) s.2) _
    unfold b_X9_wetNights_33 b_X9_wetNights_75
    have e3 : sI (nigT c d r p much n tn) (i + 1) = s.1 + nigT c d r p much n tn i := by rw [g1]; rfl
    rw [e2, leF (by omega) (by omega), c_weight hN hn, bd_some, nI1]
    by_cases z : wgt i tn n ≤ 0
    · rw [if_pos z]
      have w0 : wgt i tn n = 0 := (le0_of (wgt_b (b := i) ht n hn).1).mp z
      refine ih s ⟨?_, g2, g3⟩
      rw [e3]
      unfold nigT
      rw [w0]
      split <;> rw [Int32.add_zero]
    · rw [if_neg z]
      refine Rn_bd (Rn_mono (c_nights hN hI hRI hd0 hd hn hp g2) (fun q h => ?_))
      rw [h.1]
      by_cases y : ngt c d r i n (64 + p) < much
      · rw [if_pos y]
        refine ih (s.1, q.2) ⟨?_, h.2.1, Fm_tr g3 h.2.2⟩
        rw [e3]
        unfold nigT
        rw [if_pos y, Int32.add_zero]
      · rw [if_neg y]
        refine ih (s.1 + wgt i tn n, q.2) ⟨?_, h.2.1, Fm_tr g3 h.2.2⟩
        rw [e3]
        unfold nigT
        rw [if_neg y]
/-- the reference, with a wet of its own -/
def mX : Nat → Nat → Prop := fun k j => mW 80 k j ∨ (k = 78 ∧ (j = 51 ∨ j = 60))
theorem CM_x {S S' : am_S} (h : CM S c) (hf : Fm mX S S') : CM S' c := CM_same h (fun a i ha => hf.1 a i (by unfold mC at ha; unfold mX mW; omega))
theorem KM_x {S S' : am_S} (hK : KM S c r) (hp : cnp c ≤ 8) (hf : Fm mX S S') : CM S' c ∧ sg S' 78 52 = 0 ∧ RM S' 0 (72 + cnp c) r := ⟨CM_x hK.1 hf, (hf.1 _ _ (by unfold mX mW; omega)).trans hK.2.1.2, RM_same hK.2.2 (fun j hj => hf.1 _ _ (by unfold mX mW; omega))⟩
theorem x_mW {S S' : am_S} (hf : Fm (mW 80) S S') : Fm mX S S' := Fm_wk hf (fun k j h => Or.inl h)
theorem x_end {S S' : am_S} (hO : sg S 78 51 = -1) (hf : Fm mX S S') : Fm qM S (sp S' 78 51 (-1)) := by
  refine ⟨fun k j hk => ?_, hf.2⟩
  by_cases z : k = 78 ∧ j = 51
  · obtain ⟨rfl, rfl⟩ := z
    rw [sgp, hO]
  · by_cases y : k = 78
    · subst y
      rw [sgj (by omega)]
      exact hf.1 _ _ (by unfold mX mW; unfold qM at hk; omega)
    · rw [sgn y]
      exact hf.1 _ _ (by unfold mX mW; unfold qM at hk; omega)
theorem m_xday {d : Nat} {w : Int32} {f : Rw} (hN : 10000 ≤ N) (hI : CI c) (hC : CM S c) (h52 : sg S 78 52 = 0) (h51 : sg S 78 51 = w) (hw : ¬ w = -1) (hR : RM S 80 (72 + cnp c) f) (hRI : RI c f) (hd : f 0 = nI d) (hd2 : d < 4999) : Rn (f_X10_dayGoes N 78 80 S) (fun S' => RM S' 80 (72 + cnp c) (day_ c w (cro c d) f) ∧ Fm (mW 80) S S') := by
  rw [l80]
  refine Rn_mono (m_day hN (by omega) hI hC hR hRI (Vi_cro hI) hd (fun S' hf _ => m_wetOther ((hf.1 _ _ (by unfold mW; omega)).trans h51) hw) (fun S' hf => m_comesOn hI (CM_m hC hf) ((hf.1 _ _ (by unfold mW; omega)).trans h52) (by omega))) (fun S' h => ⟨h.1, h.2.1⟩)
theorem m_wetN {n p d : Nat} {much tn : Int32} (hN : 10000 ≤ N) (hI : CI c) (hRI : RI c r) (hd0 : r 0 = nI d) (hd : d ≤ 999) (hn : n ≤ 5) (hp : p < cnp c) (hK : KM S c r) : Rn (b_X10_wetNights_65 N N 78 (nI p) much (nI n) tn 0 0 S) (fun q => q.1 = sI (nigT c d r p much n tn) (2 ^ n) ∧ Fm qM S q.2 ∧ sg q.2 78 0 = sg S 78 0) := by
  have hnp := hI.1.2
  have h32 := p32 n hn
  have e2 : ((1 : Int32) <<< (nI n &&& (31 : Int32))) = nI (2 ^ n) := bt1_n n (by omega)
  refine lp0 (fun m (s : Int32 × am_S) i => b_X10_wetNights_65 N m 78 (nI p) much (nI n) tn s.1 i s.2) (fun i s => s.1 = sI (nigT c d r p much n tn) i ∧ Fm mX S s.2) _ (2 ^ n) ?_ ?_ N (0, S) (by omega) ⟨rfl, Fm_rf _ _⟩
  · intro m s hs
    show Rn (b_X10_wetNights_65 N (m + 1) 78 (nI p) much (nI n) tn s.1 (nI (2 ^ n)) s.2) _
    unfold b_X10_wetNights_65
    rw [e2, leT (Nat.le_refl _) (by omega), hs.1]
    exact Rn_ret ⟨rfl, x_end hK.2.1.1 hs.2, by
      rw [sgj (by omega)]
      exact hs.2.1 _ _ (by unfold mX mW; omega)⟩
  · intro m i s hi hs ih
    obtain ⟨g1, g2⟩ := hs
    have e3 : sI (nigT c d r p much n tn) (i + 1) = s.1 + nigT c d r p much n tn i := by rw [g1]; rfl
    obtain ⟨k1, k2, k3⟩ := KM_x hK hnp g2
    show Rn (b_X10_wetNights_65 N (m + 1) 78 (nI p) much (nI n) tn s.1 (nI i) s.2) _
    rw [b_X10_wetNights_65, e2, leF (by omega) (by omega)]
    refine Rn_bv (Rn_mono (m_tries hN (by omega) k3) (fun S1 h1 => ?_))
    refine lp0 (fun m2 (s2 : Int32 × am_S) j => b_X10_wetNights_83 N (b_X10_wetNights_65 N m) m2 78 (nI p) much (nI n) tn s.1 (nI i) s2.1 j s2.2) (fun j s2 => s2.1 = wgt i tn j ∧ RM s2.2 80 (72 + cnp c) (ngt c d r i j) ∧ Fm mX S s2.2) _ n ?_ ?_ N (1, S1) (by omega) ⟨rfl, h1.1, Fm_tr g2 (x_mW (Fm_wk h1.2 mR_W))⟩
    · intro m2 s2 hs2
      obtain ⟨f1, f2, f3⟩ := hs2
      show Rn (b_X10_wetNights_83 N (b_X10_wetNights_65 N m) (m2 + 1) 78 (nI p) much (nI n) tn s.1 (nI i) s2.1 (nI n) s2.2) _
      unfold b_X10_wetNights_83 b_X10_wetNights_176
      have e1 : sg s2.2 96 (144 + p) = ngt c d r i n (64 + p) := by rw [← f2 (64 + p) (by omega), ← Nat.add_assoc]
      rw [leT (Nat.le_refl _) (by omega), show (144 : Int32) = nI 144 from rfl, nIa, r78_46, n96, inbT (by omega) (by decide), nIc (by omega), e1, nI1, f1]
      by_cases y : ngt c d r i n (64 + p) < much
      · rw [if_pos y]
        refine ih (s.1 + 0, s2.2) ⟨?_, f3⟩
        rw [e3]
        unfold nigT
        rw [if_pos y]
      · rw [if_neg y]
        refine ih (s.1 + wgt i tn n, s2.2) ⟨?_, f3⟩
        rw [e3]
        unfold nigT
        rw [if_neg y]
    · intro m2 j s2 hj hs2 ih2
      obtain ⟨f1, f2, f3⟩ := hs2
      obtain ⟨i1, i2⟩ := ngt_in (b := i) hI hRI hd0 j (by omega)
      show Rn (b_X10_wetNights_83 N (b_X10_wetNights_65 N m) (m2 + 1) 78 (nI p) much (nI n) tn s.1 (nI i) s2.1 (nI j) s2.2) _
      unfold b_X10_wetNights_83 b_X10_wetNights_105 b_X10_wetNights_124 b_X10_wetNights_139
      rw [leF (by omega) (by omega), nI1]
      have key : ∀ (w v : Int32), ¬ w = -1 → wetE i j = w → wgt i tn (j + 1) = v → Rn (bv (f_X10_dayGoes N 78 80 (sp s2.2 78 51 w)) (fun S2 => b_X10_wetNights_83 N (b_X10_wetNights_65 N m) m2 78 (nI p) much (nI n) tn s.1 (nI i) v (nI (j + 1)) S2)) (fun q => q.1 = sI (nigT c d r p much n tn) (2 ^ n) ∧ Fm qM S q.2 ∧ sg q.2 78 0 = sg S 78 0) := by
        intro w v hw1 hw2 hv
        have hf : Fm mX S (sp s2.2 78 51 w) := Fm_sp f3 (Or.inr ⟨rfl, Or.inl rfl⟩)
        obtain ⟨x1, x2, -⟩ := KM_x hK hnp hf
        refine Rn_bv (Rn_mono (m_xday hN hI x1 x2 (sgp _ _ _ _) hw1 (RM_o f2 (by omega)) i1 i2 (by omega)) (fun S2 h => ?_))
        refine ih2 (v, S2) ⟨hv.symm, ?_, Fm_tr hf (x_mW h.2)⟩
        show RM S2 80 _ (day_ c (wetE i j) (cro c (d + j)) (ngt c d r i j))
        rw [hw2]
        exact h.1
      have e9 : wgt i tn (j + 1) = s2.1 * (if bitE i j = true then tn else 10 - tn) := by rw [f1]; rfl
      by_cases z : (nI i >>> (nI j &&& (31 : Int32))) &&& 1 = 1
      · have zb : bitE i j = true := decide_eq_true z
        rw [if_pos z, if_neg (by decide), if_neg (by decide)]
        exact key 9 _ (by decide) (if_pos zb) (by rw [e9, if_pos zb])
      · have zb : ¬ bitE i j = true := by unfold bitE; rw [decide_eq_false z]; decide
        rw [if_neg z, if_pos rfl, if_pos rfl]
        exact key 0 _ (by decide) (if_neg zb) (by rw [e9, if_neg zb])
end
