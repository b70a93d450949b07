/-! first, full, pale, most, quiet, best at -/
def srch (hit : Nat → Bool) : Nat → Nat → Int32
  | 0, _ => -1
  | d + 1, i => if hit i = true then nI i else srch hit d (i + 1)
theorem srch_s {hit : Nat → Bool} {m i : Nat} (hi : i < m) : srch hit (m - i) i = if hit i = true then nI i else srch hit (m - (i + 1)) (i + 1) := by
  have e : m - i = (m - (i + 1)) + 1 := by omega
  rw [e]
  rfl
section
variable {N t : Nat} {c : Cy} {r : Rw} {S : am_S}
def hitFirst (c : Cy) (d : Nat) (r : Rw) (p i : Nat) : Bool := decide (r (64 + p) < dys c d r i (64 + p))
theorem c_first {p d : Nat} (hN : 10000 ≤ N) (hI : CI c) (hRI : RI c r) (hd0 : r 0 = nI d) (hd : d ≤ 999) (hp : p < cnp c) (hK : KC S t c r) (hF : RC S 42 (72 + cnp c) r) : Rn (b_X9_first_18 N N 0 (nI p) 1 S) (fun q => q.1 = .inl (srch (hitFirst c d r p) 40 1) ∧ Fm (qC t) S q.2) := by
  refine lp_rn (fun n (s : am_S) i => b_X9_first_18 N n 0 (nI p) i s) (fun i s => 1 ≤ i ∧ KC s t c r ∧ RC s 42 (72 + cnp c) (dys c d r (i - 1)) ∧ Fm (qC t) S s ∧ srch (hitFirst c d r p) 40 1 = srch (hitFirst c d r p) (41 - i) i) _ 41 ?_ ?_ 40 N 1 S (by omega) (by omega) ⟨by omega, hK, hF, Fm_rf _ _, rfl⟩
  · intro n s hs
    show Rn (b_X9_first_18 N (n + 1) 0 (nI p) (nI 41) s) _
    unfold b_X9_first_18
    rw [l40, ltT (by omega) (by omega)]
    refine Rn_ret ⟨?_, hs.2.2.2.1⟩
    rw [hs.2.2.2.2]
    rfl
  · intro n i s hi hs ih
    obtain ⟨h0, h1, h2, h3, h4⟩ := hs
    show Rn (b_X9_first_18 N (n + 1) 0 (nI p) (nI i) s) _
    unfold b_X9_first_18
    obtain ⟨i1, i2, -, -⟩ := dys_in hI hRI hd0 (i - 1) (by omega)
    rw [l40, ltF (by omega) (by omega), g_isC h1.1, h1.1.1, r0_8, r0_7, nI1]
    refine Rn_bd (Rn_mono (c_fday hN hI h1 h2 i1 i2 (by omega)) (fun q h => ?_))
    have e : dayO c (d + (i - 1)) (dys c d r (i - 1)) = dys c d r i := by
      obtain ⟨j, rfl⟩ : ∃ j, i = j + 1 := ⟨i - 1, by omega⟩
      rfl
    rw [e] at h
    rw [r_heard hI Sk42 h.2.2.1 hp, bd_some, r_heard hI Sk40 h.2.1.2.2 hp, bd_some]
    rw [srch_s (by omega)] at h4
    by_cases z : dys c d r i (64 + p) ≤ r (64 + p)
    · rw [if_pos z]
      rw [if_neg (by unfold hitFirst; rw [decide_eq_false (nlt_of_le z)]; decide)] at h4
      exact ih q.2 ⟨by omega, h.2.1, h.2.2.1, Fm_tr h3 h.2.2.2, h4⟩
    · rw [if_neg z]
      rw [if_pos (by unfold hitFirst; exact decide_eq_true (by rw [Int32.le_iff_toInt_le] at z; rw [Int32.lt_iff_toInt_lt]; omega))] at h4
      exact Rn_ret ⟨by rw [h4], Fm_tr h3 h.2.2.2⟩
theorem m_first {p d : Nat} (hN : 10000 ≤ N) (hI : CI c) (hRI : RI c r) (hd0 : r 0 = nI d) (hd : d ≤ 999) (hp : p < cnp c) (hK : KM S c r) (hF : RM S 80 (72 + cnp c) r) : Rn (b_X10_first_21 N N 78 (nI p) 1 S) (fun q => q.1 = srch (hitFirst c d r p) 40 1 ∧ Fm (mW 80) S q.2) := by
  have hnp := hI.1.2
  refine lp_rn (fun n (s : am_S) i => b_X10_first_21 N n 78 (nI p) i s) (fun i s => 1 ≤ i ∧ RM s 80 (72 + cnp c) (dys c d r (i - 1)) ∧ Fm (mW 80) S s ∧ srch (hitFirst c d r p) 40 1 = srch (hitFirst c d r p) (41 - i) i) _ 41 ?_ ?_ 40 N 1 S (by omega) (by omega) ⟨by omega, hF, Fm_rf _ _, rfl⟩
  · intro n s hs
    show Rn (b_X10_first_21 N (n + 1) 78 (nI p) (nI 41) s) _
    unfold b_X10_first_21
    rw [l40, ltT (by omega) (by omega)]
    refine Rn_ret ⟨?_, hs.2.2.1⟩
    rw [hs.2.2.2]
    rfl
  · intro n i s hi hs ih
    obtain ⟨h0, h2, h3, h4⟩ := hs
    show Rn (b_X10_first_21 N (n + 1) 78 (nI p) (nI i) s) _
    unfold b_X10_first_21
    obtain ⟨i1, i2, -, -⟩ := dys_in hI hRI hd0 (i - 1) (by omega)
    rw [l40, ltF (by omega) (by omega), nI1, l80]
    refine Rn_bv (Rn_mono (m_dayO hN (by omega) hI (CM_m hK.1 h3) (MO_m hK.2.1 h3) h2 i1 i2 (by omega)) (fun S1 h => ?_))
    have e : dayO c (d + (i - 1)) (dys c d r (i - 1)) = dys c d r i := by
      obtain ⟨j, rfl⟩ : ∃ j, i = j + 1 := ⟨i - 1, by omega⟩
      rfl
    rw [e] at h
    have hf := Fm_tr h3 h.2.1
    have e1 : sg S1 96 (144 + p) = dys c d r i (64 + p) := by rw [← h.1 (64 + p) (by omega), ← Nat.add_assoc]
    have e2 : sg S1 96 (64 + p) = r (64 + p) := by rw [hf.1 _ _ (by unfold mW; omega), ← hK.2.2 (64 + p) (by omega), Nat.zero_add]
    rw [show (144 : Int32) = nI 144 from rfl, l64, nIa, nIa, r78_46, n96, inbT (by omega) (by decide), inbT (by omega) (by decide), nIc (by omega), nIc (by omega), e1, e2]
    rw [srch_s (by omega)] at h4
    by_cases z : dys c d r i (64 + p) ≤ r (64 + p)
    · rw [if_pos z]
      rw [if_neg (by unfold hitFirst; rw [decide_eq_false (nlt_of_le z)]; decide)] at h4
      exact ih S1 ⟨by omega, h.1, hf, h4⟩
    · rw [if_neg z]
      rw [if_pos (by unfold hitFirst; exact decide_eq_true (by rw [Int32.le_iff_toInt_le] at z; rw [Int32.lt_iff_toInt_lt]; omega))] at h4
      exact Rn_ret ⟨by rw [h4], hf⟩

def hitFull (c : Cy) (d : Nat) (r : Rw) (x : Nat) (v : Int32) (i : Nat) : Bool := !(decide (hIn (dys c d r i) x < v))
theorem c_full {x d : Nat} {v : Int32} (hN : 10000 ≤ N) (hI : CI c) (hRI : RI c r) (hd0 : r 0 = nI d) (hd : d ≤ 999) (hx : x < cnb c) (hK : KC S t c r) (hF : RC S 42 (72 + cnp c) r) : Rn (b_X9_full_26 N N 0 (nI x) v 0 S) (fun q => q.1 = .inl (srch (hitFull c d r x v) 41 0) ∧ Fm (qC t) S q.2) := by
  have hnb := hI.1.1
  refine lp0 (fun n (s : am_S) i => b_X9_full_26 N n 0 (nI x) v i s) (fun i s => KC s t c r ∧ RC s 42 (72 + cnp c) (dys c d r i) ∧ Fm (qC t) S s ∧ srch (hitFull c d r x v) 41 0 = srch (hitFull c d r x v) (41 - i) i) _ 41 ?_ ?_ N S (by omega) ⟨hK, hF, Fm_rf _ _, rfl⟩
  · intro n s hs
    show Rn (b_X9_full_26 N (n + 1) 0 (nI x) v (nI 41) s) _
    unfold b_X9_full_26
    rw [l40, ltT (by omega) (by omega)]
    refine Rn_ret ⟨?_, hs.2.2.1⟩
    rw [hs.2.2.2]
    rfl
  · intro n i s hi hs ih
    obtain ⟨h1, h2, h3, h4⟩ := hs
    show Rn (b_X9_full_26 N (n + 1) 0 (nI x) v (nI i) s) _
    unfold b_X9_full_26
    obtain ⟨i1, i2, -, -⟩ := dys_in hI hRI hd0 i (by omega)
    rw [l40, ltF (by omega) (by omega), r0_8, r_held hI hN Sk42 h2 hx, bd_some, nI1]
    rw [srch_s (by omega)] at h4
    by_cases z : hIn (dys c d r i) x < v
    · rw [if_pos z, g_isC h1.1, h1.1.1]
      rw [if_neg (by unfold hitFull; simp [z])] at h4
      exact Rn_bd (Rn_mono (c_fday hN hI h1 h2 i1 i2 (by omega)) (fun q h => ih q.2 ⟨h.2.1, h.2.2.1, Fm_tr h3 h.2.2.2, h4⟩))
    · rw [if_neg z]
      rw [if_pos (by unfold hitFull; simp [z])] at h4
      exact Rn_ret ⟨by rw [h4], h3⟩
theorem m_full {x d : Nat} {v : Int32} (hN : 10000 ≤ N) (hI : CI c) (hRI : RI c r) (hd0 : r 0 = nI d) (hd : d ≤ 999) (hx : x < cnb c) (hK : KM S c r) (hF : RM S 80 (72 + cnp c) r) : Rn (b_X10_full_37 N N 78 (nI x) v 0 S) (fun q => q.1 = srch (hitFull c d r x v) 41 0 ∧ Fm (mW 80) S q.2) := by
  have hnb := hI.1.1
  have hnp := hI.1.2
  refine lp0 (fun n (s : am_S) i => b_X10_full_37 N n 78 (nI x) v i s) (fun i s => RM s 80 (72 + cnp c) (dys c d r i) ∧ Fm (mW 80) S s ∧ srch (hitFull c d r x v) 41 0 = srch (hitFull c d r x v) (41 - i) i) _ 41 ?_ ?_ N S (by omega) ⟨hF, Fm_rf _ _, rfl⟩
  · intro n s hs
    show Rn (b_X10_full_37 N (n + 1) 78 (nI x) v (nI 41) s) _
    unfold b_X10_full_37
    rw [l40, ltT (by omega) (by omega)]
    refine Rn_ret ⟨?_, hs.2.1⟩
    rw [hs.2.2]
    rfl
  · intro n i s hi hs ih
    obtain ⟨h2, h3, h4⟩ := hs
    show Rn (b_X10_full_37 N (n + 1) 78 (nI x) v (nI i) s) _
    unfold b_X10_full_37
    obtain ⟨i1, i2, -, -⟩ := dys_in hI hRI hd0 i (by omega)
    have e1 : sg s 96 (82 + x) = dys c d r i (2 + x) := by rw [← h2 (2 + x) (by omega), ← Nat.add_assoc]
    rw [l40, ltF (by omega) (by omega), l80, m_heldIn hN (by omega) hI (CM_m hK.1 h3).1.2 h2 i1 (by omega), bd_some, nI1]
    rw [srch_s (by omega)] at h4
    by_cases z : hIn (dys c d r i) x < v
    · rw [if_pos z]
      rw [if_neg (by unfold hitFull; simp [z])] at h4
      exact Rn_bv (Rn_mono (m_dayO hN (by omega) hI (CM_m hK.1 h3) (MO_m hK.2.1 h3) h2 i1 i2 (by omega)) (fun S1 h => ih S1 ⟨h.1, Fm_tr h3 h.2.1, h4⟩))
    · rw [if_neg z]
      rw [if_pos (by unfold hitFull; simp [z])] at h4
      exact Rn_ret ⟨by rw [h4], h3⟩

def hitPale (c : Cy) (d : Nat) (r : Rw) (x : Nat) (v : Int32) (i : Nat) : Bool := !(decide (v < dys c d r i (2 + x)))
theorem c_pale {x d : Nat} {v : Int32} (hN : 10000 ≤ N) (hI : CI c) (hRI : RI c r) (hd0 : r 0 = nI d) (hd : d ≤ 999) (hx : x < cnb c) (hK : KC S t c r) (hF : RC S 42 (72 + cnp c) r) : Rn (b_X9_pale_25 N N 0 (nI x) v 0 S) (fun q => q.1 = .inl (srch (hitPale c d r x v) 41 0) ∧ Fm (qC t) S q.2) := by
  have hnb := hI.1.1
  refine lp0 (fun n (s : am_S) i => b_X9_pale_25 N n 0 (nI x) v i s) (fun i s => KC s t c r ∧ RC s 42 (72 + cnp c) (dys c d r i) ∧ Fm (qC t) S s ∧ srch (hitPale c d r x v) 41 0 = srch (hitPale c d r x v) (41 - i) i) _ 41 ?_ ?_ N S (by omega) ⟨hK, hF, Fm_rf _ _, rfl⟩
  · intro n s hs
    show Rn (b_X9_pale_25 N (n + 1) 0 (nI x) v (nI 41) s) _
    unfold b_X9_pale_25
    rw [l40, ltT (by omega) (by omega)]
    refine Rn_ret ⟨?_, hs.2.2.1⟩
    rw [hs.2.2.2]
    rfl
  · intro n i s hi hs ih
    obtain ⟨h1, h2, h3, h4⟩ := hs
    show Rn (b_X9_pale_25 N (n + 1) 0 (nI x) v (nI i) s) _
    unfold b_X9_pale_25
    obtain ⟨i1, i2, -, -⟩ := dys_in hI hRI hd0 i (by omega)
    rw [l40, ltF (by omega) (by omega), r0_8, c_redOf Sk42.1 (by omega) (by omega) h2, bd_some, nI1]
    rw [srch_s (by omega)] at h4
    by_cases z : v < dys c d r i (2 + x)
    · rw [if_pos z, g_isC h1.1, h1.1.1]
      rw [if_neg (by unfold hitPale; simp [z])] at h4
      exact Rn_bd (Rn_mono (c_fday hN hI h1 h2 i1 i2 (by omega)) (fun q h => ih q.2 ⟨h.2.1, h.2.2.1, Fm_tr h3 h.2.2.2, h4⟩))
    · rw [if_neg z]
      rw [if_pos (by unfold hitPale; simp [z])] at h4
      exact Rn_ret ⟨by rw [h4], h3⟩
theorem m_pale {x d : Nat} {v : Int32} (hN : 10000 ≤ N) (hI : CI c) (hRI : RI c r) (hd0 : r 0 = nI d) (hd : d ≤ 999) (hx : x < cnb c) (hK : KM S c r) (hF : RM S 80 (72 + cnp c) r) : Rn (b_X10_pale_36 N N 78 (nI x) v 0 S) (fun q => q.1 = srch (hitPale c d r x v) 41 0 ∧ Fm (mW 80) S q.2) := by
  have hnb := hI.1.1
  have hnp := hI.1.2
  refine lp0 (fun n (s : am_S) i => b_X10_pale_36 N n 78 (nI x) v i s) (fun i s => RM s 80 (72 + cnp c) (dys c d r i) ∧ Fm (mW 80) S s ∧ srch (hitPale c d r x v) 41 0 = srch (hitPale c d r x v) (41 - i) i) _ 41 ?_ ?_ N S (by omega) ⟨hF, Fm_rf _ _, rfl⟩
  · intro n s hs
    show Rn (b_X10_pale_36 N (n + 1) 78 (nI x) v (nI 41) s) _
    unfold b_X10_pale_36
    rw [l40, ltT (by omega) (by omega)]
    refine Rn_ret ⟨?_, hs.2.1⟩
    rw [hs.2.2]
    rfl
  · intro n i s hi hs ih
    obtain ⟨h2, h3, h4⟩ := hs
    show Rn (b_X10_pale_36 N (n + 1) 78 (nI x) v (nI i) s) _
    unfold b_X10_pale_36
    obtain ⟨i1, i2, -, -⟩ := dys_in hI hRI hd0 i (by omega)
    have e1 : sg s 96 (82 + x) = dys c d r i (2 + x) := by rw [← h2 (2 + x) (by omega), ← Nat.add_assoc]
    rw [l40, ltF (by omega) (by omega), l80, show (82 : Int32) = nI 82 from rfl, nIa, r78_46, n96, inbT (by omega) (by decide), nIc (by omega), e1, nI1]
    rw [srch_s (by omega)] at h4
    by_cases z : v < dys c d r i (2 + x)
    · rw [if_pos z]
      rw [if_neg (by unfold hitPale; simp [z])] at h4
      exact Rn_bv (Rn_mono (m_dayO hN (by omega) hI (CM_m hK.1 h3) (MO_m hK.2.1 h3) h2 i1 i2 (by omega)) (fun S1 h => ih S1 ⟨h.1, Fm_tr h3 h.2.1, h4⟩))
    · rw [if_neg z]
      rw [if_pos (by unfold hitPale; simp [z])] at h4
      exact Rn_ret ⟨by rw [h4], h3⟩

theorem m_most {n d : Nat} {w : Int32} (hN : 10000 ≤ N) (hI : CI c) (hRI : RI c r) (hd0 : r 0 = nI d) (hd : d ≤ 999) (hn : n ≤ 40) (hK : KM S c r) (hF : RM S 80 (72 + cnp c) r) {Q : Int32 × am_S → Prop} (hQ : ∀ s m, CM s c → RM s 80 (72 + cnp c) (dys c d r n) → Fm (mW 80) S s → Rn (b_X10_most_35 N (m + 1) 78 (nI n) w (ftc c d r n) (nI n) s) Q) : Rn (b_X10_most_35 N N 78 (nI n) w 0 0 S) Q := by
  refine lp0 (fun m (s : Int32 × am_S) i => b_X10_most_35 N m 78 (nI n) w s.1 i s.2) (fun i s => s.1 = ftc c d r i ∧ RM s.2 80 (72 + cnp c) (dys c d r i) ∧ Fm (mW 80) S s.2) _ n ?_ ?_ N (0, S) (by omega) ⟨rfl, hF, Fm_rf _ _⟩
  · intro m s hs
    show Rn (b_X10_most_35 N (m + 1) 78 (nI n) w s.1 (nI n) s.2) _
    rw [hs.1]
    exact hQ s.2 m (CM_m hK.1 hs.2.2) hs.2.1 hs.2.2
  · intro m i s hi hs ih
    obtain ⟨h1, h2, h3⟩ := hs
    show Rn (b_X10_most_35 N (m + 1) 78 (nI n) w s.1 (nI i) s.2) _
    unfold b_X10_most_35
    obtain ⟨i1, i2, -, -⟩ := dys_in hI hRI hd0 i (by omega)
    rw [leF (by omega) (by omega), nI1, l80]
    refine Rn_bv (Rn_mono (m_dayO hN (by omega) hI (CM_m hK.1 h3) (MO_m hK.2.1 h3) h2 i1 i2 (by omega)) (fun S1 h => ?_))
    refine ih (s.1 + sg S1 78 54, S1) ⟨?_, h.1, Fm_tr h3 h.2.1⟩
    show s.1 + sg S1 78 54 = _
    rw [h1, h.2.2]
    rfl
/-- heard never goes down -/
theorem d2a_up {wet : Int32} {x p q : Nat} (hI : CI c) (h : RI c r) (hp : p < cnp c) (hq : q < cnp c) : (r (64 + q)).toInt ≤ (d2a c wet x r p (64 + q)).toInt := by
  have hnp := hI.1.2
  unfold d2a
  rcases h.2.2.2.2.2 p hp with z | ⟨o, ho, z⟩
  · rw [if_pos z]
    omega
  · rw [z, if_neg (nIn (by omega))]
    show _ ≤ (wr r (64 + (nI o).toNatClampNeg) (jmin 9999 (_ + snd_ c wet r x _ (nI o).toNatClampNeg)) (64 + q)).toInt
    rw [nIc (by omega)]
    by_cases e : q = o
    · subst e
      rw [wr_eq]
      obtain ⟨a1, a2⟩ := (h.2.2.2.2.1 q (by omega)).2.1
      obtain ⟨b1, b2⟩ := snd_b (c := c) (wet := wet) (r := r) (x := x) (much := r (8 + 8 * x + p)) (q := q)
      have e1 : (r (64 + q) + snd_ c wet r x (r (8 + 8 * x + p)) q).toInt = (r (64 + q)).toInt + (snd_ c wet r x (r (8 + 8 * x + p)) q).toInt := tA (by omega) (by omega)
      have e9 : (9999 : Int32).toInt = 9999 := rfl
      rw [jmin_t, e1, e9]
      split <;> omega
    · rw [wr_ne (by omega)]
      omega
theorem d2s_up {wet : Int32} {x q : Nat} (hI : CI c) (h : RI c r) (hx : x < cnb c) (hq : q < cnp c) : ∀ n, n ≤ cnp c → (r (64 + q)).toInt ≤ (d2s c wet x r n (64 + q)).toInt := by
  have hnb := hI.1.1
  have hnp := hI.1.2
  intro n
  induction n with
  | zero => intro _; exact Int.le_refl _
  | succ n ih =>
    intro hn
    have h1 := ih (by omega)
    have h2 := RI_d2s (wet := wet) hI h hx n (by omega)
    show _ ≤ (d2 c wet x (d2s c wet x r n) n (64 + q)).toInt
    unfold d2
    split
    · exact h1
    · rw [wr_ne (by omega), wr_ne (by omega)]
      have h3 := d2a_up (wet := wet) (x := x) hI h2 (show n < cnp c by omega) hq
      omega
theorem day_up {wet vis : Int32} {q : Nat} (hI : CI c) (h : RI c r) (hv : Vi c vis) (hq : q < cnp c) : (r (64 + q)).toInt ≤ (day_ c wet vis r (64 + q)).toInt := by
  have hnb := hI.1.1
  have hnp := hI.1.2
  have h1 := RI_d1s hI h (cnp c) (Nat.le_refl _)
  unfold day_
  by_cases hf : fet c vis r = true
  · simp only [if_pos hf]
    rcases hv with hv | ⟨x, hx, hv⟩
    · exfalso
      unfold fet at hf
      rw [hv] at hf
      simp at hf
    · rw [wr_ne (by omega), d3s_low _ hnb (by omega), hv, nIc (by omega)]
      have := d2s_up (wet := wet) hI h1 hx hq (cnp c) (Nat.le_refl _)
      rw [d1s_low (by omega) hI _ (Nat.le_refl _)] at this
      exact this
  · simp only [if_neg hf]
    rw [wr_ne (by omega), d3s_low _ hnb (by omega), d1s_low (by omega) hI _ (Nat.le_refl _)]
    omega
/-- quiet -/
def quiR (c : Cy) (d : Nat) (r : Rw) (p i : Nat) (a : Int32) : Int32 := if dys c d r (i + 1) (64 + p) = dys c d r i (64 + p) then a + 1 else 0
def quiF (c : Cy) (d : Nat) (r : Rw) (p i : Nat) (a : Int32 × Int32) : Int32 × Int32 := (jmax a.1 (quiR c d r p i a.2), quiR c d r p i a.2)
def qui (c : Cy) (d : Nat) (r : Rw) (p n : Nat) : Int32 := (itr (quiF c d r p) n (0, 0)).1
theorem c_quiet {p n d : Nat} (hN : 10000 ≤ N) (hI : CI c) (hRI : RI c r) (hd0 : r 0 = nI d) (hd : d ≤ 999) (hn : n ≤ 40) (hp : p < cnp c) (hK : KC S t c r) (hF : RC S 42 (72 + cnp c) r) : Rn (b_X9_quiet_31 N N 0 (nI p) (nI n) 0 0 0 S) (fun q => q.1 = .inl (qui c d r p n) ∧ Fm (qC t) S q.2) := by
  refine lp0 (fun m (s : (Int32 × Int32) × am_S) i => b_X9_quiet_31 N m 0 (nI p) (nI n) s.1.1 s.1.2 i s.2) (fun i s => s.1 = itr (quiF c d r p) i (0, 0) ∧ KC s.2 t c r ∧ RC s.2 42 (72 + cnp c) (dys c d r i) ∧ Fm (qC t) S s.2) _ n ?_ ?_ N ((0, 0), S) (by omega) ⟨rfl, hK, hF, Fm_rf _ _⟩
  · intro m s hs
    show Rn (b_X9_quiet_31 N (m + 1) 0 (nI p) (nI n) s.1.1 s.1.2 (nI n) s.2) _
    unfold b_X9_quiet_31
    rw [leT (Nat.le_refl _) (by omega), hs.1]
    exact Rn_ret ⟨rfl, hs.2.2.2⟩
  · intro m i s hi hs ih
    obtain ⟨h1, h2, h3, h4⟩ := hs
    show Rn (b_X9_quiet_31 N (m + 1) 0 (nI p) (nI n) s.1.1 s.1.2 (nI i) s.2) _
    unfold b_X9_quiet_31 b_X9_quiet_80
    obtain ⟨i1, i2, -, -⟩ := dys_in hI hRI hd0 i (by omega)
    rw [leF (by omega) (by omega), r0_8, r_heard hI Sk42 h3 hp, bd_some, g_isC h2.1, h2.1.1, nI1]
    refine Rn_bd (Rn_mono (c_fday hN hI h2 h3 i1 i2 (by omega)) (fun q h => ?_))
    rw [r_heard hI Sk42 h.2.2.1 hp, bd_some]
    have e : dayO c (d + i) (dys c d r i) = dys c d r (i + 1) := rfl
    rw [e] at h ⊢
    have key : ∀ z, quiR c d r p i s.1.2 = z → Rn (b_X9_quiet_31 N m 0 (nI p) (nI n) (jmax s.1.1 z) z (nI (i + 1)) q.2) (fun q => q.1 = .inl (qui c d r p n) ∧ Fm (qC t) S q.2) := by
      intro z hz
      refine ih ((jmax s.1.1 z, z), q.2) ⟨?_, h.2.1, h.2.2.1, Fm_tr h4 h.2.2.2⟩
      show (jmax s.1.1 z, z) = quiF c d r p i (itr (quiF c d r p) i (0, 0))
      rw [← h1]
      unfold quiF
      rw [hz]
    by_cases z : dys c d r (i + 1) (64 + p) = dys c d r i (64 + p)
    · rw [if_pos z]
      exact key _ (if_pos z)
    · rw [if_neg z]
      exact key _ (if_neg z)
theorem m_quiet {p n d : Nat} (hN : 10000 ≤ N) (hI : CI c) (hRI : RI c r) (hd0 : r 0 = nI d) (hd : d ≤ 999) (hn : n ≤ 40) (hp : p < cnp c) (hK : KM S c r) (hF : RM S 80 (72 + cnp c) r) : Rn (b_X10_quiet_37 N N 78 (nI p) (nI n) 0 0 0 S) (fun q => q.1 = qui c d r p n ∧ Fm (mW 80) S q.2) := by
  have hnp := hI.1.2
  refine lp0 (fun m (s : (Int32 × Int32) × am_S) i => b_X10_quiet_37 N m 78 (nI p) (nI n) s.1.1 s.1.2 i s.2) (fun i s => s.1 = itr (quiF c d r p) i (0, 0) ∧ RM s.2 80 (72 + cnp c) (dys c d r i) ∧ Fm (mW 80) S s.2) _ n ?_ ?_ N ((0, 0), S) (by omega) ⟨rfl, hF, Fm_rf _ _⟩
  · intro m s hs
    show Rn (b_X10_quiet_37 N (m + 1) 78 (nI p) (nI n) s.1.1 s.1.2 (nI n) s.2) _
    unfold b_X10_quiet_37
    rw [leT (Nat.le_refl _) (by omega), hs.1]
    exact Rn_ret ⟨rfl, hs.2.2⟩
  · intro m i s hi hs ih
    obtain ⟨h1, h3, h4⟩ := hs
    show Rn (b_X10_quiet_37 N (m + 1) 78 (nI p) (nI n) s.1.1 s.1.2 (nI i) s.2) _
    unfold b_X10_quiet_37 b_X10_quiet_84 b_X10_quiet_98
    obtain ⟨i1, i2, -, -⟩ := dys_in hI hRI hd0 i (by omega)
    have e1 : sg s.2 96 (144 + p) = dys c d r i (64 + p) := by rw [← h3 (64 + p) (by omega), ← Nat.add_assoc]
    rw [leF (by omega) (by omega), show (144 : Int32) = nI 144 from rfl, nIa, r78_46, n96, inbT (by omega) (by decide), nIc (by omega), e1, nI1, l80]
    refine Rn_bv (Rn_mono (m_dayO hN (by omega) hI (CM_m hK.1 h4) (MO_m hK.2.1 h4) h3 i1 i2 (by omega)) (fun S1 h => ?_))
    have e : dayO c (d + i) (dys c d r i) = dys c d r (i + 1) := rfl
    rw [e] at h
    have e2 : sg S1 96 (144 + p) = dys c d r (i + 1) (64 + p) := by rw [← h.1 (64 + p) (by omega), ← Nat.add_assoc]
    rw [inbT (by omega) (by decide), e2]
    have up : (dys c d r i (64 + p)).toInt ≤ (dys c d r (i + 1) (64 + p)).toInt := day_up hI i1 (Vi_cro hI) hp
    have key : ∀ z, quiR c d r p i s.1.2 = z → Rn (if z ≤ s.1.1 then b_X10_quiet_37 N m 78 (nI p) (nI n) s.1.1 z (nI (i + 1)) S1 else b_X10_quiet_37 N m 78 (nI p) (nI n) z z (nI (i + 1)) S1) (fun q => q.1 = qui c d r p n ∧ Fm (mW 80) S q.2) := by
      intro z hz
      have g : Rn (b_X10_quiet_37 N m 78 (nI p) (nI n) (jmax s.1.1 z) z (nI (i + 1)) S1) (fun q => q.1 = qui c d r p n ∧ Fm (mW 80) S q.2) := by
        refine ih ((jmax s.1.1 z, z), S1) ⟨?_, h.1, Fm_tr h4 h.2.1⟩
        show (jmax s.1.1 z, z) = quiF c d r p i (itr (quiF c d r p) i (0, 0))
        rw [← h1]
        unfold quiF
        rw [hz]
      unfold jmax at g
      by_cases y : z ≤ s.1.1
      · rw [if_pos y]
        rwa [if_neg (nlt_of_le y)] at g
      · rw [if_neg y]
        rwa [if_pos (by rw [Int32.le_iff_toInt_le] at y; rw [Int32.lt_iff_toInt_lt]; omega)] at g
    by_cases z : dys c d r (i + 1) (64 + p) = dys c d r i (64 + p)
    · rw [if_pos (by rw [z]; exact Int32.le_refl _)]
      exact key _ (if_pos z)
    · rw [if_neg (fun y => z (Int32.toInt_inj.mp (by have := Int32.le_iff_toInt_le.mp y; omega)))]
      exact key _ (if_neg z)
/-- best at -/
def trn (r : Rw) (p : Nat) (v : Int32) : Rw := wr r (72 + p) v
theorem c_turned {p o n d : Nat} (hN : 10000 ≤ N) (hI : CI c) (hRI : RI c r) (hd0 : r 0 = nI d) (hd : d ≤ 999) (hn : n ≤ 40) (hp : p < cnp c) (ho : o < cnp c) (hK : KC S t c r) : Rn (f_X9_lookAheadTurned N 0 (nI p) (nI o) (nI n) S) (fun S' => KC S' t c r ∧ RC S' 42 (72 + cnp c) (dys c d (trn r p (nI o)) n) ∧ Fm (qC t) S S') := by
  have hnp := hI.1.2
  unfold f_X9_lookAheadTurned
  rw [r0_7, r0_8]
  refine Rn_bv (Rn_mono (c_ahead hI hK) (fun S1 h1 => ?_))
  refine Rn_bv (Rn_mono (c_turnTo Sk42.1 (by omega) (by omega) h1.2.1) (fun S2 h2 => ?_))
  have hf2 : Fm (qC t) S1 S2 := Fm_wk (Fm_fr h2.2) (fun k j hk => Or.inl hk)
  have hRI2 : RI c (trn r p (nI o)) := RI_at hRI hI (ixP_n ho)
  have hd2 : trn r p (nI o) 0 = nI d := by
    unfold trn
    rw [wr_ne (by omega)]
    exact hd0
  refine lp0 (fun m (s : am_S) i => b_X9_lookAheadTurned_23 N m 0 (nI n) i s) (fun i s => KC s t c r ∧ RC s 42 (72 + cnp c) (dys c d (trn r p (nI o)) i) ∧ Fm (qC t) S s) _ n ?_ ?_ N S2 (by omega) ⟨KC_q h1.1 hf2, h2.1, Fm_tr h1.2.2 hf2⟩
  · intro m s hs
    show Rn (b_X9_lookAheadTurned_23 N (m + 1) 0 (nI n) (nI n) s) _
    unfold b_X9_lookAheadTurned_23
    rw [leT (Nat.le_refl _) (by omega)]
    exact Rn_ret hs
  · intro m i s hi hs ih
    obtain ⟨g2, g3, g4⟩ := hs
    show Rn (b_X9_lookAheadTurned_23 N (m + 1) 0 (nI n) (nI i) s) _
    unfold b_X9_lookAheadTurned_23
    obtain ⟨i1, i2, -, -⟩ := dys_in hI hRI2 hd2 i (by omega)
    rw [leF (by omega) (by omega), g_isC g2.1, g2.1.1, r0_8, nI1]
    exact Rn_bd (Rn_mono (c_fday hN hI g2 g3 i1 i2 (by omega)) (fun q h => ih q.2 ⟨h.2.1, h.2.2.1, Fm_tr g4 h.2.2.2⟩))
def batG (c : Cy) (d : Nat) (r : Rw) (p n o : Nat) : Int32 := dys c d (trn r p (nI o)) n (64 + o)
def batF (c : Cy) (d : Nat) (r : Rw) (p n i : Nat) (a : Int32 × Int32) : Int32 × Int32 := if i = p then a else if batG c d r p n i ≤ a.2 then a else (nI i, batG c d r p n i)
def bat (c : Cy) (d : Nat) (r : Rw) (p n : Nat) : Int32 := (itr (batF c d r p n) (cnp c) (-1, -1)).1
theorem c_bestAt {p n d : Nat} (hN : 10000 ≤ N) (hI : CI c) (hRI : RI c r) (hd0 : r 0 = nI d) (hd : d ≤ 999) (hn : n ≤ 40) (hp : p < cnp c) (hK : KC S t c r) : Rn (b_X9_bestAt_20 N N 0 (nI p) (nI n) (-1) (-1) 0 S) (fun q => q.1 = .inl (bat c d r p n) ∧ Fm (qC t) S q.2) := by
  have hnp := hI.1.2
  refine lp0 (fun m (s : (Int32 × Int32) × am_S) i => b_X9_bestAt_20 N m 0 (nI p) (nI n) s.1.1 s.1.2 i s.2) (fun i s => s.1 = itr (batF c d r p n) i (-1, -1) ∧ KC s.2 t c r ∧ Fm (qC t) S s.2) _ (cnp c) ?_ ?_ N ((-1, -1), S) (by omega) ⟨rfl, hK, Fm_rf _ _⟩
  · intro m s hs
    show Rn (b_X9_bestAt_20 N (m + 1) 0 (nI p) (nI n) s.1.1 s.1.2 (nI (cnp c)) s.2) _
    unfold b_X9_bestAt_20
    rw [g_isC hs.2.1.1, hs.2.1.1.1, hs.2.1.2.1.1.2, leT (Nat.le_refl _) (by omega), hs.1]
    exact Rn_ret ⟨rfl, hs.2.2⟩
  · intro m i s hi hs ih
    obtain ⟨h1, h2, h3⟩ := hs
    have e : itr (batF c d r p n) (i + 1) (-1, -1) = batF c d r p n i s.1 := by rw [h1]; rfl
    show Rn (b_X9_bestAt_20 N (m + 1) 0 (nI p) (nI n) s.1.1 s.1.2 (nI i) s.2) _
    unfold b_X9_bestAt_20 b_X9_bestAt_74
    rw [g_isC h2.1, h2.1.1, h2.2.1.1.2, leF (by omega) (by omega), nI1]
    by_cases z : i = p
    · subst z
      rw [if_pos rfl]
      refine ih s ⟨?_, h2, h3⟩
      rw [e]
      unfold batF
      rw [if_pos rfl]
    · rw [eqF z (by omega) (by omega)]
      refine Rn_bv (Rn_mono (c_turned hN hI hRI hd0 hd hn hp hi h2) (fun S1 h => ?_))
      rw [r0_8, r_heard hI Sk42 h.2.1 hi, bd_some, r_heard hI Sk42 h.2.1 hi, bd_some]
      by_cases y : batG c d r p n i ≤ s.1.2
      · rw [if_pos (show dys c d (trn r p (nI i)) n (64 + i) ≤ s.1.2 from y)]
        refine ih (s.1, S1) ⟨?_, h.1, Fm_tr h3 h.2.2⟩
        rw [e]
        unfold batF
        rw [if_neg z, if_pos y]
      · rw [if_neg (show ¬ dys c d (trn r p (nI i)) n (64 + i) ≤ s.1.2 from y)]
        refine ih ((nI i, batG c d r p n i), S1) ⟨?_, h.1, Fm_tr h3 h.2.2⟩
        rw [e]
        unfold batF
        rw [if_neg z, if_neg y]
theorem m_bestAt {p n d : Nat} (hN : 10000 ≤ N) (hI : CI c) (hRI : RI c r) (hd0 : r 0 = nI d) (hd : d ≤ 999) (hn : n ≤ 40) (hp : p < cnp c) (hK : KM S c r) : Rn (b_X10_bestAt_33 N N 78 (nI p) (nI n) (-1) (-1) 0 S) (fun q => q.1 = bat c d r p n ∧ Fm (mW 80) S q.2) := by
  have hnp := hI.1.2
  refine lp0 (fun m (s : (Int32 × Int32) × am_S) i => b_X10_bestAt_33 N m 78 (nI p) (nI n) s.1.1 s.1.2 i s.2) (fun i s => s.1 = itr (batF c d r p n) i (-1, -1) ∧ Fm (mW 80) S s.2) _ (cnp c) ?_ ?_ N ((-1, -1), S) (by omega) ⟨rfl, Fm_rf _ _⟩
  · intro m s hs
    show Rn (b_X10_bestAt_33 N (m + 1) 78 (nI p) (nI n) s.1.1 s.1.2 (nI (cnp c)) s.2) _
    unfold b_X10_bestAt_33
    rw [(CM_m hK.1 hs.2).1.2, leT (Nat.le_refl _) (by omega), hs.1]
    exact Rn_ret ⟨rfl, hs.2⟩
  · intro m i s hi hs ih
    obtain ⟨h1, h3⟩ := hs
    have hK2 := KM_q hK hnp (q_mW h3)
    have e : itr (batF c d r p n) (i + 1) (-1, -1) = batF c d r p n i s.1 := by rw [h1]; rfl
    show Rn (b_X10_bestAt_33 N (m + 1) 78 (nI p) (nI n) s.1.1 s.1.2 (nI i) s.2) _
    unfold b_X10_bestAt_33 b_X10_bestAt_107
    rw [hK2.1.1.2, leF (by omega) (by omega), nI1]
    by_cases z : i = p
    · subst z
      rw [if_pos rfl]
      refine ih s ⟨?_, h3⟩
      rw [e]
      unfold batF
      rw [if_pos rfl]
    · rw [eqF z (by omega) (by omega)]
      refine Rn_bv (Rn_mono (m_tries hN (by omega) hK2.2.2) (fun S1 g1 => ?_))
      rw [show (152 : Int32) = nI 152 from rfl, nIa, r78_46, n96, inbT (by omega) (by decide), nIc (by omega)]
      have hf2 : Fm (mW 80) s.2 (sp S1 96 (152 + p) (nI i)) := Fm_sp (Fm_wk g1.2 mR_W) (mW_r (by omega) (by omega))
      have g2 : RM (sp S1 96 (152 + p) (nI i)) 80 (72 + cnp c) (trn r p (nI i)) := by
        rw [show 152 + p = 80 + 72 + p by omega]
        exact RMw_at g1.1
      have hRI2 : RI c (trn r p (nI i)) := RI_at hRI hI (ixP_n hi)
      have hd2 : trn r p (nI i) 0 = nI d := by
        unfold trn
        rw [wr_ne (by omega)]
        exact hd0
      refine Rn_bv (Rn_mono (m_daysGo hN hI (CM_m hK2.1 hf2) (MO_m hK2.2.1 hf2) g2 hRI2 hd2 (by omega)) (fun S2 g3 => ?_))
      have e1 : sg S2 96 (144 + i) = batG c d r p n i := by
        unfold batG
        rw [← g3.1 (64 + i) (by omega), ← Nat.add_assoc]
      have hf3 := Fm_tr h3 (Fm_tr hf2 g3.2)
      rw [show (144 : Int32) = nI 144 from rfl, nIa, inbT (by omega) (by decide), inbT (by omega) (by decide), nIc (by omega), e1]
      by_cases y : batG c d r p n i ≤ s.1.2
      · rw [if_neg (nlt_of_le y)]
        refine ih (s.1, S2) ⟨?_, hf3⟩
        rw [e]
        unfold batF
        rw [if_neg z, if_pos y]
      · rw [if_pos (by rw [Int32.le_iff_toInt_le] at y; rw [Int32.lt_iff_toInt_lt]; omega)]
        refine ih ((nI i, batG c d r p n i), S2) ⟨?_, hf3⟩
        rw [e]
        unfold batF
        rw [if_neg z, if_neg y]
end
section
variable {N t : Nat} {c : Cy} {r : Rw}

theorem j_first {x : Int32} (hN : 10000 ≤ N) (hI : CI c) (hW : WR c r) : Jq t c r (f_X9_first N 0 x) (f_X10_first N 78 x) cd2 := by
  have hnb := hI.1.1
  have hnp := hI.1.2
  obtain ⟨hRI, d, hd, hd0⟩ := hW
  by_cases h1 : vB x (cnp c)
  · obtain ⟨xi, hx, ex⟩ := vB_n h1 (by omega)
    refine ⟨.inl (srch (hitFirst c d r xi) 40 1), fun S hK => ?_, fun S hK => ?_⟩
    · unfold f_X9_first
      rw [(g_person hK.1 hK.2.1).1 h1, bt_inl]
      rw [ex]
      rw [r0_7, r0_8]
      refine Rn_bv (Rn_mono (c_ahead hI hK) (fun S1 h1 => ?_))
      exact Rn_mono (c_first hN hI hRI hd0 hd hx h1.1 h1.2.1) (fun q h => ⟨h.1, Fm_tr h1.2.2 h.2⟩)
    · obtain ⟨k1, k2, k3⟩ := KM_0 hK hnp
      unfold f_X10_first
      rw [(h_person k2 k1.1.1.2).1 h1, bd_some, if_neg (by decide)]
      rw [ex]
      refine Rn_bv (Rn_mono (m_tries hN (by omega) k1.2.2) (fun S1 h1 => ?_))
      have hK1 := KM_q k1 hnp (q_mR h1.2)
      exact Rn_mono (m_first hN hI hRI hd0 hd hx hK1 h1.1) (fun q h => ⟨⟨h.1, thr_m (thr_r k2 h1.2) h.2⟩, Fm_tr k3 (Fm_tr (q_mR h1.2) (q_mW h.2))⟩)
  · refine ⟨.inr 0, fun S hK => ?_, fun S hK => ?_⟩
    · unfold f_X9_first
      rw [(g_person hK.1 hK.2.1).2 h1, bt_inr]
      exact Rn_ret ⟨rfl, Fm_rf _ _⟩
    · obtain ⟨k1, k2, k3⟩ := KM_0 hK hnp
      unfold f_X10_first
      rw [(h_person k2 k1.1.1.2).2 h1, bd_some, if_pos rfl]
      exact Rn_ret ⟨sgp _ _ _ _, q_thr k3⟩

theorem j_full {x n : Int32} (hN : 10000 ≤ N) (hI : CI c) (hW : WR c r) : Jq t c r (f_X9_full N 0 x n) (f_X10_full N 78 x n) cd2 := by
  have hnb := hI.1.1
  have hnp := hI.1.2
  obtain ⟨hRI, d, hd, hd0⟩ := hW
  by_cases h1 : vB x (cnb c)
  · by_cases h2 : vR n 1 792
    · obtain ⟨xi, hx, ex⟩ := vB_n h1 (by omega)
      obtain ⟨ni, hn0, hn, en⟩ := vR_n h2 (by omega) (by omega)
      refine ⟨.inl (srch (hitFull c d r xi n) 41 0), fun S hK => ?_, fun S hK => ?_⟩
      · unfold f_X9_full
        rw [(g_box hK.1 hK.2.1).1 h1, bt_inl, g_r_1_792.1 h2, bt_inl]
        rw [ex]
        rw [r0_7, r0_8]
        refine Rn_bv (Rn_mono (c_ahead hI hK) (fun S1 h1 => ?_))
        exact Rn_mono (c_full hN hI hRI hd0 hd hx h1.1 h1.2.1) (fun q h => ⟨h.1, Fm_tr h1.2.2 h.2⟩)
      · obtain ⟨k1, k2, k3⟩ := KM_0 hK hnp
        unfold f_X10_full b_X10_full_29
        rw [(h_box k2 k1.1.1.1).1 h1, bd_some, if_neg (by decide), h_in_1_792.1 h2, bd_some, h_right k2, bd_some, if_neg (by decide)]
        rw [ex]
        refine Rn_bv (Rn_mono (m_tries hN (by omega) k1.2.2) (fun S1 h1 => ?_))
        have hK1 := KM_q k1 hnp (q_mR h1.2)
        exact Rn_mono (m_full hN hI hRI hd0 hd hx hK1 h1.1) (fun q h => ⟨⟨h.1, thr_m (thr_r k2 h1.2) h.2⟩, Fm_tr k3 (Fm_tr (q_mR h1.2) (q_mW h.2))⟩)
    · refine ⟨.inr 1, fun S hK => ?_, fun S hK => ?_⟩
      · unfold f_X9_full
        rw [(g_box hK.1 hK.2.1).1 h1, bt_inl, g_r_1_792.2 h2, bt_inr]
        exact Rn_ret ⟨rfl, Fm_rf _ _⟩
      · obtain ⟨k1, k2, k3⟩ := KM_0 hK hnp
        unfold f_X10_full b_X10_full_29
        rw [(h_box k2 k1.1.1.1).1 h1, bd_some, if_neg (by decide), h_in_1_792.2 h2, bd_some, h_wrong k2 (by decide), bd_some, if_pos rfl]
        exact Rn_ret ⟨sgp _ _ _ _, q_thr k3⟩
  · refine ⟨.inr 0, fun S hK => ?_, fun S hK => ?_⟩
    · unfold f_X9_full
      rw [(g_box hK.1 hK.2.1).2 h1, bt_inr]
      exact Rn_ret ⟨rfl, Fm_rf _ _⟩
    · obtain ⟨k1, k2, k3⟩ := KM_0 hK hnp
      unfold f_X10_full b_X10_full_29
      rw [(h_box k2 k1.1.1.1).2 h1, bd_some, if_pos rfl]
      exact Rn_ret ⟨sgp _ _ _ _, q_thr k3⟩

theorem j_pale {x n : Int32} (hN : 10000 ≤ N) (hI : CI c) (hW : WR c r) : Jq t c r (f_X9_pale N 0 x n) (f_X10_pale N 78 x n) cd2 := by
  have hnb := hI.1.1
  have hnp := hI.1.2
  obtain ⟨hRI, d, hd, hd0⟩ := hW
  by_cases h1 : vB x (cnb c)
  · by_cases h2 : vR n 0 99
    · obtain ⟨xi, hx, ex⟩ := vB_n h1 (by omega)
      obtain ⟨ni, hn0, hn, en⟩ := vR_n h2 (by omega) (by omega)
      refine ⟨.inl (srch (hitPale c d r xi n) 41 0), fun S hK => ?_, fun S hK => ?_⟩
      · unfold f_X9_pale
        rw [(g_box hK.1 hK.2.1).1 h1, bt_inl, g_r_0_99.1 h2, bt_inl]
        rw [ex]
        rw [r0_7, r0_8]
        refine Rn_bv (Rn_mono (c_ahead hI hK) (fun S1 h1 => ?_))
        exact Rn_mono (c_pale hN hI hRI hd0 hd hx h1.1 h1.2.1) (fun q h => ⟨h.1, Fm_tr h1.2.2 h.2⟩)
      · obtain ⟨k1, k2, k3⟩ := KM_0 hK hnp
        unfold f_X10_pale b_X10_pale_28
        rw [(h_box k2 k1.1.1.1).1 h1, bd_some, if_neg (by decide), h_in_0_99.1 h2, bd_some, h_right k2, bd_some, if_neg (by decide)]
        rw [ex]
        refine Rn_bv (Rn_mono (m_tries hN (by omega) k1.2.2) (fun S1 h1 => ?_))
        have hK1 := KM_q k1 hnp (q_mR h1.2)
        exact Rn_mono (m_pale hN hI hRI hd0 hd hx hK1 h1.1) (fun q h => ⟨⟨h.1, thr_m (thr_r k2 h1.2) h.2⟩, Fm_tr k3 (Fm_tr (q_mR h1.2) (q_mW h.2))⟩)
    · refine ⟨.inr 1, fun S hK => ?_, fun S hK => ?_⟩
      · unfold f_X9_pale
        rw [(g_box hK.1 hK.2.1).1 h1, bt_inl, g_r_0_99.2 h2, bt_inr]
        exact Rn_ret ⟨rfl, Fm_rf _ _⟩
      · obtain ⟨k1, k2, k3⟩ := KM_0 hK hnp
        unfold f_X10_pale b_X10_pale_28
        rw [(h_box k2 k1.1.1.1).1 h1, bd_some, if_neg (by decide), h_in_0_99.2 h2, bd_some, h_wrong k2 (by decide), bd_some, if_pos rfl]
        exact Rn_ret ⟨sgp _ _ _ _, q_thr k3⟩
  · refine ⟨.inr 0, fun S hK => ?_, fun S hK => ?_⟩
    · unfold f_X9_pale
      rw [(g_box hK.1 hK.2.1).2 h1, bt_inr]
      exact Rn_ret ⟨rfl, Fm_rf _ _⟩
    · obtain ⟨k1, k2, k3⟩ := KM_0 hK hnp
      unfold f_X10_pale b_X10_pale_28
      rw [(h_box k2 k1.1.1.1).2 h1, bd_some, if_pos rfl]
      exact Rn_ret ⟨sgp _ _ _ _, q_thr k3⟩

theorem j_quiet {x n : Int32} (hN : 10000 ≤ N) (hI : CI c) (hW : WR c r) : Jq t c r (f_X9_quiet N 0 x n) (f_X10_quiet N 78 x n) cd2 := by
  have hnb := hI.1.1
  have hnp := hI.1.2
  obtain ⟨hRI, d, hd, hd0⟩ := hW
  by_cases h1 : vB x (cnp c)
  · by_cases h2 : vR n 1 40
    · obtain ⟨xi, hx, ex⟩ := vB_n h1 (by omega)
      obtain ⟨ni, hn0, hn, en⟩ := vR_n h2 (by omega) (by omega)
      refine ⟨.inl (qui c d r xi ni), fun S hK => ?_, fun S hK => ?_⟩
      · unfold f_X9_quiet
        rw [(g_person hK.1 hK.2.1).1 h1, bt_inl, g_r_1_40.1 h2, bt_inl]
        rw [ex, en]
        rw [r0_7, r0_8]
        refine Rn_bv (Rn_mono (c_ahead hI hK) (fun S1 h1 => ?_))
        exact Rn_mono (c_quiet hN hI hRI hd0 hd hn hx h1.1 h1.2.1) (fun q h => ⟨h.1, Fm_tr h1.2.2 h.2⟩)
      · obtain ⟨k1, k2, k3⟩ := KM_0 hK hnp
        unfold f_X10_quiet b_X10_quiet_23
        rw [(h_person k2 k1.1.1.2).1 h1, bd_some, if_neg (by decide), (h_d_1_2 k2).1 h2, bd_some, if_neg (by decide)]
        rw [ex, en]
        refine Rn_bv (Rn_mono (m_tries hN (by omega) k1.2.2) (fun S1 h1 => ?_))
        have hK1 := KM_q k1 hnp (q_mR h1.2)
        exact Rn_mono (m_quiet hN hI hRI hd0 hd hn hx hK1 h1.1) (fun q h => ⟨⟨h.1, thr_m (thr_r k2 h1.2) h.2⟩, Fm_tr k3 (Fm_tr (q_mR h1.2) (q_mW h.2))⟩)
    · refine ⟨.inr 1, fun S hK => ?_, fun S hK => ?_⟩
      · unfold f_X9_quiet
        rw [(g_person hK.1 hK.2.1).1 h1, bt_inl, g_r_1_40.2 h2, bt_inr]
        exact Rn_ret ⟨rfl, Fm_rf _ _⟩
      · obtain ⟨k1, k2, k3⟩ := KM_0 hK hnp
        unfold f_X10_quiet b_X10_quiet_23
        rw [(h_person k2 k1.1.1.2).1 h1, bd_some, if_neg (by decide), (h_d_1_2 k2).2 h2, bd_some, if_pos rfl]
        exact Rn_ret ⟨sgp _ _ _ _, q_thr k3⟩
  · refine ⟨.inr 0, fun S hK => ?_, fun S hK => ?_⟩
    · unfold f_X9_quiet
      rw [(g_person hK.1 hK.2.1).2 h1, bt_inr]
      exact Rn_ret ⟨rfl, Fm_rf _ _⟩
    · obtain ⟨k1, k2, k3⟩ := KM_0 hK hnp
      unfold f_X10_quiet b_X10_quiet_23
      rw [(h_person k2 k1.1.1.2).2 h1, bd_some, if_pos rfl]
      exact Rn_ret ⟨sgp _ _ _ _, q_thr k3⟩

theorem j_bestAt {x n : Int32} (hN : 10000 ≤ N) (hI : CI c) (hW : WR c r) : Jq t c r (f_X9_bestAt N 0 x n) (f_X10_bestAt N 78 x n) cd2 := by
  have hnb := hI.1.1
  have hnp := hI.1.2
  obtain ⟨hRI, d, hd, hd0⟩ := hW
  by_cases h1 : vB x (cnp c)
  · by_cases h2 : vR n 1 40
    · obtain ⟨xi, hx, ex⟩ := vB_n h1 (by omega)
      obtain ⟨ni, hn0, hn, en⟩ := vR_n h2 (by omega) (by omega)
      refine ⟨.inl (bat c d r xi ni), fun S hK => ?_, fun S hK => ?_⟩
      · unfold f_X9_bestAt
        rw [(g_person hK.1 hK.2.1).1 h1, bt_inl, g_r_1_40.1 h2, bt_inl]
        rw [ex, en]
        exact c_bestAt hN hI hRI hd0 hd hn hx hK
      · obtain ⟨k1, k2, k3⟩ := KM_0 hK hnp
        unfold f_X10_bestAt b_X10_bestAt_23
        rw [(h_person k2 k1.1.1.2).1 h1, bd_some, if_neg (by decide), (h_d_1_2 k2).1 h2, bd_some, if_neg (by decide)]
        rw [ex, en]
        exact Rn_mono (m_bestAt hN hI hRI hd0 hd hn hx k1) (fun q h => ⟨⟨h.1, thr_m k2 h.2⟩, Fm_tr k3 (q_mW h.2)⟩)
    · refine ⟨.inr 1, fun S hK => ?_, fun S hK => ?_⟩
      · unfold f_X9_bestAt
        rw [(g_person hK.1 hK.2.1).1 h1, bt_inl, g_r_1_40.2 h2, bt_inr]
        exact Rn_ret ⟨rfl, Fm_rf _ _⟩
      · obtain ⟨k1, k2, k3⟩ := KM_0 hK hnp
        unfold f_X10_bestAt b_X10_bestAt_23
        rw [(h_person k2 k1.1.1.2).1 h1, bd_some, if_neg (by decide), (h_d_1_2 k2).2 h2, bd_some, if_pos rfl]
        exact Rn_ret ⟨sgp _ _ _ _, q_thr k3⟩
  · refine ⟨.inr 0, fun S hK => ?_, fun S hK => ?_⟩
    · unfold f_X9_bestAt
      rw [(g_person hK.1 hK.2.1).2 h1, bt_inr]
      exact Rn_ret ⟨rfl, Fm_rf _ _⟩
    · obtain ⟨k1, k2, k3⟩ := KM_0 hK hnp
      unfold f_X10_bestAt b_X10_bestAt_23
      rw [(h_person k2 k1.1.1.2).2 h1, bd_some, if_pos rfl]
      exact Rn_ret ⟨sgp _ _ _ _, q_thr k3⟩

theorem j_most {n w : Int32} (hN : 10000 ≤ N) (hI : CI c) (hW : WR c r) : Jq t c r (f_X9_most N 0 n w) (f_X10_most N 78 n w) cd2 := by
  have hnb := hI.1.1
  have hnp := hI.1.2
  obtain ⟨hRI, d, hd, hd0⟩ := hW
  by_cases h1 : vR w 0 4
  · by_cases h2 : vR n 0 40
    · obtain ⟨wi, -, hw, ew⟩ := vR_n h1 (by omega) (by omega)
      obtain ⟨ni, hn0, hn, en⟩ := vR_n h2 (by omega) (by omega)
      obtain ⟨i1, i2, -, -⟩ := dys_in hI hRI hd0 ni (by omega)
      have hv : wi = 0 ∨ wi = 1 ∨ wi = 2 ∨ wi = 3 ∨ wi = 4 := by omega
      rcases hv with hv | hv | hv | hv | hv
      · subst hv
        refine ⟨.inl (best_ (hIn (dys c d r ni)) (cnb c)), fun S hK => ?_, fun S hK => ?_⟩
        · unfold f_X9_most
          rw [g_w4.1 h1, bt_inl, g_r_0_40.1 h2, bt_inl]
          rw [en, ew]
          refine Rn_bd (Rn_mono (c_lookAhead hN hI hK hRI hd0 (by omega)) (fun q h => ?_))
          rw [if_pos (by decide)]
          rw [g_isC h.2.1.1, h.2.1.1.1, r0_8, c_fullest hN hI Sk42 h.2.1.2.1 h.2.2.1, bd_some]
          exact Rn_ret ⟨rfl, h.2.2.2⟩
        · obtain ⟨k1, k2, k3⟩ := KM_0 hK hnp
          unfold f_X10_most b_X10_most_24
          rw [(h_w4 k2).1 h1, bd_some, if_neg (by decide), (h_d_0_2 k2).1 h2, bd_some, if_neg (by decide)]
          rw [en, ew]
          refine Rn_bv (Rn_mono (m_tries hN (by omega) k1.2.2) (fun S1 h1 => ?_))
          have hK1 := KM_q k1 hnp (q_mR h1.2)
          refine m_most hN hI hRI hd0 hd hn hK1 h1.1 (fun s m g1 g2 g3 => ?_)
          unfold b_X10_most_35 b_X10_most_112
          rw [leT (Nat.le_refl _) (by omega), if_pos (by decide)]
          rw [m_fullest hN hI g1 g2 i1, bd_some]
          exact Rn_ret ⟨⟨rfl, thr_m (thr_r k2 h1.2) g3⟩, Fm_tr k3 (Fm_tr (q_mR h1.2) (q_mW g3))⟩
      · subst hv
        refine ⟨.inl (best_ (fun p => dys c d r ni (64 + p)) (cnp c)), fun S hK => ?_, fun S hK => ?_⟩
        · unfold f_X9_most
          rw [g_w4.1 h1, bt_inl, g_r_0_40.1 h2, bt_inl]
          rw [en, ew]
          refine Rn_bd (Rn_mono (c_lookAhead hN hI hK hRI hd0 (by omega)) (fun q h => ?_))
          rw [if_neg (by decide), if_pos (by decide)]
          rw [g_isC h.2.1.1, h.2.1.1.1, r0_8, c_loudest hN hI Sk42 h.2.1.2.1 h.2.2.1, bd_some]
          exact Rn_ret ⟨rfl, h.2.2.2⟩
        · obtain ⟨k1, k2, k3⟩ := KM_0 hK hnp
          unfold f_X10_most b_X10_most_24
          rw [(h_w4 k2).1 h1, bd_some, if_neg (by decide), (h_d_0_2 k2).1 h2, bd_some, if_neg (by decide)]
          rw [en, ew]
          refine Rn_bv (Rn_mono (m_tries hN (by omega) k1.2.2) (fun S1 h1 => ?_))
          have hK1 := KM_q k1 hnp (q_mR h1.2)
          refine m_most hN hI hRI hd0 hd hn hK1 h1.1 (fun s m g1 g2 g3 => ?_)
          unfold b_X10_most_35 b_X10_most_112
          rw [leT (Nat.le_refl _) (by omega), if_neg (by decide), if_pos (by decide)]
          rw [l64, m_mostOf (Or.inr rfl) hN hI g1 g2, bd_some]
          exact Rn_ret ⟨⟨rfl, thr_m (thr_r k2 h1.2) g3⟩, Fm_tr k3 (Fm_tr (q_mR h1.2) (q_mW g3))⟩
      · subst hv
        refine ⟨.inl (ftc c d r ni), fun S hK => ?_, fun S hK => ?_⟩
        · unfold f_X9_most
          rw [g_w4.1 h1, bt_inl, g_r_0_40.1 h2, bt_inl]
          rw [en, ew]
          refine Rn_bd (Rn_mono (c_lookAhead hN hI hK hRI hd0 (by omega)) (fun q h => ?_))
          rw [if_neg (by decide), if_neg (by decide), if_pos (by decide)]
          exact Rn_ret ⟨by rw [h.1], h.2.2.2⟩
        · obtain ⟨k1, k2, k3⟩ := KM_0 hK hnp
          unfold f_X10_most b_X10_most_24
          rw [(h_w4 k2).1 h1, bd_some, if_neg (by decide), (h_d_0_2 k2).1 h2, bd_some, if_neg (by decide)]
          rw [en, ew]
          refine Rn_bv (Rn_mono (m_tries hN (by omega) k1.2.2) (fun S1 h1 => ?_))
          have hK1 := KM_q k1 hnp (q_mR h1.2)
          refine m_most hN hI hRI hd0 hd hn hK1 h1.1 (fun s m g1 g2 g3 => ?_)
          unfold b_X10_most_35 b_X10_most_112
          rw [leT (Nat.le_refl _) (by omega), if_neg (by decide), if_neg (by decide), if_pos (by decide)]
          exact Rn_ret ⟨⟨rfl, thr_m (thr_r k2 h1.2) g3⟩, Fm_tr k3 (Fm_tr (q_mR h1.2) (q_mW g3))⟩
      · subst hv
        refine ⟨.inl (best_ (fun p => dys c d r ni (56 + p)) (cnp c)), fun S hK => ?_, fun S hK => ?_⟩
        · unfold f_X9_most
          rw [g_w4.1 h1, bt_inl, g_r_0_40.1 h2, bt_inl]
          rw [en, ew]
          refine Rn_bd (Rn_mono (c_lookAhead hN hI hK hRI hd0 (by omega)) (fun q h => ?_))
          rw [if_neg (by decide), if_neg (by decide), if_neg (by decide), if_pos (by decide)]
          rw [g_isC h.2.1.1, h.2.1.1.1, r0_8, c_saddest hN hI Sk42 h.2.1.2.1 h.2.2.1, bd_some]
          exact Rn_ret ⟨rfl, h.2.2.2⟩
        · obtain ⟨k1, k2, k3⟩ := KM_0 hK hnp
          unfold f_X10_most b_X10_most_24
          rw [(h_w4 k2).1 h1, bd_some, if_neg (by decide), (h_d_0_2 k2).1 h2, bd_some, if_neg (by decide)]
          rw [en, ew]
          refine Rn_bv (Rn_mono (m_tries hN (by omega) k1.2.2) (fun S1 h1 => ?_))
          have hK1 := KM_q k1 hnp (q_mR h1.2)
          refine m_most hN hI hRI hd0 hd hn hK1 h1.1 (fun s m g1 g2 g3 => ?_)
          unfold b_X10_most_35 b_X10_most_112
          rw [leT (Nat.le_refl _) (by omega), if_neg (by decide), if_neg (by decide), if_neg (by decide), if_pos (by decide)]
          rw [l56, m_mostOf (Or.inl rfl) hN hI g1 g2, bd_some]
          exact Rn_ret ⟨⟨rfl, thr_m (thr_r k2 h1.2) g3⟩, Fm_tr k3 (Fm_tr (q_mR h1.2) (q_mW g3))⟩
      · subst hv
        refine ⟨.inl (empt c (dys c d r ni)), fun S hK => ?_, fun S hK => ?_⟩
        · unfold f_X9_most
          rw [g_w4.1 h1, bt_inl, g_r_0_40.1 h2, bt_inl]
          rw [en, ew]
          refine Rn_bd (Rn_mono (c_lookAhead hN hI hK hRI hd0 (by omega)) (fun q h => ?_))
          rw [if_neg (by decide), if_neg (by decide), if_neg (by decide), if_neg (by decide)]
          rw [g_isC h.2.1.1, h.2.1.1.1, r0_8, c_empt hN hI Sk42 h.2.1.2.1 h.2.2.1, bd_some]
          exact Rn_ret ⟨rfl, h.2.2.2⟩
        · obtain ⟨k1, k2, k3⟩ := KM_0 hK hnp
          unfold f_X10_most b_X10_most_24
          rw [(h_w4 k2).1 h1, bd_some, if_neg (by decide), (h_d_0_2 k2).1 h2, bd_some, if_neg (by decide)]
          rw [en, ew]
          refine Rn_bv (Rn_mono (m_tries hN (by omega) k1.2.2) (fun S1 h1 => ?_))
          have hK1 := KM_q k1 hnp (q_mR h1.2)
          refine m_most hN hI hRI hd0 hd hn hK1 h1.1 (fun s m g1 g2 g3 => ?_)
          unfold b_X10_most_35 b_X10_most_112
          rw [leT (Nat.le_refl _) (by omega), if_neg (by decide), if_neg (by decide), if_neg (by decide), if_neg (by decide)]
          rw [m_empt hN hI g1 g2 i1, bd_some]
          exact Rn_ret ⟨⟨rfl, thr_m (thr_r k2 h1.2) g3⟩, Fm_tr k3 (Fm_tr (q_mR h1.2) (q_mW g3))⟩
    · refine ⟨.inr 1, fun S hK => ?_, fun S hK => ?_⟩
      · unfold f_X9_most
        rw [g_w4.1 h1, bt_inl, g_r_0_40.2 h2, bt_inr]
        exact Rn_ret ⟨rfl, Fm_rf _ _⟩
      · obtain ⟨k1, k2, k3⟩ := KM_0 hK hnp
        unfold f_X10_most b_X10_most_24
        rw [(h_w4 k2).1 h1, bd_some, if_neg (by decide), (h_d_0_2 k2).2 h2, bd_some, if_pos rfl]
        exact Rn_ret ⟨sgp _ _ _ _, q_thr k3⟩
  · refine ⟨.inr 0, fun S hK => ?_, fun S hK => ?_⟩
    · unfold f_X9_most
      rw [g_w4.2 h1, bt_inr]
      exact Rn_ret ⟨rfl, Fm_rf _ _⟩
    · obtain ⟨k1, k2, k3⟩ := KM_0 hK hnp
      unfold f_X10_most b_X10_most_24
      rw [(h_w4 k2).2 h1, bd_some, if_pos rfl]
      exact Rn_ret ⟨sgp _ _ _ _, q_thr k3⟩

end
