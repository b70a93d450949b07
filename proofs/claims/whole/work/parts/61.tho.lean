/-! thought -/
def NW (c : Cy) (l : Nl) : Prop := l.1 ≤ 8 ∧ ∀ i, i < l.1 → (l.2 i).1 < cnp c ∧ (l.2 i).2.1 ≤ 20 ∧ (l.2 i).2.2 ≤ 9999
def KCn (S : am_S) (t : Nat) (c : Cy) (r : Rw) (l : Nl) : Prop := KC S t c r ∧ NC S 46 l
def KMn (S : am_S) (c : Cy) (r : Rw) (l : Nl) : Prop := KM S c r ∧ NM S 56 102 l
theorem KCn_q {S S' : am_S} {t : Nat} {c : Cy} {r : Rw} {l : Nl} (h : KCn S t c r l) (hf : Fm (qC t) S S') : KCn S' t c r l := by
  have ht := HC_t h.1.1
  exact ⟨KC_q h.1 hf, NC_same h.2 (fun a j ha => hf.1 a j (by unfold qC; omega))⟩
theorem KMn_q {S S' : am_S} {c : Cy} {r : Rw} {l : Nl} (h : KMn S c r l) (hp : cnp c ≤ 8) (hf : Fm qM S S') : KMn S' c r l := ⟨KM_q h.1 hp hf, NM_same h.2 (hf.1 _ _ (by unfold qM; omega)) (fun j => hf.1 _ _ (by unfold qM; omega))⟩
def badN (f : Rw) (l : Nl) (k i : Nat) : Bool := decide ((l.2 i).2.1 = k) && !(decide (f (64 + (l.2 i).1) = nI (l.2 i).2.2))
def okD (f : Rw) (l : Nl) (k : Nat) : Bool := !(anyN (badN f l k) l.1)
def agB (c : Cy) (d : Nat) (f : Rw) (l : Nl) : Bool := !(anyN (fun k => !(okD (dys c d f k) l k)) 21)
theorem anyN_f {hit : Nat → Bool} : ∀ m, (∀ i, i < m → hit i = false) → anyN hit m = false := by
  intro m
  induction m with
  | zero => intro _; rfl
  | succ m ih =>
    intro h
    unfold anyN
    rw [ih (fun i hi => h i (by omega)), h m (by omega)]
    rfl
theorem anyN_cut {hit : Nat → Bool} {n : Nat} : ∀ m, n ≤ m → (∀ i, n ≤ i → i < m → hit i = false) → anyN hit m = anyN hit n := by
  intro m
  induction m with
  | zero =>
    intro h _
    have : n = 0 := by omega
    rw [this]
  | succ m ih =>
    intro h hf
    by_cases e : n = m + 1
    · rw [e]
    · show (anyN hit m || hit m) = _
      rw [ih (by omega) (fun i h1 h2 => hf i h1 (by omega)), hf m (by omega) (by omega), Bool.or_false]
section
variable {N t : Nat} {c : Cy} {S : am_S} {r : Rw} {l : Nl}
theorem c_agree {f : Rw} {k : Nat} (hN : 10000 ≤ N) (hI : CI c) (hW : NW c l) (hK : KCn S t c r l) (hF : RC S 42 (72 + cnp c) f) (hk : k < 1000) : f_X3_agree N 46 (nI k) 42 S = some (bI (okD f l k), S) := by
  have hnp := hI.1.2
  obtain ⟨w1, w2⟩ := hW
  obtain ⟨n1, n2⟩ := hK.2
  unfold f_X3_agree
  have h := lp_any (fun n i => b_X3_agree_2 N n 46 (nI k) 42 i S) (badN f l k) l.1 (some (0, S)) (some (1, S)) (fun n => by
    show b_X3_agree_2 N (n + 1) 46 (nI k) 42 (nI l.1) S = _
    unfold b_X3_agree_2
    rw [n1, leT (Nat.le_refl _) (by omega)]) (fun n i hi hh => by
    show b_X3_agree_2 N (n + 1) 46 (nI k) 42 (nI i) S = b_X3_agree_2 N n 46 (nI k) 42 (nI (i + 1)) S
    obtain ⟨a1, a2, a3⟩ := n2 i hi
    obtain ⟨b1, b2, b3⟩ := w2 i hi
    rw [b_X3_agree_2]
    unfold b_X3_agree_41
    rw [n1, leF (by omega) (by omega), r46_0, r46_1, r46_2, n47, n48, n49, inbT (by omega) (by decide), inbT (by omega) (by decide), nIc (by omega), a1, a2, nI1]
    unfold badN at hh
    by_cases z : (l.2 i).2.1 = k
    · rw [eqT z, r_heard hI Sk42 hF b1, bd_some, inbT (by omega) (by decide), a3]
      rw [decide_eq_true z, Bool.true_and] at hh
      have hh2 : f (64 + (l.2 i).1) = nI (l.2 i).2.2 := by simpa using hh
      rw [if_pos hh2]
    · rw [eqF z (by omega) (by omega)]) (fun n i hi hh => by
    show b_X3_agree_2 N (n + 1) 46 (nI k) 42 (nI i) S = _
    obtain ⟨a1, a2, a3⟩ := n2 i hi
    obtain ⟨b1, b2, b3⟩ := w2 i hi
    unfold b_X3_agree_2 b_X3_agree_41
    rw [n1, leF (by omega) (by omega), r46_0, r46_1, r46_2, n47, n48, n49, inbT (by omega) (by decide), inbT (by omega) (by decide), nIc (by omega), a1, a2]
    unfold badN at hh
    rw [Bool.and_eq_true] at hh
    have z := of_decide_eq_true hh.1
    have hh2 : ¬ f (64 + (l.2 i).1) = nI (l.2 i).2.2 := by simpa using hh.2
    rw [eqT z, r_heard hI Sk42 hF b1, bd_some, inbT (by omega) (by decide), a3, if_neg hh2]) N (by omega)
  refine h.trans ?_
  unfold okD
  cases anyN (badN f l k) l.1 <;> rfl
def lastF (l : Nl) (i : Nat) (a : Nat) : Nat := if a < (l.2 i).2.1 then (l.2 i).2.1 else a
def last_ (l : Nl) : Nat := itr (lastF l) l.1 0
theorem last_in (hW : NW c l) : last_ l ≤ 20 ∧ ∀ i, i < l.1 → (l.2 i).2.1 ≤ last_ l := by
  obtain ⟨w1, w2⟩ := hW
  have key : ∀ n, n ≤ l.1 → itr (lastF l) n 0 ≤ 20 ∧ ∀ i, i < n → (l.2 i).2.1 ≤ itr (lastF l) n 0 := by
    intro n
    induction n with
    | zero => intro _; exact ⟨by show 0 ≤ 20; omega, fun i hi => by omega⟩
    | succ n ih =>
      intro hn
      obtain ⟨i1, i2⟩ := ih (by omega)
      have e : itr (lastF l) (n + 1) 0 = if itr (lastF l) n 0 < (l.2 n).2.1 then (l.2 n).2.1 else itr (lastF l) n 0 := rfl
      have hb := (w2 n (by omega)).2.1
      rw [e]
      refine ⟨by split <;> omega, fun i hi => ?_⟩
      by_cases z : i = n
      · subst z
        split <;> omega
      · have := i2 i (by omega)
        split <;> omega
  exact key l.1 (Nat.le_refl _)
theorem c_last (hN : 10000 ≤ N) (hW : NW c l) (hK : NC S 46 l) : f_X3_lastDay N 46 S = some (nI (last_ l), S) := by
  obtain ⟨w1, w2⟩ := hW
  obtain ⟨n1, n2⟩ := hK
  unfold f_X3_lastDay
  refine lp_eq (fun n a i => b_X3_lastDay_4 N n 46 (nI a) i S) (lastF l) (fun a => some (nI a, S)) l.1 (fun _ a => a ≤ 20) 0 (by omega) (fun i b hi hb => by
    have hb2 := (w2 i hi).2.1
    unfold lastF
    split <;> omega) (fun n b _ => ?_) (fun n i b hi hb => ?_) N (by omega)
  · show b_X3_lastDay_4 N (n + 1) 46 (nI b) (nI l.1) S = _
    unfold b_X3_lastDay_4
    rw [n1, leT (Nat.le_refl _) (by omega)]
  · show b_X3_lastDay_4 N (n + 1) 46 (nI b) (nI i) S = b_X3_lastDay_4 N n 46 (nI (lastF l i b)) (nI (i + 1)) S
    have hb2 := (w2 i hi).2.1
    rw [b_X3_lastDay_4, n1, leF (by omega) (by omega), r46_1, n48, inbT (by omega) (by decide), nIc (by omega), (n2 i hi).2.1, nI1]
    congr 1
    unfold jmax lastF
    by_cases z : b < (l.2 i).2.1
    · rw [ltT z (by omega), if_pos z]
    · rw [ltF (by omega) (by omega), if_neg z]
theorem c_agrees {d : Nat} {f : Rw} (hN : 10000 ≤ N) (hI : CI c) (hW : NW c l) (hd : d ≤ 999) (hRI : RI c f) (hd0 : f 0 = nI d) (hK : KCn S t c r l) (hF : RC S 42 (72 + cnp c) f) : Rn (f_X9_futureAgrees N 0 S) (fun q => q.1 = bI (agB c d f l) ∧ Fm (qC t) S q.2) := by
  obtain ⟨m1, m2⟩ := last_in hW
  have hcut : agB c d f l = !(anyN (fun k => !(okD (dys c d f k) l k)) (last_ l + 1)) := by
    unfold agB
    rw [anyN_cut (n := last_ l + 1) 21 (by omega) (fun k h1 h2 => ?_)]
    have : okD (dys c d f k) l k = true := by
      unfold okD
      rw [anyN_f _ (fun i hi => ?_)]
      · rfl
      · unfold badN
        rw [decide_eq_false (by have := m2 i hi; omega)]
        rfl
    rw [this]
    rfl
  unfold f_X9_futureAgrees
  rw [r0_10, c_last hN hW hK.2, bd_some, hcut]
  refine lp0 (fun n (s : am_S) i => b_X9_futureAgrees_10 N n 0 (nI (last_ l)) i s) (fun i s => KCn s t c r l ∧ Fm (qC t) S s ∧ (i ≤ last_ l → RC s 42 (72 + cnp c) (dys c d f i)) ∧ anyN (fun k => !(okD (dys c d f k) l k)) i = false) _ (last_ l + 1) ?_ ?_ N S (by omega) ⟨hK, Fm_rf _ _, fun _ => hF, rfl⟩
  · intro n s hs
    show Rn (b_X9_futureAgrees_10 N (n + 1) 0 (nI (last_ l)) (nI (last_ l + 1)) s) _
    unfold b_X9_futureAgrees_10
    rw [ltT (by omega) (by omega), hs.2.2.2]
    exact Rn_ret ⟨rfl, hs.2.1⟩
  · intro n i s hi hs ih
    obtain ⟨g1, g2, g3, g4⟩ := hs
    have g3' := g3 (by omega)
    obtain ⟨i1, i2, -, -⟩ := dys_in hI hRI hd0 i (by omega)
    show Rn (b_X9_futureAgrees_10 N (n + 1) 0 (nI (last_ l)) (nI i) s) _
    unfold b_X9_futureAgrees_10 b_X9_futureAgrees_49
    rw [ltF (by omega) (by omega), r0_10, r0_8, c_agree hN hI hW g1 g3' (by omega), bd_some, nI1]
    cases hok : okD (dys c d f i) l i with
    | false =>
      rw [if_pos bI0, anyN_of (hit := fun k => !(okD (dys c d f k) l k)) (i := i) (by show (!(okD (dys c d f i) l i)) = true; rw [hok]; rfl) _ hi]
      exact Rn_ret ⟨rfl, g2⟩
    | true =>
      have g5 : anyN (fun k => !(okD (dys c d f k) l k)) (i + 1) = false := by
        show (anyN _ i || !(okD (dys c d f i) l i)) = false
        rw [g4, hok]
        rfl
      rw [if_neg (by decide)]
      by_cases z : last_ l ≤ i
      · rw [leT z (by omega)]
        exact ih s ⟨g1, g2, fun h => by omega, g5⟩
      · rw [leF (by omega) (by omega), g_isC g1.1.1, g1.1.1.1]
        refine Rn_bd (Rn_mono (c_fday hN hI g1.1 g3' i1 i2 (by omega)) (fun q h => ?_))
        exact ih q.2 ⟨KCn_q g1 h.2.2.2, Fm_tr g2 h.2.2.2, fun _ => h.2.2.1, g5⟩
/-- the reference's -/
def nW : Nat → Nat → Prop := fun k j => mW 80 k j ∨ k = 103
theorem q_nW {S S' : am_S} (hf : Fm nW S S') : Fm qM S S' := Fm_wk hf (fun k j h => by unfold nW mW at h; unfold qM; omega)
theorem m_noted {d : Nat} {f : Rw} (hN : 10000 ≤ N) (hI : CI c) (hW : NW c l) (hd : d ≤ 999) (hRI : RI c f) (hd0 : f 0 = nI d) (hK : KMn S c r l) (hF : RM S 80 (72 + cnp c) f) : Rn (f_X10_isNoted N 78 S) (fun q => q.1 = bI (agB c d f l) ∧ Fm nW S q.2 ∧ (agB c d f l = true → ∀ p, p < cnp c → sg q.2 103 p = dys c d f 5 (64 + p))) := by
  have hnp := hI.1.2
  obtain ⟨w1, w2⟩ := hW
  unfold f_X10_isNoted
  refine lp0 (fun n (s : am_S) i => b_X10_isNoted_2 N n 78 i s) (fun i s => Fm nW S s ∧ RM s 80 (72 + cnp c) (dys c d f i) ∧ anyN (fun k => !(okD (dys c d f k) l k)) i = false ∧ (5 < i → ∀ p, p < cnp c → sg s 103 p = dys c d f 5 (64 + p))) _ 21 ?_ ?_ N S (by omega) ⟨Fm_rf _ _, hF, rfl, fun h => by omega⟩
  · intro n s hs
    obtain ⟨g1, g2, g3, g4⟩ := hs
    show Rn (b_X10_isNoted_2 N (n + 1) 78 (nI 21) s) _
    unfold b_X10_isNoted_2
    have e : agB c d f l = true := by
      unfold agB
      rw [g3]
      rfl
    rw [l20, ltT (by omega) (by omega), e]
    exact Rn_ret ⟨rfl, g1, fun _ => g4 (by omega)⟩
  · intro n k s hk hs ih
    obtain ⟨g1, g2, g3, g4⟩ := hs
    obtain ⟨i1, i2, -, -⟩ := dys_in hI hRI hd0 k (by omega)
    have hk1 := KMn_q hK hnp (q_nW g1)
    obtain ⟨n1, n2⟩ := hk1.2
    show Rn (b_X10_isNoted_2 N (n + 1) 78 (nI k) s) _
    rw [b_X10_isNoted_2, l20, ltF (by omega) (by omega)]
    have he : ∀ p, p < cnp c → sg s 96 (144 + p) = dys c d f k (64 + p) := fun p hp => by rw [← g2 (64 + p) (by omega), ← Nat.add_assoc]
    -- the day goes by
    have day : ∀ A, Fm nW S A → RM A 80 (72 + cnp c) (dys c d f k) → okD (dys c d f k) l k = true → (5 < k + 1 → ∀ p, p < cnp c → sg A 103 p = dys c d f 5 (64 + p)) → Rn (b_X10_isNoted_107 N (b_X10_isNoted_2 N n) 78 (nI k) A) (fun q => q.1 = bI (agB c d f l) ∧ Fm nW S q.2 ∧ (agB c d f l = true → ∀ p, p < cnp c → sg q.2 103 p = dys c d f 5 (64 + p))) := by
      intro A a1 a2 a3 a4
      have hk2 := KMn_q hK hnp (q_nW a1)
      unfold b_X10_isNoted_107
      rw [nI1, l80]
      refine Rn_bv (Rn_mono (m_dayO hN (by omega) hI hk2.1.1 hk2.1.2.1 a2 i1 i2 (by omega)) (fun S2 h => ?_))
      refine ih S2 ⟨Fm_tr a1 (Fm_wk h.2.1 (fun k j hh => Or.inl hh)), h.1, ?_, fun h5 p hp => (h.2.1.1 _ _ (by unfold mW; omega)).trans (a4 h5 p hp)⟩
      show (anyN _ k || !(okD (dys c d f k) l k)) = false
      rw [g3, a3]
      rfl
    have h := lp_any (fun m i => b_X10_isNoted_10 N (b_X10_isNoted_2 N n) m 78 (nI k) i s) (badN (dys c d f k) l k) l.1 (some (0, s)) (if nI k = 5 then b_X10_isNoted_77 N (b_X10_isNoted_2 N n) N 78 (nI k) 0 s else b_X10_isNoted_107 N (b_X10_isNoted_2 N n) 78 (nI k) s) (fun m => by
      show b_X10_isNoted_10 N (b_X10_isNoted_2 N n) (m + 1) 78 (nI k) (nI l.1) s = _
      unfold b_X10_isNoted_10
      rw [n1, leT (Nat.le_refl _) (by omega)]) (fun m i hi hh => by
      show b_X10_isNoted_10 N (b_X10_isNoted_2 N n) (m + 1) 78 (nI k) (nI i) s = b_X10_isNoted_10 N (b_X10_isNoted_2 N n) m 78 (nI k) (nI (i + 1)) s
      obtain ⟨a1, a2, a3⟩ := n2 i hi
      obtain ⟨b1, b2, b3⟩ := w2 i hi
      rw [b_X10_isNoted_10]
      unfold b_X10_isNoted_64
      rw [n1, leF (by omega) (by omega), l3, nIm, nI1, l2, nIa, r78_57, n102, inbT (by omega) (by decide), inbT (by omega) (by decide), inbT (by omega) (by decide), nIc (by omega), nIc (by omega), nIc (by omega), a1, a2, a3, nI1]
      unfold badN at hh
      by_cases z : (l.2 i).2.1 = k
      · rw [eqT z, show (144 : Int32) = nI 144 from rfl, nIa, r78_46, n96, inbT (by omega) (by decide), nIc (by omega), he _ b1]
        rw [decide_eq_true z, Bool.true_and] at hh
        have hh2 : dys c d f k (64 + (l.2 i).1) = nI (l.2 i).2.2 := by simpa using hh
        rw [if_pos hh2]
      · rw [eqF z (by omega) (by omega)]) (fun m i hi hh => by
      show b_X10_isNoted_10 N (b_X10_isNoted_2 N n) (m + 1) 78 (nI k) (nI i) s = _
      obtain ⟨a1, a2, a3⟩ := n2 i hi
      obtain ⟨b1, b2, b3⟩ := w2 i hi
      unfold b_X10_isNoted_10 b_X10_isNoted_64
      rw [n1, leF (by omega) (by omega), l3, nIm, nI1, l2, nIa, r78_57, n102, inbT (by omega) (by decide), inbT (by omega) (by decide), inbT (by omega) (by decide), nIc (by omega), nIc (by omega), nIc (by omega), a1, a2, a3]
      unfold badN at hh
      rw [Bool.and_eq_true] at hh
      have z := of_decide_eq_true hh.1
      have hh2 : ¬ dys c d f k (64 + (l.2 i).1) = nI (l.2 i).2.2 := by simpa using hh.2
      rw [eqT z, show (144 : Int32) = nI 144 from rfl, nIa, r78_46, n96, inbT (by omega) (by decide), nIc (by omega), he _ b1, if_neg hh2]) N (by omega)
    have h' : b_X10_isNoted_10 N (b_X10_isNoted_2 N n) N 78 (nI k) 0 s = _ := h
    rw [h']
    cases hok : anyN (badN (dys c d f k) l k) l.1 with
    | true =>
      have hd : okD (dys c d f k) l k = false := by unfold okD; rw [hok]; rfl
      have e : agB c d f l = false := by
        unfold agB
        rw [anyN_of (hit := fun k => !(okD (dys c d f k) l k)) (i := k) (by show (!(okD (dys c d f k) l k)) = true; rw [hd]; rfl) _ hk]
        rfl
      rw [if_pos rfl, e]
      exact Rn_ret ⟨rfl, g1, fun z => by cases z⟩
    | false =>
      have hd2 : okD (dys c d f k) l k = true := by unfold okD; rw [hok]; rfl
      rw [if_neg (by decide)]
      by_cases z : k = 5
      · subst z
        rw [if_pos (by decide)]
        refine lp0 (fun m (s2 : am_S) i => b_X10_isNoted_77 N (b_X10_isNoted_2 N n) m 78 (nI 5) i s2) (fun i s2 => Fm (fun k _ => k = 103) s s2 ∧ ∀ p, p < i → sg s2 103 p = dys c d f 5 (64 + p)) _ (cnp c) ?_ ?_ N s (by omega) ⟨Fm_rf _ _, fun p hp => by omega⟩
        · intro m s2 hs2
          have hf2 : Fm nW S s2 := Fm_tr g1 (Fm_wk hs2.1 (fun k j h => Or.inr h))
          show Rn (b_X10_isNoted_77 N (b_X10_isNoted_2 N n) (m + 1) 78 (nI 5) (nI (cnp c)) s2) _
          unfold b_X10_isNoted_77
          rw [(KMn_q hK hnp (q_nW hf2)).1.1.1.2, leT (Nat.le_refl _) (by omega)]
          exact day s2 hf2 (RM_same g2 (fun j _ => hs2.1.1 _ _ (by omega))) hd2 (fun _ => hs2.2)
        · intro m i s2 hi hs2 ih2
          have hf2 : Fm nW S s2 := Fm_tr g1 (Fm_wk hs2.1 (fun k j h => Or.inr h))
          show Rn (b_X10_isNoted_77 N (b_X10_isNoted_2 N n) (m + 1) 78 (nI 5) (nI i) s2) _
          unfold b_X10_isNoted_77
          have e1 : sg s2 96 (144 + i) = dys c d f 5 (64 + i) := (hs2.1.1 _ _ (by omega)).trans (he i hi)
          rw [(KMn_q hK hnp (q_nW hf2)).1.1.1.2, leF (by omega) (by omega), show (144 : Int32) = nI 144 from rfl, nIa, r78_46, n96, r78_58, n103, inbT (by omega) (by decide), inbT (by omega) (by decide), nIc (by omega), nIc (by omega), e1, nI1]
          refine ih2 _ ⟨Fm_sp hs2.1 rfl, fun p hp => ?_⟩
          by_cases y : p = i
          · subst y
            rw [sgp]
          · rw [sgj y]
            exact hs2.2 p (by omega)
      · rw [if_neg (by rw [l5, nIeq (by omega) (by omega)]; exact z)]
        refine day s g1 g2 hd2 (fun h5 => g4 (by omega))
/-- who could have thought at whom -/
def good (c : Cy) (d : Nat) (r : Rw) (l : Nl) (p o : Nat) : Bool := decide (o < cnp c) && (!(decide (o = p)) && (!(decide (r (72 + p) = nI o)) && agB c d (trn r p (nI o)) l))
theorem trn_in {d p o : Nat} (hI : CI c) (hRI : RI c r) (hd0 : r 0 = nI d) (ho : o < cnp c) : RI c (trn r p (nI o)) ∧ trn r p (nI o) 0 = nI d := ⟨RI_at hRI hI (ixP_n ho), by
  unfold trn
  rw [wr_ne (by omega)]
  exact hd0⟩
theorem c_turnF {d p o : Nat} {β : Type} {K : Int32 → am_S → Option β} {Q : β → Prop} (hN : 10000 ≤ N) (hI : CI c) (hW : NW c l) (hd : d ≤ 999) (hRI : RI c r) (hd0 : r 0 = nI d) (hp : p < cnp c) (ho : o < cnp c) (hK : KCn S t c r l) (yes : good c d r l p o = true → ∀ S', KCn S' t c r l → Fm (qC t) S S' → Rn (K 1 S') Q) (no : good c d r l p o = false → ∀ S' , KCn S' t c r l → Fm (qC t) S S' → Rn (K 0 S') Q) : Rn (bd (f_X9_turnFuture N 0 (nI p) (nI o) S) (fun r3 S4 => if r3 = 0 then K 0 S4 else bd (f_X9_futureAgrees N 0 S4) (fun r7 S8 => if r7 = 0 then K 0 S8 else K 1 S8))) Q := by
  have hnp := hI.1.2
  have h0 : decide (o < cnp c) = true := decide_eq_true ho
  unfold f_X9_turnFuture b_X9_turnFuture_17
  by_cases z1 : o = p
  · rw [eqT z1, bd_some, if_pos rfl]
    exact no (by unfold good; rw [h0, decide_eq_true z1]; rfl) S hK (Fm_rf _ _)
  · rw [eqF z1 (by omega) (by omega), r0_7, r0_8, r_at hI Sk40 hK.1.2.2 hp, bd_some]
    by_cases z2 : r (72 + p) = nI o
    · rw [if_pos z2.symm, bd_some, if_pos rfl]
      exact no (by unfold good; rw [h0, decide_eq_false z1, decide_eq_true z2]; rfl) S hK (Fm_rf _ _)
    · rw [if_neg (fun y => z2 y.symm)]
      have key : Rn (bv (f_X7_copyFrom N 42 40 S) (fun S7 => bv (f_X7_turnTo N 42 (nI p) (nI o) S7) (fun S10 => some ((1 : Int32), S10)))) (fun q => q.1 = 1 ∧ KCn q.2 t c r l ∧ RC q.2 42 (72 + cnp c) (trn r p (nI o)) ∧ Fm (qC t) S q.2) := by
        refine Rn_bv (Rn_mono (c_ahead hI hK.1) (fun S1 h1 => ?_))
        refine Rn_bv (Rn_mono (c_turnTo Sk42.1 (by omega) (by omega) h1.2.1) (fun S2 h2 => ?_))
        have hf2 : Fm (qC t) S1 S2 := Fm_wk (Fm_fr h2.2) (fun k j hk => Or.inl hk)
        exact Rn_ret ⟨rfl, KCn_q hK (Fm_tr h1.2.2 hf2), h2.1, Fm_tr h1.2.2 hf2⟩
      refine Rn_bd (Rn_mono key (fun q h => ?_))
      obtain ⟨t1, t2⟩ := trn_in (p := p) hI hRI hd0 ho
      rw [h.1, if_neg (by decide)]
      refine Rn_bd (Rn_mono (c_agrees hN hI hW hd t1 t2 h.2.1 h.2.2.1) (fun q2 h2 => ?_))
      have hg : good c d r l p o = agB c d (trn r p (nI o)) l := by
        unfold good
        rw [h0, decide_eq_false z1, decide_eq_false z2]
        rfl
      have hf := Fm_tr h.2.2.2 h2.2
      rw [h2.1]
      cases ha : agB c d (trn r p (nI o)) l with
      | true =>
        rw [if_neg (by decide)]
        exact yes (hg.trans ha) _ (KCn_q hK hf) hf
      | false =>
        rw [if_pos bI0]
        exact no (hg.trans ha) _ (KCn_q hK hf) hf
theorem m_guess {d g : Nat} (hN : 10000 ≤ N) (hI : CI c) (hW : NW c l) (hd : d ≤ 999) (hRI : RI c r) (hd0 : r 0 = nI d) (hg : g < 8 * cnp c) (hK : KMn S c r l) : Rn (f_X10_isGuess N 78 (nI g) S) (fun q => q.1 = bI (good c d r l (g / 8) (g % 8)) ∧ Fm nW S q.2 ∧ (good c d r l (g / 8) (g % 8) = true → ∀ p, p < cnp c → sg q.2 103 p = dys c d (trn r (g / 8) (nI (g % 8))) 5 (64 + p))) := by
  have hnp := hI.1.2
  have hp : g / 8 < cnp c := by omega
  unfold f_X10_isGuess b_X10_isGuess_36
  rw [l8, nImod (by omega) (by omega), nId (by omega) (by omega), hK.1.1.1.2]
  by_cases z0 : g % 8 < cnp c
  · rw [leF z0 (by omega)]
    by_cases z1 : g % 8 = g / 8
    · rw [eqT z1]
      have e : good c d r l (g / 8) (g % 8) = false := by unfold good; rw [decide_eq_true z0, decide_eq_true z1]; rfl
      rw [e]
      exact Rn_ret ⟨rfl, Fm_rf _ _, fun z => by cases z⟩
    · have e3 : sg S 96 (72 + g / 8) = r (72 + g / 8) := by rw [← hK.1.2.2 (72 + g / 8) (by omega), Nat.zero_add]
      rw [eqF z1 (by omega) (by omega), l72, nIa, r78_46, n96, inbT (by omega) (by decide), nIc (by omega), e3]
      by_cases z2 : r (72 + g / 8) = nI (g % 8)
      · rw [if_pos z2]
        have e : good c d r l (g / 8) (g % 8) = false := by unfold good; rw [decide_eq_true z0, decide_eq_false z1, decide_eq_true z2]; rfl
        rw [e]
        exact Rn_ret ⟨rfl, Fm_rf _ _, fun z => by cases z⟩
      · rw [if_neg z2]
        refine Rn_bv (Rn_mono (m_tries hN (by omega) hK.1.2.2) (fun S1 g1 => ?_))
        have hf2 : Fm (mW 80) S (sp S1 96 (152 + g / 8) (nI (g % 8))) := Fm_sp (Fm_wk g1.2 mR_W) (mW_r (by omega) (by omega))
        have g2 : RM (sp S1 96 (152 + g / 8) (nI (g % 8))) 80 (72 + cnp c) (trn r (g / 8) (nI (g % 8))) := by
          rw [show 152 + g / 8 = 80 + 72 + g / 8 by omega]
          exact RMw_at g1.1
        obtain ⟨t1, t2⟩ := trn_in (p := g / 8) hI hRI hd0 z0
        rw [show (152 : Int32) = nI 152 from rfl, nIa, inbT (by omega) (by decide), nIc (by omega)]
        refine Rn_bd (Rn_mono (m_noted hN hI hW hd t1 t2 (KMn_q hK hnp (q_mW hf2)) g2) (fun q h => ?_))
        have hg2 : good c d r l (g / 8) (g % 8) = agB c d (trn r (g / 8) (nI (g % 8))) l := by
          unfold good
          rw [decide_eq_true z0, decide_eq_false z1, decide_eq_false z2]
          rfl
        have hb : isB q.1 = true := by
          rw [h.1]
          cases agB c d (trn r (g / 8) (nI (g % 8))) l <;> rfl
        rw [hb, ckT, hg2]
        exact Rn_ret ⟨h.1, Fm_tr (Fm_wk hf2 (fun k j hh => Or.inl hh)) h.2.1, h.2.2⟩
  · rw [leT (by omega) (by omega)]
    have e : good c d r l (g / 8) (g % 8) = false := by unfold good; rw [decide_eq_false z0]; rfl
    rw [e]
    exact Rn_ret ⟨rfl, Fm_rf _ _, fun z => by cases z⟩
def thF (c : Cy) (d : Nat) (r : Rw) (l : Nl) (g : Nat) (a : Int32 × Int32) : Int32 × Int32 := if good c d r l (g / 8) (g % 8) = true then (a.1 + 1, if a.2 = -1 then nI (10 * (g / 8) + g % 8) else a.2) else a
def th_ (c : Cy) (d : Nat) (r : Rw) (l : Nl) : Int32 × Int32 := itr (thF c d r l) (8 * cnp c) (0, -1)
theorem itr_pad {α : Type} {F : Nat → α → α} {a : α} {m : Nat} : ∀ n, m ≤ n → (∀ k b, m ≤ k → k < n → F k b = b) → itr F n a = itr F m a := by
  intro n
  induction n with
  | zero =>
    intro h _
    have : m = 0 := by omega
    rw [this]
  | succ n ih =>
    intro h hf
    by_cases e : m = n + 1
    · rw [e]
    · rw [itr, hf n _ (by omega) (by omega)]
      exact ih (by omega) (fun k b h1 h2 => hf k b h1 (by omega))
theorem good_no {d p o : Nat} (ho : cnp c ≤ o) : good c d r l p o = false := by
  unfold good
  rw [decide_eq_false (by omega)]
  rfl
theorem c_thought {d w : Nat} (hN : 10000 ≤ N) (hI : CI c) (hW : NW c l) (hd : d ≤ 999) (hRI : RI c r) (hd0 : r 0 = nI d) (hw : w ≤ 1) (hK : KCn S t c r l) : Rn (b_X9_thought_41 N N 0 (nI w) 0 (-1) 0 S) (fun q => q.1 = .inl (if w = 0 then (th_ c d r l).1 else (th_ c d r l).2) ∧ Fm (qC t) S q.2) := by
  have hnp := hI.1.2
  refine lp0 (fun n (s : (Int32 × Int32) × am_S) i => b_X9_thought_41 N n 0 (nI w) s.1.1 s.1.2 i s.2) (fun i s => s.1 = itr (thF c d r l) (8 * i) (0, -1) ∧ KCn s.2 t c r l ∧ Fm (qC t) S s.2) _ (cnp c) ?_ ?_ N ((0, -1), S) (by omega) ⟨rfl, hK, Fm_rf _ _⟩
  · intro n s hs
    obtain ⟨g1, g2, g3⟩ := hs
    show Rn (b_X9_thought_41 N (n + 1) 0 (nI w) s.1.1 s.1.2 (nI (cnp c)) s.2) _
    unfold b_X9_thought_41 b_X9_thought_128
    rw [g_isC g2.1.1, g2.1.1.1, g2.1.2.1.1.2, leT (Nat.le_refl _) (by omega), g1]
    have : w = 0 ∨ w = 1 := by omega
    rcases this with h | h <;> subst h
    · rw [if_pos (by decide), if_pos rfl]
      exact Rn_ret ⟨rfl, g3⟩
    · rw [if_neg (by decide), if_neg (by decide)]
      exact Rn_ret ⟨rfl, g3⟩
  · intro n i s hi hs ih
    obtain ⟨g1, g2, g3⟩ := hs
    show Rn (b_X9_thought_41 N (n + 1) 0 (nI w) s.1.1 s.1.2 (nI i) s.2) _
    rw [b_X9_thought_41, g_isC g2.1.1, g2.1.1.1, g2.1.2.1.1.2, leF (by omega) (by omega)]
    refine lp0 (fun m (s2 : (Int32 × Int32) × am_S) j => b_X9_thought_56 N (b_X9_thought_41 N n) m 0 (nI w) s2.1.1 s2.1.2 (nI i) j s2.2) (fun j s2 => s2.1 = itr (thF c d r l) (8 * i + j) (0, -1) ∧ KCn s2.2 t c r l ∧ Fm (qC t) S s2.2) _ (cnp c) ?_ ?_ N s (by omega) ⟨g1, g2, g3⟩
    · intro m s2 hs2
      obtain ⟨f1, f2, f3⟩ := hs2
      show Rn (b_X9_thought_56 N (b_X9_thought_41 N n) (m + 1) 0 (nI w) s2.1.1 s2.1.2 (nI i) (nI (cnp c)) s2.2) _
      unfold b_X9_thought_56
      rw [g_isC f2.1.1, f2.1.1.1, f2.1.2.1.1.2, leT (Nat.le_refl _) (by omega), nI1]
      refine ih s2 ⟨?_, f2, f3⟩
      rw [f1, show 8 * (i + 1) = 8 * i + 8 by omega]
      refine (itr_pad _ (by omega) (fun k b h1 h2 => ?_)).symm
      unfold thF
      rw [good_no (by omega)]
      rfl
    · intro m j s2 hj hs2 ih2
      obtain ⟨f1, f2, f3⟩ := hs2
      have e8 : (8 * i + j) / 8 = i ∧ (8 * i + j) % 8 = j := by omega
      have en : itr (thF c d r l) (8 * i + (j + 1)) (0, -1) = thF c d r l (8 * i + j) s2.1 := by rw [f1]; rfl
      show Rn (b_X9_thought_56 N (b_X9_thought_41 N n) (m + 1) 0 (nI w) s2.1.1 s2.1.2 (nI i) (nI j) s2.2) _
      unfold b_X9_thought_56 b_X9_thought_106 b_X9_thought_107
      rw [g_isC f2.1.1, f2.1.1.1, f2.1.2.1.1.2, leF (by omega) (by omega)]
      refine c_turnF (K := fun z A => if z = 0 then b_X9_thought_56 N (b_X9_thought_41 N n) m 0 (nI w) s2.1.1 s2.1.2 (nI i) (nI j + 1) A else (if s2.1.2 = (-1) then b_X9_thought_56 N (b_X9_thought_41 N n) m 0 (nI w) (s2.1.1 + 1) ((10 * nI i) + nI j) (nI i) (nI j + 1) A else b_X9_thought_56 N (b_X9_thought_41 N n) m 0 (nI w) (s2.1.1 + 1) s2.1.2 (nI i) (nI j + 1) A)) hN hI hW hd hRI hd0 hi hj f2 (fun hg A a1 a2 => ?_) (fun hg A a1 a2 => ?_)
      · show Rn (if (1 : Int32) = 0 then _ else _) _
        rw [if_neg (by decide), nI1, l10, nIm, nIa]
        have fin : ∀ y, (if s2.1.2 = -1 then nI (10 * i + j) else s2.1.2) = y → Rn (b_X9_thought_56 N (b_X9_thought_41 N n) m 0 (nI w) (s2.1.1 + 1) y (nI i) (nI (j + 1)) A) (fun q => q.1 = .inl (if w = 0 then (th_ c d r l).1 else (th_ c d r l).2) ∧ Fm (qC t) S q.2) := by
          intro y hy
          refine ih2 ((s2.1.1 + 1, y), A) ⟨?_, a1, Fm_tr f3 a2⟩
          rw [en]
          unfold thF
          rw [e8.1, e8.2, if_pos hg, hy]
        split
        · exact fin _ (if_pos (by assumption))
        · exact fin _ (if_neg (by assumption))
      · show Rn (if (0 : Int32) = 0 then _ else _) _
        rw [if_pos rfl, nI1]
        refine ih2 (s2.1, A) ⟨?_, a1, Fm_tr f3 a2⟩
        rw [en]
        unfold thF
        rw [e8.1, e8.2, if_neg (by rw [hg]; decide)]
theorem m_thought {d w : Nat} (hN : 10000 ≤ N) (hI : CI c) (hW : NW c l) (hd : d ≤ 999) (hRI : RI c r) (hd0 : r 0 = nI d) (hw : w ≤ 1) (hK : KMn S c r l) : Rn (b_X10_thought_45 N N 78 (nI w) 0 (-1) 0 S) (fun q => q.1 = (if w = 0 then (th_ c d r l).1 else (th_ c d r l).2) ∧ Fm nW S q.2) := by
  have hnp := hI.1.2
  refine lp0 (fun n (s : (Int32 × Int32) × am_S) i => b_X10_thought_45 N n 78 (nI w) s.1.1 s.1.2 i s.2) (fun i s => s.1 = itr (thF c d r l) i (0, -1) ∧ Fm nW S s.2) _ (8 * cnp c) ?_ ?_ N ((0, -1), S) (by omega) ⟨rfl, Fm_rf _ _⟩
  · intro n s hs
    have hk := KMn_q hK hnp (q_nW hs.2)
    show Rn (b_X10_thought_45 N (n + 1) 78 (nI w) s.1.1 s.1.2 (nI (8 * cnp c)) s.2) _
    unfold b_X10_thought_45 b_X10_thought_107
    rw [hk.1.1.1.2, l8, nIm, leT (Nat.le_refl _) (by omega), hs.1]
    have : w = 0 ∨ w = 1 := by omega
    rcases this with h | h <;> subst h
    · rw [if_pos (by decide), if_pos rfl]
      exact Rn_ret ⟨rfl, hs.2⟩
    · rw [if_neg (by decide), if_neg (by decide)]
      exact Rn_ret ⟨rfl, hs.2⟩
  · intro n i s hi hs ih
    obtain ⟨g1, g2⟩ := hs
    have hk := KMn_q hK hnp (q_nW g2)
    have en : itr (thF c d r l) (i + 1) (0, -1) = thF c d r l i s.1 := by rw [g1]; rfl
    show Rn (b_X10_thought_45 N (n + 1) 78 (nI w) s.1.1 s.1.2 (nI i) s.2) _
    unfold b_X10_thought_45 b_X10_thought_92
    rw [hk.1.1.1.2, l8, nIm, leF (by omega) (by omega), nImod (by omega) (by omega), nId (by omega) (by omega), l10, nIm, nIa, nI1]
    refine Rn_bd (Rn_mono (m_guess hN hI hW hd hRI hd0 hi hk) (fun q h => ?_))
    rw [h.1]
    cases hg : good c d r l (i / 8) (i % 8) with
    | false =>
      rw [if_pos bI0]
      refine ih (s.1, q.2) ⟨?_, Fm_tr g2 h.2.1⟩
      rw [en]
      unfold thF
      rw [hg]
      rfl
    | true =>
      rw [if_neg (by decide), show i / 8 * 10 + i % 8 = 10 * (i / 8) + i % 8 by omega]
      have fin : ∀ y, (if s.1.2 = -1 then nI (10 * (i / 8) + i % 8) else s.1.2) = y → Rn (b_X10_thought_45 N n 78 (nI w) (s.1.1 + 1) y (nI (i + 1)) q.2) (fun q => q.1 = (if w = 0 then (th_ c d r l).1 else (th_ c d r l).2) ∧ Fm nW S q.2) := by
        intro y hy
        refine ih ((s.1.1 + 1, y), q.2) ⟨?_, Fm_tr g2 h.2.1⟩
        rw [en]
        unfold thF
        rw [if_pos hg, hy]
      split
      · exact fin _ (if_pos (by assumption))
      · exact fin _ (if_neg (by assumption))
end
/-- a question, with what is noted -/
def Jn (t : Nat) (c : Cy) (r : Rw) (l : Nl) (fc : am_S → Option am_T) (fm : am_S → Option (Int32 × am_S)) (cd : Nat → Int32) : Prop := ∃ A : Int32 ⊕ Nat, (∀ S, KCn S t c r l → Rn (fc S) (fun q => q.1 = A ∧ Fm (qC t) S q.2)) ∧ (∀ S, KMn S c r l → Rn (fm S) (fun q => mok cd A q ∧ Fm qM S q.2))
section
variable {N t : Nat} {c : Cy} {r : Rw} {l : Nl}
theorem KMn_0 {S : am_S} (h : KMn S c r l) (hp : cnp c ≤ 8) : KMn (sp S 78 0 0) c r l ∧ sg (sp S 78 0 0) 78 0 = 0 ∧ Fm qM S (sp S 78 0 0) := ⟨KMn_q h hp (q_thr (Fm_rf _ _)), sgp _ _ _ _, q_thr (Fm_rf _ _)⟩
theorem thr_n {S S' : am_S} (k2 : sg S 78 0 = 0) (h : Fm nW S S') : sg S' 78 0 = 0 := (h.1 _ _ (by unfold nW mW; omega)).trans k2
theorem j_thought {w : Int32} (hN : 10000 ≤ N) (hI : CI c) (hWR : WR c r) (hW : NW c l) : Jn t c r l (f_X9_thought N 0 w) (f_X10_thought N 78 w) cd2 := by
  have hnp := hI.1.2
  obtain ⟨hRI, d, hd, hd0⟩ := hWR
  by_cases h1 : vR w 0 2
  · obtain ⟨wi, -, hw, ew⟩ := vR_n h1 (by omega) (by omega)
    by_cases h2 : wi = 2
    · subst h2
      refine ⟨.inl (bI (agB c d r l)), fun S hK => ?_, fun S hK => ?_⟩
      · unfold f_X9_thought b_X9_thought_33
        rw [g_w2.1 h1, bt_inl, ew, if_pos (by decide), r0_7, r0_8]
        refine Rn_bv (Rn_mono (c_ahead hI hK.1) (fun S1 g1 => ?_))
        refine Rn_bd (Rn_mono (c_agrees hN hI hW hd hRI hd0 (KCn_q hK g1.2.2) g1.2.1) (fun q h => ?_))
        rw [h.1]
        cases agB c d r l with
        | true =>
          rw [if_neg (by decide)]
          exact Rn_ret ⟨rfl, Fm_tr g1.2.2 h.2⟩
        | false =>
          rw [if_pos bI0]
          exact Rn_ret ⟨rfl, Fm_tr g1.2.2 h.2⟩
      · obtain ⟨k1, k2, k3⟩ := KMn_0 hK hnp
        unfold f_X10_thought b_X10_thought_37
        rw [(h_w2 k2).1 h1, bd_some, if_neg (by decide), ew, if_pos (by decide)]
        refine Rn_bv (Rn_mono (m_tries hN (by omega) k1.1.2.2) (fun S1 g1 => ?_))
        refine Rn_bd (Rn_mono (m_noted hN hI hW hd hRI hd0 (KMn_q k1 hnp (q_mR g1.2)) g1.1) (fun q h => ?_))
        have e0 := thr_n (thr_r k2 g1.2) h.2.1
        have ef := Fm_tr k3 (Fm_tr (q_mR g1.2) (q_nW h.2.1))
        rw [h.1]
        cases agB c d r l with
        | true =>
          rw [if_neg (by decide)]
          exact Rn_ret ⟨⟨rfl, e0⟩, ef⟩
        | false =>
          rw [if_pos bI0]
          exact Rn_ret ⟨⟨rfl, e0⟩, ef⟩
    · refine ⟨.inl (if wi = 0 then (th_ c d r l).1 else (th_ c d r l).2), fun S hK => ?_, fun S hK => ?_⟩
      · unfold f_X9_thought
        rw [g_w2.1 h1, bt_inl, ew, if_neg (by rw [l2, nIeq (by omega) (by omega)]; exact h2)]
        exact c_thought hN hI hW hd hRI hd0 (by omega) hK
      · obtain ⟨k1, k2, k3⟩ := KMn_0 hK hnp
        unfold f_X10_thought
        rw [(h_w2 k2).1 h1, bd_some, if_neg (by decide), ew, if_neg (by rw [l2, nIeq (by omega) (by omega)]; exact h2)]
        exact Rn_mono (m_thought hN hI hW hd hRI hd0 (by omega) k1) (fun q h => ⟨⟨h.1, thr_n k2 h.2⟩, Fm_tr k3 (q_nW h.2)⟩)
  · refine ⟨.inr 0, fun S hK => ?_, fun S hK => ?_⟩
    · unfold f_X9_thought
      rw [g_w2.2 h1, bt_inr]
      exact Rn_ret ⟨rfl, Fm_rf _ _⟩
    · obtain ⟨k1, k2, k3⟩ := KMn_0 hK hnp
      unfold f_X10_thought
      rw [(h_w2 k2).2 h1, bd_some, if_pos rfl]
      exact Rn_ret ⟨sgp _ _ _ _, q_thr k3⟩
end
