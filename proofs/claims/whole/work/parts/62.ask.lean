/-! ask -/
abbrev Tb : Type := Nat × (Nat → Nat → Int32)
def asF (c : Cy) (d : Nat) (r : Rw) (l : Nl) (g : Nat) (a : Tb) : Tb := if good c d r l (g / 8) (g % 8) = true then (a.1 + 1, fun k p => if k = a.1 then dys c d (trn r (g / 8) (nI (g % 8))) 5 (64 + p) else a.2 k p) else a
def as_ (c : Cy) (d : Nat) (r : Rw) (l : Nl) (n : Nat) : Tb := itr (asF c d r l) n (0, fun _ _ => 0)
def bnd (g : Nat) : Nat := 7 * (g / 8) + (if g % 8 ≤ g / 8 then g % 8 else g % 8 - 1)
theorem as_b {c : Cy} {d : Nat} {r : Rw} {l : Nl} : ∀ n, n ≤ 64 → (as_ c d r l n).1 ≤ bnd n := by
  intro n
  induction n with
  | zero => intro _; exact Nat.zero_le _
  | succ n ih =>
    intro hn
    have h1 := ih (by omega)
    show (asF c d r l n (as_ c d r l n)).1 ≤ _
    unfold asF
    by_cases hg : good c d r l (n / 8) (n % 8) = true
    · rw [if_pos hg]
      have hne : ¬ n % 8 = n / 8 := fun z => by
        unfold good at hg
        rw [decide_eq_true z] at hg
        simp at hg
      show (as_ c d r l n).1 + 1 ≤ _
      have hb : bnd n + 1 ≤ bnd (n + 1) := by
        unfold bnd
        split <;> split <;> omega
      omega
    · rw [if_neg hg]
      have hb : bnd n ≤ bnd (n + 1) := by
        unfold bnd
        split <;> split <;> omega
      omega
theorem bnd_lt {g : Nat} (hg : g < 64) (hne : ¬ g % 8 = g / 8) : bnd g < 56 := by
  unfold bnd
  split <;> omega
def TbAt (S : am_S) (cl np : Nat) (T : Tb) : Prop := ∀ k p, k < T.1 → p < np → sg S cl (8 * k + p) = T.2 k p
def newB (T : Tb) (p a : Nat) : Bool := !(anyN (fun b => decide (T.2 b p = T.2 a p)) a)
def unl (T : Tb) (p : Nat) : Int32 := sI (fun a => bI (newB T p a)) T.1
def akF (T : Tb) (p : Nat) (a : Int32 × Int32) : Int32 × Int32 := if unl T p ≤ a.2 then a else (nI p, unl T p)
def ak_ (T : Tb) (np : Nat) : Int32 × Int32 := itr (akF T) np (-1, 0)
section
variable {N t : Nat} {c : Cy} {S : am_S} {r : Rw} {l : Nl}
theorem as_le {d n : Nat} (hn : n ≤ 64) : (as_ c d r l n).1 ≤ 56 := by
  have h := as_b (c := c) (d := d) (r := r) (l := l) n hn
  have : bnd n ≤ 56 := by
    unfold bnd
    split <;> omega
  omega
theorem KC_q6 {S S' : am_S} (h : KC S t c r) (hf : Fm (qC6 t) S S') : KC S' t c r := by
  have ht := HC_t h.1
  refine ⟨HC_same h.1 (by rw [hf.2]), CC_same h.2.1 (fun a j h1 h2 h3 h4 => hf.1 a j (by unfold qC6 qC; omega)), RC_same h.2.2 (fun j => hf.1 _ j (by unfold qC6 qC; omega))⟩
theorem KCn_q6 {S S' : am_S} (h : KCn S t c r l) (hf : Fm (qC6 t) S S') : KCn S' t c r l := by
  have ht := HC_t h.1.1
  exact ⟨KC_q6 h.1 hf, NC_same h.2 (fun a j ha => hf.1 a j (by unfold qC6 qC; omega))⟩
theorem c_gather {d : Nat} (hN : 10000 ≤ N) (hI : CI c) (hW : NW c l) (hd : d ≤ 999) (hRI : RI c r) (hd0 : r 0 = nI d) (hK : KCn S t c r l) : Rn (f_X9_gatherHeardByThoughts N 0 S) (fun q => q.1 = nI (as_ c d r l (8 * cnp c)).1 ∧ TbAt q.2 76 (cnp c) (as_ c d r l (8 * cnp c)) ∧ KCn q.2 t c r l ∧ Fm (qC6 t) S q.2) := by
  have hnp := hI.1.2
  unfold f_X9_gatherHeardByThoughts
  refine lp0 (fun n (s : Int32 × am_S) i => b_X9_gatherHeardByThoughts_4 N n 0 s.1 i s.2) (fun i s => s.1 = nI (as_ c d r l (8 * i)).1 ∧ TbAt s.2 76 (cnp c) (as_ c d r l (8 * i)) ∧ KCn s.2 t c r l ∧ Fm (qC6 t) S s.2) _ (cnp c) ?_ ?_ N (0, S) (by omega) ⟨rfl, fun k p hk hp => absurd hk (Nat.not_lt_zero _), hK, Fm_rf _ _⟩
  · intro n s hs
    obtain ⟨g1, g2, g3, g4⟩ := hs
    show Rn (b_X9_gatherHeardByThoughts_4 N (n + 1) 0 s.1 (nI (cnp c)) s.2) _
    unfold b_X9_gatherHeardByThoughts_4
    rw [g_isC g3.1.1, g3.1.1.1, g3.1.2.1.1.2, leT (Nat.le_refl _) (by omega)]
    exact Rn_ret ⟨g1, g2, g3, g4⟩
  · intro n i s hi hs ih
    obtain ⟨g1, g2, g3, g4⟩ := hs
    show Rn (b_X9_gatherHeardByThoughts_4 N (n + 1) 0 s.1 (nI i) s.2) _
    rw [b_X9_gatherHeardByThoughts_4, g_isC g3.1.1, g3.1.1.1, g3.1.2.1.1.2, leF (by omega) (by omega)]
    refine lp0 (fun m (s2 : Int32 × am_S) j => b_X9_gatherHeardByThoughts_17 N (b_X9_gatherHeardByThoughts_4 N n) m 0 s2.1 (nI i) j s2.2) (fun j s2 => s2.1 = nI (as_ c d r l (8 * i + j)).1 ∧ TbAt s2.2 76 (cnp c) (as_ c d r l (8 * i + j)) ∧ KCn s2.2 t c r l ∧ Fm (qC6 t) S s2.2) _ (cnp c) ?_ ?_ N s (by omega) ⟨g1, g2, g3, g4⟩
    · intro m s2 hs2
      obtain ⟨f1, f2, f3, f4⟩ := hs2
      show Rn (b_X9_gatherHeardByThoughts_17 N (b_X9_gatherHeardByThoughts_4 N n) (m + 1) 0 s2.1 (nI i) (nI (cnp c)) s2.2) _
      unfold b_X9_gatherHeardByThoughts_17
      rw [g_isC f3.1.1, f3.1.1.1, f3.1.2.1.1.2, leT (Nat.le_refl _) (by omega), nI1]
      have e : as_ c d r l (8 * (i + 1)) = as_ c d r l (8 * i + cnp c) := by
        rw [show 8 * (i + 1) = 8 * i + 8 by omega]
        refine itr_pad _ (by omega) (fun k b h1 h2 => ?_)
        unfold asF
        rw [good_no (by omega)]
        rfl
      refine ih s2 ⟨?_, ?_, f3, f4⟩
      · rw [e]; exact f1
      · rw [e]; exact f2
    · intro m j s2 hj hs2 ih2
      obtain ⟨f1, f2, f3, f4⟩ := hs2
      have e8 : (8 * i + j) / 8 = i ∧ (8 * i + j) % 8 = j := by omega
      have en : as_ c d r l (8 * i + (j + 1)) = asF c d r l (8 * i + j) (as_ c d r l (8 * i + j)) := rfl
      have hle := as_le (c := c) (d := d) (r := r) (l := l) (n := 8 * i + j) (by omega)
      show Rn (b_X9_gatherHeardByThoughts_17 N (b_X9_gatherHeardByThoughts_4 N n) (m + 1) 0 s2.1 (nI i) (nI j) s2.2) _
      unfold b_X9_gatherHeardByThoughts_17 b_X9_gatherHeardByThoughts_102
      rw [g_isC f3.1.1, f3.1.1.1, f3.1.2.1.1.2, leF (by omega) (by omega)]
      refine c_turnF (K := fun z A => if z = 0 then b_X9_gatherHeardByThoughts_17 N (b_X9_gatherHeardByThoughts_4 N n) m 0 s2.1 (nI i) (nI j + 1) A else (if 64 ≤ s2.1 then b_X9_gatherHeardByThoughts_17 N (b_X9_gatherHeardByThoughts_4 N n) m 0 s2.1 (nI i) (nI j + 1) A else (bv (f_X9_lookAheadTurned N 0 (nI i) (nI j) 5 A) (fun S13 => b_X9_gatherHeardByThoughts_60 N (b_X9_gatherHeardByThoughts_4 N n) (b_X9_gatherHeardByThoughts_17 N (b_X9_gatherHeardByThoughts_4 N n) m) N 0 s2.1 (nI i) (nI j) 0 S13)))) hN hI hW hd hRI hd0 hi hj f3 (fun hg A a1 a2 => ?_) (fun hg A a1 a2 => ?_)
      · show Rn (if (1 : Int32) = 0 then _ else _) _
        have hne : ¬ j = i := fun z => by
          unfold good at hg
          rw [decide_eq_true z] at hg
          simp at hg
        have hlt : (as_ c d r l (8 * i + j)).1 < 56 := by
          have h1 := as_b (c := c) (d := d) (r := r) (l := l) (8 * i + j) (by omega)
          have h2 := bnd_lt (g := 8 * i + j) (by omega) (by omega)
          omega
        rw [if_neg (by decide), f1, l64, leF (by omega) (by omega), l5]
        refine Rn_bv (Rn_mono (c_turned hN hI hRI hd0 hd (by omega) hi hj a1.1) (fun S3 h3 => ?_))
        have hf3 : Fm (qC t) s2.2 S3 := Fm_tr a2 h3.2.2
        have ht := HC_t f3.1.1
        refine lp0 (fun m2 (s3 : am_S) q => b_X9_gatherHeardByThoughts_60 N (b_X9_gatherHeardByThoughts_4 N n) (b_X9_gatherHeardByThoughts_17 N (b_X9_gatherHeardByThoughts_4 N n) m) m2 0 (nI (as_ c d r l (8 * i + j)).1) (nI i) (nI j) q s3) (fun q s3 => Fm (fun k x => k = 76 ∧ 8 * (as_ c d r l (8 * i + j)).1 ≤ x) S3 s3 ∧ ∀ p, p < q → sg s3 76 (8 * (as_ c d r l (8 * i + j)).1 + p) = dys c d (trn r i (nI j)) 5 (64 + p)) _ (cnp c) ?_ ?_ N S3 (by omega) ⟨Fm_rf _ _, fun p hp => by omega⟩
        · intro m2 s3 hs3
          have hf4 : Fm (qC6 t) s2.2 s3 := Fm_tr (Fm_wk hf3 (fun k j h => Or.inl h)) (Fm_wk hs3.1 (fun k j h => Or.inr h.1))
          have hk4 := KCn_q6 f3 hf4
          show Rn (b_X9_gatherHeardByThoughts_60 N (b_X9_gatherHeardByThoughts_4 N n) (b_X9_gatherHeardByThoughts_17 N (b_X9_gatherHeardByThoughts_4 N n) m) (m2 + 1) 0 (nI (as_ c d r l (8 * i + j)).1) (nI i) (nI j) (nI (cnp c)) s3) _
          unfold b_X9_gatherHeardByThoughts_60 b_X9_gatherHeardByThoughts_102
          rw [g_isC hk4.1.1, hk4.1.1.1, hk4.1.2.1.1.2, leT (Nat.le_refl _) (by omega), nI1, nI1]
          have e9 : as_ c d r l (8 * i + (j + 1)) = ((as_ c d r l (8 * i + j)).1 + 1, fun k p => if k = (as_ c d r l (8 * i + j)).1 then dys c d (trn r i (nI j)) 5 (64 + p) else (as_ c d r l (8 * i + j)).2 k p) := by
            rw [en]
            unfold asF
            rw [e8.1, e8.2, if_pos hg]
          refine ih2 (nI ((as_ c d r l (8 * i + j)).1 + 1), s3) ⟨by rw [e9], ?_, hk4, Fm_tr f4 hf4⟩
          rw [e9]
          intro k p hk hp
          have hk' : k < (as_ c d r l (8 * i + j)).1 + 1 := hk
          show sg s3 76 (8 * k + p) = if k = _ then _ else _
          by_cases z : k = (as_ c d r l (8 * i + j)).1
          · rw [if_pos z, z]
            exact hs3.2 p hp
          · rw [if_neg z, hs3.1.1 _ _ (by omega), hf3.1 _ _ (by unfold qC; omega)]
            exact f2 k p (by omega) hp
        · intro m2 q s3 hq hs3 ih3
          have hf4 : Fm (qC6 t) s2.2 s3 := Fm_tr (Fm_wk hf3 (fun k j h => Or.inl h)) (Fm_wk hs3.1 (fun k j h => Or.inr h.1))
          have hk4 := KCn_q6 f3 hf4
          show Rn (b_X9_gatherHeardByThoughts_60 N (b_X9_gatherHeardByThoughts_4 N n) (b_X9_gatherHeardByThoughts_17 N (b_X9_gatherHeardByThoughts_4 N n) m) (m2 + 1) 0 (nI (as_ c d r l (8 * i + j)).1) (nI i) (nI j) (nI q) s3) _
          unfold b_X9_gatherHeardByThoughts_60
          have hR4 : RC s3 42 (72 + cnp c) (dys c d (trn r i (nI j)) 5) := RC_same h3.2.1 (fun x => hs3.1.1 _ _ (by omega))
          rw [g_isC hk4.1.1, hk4.1.1.1, hk4.1.2.1.1.2, leF (by omega) (by omega), r0_8, r_heard hI Sk42 hR4 hq, bd_some, l8, nIm, nIa, r0_16, n76, inbT (by omega) (by decide), nIc (by omega), nI1, show (as_ c d r l (8 * i + j)).1 * 8 + q = 8 * (as_ c d r l (8 * i + j)).1 + q by omega]
          refine ih3 _ ⟨Fm_sp hs3.1 ⟨rfl, by omega⟩, fun p hp => ?_⟩
          by_cases z : p = q
          · subst z
            rw [sgp]
          · rw [sgj (by omega)]
            exact hs3.2 p (by omega)
      · show Rn (if (0 : Int32) = 0 then _ else _) _
        rw [if_pos rfl, nI1]
        have e9 : as_ c d r l (8 * i + (j + 1)) = as_ c d r l (8 * i + j) := by
          rw [en]
          unfold asF
          rw [e8.1, e8.2, if_neg (by rw [hg]; decide)]
        refine ih2 (s2.1, A) ⟨by rw [e9]; exact f1, ?_, a1, Fm_tr f4 (Fm_wk a2 (fun k j h => Or.inl h))⟩
        rw [e9]
        intro k p hk hp
        have ht := HC_t f3.1.1
        rw [a2.1 _ _ (by unfold qC; omega)]
        exact f2 k p hk hp
theorem c_new {T : Tb} {p a : Nat} (hN : 10000 ≤ N) (hT : TbAt S 76 (cnp c) T) (hp : p < cnp c) (hp8 : cnp c ≤ 8) (ha : a < T.1) (h56 : T.1 ≤ 56) : f_X9_isNewSum N 0 (nI p) (nI a) S = some (bI (newB T p a), S) := by
  unfold f_X9_isNewSum
  have e0 : sg S 76 (a * 8 + p) = T.2 a p := by rw [show a * 8 + p = 8 * a + p by omega]; exact hT a p ha hp
  rw [l8, nIm, nIa, r0_16, n76, inbT (by omega) (by decide), nIc (by omega), e0]
  have h := lp_any (fun n i => b_X9_isNewSum_15 N n 0 (nI p) (nI a) (T.2 a p) i S) (fun b => decide (T.2 b p = T.2 a p)) a (some (0, S)) (some (1, S)) (fun n => by
    show b_X9_isNewSum_15 N (n + 1) 0 (nI p) (nI a) (T.2 a p) (nI a) S = _
    unfold b_X9_isNewSum_15
    rw [leT (Nat.le_refl _) (by omega)]) (fun n i hi hh => by
    show b_X9_isNewSum_15 N (n + 1) 0 (nI p) (nI a) (T.2 a p) (nI i) S = b_X9_isNewSum_15 N n 0 (nI p) (nI a) (T.2 a p) (nI (i + 1)) S
    have e1 : sg S 76 (i * 8 + p) = T.2 i p := by rw [show i * 8 + p = 8 * i + p by omega]; exact hT i p (by omega) hp
    rw [b_X9_isNewSum_15, leF (by omega) (by omega), l8, nIm, nIa, r0_16, n76, inbT (by omega) (by decide), nIc (by omega), e1, if_neg (of_decide_eq_false hh), nI1]) (fun n i hi hh => by
    show b_X9_isNewSum_15 N (n + 1) 0 (nI p) (nI a) (T.2 a p) (nI i) S = _
    have e1 : sg S 76 (i * 8 + p) = T.2 i p := by rw [show i * 8 + p = 8 * i + p by omega]; exact hT i p (by omega) hp
    unfold b_X9_isNewSum_15
    rw [leF (by omega) (by omega), l8, nIm, nIa, r0_16, n76, inbT (by omega) (by decide), nIc (by omega), e1, if_pos (of_decide_eq_true hh)]) N (by omega)
  refine h.trans ?_
  unfold newB
  cases anyN (fun b => decide (T.2 b p = T.2 a p)) a <;> rfl
theorem c_unl {T : Tb} {p : Nat} (hN : 10000 ≤ N) (hT : TbAt S 76 (cnp c) T) (hp : p < cnp c) (hp8 : cnp c ≤ 8) (h56 : T.1 ≤ 56) : f_X9_countUnlike N 0 (nI p) (nI T.1) S = some (unl T p, S) := by
  unfold f_X9_countUnlike unl
  refine lp_sI (fun n v i => b_X9_countUnlike_5 N n 0 (nI p) (nI T.1) v i S) (fun a => bI (newB T p a)) (fun v => some (v, S)) T.1 (fun n v => ?_) (fun n i v hi => ?_) N (by omega)
  · show b_X9_countUnlike_5 N (n + 1) 0 (nI p) (nI T.1) v (nI T.1) S = _
    unfold b_X9_countUnlike_5
    rw [leT (Nat.le_refl _) (by omega)]
  · show b_X9_countUnlike_5 N (n + 1) 0 (nI p) (nI T.1) v (nI i) S = b_X9_countUnlike_5 N n 0 (nI p) (nI T.1) (v + bI (newB T p i)) (nI (i + 1)) S
    rw [b_X9_countUnlike_5]
    unfold b_X9_countUnlike_24
    rw [leF (by omega) (by omega), c_new hN hT hp hp8 hi h56, bd_some, nI1]
    cases newB T p i with
    | true => rw [if_neg (by decide)]; rfl
    | false => rw [if_pos bI0, bI0, Int32.add_zero]
theorem c_ask {T : Tb} {w : Nat} (hN : 10000 ≤ N) (hI : CI c) (hK : KC S t c r) (hT : TbAt S 76 (cnp c) T) (h56 : T.1 ≤ 56) (hw : w ≤ 1) : b_X9_ask_18 N N 0 (nI w) (nI T.1) (-1) 0 0 S = some (.inl (if w = 0 then (ak_ T (cnp c)).1 else (ak_ T (cnp c)).2), S) := by
  have hnp := hI.1.2
  refine lp_eq (fun n (a : Int32 × Int32) i => b_X9_ask_18 N n 0 (nI w) (nI T.1) a.1 a.2 i S) (akF T) (fun a => some (.inl (if w = 0 then a.1 else a.2), S)) (cnp c) (fun _ _ => True) (-1, 0) trivial (fun _ _ _ _ => trivial) (fun n a _ => ?_) (fun n i a hi _ => ?_) N (by omega)
  · show b_X9_ask_18 N (n + 1) 0 (nI w) (nI T.1) a.1 a.2 (nI (cnp c)) S = _
    unfold b_X9_ask_18 b_X9_ask_69
    rw [g_isC hK.1, hK.1.1, hK.2.1.1.2, leT (Nat.le_refl _) (by omega)]
    have : w = 0 ∨ w = 1 := by omega
    rcases this with h | h <;> subst h
    · rw [if_pos (by decide), if_pos rfl]
    · rw [if_neg (by decide), if_neg (by decide)]
  · show b_X9_ask_18 N (n + 1) 0 (nI w) (nI T.1) a.1 a.2 (nI i) S = b_X9_ask_18 N n 0 (nI w) (nI T.1) (akF T i a).1 (akF T i a).2 (nI (i + 1)) S
    rw [b_X9_ask_18]
    unfold b_X9_ask_53 akF
    rw [g_isC hK.1, hK.1.1, hK.2.1.1.2, leF (by omega) (by omega), c_unl hN hT hi hnp h56, bd_some, nI1]
    split <;> rfl
/-- the reference's -/
def oW : Nat → Nat → Prop := fun k j => nW k j ∨ k = 104
theorem q_oW {S S' : am_S} (hf : Fm oW S S') : Fm qM S S' := Fm_wk hf (fun k j h => by unfold oW nW mW at h; unfold qM; omega)
theorem m_gather {d : Nat} {w : Int32} {Q : Int32 × am_S → Prop} (hN : 10000 ≤ N) (hI : CI c) (hW : NW c l) (hd : d ≤ 999) (hRI : RI c r) (hd0 : r 0 = nI d) (hK : KMn S c r l) (hQ : ∀ s, Fm oW S s → TbAt s 104 (cnp c) (as_ c d r l (8 * cnp c)) → Rn (b_X10_ask_96 N N 78 w (nI (as_ c d r l (8 * cnp c)).1) (-1) 0 0 s) Q) : Rn (b_X10_ask_20 N N 78 w 0 0 S) Q := by
  have hnp := hI.1.2
  refine lp0 (fun n (s : Int32 × am_S) i => b_X10_ask_20 N n 78 w s.1 i s.2) (fun i s => s.1 = nI (as_ c d r l i).1 ∧ TbAt s.2 104 (cnp c) (as_ c d r l i) ∧ Fm oW S s.2) _ (8 * cnp c) ?_ ?_ N (0, S) (by omega) ⟨rfl, fun k p hk hp => absurd hk (Nat.not_lt_zero _), Fm_rf _ _⟩
  · intro n s hs
    obtain ⟨g1, g2, g3⟩ := hs
    have hk := KMn_q hK hnp (q_oW g3)
    show Rn (b_X10_ask_20 N (n + 1) 78 w s.1 (nI (8 * cnp c)) s.2) _
    unfold b_X10_ask_20
    rw [hk.1.1.1.2, l8, nIm, leT (Nat.le_refl _) (by omega), g1]
    exact hQ s.2 g3 g2
  · intro n i s hi hs ih
    obtain ⟨g1, g2, g3⟩ := hs
    have hk := KMn_q hK hnp (q_oW g3)
    have en : as_ c d r l (i + 1) = asF c d r l i (as_ c d r l i) := rfl
    show Rn (b_X10_ask_20 N (n + 1) 78 w s.1 (nI i) s.2) _
    rw [b_X10_ask_20]
    unfold b_X10_ask_82
    rw [hk.1.1.1.2, l8, nIm, leF (by omega) (by omega), nI1, g1]
    refine Rn_bd (Rn_mono (m_guess hN hI hW hd hRI hd0 hi hk) (fun q h => ?_))
    have hf2 : Fm oW s.2 q.2 := Fm_wk h.2.1 (fun k j hh => Or.inl hh)
    rw [h.1]
    cases hg : good c d r l (i / 8) (i % 8) with
    | false =>
      rw [if_pos bI0]
      have e9 : as_ c d r l (i + 1) = as_ c d r l i := by
        rw [en]
        unfold asF
        rw [hg]
        rfl
      refine ih (nI (as_ c d r l i).1, q.2) ⟨by rw [e9], ?_, Fm_tr g3 hf2⟩
      rw [e9]
      intro k p hk hp
      rw [h.2.1.1 _ _ (by unfold nW mW; omega)]
      exact g2 k p hk hp
    | true =>
      have hne : ¬ i % 8 = i / 8 := fun z => by
        unfold good at hg
        rw [decide_eq_true z] at hg
        simp at hg
      have hlt : (as_ c d r l i).1 < 56 := by
        have h1 := as_b (c := c) (d := d) (r := r) (l := l) i (by omega)
        have h2 := bnd_lt (g := i) (by omega) hne
        omega
      have hso := h.2.2 hg
      rw [if_neg (by decide)]
      refine lp0 (fun m (s3 : am_S) p => b_X10_ask_45 N (b_X10_ask_20 N n) m 78 w (nI (as_ c d r l i).1) (nI i) p s3) (fun p s3 => Fm (fun k x => k = 104 ∧ 8 * (as_ c d r l i).1 ≤ x) q.2 s3 ∧ ∀ x, x < p → sg s3 104 (8 * (as_ c d r l i).1 + x) = dys c d (trn r (i / 8) (nI (i % 8))) 5 (64 + x)) _ (cnp c) ?_ ?_ N q.2 (by omega) ⟨Fm_rf _ _, fun p hp => by omega⟩
      · intro m s3 hs3
        have hf4 : Fm oW S s3 := Fm_tr g3 (Fm_tr hf2 (Fm_wk hs3.1 (fun k j hh => Or.inr hh.1)))
        have hk4 := KMn_q hK hnp (q_oW hf4)
        show Rn (b_X10_ask_45 N (b_X10_ask_20 N n) (m + 1) 78 w (nI (as_ c d r l i).1) (nI i) (nI (cnp c)) s3) _
        unfold b_X10_ask_45 b_X10_ask_82
        rw [hk4.1.1.1.2, leT (Nat.le_refl _) (by omega), nI1, nI1]
        have e9 : as_ c d r l (i + 1) = ((as_ c d r l i).1 + 1, fun k p => if k = (as_ c d r l i).1 then dys c d (trn r (i / 8) (nI (i % 8))) 5 (64 + p) else (as_ c d r l i).2 k p) := by
          rw [en]
          unfold asF
          rw [if_pos hg]
        refine ih (nI ((as_ c d r l i).1 + 1), s3) ⟨by rw [e9], ?_, hf4⟩
        rw [e9]
        intro k p hk hp
        have hk' : k < (as_ c d r l i).1 + 1 := hk
        show sg s3 104 (8 * k + p) = if k = _ then _ else _
        by_cases z : k = (as_ c d r l i).1
        · rw [if_pos z, z]
          exact hs3.2 p hp
        · rw [if_neg z, hs3.1.1 _ _ (by omega), h.2.1.1 _ _ (by unfold nW mW; omega)]
          exact g2 k p (by omega) hp
      · intro m p s3 hp hs3 ih3
        have hf4 : Fm oW S s3 := Fm_tr g3 (Fm_tr hf2 (Fm_wk hs3.1 (fun k j hh => Or.inr hh.1)))
        have hk4 := KMn_q hK hnp (q_oW hf4)
        show Rn (b_X10_ask_45 N (b_X10_ask_20 N n) (m + 1) 78 w (nI (as_ c d r l i).1) (nI i) (nI p) s3) _
        unfold b_X10_ask_45
        have e1 : sg s3 103 p = dys c d (trn r (i / 8) (nI (i % 8))) 5 (64 + p) := (hs3.1.1 _ _ (by omega)).trans (hso p hp)
        rw [hk4.1.1.1.2, leF (by omega) (by omega), l8, nIm, nIa, r78_58, r78_59, n103, n104, inbT (by omega) (by decide), inbT (by omega) (by decide), nIc (by omega), nIc (by omega), e1, nI1]
        refine ih3 _ ⟨Fm_sp hs3.1 ⟨rfl, by omega⟩, fun x hx => ?_⟩
        by_cases z : x = p
        · subst z
          rw [sgp]
        · rw [sgj (by omega)]
          exact hs3.2 x (by omega)
theorem m_new {T : Tb} {p a w b0 m0 n0 : Nat} {k96 : Nat → Int32 → Int32 → Int32 → Int32 → Int32 → am_S → Option (Int32 × am_S)} {k111 : Nat → Int32 → Int32 → Int32 → Int32 → Int32 → Int32 → Int32 → am_S → Option (Int32 × am_S)} {x y z v : Int32} (hN : 10000 ≤ N) (hT : TbAt S 104 (cnp c) T) (hp : p < cnp c) (hp8 : cnp c ≤ 8) (ha : a < T.1) (h56 : T.1 ≤ 56) : b_X10_ask_123 N k96 k111 N 78 x (nI T.1) y z (nI p) v (nI a) 1 0 S = k111 78 x (nI T.1) y z (nI p) (v + bI (newB T p a)) (nI (a + 1)) S := by
  have e0 : sg S 104 (8 * a + p) = T.2 a p := hT a p ha hp
  have key : ∀ (d n b : Nat), b + d = a → d + 1 < n → anyN (fun b => decide (T.2 b p = T.2 a p)) b = false → b_X10_ask_123 N k96 k111 n 78 x (nI T.1) y z (nI p) v (nI a) 1 (nI b) S = k111 78 x (nI T.1) y z (nI p) (v + bI (newB T p a)) (nI (a + 1)) S := by
    intro d
    induction d with
    | zero =>
      intro n b hb hn hf
      cases n with
      | zero => omega
      | succ n =>
        have : b = a := by omega
        subst this
        unfold b_X10_ask_123 b_X10_ask_177 b_X10_ask_189
        rw [leT (Nat.le_refl _) (by omega), if_neg (by decide), nI1]
        unfold newB
        rw [hf]
        rfl
    | succ d ih =>
      intro n b hb hn hf
      cases n with
      | zero => omega
      | succ n =>
        have e1 : sg S 104 (8 * b + p) = T.2 b p := hT b p (by omega) hp
        rw [b_X10_ask_123]
        unfold b_X10_ask_169
        rw [leF (by omega) (by omega), if_neg (by decide), l8, nIm, nIm, nIa, nIa, r78_59, n104, inbT (by omega) (by decide), inbT (by omega) (by decide), nIc (by omega), nIc (by omega), e0, e1, nI1]
        by_cases zz : T.2 b p = T.2 a p
        · rw [if_pos zz.symm]
          cases n with
          | zero => omega
          | succ n =>
            have hall : anyN (fun b => decide (T.2 b p = T.2 a p)) a = true := anyN_of (i := b) (decide_eq_true zz) a (by omega)
            rw [b_X10_ask_123]
            unfold b_X10_ask_177 b_X10_ask_189 newB
            rw [if_pos (rfl : (0 : Int32) = 0), hall, nI1]
            split <;> rfl
        · rw [if_neg (fun q => zz q.symm)]
          refine ih n (b + 1) (by omega) (by omega) ?_
          show (anyN _ b || decide (T.2 b p = T.2 a p)) = false
          rw [hf, decide_eq_false zz]
          rfl
  exact key a N 0 (by omega) (by omega) rfl
theorem m_ask {T : Tb} {w : Nat} (hN : 10000 ≤ N) (hI : CI c) (hK : CM S c) (hT : TbAt S 104 (cnp c) T) (h56 : T.1 ≤ 56) (hw : w ≤ 1) : b_X10_ask_96 N N 78 (nI w) (nI T.1) (-1) 0 0 S = some (if w = 0 then (ak_ T (cnp c)).1 else (ak_ T (cnp c)).2, S) := by
  have hnp := hI.1.2
  refine lp_eq (fun n (a : Int32 × Int32) i => b_X10_ask_96 N n 78 (nI w) (nI T.1) a.1 a.2 i S) (akF T) (fun a => some (if w = 0 then a.1 else a.2, S)) (cnp c) (fun _ _ => True) (-1, 0) trivial (fun _ _ _ _ => trivial) (fun n a _ => ?_) (fun n i a hi _ => ?_) N (by omega)
  · show b_X10_ask_96 N (n + 1) 78 (nI w) (nI T.1) a.1 a.2 (nI (cnp c)) S = _
    unfold b_X10_ask_96 b_X10_ask_231
    rw [hK.1.2, leT (Nat.le_refl _) (by omega)]
    have : w = 0 ∨ w = 1 := by omega
    rcases this with h | h <;> subst h
    · rw [if_pos (by decide), if_pos rfl]
    · rw [if_neg (by decide), if_neg (by decide)]
  · show b_X10_ask_96 N (n + 1) 78 (nI w) (nI T.1) a.1 a.2 (nI i) S = b_X10_ask_96 N n 78 (nI w) (nI T.1) (akF T i a).1 (akF T i a).2 (nI (i + 1)) S
    rw [b_X10_ask_96, hK.1.2, leF (by omega) (by omega)]
    refine (lp_sI (fun m v j => b_X10_ask_111 N (b_X10_ask_96 N n) m 78 (nI w) (nI T.1) a.1 a.2 (nI i) v j S) (fun q => bI (newB T i q)) (fun v => if a.2 < v then b_X10_ask_96 N n 78 (nI w) (nI T.1) (nI i) v (nI (i + 1)) S else b_X10_ask_96 N n 78 (nI w) (nI T.1) a.1 a.2 (nI (i + 1)) S) T.1 (fun m v => ?_) (fun m j v hj => ?_) N (by omega)).trans ?_
    · show b_X10_ask_111 N (b_X10_ask_96 N n) (m + 1) 78 (nI w) (nI T.1) a.1 a.2 (nI i) v (nI T.1) S = _
      unfold b_X10_ask_111 b_X10_ask_215
      rw [leT (Nat.le_refl _) (by omega), nI1]
    · show b_X10_ask_111 N (b_X10_ask_96 N n) (m + 1) 78 (nI w) (nI T.1) a.1 a.2 (nI i) v (nI j) S = b_X10_ask_111 N (b_X10_ask_96 N n) m 78 (nI w) (nI T.1) a.1 a.2 (nI i) (v + bI (newB T i j)) (nI (j + 1)) S
      rw [b_X10_ask_111, leF (by omega) (by omega)]
      exact m_new (w := 0) (b0 := 0) (m0 := 0) (n0 := 0) hN hT hi hnp hj h56
    · show (if a.2 < unl T i then _ else _) = _
      unfold akF
      by_cases z : unl T i ≤ a.2
      · rw [if_neg (nlt_of_le z), if_pos z]
      · rw [if_pos (by rw [Int32.le_iff_toInt_le] at z; rw [Int32.lt_iff_toInt_lt]; omega), if_neg z]
        rfl
def Jn6 (t : Nat) (c : Cy) (r : Rw) (l : Nl) (fc : am_S → Option am_T) (fm : am_S → Option (Int32 × am_S)) (cd : Nat → Int32) : Prop := ∃ A : Int32 ⊕ Nat, (∀ S, KCn S t c r l → Rn (fc S) (fun q => q.1 = A ∧ Fm (qC6 t) S q.2)) ∧ (∀ S, KMn S c r l → Rn (fm S) (fun q => mok cd A q ∧ Fm qM S q.2))
theorem j_ask {w : Int32} (hN : 10000 ≤ N) (hI : CI c) (hWR : WR c r) (hW : NW c l) : Jn6 t c r l (f_X9_ask N 0 w) (f_X10_ask N 78 w) cd2 := by
  have hnp := hI.1.2
  obtain ⟨hRI, d, hd, hd0⟩ := hWR
  by_cases h1 : vR w 0 1
  · obtain ⟨wi, -, hw, ew⟩ := vR_n h1 (by omega) (by omega)
    have h56 := as_le (c := c) (d := d) (r := r) (l := l) (n := 8 * cnp c) (by omega)
    refine ⟨.inl (if wi = 0 then (ak_ (as_ c d r l (8 * cnp c)) (cnp c)).1 else (ak_ (as_ c d r l (8 * cnp c)) (cnp c)).2), fun S hK => ?_, fun S hK => ?_⟩
    · unfold f_X9_ask
      rw [g_w1.1 h1, bt_inl, ew]
      refine Rn_bd (Rn_mono (c_gather hN hI hW hd hRI hd0 hK) (fun q h => ?_))
      rw [h.1]
      exact Rn_eq (c_ask hN hI h.2.2.1.1 h.2.1 h56 (by omega)) ⟨rfl, h.2.2.2⟩
    · obtain ⟨k1, k2, k3⟩ := KMn_0 hK hnp
      unfold f_X10_ask
      rw [(h_w1 k2).1 h1, bd_some, if_neg (by decide), ew]
      refine m_gather hN hI hW hd hRI hd0 k1 (fun s g1 g2 => ?_)
      refine Rn_eq (m_ask hN hI (KMn_q k1 hnp (q_oW g1)).1.1 g2 h56 (by omega)) ⟨⟨rfl, ?_⟩, Fm_tr k3 (q_oW g1)⟩
      exact (g1.1 _ _ (by unfold oW nW mW; omega)).trans k2
  · refine ⟨.inr 0, fun S hK => ?_, fun S hK => ?_⟩
    · unfold f_X9_ask
      rw [g_w1.2 h1, bt_inr]
      exact Rn_ret ⟨rfl, Fm_rf _ _⟩
    · obtain ⟨k1, k2, k3⟩ := KMn_0 hK hnp
      unfold f_X10_ask
      rw [(h_w1 k2).2 h1, bd_some, if_pos rfl]
      exact Rn_ret ⟨sgp _ _ _ _, q_thr k3⟩
end
