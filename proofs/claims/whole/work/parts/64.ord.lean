/-! an order: the reference's -/
def dn (j : Nat) : Int32 := nI j + (-1)
theorem dn_s (j : Nat) : dn (j + 1) = nI j := by
  unfold dn
  rw [← nI1, Int32.add_assoc]
  exact Int32.add_zero _
section
variable {N t : Nat} {c : Cy} {S : am_S} {r : Rw}
theorem m_copies {a b la lb : Nat} (ha : ln a = la) (hb : ln b = lb) (hab : ¬ a = b) (h1 : la ≤ lb) (h2 : la < N) (h3 : lb < 100000) : Rn (f_X10_copies N 78 a b S) (fun S' => (∀ j, j < la → sg S' b j = sg S a j) ∧ Fm (fun k j => k = b ∧ j < la) S S') := by
  unfold f_X10_copies
  refine lp0 (fun n (s : am_S) i => b_X10_copies_2 N n a b i s) (fun i s => (∀ j, j < i → sg s b j = sg S a j) ∧ Fm (fun k j => k = b ∧ j < la) S s) _ la ?_ ?_ N S h2 ⟨fun j hj => by omega, Fm_rf _ _⟩
  · intro n s hs
    show Rn (b_X10_copies_2 N (n + 1) a b (nI la) s) _
    unfold b_X10_copies_2
    rw [ha, leT (Nat.le_refl _) (by omega)]
    exact Rn_ret hs
  · intro n i s hi hs ih
    show Rn (b_X10_copies_2 N (n + 1) a b (nI i) s) _
    unfold b_X10_copies_2
    rw [ha, hb, leF (by omega) (by omega), inbT (by omega) (by omega), inbT (by omega) (by omega), nIc (by omega), nI1]
    refine ih _ ⟨fun j hj => ?_, Fm_sp hs.2 ⟨rfl, hi⟩⟩
    by_cases z : j = i
    · subst z
      rw [sgp]
      exact hs.2.1 _ _ (fun q => hab q.1)
    · rw [sgj z]
      exact hs.1 j (by omega)
def Oq (S : am_S) (n : Nat) (q : Nat → Nat) : Prop := ∀ k, k < n → sg S 100 k = nI (q k)
theorem m_swaps {n a b : Nat} {q : Nat → Nat} (ha : a < n) (hb : b < n) (hn : n ≤ 6) (hq : Oq S n q) : Rn (f_X10_swaps N 78 (nI a) (nI b) S) (fun S' => Oq S' n (swq q a b) ∧ Fm (fun k _ => k = 100) S S') := by
  unfold f_X10_swaps
  rw [r78_53, n100, inbT (by omega) (by decide), inbT (by omega) (by decide), inbT (by omega) (by decide), inbT (by omega) (by decide), nIc (by omega), nIc (by omega), hq a ha, hq b hb]
  refine Rn_ret ⟨fun k hk => ?_, Fm_sp (Fm_sp (Fm_rf _ _) rfl) rfl⟩
  unfold swq
  by_cases z : k = b
  · rw [if_pos z, z, sgp]
  · rw [if_neg z, sgj z]
    by_cases y : k = a
    · rw [if_pos y, y, sgp]
    · rw [if_neg y, sgj y]
      exact hq k hk
theorem m_rev {n : Nat} (hn : n ≤ 6) : ∀ (f m a o : Nat) (q : Nat → Nat) (s : am_S), f < m → o ≤ a + f → o < n → a < 100 → Oq s n q → Rn (b_X10_nextOrder_85 N m 78 (nI o) (nI a) s) (fun z => z.1 = 1 ∧ Oq z.2 n (rv f a o q) ∧ Fm (fun k _ => k = 100) s z.2) := by
  intro f
  induction f with
  | zero =>
    intro m a o q s hm hf ho h100 hq
    cases m with
    | zero => omega
    | succ m =>
      unfold b_X10_nextOrder_85
      rw [leT (by omega) (by omega)]
      exact Rn_ret ⟨rfl, hq, Fm_rf _ _⟩
  | succ f ih =>
    intro m a o q s hm hf ho h100 hq
    cases m with
    | zero => omega
    | succ m =>
      unfold b_X10_nextOrder_85 rv
      by_cases z : o ≤ a
      · rw [leT z (by omega), if_pos z]
        exact Rn_ret ⟨rfl, hq, Fm_rf _ _⟩
      · rw [leF (by omega) (by omega), if_neg z]
        refine Rn_bv (Rn_mono (m_swaps (by omega) ho hn hq) (fun S1 h1 => ?_))
        obtain ⟨o, rfl⟩ : ∃ o', o = o' + 1 := ⟨o - 1, by omega⟩
        have e : nI (o + 1) + (-1) = nI o := dn_s o
        rw [e, nI1]
        exact Rn_mono (ih m (a + 1) o _ S1 (by omega) (by omega) (by omega) (by omega) h1.1) (fun z h => ⟨h.1, h.2.1, Fm_tr h1.2 h.2.2⟩)
theorem m_fo {n k : Nat} {q : Nat → Nat} (hN : 10000 ≤ N) (hn : n ≤ 6) (hq6 : ∀ j, j < n → q j < 6) (hC : sg S 78 1 = nI n) (hq : Oq S n q) (hk : q k ≤ q (k + 1)) : ∀ (o m : Nat), o < m → k + 1 ≤ o → o < n → Rn (b_X10_nextOrder_47 N m 78 (nI k) (nI o) S) (fun z => z.1 = 1 ∧ Oq z.2 n (rv 6 (k + 1) (n - 1) (swq q k (fo q k o))) ∧ Fm (fun k _ => k = 100) S z.2) := by
  intro o
  induction o with
  | zero => intro m _ h; omega
  | succ o ih =>
    intro m hm ho hon
    cases m with
    | zero => omega
    | succ m =>
      have b1 := hq6 k (by omega)
      have b2 := hq6 (o + 1) hon
      unfold b_X10_nextOrder_47 fo
      rw [r78_53, n100, inbT (by omega) (by decide), inbT (by omega) (by decide), nIc (by omega), nIc (by omega), hq k (by omega), hq (o + 1) hon]
      by_cases z : q k ≤ q (o + 1)
      · rw [leT z (by omega), if_pos z]
        refine Rn_bv (Rn_mono (m_swaps (by omega) hon hn hq) (fun S1 h1 => ?_))
        have e1 : sg S1 78 1 = nI n := (h1.2.1 _ _ (by omega)).trans hC
        rw [e1, l1, nIs (by omega), ← l1, nI1]
        exact Rn_mono (m_rev hn 6 N (k + 1) (n - 1) _ S1 (by omega) (by omega) (by omega) (by omega) h1.1) (fun z h => ⟨h.1, h.2.1, Fm_tr h1.2 h.2.2⟩)
      · rw [leF (by omega) (by omega), if_neg z]
        have e : nI (o + 1) + (-1) = nI o := dn_s o
        rw [e]
        have hne : ¬ k = o := fun y => z (by rw [← y]; exact hk)
        exact ih m (by omega) (by omega) (by omega)
theorem m_next {n : Nat} {q : Nat → Nat} (hN : 10000 ≤ N) (hn0 : 0 < n) (hn : n ≤ 6) (hq6 : ∀ j, j < n → q j < 6) (hC : sg S 78 1 = nI n) (hq : Oq S n q) : Rn (f_X10_nextOrder N 78 S) (fun z => (nxq n q = none ∧ z.1 = 0 ∧ z.2 = S) ∨ ∃ q', nxq n q = some q' ∧ z.1 = 1 ∧ Oq z.2 n q' ∧ Fm (fun k _ => k = 100) S z.2) := by
  have fin : ∀ j, j ≤ n - 1 → fk q (n - 1) = j → (0 < j → q (j - 1) ≤ q j) → Rn (b_X10_nextOrder_34 N 78 (dn j) S) (fun z => (nxq n q = none ∧ z.1 = 0 ∧ z.2 = S) ∨ ∃ q', nxq n q = some q' ∧ z.1 = 1 ∧ Oq z.2 n q' ∧ Fm (fun k _ => k = 100) S z.2) := by
    intro j hj ej hle
    unfold b_X10_nextOrder_34
    cases j with
    | zero =>
      rw [if_neg (by decide)]
      refine Rn_ret (Or.inl ⟨?_, rfl, rfl⟩)
      unfold nxq
      rw [if_pos ej]
    | succ j =>
      rw [dn_s, l0, leT (by omega) (by omega), hC, l1, nIs (by omega)]
      refine Rn_mono (m_fo hN hn hq6 hC hq (hle (by omega)) (n - 1) N (by omega) (by omega) (by omega)) (fun z h => Or.inr ⟨_, ?_, h.1, h.2.1, h.2.2⟩)
      unfold nxq
      rw [if_neg (by omega), ej]
      rfl
  unfold f_X10_nextOrder
  have key : ∀ j m, j < m → j ≤ n - 1 → fk q (n - 1) = fk q j → Rn (b_X10_nextOrder_7 N m 78 (dn j) S) (fun z => (nxq n q = none ∧ z.1 = 0 ∧ z.2 = S) ∨ ∃ q', nxq n q = some q' ∧ z.1 = 1 ∧ Oq z.2 n q' ∧ Fm (fun k _ => k = 100) S z.2) := by
    intro j
    induction j with
    | zero =>
      intro m hm hj ej
      cases m with
      | zero => omega
      | succ m =>
        unfold b_X10_nextOrder_7
        rw [if_pos (by decide)]
        exact fin 0 hj ej (fun h => by omega)
    | succ j ih =>
      intro m hm hj ej
      cases m with
      | zero => omega
      | succ m =>
        have b1 := hq6 j (by omega)
        have b2 := hq6 (j + 1) (by omega)
        unfold b_X10_nextOrder_7
        rw [dn_s, lt0F (by omega), r78_53, n100, nI1, inbT (by omega) (by decide), inbT (by omega) (by decide), nIc (by omega), nIc (by omega), hq j (by omega), hq (j + 1) (by omega)]
        have efk : fk q (j + 1) = if q j ≤ q (j + 1) then j + 1 else fk q j := rfl
        rw [efk] at ej
        by_cases z : q j ≤ q (j + 1)
        · rw [leT z (by omega), ← dn_s]
          rw [if_pos z] at ej
          exact fin (j + 1) hj ej (fun _ => z)
        · rw [leF (by omega) (by omega)]
          rw [if_neg z] at ej
          exact ih m (by omega) (by omega) ej
  have e : sg S 78 1 - 2 = dn (n - 1) := by
    rw [hC]
    have : n = 1 ∨ n = 2 ∨ n = 3 ∨ n = 4 ∨ n = 5 ∨ n = 6 := by omega
    rcases this with h | h | h | h | h | h <;> subst h <;> decide
  rw [e]
  exact key (n - 1) N (by omega) (by omega) rfl
/-- days by a row -/
theorem m_comesO {n d j : Nat} {q : Nat → Nat} (hC : sg S 78 1 = nI n) (hn : n ≤ 6) (hj : j < n) (h52 : sg S 78 52 = 1) (h0 : sg S 96 0 = nI d) (hd : d < 5000) (hq : Oq S n q) : f_X10_comesOn N 78 (nI (d + j)) S = some (nI (q j), S) := by
  unfold f_X10_comesOn
  rw [hC, eq0F (by omega) (by omega), h52, if_neg (by decide), r78_46, n96, inb0T (by decide) (by decide), c00, h0, nIs (by omega), Nat.add_sub_cancel_left, eq0F (by omega) (by omega), nImod (by omega) (by omega), Nat.mod_eq_of_lt hj, r78_53, n100, inbT (by omega) (by decide), nIc (by omega), hq j hj]
theorem m_ogo {d : Nat} {q : Nat → Nat} (hN : 10000 ≤ N) (hI : CI c) (hC : CM S c) (h51 : sg S 78 51 = -1) (h52 : sg S 78 52 = 1) (hR : RM S 0 (72 + cnp c) r) (hRI : RI c r) (hd0 : r 0 = nI d) (hd : d ≤ 999) (hq : Oq S (cnb c) q) (hq6 : ∀ j, j < cnb c → q j < cnb c) : Rn (f_X10_goesTo N 78 (nI (cnb c)) S) (fun S' => RM S' 80 (72 + cnp c) (odI c d r q (cnb c)) ∧ Fm (mW 80) S S') := by
  have hnb := hI.1.1
  have hnp := hI.1.2
  have e0 : sg S 96 0 = nI d := by rw [RM_0 hR (by omega), hd0]
  unfold f_X10_goesTo f_X10_daysGo
  refine Rn_bv (Rn_mono (m_tries hN (by omega) hR) (fun S1 h1 => ?_))
  have key : Rn (b_X10_daysGo_2 N N 78 (nI (cnb c)) 0 S1) (fun S' => RM S' 80 (72 + cnp c) (odI c d r q (cnb c)) ∧ Fm (mW 80) S S') := by
    refine lp0 (fun m (s : am_S) i => b_X10_daysGo_2 N m 78 (nI (cnb c)) i s) (fun i s => RM s 80 (72 + cnp c) (odI c d r q i) ∧ Fm (mW 80) S s) _ (cnb c) ?_ ?_ N S1 (by omega) ⟨h1.1, Fm_wk h1.2 mR_W⟩
    · intro m s hs
      show Rn (b_X10_daysGo_2 N (m + 1) 78 (nI (cnb c)) (nI (cnb c)) s) _
      unfold b_X10_daysGo_2
      rw [leT (Nat.le_refl _) (by omega)]
      exact Rn_ret hs
    · intro m i s hi hs ih
      show Rn (b_X10_daysGo_2 N (m + 1) 78 (nI (cnb c)) (nI i) s) _
      unfold b_X10_daysGo_2
      obtain ⟨i1, i2⟩ := odI_in (q := q) hI hRI hd0 i (by omega) (fun j hj => hq6 j (by omega))
      rw [leF (by omega) (by omega), nI1, l80]
      have fr : ∀ S', Fm (mW 80) s S' → CM S' c ∧ sg S' 78 51 = -1 ∧ sg S' 78 52 = 1 ∧ sg S' 96 0 = nI d ∧ Oq S' (cnb c) q := fun S' hf => by
        have hf2 := Fm_tr hs.2 hf
        exact ⟨CM_m hC hf2, (hf2.1 _ _ (by unfold mW; omega)).trans h51, (hf2.1 _ _ (by unfold mW; omega)).trans h52, (hf2.1 _ _ (by unfold mW; omega)).trans e0, fun k hk => (hf2.1 _ _ (by unfold mW; omega)).trans (hq k hk)⟩
      refine Rn_bv (Rn_mono (m_day (vis := nI (q i)) (wet := cwe c (d + i)) hN (by omega) hI (CM_m hC hs.2) hs.1 i1 (Or.inr ⟨_, hq6 i hi, rfl⟩) i2 (fun S' hf hh => ?_) (fun S' hf => ?_)) (fun S' h => ?_))
      · obtain ⟨f1, f2, f3, f4, f5⟩ := fr S' hf
        exact m_wetIn (by omega) f1 f2 (by omega) hh
      · obtain ⟨f1, f2, f3, f4, f5⟩ := fr S' hf
        exact m_comesO f1.1.1 hnb hi f3 f4 (by omega) f5
      · exact ih S' ⟨h.1, Fm_tr hs.2 h.2.1⟩
  exact Rn_bv (Rn_mono key (fun S' h => Rn_ret h))
def oX : Nat → Nat → Prop := fun k j => mW 80 k j ∨ k = 100 ∨ k = 101 ∨ (k = 78 ∧ j = 52)
theorem x_oend {S S' : am_S} (hO : sg S 78 52 = 0) (hf : Fm oX S S') : Fm qM S (sp S' 78 52 0) := by
  refine ⟨fun k j hk => ?_, hf.2⟩
  by_cases z : k = 78 ∧ j = 52
  · obtain ⟨rfl, rfl⟩ := z
    rw [sgp, hO]
  · by_cases y : k = 78
    · subst y
      rw [sgj (by omega)]
      exact hf.1 _ _ (by unfold oX mW; unfold qM at hk; omega)
    · rw [sgn y]
      exact hf.1 _ _ (by unfold oX mW; unfold qM at hk; omega)
def ordV (c : Cy) (r : Rw) (a : Int32 × List Nat) (w : Int32) : Int32 := if w = -1 then a.1 - sm r 64 8 else nI (gq a.2 w.toNatClampNeg)
/-- what the reference has so far -/
def Rst2 (S : am_S) (c : Cy) (r : Rw) (m : Int32) (a : Int32 × List Nat) : Prop := (m = a.1 - sm r 64 8 ∧ (sm r 64 8).toInt ≤ a.1.toInt ∧ a.1.toInt ≤ 79992) ∧ ∀ k, k < cnb c → sg S 101 k = nI (gq a.2 k)
def Rst (S : am_S) (c : Cy) (r : Rw) (m : Int32) (a : Int32 × List Nat) : Prop := (a.1 = -1 ∧ m = -1) ∨ Rst2 S c r m a
theorem m_oloop {d : Nat} {w : Int32} (hN : 10000 ≤ N) (hI : CI c) (hb0 : 0 < cnb c) (hK : KM S c r) (hRI : RI c r) (hd0 : r 0 = nI d) (hd : d ≤ 999) (hw : w = -1 ∨ ∃ i, i < cnb c ∧ w = nI i) : ∀ (L : List (List Nat)) (n : Nat) (s : am_S) (m : Int32) (a : Int32 × List Nat) (h : List Nat), L.length + 1 < n → chk (cnb c) (h :: L) = true → (∀ x, x ∈ h :: L → okP (cnb c) x = true) → Fm oX S s → sg s 78 52 = 1 → Oq s (cnb c) (gq h) → Rst s c r m a → Rn (b_X10_order_74 N n 78 w m 1 s) (fun q => q.1 = ordV c r ((h :: L).foldl (wgf c d r) a) w ∧ Fm qM S q.2 ∧ sg q.2 78 0 = sg S 78 0) := by
  have hnb := hI.1.1
  have hnp := hI.1.2
  obtain ⟨kC, ⟨k51, k52⟩, kR⟩ := hK
  have frx : ∀ S', Fm oX S S' → CM S' c ∧ sg S' 78 51 = -1 ∧ RM S' 0 (72 + cnp c) r := fun S' hf => ⟨CM_same kC (fun a i ha => hf.1 a i (by unfold mC at ha; unfold oX mW; omega)), (hf.1 _ _ (by unfold oX mW; omega)).trans k51, RM_same kR (fun j hj => hf.1 _ _ (by unfold oX mW; omega))⟩
  have step : ∀ (n : Nat) (s : am_S) (m : Int32) (a : Int32 × List Nat) (h : List Nat) (Q : Int32 × am_S → Prop), okP (cnb c) h = true → Fm oX S s → sg s 78 52 = 1 → Oq s (cnb c) (gq h) → Rst s c r m a → (∀ s' m', Fm oX S s' → sg s' 78 52 = 1 → Oq s' (cnb c) (gq h) → Rst2 s' c r m' (wgf c d r a h) → Rn (b_X10_order_125 N (b_X10_order_74 N n) 78 w m' s') Q) → Rn (b_X10_order_74 N (n + 1) 78 w m 1 s) Q := by
    intro n s m a h Q hok hf h52 hq hR hk
    obtain ⟨f1, f2, f3⟩ := frx s hf
    obtain ⟨o1, o2⟩ := okP_in hok
    obtain ⟨p1, p2, p3⟩ := hpr_in hI hRI hd0 hd hok
    obtain ⟨i1, -⟩ := odI_in (q := gq h) hI hRI hd0 (cnb c) (by omega) o2
    rw [b_X10_order_74, if_neg (by decide), f1.1.1]
    refine Rn_bv (Rn_mono (m_ogo hN hI f1 f2 h52 f3 hRI hd0 hd hq o2) (fun S1 g1 => ?_))
    have hf1 : Fm oX S S1 := Fm_tr hf (Fm_wk g1.2 (fun k j hh => Or.inl hh))
    obtain ⟨e1, e2, e3⟩ := frx S1 hf1
    have h52' : sg S1 78 52 = 1 := (g1.2.1 _ _ (by unfold mW; omega)).trans h52
    have hq' : Oq S1 (cnb c) (gq h) := fun k hk => (g1.2.1 _ _ (by unfold mW; omega)).trans (hq k hk)
    rw [l80, l64, m_sumOf (Or.inr rfl) hN (by omega) hI e1 g1.1 i1, bd_some, l0, m_sumOf (Or.inr rfl) hN (by omega) hI e1 e3 hRI, bd_some]
    have eh : sm (odI c d r (gq h) (cnb c)) 64 8 = hpr c d r h := rfl
    rw [eh]
    have eS : (hpr c d r h - sm r 64 8).toInt = (hpr c d r h).toInt - (sm r 64 8).toInt := tS (by omega) (by omega)
    have better : ¬ hpr c d r h ≤ a.1 → Rn (bv (f_X10_copies N 78 (rf 78 53) (rf 78 55) S1) (fun S15 => b_X10_order_125 N (b_X10_order_74 N n) 78 w (hpr c d r h - sm r 64 8) S15)) Q := by
      intro hb
      rw [r78_53, r78_55]
      refine Rn_bv (Rn_mono (m_copies (la := 6) (lb := 6) n100 n101 (by omega) (by omega) (by omega) (by omega)) (fun S2 g2 => ?_))
      have ew : wgf c d r a h = (hpr c d r h, h) := if_neg hb
      refine hk S2 _ (Fm_tr hf1 (Fm_wk g2.2 (fun k j hh => Or.inr (Or.inr (Or.inl hh.1))))) ((g2.2.1 _ _ (by omega)).trans h52') (fun k hk => (g2.2.1 _ _ (by omega)).trans (hq' k hk)) ?_
      rw [ew]
      exact ⟨⟨rfl, p2, p3⟩, fun k hk => (g2.1 k (by omega)).trans (hq' k hk)⟩
    rcases hR with ⟨r1, r2⟩ | ⟨⟨r1, r2, r3⟩, r4⟩
    · rw [r2, if_neg (fun z => by have := Int32.le_iff_toInt_le.mp z; rw [eS, tm1] at this; omega)]
      exact better (fun z => by have := Int32.le_iff_toInt_le.mp z; rw [r1, tm1] at this; omega)
    · have eM : (a.1 - sm r 64 8).toInt = a.1.toInt - (sm r 64 8).toInt := tS (by omega) (by omega)
      by_cases z : hpr c d r h ≤ a.1
      · rw [r1, if_pos (Int32.le_iff_toInt_le.mpr (by have := Int32.le_iff_toInt_le.mp z; rw [eS, eM]; omega))]
        have ew : wgf c d r a h = a := if_pos z
        refine hk S1 _ hf1 h52' hq' ?_
        rw [ew]
        exact ⟨⟨rfl, r2, r3⟩, fun k hk => (g1.2.1 _ _ (by unfold mW; omega)).trans (r4 k hk)⟩
      · rw [r1, if_neg (fun y => z (Int32.le_iff_toInt_le.mpr (by have := Int32.le_iff_toInt_le.mp y; rw [eS, eM] at this; omega)))]
        exact better z
  intro L
  induction L with
  | nil =>
    intro n s m a h hn hch hok hf h52 hq hR
    obtain ⟨n, rfl⟩ : ∃ n', n = n' + 2 := ⟨n - 2, by simp at hn; omega⟩
    have hoh := hok h (List.mem_singleton.mpr rfl)
    refine step (n + 1) s m a h _ hoh hf h52 hq hR (fun s' m' a1 a2 a3 a4 => ?_)
    obtain ⟨f1, f2, f3⟩ := frx s' a1
    unfold b_X10_order_125
    refine Rn_bd (Rn_mono (m_next hN hb0 hnb (fun j hj => by have := (okP_in hoh).2 j hj; omega) f1.1.1 a3) (fun z hz => ?_))
    have hnone : nxq (cnb c) (gq h) = none := by
      unfold chk at hch
      exact Option.isNone_iff_eq_none.mp hch
    rcases hz with ⟨-, z1, z2⟩ | ⟨q', z1, -⟩
    · rw [z1, z2]
      unfold b_X10_order_74 b_X10_order_153
      have hfin : Fm qM S (sp s' 78 52 0) := x_oend k52 a1
      have h0 : sg (sp s' 78 52 0) 78 0 = sg S 78 0 := by
        rw [sgj (by omega)]
        exact a1.1 _ _ (by unfold oX mW; omega)
      rw [if_pos rfl]
      show Rn _ (fun (q : Int32 × am_S) => q.1 = ordV c r (wgf c d r a h) w ∧ Fm qM S q.2 ∧ sg q.2 78 0 = sg S 78 0)
      unfold ordV
      rcases hw with hw | ⟨i, hi, hw⟩
      · rw [if_pos hw, if_pos hw, a4.1.1]
        exact Rn_ret ⟨rfl, hfin, h0⟩
      · rw [hw, if_neg (nIn (by omega)), if_neg (nIn (by omega)), r78_55, n101, inbT (by omega) (by decide), nIc (by omega), sgn (by omega), a4.2 i hi]
        exact Rn_ret ⟨rfl, hfin, h0⟩
    · rw [hnone] at z1
      cases z1
  | cons b L ih =>
    intro n s m a h hn hch hok hf h52 hq hR
    obtain ⟨n, rfl⟩ : ∃ n', n = n' + 1 := ⟨n - 1, by simp at hn; omega⟩
    have hoh := hok h List.mem_cons_self
    have hob := hok b (List.mem_cons_of_mem _ List.mem_cons_self)
    refine step n s m a h _ hoh hf h52 hq hR (fun s' m' a1 a2 a3 a4 => ?_)
    obtain ⟨f1, f2, f3⟩ := frx s' a1
    unfold b_X10_order_125
    refine Rn_bd (Rn_mono (m_next hN hb0 hnb (fun j hj => by have := (okP_in hoh).2 j hj; omega) f1.1.1 a3) (fun z hz => ?_))
    unfold chk at hch
    rw [Bool.and_eq_true, beq_iff_eq] at hch
    rcases hz with ⟨z0, -, -⟩ | ⟨q', z0, z1, z2, z3⟩
    · rw [z0] at hch
      cases hch.1
    · rw [z0] at hch
      have eb : tol (cnb c) q' = b := Option.some.inj hch.1
      have eq' : ∀ k, k < cnb c → q' k = gq b k := fun k hk => by
        rw [← eb]
        unfold gq tol
        rw [List.getD_eq_getElem?_getD, List.getElem?_map, List.getElem?_range hk]
        rfl
      rw [z1]
      refine ih n z.2 m' (wgf c d r a h) b (by simp at hn; omega) hch.2 (fun x hx => hok x (List.mem_cons_of_mem _ hx)) (Fm_tr a1 (Fm_wk z3 (fun k j hh => Or.inr (Or.inl hh)))) ((z3.1 _ _ (by omega)).trans a2) (fun k hk => by rw [z2 k hk, eq' k hk]) (Or.inr ⟨a4.1, fun k hk => (z3.1 _ _ (by omega)).trans (a4.2 k hk)⟩)
theorem m_order {d : Nat} {w : Int32} (hN : 10000 ≤ N) (hI : CI c) (hb0 : 0 < cnb c) (hK : KM S c r) (hRI : RI c r) (hd0 : r 0 = nI d) (hd : d ≤ 999) (hw : w = -1 ∨ ∃ i, i < cnb c ∧ w = nI i) : Rn (b_X10_order_44 N N 78 w 0 S) (fun q => q.1 = ordV c r (bst c d r) w ∧ Fm qM S q.2 ∧ sg q.2 78 0 = sg S 78 0) := by
  have hnb := hI.1.1
  refine lp0 (fun m (s : am_S) i => b_X10_order_44 N m 78 w i s) (fun i s => Fm (fun k _ => k = 100) S s ∧ ∀ k, k < i → sg s 100 k = nI k) _ (cnb c) ?_ ?_ N S (by omega) ⟨Fm_rf _ _, fun k hk => by omega⟩
  · intro m s hs
    show Rn (b_X10_order_44 N (m + 1) 78 w (nI (cnb c)) s) _
    unfold b_X10_order_44
    have e1 : sg s 78 1 = nI (cnb c) := (hs.1.1 _ _ (by omega)).trans hK.1.1.1
    rw [e1, leT (Nat.le_refl _) (by omega)]
    have h1 := chk_ok (cnb c) (by omega)
    have h2 := prm_ok (cnb c) (by omega)
    have h3 := prm_0 (cnb c) (by omega)
    have h4 := prm_l (cnb c) (by omega)
    unfold bst
    cases hp : prm (cnb c) with
    | nil => rw [hp] at h3; cases h3
    | cons h L =>
      rw [hp] at h1 h2 h3 h4
      have eh : h = List.range (cnb c) := Option.some.inj h3
      have hf : Fm oX S (sp s 78 52 1) := Fm_sp (Fm_wk hs.1 (fun k j hh => Or.inr (Or.inl hh))) (Or.inr (Or.inr (Or.inr ⟨rfl, rfl⟩)))
      refine m_oloop hN hI hb0 hK hRI hd0 hd hw L N _ (-1) (-1, []) h (by simp at h4; omega) h1 (fun x hx => List.all_eq_true.mp h2 x hx) hf (sgp _ _ _ _) (fun k hk => ?_) (Or.inl ⟨rfl, rfl⟩)
      rw [sgn (by omega), hs.2 k hk, eh]
      unfold gq
      rw [List.getD_eq_getElem?_getD, List.getElem?_range hk]
      rfl
  · intro m i s hi hs ih
    show Rn (b_X10_order_44 N (m + 1) 78 w (nI i) s) _
    unfold b_X10_order_44
    have e1 : sg s 78 1 = nI (cnb c) := (hs.1.1 _ _ (by omega)).trans hK.1.1.1
    rw [e1, leF (by omega) (by omega), r78_53, n100, inbT (by omega) (by decide), nIc (by omega), nI1]
    refine ih _ ⟨Fm_sp hs.1 rfl, fun k hk => ?_⟩
    by_cases z : k = i
    · subst z
      rw [sgp]
    · rw [sgj z]
      exact hs.2 k (by omega)
end
