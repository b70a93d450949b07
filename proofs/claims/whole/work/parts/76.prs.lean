/-! a text is read: small steps of both sides -/
section
variable {N : Nat}
abbrev Ft : Type := Nat × Tk
def TkG (b : Tx) (T : Tk) : Prop := ∃ e, TkI b e T
def aS (b : Tx) (x : Ft) : Ft := if x.1 = 0 then (0, tk b x.2.2.1) else x
def aF (k : Nat) (x : Ft) : Ft := if x.1 = 0 then (k, x.2) else x
def aN (b : Tx) (m : Nat) (x : Ft) : Ft := aS b (if x.2.2.2 = 3 then (if num b x.2 ≤ m then x else aF 2 x) else aF 1 x)
def PCs (S : am_S) (b : Tx) (x : Ft) : Prop := (TkG b x.2 ∧ x.1 < 10) ∧ TC S b x.2 ∧ sg S 3 6 = nI x.1
def PMs (S : am_S) (b : Tx) (x : Ft) : Prop := (TkG b x.2 ∧ x.1 < 10) ∧ TM S b x.2 ∧ sg S 78 15 = nI x.1 ∧ sg S 78 16 = if x.1 = 0 then -1 else nI x.2.1
def cw6 : Nat → Nat → Prop := fun k j => k = 3 ∧ 2 ≤ j ∧ j ≤ 6
def mw6 : Nat → Nat → Prop := fun k j => k = 78 ∧ ((15 ≤ j ∧ j ≤ 16) ∨ (19 ≤ j ∧ j ≤ 24))
theorem G_hi {b : Tx} {T : Tk} (h : TkG b T) : T.1 ≤ T.2.1 ∧ T.2.1 ≤ b.1 := by
  obtain ⟨e, h⟩ := h
  exact ⟨tLe h, tHi h⟩
theorem G_kd {b : Tx} {T : Tk} (h : TkG b T) : T.2.2 < 62 := by
  obtain ⟨e, h⟩ := h
  by_cases z : T.2.2 = 0
  · omega
  · rw [(tNz h z).2]
    exact kd_lt _
theorem G_tk {b : Tx} {T : Tk} (h : TkG b T) : TkG b (tk b T.2.1) := ⟨_, tk_I (G_hi h).2⟩
theorem G_num {b : Tx} {T : Tk} (h : TkG b T) : num b T ≤ 10000 := by
  obtain ⟨e, h⟩ := h
  exact num_le h
theorem aS0 {b : Tx} {x : Ft} (h : x.1 = 0) : aS b x = (0, tk b x.2.2.1) := if_pos h
theorem aSf {b : Tx} {x : Ft} (h : ¬ x.1 = 0) : aS b x = x := if_neg h
theorem aF0 {k : Nat} {x : Ft} (h : x.1 = 0) : aF k x = (k, x.2) := if_pos h
theorem aFf {k : Nat} {x : Ft} (h : ¬ x.1 = 0) : aF k x = x := if_neg h
theorem aNf {b : Tx} {m : Nat} {x : Ft} (h : ¬ x.1 = 0) : aN b m x = x := by
  unfold aN
  rw [aFf h, aFf h, ite_self, ite_self, aSf h]
theorem TC_f {S S' : am_S} {b : Tx} {T : Tk} (h : TC S b T) (hf : S'.2 = S.2) (hs : ∀ k j, k = 1 ∨ (k = 3 ∧ j ≤ 5) → sg S' k j = sg S k j) : TC S' b T := by
  obtain ⟨⟨h1, h2, h3⟩, h4, h5, h6, h7⟩ := h
  exact ⟨⟨by unfold rg; rw [hf]; exact h1, (hs _ _ (by omega)).trans h2, fun j hj => (hs _ _ (by omega)).trans (h3 j hj)⟩, (hs _ _ (by omega)).trans h4, (hs _ _ (by omega)).trans h5, (hs _ _ (by omega)).trans h6, (hs _ _ (by omega)).trans h7⟩
theorem PCs_f {S S' : am_S} {b : Tx} {x : Ft} (h : PCs S b x) (hf : S'.2 = S.2) (hs : ∀ k j, k = 1 ∨ k = 3 → sg S' k j = sg S k j) : PCs S' b x := ⟨h.1, TC_f h.2.1 hf (fun k j hk => hs k j (by omega)), (hs _ _ (by omega)).trans h.2.2⟩
theorem PCs_o {S : am_S} {b : Tx} {x : Ft} {k j : Nat} {v : Int32} (h : PCs S b x) (hk : ¬ k = 1 ∧ ¬ k = 3) : PCs (sp S k j v) b x := PCs_f h rfl (fun a i ha => sgn (by omega))
theorem c_S {S : am_S} {b : Tx} {x : Ft} (hN : 10000 ≤ N) (hb : TxI b) (h : PCs S b x) : Rn (f_X8_step N 3 S) (fun S' => PCs S' b (aS b x) ∧ Fm cw6 S S') := by
  by_cases z : x.1 = 0
  · rw [aS0 z]
    have h6 : sg S 3 6 = 0 := by rw [h.2.2, z]; rfl
    refine Rn_mono (c_step8 hN hb h.2.1.1 h.2.1.2.2.1 (G_hi h.1.1).2 h6) (fun S' h' => ?_)
    refine ⟨⟨⟨G_tk h.1.1, Nat.zero_lt_succ _⟩, h'.1, ?_⟩, Fm_wk h'.2 (fun k j q => ⟨q.1, by unfold tkW at q; omega, by unfold tkW at q; omega⟩)⟩
    rw [h'.2.1 _ _ (by unfold tkW; omega), h6]
    rfl
  · rw [aSf z]
    unfold f_X8_step
    rw [h.2.2, eq0F (by omega) (by have := h.1.2; omega)]
    exact Rn_ret ⟨h, Fm_rf _ _⟩
theorem c_F {S : am_S} {b : Tx} {x : Ft} {k : Nat} (hk : k < 10) (h : PCs S b x) : Rn (f_X8_fail N 3 (nI k) S) (fun S' => PCs S' b (aF k x) ∧ Fm cw6 S S') := by
  unfold f_X8_fail b_X8_fail_12
  by_cases z : x.1 = 0
  · rw [aF0 z, h.2.2, eq0T z]
    exact Rn_ret ⟨⟨⟨h.1.1, hk⟩, TC_f h.2.1 rfl (fun a i ha => by
      by_cases q : a = 3
      · subst q
        exact sgj (by omega)
      · exact sgn q), sgp _ _ _ _⟩, Fm_sp (Fm_rf _ _) ⟨rfl, by omega, by omega⟩⟩
  · rw [aFf z, h.2.2, eq0F (by omega) (by have := h.1.2; omega)]
    exact Rn_ret ⟨h, Fm_rf _ _⟩
theorem c_fine {S : am_S} {b : Tx} {x : Ft} (h : PCs S b x) : f_X8_isFine N 3 S = some (if x.1 = 0 then 1 else 0, S) := by
  unfold f_X8_isFine b_X8_isFine_12
  rw [isB0, isB1, ckT, ckT, h.2.2]
  by_cases z : x.1 = 0
  · rw [eq0T z, if_pos z]
  · rw [eq0F (by omega) (by have := h.1.2; omega), if_neg z]
theorem c_N {S : am_S} {b : Tx} {x : Ft} {m : Nat} (hN : 10000 ≤ N) (hb : TxI b) (hm : m < 100000) (h : PCs S b x) : Rn (f_X8_takeNumber N 3 (nI m) S) (fun q => q.1 = nI (num b x.2) ∧ PCs q.2 b (aN b m x) ∧ Fm cw6 S q.2) := by
  have hk := G_kd h.1.1
  have hn := G_num h.1.1
  unfold f_X8_takeNumber b_X8_takeNumber_29
  rw [h.2.1.2.2.2.1, l3, l2, l1]
  have fin : ∀ S1 y, PCs S1 b y → y.2 = x.2 → Fm cw6 S S1 → aS b y = aN b m x → Rn (bv (f_X8_step N 3 S1) (fun S2 => some (sg S1 3 5, S2))) (fun q => q.1 = nI (num b x.2) ∧ PCs q.2 b (aN b m x) ∧ Fm cw6 S q.2) := by
    intro S1 y h1 h2 h3 h4
    refine Rn_bv (Rn_mono (c_S hN hb h1) (fun S2 g => Rn_ret ⟨?_, h4 ▸ g.1, Fm_tr h3 g.2⟩))
    show sg S1 3 5 = _
    rw [h1.2.1.2.2.2.2, h2]
  have hy : ∀ k, (aF k x).2 = x.2 := fun k => by unfold aF; split <;> rfl
  by_cases z : x.2.2.2 = 3
  · rw [eqT z, h.2.1.2.2.2.2]
    by_cases y : num b x.2 ≤ m
    · rw [leT y (by omega)]
      have := fin S x h rfl (Fm_rf _ _) (by unfold aN; rw [if_pos z, if_pos y])
      rw [h.2.1.2.2.2.2] at this
      exact this
    · rw [leF (by omega) (by omega)]
      refine Rn_bv (Rn_mono (c_F (by omega) h) (fun S1 g => ?_))
      exact fin S1 _ g.1 (hy 2) g.2 (by unfold aN; rw [if_pos z, if_neg y])
  · rw [eqF z (by omega) (by omega)]
    refine Rn_bv (Rn_mono (c_F (by omega) h) (fun S1 g => ?_))
    exact fin S1 _ g.1 (hy 1) g.2 (by unfold aN; rw [if_neg z])
theorem c_wd {S : am_S} {b : Tx} {x : Ft} {s : Nat} (hN : 10000 ≤ N) (hb : TxI b) (h : PCs S b x) (hs : s < 20) (hs1 : 1 ≤ s) : f_X8_isWord N 3 s S = some (if kw (wdn b x.2) = skw s then 1 else 0, S) := by
  obtain ⟨e, he⟩ := h.1.1
  exact c_word hN hb he h.2.1 hs hs1
/-! model -/
theorem TM_f {S S' : am_S} {b : Tx} {T : Tk} (h : TM S b T) (hl : lg S' 0 = lg S 0) (hs : ∀ k j, k = 85 ∨ (k = 78 ∧ 18 ≤ j ∧ j ≤ 24) → sg S' k j = sg S k j) : TM S' b T := by
  obtain ⟨⟨h1, h2⟩, h3, h4, h5, h6, h7, h8, h9⟩ := h
  exact ⟨⟨(hs _ _ (by omega)).trans h1, fun j hj => (hs _ _ (by omega)).trans (h2 j hj)⟩, (hs _ _ (by omega)).trans h3, (hs _ _ (by omega)).trans h4, (hs _ _ (by omega)).trans h5, (hs _ _ (by omega)).trans h6, (hs _ _ (by omega)).trans h7, (hs _ _ (by omega)).trans h8, hl.trans h9⟩
theorem PMs_f {S S' : am_S} {b : Tx} {x : Ft} (h : PMs S b x) (hl : lg S' 0 = lg S 0) (hs : ∀ k j, k = 85 ∨ (k = 78 ∧ 15 ≤ j ∧ j ≤ 24) → sg S' k j = sg S k j) : PMs S' b x := ⟨h.1, TM_f h.2.1 hl (fun k j hk => hs k j (by omega)), (hs _ _ (by omega)).trans h.2.2.1, (hs _ _ (by omega)).trans h.2.2.2⟩
theorem PMs_o {S : am_S} {b : Tx} {x : Ft} {k j : Nat} {v : Int32} (h : PMs S b x) (hk : ¬ k = 85 ∧ ¬ (k = 78 ∧ 15 ≤ j ∧ j ≤ 24)) : PMs (sp S k j v) b x := PMs_f h rfl (fun a i ha => by
  by_cases q : a = k
  · subst q
    exact sgj (by omega)
  · exact sgn q)
theorem m_good {S : am_S} {b : Tx} {x : Ft} (h : PMs S b x) : f_X10_isGood N 78 S = some (if x.1 = 0 then 1 else 0, S) := by
  unfold f_X10_isGood b_X10_isGood_12
  rw [isB0, isB1, ckT, ckT, h.2.2.1]
  by_cases z : x.1 = 0
  · rw [eq0T z, if_pos z]
  · rw [eq0F (by omega) (by have := h.1.2; omega), if_neg z]
theorem m_S {S : am_S} {b : Tx} {x : Ft} (hN : 10000 ≤ N) (hb : TxI b) (h : PMs S b x) (z : x.1 = 0) : Rn (f_X10_goes N 78 S) (fun S' => PMs S' b (aS b x) ∧ Fl mw6 S S') := by
  rw [aS0 z]
  refine Rn_mono (m_goes hN hb h.2.1.1 h.2.1.2.1 (G_hi h.1.1).2) (fun S' h' => ?_)
  refine ⟨⟨⟨G_tk h.1.1, Nat.zero_lt_succ _⟩, h'.1, ?_, ?_⟩, Fl_wk h'.2 (fun k j q => ⟨q.1, by unfold mgW at q; omega⟩)⟩
  · rw [h'.2.1 _ _ (by unfold mgW; omega), h.2.2.1, z]
  · rw [h'.2.1 _ _ (by unfold mgW; omega), h.2.2.2, if_pos z, if_pos rfl]
theorem m_F {S : am_S} {b : Tx} {x : Ft} {k : Nat} (hk : 0 < k ∧ k < 10) (h : PMs S b x) : Rn (f_X10_wrong N 78 (nI k) S) (fun S' => PMs S' b (aF k x) ∧ Fl mw6 S S') := by
  unfold f_X10_wrong
  by_cases z : x.1 = 0
  · rw [aF0 z, h.2.2.1, eq0T z, sgj (by omega), h.2.1.2.2.2.1]
    refine Rn_ret ⟨⟨⟨h.1.1, hk.2⟩, TM_f h.2.1 rfl (fun a i ha => ?_), ?_, ?_⟩, Fl_sp (Fl_sp (Fl_rf _ _) ⟨rfl, by omega⟩) ⟨rfl, by omega⟩⟩
    · by_cases q : a = 78
      · subst q
        rw [sgj (by omega), sgj (by omega)]
      · rw [sgn q, sgn q]
    · rw [sgj (by omega), sgp]
    · rw [sgp]
      show _ = if k = 0 then _ else _
      rw [if_neg (by omega)]
  · rw [aFf z, h.2.2.1, eq0F (by omega) (by have := h.1.2; omega)]
    exact Rn_ret ⟨h, Fl_rf _ _⟩
theorem ms3 {k : Nat} : ms k = 2 ↔ k = 3 := by
  unfold ms
  repeat' split
  all_goals omega
theorem mvl_num {b : Tx} {T : Tk} (h : T.2.2 = 3) (hl : tln T ≤ 4) : mvl b T = num b T := by
  unfold mvl num
  rw [if_pos h, if_pos h, if_pos hl, Nat.min_eq_right hl]
theorem mvl_lt {b : Tx} {T : Tk} (h : TkG b T) : mvl b T < 10000 := by
  obtain ⟨e, h⟩ := h
  unfold mvl
  split
  · rename_i h1
    have h3 := dg_lt (b := b) (p := T.1) (n := min 4 (tln T)) (fun i a c => (tWd h (Or.inr h1) i a (by have := tLe h; unfold tln at c; omega)).trans h1)
    have h4 : 10 ^ (min 4 (tln T)) ≤ 10 ^ 4 := Nat.pow_le_pow_right (by omega) (by omega)
    omega
  · omega
theorem num_4 {b : Tx} {T : Tk} (h : T.2.2 = 3) (hl : ¬ tln T ≤ 4) : num b T = 10000 := by
  unfold num
  rw [if_pos h, if_neg hl]
theorem G_tln {b : Tx} {T : Tk} (hb : TxI b) (h : TkG b T) : tln T ≤ 700 := by
  obtain ⟨e, h⟩ := h
  exact tln_lt hb h
theorem m_N {S : am_S} {b : Tx} {x : Ft} {m : Nat} (hN : 10000 ≤ N) (hb : TxI b) (hm : m < 10000) (h : PMs S b x) : Rn (f_X10_number N 78 0 (nI m) S) (fun q => ((aN b m x).1 = 0 → q.1 = nI (num b x.2)) ∧ PMs q.2 b (aN b m x) ∧ Fl mw6 S q.2) := by
  have hk := G_kd h.1.1
  have hn := G_num h.1.1
  have hmv := mvl_lt h.1.1
  have htl := G_tln hb h.1.1
  have hms := ms_lt x.2.2.2
  unfold f_X10_number b_X10_number_49
  rw [m_good h, bd_some]
  by_cases z : x.1 = 0
  · rw [if_pos z, one0, h.2.1.2.2.1, l2, l1, h.2.1.2.2.2.2.1, h.2.1.2.2.2.2.2.1, l4]
    have bad : ∀ k, 0 < k ∧ k < 10 → aN b m x = (k, x.2) → Rn (bv (f_X10_wrong N 78 (nI k) S) (fun S2 => b_X10_number_54 N 78 S2)) (fun q => ((aN b m x).1 = 0 → q.1 = nI (num b x.2)) ∧ PMs q.2 b (aN b m x) ∧ Fl mw6 S q.2) := by
      intro k hk he
      refine Rn_bv (Rn_mono (m_F hk h) (fun S1 g => ?_))
      rw [aF0 z] at g
      unfold b_X10_number_54 b_X10_number_70
      rw [m_good g.1, bd_some, if_neg (by show ¬ k = 0; omega : ¬ (k, x.2).1 = 0), zer0, he]
      exact Rn_ret ⟨fun q => absurd q (by show ¬ k = 0; omega), g.1, g.2⟩
    by_cases y : x.2.2.2 = 3
    · rw [eqT (ms3.mpr y)]
      by_cases w : tln x.2 ≤ 4
      · rw [ltF w (by omega), lt0F (by omega)]
        rw [mvl_num y w]
        by_cases v : num b x.2 ≤ m
        · rw [leT v (by omega)]
          unfold b_X10_number_54 b_X10_number_70
          rw [m_good h, bd_some, if_pos z, one0]
          refine Rn_bv (Rn_mono (m_S hN hb h z) (fun S1 g => Rn_ret ⟨fun _ => ?_, ?_, g.2⟩))
          · show sg S 78 23 = _
            rw [h.2.1.2.2.2.2.2.1, mvl_num y w]
          · unfold aN
            rw [if_pos y, if_pos v]
            exact g.1
        · rw [leF (by omega) (by omega)]
          refine bad 2 (by omega) ?_
          unfold aN
          rw [if_pos y, if_neg v, aF0 z, aSf (by show ¬ (2 : Nat) = 0; omega)]
      · rw [ltT (by omega) (by omega)]
        refine bad 2 (by omega) ?_
        unfold aN
        rw [if_pos y, if_neg (by rw [num_4 y w]; omega), aF0 z, aSf (by show ¬ (2 : Nat) = 0; omega)]
    · rw [eqF (fun q => y (ms3.mp q)) (by omega) (by omega)]
      refine bad 1 (by omega) ?_
      unfold aN
      rw [if_neg y, aF0 z, aSf (by show ¬ (1 : Nat) = 0; omega)]
  · rw [if_neg z, zer0, aNf z]
    exact Rn_ret ⟨fun q => absurd q z, h, Fl_rf _ _⟩
theorem m_wd {S : am_S} {b : Tx} {x : Ft} (hN : 10000 ≤ N) (hb : TxI b) (h : PMs S b x) : f_X10_knownWord N 78 S = some (kI (kw (wdn b x.2)), S) := by
  obtain ⟨e, he⟩ := h.1.1
  exact m_kw hN hb he h.2.1
theorem m_sgn {S : am_S} {b : Tx} {x : Ft} {c : Nat} (hb : TxI b) (h : PMs S b x) (hc : c = 40 ∨ c = 41 ∨ c = 42 ∨ c = 43 ∨ c = 45 ∨ c = 47 ∨ c = 59 ∨ c = 60 ∨ c = 61) : f_X10_isSign N 78 (nI c) S = some (if x.2.2.2 = c then 1 else 0, S) := by
  have hms := ms_lt x.2.2.2
  unfold f_X10_isSign b_X10_isSign_20 b_X10_isSign_21
  rw [isB0, isB1, ckT, ckT, h.2.1.2.2.1, h.2.1.2.2.2.2.2.2.1, l3]
  obtain ⟨e, he⟩ := h.1.1
  by_cases z : x.2.2.2 = 0
  · rw [z, eqF (by decide) (by decide) (by decide), if_neg (by omega)]
  · have hkx := (tNz he z).2
    have h4 := tN4 he
    have hx := hb.2 x.2.1
    have hfb : fby b x.2 = b.2 x.2.1 := if_neg z
    rw [hfb]
    by_cases y : ms x.2.2.2 = 3
    · rw [eqT y]
      have : kd (b.2 x.2.1) = b.2 x.2.1 := by
        have := kdsg hx (by rw [← hkx]; intro q; rw [q] at y; exact absurd y (by decide)) (by rw [← hkx]; intro q; rw [q] at y; exact absurd y (by decide)) (by rw [← hkx]; exact h4)
        rcases this with q | q
        · exact q.2
        · rw [hkx, q.2] at y
          exact absurd y (by decide)
      rw [hkx, this]
      by_cases w : b.2 x.2.1 = c
      · rw [eqT w, if_pos w]
      · rw [eqF w (by omega) (by omega), if_neg w]
    · rw [eqF y (by omega) (by omega), if_neg ?_]
      intro q
      apply y
      rw [q]
      unfold ms
      rw [if_neg (by omega), if_neg (by omega), if_neg (by omega), if_neg (by omega)]
end
