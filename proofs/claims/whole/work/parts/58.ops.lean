/-! wet nights, a game -/
section
variable {N t : Nat} {c : Cy} {r : Rw}
theorem vR_b {x : Int32} {a b : Nat} (h : vR x a b) (ha : a < 2147483648) (hb : b < 2147483648) : Bd x b := by
  obtain ⟨i, h1, h2, h3⟩ := vR_n h ha hb
  unfold Bd
  rw [h3, nIi (by omega)]
  omega
theorem j_wetNights {x m n w : Int32} (hN : 10000 ≤ N) (hI : CI c) (hW : WR c r) : Jq t c r (f_X9_wetNights N 0 x m n w) (f_X10_wetNights N 78 x m n w) cd2 := by
  have hnb := hI.1.1
  have hnp := hI.1.2
  obtain ⟨hRI, d, hd, hd0⟩ := hW
  by_cases h1 : vB x (cnp c)
  · by_cases h2 : vR m 0 9999
    · by_cases h3 : vR n 1 5
      · by_cases h4 : vR w 0 10
        · obtain ⟨xi, hx, ex⟩ := vB_n h1 (by omega)
          obtain ⟨ni, hn0, hn, en⟩ := vR_n h3 (by omega) (by omega)
          refine ⟨.inl (sI (nigT c d r xi m ni w) (2 ^ ni)), fun S hK => ?_, fun S hK => ?_⟩
          · unfold f_X9_wetNights
            rw [(g_person hK.1 hK.2.1).1 h1, bt_inl, g_r_0_9999.1 h2, bt_inl, g_r_1_5.1 h3, bt_inl, g_r_0_10.1 h4, bt_inl, ex, en]
            exact c_wetN (vR_b (a := 0) (b := 10) h4 (by omega) (by omega)) hN hI hRI hd0 hd hn hx hK
          · obtain ⟨k1, k2, k3⟩ := KM_0 hK hnp
            unfold f_X10_wetNights b_X10_wetNights_49 b_X10_wetNights_50 b_X10_wetNights_57
            rw [(h_person k2 k1.1.1.2).1 h1, bd_some, if_neg (by decide), h_in_0_9999.1 h2, bd_some, if_neg (by decide), h_in_1_5.1 h3, bd_some, if_neg (by decide), h_in_0_10.1 h4, bd_some, if_neg (by decide), h_right k2, bd_some, if_neg (by decide), ex, en]
            exact Rn_mono (m_wetN hN hI hRI hd0 hd hn hx k1) (fun q h => ⟨⟨h.1, h.2.2.trans k2⟩, Fm_tr k3 h.2.1⟩)
        · refine ⟨.inr 1, fun S hK => ?_, fun S hK => ?_⟩
          · unfold f_X9_wetNights
            rw [(g_person hK.1 hK.2.1).1 h1, bt_inl, g_r_0_9999.1 h2, bt_inl, g_r_1_5.1 h3, bt_inl, g_r_0_10.2 h4, bt_inr]
            exact Rn_ret ⟨rfl, Fm_rf _ _⟩
          · obtain ⟨k1, k2, k3⟩ := KM_0 hK hnp
            unfold f_X10_wetNights b_X10_wetNights_49 b_X10_wetNights_50 b_X10_wetNights_57
            rw [(h_person k2 k1.1.1.2).1 h1, bd_some, if_neg (by decide), h_in_0_9999.1 h2, bd_some, if_neg (by decide), h_in_1_5.1 h3, bd_some, if_neg (by decide), h_in_0_10.2 h4, bd_some, if_pos rfl, h_wrong k2 (by decide), bd_some, if_pos rfl]
            exact Rn_ret ⟨sgp _ _ _ _, q_thr k3⟩
      · refine ⟨.inr 1, fun S hK => ?_, fun S hK => ?_⟩
        · unfold f_X9_wetNights
          rw [(g_person hK.1 hK.2.1).1 h1, bt_inl, g_r_0_9999.1 h2, bt_inl, g_r_1_5.2 h3, bt_inr]
          exact Rn_ret ⟨rfl, Fm_rf _ _⟩
        · obtain ⟨k1, k2, k3⟩ := KM_0 hK hnp
          unfold f_X10_wetNights b_X10_wetNights_49 b_X10_wetNights_50 b_X10_wetNights_57
          rw [(h_person k2 k1.1.1.2).1 h1, bd_some, if_neg (by decide), h_in_0_9999.1 h2, bd_some, if_neg (by decide), h_in_1_5.2 h3, bd_some, if_pos rfl, h_wrong k2 (by decide), bd_some, if_pos rfl]
          exact Rn_ret ⟨sgp _ _ _ _, q_thr k3⟩
    · refine ⟨.inr 1, fun S hK => ?_, fun S hK => ?_⟩
      · unfold f_X9_wetNights
        rw [(g_person hK.1 hK.2.1).1 h1, bt_inl, g_r_0_9999.2 h2, bt_inr]
        exact Rn_ret ⟨rfl, Fm_rf _ _⟩
      · obtain ⟨k1, k2, k3⟩ := KM_0 hK hnp
        unfold f_X10_wetNights b_X10_wetNights_49 b_X10_wetNights_50 b_X10_wetNights_57
        rw [(h_person k2 k1.1.1.2).1 h1, bd_some, if_neg (by decide), h_in_0_9999.2 h2, bd_some, if_pos rfl, h_wrong k2 (by decide), bd_some, if_pos rfl]
        exact Rn_ret ⟨sgp _ _ _ _, q_thr k3⟩
  · refine ⟨.inr 0, fun S hK => ?_, fun S hK => ?_⟩
    · unfold f_X9_wetNights
      rw [(g_person hK.1 hK.2.1).2 h1, bt_inr]
      exact Rn_ret ⟨rfl, Fm_rf _ _⟩
    · obtain ⟨k1, k2, k3⟩ := KM_0 hK hnp
      unfold f_X10_wetNights b_X10_wetNights_57
      rw [(h_person k2 k1.1.1.2).2 h1, bd_some, if_pos rfl]
      exact Rn_ret ⟨sgp _ _ _ _, q_thr k3⟩
end
/-- letters of two -/
def lt2 (r : Rw) (p o : Nat) (a b : Bool) : Rw := if b = true then wrt (if a = true then wrt r p else r) o else (if a = true then wrt r p else r)
def cr (r : Rw) (p o : Nat) (a b : Bool) : Rw := if p < o then lt2 r p o a b else lt2 r o p b a
theorem cr_c {r : Rw} {p o : Nat} {a b : Bool} (h : ¬ p = o) : cr r p o a b = cr r o p b a := by
  unfold cr
  by_cases z : p < o
  · rw [if_pos z, if_neg (by omega)]
  · rw [if_neg z, if_pos (by omega)]
def lqF (p o : Nat) (a b : Bool) (w : Nat) (row : Rw) : Rw := if (w = p ∧ a = true) ∨ (w = o ∧ b = true) then wrt row w else row
theorem lts_lt {r : Rw} {p o : Nat} {a b : Bool} (h : p < o) : ∀ n, itr (lqF p o a b) n r = if o < n ∧ b = true then wrt (if p < n ∧ a = true then wrt r p else r) o else (if p < n ∧ a = true then wrt r p else r) := by
  intro n
  induction n with
  | zero => rw [if_neg (by omega), if_neg (by omega)]; rfl
  | succ n ih =>
    rw [itr, ih]
    unfold lqF
    by_cases h1 : n = p
    · subst h1
      rw [if_neg (show ¬ (o < n ∧ b = true) by omega), if_neg (show ¬ (n < n ∧ a = true) by omega), if_neg (show ¬ (o < n + 1 ∧ b = true) by omega)]
      cases a with
      | true => rw [if_pos (Or.inl ⟨rfl, rfl⟩), if_pos ⟨by omega, rfl⟩]
      | false => rw [if_neg (fun z => by rcases z with ⟨_, z⟩ | ⟨z, _⟩; cases z; omega), if_neg (fun z => by cases z.2)]
    · by_cases h2 : n = o
      · subst h2
        rw [if_neg (show ¬ (n < n ∧ b = true) by omega)]
        have e1 : (if p < n + 1 ∧ a = true then wrt r p else r) = (if p < n ∧ a = true then wrt r p else r) := by
          by_cases z : a = true
          · rw [if_pos ⟨by omega, z⟩, if_pos ⟨h, z⟩]
          · rw [if_neg (fun y => z y.2), if_neg (fun y => z y.2)]
        rw [e1]
        generalize (if p < n ∧ a = true then wrt r p else r) = X
        cases b with
        | true => rw [if_pos (Or.inr ⟨rfl, rfl⟩), if_pos ⟨by omega, rfl⟩]
        | false => rw [if_neg (fun z => by rcases z with ⟨z, _⟩ | ⟨_, z⟩; omega; cases z), if_neg (fun z => by cases z.2)]
      · have e1 : (if p < n + 1 ∧ a = true then wrt r p else r) = (if p < n ∧ a = true then wrt r p else r) := by
          by_cases z : p < n ∧ a = true
          · rw [if_pos ⟨by omega, z.2⟩, if_pos z]
          · rw [if_neg (fun y => z ⟨by omega, y.2⟩), if_neg z]
        rw [e1, if_neg (fun z => by rcases z with ⟨z, _⟩ | ⟨z, _⟩ <;> omega)]
        generalize (if p < n ∧ a = true then wrt r p else r) = X
        by_cases z : o < n ∧ b = true
        · rw [if_pos z, if_pos ⟨by omega, z.2⟩]
        · rw [if_neg z, if_neg (fun y => z ⟨by omega, y.2⟩)]
theorem lqF_c {p o : Nat} {a b : Bool} : lqF p o a b = lqF o p b a := by
  funext w row
  unfold lqF
  by_cases z : (w = p ∧ a = true) ∨ (w = o ∧ b = true)
  · rw [if_pos z, if_pos (Or.symm z)]
  · rw [if_neg z, if_neg (fun y => z (Or.symm y))]
theorem lts_cr {r : Rw} {p o np : Nat} {a b : Bool} (hpo : ¬ p = o) (hp : p < np) (ho : o < np) : itr (lqF p o a b) np r = cr r p o a b := by
  have e : ∀ (x y : Nat) (u v : Bool), x < y → x < np → y < np → itr (lqF x y u v) np r = lt2 r x y u v := by
    intro x y u v hxy hx hy
    rw [lts_lt hxy]
    unfold lt2
    cases u <;> cases v <;> simp [hx, hy]
  unfold cr
  by_cases z : p < o
  · rw [if_pos z, e p o a b z hp ho]
  · rw [if_neg z, lqF_c, e o p b a (by omega) ho hp]
def gn (R : Rw) (p : Nat) (a : Bool) : Int32 := R (64 + p) / 5 - R (56 + p) / 5 - 2 * bI a
def gA (k : Nat) : Bool := decide (2 ≤ k)
def gB_ (k : Nat) : Bool := decide (k % 2 = 1)
def gR (c : Cy) (d : Nat) (r : Rw) (p o k : Nat) : Rw := dys c d (cr r p o (gA k) (gB_ k)) 3
def gP (c : Cy) (d : Nat) (r : Rw) (p o k : Nat) : Int32 := gn (gR c d r p o k) p (gA k)
def gO (c : Cy) (d : Nat) (r : Rw) (p o k : Nat) : Int32 := gn (gR c d r p o k) o (gB_ k)
def x2 (k : Nat) : Nat := (k + 2) % 4
def x1 (k : Nat) : Nat := if k % 2 = 0 then k + 1 else k - 1
def rst (c : Cy) (d : Nat) (r : Rw) (p o k : Nat) : Bool := !(decide (gP c d r p o k < gP c d r p o (x2 k))) && !(decide (gO c d r p o k < gO c d r p o (x1 k)))
def gmF (c : Cy) (d : Nat) (r : Rw) (p o k : Nat) (a : Int32 × Int32) : Int32 × Int32 := if rst c d r p o k = true then (a.1 + 1, if a.2 = -1 then nI (10 * (k / 2) + k % 2) else a.2) else a
def gm_ (c : Cy) (d : Nat) (r : Rw) (p o : Nat) : Int32 × Int32 := itr (gmF c d r p o) 4 (0, -1)
section
variable {N t : Nat} {c : Cy} {S : am_S} {r : Rw}
theorem cr_in {p o : Nat} {a b : Bool} (hI : CI c) (h : RI c r) (hp : p < cnp c) (ho : o < cnp c) : RI c (cr r p o a b) ∧ cr r p o a b 0 = r 0 := by
  have e : ∀ (x y : Nat) (u v : Bool), x < cnp c → y < cnp c → RI c (lt2 r x y u v) ∧ lt2 r x y u v 0 = r 0 := by
    intro x y u v hx hy
    unfold lt2
    have h1 := RI_wrt hI h hx
    cases u <;> cases v <;> simp only [if_true, Bool.false_eq_true, if_false]
    · exact ⟨h, trivial⟩
    · have h2 := RI_wrt hI h hy
      exact ⟨h2.1, h2.2.1⟩
    · exact ⟨h1.1, h1.2.1⟩
    · have h2 := RI_wrt hI h1.1 hy
      exact ⟨h2.1, h2.2.1.trans h1.2.1⟩
  unfold cr
  split
  · exact e p o a b hp ho
  · exact e o p b a ho hp
theorem itr_in {p o : Nat} {a b : Bool} (hI : CI c) (h : RI c r) : ∀ n, n ≤ cnp c → RI c (itr (lqF p o a b) n r) := by
  intro n
  induction n with
  | zero => intro _; exact h
  | succ n ih =>
    intro hn
    rw [itr]
    unfold lqF
    split
    · exact (RI_wrt hI (ih (by omega)) (by omega)).1
    · exact ih (by omega)
theorem c_weigh {p o d k : Nat} (hN : 10000 ≤ N) (hI : CI c) (hRI : RI c r) (hd0 : r 0 = nI d) (hd : d ≤ 999) (hp : p < cnp c) (ho : o < cnp c) (hpo : ¬ p = o) (hk : k < 4) (hK : KC S t c r) : Rn (f_X9_weighCouple N 0 (nI p) (nI o) (nI k) S) (fun S' => KC S' t c r ∧ Fm (qC t) S S' ∧ sg S' 77 (2 * k) = gP c d r p o k ∧ sg S' 77 (2 * k + 1) = gO c d r p o k ∧ ∀ j, ¬ j = 2 * k → ¬ j = 2 * k + 1 → sg S' 77 j = sg S 77 j) := by
  have hnp := hI.1.2
  have ea : (nI k >>> ((1 : Int32) &&& (31 : Int32))) &&& 1 = bI (gA k) := by
    have : k = 0 ∨ k = 1 ∨ k = 2 ∨ k = 3 := by omega
    rcases this with h | h | h | h <;> subst h <;> decide
  have eb : nI k &&& 1 = bI (gB_ k) := by
    have : k = 0 ∨ k = 1 ∨ k = 2 ∨ k = 3 := by omega
    rcases this with h | h | h | h <;> subst h <;> decide
  unfold f_X9_weighCouple
  rw [r0_7, r0_8, ea, eb]
  refine Rn_bv (Rn_mono (c_copyFrom Sk42 Sk40 (by omega) hK.2.2) (fun S1 hc => ?_))
  have hf1 : Fm (qC t) S S1 := Fm_wk (Fm_fr hc.2.1) (fun k j hk => Or.inl hk)
  have hj1 : ∀ j, sg S1 77 j = sg S 77 j := fun j => hc.2.1.1 _ _ (by omega)
  refine lp0 (fun n (s : am_S) i => b_X9_weighCouple_26 N n 0 (nI p) (nI o) (nI k) (bI (gA k)) (bI (gB_ k)) i s) (fun i s => KC s t c r ∧ RC s 42 (72 + cnp c) (itr (lqF p o (gA k) (gB_ k)) i r) ∧ Fm (qC t) S s ∧ ∀ j, sg s 77 j = sg S 77 j) _ (cnp c) ?_ ?_ N S1 (by omega) ⟨KC_q hK hf1, hc.1, hf1, hj1⟩
  · intro n s hs
    obtain ⟨g1, g2, g3, g4⟩ := hs
    show Rn (b_X9_weighCouple_26 N (n + 1) 0 (nI p) (nI o) (nI k) (bI (gA k)) (bI (gB_ k)) (nI (cnp c)) s) _
    unfold b_X9_weighCouple_26
    rw [g_isC g1.1, g1.1.1, g1.2.1.1.2, leT (Nat.le_refl _) (by omega)]
    rw [lts_cr hpo hp ho] at g2
    obtain ⟨r1, r2⟩ := cr_in (a := gA k) (b := gB_ k) hI hRI hp ho
    refine lp0 (fun n (s : am_S) i => b_X9_weighCouple_80 N n 0 (nI p) (nI o) (nI k) (bI (gA k)) (bI (gB_ k)) i s) (fun i s => KC s t c r ∧ RC s 42 (72 + cnp c) (dys c d (cr r p o (gA k) (gB_ k)) i) ∧ Fm (qC t) S s ∧ ∀ j, sg s 77 j = sg S 77 j) _ 3 ?_ ?_ N s (by omega) ⟨g1, g2, g3, g4⟩
    · intro n s hs
      obtain ⟨g1, g2, g3, g4⟩ := hs
      show Rn (b_X9_weighCouple_80 N (n + 1) 0 (nI p) (nI o) (nI k) (bI (gA k)) (bI (gB_ k)) (nI 3) s) _
      unfold b_X9_weighCouple_80 f_X9_gainOf
      rw [l3, leT (Nat.le_refl _) (by omega), r0_8, r_heard hI Sk42 g2 hp, bd_some, r_regret hI Sk42 g2 hp, bd_some, bd_some, r0_17, n77, l2, nIm, nI1, inbT (by omega) (by decide), nIc (by omega)]
      have g5 : RC (sp s 77 (2 * k) (gP c d r p o k)) 42 (72 + cnp c) (gR c d r p o k) := RC_o g2 (by omega)
      rw [← l2]
      show Rn (bd (bd (f_X7_heardBy N 42 (nI o) (sp s 77 (2 * k) (gP c d r p o k))) _) _) _
      rw [r_heard hI Sk42 g5 ho, bd_some, r_regret hI Sk42 g5 ho, bd_some, bd_some, inbT (by omega) (by decide), nIc (by omega)]
      show Rn (some (sp (sp s 77 (2 * k) (gP c d r p o k)) 77 (2 * k + 1) (gO c d r p o k))) _
      have hf : Fm (qC t) S (sp (sp s 77 (2 * k) (gP c d r p o k)) 77 (2 * k + 1) (gO c d r p o k)) := Fm_sp (Fm_sp g3 (by unfold qC; omega)) (by unfold qC; omega)
      refine Rn_ret ⟨KC_q hK hf, hf, ?_, sgp _ _ _ _, fun j h1 h2 => ?_⟩
      · rw [sgj (by omega), sgp]
      · rw [sgj (by omega), sgj (by omega)]
        exact g4 j
    · intro n i s hi hs ih
      obtain ⟨g1, g2, g3, g4⟩ := hs
      show Rn (b_X9_weighCouple_80 N (n + 1) 0 (nI p) (nI o) (nI k) (bI (gA k)) (bI (gB_ k)) (nI i) s) _
      unfold b_X9_weighCouple_80
      obtain ⟨i1, i2, -, -⟩ := dys_in hI r1 (r2.trans hd0) i (by omega)
      rw [l3, leF (by omega) (by omega), g_isC g1.1, g1.1.1, r0_8, nI1]
      refine Rn_bd (Rn_mono (c_passDay hN g1.1.2.1 Sk42 hI g1.2.1 g2 i1 i2 (by omega)) (fun q h => ?_))
      have ht := HC_t g1.1
      exact ih q.2 ⟨KC_q g1 (q_dW h.2.2), h.2.1, Fm_tr g3 (q_dW h.2.2), fun j => (h.2.2.1 _ _ (by unfold dW; omega)).trans (g4 j)⟩
  · intro n i s hi hs ih
    obtain ⟨g1, g2, g3, g4⟩ := hs
    show Rn (b_X9_weighCouple_26 N (n + 1) 0 (nI p) (nI o) (nI k) (bI (gA k)) (bI (gB_ k)) (nI i) s) _
    unfold b_X9_weighCouple_26 b_X9_weighCouple_50 b_X9_weighCouple_62 b_X9_weighCouple_71
    rw [g_isC g1.1, g1.1.1, g1.2.1.1.2, leF (by omega) (by omega), nI1, r0_8]
    have e : itr (lqF p o (gA k) (gB_ k)) (i + 1) r = lqF p o (gA k) (gB_ k) i (itr (lqF p o (gA k) (gB_ k)) i r) := rfl
    have yes : (i = p ∧ gA k = true) ∨ (i = o ∧ gB_ k = true) → Rn (bv (f_X7_sendLetter N 42 (nI i) s) (fun S2 => b_X9_weighCouple_26 N n 0 (nI p) (nI o) (nI k) (bI (gA k)) (bI (gB_ k)) (nI (i + 1)) S2)) (fun S' => KC S' t c r ∧ Fm (qC t) S S' ∧ sg S' 77 (2 * k) = gP c d r p o k ∧ sg S' 77 (2 * k + 1) = gO c d r p o k ∧ ∀ j, ¬ j = 2 * k → ¬ j = 2 * k + 1 → sg S' 77 j = sg S 77 j) := by
      intro hy
      refine Rn_bv (Rn_mono (c_letter hN hI Sk42 g2 (itr_in hI hRI i (by omega)) hi) (fun S2 h => ?_))
      have hf2 : Fm (qC t) s S2 := Fm_wk (Fm_fr h.2) (fun k j hk => Or.inl hk)
      refine ih S2 ⟨KC_q g1 hf2, ?_, Fm_tr g3 hf2, fun j => (h.2.1 _ _ (by omega)).trans (g4 j)⟩
      rw [e]
      unfold lqF
      rw [if_pos hy]
      exact h.1
    have no : ¬ ((i = p ∧ gA k = true) ∨ (i = o ∧ gB_ k = true)) → Rn (b_X9_weighCouple_26 N n 0 (nI p) (nI o) (nI k) (bI (gA k)) (bI (gB_ k)) (nI (i + 1)) s) (fun S' => KC S' t c r ∧ Fm (qC t) S S' ∧ sg S' 77 (2 * k) = gP c d r p o k ∧ sg S' 77 (2 * k + 1) = gO c d r p o k ∧ ∀ j, ¬ j = 2 * k → ¬ j = 2 * k + 1 → sg S' 77 j = sg S 77 j) := by
      intro hy
      refine ih s ⟨g1, ?_, g3, g4⟩
      rw [e]
      unfold lqF
      rw [if_neg hy]
      exact g2
    have b1 : ∀ b : Bool, bI b = 1 ↔ b = true := fun b => by cases b <;> decide
    by_cases z1 : i = p
    · subst z1
      rw [if_pos rfl]
      by_cases y1 : gA k = true
      · rw [if_pos ((b1 _).mpr y1)]
        exact yes (Or.inl ⟨rfl, y1⟩)
      · rw [if_neg (fun z => y1 ((b1 _).mp z)), eqF hpo (by omega) (by omega)]
        exact no (fun z => by rcases z with z | z; exact y1 z.2; exact hpo z.1)
    · rw [eqF z1 (by omega) (by omega)]
      by_cases z2 : i = o
      · subst z2
        rw [if_pos rfl]
        by_cases y1 : gB_ k = true
        · rw [if_pos ((b1 _).mpr y1)]
          exact yes (Or.inr ⟨rfl, y1⟩)
        · rw [if_neg (fun z => y1 ((b1 _).mp z))]
          exact no (fun z => by rcases z with z | z; exact z1 z.1; exact y1 z.2)
      · rw [eqF z2 (by omega) (by omega)]
        exact no (fun z => by rcases z with z | z; exact z1 z.1; exact z2 z.1)
theorem c_rests {p o d k : Nat} (hk : k < 4) (hg : ∀ j, j < 4 → sg S 77 (2 * j) = gP c d r p o j ∧ sg S 77 (2 * j + 1) = gO c d r p o j) : f_X9_coupleRests N 0 (nI k) S = some (bI (rst c d r p o k), S) := by
  have e2 : nI k ^^^ 2 = nI (x2 k) := by
    have : k = 0 ∨ k = 1 ∨ k = 2 ∨ k = 3 := by omega
    rcases this with h | h | h | h <;> subst h <;> decide
  have e1 : nI k ^^^ 1 = nI (x1 k) := by
    have : k = 0 ∨ k = 1 ∨ k = 2 ∨ k = 3 := by omega
    rcases this with h | h | h | h <;> subst h <;> decide
  have b2 : x2 k < 4 := Nat.mod_lt _ (by omega)
  have b1 : x1 k < 4 := by unfold x1; split <;> omega
  unfold f_X9_coupleRests b_X9_coupleRests_26 b_X9_coupleRests_57 b_X9_coupleRests_70 b_X9_coupleRests_71
  rw [e2, e1, l2, nIm, nIm, nIm, nI1, nI1, r0_17, n77, inbT (by omega) (by decide), inbT (by omega) (by decide), inbT (by omega) (by decide), inbT (by omega) (by decide), nIc (by omega), nIc (by omega), nIc (by omega), nIc (by omega), (hg k hk).1, (hg k hk).2, (hg _ b2).1, (hg _ b1).2, isB0, isB1, ckT, ckT]
  unfold rst
  by_cases z1 : gP c d r p o k < gP c d r p o (x2 k)
  · rw [if_pos z1, decide_eq_true z1]
    by_cases z2 : gO c d r p o k < gO c d r p o (x1 k)
    · rw [if_pos z2, decide_eq_true z2]; rfl
    · rw [if_neg z2, decide_eq_false z2]; rfl
  · rw [if_neg z1, decide_eq_false z1, inbT (by omega) (by decide), inbT (by omega) (by decide)]
    by_cases z2 : gO c d r p o k < gO c d r p o (x1 k)
    · rw [if_pos z2, decide_eq_true z2]; rfl
    · rw [if_neg z2, decide_eq_false z2]; rfl
theorem c_game {p o d w : Nat} (hN : 10000 ≤ N) (hI : CI c) (hRI : RI c r) (hd0 : r 0 = nI d) (hd : d ≤ 999) (hp : p < cnp c) (ho : o < cnp c) (hpo : ¬ p = o) (hw : w ≤ 1) (hK : KC S t c r) : Rn (b_X9_game_60 N N 0 (nI p) (nI o) (nI w) 0 S) (fun q => q.1 = .inl (if w = 0 then (gm_ c d r p o).1 else (gm_ c d r p o).2) ∧ Fm (qC t) S q.2) := by
  refine lp0 (fun n (s : am_S) i => b_X9_game_60 N n 0 (nI p) (nI o) (nI w) i s) (fun i s => KC s t c r ∧ Fm (qC t) S s ∧ ∀ j, j < i → sg s 77 (2 * j) = gP c d r p o j ∧ sg s 77 (2 * j + 1) = gO c d r p o j) _ 4 ?_ ?_ N S (by omega) ⟨hK, Fm_rf _ _, fun j hj => by omega⟩
  · intro n s hs
    obtain ⟨g1, g2, g3⟩ := hs
    show Rn (b_X9_game_60 N (n + 1) 0 (nI p) (nI o) (nI w) (nI 4) s) _
    unfold b_X9_game_60
    rw [l4, leT (Nat.le_refl _) (by omega)]
    have h := lp_eq (fun n (a : Int32 × Int32) i => b_X9_game_89 N n 0 (nI w) a.1 a.2 i s) (gmF c d r p o) (fun a => some (.inl (if w = 0 then a.1 else a.2), s)) 4 (fun _ _ => True) (0, -1) trivial (fun _ _ _ _ => trivial) (fun n a _ => by
      show b_X9_game_89 N (n + 1) 0 (nI w) a.1 a.2 (nI 4) s = _
      unfold b_X9_game_89 b_X9_game_149
      rw [l4, leT (Nat.le_refl _) (by omega)]
      have : w = 0 ∨ w = 1 := by omega
      rcases this with hw | hw <;> subst hw
      · rw [if_pos (by decide), if_pos rfl]
      · rw [if_neg (by decide), if_neg (by decide)]) (fun n i a hi _ => by
      show b_X9_game_89 N (n + 1) 0 (nI w) a.1 a.2 (nI i) s = b_X9_game_89 N n 0 (nI w) (gmF c d r p o i a).1 (gmF c d r p o i a).2 (nI (i + 1)) s
      have ec : (10 * (nI i >>> ((1 : Int32) &&& (31 : Int32)))) + (nI i &&& 1) = nI (10 * (i / 2) + i % 2) := by
        have : i = 0 ∨ i = 1 ∨ i = 2 ∨ i = 3 := by omega
        rcases this with h | h | h | h <;> subst h <;> decide
      rw [b_X9_game_89]
      unfold b_X9_game_130 b_X9_game_132 gmF
      rw [l4, leF (by omega) (by omega), c_rests hi g3, bd_some, nI1, ec]
      cases rst c d r p o i with
      | false => rw [if_pos bI0, if_neg (by decide)]
      | true =>
        rw [if_neg (by decide), if_pos rfl]
        split <;> rfl) N (by omega)
    refine Rn_eq h ⟨rfl, g2⟩
  · intro n i s hi hs ih
    obtain ⟨g1, g2, g3⟩ := hs
    show Rn (b_X9_game_60 N (n + 1) 0 (nI p) (nI o) (nI w) (nI i) s) _
    unfold b_X9_game_60
    rw [l4, leF (by omega) (by omega), nI1]
    refine Rn_bv (Rn_mono (c_weigh hN hI hRI hd0 hd hp ho hpo hi g1) (fun S2 h => ?_))
    refine ih S2 ⟨h.1, Fm_tr g2 h.2.1, fun j hj => ?_⟩
    by_cases z : j = i
    · subst z
      exact ⟨h.2.2.1, h.2.2.2.1⟩
    · rw [h.2.2.2.2 _ (by omega) (by omega), h.2.2.2.2 _ (by omega) (by omega)]
      exact g3 j (by omega)
theorem m_gains {p o d : Nat} {a b : Bool} (hN : 10000 ≤ N) (hI : CI c) (hRI : RI c r) (hd0 : r 0 = nI d) (hd : d ≤ 999) (hp : p < cnp c) (ho : o < cnp c) (hpo : ¬ p = o) (ap : ¬ r (72 + p) = -1) (ao : ¬ r (72 + o) = -1) (hK : KM S c r) : Rn (f_X10_gains N 78 (nI p) (nI o) (bI a) (bI b) S) (fun q => q.1 = gn (dys c d (cr r p o a b) 3) p a ∧ Fm (mW 80) S q.2) := by
  have hnp := hI.1.2
  have b1 : ∀ b : Bool, bI b = 1 ↔ b = true := fun b => by cases b <;> decide
  unfold f_X10_gains b_X10_gains_21 b_X10_gains_34
  refine Rn_bv (Rn_mono (m_tries hN (by omega) hK.2.2) (fun S1 h1 => ?_))
  have fin : ∀ S2, RM S2 80 (72 + cnp c) (cr r p o a b) → Fm (mW 80) S S2 → Rn (b_X10_gains_51 N 78 (nI p) (bI a) S2) (fun q => q.1 = gn (dys c d (cr r p o a b) 3) p a ∧ Fm (mW 80) S q.2) := by
    intro S2 g1 g2
    obtain ⟨r1, r2⟩ := cr_in (a := a) (b := b) hI hRI hp ho
    unfold b_X10_gains_51
    rw [l3]
    refine Rn_bv (Rn_mono (m_daysGo hN hI (CM_m hK.1 g2) (MO_m hK.2.1 g2) g1 r1 (r2.trans hd0) (by omega)) (fun S3 h => ?_))
    have e1 : sg S3 96 (144 + p) = dys c d (cr r p o a b) 3 (64 + p) := by rw [← h.1 (64 + p) (by omega), ← Nat.add_assoc]
    have e2 : sg S3 96 (136 + p) = dys c d (cr r p o a b) 3 (56 + p) := by rw [← h.1 (56 + p) (by omega), ← Nat.add_assoc]
    rw [show (144 : Int32) = nI 144 from rfl, show (136 : Int32) = nI 136 from rfl, nIa, nIa, r78_46, n96, inbT (by omega) (by decide), inbT (by omega) (by decide), nIc (by omega), nIc (by omega), e1, e2]
    exact Rn_ret ⟨rfl, Fm_tr g2 h.2⟩
  have wr1 : ∀ (S2 : am_S) (f : Rw) (x : Nat) (K : am_S → Option (Int32 × am_S)) (Q : Int32 × am_S → Prop), x < cnp c → RI c f → ¬ f (72 + x) = -1 → RM S2 80 (72 + cnp c) f → Fm (mW 80) S S2 → (∀ S3, RM S3 80 (72 + cnp c) (wrt f x) → Fm (mW 80) S S3 → Rn (K S3) Q) → Rn (bv (f_X10_writes N 78 80 (nI x) S2) K) Q := by
    intro S2 f x K Q hx hf ha g1 g2 hk
    rcases hf.2.2.2.2.2 x hx with z | ⟨q, hq, z⟩
    · exact absurd z ha
    · rw [l80]
      exact Rn_bv (Rn_mono (m_writes hN (by omega) hI (CM_m hK.1 g2) g1 hf hx hq z) (fun S3 h => hk S3 h.1 (Fm_tr g2 (Fm_wk h.2 mR_W))))
  have hF1 : Fm (mW 80) S S1 := Fm_wk h1.2 mR_W
  have hwp := RI_wrt hI hRI hp
  have hwo := RI_wrt hI hRI ho
  by_cases z : p < o
  · have ec : cr r p o a b = lt2 r p o a b := if_pos z
    rw [ec] at fin ⊢
    unfold lt2 at fin ⊢
    cases a with
    | true =>
      rw [if_pos bI1, leF z (by omega)]
      refine wr1 S1 r p _ _ hp hRI ap h1.1 hF1 (fun S3 g1 g2 => ?_)
      cases b with
      | true =>
        rw [if_pos bI1]
        refine wr1 S3 _ o _ _ ho hwp.1 (by rw [hwp.2.2]; exact ao) g1 g2 (fun S4 g3 g4 => ?_)
        rw [leT (by omega) (by omega)]
        exact fin S4 g3 g4
      | false =>
        rw [if_neg (by decide), leT (by omega) (by omega)]
        exact fin S3 g1 g2
    | false =>
      rw [if_neg (by decide)]
      cases b with
      | true =>
        rw [if_pos bI1]
        refine wr1 S1 r o _ _ ho hRI ao h1.1 hF1 (fun S3 g1 g2 => ?_)
        rw [if_neg (by decide)]
        exact fin S3 g1 g2
      | false =>
        rw [if_neg (by decide), if_neg (by decide)]
        exact fin S1 h1.1 hF1
  · have ec : cr r p o a b = lt2 r o p b a := if_neg z
    rw [ec] at fin ⊢
    unfold lt2 at fin ⊢
    cases a with
    | true =>
      rw [if_pos bI1, leT (by omega) (by omega)]
      cases b with
      | true =>
        rw [if_pos bI1]
        refine wr1 S1 r o _ _ ho hRI ao h1.1 hF1 (fun S3 g1 g2 => ?_)
        rw [if_pos bI1, leF (by omega) (by omega)]
        exact wr1 S3 _ p _ _ hp hwo.1 (by rw [hwo.2.2]; exact ap) g1 g2 (fun S4 g3 g4 => fin S4 g3 g4)
      | false =>
        rw [if_neg (by decide), if_pos bI1, leF (by omega) (by omega)]
        exact wr1 S1 r p _ _ hp hRI ap h1.1 hF1 (fun S3 g1 g2 => fin S3 g1 g2)
    | false =>
      rw [if_neg (by decide)]
      cases b with
      | true =>
        rw [if_pos bI1]
        refine wr1 S1 r o _ _ ho hRI ao h1.1 hF1 (fun S3 g1 g2 => ?_)
        rw [if_neg (by decide)]
        exact fin S3 g1 g2
      | false =>
        rw [if_neg (by decide), if_neg (by decide)]
        exact fin S1 h1.1 hF1
theorem m_game {p o d w : Nat} (hN : 10000 ≤ N) (hI : CI c) (hRI : RI c r) (hd0 : r 0 = nI d) (hd : d ≤ 999) (hp : p < cnp c) (ho : o < cnp c) (hpo : ¬ p = o) (ap : ¬ r (72 + p) = -1) (ao : ¬ r (72 + o) = -1) (hw : w ≤ 1) (hK : KM S c r) : Rn (b_X10_game_87 N N 78 (nI p) (nI o) (nI w) 0 (-1) 0 S) (fun q => q.1 = (if w = 0 then (gm_ c d r p o).1 else (gm_ c d r p o).2) ∧ Fm (mW 80) S q.2) := by
  have hnp := hI.1.2
  refine lp0 (fun n (s : (Int32 × Int32) × am_S) i => b_X10_game_87 N n 78 (nI p) (nI o) (nI w) s.1.1 s.1.2 i s.2) (fun i s => s.1 = itr (gmF c d r p o) i (0, -1) ∧ Fm (mW 80) S s.2) _ 4 ?_ ?_ N ((0, -1), S) (by omega) ⟨rfl, Fm_rf _ _⟩
  · intro n s hs
    show Rn (b_X10_game_87 N (n + 1) 78 (nI p) (nI o) (nI w) s.1.1 s.1.2 (nI 4) s.2) _
    unfold b_X10_game_87 b_X10_game_194
    rw [l4, leT (Nat.le_refl _) (by omega), hs.1]
    have : w = 0 ∨ w = 1 := by omega
    rcases this with hw | hw <;> subst hw
    · rw [if_pos (by decide), if_pos rfl]
      exact Rn_ret ⟨rfl, hs.2⟩
    · rw [if_neg (by decide), if_neg (by decide)]
      exact Rn_ret ⟨rfl, hs.2⟩
  · intro n i s hi hs ih
    obtain ⟨g1, g2⟩ := hs
    have hx : nI i / 2 = bI (gA i) ∧ nI i - nI i / 2 * 2 = bI (gB_ i) ∧ 1 - nI i / 2 = bI (gA (x2 i)) ∧ 1 - (nI i - nI i / 2 * 2) = bI (gB_ (x1 i)) ∧ gB_ (x2 i) = gB_ i ∧ gA (x1 i) = gA i ∧ (10 * (nI i / 2)) + (nI i - nI i / 2 * 2) = nI (10 * (i / 2) + i % 2) := by
      have : i = 0 ∨ i = 1 ∨ i = 2 ∨ i = 3 := by omega
      rcases this with h | h | h | h <;> subst h <;> decide
    obtain ⟨q1, q2, q3, q4, q5, q6, q7⟩ := hx
    have k0 := KM_q hK hnp (q_mW g2)
    have en : itr (gmF c d r p o) (i + 1) (0, -1) = gmF c d r p o i s.1 := by rw [g1]; rfl
    show Rn (b_X10_game_87 N (n + 1) 78 (nI p) (nI o) (nI w) s.1.1 s.1.2 (nI i) s.2) _
    unfold b_X10_game_87 b_X10_game_177
    rw [l4, leF (by omega) (by omega), nI1, q7, q4, q3, q2, q1]
    refine Rn_bd (Rn_mono (m_gains (a := gA (x2 i)) (b := gB_ i) hN hI hRI hd0 hd hp ho hpo ap ao k0) (fun u1 f1 => ?_))
    have k1 := KM_q k0 hnp (q_mW f1.2)
    refine Rn_bd (Rn_mono (m_gains (a := gA i) (b := gB_ i) hN hI hRI hd0 hd hp ho hpo ap ao k1) (fun u2 f2 => ?_))
    have k2 := KM_q k1 hnp (q_mW f2.2)
    have v1 : u1.1 = gP c d r p o (x2 i) := by
      rw [f1.1]
      unfold gP gR
      rw [q5]
    have v2 : u2.1 = gP c d r p o i := f2.1
    have hf2 := Fm_tr g2 (Fm_tr f1.2 f2.2)
    by_cases z1 : gP c d r p o i < gP c d r p o (x2 i)
    · rw [v1, v2, if_pos z1]
      refine ih (s.1, u2.2) ⟨?_, hf2⟩
      rw [en]
      unfold gmF rst
      rw [if_neg (by rw [decide_eq_true z1]; simp)]
    · rw [v1, v2, if_neg z1]
      refine Rn_bd (Rn_mono (m_gains (a := gB_ (x1 i)) (b := gA i) hN hI hRI hd0 hd ho hp (fun z => hpo z.symm) ao ap k2) (fun u3 f3 => ?_))
      have k3 := KM_q k2 hnp (q_mW f3.2)
      refine Rn_bd (Rn_mono (m_gains (a := gB_ i) (b := gA i) hN hI hRI hd0 hd ho hp (fun z => hpo z.symm) ao ap k3) (fun u4 f4 => ?_))
      have v3 : u3.1 = gO c d r p o (x1 i) := by
        rw [f3.1, ← cr_c hpo]
        unfold gO gR
        rw [q6]
      have v4 : u4.1 = gO c d r p o i := by
        rw [f4.1, ← cr_c hpo]
        rfl
      have hf4 := Fm_tr hf2 (Fm_tr f3.2 f4.2)
      by_cases z2 : gO c d r p o i < gO c d r p o (x1 i)
      · rw [v3, v4, if_neg (fun y => nlt_of_le y z2)]
        refine ih (s.1, u4.2) ⟨?_, hf4⟩
        rw [en]
        unfold gmF rst
        rw [if_neg (by rw [decide_eq_true z2]; simp)]
      · rw [v3, v4, if_pos (le_of_nlt z2)]
        have er : rst c d r p o i = true := by
          unfold rst
          rw [decide_eq_false z1, decide_eq_false z2]
          rfl
        have fin : ∀ y, (if s.1.2 = -1 then nI (10 * (i / 2) + i % 2) else s.1.2) = y → Rn (b_X10_game_87 N n 78 (nI p) (nI o) (nI w) (s.1.1 + 1) y (nI (i + 1)) u4.2) (fun q => q.1 = (if w = 0 then (gm_ c d r p o).1 else (gm_ c d r p o).2) ∧ Fm (mW 80) S q.2) := by
          intro y hy
          refine ih ((s.1.1 + 1, y), u4.2) ⟨?_, hf4⟩
          rw [en]
          unfold gmF
          rw [if_pos er, hy]
        split
        · exact fin _ (if_pos (by assumption))
        · exact fin _ (if_neg (by assumption))
end
section
variable {N t : Nat} {c : Cy} {r : Rw}
theorem j_game {x u w : Int32} (hN : 10000 ≤ N) (hI : CI c) (hW : WR c r) : Jq t c r (f_X9_game N 0 x u w) (f_X10_game N 78 x u w) cd2 := by
  have hnb := hI.1.1
  have hnp := hI.1.2
  obtain ⟨hRI, d, hd, hd0⟩ := hW
  by_cases h1 : vB x (cnp c)
  · by_cases h2 : vB u (cnp c)
    · by_cases h3 : vR w 0 1
      · obtain ⟨xi, hx, ex⟩ := vB_n h1 (by omega)
        obtain ⟨ui, hu, eu⟩ := vB_n h2 (by omega)
        obtain ⟨wi, -, hw, ew⟩ := vR_n h3 (by omega) (by omega)
        by_cases h4 : x = u
        · refine ⟨.inr 1, fun S hK => ?_, fun S hK => ?_⟩
          · unfold f_X9_game
            rw [(g_person hK.1 hK.2.1).1 h1, bt_inl, (g_person hK.1 hK.2.1).1 h2, bt_inl, g_w1.1 h3, bt_inl, if_pos h4]
            exact Rn_ret ⟨rfl, Fm_rf _ _⟩
          · obtain ⟨k1, k2, k3⟩ := KM_0 hK hnp
            unfold f_X10_game b_X10_game_41 b_X10_game_48
            rw [(h_person k2 k1.1.1.2).1 h1, bd_some, if_neg (by decide), (h_person k2 k1.1.1.2).1 h2, bd_some, if_neg (by decide), (h_w1 k2).1 h3, bd_some, if_neg (by decide), if_pos h4, h_wrong k2 (by decide), bd_some, if_pos rfl]
            exact Rn_ret ⟨sgp _ _ _ _, q_thr k3⟩
        · have hpo : ¬ xi = ui := fun z => h4 (by rw [ex, eu, z])
          have rest : ∀ (A : Int32), (∀ S, KC S t c r → Rn (bd (f_X7_atOf N (rf 0 7) x S) (fun r14 S15 => (if r14 = (-1) then b_X9_game_55 N S15 else (bd (f_X7_atOf N (rf 0 7) u S15) (fun r18 S19 => (if r18 = (-1) then b_X9_game_55 N S19 else b_X9_game_60 N N 0 x u w 0 S19)))))) (fun q => q.1 = .inl A ∧ Fm (qC t) S q.2)) → (∀ S, KM S c r → sg S 78 0 = 0 → Rn (if inb (72 + x) (ln (rf 78 46)) = true then (if (sg S (rf 78 46) (Int32.toNatClampNeg (72 + x))) = (-1) then b_X10_game_76 N S else (if inb (72 + u) (ln (rf 78 46)) = true then (if (sg S (rf 78 46) (Int32.toNatClampNeg (72 + u))) = (-1) then b_X10_game_76 N S else b_X10_game_87 N N 78 x u w 0 (-1) 0 S) else none)) else none) (fun q => (q.1 = A ∧ sg q.2 78 0 = 0) ∧ Fm qM S q.2)) → Jq t c r (f_X9_game N 0 x u w) (f_X10_game N 78 x u w) cd2 := by
            intro A hc hm
            refine ⟨.inl A, fun S hK => ?_, fun S hK => ?_⟩
            · unfold f_X9_game
              rw [(g_person hK.1 hK.2.1).1 h1, bt_inl, (g_person hK.1 hK.2.1).1 h2, bt_inl, g_w1.1 h3, bt_inl, if_neg h4]
              exact hc S hK
            · obtain ⟨k1, k2, k3⟩ := KM_0 hK hnp
              unfold f_X10_game b_X10_game_41 b_X10_game_48
              rw [(h_person k2 k1.1.1.2).1 h1, bd_some, if_neg (by decide), (h_person k2 k1.1.1.2).1 h2, bd_some, if_neg (by decide), (h_w1 k2).1 h3, bd_some, if_neg (by decide), if_neg h4, h_right k2, bd_some, if_neg (by decide)]
              exact Rn_mono (hm _ k1 k2) (fun q h => ⟨h.1, Fm_tr k3 h.2⟩)
          have e3 : ∀ S, KM S c r → ∀ j, j < cnp c → sg S 96 (72 + j) = r (72 + j) := fun S hK j hj => by rw [← hK.2.2 (72 + j) (by omega), Nat.zero_add]
          by_cases a1 : r (72 + xi) = -1
          · refine rest (-1) (fun S hK => ?_) (fun S hK h0 => ?_)
            · rw [ex, r0_7, r_at hI Sk40 hK.2.2 hx, bd_some, if_pos a1]
              exact Rn_ret ⟨rfl, Fm_rf _ _⟩
            · rw [ex, l72, nIa, r78_46, n96, inbT (by omega) (by decide), nIc (by omega), e3 S hK xi hx, if_pos a1]
              exact Rn_ret ⟨⟨rfl, h0⟩, Fm_rf _ _⟩
          · by_cases a2 : r (72 + ui) = -1
            · refine rest (-1) (fun S hK => ?_) (fun S hK h0 => ?_)
              · rw [ex, eu, r0_7, r_at hI Sk40 hK.2.2 hx, bd_some, if_neg a1, r_at hI Sk40 hK.2.2 hu, bd_some, if_pos a2]
                exact Rn_ret ⟨rfl, Fm_rf _ _⟩
              · rw [ex, eu, l72, nIa, nIa, r78_46, n96, inbT (by omega) (by decide), inbT (by omega) (by decide), nIc (by omega), nIc (by omega), e3 S hK xi hx, e3 S hK ui hu, if_neg a1, if_pos a2]
                exact Rn_ret ⟨⟨rfl, h0⟩, Fm_rf _ _⟩
            · refine rest (if wi = 0 then (gm_ c d r xi ui).1 else (gm_ c d r xi ui).2) (fun S hK => ?_) (fun S hK h0 => ?_)
              · rw [ex, eu, ew, r0_7, r_at hI Sk40 hK.2.2 hx, bd_some, if_neg a1, r_at hI Sk40 hK.2.2 hu, bd_some, if_neg a2]
                exact c_game hN hI hRI hd0 hd hx hu hpo hw hK
              · rw [ex, eu, ew, l72, nIa, nIa, r78_46, n96, inbT (by omega) (by decide), inbT (by omega) (by decide), nIc (by omega), nIc (by omega), e3 S hK xi hx, e3 S hK ui hu, if_neg a1, if_neg a2]
                exact Rn_mono (m_game hN hI hRI hd0 hd hx hu hpo a1 a2 hw hK) (fun q h => ⟨⟨h.1, thr_m h0 h.2⟩, q_mW h.2⟩)
      · refine ⟨.inr 0, fun S hK => ?_, fun S hK => ?_⟩
        · unfold f_X9_game
          rw [(g_person hK.1 hK.2.1).1 h1, bt_inl, (g_person hK.1 hK.2.1).1 h2, bt_inl, g_w1.2 h3, bt_inr]
          exact Rn_ret ⟨rfl, Fm_rf _ _⟩
        · obtain ⟨k1, k2, k3⟩ := KM_0 hK hnp
          unfold f_X10_game b_X10_game_48
          rw [(h_person k2 k1.1.1.2).1 h1, bd_some, if_neg (by decide), (h_person k2 k1.1.1.2).1 h2, bd_some, if_neg (by decide), (h_w1 k2).2 h3, bd_some, if_pos rfl]
          exact Rn_ret ⟨sgp _ _ _ _, q_thr k3⟩
    · refine ⟨.inr 0, fun S hK => ?_, fun S hK => ?_⟩
      · unfold f_X9_game
        rw [(g_person hK.1 hK.2.1).1 h1, bt_inl, (g_person hK.1 hK.2.1).2 h2, bt_inr]
        exact Rn_ret ⟨rfl, Fm_rf _ _⟩
      · obtain ⟨k1, k2, k3⟩ := KM_0 hK hnp
        unfold f_X10_game b_X10_game_48
        rw [(h_person k2 k1.1.1.2).1 h1, bd_some, if_neg (by decide), (h_person k2 k1.1.1.2).2 h2, bd_some, if_pos rfl]
        exact Rn_ret ⟨sgp _ _ _ _, q_thr k3⟩
  · refine ⟨.inr 0, fun S hK => ?_, fun S hK => ?_⟩
    · unfold f_X9_game
      rw [(g_person hK.1 hK.2.1).2 h1, bt_inr]
      exact Rn_ret ⟨rfl, Fm_rf _ _⟩
    · obtain ⟨k1, k2, k3⟩ := KM_0 hK hnp
      unfold f_X10_game b_X10_game_48
      rw [(h_person k2 k1.1.1.2).2 h1, bd_some, if_pos rfl]
      exact Rn_ret ⟨sgp _ _ _ _, q_thr k3⟩
end
