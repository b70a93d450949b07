/-! a text by the model: its beginning and its end -/
section
variable {N : Nat}
def cmW : Nat → Nat → Prop := fun k j => (k = 78 ∧ 14 ≤ j ∧ j ≤ 36) ∨ (87 ≤ k ∧ k ≤ 95)
def x00 (b : Tx) : Ft := (0, tk b 0)
def sAll (b : Tx) : Ft × Cp × Nat := sTxt b (b.1 + 1) (x00 b) cp0 0
theorem LI_0 (b : Tx) : LI b (x00 b) cp0 0 := ⟨⟨0, tk_I (Nat.zero_le _)⟩, CpI_0, RuA_0, Nat.zero_le _⟩
theorem m_start {S : am_S} {b : Tx} {Q : Int32 × am_S → Prop} (hN : 10000 ≤ N) (hb : TxI b) (h0 : sg S 78 0 = 0) (h85 : ∀ j, j < b.1 → sg S 85 j = nI (b.2 j)) (hQ : ∀ S', PMs S' b (sAll b).1 → ((sAll b).1.1 = 0 → CTM S' (sAll b).2.2 (sAll b).2.1) → Fl cmW S S' → sg S' 78 14 = 0 → Rn (b_X10_city_138 N 78 S') Q) : Rn (b_X10_city_23 N 78 (nI b.1) 78 1 S) Q := by
  have hL := hb.1
  unfold b_X10_city_23
  rw [h_right h0, bd_some, one0]
  obtain ⟨S1, hS1⟩ : ∃ S1, S1 = sp (sp (sp (sp (sp (sp (sp (sp (sp (sp (sp S 78 14 0) 78 16 (-1)) 78 15 0) 78 18 (nI b.1)) 78 19 0) 78 26 0) 78 27 0) 78 28 0) 78 29 0) 78 30 (-1)) 78 31 (-1) := ⟨_, rfl⟩
  rw [← hS1]
  have f1 : Fl cmW S S1 := by
    rw [hS1]
    refine Fl_sp (Fl_sp (Fl_sp (Fl_sp (Fl_sp (Fl_sp (Fl_sp (Fl_sp (Fl_sp (Fl_sp (Fl_sp (Fl_rf _ _) ?_) ?_) ?_) ?_) ?_) ?_) ?_) ?_) ?_) ?_) ?_
    all_goals (unfold cmW; omega)
  have e14 : sg S1 78 14 = 0 := by rw [hS1]; simp (disch := omega) only [sgp, sgn, sgj]
  have e15 : sg S1 78 15 = 0 := by rw [hS1]; simp (disch := omega) only [sgp, sgn, sgj]
  have e16 : sg S1 78 16 = -1 := by rw [hS1]; simp (disch := omega) only [sgp, sgn, sgj]
  have e18 : sg S1 78 18 = nI b.1 := by rw [hS1]; simp (disch := omega) only [sgp, sgn, sgj]
  have e19 : sg S1 78 19 = 0 := by rw [hS1]; simp (disch := omega) only [sgp, sgn, sgj]
  have e26 : sg S1 78 26 = 0 := by rw [hS1]; simp (disch := omega) only [sgp, sgn, sgj]
  have e27 : sg S1 78 27 = 0 := by rw [hS1]; simp (disch := omega) only [sgp, sgn, sgj]
  have e28 : sg S1 78 28 = 0 := by rw [hS1]; simp (disch := omega) only [sgp, sgn, sgj]
  have e29 : sg S1 78 29 = 0 := by rw [hS1]; simp (disch := omega) only [sgp, sgn, sgj]
  have e30 : sg S1 78 30 = -1 := by rw [hS1]; simp (disch := omega) only [sgp, sgn, sgj]
  have e31 : sg S1 78 31 = -1 := by rw [hS1]; simp (disch := omega) only [sgp, sgn, sgj]
  refine lp0 (fun n (s : am_S) i => b_X10_city_89 N n 78 i s) (fun i s => (∀ j, j < i → sg s 92 j = 0) ∧ Fm (fun k _ => k = 92) S1 s) Q 80 ?_ ?_ N S1 (by omega) ⟨fun j hj => absurd hj (Nat.not_lt_zero j), Fm_rf _ _⟩
  · intro n s hs
    show Rn (b_X10_city_89 N (n + 1) 78 (nI 80) s) Q
    unfold b_X10_city_89
    rw [l80, leT (Nat.le_refl _) (by omega)]
    have es : ∀ j, ¬ j = 32 → sg (sp s 78 32 0) 78 j = sg S1 78 j := fun j hj => by rw [sgj hj]; exact hs.2.1 _ _ (by omega)
    have hB : MB (sp s 78 32 0) b := ⟨by rw [es _ (by omega)]; exact e18, fun j hj => by rw [sgn (by omega), hs.2.1 _ _ (by omega), f1.1 _ _ (by unfold cmW; omega)]; exact h85 j hj⟩
    refine Rn_bv (Rn_mono (m_goes (e := 0) hN hb hB (by rw [es _ (by omega), e19]; rfl) (Nat.zero_le _)) (fun S2 g => ?_))
    have g78 : ∀ j, ¬ j = 32 → 25 ≤ j ∨ j ≤ 18 → sg S2 78 j = sg S1 78 j := fun j hj h2 => by rw [g.2.1 _ _ (by unfold mgW; omega)]; exact es j hj
    have g92 : ∀ j, j < 80 → sg S2 92 j = 0 := fun j hj => by rw [g.2.1 _ _ (by unfold mgW; omega), sgn (by omega)]; exact hs.1 j hj
    have f2 : Fl cmW S S2 := Fl_tr (Fl_sp (Fl_tr f1 (Fl_wk (Fl_m hs.2) (fun k j q => by unfold cmW; omega))) (by unfold cmW; omega)) (Fl_wk g.2 (fun k j q => by unfold mgW at q; unfold cmW; omega))
    have hP : PMs S2 b (x00 b) := ⟨⟨⟨0, tk_I (Nat.zero_le _)⟩, by show 0 < 10; omega⟩, g.1, by rw [g78 _ (by omega) (by omega), e15]; rfl, by rw [g78 _ (by omega) (by omega), e16]; rfl⟩
    have g32 : sg S2 78 32 = 0 := by rw [g.2.1 _ _ (by unfold mgW; omega), sgp]
    have hC : CTM S2 0 cp0 := by
      refine ⟨⟨⟨?_, ?_⟩, ?_, ?_, ?_⟩, ⟨fun i hi => absurd hi (Nat.not_lt_zero i), fun i _ hi => g92 _ (by omega), fun i hi => g92 _ (by omega)⟩, fun i hi => absurd hi (Nat.not_lt_zero i), ⟨fun i hi => absurd hi (Nat.not_lt_zero i), fun i hi => absurd hi (Nat.not_lt_zero i)⟩, ?_, ?_⟩
      · rw [g78 _ (by omega) (by omega), e26]; rfl
      · rw [g78 _ (by omega) (by omega), e27]; rfl
      · rw [g78 _ (by omega) (by omega), e28]; rfl
      · rw [g78 _ (by omega) (by omega), e29]; rfl
      · rw [g32]; rfl
      · show sg S2 78 30 = -1
        rw [g78 _ (by omega) (by omega), e30]
      · show sg S2 78 31 = -1
        rw [g78 _ (by omega) (by omega), e31]
    have h14 : sg S2 78 14 = 0 := by rw [g78 _ (by omega) (by omega), e14]
    refine m_text (S0 := S2) hN hb (b.1 + 1) N (x00 b) cp0 0 S2 (by omega) (fun _ => LI_0 b) (fun _ => by omega) hP (fun _ => hC) (Fl_rf _ _) (fun S3 q1 q2 q3 => hQ S3 q1 q2 (Fl_tr f2 (Fl_wk q3 (fun k j q => by unfold pmW at q; unfold cmW; omega))) ?_)
    rw [q3.1 _ _ (by unfold pmW; omega), h14]
  · intro n i s hi hs ih
    show Rn (b_X10_city_89 N (n + 1) 78 (nI i) s) Q
    unfold b_X10_city_89
    rw [l80, leF (by omega) (by omega), r78_42, n92, inbT (by omega) (by omega), nIc (by omega), nI1]
    refine ih _ ⟨fun j hj => ?_, Fm_sp hs.2 rfl⟩
    by_cases z : j = i
    · subst z
      exact sgp _ _ _ _
    · rw [sgj z]
      exact hs.1 j (by omega)
theorem m_failed {S : am_S} {b : Tx} {x : Ft} (h : PMs S b x) (hx : ¬ x.1 = 0) : b_X10_city_138 N 78 S = some (nI x.1, sp S 86 0 (sg S 86 0 + 1)) := by
  unfold b_X10_city_138
  rw [m_good h, bd_some, if_neg hx, zer0, r78_17, n86, inb0T (by decide) (by decide), inb0T (by decide) (by decide), c00, sgn (by omega), h.2.2.1]
theorem codeAt_of {S S' : am_S} (hs : ∀ j, j < 1400 → sg S' 84 j = sg S 93 j) : ∀ {P : Prg} {a : Nat}, codeX S a P → sg S 93 (a + clen P) = 0 → a + clen P < 1400 → codeAt S' a P := by
  intro P
  induction P with
  | nil =>
    intro a h1 h2 h3
    have h3' : a < 1400 := h3
    exact ⟨h3', (hs _ h3').trans h2⟩
  | cons x P ih =>
    intro a h1 h2 h3
    obtain ⟨q1, q2, q3⟩ := h1
    unfold clen at h2 h3
    by_cases z : x.1 = 1 ∨ x.1 = 2
    · rw [if_pos z] at h2 h3 q3
      have g := ih q3 (by rw [show a + 2 + clen P = a + (2 + clen P) by omega]; exact h2) (by omega)
      refine ⟨by omega, (hs _ (by omega)).trans q1, ?_⟩
      have k : sg S' 84 (a + 1) = nI x.2 ∧ codeAt S' (a + 2) P := ⟨(hs _ (by omega)).trans (q2 z), g⟩
      rcases z with z | z
      · rw [if_pos z]
        exact k
      · rw [if_neg (by omega), if_pos z]
        exact k
    · rw [if_neg z] at h2 h3 q3
      have g := ih q3 (by rw [show a + 1 + clen P = a + (1 + clen P) by omega]; exact h2) (by omega)
      refine ⟨by omega, (hs _ (by omega)).trans q1, ?_⟩
      rw [if_neg (fun q => z (Or.inl q)), if_neg (fun q => z (Or.inr q))]
      exact g
end
