/-! calls that change something -/
def PC (t : Nat) (a : Ax) (S S' : am_S) : Prop := XC S' t a ∧ OCx S' a.1 ∧ ∀ k j, 78 ≤ k → sg S' k j = sg S k j
def PM (a : Ax) (S S' : am_S) : Prop := XM S' a ∧ (∀ k j, k < 78 → sg S' k j = sg S k j) ∧ S'.2.2 = S.2.2 ∧ lg S' 108 = lg S 108
def Jx (t : Nat) (a : Ax) (fc : am_S → Option am_T) (fm : am_S → Option (Int32 × am_S)) (cd : Nat → Int32) : Prop := ∃ (A : Int32 ⊕ Nat) (a' : Ax) (t' : Nat), WX a' ∧ (∀ S, XC S t a → OCx S a.1 → Rn (fc S) (fun q => q.1 = A ∧ PC t' a' S q.2)) ∧ (∀ S, XM S a → Rn (fm S) (fun q => mok cd A q ∧ PM a' S q.2))
def Jp (t : Nat) (a : Ax) (fc fm : am_S → Option (Int32 × am_S)) : Prop := ∃ (A : Int32) (a' : Ax) (t' : Nat), WX a' ∧ (∀ S, XC S t a → OCx S a.1 → Rn (fc S) (fun q => q.1 = A ∧ PC t' a' S q.2)) ∧ (∀ S, XM S a → Rn (fm S) (fun q => q.1 = A ∧ PM a' S q.2))
def Jv (t : Nat) (a : Ax) (fc fm : am_S → Option am_S) : Prop := ∃ (a' : Ax) (t' : Nat), WX a' ∧ (∀ S, XC S t a → OCx S a.1 → Rn (fc S) (fun q => PC t' a' S q)) ∧ (∀ S, XM S a → Rn (fm S) (fun q => PM a' S q))
theorem PM_q {S S' : am_S} {a : Ax} (h : XM S a) (hp : cnp a.1 ≤ 8) (hf : Fm qM S S') : PM a S S' := ⟨XM_q h hp hf, fun k j hk => hf.1 k j (by unfold qM; omega), by rw [hf.2], by unfold lg; rw [hf.2]⟩
theorem PC_q {S S' : am_S} {t : Nat} {a : Ax} (h : XC S t a) (hO : OCx S a.1) (hf : Fm (qC6 t) S S') : PC t a S S' := by
  have ht := HC_t h.1
  exact ⟨XC_q h hf, OCx_same hO (fun k j hk => hf.1 k j (by unfold qC6 qC; omega)), fun k j hk => hf.1 k j (by unfold qC6 qC; omega)⟩
theorem XC_K {S : am_S} {t : Nat} {a : Ax} (h : XC S t a) : KC S t a.1 a.2.1.1 := ⟨h.1, h.2.1, h.2.2.1.1⟩
theorem XM_K {S : am_S} {a : Ax} (h : XM S a) : KM S a.1 a.2.1.1 := ⟨h.1.1, h.1.2, h.2.1.1⟩
theorem WX_np {a : Ax} (h : WX a) : cnp a.1 ≤ 8 := h.1.1.2
theorem Jx_q {t : Nat} {a : Ax} {fc : am_S → Option am_T} {fm : am_S → Option (Int32 × am_S)} {cd : Nat → Int32} (hW : WX a) (h : Jq t a.1 a.2.1.1 fc fm cd) : Jx t a fc fm cd := by
  obtain ⟨A, h1, h2⟩ := h
  exact ⟨A, a, t, hW, fun S hX hO => Rn_mono (h1 S (XC_K hX)) (fun q hq => ⟨hq.1, PC_q hX hO (Fm_wk hq.2 (fun k j h => Or.inl h))⟩), fun S hX => Rn_mono (h2 S (XM_K hX)) (fun q hq => ⟨hq.1, PM_q hX (WX_np hW) hq.2⟩)⟩
theorem Jx_n {t : Nat} {a : Ax} {fc : am_S → Option am_T} {fm : am_S → Option (Int32 × am_S)} {cd : Nat → Int32} (hW : WX a) (h : Jn t a.1 a.2.1.1 a.2.1.2.2 fc fm cd) : Jx t a fc fm cd := by
  obtain ⟨A, h1, h2⟩ := h
  exact ⟨A, a, t, hW, fun S hX hO => Rn_mono (h1 S ⟨XC_K hX, hX.2.2.1.2.2⟩) (fun q hq => ⟨hq.1, PC_q hX hO (Fm_wk hq.2 (fun k j h => Or.inl h))⟩), fun S hX => Rn_mono (h2 S ⟨XM_K hX, hX.2.1.2.2⟩) (fun q hq => ⟨hq.1, PM_q hX (WX_np hW) hq.2⟩)⟩
theorem Jx_n6 {t : Nat} {a : Ax} {fc : am_S → Option am_T} {fm : am_S → Option (Int32 × am_S)} {cd : Nat → Int32} (hW : WX a) (h : Jn6 t a.1 a.2.1.1 a.2.1.2.2 fc fm cd) : Jx t a fc fm cd := by
  obtain ⟨A, h1, h2⟩ := h
  exact ⟨A, a, t, hW, fun S hX hO => Rn_mono (h1 S ⟨XC_K hX, hX.2.2.1.2.2⟩) (fun q hq => ⟨hq.1, PC_q hX hO hq.2⟩), fun S hX => Rn_mono (h2 S ⟨XM_K hX, hX.2.1.2.2⟩) (fun q hq => ⟨hq.1, PM_q hX (WX_np hW) hq.2⟩)⟩
theorem x_order {N t : Nat} {a : Ax} {w : Int32} (hN : 10000 ≤ N) (hW : WX a) : Jx t a (f_X9_order N 0 w) (f_X10_order N 78 w) cd2 := by
  obtain ⟨A, h1, h2⟩ := j_order (N := N) (t := t) (w := w) hN hW.1 hW.2.1.1
  refine ⟨A, a, t, hW, fun S hX hO => Rn_mono (h1 S (XC_K hX) hO) (fun q hq => ⟨hq.1, ?_, hq.2.2, fun k j hk => hq.2.1.1 k j ?_⟩), fun S hX => Rn_mono (h2 S (XM_K hX)) (fun q hq => ⟨hq.1, PM_q hX (WX_np hW) hq.2⟩)⟩
  · have ht := HC_t hX.1
    exact XC_same hX (by rw [hq.2.1.2]) (fun k j hk => hq.2.1.1 k j (by unfold qO oC; omega))
  · have ht := HC_t hX.1
    unfold qO oC
    omega
/-- now, acts, notes, refused are others -/
theorem XC_v {S S' : am_S} {t : Nat} {a : Ax} {v : Av} {rfu : Nat → Int32} (h : XC S t a) (h2 : S'.2.2 = S.2.2) (hv : VC S' (cnp a.1) 40 44 46 v) (hr : ∀ j, j < 3 → sg S' 7 j = rfu j) (hs : ∀ k j, (t ≤ k ∧ k < t + 15 ∧ ¬ k = t + 11 ∧ ¬ k = t + 14) ∨ (k = 0 ∧ (j = 1 ∨ j = 3 ∨ j = 11)) ∨ k = 1 ∨ (50 ≤ k ∧ k ≤ 57) → sg S' k j = sg S k j) : XC S' t (a.1, v, a.2.2.1, a.2.2.2.1, a.2.2.2.2.1, rfu) := by
  obtain ⟨a1, a2, a3, a4, ⟨a5, a6⟩, ⟨a7, a8⟩⟩ := h
  refine ⟨HC_same a1 h2, CC_same a2 (fun k j k1 k2 k3 k4 => hs k j (by omega)), hv, ?_, ⟨(hs _ _ (by omega)).trans a5, fun j hj => (hs _ _ (by omega)).trans (a6 j hj)⟩, ⟨(hs _ _ (by omega)).trans a7, hr⟩⟩
  show (match a.2.2.1 with
    | none => sg S' 0 11 = 0
    | some v => sg S' 0 11 = 1 ∧ VC S' (cnp a.1) 50 52 54 v)
  cases hv : a.2.2.1 with
  | none =>
    rw [hv] at a4
    exact (hs _ _ (by omega)).trans a4
  | some v =>
    rw [hv] at a4
    exact ⟨(hs _ _ (by omega)).trans a4.1, VC_same a4.2 (fun k j hk => hs k j (by omega))⟩
theorem XM_v {S S' : am_S} {a : Ax} {v : Av} {rfu : Nat → Int32} (h : XM S a) (hv : RM S' 0 (72 + cnp a.1) v.1 ∧ AM S' (cnp a.1) 48 97 v.2.1 ∧ NM S' 56 102 v.2.2) (hr : ∀ j, j < 3 → sg S' 86 j = rfu j) (hs : ∀ k j, (78 ≤ k ∧ k ≤ 85 ∧ ¬ (k = 78 ∧ (j = 0 ∨ j = 48 ∨ j = 54 ∨ j = 56 ∨ j = 60))) ∨ (105 ≤ k ∧ k ≤ 107) → sg S' k j = sg S k j) : XM S' (a.1, v, a.2.2.1, a.2.2.2.1, a.2.2.2.2.1, rfu) := by
  obtain ⟨⟨a1, b1, b2⟩, -, a4, ⟨a5, a6⟩, ⟨a7, a8⟩⟩ := h
  refine ⟨⟨CM_same a1 (fun k j hk => hs k j (by unfold mC at hk; omega)), (hs _ _ (by omega)).trans b1, (hs _ _ (by omega)).trans b2⟩, hv, ?_, ⟨(hs _ _ (by omega)).trans a5, fun j hj => (hs _ _ (by omega)).trans (a6 j hj)⟩, ⟨(hs _ _ (by omega)).trans a7, hr⟩⟩
  show (match a.2.2.1 with
    | none => sg S' 78 61 = 0
    | some v => sg S' 78 61 = 1 ∧ RMc S' 105 (72 + cnp a.1) v.1 ∧ AM S' (cnp a.1) 62 106 v.2.1 ∧ NM S' 63 107 v.2.2)
  cases hv : a.2.2.1 with
  | none =>
    rw [hv] at a4
    exact (hs _ _ (by omega)).trans a4
  | some v =>
    rw [hv] at a4
    obtain ⟨c1, c2, c3, c4⟩ := a4
    exact ⟨(hs _ _ (by omega)).trans c1, fun j hj => (hs _ _ (by omega)).trans (c2 j hj), AM_same c3 (hs _ _ (by omega)) (fun j => hs _ _ (by omega)), NM_same c4 (hs _ _ (by omega)) (fun j => hs _ _ (by omega))⟩
def setV (a : Ax) (v : Av) : Ax := (a.1, v, a.2.2)
def refu (a : Ax) (i : Nat) : Ax := (a.1, a.2.1, a.2.2.1, a.2.2.2.1, a.2.2.2.2.1, wr a.2.2.2.2.2 i (a.2.2.2.2.2 i + 1))
theorem WX_refu {a : Ax} {i : Nat} (h : WX a) : WX (refu a i) := h
theorem WX_set {a : Ax} {v : Av} (h : WX a) (hv : WV a.1 v) : WX (setV a v) := ⟨h.1, hv, h.2.2⟩
theorem c_refu {S : am_S} {t i : Nat} {a : Ax} (h : XC S t a) (hO : OCx S a.1) (hi : i < 3) : PC t (refu a i) S (sp S 7 i (sg S 7 i + 1)) := by
  have ht := HC_t h.1
  refine ⟨XC_v h rfl (VC_same h.2.2.1 (fun k j hk => sgn (by omega))) (fun j hj => ?_) (fun k j hk => sgn (by omega)), OCx_same hO (fun k j hk => sgn (by omega)), fun k j hk => sgn (by omega)⟩
  by_cases z : j = i
  · subst z
    rw [sgp, wr_eq, h.2.2.2.2.2.2 j hj]
  · rw [sgj z, wr_ne z]
    exact h.2.2.2.2.2.2 j hj
theorem m_refu {N : Nat} {S S0 : am_S} {i : Nat} {a : Ax} (h : XM S a) (hi : i < 3) (hp : cnp a.1 ≤ 8) (h0 : PM a S0 S) : Rn (f_X10_refuses N 78 (nI i) S) (fun q => q.1 = -1 ∧ PM (refu a i) S0 q.2 ∧ sg q.2 78 0 = sg S 78 0) := by
  unfold f_X10_refuses
  rw [r78_17, n86, inbT (by omega) (by decide), inbT (by omega) (by decide), nIc (by omega)]
  refine Rn_ret ⟨rfl, ⟨XM_v h ⟨RM_o h.2.1.1 (by omega), AM_same h.2.1.2.1 (sgn (by omega)) (fun j => sgn (by omega)), NM_same h.2.1.2.2 (sgn (by omega)) (fun j => sgn (by omega))⟩ (fun j hj => ?_) (fun k j hk => sgn (by omega)), fun k j hk => (sgn (by omega)).trans (h0.2.1 k j hk), h0.2.2.1, h0.2.2.2⟩, sgn (by omega)⟩
  by_cases z : j = i
  · subst z
    rw [sgp, wr_eq, h.2.2.2.2.2 j hj]
  · rw [sgj z, wr_ne z]
    exact h.2.2.2.2.2 j hj
theorem XM_0 {S : am_S} {a : Ax} (h : XM S a) (hp : cnp a.1 ≤ 8) : XM (sp S 78 0 0) a ∧ sg (sp S 78 0 0) 78 0 = 0 ∧ PM a S (sp S 78 0 0) := by
  have := PM_q h hp (q_thr (v := 0) (Fm_rf _ _))
  exact ⟨this.1, sgp _ _ _ _, this⟩
/-- an act: what is so now is kept, and another row is so -/
def act (a : Ax) (f : Rw) : Ax := setV a (f, push a.2.1.2.1 a.2.1.1, a.2.1.2.2)
theorem WX_act {a : Ax} {f : Rw} (h : WX a) (hf : WR a.1 f) : WX (act a f) := WX_set h ⟨hf, push_W h.2.1.2.1.1 h.2.1.2.1.2 h.2.1.1, h.2.1.2.2⟩
theorem c_act2 {N t : Nat} {S : am_S} {a : Ax} {β : Type} {K : am_S → Option β} {Q : β → Prop} (hW : WX a) (h : XC S t a) (hO : OCx S a.1) (hk : ∀ S1, KC S1 t a.1 a.2.1.1 → (∀ (S2 : am_S) (f : Rw), RC S2 40 (72 + cnp a.1) f → Fr (dW t 40) S1 S2 → PC t (act a f) S S2) → Rn (K S1) Q) : Rn (bv (f_X0_keep N 44 40 S) K) Q := by
  have ht := HC_t h.1
  have hnp := WX_np hW
  refine Rn_bv (Rn_mono (c_keep hW.2.1.2.1.1 hnp h.2.2.1.2.1 h.2.2.1.1) (fun S1 h1 => ?_))
  refine hk S1 ⟨HC_same h.1 (by rw [h1.2.2]), CC_same h.2.1 (fun b j b1 b2 b3 b4 => h1.2.1 b j (by omega)), RC_same h.2.2.1.1 (fun j => h1.2.1 _ _ (by omega))⟩ (fun S2 f hR hF => ?_)
  have e : ∀ k j, ¬ k = 41 → ¬ k = t + 11 → ¬ k = t + 14 → ¬ k = t + 15 → ¬ k = 45 → ¬ (k = 44 ∧ (j = 1 ∨ j = 2)) → sg S2 k j = sg S k j := fun k j e1 e2 e3 e4 e5 e6 => (hF.1 k j (by unfold dW; omega)).trans (h1.2.1 k j (by omega))
  refine ⟨XC_v h (by rw [hF.2, h1.2.2]) ⟨hR, AC_same h1.1 (fun b j hb => hF.1 b j (by unfold dW; omega)), NC_same h.2.2.1.2.2 (fun b j hb => e b j (by omega) (by omega) (by omega) (by omega) (by omega) (by omega))⟩ (fun j hj => (e 7 j (by omega) (by omega) (by omega) (by omega) (by omega) (by omega)).trans (h.2.2.2.2.2.2 j hj)) (fun k j hk => e k j (by omega) (by omega) (by omega) (by omega) (by omega) (by omega)), OCx_same hO (fun k j hk => e k j (by omega) (by omega) (by omega) (by omega) (by omega) (by omega)), fun k j hk => e k j (by omega) (by omega) (by omega) (by omega) (by omega) (by omega)⟩
theorem m_act2 {N : Nat} {S S0 : am_S} {a : Ax} {β : Type} {K : am_S → Option β} {Q : β → Prop} (hN : 10000 ≤ N) (hW : WX a) (h : XM S a) (h0 : PM a S0 S) (ht : sg S 78 0 = 0) (hk : ∀ S1, KM S1 a.1 a.2.1.1 → (∀ (S2 : am_S) (f : Rw), RM S2 0 (72 + cnp a.1) f → Fm (mW 0) S1 S2 → PM (act a f) S0 S2 ∧ sg S2 78 0 = 0) → Rn (K S1) Q) : Rn (bv (f_X10_keeps N 78 S) K) Q := by
  have hnp := WX_np hW
  refine Rn_bv (Rn_mono (m_keeps hN hW.2.1.2.1.1 hnp h.2.1.2.1 h.2.1.1) (fun S1 h1 => ?_))
  refine hk S1 ⟨CM_same h.1.1 (fun k j hk => h1.2.1 k j (by unfold mC at hk; omega)), ⟨(h1.2.1 _ _ (by omega)).trans h.1.2.1, (h1.2.1 _ _ (by omega)).trans h.1.2.2⟩, RM_same h.2.1.1 (fun j _ => h1.2.1 _ _ (by omega))⟩ (fun S2 f hR hF => ?_)
  have e : ∀ k j, ¬ k = 97 → ¬ (k = 78 ∧ (j = 48 ∨ j = 54)) → ¬ k = 96 → ¬ k = 98 → ¬ k = 99 → sg S2 k j = sg S k j := fun k j e1 e2 e3 e4 e5 => (hF.1 k j (by unfold mW; omega)).trans (h1.2.1 k j (by omega))
  refine ⟨⟨XM_v h ⟨hR, AM_same h1.1 (hF.1 _ _ (by unfold mW; omega)) (fun j => hF.1 _ _ (by unfold mW; omega)), NM_same h.2.1.2.2 (e _ _ (by omega) (by omega) (by omega) (by omega) (by omega)) (fun j => e _ _ (by omega) (by omega) (by omega) (by omega) (by omega))⟩ (fun j hj => (e 86 j (by omega) (by omega) (by omega) (by omega) (by omega)).trans (h.2.2.2.2.2 j hj)) (fun k j hk => e k j (by omega) (by omega) (by omega) (by omega) (by omega)), fun k j hk => (e k j (by omega) (by omega) (by omega) (by omega) (by omega)).trans (h0.2.1 k j hk), ?_, ?_⟩, (e 78 0 (by omega) (by omega) (by omega) (by omega) (by omega)).trans ht⟩
  · rw [hF.2, h1.2.2]
    exact h0.2.2.1
  · unfold lg
    rw [hF.2, h1.2.2]
    exact h0.2.2.2
section
variable {N t : Nat} {a : Ax}
theorem x_days {n : Int32} (hN : 10000 ≤ N) (hW : WX a) : Jp t a (f_X9_days N 0 n) (f_X10_days N 78 n) := by
  have hI := hW.1
  have hnp := WX_np hW
  obtain ⟨hRI, d, hd, hd0⟩ := hW.2.1.1
  have no : (¬ vR n 1 20 ∨ ∃ i, i ≤ 20 ∧ n = nI i ∧ 999 < d + i) → Jp t a (f_X9_days N 0 n) (f_X10_days N 78 n) := by
    intro hno
    refine ⟨-1, refu a 1, t, WX_refu hW, fun S hX hO => ?_, fun S hX => ?_⟩
    · have fin : Rn (b_X9_days_26 N 0 S) (fun q => q.1 = -1 ∧ PC t (refu a 1) S q.2) := by
        unfold b_X9_days_26
        rw [r0_4, n7, inb1T (by decide) (by decide), inb1T (by decide) (by decide), c01]
        exact Rn_ret ⟨rfl, c_refu hX hO (by omega)⟩
      unfold f_X9_days
      by_cases z1 : n < 1
      · rw [if_pos z1]; exact fin
      · rw [if_neg z1]
        by_cases z2 : 20 < n
        · rw [if_pos z2]; exact fin
        · rw [if_neg z2, r0_7, c_dayNow Sk40.1 (by omega) hX.2.2.1.1, bd_some, hd0]
          rcases hno with h | ⟨i, h1, h2, h3⟩
          · exact absurd ⟨z1, le_of_nlt z2⟩ h
          · rw [h2, nIa, l999, leF (by omega) (by omega)]
            exact fin
    · obtain ⟨k1, k2, k3⟩ := XM_0 hX hnp
      have fin : Rn (b_X10_days_29 N 78 (sp S 78 0 0)) (fun q => q.1 = -1 ∧ PM (refu a 1) S q.2) := by
        unfold b_X10_days_29
        rw [l1]
        exact Rn_bd (Rn_mono (m_refu k1 (by omega) hnp k3) (fun q h => Rn_ret ⟨h.1, h.2.1⟩))
      unfold f_X10_days
      by_cases z1 : vR n 1 20
      · rw [h_in_1_20.1 z1, bd_some, if_neg (by decide), r78_46, n96, inb0T (by decide) (by decide), c00, RM_0 k1.2.1.1 (by omega), hd0]
        rcases hno with h | ⟨i, h1, h2, h3⟩
        · exact absurd z1 h
        · rw [h2, nIa, l999, leF (by omega) (by omega)]
          exact fin
      · rw [h_in_1_20.2 z1, bd_some, if_pos rfl]
        exact fin
  by_cases h1 : vR n 1 20
  · obtain ⟨i, hi0, hi, ei⟩ := vR_n h1 (by omega) (by omega)
    by_cases h2 : d + i ≤ 999
    · obtain ⟨i1, i2, -, -⟩ := dys_in hI hRI hd0 i (by omega)
      refine ⟨nI (d + i), act a (dys a.1 d a.2.1.1 i), t, WX_act hW ⟨i1, d + i, h2, i2⟩, fun S hX hO => ?_, fun S hX => ?_⟩
      · unfold f_X9_days
        rw [if_neg (show ¬ n < 1 from h1.1), if_neg (show ¬ 20 < n from nlt_of_le h1.2), r0_7, c_dayNow Sk40.1 (by omega) hX.2.2.1.1, bd_some, hd0, ei, nIa, l999, leT h2 (by omega), r0_9]
        refine c_act2 hW hX hO (fun S1 hk hfin => ?_)
        refine lp0 (fun m (s : am_S) j => b_X9_days_51 N m 0 (nI i) j s) (fun j s => HC s t ∧ CC s t a.1 ∧ RC s 40 (72 + cnp a.1) (dys a.1 d a.2.1.1 j) ∧ Fr (dW t 40) S1 s) _ i ?_ ?_ N S1 (by omega) ⟨hk.1, hk.2.1, hk.2.2, Fr_rf _ _⟩
        · intro m s hs
          obtain ⟨g1, g2, g3, g4⟩ := hs
          show Rn (b_X9_days_51 N (m + 1) 0 (nI i) (nI i) s) _
          unfold b_X9_days_51
          rw [leT (Nat.le_refl _) (by omega), r0_7, c_dayNow Sk40.1 (by omega) g3, bd_some, i2]
          exact Rn_ret ⟨rfl, hfin s _ g3 g4⟩
        · intro m j s hj hs ih
          obtain ⟨g1, g2, g3, g4⟩ := hs
          show Rn (b_X9_days_51 N (m + 1) 0 (nI i) (nI j) s) _
          unfold b_X9_days_51
          obtain ⟨j1, j2, -, -⟩ := dys_in hI hRI hd0 j (by omega)
          rw [leF (by omega) (by omega), g_isC g1, g1.1, r0_7, nI1]
          refine Rn_bd (Rn_mono (c_passDay hN g1.2.1 Sk40 hI g2 g3 j1 j2 (by omega)) (fun q h => ?_))
          exact ih q.2 ⟨HC_same g1 (by rw [h.2.2.2]), CC_day g1.2.1 Sk40 g2 h.2.2, h.2.1, Fr_tr g4 h.2.2⟩
      · obtain ⟨k1, k2, k3⟩ := XM_0 hX hnp
        unfold f_X10_days
        rw [h_in_1_20.1 h1, bd_some, if_neg (by decide), r78_46, n96, inb0T (by decide) (by decide), c00, RM_0 k1.2.1.1 (by omega), hd0, ei, nIa, l999, leT h2 (by omega)]
        refine m_act2 hN hW k1 k3 k2 (fun S1 hk hfin => ?_)
        refine lp0 (fun m (s : am_S) j => b_X10_days_41 N m 78 (nI i) j s) (fun j s => RM s 0 (72 + cnp a.1) (dys a.1 d a.2.1.1 j) ∧ Fm (mW 0) S1 s) _ i ?_ ?_ N S1 (by omega) ⟨hk.2.2, Fm_rf _ _⟩
        · intro m s hs
          show Rn (b_X10_days_41 N (m + 1) 78 (nI i) (nI i) s) _
          unfold b_X10_days_41
          rw [leT (Nat.le_refl _) (by omega), r78_46, n96, inb0T (by decide) (by decide), c00, RM_0 hs.1 (by omega), i2]
          exact Rn_ret ⟨rfl, (hfin s _ hs.1 hs.2).1⟩
        · intro m j s hj hs ih
          show Rn (b_X10_days_41 N (m + 1) 78 (nI i) (nI j) s) _
          unfold b_X10_days_41
          obtain ⟨j1, j2, -, -⟩ := dys_in hI hRI hd0 j (by omega)
          rw [leF (by omega) (by omega), nI1, l0]
          refine Rn_bv (Rn_mono (m_dayO hN (by omega) hI (CM_m hk.1 hs.2) (MO_m hk.2.1 hs.2) hs.1 j1 j2 (by omega)) (fun S' h => ?_))
          exact ih S' ⟨h.1, Fm_tr hs.2 h.2.1⟩
    · exact no (Or.inr ⟨i, hi, ei, by omega⟩)
  · exact no (Or.inl h1)
end
