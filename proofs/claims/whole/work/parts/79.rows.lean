/-! the round and the wet nights are read -/
section
variable {N : Nat}
theorem c_addR {S : am_S} {t v : Nat} {c : Cp} (ht : Ci t) (hn : pnr c < 8) (h : CT S t c) : Rn (f_X1_addRound N t (nI v) S) (fun S' => CT S' t (adR c v) ∧ Fm (fun k _ => t ≤ k ∧ k < t + 15) S S') := by
  have h8 := Ci_8 ht
  obtain ⟨-, -, ⟨r1, n1, r2, n2⟩, -⟩ := ht
  obtain ⟨⟨⟨a1, a2⟩, a3, a4⟩, ⟨a5, a6⟩, a7, ⟨a8, a9⟩, a10, a11⟩ := h
  unfold f_X1_addRound b_X1_addRound_29
  rw [r1, n1, a3, l8, leF hn (by omega), inbT hn (by omega), nIc (by omega), sgn (by omega), a3, nI1]
  refine Rn_ret ⟨⟨⟨⟨by simp (disch := omega) only [sgp, sgn, sgj]; exact a1, by simp (disch := omega) only [sgp, sgn, sgj]; exact a2⟩, sgp _ _ _ _, by simp (disch := omega) only [sgp, sgn, sgj]; exact a4⟩, ⟨fun i hi => by simp (disch := omega) only [sgp, sgn, sgj]; exact a5 i hi, fun i h1 h2 => by simp (disch := omega) only [sgp, sgn, sgj]; exact a6 i h1 h2⟩, fun i hi => by simp (disch := omega) only [sgp, sgn, sgj]; exact a7 i hi, ⟨fun i hi => ?_, fun i hi => by simp (disch := omega) only [sgp, sgn, sgj]; exact a9 i hi⟩, RuC_s a10 (by simp (disch := omega) only [sgp, sgn, sgj]) (fun j => by simp (disch := omega) only [sgp, sgn, sgj]), RuC_s a11 (by simp (disch := omega) only [sgp, sgn, sgj]) (fun j => by simp (disch := omega) only [sgp, sgn, sgj])⟩, Fm_sp (Fm_sp (Fm_rf _ _) (by omega)) (by omega)⟩
  have hi' : i < pnr c + 1 := hi
  show _ = nI (upf (pro c) (pnr c) v i)
  by_cases z : i = pnr c
  · subst z
    rw [upf_e]
    simp (disch := omega) only [sgp, sgn, sgj]
  · rw [upf_n z]
    simp (disch := omega) only [sgp, sgn, sgj]
    exact a8 i (by omega)
theorem c_addW {S : am_S} {t v : Nat} {c : Cp} (ht : Ci t) (hn : pnw c < 8) (h : CT S t c) : Rn (f_X1_addWet N t (nI v) S) (fun S' => CT S' t (adW c v) ∧ Fm (fun k _ => t ≤ k ∧ k < t + 15) S S') := by
  have h8 := Ci_8 ht
  obtain ⟨-, -, ⟨r1, n1, r2, n2⟩, -⟩ := ht
  obtain ⟨⟨⟨a1, a2⟩, a3, a4⟩, ⟨a5, a6⟩, a7, ⟨a8, a9⟩, a10, a11⟩ := h
  unfold f_X1_addWet b_X1_addWet_29
  rw [r2, n2, a4, l8, leF hn (by omega), inbT hn (by omega), nIc (by omega), sgn (by omega), a4, nI1]
  refine Rn_ret ⟨⟨⟨⟨by simp (disch := omega) only [sgp, sgn, sgj]; exact a1, by simp (disch := omega) only [sgp, sgn, sgj]; exact a2⟩, by simp (disch := omega) only [sgp, sgn, sgj]; exact a3, sgp _ _ _ _⟩, ⟨fun i hi => by simp (disch := omega) only [sgp, sgn, sgj]; exact a5 i hi, fun i h1 h2 => by simp (disch := omega) only [sgp, sgn, sgj]; exact a6 i h1 h2⟩, fun i hi => by simp (disch := omega) only [sgp, sgn, sgj]; exact a7 i hi, ⟨fun i hi => by simp (disch := omega) only [sgp, sgn, sgj]; exact a8 i hi, fun i hi => ?_⟩, RuC_s a10 (by simp (disch := omega) only [sgp, sgn, sgj]) (fun j => by simp (disch := omega) only [sgp, sgn, sgj]), RuC_s a11 (by simp (disch := omega) only [sgp, sgn, sgj]) (fun j => by simp (disch := omega) only [sgp, sgn, sgj])⟩, Fm_sp (Fm_sp (Fm_rf _ _) (by omega)) (by omega)⟩
  have hi' : i < pnw c + 1 := hi
  show _ = nI (upf (pwe c) (pnw c) v i)
  by_cases z : i = pnw c
  · subst z
    rw [upf_e]
    simp (disch := omega) only [sgp, sgn, sgj]
  · rw [upf_n z]
    simp (disch := omega) only [sgp, sgn, sgj]
    exact a9 i (by omega)
theorem m_adR {S : am_S} {tp v : Nat} {c : Cp} (h : CTM S tp c) : CTM (sp (sp S 90 (pnr c) (nI v)) 78 28 (nI (pnr c + 1))) tp (adR c v) := by
  obtain ⟨⟨⟨a1, a2⟩, a3, a4, a12⟩, ⟨a5, a6, a13⟩, a7, ⟨a8, a9⟩, a10, a11⟩ := h
  refine ⟨⟨⟨by simp (disch := omega) only [sgp, sgn, sgj]; exact a1, by simp (disch := omega) only [sgp, sgn, sgj]; exact a2⟩, sgp _ _ _ _, by simp (disch := omega) only [sgp, sgn, sgj]; exact a4, by simp (disch := omega) only [sgp, sgn, sgj]; exact a12⟩, ⟨fun i hi => by simp (disch := omega) only [sgp, sgn, sgj]; exact a5 i hi, fun i h1 h2 => by simp (disch := omega) only [sgp, sgn, sgj]; exact a6 i h1 h2, fun i h1 => by simp (disch := omega) only [sgp, sgn, sgj]; exact a13 i h1⟩, fun i hi => by simp (disch := omega) only [sgp, sgn, sgj]; exact a7 i hi, ⟨fun i hi => ?_, fun i hi => by simp (disch := omega) only [sgp, sgn, sgj]; exact a9 i hi⟩, mru_s a10 (Nat.le_refl _) (by simp (disch := omega) only [sgp, sgn, sgj]) (fun j _ => by simp (disch := omega) only [sgp, sgn, sgj]), mru_s a11 (Nat.le_refl _) (by simp (disch := omega) only [sgp, sgn, sgj]) (fun j _ => by simp (disch := omega) only [sgp, sgn, sgj])⟩
  have hi' : i < pnr c + 1 := hi
  show _ = nI (upf (pro c) (pnr c) v i)
  by_cases z : i = pnr c
  · subst z
    rw [upf_e]
    simp (disch := omega) only [sgp, sgn, sgj]
  · rw [upf_n z]
    simp (disch := omega) only [sgp, sgn, sgj]
    exact a8 i (by omega)
theorem m_adW {S : am_S} {tp v : Nat} {c : Cp} (h : CTM S tp c) : CTM (sp (sp S 91 (pnw c) (nI v)) 78 29 (nI (pnw c + 1))) tp (adW c v) := by
  obtain ⟨⟨⟨a1, a2⟩, a3, a4, a12⟩, ⟨a5, a6, a13⟩, a7, ⟨a8, a9⟩, a10, a11⟩ := h
  refine ⟨⟨⟨by simp (disch := omega) only [sgp, sgn, sgj]; exact a1, by simp (disch := omega) only [sgp, sgn, sgj]; exact a2⟩, by simp (disch := omega) only [sgp, sgn, sgj]; exact a3, sgp _ _ _ _, by simp (disch := omega) only [sgp, sgn, sgj]; exact a12⟩, ⟨fun i hi => by simp (disch := omega) only [sgp, sgn, sgj]; exact a5 i hi, fun i h1 h2 => by simp (disch := omega) only [sgp, sgn, sgj]; exact a6 i h1 h2, fun i h1 => by simp (disch := omega) only [sgp, sgn, sgj]; exact a13 i h1⟩, fun i hi => by simp (disch := omega) only [sgp, sgn, sgj]; exact a7 i hi, ⟨fun i hi => by simp (disch := omega) only [sgp, sgn, sgj]; exact a8 i hi, fun i hi => ?_⟩, mru_s a10 (Nat.le_refl _) (by simp (disch := omega) only [sgp, sgn, sgj]) (fun j _ => by simp (disch := omega) only [sgp, sgn, sgj]), mru_s a11 (Nat.le_refl _) (by simp (disch := omega) only [sgp, sgn, sgj]) (fun j _ => by simp (disch := omega) only [sgp, sgn, sgj])⟩
  have hi' : i < pnw c + 1 := hi
  show _ = nI (upf (pwe c) (pnw c) v i)
  by_cases z : i = pnw c
  · subst z
    rw [upf_e]
    simp (disch := omega) only [sgp, sgn, sgj]
  · rw [upf_n z]
    simp (disch := omega) only [sgp, sgn, sgj]
    exact a9 i (by omega)
def rR1 (b : Tx) (x : Ft) (c : Cp) : Ft := if x.2.2.2 = 3 then (if pnr c < 8 then (if 9999 < num b x.2 then x else if num b x.2 < pnb c then x else aF 3 x) else aF 2 x) else x
def rowR (b : Tx) : Nat → Ft → Cp → Ft × Cp
  | 0, x, c => (x, c)
  | n + 1, x, c => if (aN b 9999 (rR1 b x c)).1 = 0 then (if (aN b 9999 (rR1 b x c)).2.2.2 = 3 then rowR b n (aN b 9999 (rR1 b x c)) (adR c (num b x.2)) else (aN b 9999 (rR1 b x c), adR c (num b x.2))) else (aN b 9999 (rR1 b x c), c)
def sRou (b : Tx) (x : Ft) (c : Cp) : Ft × Cp := if (aS b (if 0 < pnr c then aF 5 x else x)).1 = 0 then rowR b 9 (aS b (if 0 < pnr c then aF 5 x else x)) c else (aS b (if 0 < pnr c then aF 5 x else x), c)
def rW1 (x : Ft) (c : Cp) : Ft := if x.2.2.2 = 3 ∧ 8 ≤ pnw c then aF 2 x else x
def rowW (b : Tx) : Nat → Ft → Cp → Ft × Cp
  | 0, x, c => (x, c)
  | n + 1, x, c => if (aN b 9 (rW1 x c)).1 = 0 then (if (aN b 9 (rW1 x c)).2.2.2 = 3 then rowW b n (aN b 9 (rW1 x c)) (adW c (num b x.2)) else (aN b 9 (rW1 x c), adW c (num b x.2))) else (aN b 9 (rW1 x c), c)
def sWet (b : Tx) (x : Ft) (c : Cp) : Ft × Cp := if (aS b (if 0 < pnw c then aF 5 x else x)).1 = 0 then rowW b 9 (aS b (if 0 < pnw c then aF 5 x else x)) c else (aS b (if 0 < pnw c then aF 5 x else x), c)
theorem rR1_2 (b : Tx) (x : Ft) (c : Cp) : (rR1 b x c).2 = x.2 := by
  unfold rR1 aF
  repeat' split
  all_goals rfl
theorem rW1_2 (x : Ft) (c : Cp) : (rW1 x c).2 = x.2 := by
  unfold rW1 aF
  repeat' split
  all_goals rfl
theorem rR1_0 {b : Tx} {x : Ft} {c : Cp} (h : (aN b 9999 (rR1 b x c)).1 = 0) : x.1 = 0 ∧ x.2.2.2 = 3 ∧ pnr c < 8 ∧ num b x.2 ≤ 9999 ∧ num b x.2 < pnb c := by
  obtain ⟨h1, h2, h3⟩ := aN_0 h
  rw [rR1_2] at h2 h3
  unfold rR1 at h1
  rw [if_pos h2] at h1
  have key : ∀ k, ¬ k = 0 → (aF k x).1 = 0 → False := by
    intro k hk q
    by_cases z : x.1 = 0
    · rw [aF0 z] at q
      exact hk q
    · rw [aFf z] at q
      exact z q
  by_cases z1 : pnr c < 8
  · rw [if_pos z1, if_neg (by omega)] at h1
    by_cases z2 : num b x.2 < pnb c
    · rw [if_pos z2] at h1
      exact ⟨h1, h2, z1, h3, z2⟩
    · rw [if_neg z2] at h1
      exact (key 3 (by omega) h1).elim
  · rw [if_neg z1] at h1
    exact (key 2 (by omega) h1).elim
theorem rW1_0 {b : Tx} {x : Ft} {c : Cp} (h : (aN b 9 (rW1 x c)).1 = 0) : x.1 = 0 ∧ x.2.2.2 = 3 ∧ pnw c < 8 ∧ num b x.2 ≤ 9 := by
  obtain ⟨h1, h2, h3⟩ := aN_0 h
  rw [rW1_2] at h2 h3
  unfold rW1 at h1
  by_cases z : 8 ≤ pnw c
  · rw [if_pos ⟨h2, z⟩] at h1
    exfalso
    by_cases z : x.1 = 0
    · rw [aF0 z] at h1
      exact absurd h1 (by show ¬ (2 : Nat) = 0; omega)
    · rw [aFf z] at h1
      exact z h1
  · rw [if_neg (fun q => z q.2)] at h1
    exact ⟨h1, h2, by omega, h3⟩
theorem c_more {S : am_S} {b : Tx} {x : Ft} {i : Nat} (h : PCs S b x) (hi : i < 100) : f_X2_moreNumbers N 2 (nI i) S = some (if x.1 = 0 ∧ (i = 0 ∨ x.2.2.2 = 3) then 1 else 0, S) := by
  have hk := G_kd h.1.1
  unfold f_X2_moreNumbers b_X2_moreNumbers_29 b_X2_moreNumbers_25 b_X2_moreNumbers_30
  rw [r2_0, c_fine h, bd_some, isB0, isB1, ckT, ckT]
  by_cases z : x.1 = 0
  · rw [if_pos z, one0]
    by_cases y : i = 0
    · rw [eq0T y, if_pos ⟨z, Or.inl y⟩]
    · rw [eq0F (by omega) (by omega), h.2.1.2.2.2.1, l3]
      by_cases w : x.2.2.2 = 3
      · rw [eqT w, if_pos ⟨z, Or.inr w⟩]
      · rw [eqF w (by omega) (by omega), if_neg (fun q => q.2.elim y w)]
  · rw [if_neg z, zer0, if_neg (fun q => z q.1)]
theorem c_inR {S : am_S} {b : Tx} {x : Ft} {c : Cp} (hN : 10000 ≤ N) (hb : TxI b) (hI : CpI c) (h : PCs S b x) : Rn (f_X2_readInRow N 2 (nI (pnr c)) (nI 8) 9999 (nI (pnb c)) S) (fun q => q.1 = nI (num b x.2) ∧ PCs q.2 b (aN b 9999 (rR1 b x c)) ∧ Fm cw6 S q.2) := by
  have hk := G_kd h.1.1
  have hnm := G_num h.1.1
  have hnb := hI.1.1
  have hnr := hI.1.2.2.1
  have last : ∀ S1, PCs S1 b (rR1 b x c) → Fm cw6 S S1 → Rn (b_X2_readInRow_69 N 2 9999 S1) (fun q => q.1 = nI (num b x.2) ∧ PCs q.2 b (aN b 9999 (rR1 b x c)) ∧ Fm cw6 S q.2) := by
    intro S1 h1 h2
    unfold b_X2_readInRow_69
    rw [r2_0, l9999]
    refine Rn_bd (Rn_mono (c_N hN hb (by omega) h1) (fun q g => Rn_ret ⟨?_, g.2.1, Fm_tr h2 g.2.2⟩))
    rw [← rR1_2 b x c]
    exact g.1
  unfold f_X2_readInRow b_X2_readInRow_27
  rw [r2_0, h.2.1.2.2.2.1, h.2.1.2.2.2.2, l3]
  by_cases y : x.2.2.2 = 3
  · rw [eqT y]
    by_cases w : pnr c < 8
    · rw [ltT w (by omega), eqT y]
      by_cases v : 9999 < num b x.2
      · have e : (9999 : Int32) < nI (num b x.2) := (nIlt (a := 9999) (by omega) (by omega)).mpr v
        rw [if_pos e]
        refine last S ?_ (Fm_rf _ _)
        unfold rR1
        rw [if_pos y, if_pos w, if_pos v]
        exact h
      · have e : ¬ (9999 : Int32) < nI (num b x.2) := fun q => v ((nIlt (a := 9999) (by omega) (by omega)).mp q)
        rw [if_neg e]
        by_cases u : num b x.2 < pnb c
        · rw [ltT u (by omega)]
          refine last S ?_ (Fm_rf _ _)
          unfold rR1
          rw [if_pos y, if_pos w, if_neg v, if_pos u]
          exact h
        · rw [ltF (by omega) (by omega)]
          refine Rn_bv (Rn_mono (c_F (k := 3) (by omega) h) (fun S1 g1 => ?_))
          refine last S1 ?_ g1.2
          unfold rR1
          rw [if_pos y, if_pos w, if_neg v, if_neg u]
          exact g1.1
    · rw [ltF (by omega) (by omega)]
      refine Rn_bv (Rn_mono (c_F (k := 2) (by omega) h) (fun S1 g1 => ?_))
      refine last S1 ?_ g1.2
      unfold rR1
      rw [if_pos y, if_neg w]
      exact g1.1
  · rw [eqF y (by omega) (by omega), eqF y (by omega) (by omega)]
    refine last S ?_ (Fm_rf _ _)
    unfold rR1
    rw [if_neg y]
    exact h
theorem c_rowR {t : Nat} {b : Tx} {S0 : am_S} (hN : 10000 ≤ N) (hb : TxI b) (ht : Ci t) : ∀ (d n : Nat) (S : am_S) (x : Ft) (c : Cp), pnr c + d = 9 → 0 < d → d + 1 < n → CpI c → PCs S b x → x.1 = 0 → (pnr c = 0 ∨ x.2.2.2 = 3) → CT S t c → Fm (pcW t) S0 S → Rn (b_X2_readRound_24 N n 2 t (nI (pnr c)) S) (fun S' => PCs S' b (rowR b d x c).1 ∧ CT S' t (rowR b d x c).2 ∧ Fm (pcW t) S0 S') := by
  intro d
  induction d with
  | zero => intro n S x c _ h; omega
  | succ d ih =>
    intro n S x c hd _ hn hI h z hor hC hF
    obtain ⟨m, rfl⟩ : ∃ m, n = m + 1 := ⟨n - 1, by omega⟩
    have hk := G_kd h.1.1
    have hnm := G_num h.1.1
    have hnb := hI.1.1
    have hnr := hI.1.2.2.1
    unfold b_X2_readRound_24 rowR
    have e0 : f_X2_moreNumbers N 2 (nI (pnr c)) S = some (1, S) := (c_more h (by omega)).trans (by rw [if_pos ⟨z, hor⟩])
    rw [l8, ltF (by omega) (by omega), e0, bd_some, one0]
    rw [hC.1.1.1]
    refine Rn_bd (Rn_mono (c_inR hN hb hI h) (fun q hq => ?_))
    obtain ⟨h1, h2, h3⟩ := hq
    rw [r2_0, c_fine h2, bd_some]
    have hC2 := CT_6 ht hC h3
    have hF2 := Fm_tr hF (cw_pc (t := t) h3)
    unfold b_X2_readRound_68
    rw [nI1]
    by_cases w : (aN b 9999 (rR1 b x c)).1 = 0
    · obtain ⟨-, -, w3, -, w5⟩ := rR1_0 w
      rw [if_pos w, one0, if_pos w, h1]
      refine Rn_bv (Rn_mono (c_addR ht w3 hC2) (fun S3 g3 => ?_))
      have hP3 := PCs_t ht h2 g3.2
      have hF3 := Fm_tr hF2 (tw_pc g3.2)
      have hI3 : CpI (adR c (num b x.2)) := by
        obtain ⟨⟨i1, i2, i3, i4⟩, i5, i6, i7, i8⟩ := hI
        refine ⟨⟨i1, i2, w3, i4⟩, i5, i6, fun i hi => ?_, i8⟩
        have hi' : i < pnr c + 1 := hi
        show upf (pro c) (pnr c) (num b x.2) i < pnb c
        by_cases v : i = pnr c
        · rw [v, upf_e]
          exact w5
        · rw [upf_n v]
          exact i7 i (by omega)
      by_cases v : (aN b 9999 (rR1 b x c)).2.2.2 = 3
      · rw [if_pos v]
        exact ih m S3 _ (adR c (num b x.2)) (by show pnr c + 1 + d = 9; omega) (by omega) (by omega) hI3 hP3 w (Or.inr v) g3.1 hF3
      · rw [if_neg v]
        obtain ⟨k, rfl⟩ : ∃ k, m = k + 1 := ⟨m - 1, by omega⟩
        unfold b_X2_readRound_24 b_X2_readRound_74
        have e4 : f_X2_moreNumbers N 2 (nI (pnr c + 1)) S3 = some (0, S3) := (c_more hP3 (by omega)).trans (by rw [if_neg (fun q => q.2.elim (by omega) v)])
        rw [l8, ltF (by omega) (by omega), e4, bd_some, zer0]
        exact Rn_ret ⟨hP3, g3.1, hF3⟩
    · rw [if_neg w, zer0, if_neg w]
      obtain ⟨k, rfl⟩ : ∃ k, m = k + 1 := ⟨m - 1, by omega⟩
      unfold b_X2_readRound_24 b_X2_readRound_74
      have e4 : f_X2_moreNumbers N 2 (nI (pnr c + 1)) q.2 = some (0, q.2) := (c_more h2 (by omega)).trans (by rw [if_neg (fun q => w q.1)])
      rw [e4, bd_some, zer0]
      split <;> exact Rn_ret ⟨h2, hC2, hF2⟩
theorem c_rou {S : am_S} {t : Nat} {b : Tx} {x : Ft} {c : Cp} (hN : 10000 ≤ N) (hb : TxI b) (ht : Ci t) (hI : CpI c) (h : PCs S b x) (hC : CT S t c) : Rn (f_X2_readRound N 2 t S) (fun S' => PCs S' b (sRou b x c).1 ∧ CT S' t (sRou b x c).2 ∧ Fm (pcW t) S S') := by
  have hnr := hI.1.2.2.1
  have go : ∀ S1, PCs S1 b (if 0 < pnr c then aF 5 x else x) → CT S1 t c → Fm (pcW t) S S1 → Rn (b_X2_readRound_15 N 2 t S1) (fun S' => PCs S' b (sRou b x c).1 ∧ CT S' t (sRou b x c).2 ∧ Fm (pcW t) S S') := by
    intro S1 h1 h2 h3
    unfold b_X2_readRound_15 sRou
    rw [r2_0]
    refine Rn_bv (Rn_mono (c_S hN hb h1) (fun S2 g2 => ?_))
    have hC2 := CT_6 ht h2 g2.2
    have hF2 := Fm_tr h3 (cw_pc (t := t) g2.2)
    by_cases z : (aS b (if 0 < pnr c then aF 5 x else x)).1 = 0
    · rw [if_pos z]
      have h0 : pnr c = 0 := Classical.byContradiction (fun q => by
        rw [if_pos (by omega)] at z
        by_cases w : x.1 = 0
        · rw [aF0 w, aSf (by show ¬ (5 : Nat) = 0; omega)] at z
          exact absurd z (by show ¬ (5 : Nat) = 0; omega)
        · rw [aFf w, aSf w] at z
          exact w z)
      have := c_rowR hN hb ht 9 N S2 _ c (by omega) (by omega) (by omega) hI g2.1 z (Or.inl h0) hC2 hF2
      rw [show nI (pnr c) = 0 by rw [h0]; rfl] at this
      exact this
    · rw [if_neg z]
      obtain ⟨k, hk⟩ : ∃ k, N = k + 1 := ⟨N - 1, by omega⟩
      rw [show b_X2_readRound_24 N N = b_X2_readRound_24 N (k + 1) by rw [← hk]]
      unfold b_X2_readRound_24 b_X2_readRound_74
      have e4 : f_X2_moreNumbers N 2 0 S2 = some (0, S2) := (c_more (i := 0) g2.1 (by omega)).trans (by rw [if_neg (fun q => z q.1)])
      rw [e4, bd_some, zer0, ite_self]
      exact Rn_ret ⟨g2.1, hC2, hF2⟩
  unfold f_X2_readRound
  rw [hC.1.2.1, r2_0]
  by_cases z : 0 < pnr c
  · rw [le0F z (by omega), l5]
    refine Rn_bv (Rn_mono (c_F (by omega) h) (fun S1 g => ?_))
    refine go S1 ?_ (CT_6 ht hC g.2) (cw_pc g.2)
    rw [if_pos z]
    exact g.1
  · rw [l0, leT (by omega) (by omega)]
    refine go S ?_ hC (Fm_rf _ _)
    rw [if_neg z]
    exact h
end
