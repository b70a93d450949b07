/-! a city as far as it is read; boxes and people -/
section
variable {N : Nat}
abbrev Cp : Type := ((Nat × (Nat → Nat) × (Nat → Nat)) × (Nat × (Nat → Nat) × (Nat → Nat) × (Nat → Int32))) × ((Nat × (Nat → Nat)) × (Nat × (Nat → Nat))) × (Option Prg × Option Prg)
def pnb (c : Cp) : Nat := c.1.1.1
def pba (c : Cp) : Nat → Nat := c.1.1.2.1
def prd (c : Cp) : Nat → Nat := c.1.1.2.2
def pnp (c : Cp) : Nat := c.1.2.1
def ppa (c : Cp) : Nat → Nat := c.1.2.2.1
def ppe (c : Cp) : Nat → Nat := c.1.2.2.2.1
def pat (c : Cp) : Nat → Int32 := c.1.2.2.2.2
def pnr (c : Cp) : Nat := c.2.1.1.1
def pro (c : Cp) : Nat → Nat := c.2.1.1.2
def pnw (c : Cp) : Nat := c.2.1.2.1
def pwe (c : Cp) : Nat → Nat := c.2.1.2.2
def pth (c : Cp) : Option Prg := c.2.2.1
def pso (c : Cp) : Option Prg := c.2.2.2
def upf (f : Nat → Nat) (n v : Nat) : Nat → Nat := fun i => if i = n then v else f i
def adB (c : Cp) (v r : Nat) : Cp := (((pnb c + 1, upf (pba c) (pnb c) v, upf (prd c) (pnb c) r), c.1.2), c.2)
def adP (c : Cp) (v p : Nat) (a : Int32) : Cp := ((c.1.1, (pnp c + 1, upf (ppa c) (pnp c) v, upf (ppe c) (pnp c) p, wr (pat c) (pnp c) a)), c.2)
def adR (c : Cp) (v : Nat) : Cp := (c.1, ((pnr c + 1, upf (pro c) (pnr c) v), c.2.1.2), c.2.2)
def adW (c : Cp) (v : Nat) : Cp := (c.1, (c.2.1.1, (pnw c + 1, upf (pwe c) (pnw c) v)), c.2.2)
theorem upf_e (f : Nat → Nat) (n v : Nat) : upf f n v n = v := if_pos rfl
theorem upf_n {f : Nat → Nat} {n v i : Nat} (h : ¬ i = n) : upf f n v i = f i := if_neg h
def CT (S : am_S) (t : Nat) (c : Cp) : Prop := ((sg S t 0 = nI (pnb c) ∧ sg S t 3 = nI (pnp c)) ∧ sg S t 8 = nI (pnr c) ∧ sg S t 10 = nI (pnw c)) ∧ ((∀ i, i < pnb c → sg S (t + 1) i = nI (pba c i) ∧ sg S (t + 2) i = nI (prd c i)) ∧ (∀ i, pnb c ≤ i → i < 6 → sg S (t + 2) i = 0)) ∧ (∀ i, i < pnp c → sg S (t + 3) i = nI (ppa c i) ∧ sg S (t + 4) i = nI (ppe c i) ∧ sg S (t + 5) i = pat c i) ∧ ((∀ i, i < pnr c → sg S (t + 7) i = nI (pro c i)) ∧ (∀ i, i < pnw c → sg S (t + 8) i = nI (pwe c i))) ∧ (RuC S (t + 9) (pth c) ∧ RuC S (t + 12) (pso c))
def clen : Prg → Nat
  | [] => 0
  | x :: P => (if x.1 = 1 ∨ x.1 = 2 then 2 else 1) + clen P
def codeX (S : am_S) : Nat → Prg → Prop
  | _, [] => True
  | a, x :: P => sg S 93 a = nI x.1 ∧ (x.1 = 1 ∨ x.1 = 2 → sg S 93 (a + 1) = nI x.2) ∧ codeX S (a + if x.1 = 1 ∨ x.1 = 2 then 2 else 1) P
def mru (S : am_S) (tp f : Nat) : Option Prg → Prop
  | none => sg S 78 f = -1
  | some P => ∃ a, sg S 78 f = nI a ∧ codeX S a P ∧ sg S 93 (a + clen P) = 0 ∧ a + clen P < tp
def CTM (S : am_S) (tp : Nat) (c : Cp) : Prop := ((sg S 78 26 = nI (pnb c) ∧ sg S 78 27 = nI (pnp c)) ∧ sg S 78 28 = nI (pnr c) ∧ sg S 78 29 = nI (pnw c) ∧ sg S 78 32 = nI tp) ∧ ((∀ i, i < pnb c → sg S 87 i = nI (pba c i) ∧ sg S 92 (2 + i) = nI (prd c i)) ∧ (∀ i, pnb c ≤ i → i < 6 → sg S 92 (2 + i) = 0) ∧ (∀ i, i < 2 ∨ (8 ≤ i ∧ i < 72) → sg S 92 i = 0)) ∧ (∀ i, i < pnp c → sg S 88 i = nI (ppa c i) ∧ sg S 89 i = nI (ppe c i) ∧ sg S 92 (72 + i) = pat c i) ∧ ((∀ i, i < pnr c → sg S 90 i = nI (pro c i)) ∧ (∀ i, i < pnw c → sg S 91 i = nI (pwe c i))) ∧ (mru S tp 30 (pth c) ∧ mru S tp 31 (pso c))
def CpI (c : Cp) : Prop := (pnb c ≤ 6 ∧ pnp c ≤ 8 ∧ pnr c ≤ 8 ∧ pnw c ≤ 8) ∧ (∀ i, i < pnb c → pba c i ≤ 30 ∧ prd c i ≤ 99) ∧ (∀ i, i < pnp c → ppa c i ≤ 30 ∧ ppe c i ≤ 9 ∧ (pat c i = -1 ∨ ∃ q, q ≤ 7 ∧ pat c i = nI q)) ∧ (∀ i, i < pnr c → pro c i < pnb c) ∧ (∀ i, i < pnw c → pwe c i ≤ 9)
theorem RuC_s {S S' : am_S} {k : Nat} {o : Option Prg} (h : RuC S k o) (h1 : sg S' k 1 = sg S k 1) (h2 : ∀ j, sg S' (k + 1) j = sg S (k + 1) j) : RuC S' k o := by
  cases o with
  | none => exact h1.trans h
  | some P => exact ⟨h1.trans h.1, stepsAt_same h2 h.2⟩
theorem CT_same {S S' : am_S} {t : Nat} {c : Cp} (h : CT S t c) (hs : ∀ k j, t ≤ k → k < t + 15 → sg S' k j = sg S k j) : CT S' t c := by
  obtain ⟨⟨⟨a1, a2⟩, a3, a4⟩, ⟨a5, a6⟩, a7, ⟨a8, a9⟩, a10, a11⟩ := h
  exact ⟨⟨⟨(hs _ _ (by omega) (by omega)).trans a1, (hs _ _ (by omega) (by omega)).trans a2⟩, (hs _ _ (by omega) (by omega)).trans a3, (hs _ _ (by omega) (by omega)).trans a4⟩, ⟨fun i hi => ⟨(hs _ _ (by omega) (by omega)).trans (a5 i hi).1, (hs _ _ (by omega) (by omega)).trans (a5 i hi).2⟩, fun i h1 h2 => (hs _ _ (by omega) (by omega)).trans (a6 i h1 h2)⟩, fun i hi => ⟨(hs _ _ (by omega) (by omega)).trans (a7 i hi).1, (hs _ _ (by omega) (by omega)).trans (a7 i hi).2.1, (hs _ _ (by omega) (by omega)).trans (a7 i hi).2.2⟩, ⟨fun i hi => (hs _ _ (by omega) (by omega)).trans (a8 i hi), fun i hi => (hs _ _ (by omega) (by omega)).trans (a9 i hi)⟩, RuC_s a10 (hs _ _ (by omega) (by omega)) (fun j => hs _ _ (by omega) (by omega)), RuC_s a11 (hs _ _ (by omega) (by omega)) (fun j => hs _ _ (by omega) (by omega))⟩
theorem codeX_s {S S' : am_S} : ∀ {P : Prg} {a n : Nat}, a + clen P ≤ n → codeX S a P → (∀ j, j < n → sg S' 93 j = sg S 93 j) → codeX S' a P := by
  intro P
  induction P with
  | nil => intro _ _ _ _ _; trivial
  | cons x P ih =>
    intro a n hn h hs
    obtain ⟨h1, h2, h3⟩ := h
    unfold clen at hn
    have hp : 1 ≤ (if x.1 = 1 ∨ x.1 = 2 then 2 else 1) := by split <;> omega
    refine ⟨(hs _ (by omega)).trans h1, fun q => (hs _ ?_).trans (h2 q), ih (by omega) h3 hs⟩
    rw [if_pos q] at hn
    omega
theorem mru_s {S S' : am_S} {tp tp' f : Nat} {o : Option Prg} (h : mru S tp f o) (htp : tp ≤ tp') (h1 : sg S' 78 f = sg S 78 f) (h2 : ∀ j, j < tp → sg S' 93 j = sg S 93 j) : mru S' tp' f o := by
  cases o with
  | none => exact h1.trans h
  | some P =>
    obtain ⟨a, b1, b2, b3, b4⟩ := h
    exact ⟨a, h1.trans b1, codeX_s (by omega) b2 h2, (h2 _ b4).trans b3, by omega⟩
def mcW : Nat → Nat → Prop := fun k j => (k = 78 ∧ 26 ≤ j ∧ j ≤ 32) ∨ (87 ≤ k ∧ k ≤ 93)
theorem CTM_same {S S' : am_S} {tp : Nat} {c : Cp} (h : CTM S tp c) (hs : ∀ k j, mcW k j → sg S' k j = sg S k j) : CTM S' tp c := by
  unfold mcW at hs
  obtain ⟨⟨⟨a1, a2⟩, a3, a4, a12⟩, ⟨a5, a6, a13⟩, a7, ⟨a8, a9⟩, a10, a11⟩ := h
  exact ⟨⟨⟨(hs _ _ (by omega)).trans a1, (hs _ _ (by omega)).trans a2⟩, (hs _ _ (by omega)).trans a3, (hs _ _ (by omega)).trans a4, (hs _ _ (by omega)).trans a12⟩, ⟨fun i hi => ⟨(hs _ _ (by omega)).trans (a5 i hi).1, (hs _ _ (by omega)).trans (a5 i hi).2⟩, fun i h1 h2 => (hs _ _ (by omega)).trans (a6 i h1 h2), fun i h1 => (hs _ _ (by omega)).trans (a13 i h1)⟩, fun i hi => ⟨(hs _ _ (by omega)).trans (a7 i hi).1, (hs _ _ (by omega)).trans (a7 i hi).2.1, (hs _ _ (by omega)).trans (a7 i hi).2.2⟩, ⟨fun i hi => (hs _ _ (by omega)).trans (a8 i hi), fun i hi => (hs _ _ (by omega)).trans (a9 i hi)⟩, mru_s a10 (Nat.le_refl _) (hs _ _ (by omega)) (fun j _ => hs _ _ (by omega)), mru_s a11 (Nat.le_refl _) (hs _ _ (by omega)) (fun j _ => hs _ _ (by omega))⟩
theorem CTM_6 {S S' : am_S} {tp : Nat} {c : Cp} (h : CTM S tp c) (hf : Fl mw6 S S') : CTM S' tp c := CTM_same h (fun k j hk => hf.1 k j (by unfold mcW at hk; unfold mw6; omega))
def pcW (t : Nat) : Nat → Nat → Prop := fun k j => (k = 3 ∧ 2 ≤ j) ∨ k = 5 ∨ k = 6 ∨ (t ≤ k ∧ k < t + 15)
def pmW : Nat → Nat → Prop := fun k j => (k = 78 ∧ 15 ≤ j ∧ j ≤ 36) ∨ (87 ≤ k ∧ k ≤ 95)
theorem cw_pc {t : Nat} {S S' : am_S} (h : Fm cw6 S S') : Fm (pcW t) S S' := Fm_wk h (fun k j q => Or.inl ⟨q.1, q.2.1⟩)
theorem mw_pm {S S' : am_S} (h : Fl mw6 S S') : Fl pmW S S' := Fl_wk h (fun k j q => Or.inl ⟨q.1, by unfold mw6 at q; omega, by unfold mw6 at q; omega⟩)
theorem Ci_8 {t : Nat} (h : Ci t) : t = 8 ∨ t = 24 := h.2.2.2.2.1
theorem CT_6 {S S' : am_S} {t : Nat} {c : Cp} (ht : Ci t) (h : CT S t c) (hf : Fm cw6 S S') : CT S' t c := CT_same h (fun k j h1 h2 => hf.1 k j (by have := Ci_8 ht; unfold cw6; omega))
def sBox (b : Tx) (x : Ft) (c : Cp) : Ft × Cp :=
  (aN b 99 (aN b 30 (aS b (if pnb c < 6 then x else aF 2 x))), if (aN b 99 (aN b 30 (aS b (if pnb c < 6 then x else aF 2 x)))).1 = 0 then adB c (num b (aS b (if pnb c < 6 then x else aF 2 x)).2) (num b (aN b 30 (aS b (if pnb c < 6 then x else aF 2 x))).2) else c)
theorem aN_0 {b : Tx} {m : Nat} {x : Ft} (h : (aN b m x).1 = 0) : x.1 = 0 ∧ x.2.2.2 = 3 ∧ num b x.2 ≤ m := by
  by_cases z : x.1 = 0
  · refine ⟨z, ?_⟩
    unfold aN at h
    by_cases y : x.2.2.2 = 3
    · rw [if_pos y] at h
      by_cases w : num b x.2 ≤ m
      · exact ⟨y, w⟩
      · rw [if_neg w, aF0 z, aSf (by show ¬ (2 : Nat) = 0; omega)] at h
        exact absurd h (by show ¬ (2 : Nat) = 0; omega)
    · rw [if_neg y, aF0 z, aSf (by show ¬ (1 : Nat) = 0; omega)] at h
      exact absurd h (by show ¬ (1 : Nat) = 0; omega)
  · rw [aNf z] at h
    exact absurd h z
theorem c_addB {S : am_S} {t v r : Nat} {c : Cp} (ht : Ci t) (hI : CpI c) (hn : pnb c < 6) (h : CT S t c) : Rn (f_X1_addBox N t (nI v) (nI r) S) (fun S' => CT S' t (adB c v r) ∧ Fm (fun k _ => t ≤ k ∧ k < t + 15) S S') := by
  have h8 := Ci_8 ht
  obtain ⟨⟨r1, n1, r2, n2⟩, -⟩ := ht
  obtain ⟨⟨⟨a1, a2⟩, a3, a4⟩, ⟨a5, a6⟩, a7, ⟨a8, a9⟩, a10, a11⟩ := h
  unfold f_X1_addBox b_X1_addBox_39
  rw [r1, r2, n1, n2, a1, l6, leF hn (by omega), inbT hn (by omega), sgn (by omega), a1, inbT hn (by omega), nIc (by omega), sgn (by omega), sgn (by omega), a1, nI1]
  refine Rn_ret ⟨⟨⟨⟨sgp _ _ _ _, ?_⟩, ?_, ?_⟩, ⟨fun i hi => ?_, fun i h1 h2 => ?_⟩, fun i hi => ?_, ⟨fun i hi => ?_, fun i hi => ?_⟩, ?_, ?_⟩, Fm_sp (Fm_sp (Fm_sp (Fm_rf _ _) (by omega)) (by omega)) (by omega)⟩
  · rw [sgj (by omega), sgn (by omega), sgn (by omega)]
    exact a2
  · rw [sgj (by omega), sgn (by omega), sgn (by omega)]
    exact a3
  · rw [sgj (by omega), sgn (by omega), sgn (by omega)]
    exact a4
  · have hi' : i < pnb c + 1 := hi
    show _ = nI (upf (pba c) (pnb c) v i) ∧ _ = nI (upf (prd c) (pnb c) r i)
    by_cases z : i = pnb c
    · subst z
      rw [upf_e, upf_e]
      exact ⟨by simp (disch := omega) only [sgp, sgn, sgj], by simp (disch := omega) only [sgp, sgn, sgj]⟩
    · rw [upf_n z, upf_n z]
      exact ⟨by simp (disch := omega) only [sgp, sgn, sgj]; exact (a5 i (by omega)).1, by simp (disch := omega) only [sgp, sgn, sgj]; exact (a5 i (by omega)).2⟩
  · have h1' : pnb c + 1 ≤ i := h1
    rw [sgn (by omega), sgj (by omega), sgn (by omega)]
    exact a6 i (by omega) h2
  · rw [sgn (by omega), sgn (by omega), sgn (by omega), sgn (by omega), sgn (by omega), sgn (by omega), sgn (by omega), sgn (by omega), sgn (by omega)]
    exact a7 i hi
  · rw [sgn (by omega), sgn (by omega), sgn (by omega)]
    exact a8 i hi
  · rw [sgn (by omega), sgn (by omega), sgn (by omega)]
    exact a9 i hi
  · exact RuC_s a10 (by rw [sgn (by omega), sgn (by omega), sgn (by omega)]) (fun j => by rw [sgn (by omega), sgn (by omega), sgn (by omega)])
  · exact RuC_s a11 (by rw [sgn (by omega), sgn (by omega), sgn (by omega)]) (fun j => by rw [sgn (by omega), sgn (by omega), sgn (by omega)])
theorem tw_pc {t : Nat} {S S' : am_S} (h : Fm (fun k _ => t ≤ k ∧ k < t + 15) S S') : Fm (pcW t) S S' := Fm_wk h (fun k j q => Or.inr (Or.inr (Or.inr q)))
theorem PCs_t {t : Nat} {S S' : am_S} {b : Tx} {x : Ft} (ht : Ci t) (h : PCs S b x) (hf : Fm (fun k _ => t ≤ k ∧ k < t + 15) S S') : PCs S' b x := PCs_f h hf.2 (fun k j hk => hf.1 k j (by have := Ci_8 ht; omega))
theorem c_box {S : am_S} {t : Nat} {b : Tx} {x : Ft} {c : Cp} (hN : 10000 ≤ N) (hb : TxI b) (ht : Ci t) (hI : CpI c) (h : PCs S b x) (hC : CT S t c) : Rn (f_X2_readBox N 2 t S) (fun S' => PCs S' b (sBox b x c).1 ∧ CT S' t (sBox b x c).2 ∧ Fm (pcW t) S S') := by
  have h8 := Ci_8 ht
  have hnb := hI.1.1
  have go : ∀ S1 y, y = (if pnb c < 6 then x else aF 2 x) → PCs S1 b y → CT S1 t c → Fm (pcW t) S S1 → Rn (b_X2_readBox_17 N 2 t S1) (fun S' => PCs S' b (sBox b x c).1 ∧ CT S' t (sBox b x c).2 ∧ Fm (pcW t) S S') := by
    intro S1 y hy h1 h2 h3
    unfold b_X2_readBox_17 sBox
    rw [← hy, r2_0]
    refine Rn_bv (Rn_mono (c_S hN hb h1) (fun S2 g2 => ?_))
    rw [l30]
    refine Rn_bd (Rn_mono (c_N hN hb (by omega) g2.1) (fun q3 g3 => ?_))
    rw [l99]
    refine Rn_bd (Rn_mono (c_N hN hb (by omega) g3.2.1) (fun q4 g4 => ?_))
    have hC4 := CT_6 ht (CT_6 ht (CT_6 ht h2 g2.2) g3.2.2) g4.2.2
    have hF4 := Fm_tr (Fm_tr (Fm_tr h3 (cw_pc g2.2)) (cw_pc g3.2.2)) (cw_pc g4.2.2)
    rw [c_fine g4.2.1, bd_some]
    unfold b_X2_readBox_60
    by_cases z : (aN b 99 (aN b 30 (aS b y))).1 = 0
    · rw [if_pos z, one0, if_pos z, g3.1, g4.1]
      have hlt : pnb c < 6 := Classical.byContradiction (fun q => by
        have z1 := (aN_0 (aN_0 z).1).1
        rw [if_neg q] at hy
        rw [hy] at z1
        by_cases w : x.1 = 0
        · rw [aF0 w, aSf (by show ¬ (2 : Nat) = 0; omega)] at z1
          exact absurd z1 (by show ¬ (2 : Nat) = 0; omega)
        · rw [aFf w, aSf w] at z1
          exact w z1)
      refine Rn_bv (Rn_mono (c_addB ht hI hlt hC4) (fun S5 g5 => Rn_ret ⟨PCs_t ht g4.2.1 g5.2, g5.1, Fm_tr hF4 (tw_pc g5.2)⟩))
    · rw [if_neg z, zer0, if_neg z]
      exact Rn_ret ⟨g4.2.1, hC4, hF4⟩
  unfold f_X2_readBox
  rw [hC.1.1.1, l6, r2_0]
  by_cases z : pnb c < 6
  · rw [ltT z (by omega)]
    exact go S x (by rw [if_pos z]) h hC (Fm_rf _ _)
  · rw [ltF (by omega) (by omega), l2]
    refine Rn_bv (Rn_mono (c_F (by omega) h) (fun S1 g => ?_))
    exact go S1 _ (by rw [if_neg z]) g.1 (CT_6 ht hC g.2) (cw_pc g.2)
theorem c_addP {S : am_S} {t v r : Nat} {w : Int32} {c : Cp} (ht : Ci t) (hn : pnp c < 8) (h : CT S t c) : Rn (f_X1_addPerson N t (nI v) (nI r) w S) (fun S' => CT S' t (adP c v r w) ∧ Fm (fun k _ => t ≤ k ∧ k < t + 15) S S') := by
  have h8 := Ci_8 ht
  obtain ⟨-, ⟨r1, n1, r2, n2, r3, n3, -⟩, -⟩ := ht
  obtain ⟨⟨⟨a1, a2⟩, a3, a4⟩, ⟨a5, a6⟩, a7, ⟨a8, a9⟩, a10, a11⟩ := h
  unfold f_X1_addPerson b_X1_addPerson_49
  rw [r1, r2, r3, n1, n2, n3]
  have e1 : sg (sp S (t + 3) (Int32.toNatClampNeg (sg S t 3)) (nI v)) t 3 = nI (pnp c) := by rw [sgn (by omega)]; exact a2
  have e2 : sg (sp (sp S (t + 3) (Int32.toNatClampNeg (sg S t 3)) (nI v)) (t + 4) (Int32.toNatClampNeg (sg (sp S (t + 3) (Int32.toNatClampNeg (sg S t 3)) (nI v)) t 3)) (nI r)) t 3 = nI (pnp c) := by rw [sgn (by omega)]; exact e1
  rw [e2, e1, a2, l8, leF hn (by omega), inbT hn (by omega), inbT hn (by omega), inbT hn (by omega), nIc (by omega), sgn (by omega), sgn (by omega), sgn (by omega), a2, nI1]
  refine Rn_ret ⟨⟨⟨⟨?_, sgp _ _ _ _⟩, ?_, ?_⟩, ⟨fun i hi => ?_, fun i h1 h2 => ?_⟩, fun i hi => ?_, ⟨fun i hi => ?_, fun i hi => ?_⟩, ?_, ?_⟩, Fm_sp (Fm_sp (Fm_sp (Fm_sp (Fm_rf _ _) (by omega)) (by omega)) (by omega)) (by omega)⟩
  · simp (disch := omega) only [sgp, sgn, sgj]
    exact a1
  · simp (disch := omega) only [sgp, sgn, sgj]
    exact a3
  · simp (disch := omega) only [sgp, sgn, sgj]
    exact a4
  · simp (disch := omega) only [sgp, sgn, sgj]
    exact a5 i hi
  · simp (disch := omega) only [sgp, sgn, sgj]
    exact a6 i h1 h2
  · have hi' : i < pnp c + 1 := hi
    show _ = nI (upf (ppa c) (pnp c) v i) ∧ _ = nI (upf (ppe c) (pnp c) r i) ∧ _ = wr (pat c) (pnp c) w i
    by_cases z : i = pnp c
    · subst z
      rw [upf_e, upf_e, wr_eq]
      exact ⟨by simp (disch := omega) only [sgp, sgn, sgj], by simp (disch := omega) only [sgp, sgn, sgj], by simp (disch := omega) only [sgp, sgn, sgj]⟩
    · rw [upf_n z, upf_n z, wr_ne z]
      exact ⟨by simp (disch := omega) only [sgp, sgn, sgj]; exact (a7 i (by omega)).1, by simp (disch := omega) only [sgp, sgn, sgj]; exact (a7 i (by omega)).2.1, by simp (disch := omega) only [sgp, sgn, sgj]; exact (a7 i (by omega)).2.2⟩
  · simp (disch := omega) only [sgp, sgn, sgj]
    exact a8 i hi
  · simp (disch := omega) only [sgp, sgn, sgj]
    exact a9 i hi
  · exact RuC_s a10 (by simp (disch := omega) only [sgp, sgn, sgj]) (fun j => by simp (disch := omega) only [sgp, sgn, sgj])
  · exact RuC_s a11 (by simp (disch := omega) only [sgp, sgn, sgj]) (fun j => by simp (disch := omega) only [sgp, sgn, sgj])
def y2 (b : Tx) (x : Ft) (c : Cp) : Ft := aS b (if pnp c < 8 then x else aF 2 x)
def y4 (b : Tx) (x : Ft) (c : Cp) : Ft := aN b 9 (aN b 30 (y2 b x c))
abbrev isAt (b : Tx) (x : Ft) : Prop := x.1 = 0 ∧ kw (wdn b x.2) = 11
def y5 (b : Tx) (x : Ft) (n : Nat) : Ft := if (aS b x).2.2.2 = 3 ∧ num b (aS b x).2 = n then aF 4 (aS b x) else aS b x
def y6 (b : Tx) (x : Ft) (c : Cp) : Ft := if isAt b (y4 b x c) then aN b 7 (y5 b (y4 b x c) (pnp c)) else y4 b x c
def yAt (b : Tx) (x : Ft) (c : Cp) : Int32 := if isAt b (y4 b x c) then nI (num b (y5 b (y4 b x c) (pnp c)).2) else -1
def sPer (b : Tx) (x : Ft) (c : Cp) : Ft × Cp :=
  (y6 b x c, if (y6 b x c).1 = 0 then adP c (num b (y2 b x c).2) (num b (aN b 30 (y2 b x c)).2) (yAt b x c) else c)
theorem y6_0 {b : Tx} {x : Ft} {c : Cp} (h : (y6 b x c).1 = 0) : (y4 b x c).1 = 0 ∧ pnp c < 8 := by
  have h4 : (y4 b x c).1 = 0 := by
    unfold y6 at h
    split at h
    · rename_i q
      exact q.1
    · exact h
  refine ⟨h4, Classical.byContradiction (fun q => ?_)⟩
  unfold y4 at h4
  have z1 := (aN_0 (aN_0 h4).1).1
  unfold y2 at z1
  rw [if_neg q] at z1
  by_cases w : x.1 = 0
  · rw [aF0 w, aSf (by show ¬ (2 : Nat) = 0; omega)] at z1
    exact absurd z1 (by show ¬ (2 : Nat) = 0; omega)
  · rw [aFf w, aSf w] at z1
    exact w z1
theorem c_per {S : am_S} {t : Nat} {b : Tx} {x : Ft} {c : Cp} (hN : 10000 ≤ N) (hb : TxI b) (ht : Ci t) (hI : CpI c) (h : PCs S b x) (hC : CT S t c) : Rn (f_X2_readPerson N 2 t S) (fun S' => PCs S' b (sPer b x c).1 ∧ CT S' t (sPer b x c).2 ∧ Fm (pcW t) S S') := by
  have h8 := Ci_8 ht
  have hnp := hI.1.2.1
  have fin : ∀ S1 w, PCs S1 b (y6 b x c) → w = yAt b x c → CT S1 t c → Fm (pcW t) S S1 → Rn (b_X2_readPerson_78 N 2 t (nI (num b (y2 b x c).2)) (nI (num b (aN b 30 (y2 b x c)).2)) w S1) (fun S' => PCs S' b (sPer b x c).1 ∧ CT S' t (sPer b x c).2 ∧ Fm (pcW t) S S') := by
    intro S1 w h1 hw h2 h3
    unfold b_X2_readPerson_78 b_X2_readPerson_98 sPer
    rw [r2_0, c_fine h1, bd_some]
    by_cases z : (y6 b x c).1 = 0
    · rw [if_pos z, one0, if_pos z, hw]
      refine Rn_bv (Rn_mono (c_addP ht (y6_0 z).2 h2) (fun S5 g5 => Rn_ret ⟨PCs_t ht h1 g5.2, g5.1, Fm_tr h3 (tw_pc g5.2)⟩))
    · rw [if_neg z, zer0, if_neg z]
      exact Rn_ret ⟨h1, h2, h3⟩
  have go : ∀ S1, PCs S1 b (if pnp c < 8 then x else aF 2 x) → CT S1 t c → Fm (pcW t) S S1 → Rn (b_X2_readPerson_17 N 2 t S1) (fun S' => PCs S' b (sPer b x c).1 ∧ CT S' t (sPer b x c).2 ∧ Fm (pcW t) S S') := by
    intro S1 h1 h2 h3
    unfold b_X2_readPerson_17
    rw [r2_0]
    refine Rn_bv (Rn_mono (c_S hN hb h1) (fun S2 g2 => ?_))
    rw [l30]
    refine Rn_bd (Rn_mono (c_N hN hb (by omega) g2.1) (fun q3 g3 => ?_))
    rw [l9]
    refine Rn_bd (Rn_mono (c_N hN hb (by omega) g3.2.1) (fun q4 g4 => ?_))
    have hC4 := CT_6 ht (CT_6 ht (CT_6 ht h2 g2.2) g3.2.2) g4.2.2
    have hF4 := Fm_tr (Fm_tr (Fm_tr h3 (cw_pc g2.2)) (cw_pc g3.2.2)) (cw_pc g4.2.2)
    have h4 : PCs q4.2 b (y4 b x c) := g4.2.1
    rw [c_fine h4, bd_some, g3.1, g4.1]
    unfold b_X2_readPerson_77
    by_cases z : (y4 b x c).1 = 0
    · rw [if_pos z, one0, c_wd hN hb h4 (by omega) (by omega), bd_some, show skw 3 = 11 from rfl]
      by_cases w : kw (wdn b (y4 b x c).2) = 11
      · have hA : isAt b (y4 b x c) := ⟨z, w⟩
        rw [if_pos w, one0]
        unfold f_X2_readAt b_X2_readAt_37
        rw [r2_0]
        refine Rn_bd (Rn_bv (Rn_mono (c_S hN hb h4) (fun S5 g5 => ?_)))
        have hk := G_kd g5.1.1.1
        have hn := G_num g5.1.1.1
        have fin2 : ∀ S6, PCs S6 b (y5 b (y4 b x c) (pnp c)) → CT S6 t c → Fm (pcW t) S S6 → Rn (bd (f_X8_takeNumber N 3 7 S6) (fun r1 S2 => some (r1, S2))) (fun q => Rn (b_X2_readPerson_78 N 2 t (nI (num b (y2 b x c).2)) (nI (num b (aN b 30 (y2 b x c)).2)) q.1 q.2) (fun S' => PCs S' b (sPer b x c).1 ∧ CT S' t (sPer b x c).2 ∧ Fm (pcW t) S S')) := by
          intro S6 k1 k2 k3
          rw [l7]
          refine Rn_bd (Rn_mono (c_N hN hb (by omega) k1) (fun q7 g7 => Rn_ret ?_))
          refine fin q7.2 q7.1 ?_ ?_ (CT_6 ht k2 g7.2.2) (Fm_tr k3 (cw_pc g7.2.2))
          · unfold y6
            rw [if_pos hA]
            exact g7.2.1
          · rw [g7.1]
            unfold yAt
            rw [if_pos hA]
        have hC5 := CT_6 ht hC4 g5.2
        have hF5 := Fm_tr hF4 (cw_pc (t := t) g5.2)
        rw [g5.1.2.1.2.2.2.1, l3, g5.1.2.1.2.2.2.2, hC4.1.1.2, l4]
        by_cases v : (aS b (y4 b x c)).2.2.2 = 3
        · rw [eqT v]
          by_cases u : num b (aS b (y4 b x c)).2 = pnp c
          · rw [eqT u]
            refine Rn_bv (Rn_mono (c_F (by omega) g5.1) (fun S6 g6 => ?_))
            refine fin2 S6 ?_ (CT_6 ht hC5 g6.2) (Fm_tr hF5 (cw_pc g6.2))
            unfold y5
            rw [if_pos ⟨v, u⟩]
            exact g6.1
          · rw [eqF u (by omega) (by omega)]
            refine fin2 S5 ?_ hC5 hF5
            unfold y5
            rw [if_neg (fun q => u q.2)]
            exact g5.1
        · rw [eqF v (by omega) (by omega)]
          refine fin2 S5 ?_ hC5 hF5
          unfold y5
          rw [if_neg (fun q => v q.1)]
          exact g5.1
      · have hA : ¬ isAt b (y4 b x c) := fun q => w q.2
        rw [if_neg w, zer0]
        exact fin q4.2 _ (by unfold y6; rw [if_neg hA]; exact h4) (by unfold yAt; rw [if_neg hA]) hC4 hF4
    · have hA : ¬ isAt b (y4 b x c) := fun q => z q.1
      rw [if_neg z, zer0]
      exact fin q4.2 _ (by unfold y6; rw [if_neg hA]; exact h4) (by unfold yAt; rw [if_neg hA]) hC4 hF4
  unfold f_X2_readPerson
  rw [hC.1.1.2, l8, r2_0]
  by_cases z : pnp c < 8
  · rw [ltT z (by omega)]
    refine go S ?_ hC (Fm_rf _ _)
    rw [if_pos z]
    exact h
  · rw [ltF (by omega) (by omega), l2]
    refine Rn_bv (Rn_mono (c_F (by omega) h) (fun S1 g => ?_))
    refine go S1 ?_ (CT_6 ht hC g.2) (cw_pc g.2)
    rw [if_neg z]
    exact g.1
end
