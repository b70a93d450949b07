/-! the whole expression, by the class -/
section
variable {N : Nat}
def er (b : Tx) (lo hi : Nat) : Nat → Es → Es
  | 0, e => e
  | n + 1, e => if e.1.1 = 0 ∧ ¬ eN e then er b lo hi n (eS b lo hi e) else e
theorem er_f {b : Tx} {lo hi : Nat} {e : Es} (h : ¬ e.1.1 = 0) : ∀ n, er b lo hi n e = e := by
  intro n
  cases n with
  | zero => rfl
  | succ n => exact if_neg (fun q => h q.1)
def e00 (x : Ft) : Es := (x, ([], []), [], (1, 1, 0))
def sRul (b : Tx) (lo hi : Nat) (o : Option Prg) (x : Ft) : Ft × Option Prg := ((er b lo hi 800 (e00 (aS b (if o = none then x else aF 5 x)))).1, if (er b lo hi 800 (e00 (aS b (if o = none then x else aF 5 x)))).1.1 = 0 then some (rls 1 (er b lo hi 800 (e00 (aS b (if o = none then x else aF 5 x)))).2.1.1 (er b lo hi 800 (e00 (aS b (if o = none then x else aF 5 x)))).2.2.1).2 else o)
theorem EI_0 {A : Nat → Prop} {b : Tx} {x : Ft} (h : TkG b x.2) : EI A b x.2.1 (e00 x) := ⟨h, ⟨by show (1 : Nat) ≤ 1; omega, by show (1 : Nat) ≤ 1; omega, Nat.zero_le _⟩, ⟨Nat.zero_le _, ⟨⟨trivial, Nat.zero_le _⟩, trivial⟩⟩, fun _ _ => ⟨rfl, Nat.zero_le _⟩, rfl, by show 0 + (0 + 1 + 0) + x.2.1 ≤ x.2.1 + 1; omega⟩
theorem EI_S {A : Nat → Prop} {b : Tx} {p lo hi : Nat} {e : Es} (hA : ∀ k, lo ≤ k → k ≤ hi → A k ∧ k ≤ 8) (h : EI A b p e) (hx : e.1.1 = 0) (hg : (eS b lo hi e).1.1 = 0) : EI A b p (eS b lo hi e) ∧ e.1.2.1 + 1 ≤ (eS b lo hi e).1.2.1 := by
  unfold eS at hg ⊢
  have := h.2.1.1
  by_cases z : e.2.2.2.1 = 0
  · rw [if_pos z] at hg ⊢
    exact EI_B h hx z hg
  · rw [if_neg z] at hg ⊢
    exact EI_P hA h hx (by omega) hg
/-- it ends well only at its end -/
theorem er_end {A : Nat → Prop} {b : Tx} {p lo hi : Nat} (hA : ∀ k, lo ≤ k → k ≤ hi → A k ∧ k ≤ 8) : ∀ (d : Nat) (e : Es), b.1 + 2 ≤ e.1.2.1 + d → (e.1.1 = 0 → EI A b p e) → (er b lo hi d e).1.1 = 0 → EI A b p (er b lo hi d e) ∧ eN (er b lo hi d e) := by
  intro d
  induction d with
  | zero =>
    intro e h1 h2 h3
    have h3' : e.1.1 = 0 := h3
    have hI := h2 h3'
    have := (G_hi hI.1)
    omega
  | succ d ih =>
    intro e h1 h2 h3
    unfold er at h3 ⊢
    by_cases z : e.1.1 = 0 ∧ ¬ eN e
    · rw [if_pos z] at h3 ⊢
      by_cases y : (eS b lo hi e).1.1 = 0
      · obtain ⟨k1, k2⟩ := EI_S hA (h2 z.1) z.1 y
        exact ih _ (by omega) (fun _ => k1) h3
      · rw [er_f y] at h3
        exact absurd h3 y
    · rw [if_neg z] at h3 ⊢
      exact ⟨h2 h3, Classical.byContradiction (fun q => z ⟨h3, q⟩)⟩
theorem c_isEnd {S : am_S} {b : Tx} {e : Es} {A : Nat → Prop} {p : Nat} (hb : TxI b) (hE : EI A b p e) (h : PCs S b e.1) (hF : EF S e.2.1.2 e.2.2.2) : f_X6_isEnd N 5 3 S = some (if eN e then 1 else 0, S) := by
  have hkd := G_kd h.1.1
  have h1 := hE.2.1.1
  have h2 := hE.2.2.1.1
  unfold f_X6_isEnd b_X6_isEnd_27 b_X6_isEnd_28
  rw [isB0, isB1, ckT, ckT, hF.2.2.1, hF.1, h.2.1.2.2.2.1]
  have k59 : (nI e.1.2.2.2 = (59 : Int32)) ↔ e.1.2.2.2 = 59 := nIeq (b := 59) (by omega) (by omega)
  by_cases z1 : e.2.2.2.1 = 0
  · rw [eq0T z1]
    by_cases z2 : e.2.1.2.length = 0
    · rw [eq0T z2]
      by_cases z3 : e.1.2.2.2 = 59
      · rw [if_pos (k59.mpr z3), if_pos ⟨z1, z2, z3⟩]
      · rw [if_neg (fun q => z3 (k59.mp q)), if_neg (fun q => z3 q.2.2)]
    · rw [eq0F (by omega) (by omega), if_neg (fun q => z2 q.2.1)]
  · rw [eq0F (by omega) (by omega), if_neg (fun q => z1 q.1)]
theorem c_loop {A : Nat → Prop} {b : Tx} {k p lo hi : Nat} {th : Int32} (hN : 10000 ≤ N) (hb : TxI b) (hth : (th = 1 ∧ lo = 0 ∧ hi = 5) ∨ (th = 0 ∧ lo = 4 ∧ hi = 8)) (hA : ∀ k, lo ≤ k → k ≤ hi → A k ∧ k ≤ 8) (hk : Ru k) (hk2 : 10 < k) : ∀ (d n i : Nat) (S : am_S) (e : Es), d + 1 < n → i ≤ 701 → b.1 + 2 ≤ e.1.2.1 + d → PCs S b e.1 → (e.1.1 = 0 → EI A b p e ∧ i ≤ e.1.2.1 ∧ ER S k e.2.1.1 e.2.1.2 e.2.2.1 ∧ EF S e.2.1.2 e.2.2.2) → Rn (b_X6_read_33 N n 5 3 k th (nI i) S) (fun S' => PCs S' b (er b lo hi d e).1 ∧ ((er b lo hi d e).1.1 = 0 → RuC S' k (some (rls 1 (er b lo hi d e).2.1.1 (er b lo hi d e).2.2.1).2)) ∧ Fm (eWk k) S S') := by
  have hL := hb.1
  have t9 : am_rank.getD 1 0 = nI 1 := by decide +kernel
  -- the end of it
  have fin : ∀ (S S0 : am_S) (e : Es), PCs S b e.1 → (e.1.1 = 0 → EI A b p e ∧ ER S k e.2.1.1 e.2.1.2 e.2.2.1) → Rn (b_X6_read_89 N 5 3 k S) (fun S' => PCs S' b e.1 ∧ (e.1.1 = 0 → RuC S' k (some (rls 1 e.2.1.1 e.2.2.1).2)) ∧ Fm (eWk k) S S') := by
    intro S S0 e h hg
    obtain ⟨x, ⟨s, r⟩, pg, f⟩ := e
    unfold b_X6_read_89 b_X6_read_102
    rw [c_fine h, bd_some]
    by_cases z : x.1 = 0
    · obtain ⟨hE, hR⟩ := hg z
      obtain ⟨b1, b2, b3, b4, b5, b6⟩ := EI_b hb hE
      have hsl := flt_sl (s := s) (r := r)
      rw [if_pos z, one0]
      unfold f_X6_release
      exact Rn_bv (Rn_mono (c_rel (lr := 1) (rr := 1) (r := r) hk hk2 (by omega) ⟨t9, by omega, by omega⟩ s N S pg b6 (by omega) (by omega) (by omega) hR) (fun S1 g => Rn_ret ⟨PCs_e hk2 h g.2, fun _ => ⟨g.1.2.2.1, g.1.2.2.2⟩, ek_w g.2⟩))
    · rw [if_neg z, zer0]
      exact Rn_ret ⟨h, fun q => absurd q z, Fm_rf _ _⟩
  intro d
  induction d with
  | zero =>
    intro n i S e hn hii hd h hg
    have := (G_hi h.1.1)
    omega
  | succ d ih =>
    intro n i S e hn hii hd h hg
    obtain ⟨m, rfl⟩ : ∃ m, n = m + 1 := ⟨n - 1, by omega⟩
    have hT := G_hi h.1.1
    rw [b_X6_read_33]
    have l7h : ((700 : Int32) < nI i) ↔ 700 < i := nIlt (a := 700) (by omega) (by omega)
    by_cases z : e.1.1 = 0 ∧ ¬ eN e
    · obtain ⟨hE, hi2, hR, hF⟩ := hg z.1
      have e1 : er b lo hi (d + 1) e = er b lo hi d (eS b lo hi e) := if_pos z
      rw [e1]
      rw [if_neg (fun q => by have := l7h.mp q; omega), c_fine h, bd_some, if_pos z.1, one0, c_isEnd hb hE h hF, bd_some, if_neg z.2, zer0]
      have hwp := hE.2.1.1
      have next : ∀ S1 y, PCs S1 b y → aS b y = (eS b lo hi e).1 → ((eS b lo hi e).1.1 = 0 → ER S1 k (eS b lo hi e).2.1.1 (eS b lo hi e).2.1.2 (eS b lo hi e).2.2.1 ∧ EF S1 (eS b lo hi e).2.1.2 (eS b lo hi e).2.2.2) → Fm (eWk k) S S1 → Rn (b_X6_read_79 N (b_X6_read_33 N m) 5 3 k th (nI i) S1) (fun S' => PCs S' b (er b lo hi d (eS b lo hi e)).1 ∧ ((er b lo hi d (eS b lo hi e)).1.1 = 0 → RuC S' k (some (rls 1 (er b lo hi d (eS b lo hi e)).2.1.1 (er b lo hi d (eS b lo hi e)).2.2.1).2)) ∧ Fm (eWk k) S S') := by
        intro S1 y h1 h2 h3 h4
        unfold b_X6_read_79
        rw [nI1]
        refine Rn_bv (Rn_mono (c_S hN hb h1) (fun S2 g2 => ?_))
        rw [h2] at g2
        by_cases w : (eS b lo hi e).1.1 = 0
        · obtain ⟨k1, k2⟩ := EI_S hA hE z.1 w
          obtain ⟨k3, k4⟩ := h3 w
          exact Rn_mono (ih m (i + 1) S2 (eS b lo hi e) (by omega) (by have := G_hi g2.1.1.1; omega) (by omega) g2.1 (fun _ => ⟨k1, by omega, ER_6 hk2 k3 g2.2, EF_6 k4 g2.2⟩)) (fun S3 g3 => ⟨g3.1, g3.2.1, Fm_tr (Fm_tr h4 (c6_w g2.2)) g3.2.2⟩)
        · rw [er_f w]
          obtain ⟨m2, rfl⟩ : ∃ m2, m = m2 + 1 := ⟨m - 1, by omega⟩
          rw [b_X6_read_33, c_fine g2.1, bd_some, if_neg w, zer0, ite_self]
          exact Rn_mono (fin S2 S2 _ g2.1 (fun q => absurd q w)) (fun S3 g3 => ⟨g3.1, g3.2.1, Fm_tr (Fm_tr h4 (c6_w g2.2)) g3.2.2⟩)
      obtain ⟨x, ⟨s, r⟩, pg, wp, mn, nt⟩ := e
      have hF4 : sg S 5 4 = nI wp := hF.2.2.1
      have hwp' : wp ≤ 1 := hwp
      rw [hF4]
      by_cases y : wp = 0
      · subst y
        rw [eq0T rfl]
        have e2 : eS b lo hi (x, (s, r), pg, 0, mn, nt) = eB b (x, (s, r), pg, 0, mn, nt) := if_pos rfl
        rw [e2] at next ⊢
        exact Rn_bv (Rn_mono (c_beh hN hb hk hk2 hE z.1 h hR hF) (fun S1 g => by
          obtain ⟨y, g1, g2, g3, g4⟩ := g
          exact next S1 y g1 g2 g3 g4))
      · have y1 : wp = 1 := by omega
        subst y1
        rw [eq0F (by omega) (by omega)]
        have e2 : eS b lo hi (x, (s, r), pg, 1, mn, nt) = eP b lo hi (x, (s, r), pg, 1, mn, nt) := if_neg (by show ¬ (1 : Nat) = 0; omega)
        rw [e2] at next ⊢
        exact Rn_bv (Rn_mono (c_part hN hb hth hk hk2 hE z.1 h hR hF) (fun S1 g => by
          obtain ⟨y, g1, g2, g3, g4⟩ := g
          exact next S1 y g1 g2 g3 g4))
    · have e1 : er b lo hi (d + 1) e = e := if_neg z
      rw [e1]
      have hf := fin S S e h (fun q => ⟨(hg q).1, (hg q).2.2.1⟩)
      by_cases y : e.1.1 = 0
      · obtain ⟨hE, hi2, hR, hF⟩ := hg y
        have hn : eN e := Classical.byContradiction (fun q => z ⟨y, q⟩)
        rw [c_fine h, bd_some, if_pos y, one0, c_isEnd hb hE h hF, bd_some, if_pos hn, one0, ite_self]
        exact hf
      · rw [c_fine h, bd_some, if_neg y, zer0, ite_self]
        exact hf
theorem c_rul {A : Nat → Prop} {S : am_S} {b : Tx} {k lo hi : Nat} {th : Int32} {x : Ft} {o : Option Prg} (hN : 10000 ≤ N) (hb : TxI b) (hth : (th = 1 ∧ lo = 0 ∧ hi = 5) ∨ (th = 0 ∧ lo = 4 ∧ hi = 8)) (hA : ∀ k, lo ≤ k → k ≤ hi → A k ∧ k ≤ 8) (hk : Ru k) (hk2 : 10 < k) (ho : ∀ P, o = some P → P.length ≤ 700 ∧ ¬ P = []) (h : PCs S b x) (hC : RuC S k o) : Rn (f_X6_read N 5 3 k th S) (fun S' => PCs S' b (sRul b lo hi o x).1 ∧ ((sRul b lo hi o x).1.1 = 0 → RuC S' k (sRul b lo hi o x).2) ∧ Fm (eWk k) S S') := by
  have go : ∀ S1 y, y = (if o = none then x else aF 5 x) → PCs S1 b y → Fm (eWk k) S S1 → ((aS b y).1 = 0 → sg S1 k 1 = nI 0) → Rn (b_X6_read_12 N 5 3 k th S1) (fun S' => PCs S' b (sRul b lo hi o x).1 ∧ ((sRul b lo hi o x).1.1 = 0 → RuC S' k (sRul b lo hi o x).2) ∧ Fm (eWk k) S S') := by
    intro S1 y hy h1 h2 h3
    unfold b_X6_read_12 f_X6_beginExpression sRul
    rw [← hy]
    refine Rn_bv (Rn_mono (c_S hN hb h1) (fun S2 g2 => ?_))
    rw [bv_some]
    have hP : PCs (sp (sp (sp (sp (sp S2 5 1 0) 5 2 0) 5 4 1) 5 5 1) 5 3 0) b (e00 (aS b y)).1 := PCs_o (PCs_o (PCs_o (PCs_o (PCs_o g2.1 (by omega)) (by omega)) (by omega)) (by omega)) (by omega)
    have hF0 : Fm (eWk k) S (sp (sp (sp (sp (sp S2 5 1 0) 5 2 0) 5 4 1) 5 5 1) 5 3 0) := Fm_sp (Fm_sp (Fm_sp (Fm_sp (Fm_sp (Fm_tr h2 (c6_w g2.2)) (by unfold eWk; omega)) (by unfold eWk; omega)) (by unfold eWk; omega)) (by unfold eWk; omega)) (by unfold eWk; omega)
    have hL := hb.1
    refine Rn_mono (c_loop (A := A) (p := (aS b y).2.1) (i := 0) hN hb hth hA hk hk2 800 N _ (e00 (aS b y)) (by omega) (by omega) (by omega) hP (fun q => ⟨EI_0 g2.1.1.1, Nat.zero_le _, ⟨?_, trivial, ?_, trivial⟩, ?_, ?_, ?_, ?_⟩)) (fun S3 g3 => ⟨g3.1, fun q => ?_, Fm_tr hF0 g3.2.2⟩)
    · simp (disch := omega) only [sgp, sgn, sgj]
      rfl
    · simp (disch := omega) only [sgp, sgn, sgj]
      rw [g2.2.1 _ _ (by unfold cw6; omega)]
      exact h3 q
    · simp (disch := omega) only [sgp, sgn, sgj]
      rfl
    · simp (disch := omega) only [sgp, sgn, sgj]
      rfl
    · simp (disch := omega) only [sgp, sgn, sgj]
      rfl
    · simp (disch := omega) only [sgp, sgn, sgj]
      rfl
    · have q' : (er b lo hi 800 (e00 (aS b y))).1.1 = 0 := q
      show RuC S3 k (if _ then _ else _)
      rw [if_pos q']
      exact g3.2.1 q'
  unfold f_X6_read f_X5_isUntold b_X5_isUntold_12
  rw [isB0, isB1, ckT, ckT]
  cases o with
  | none =>
    have hC' : sg S k 1 = 0 := hC
    rw [if_pos hC', bd_some, one0]
    exact go S x (by rw [if_pos rfl]) h (Fm_rf _ _) (fun _ => hC')
  | some P =>
    obtain ⟨o1, o2⟩ := ho P rfl
    have hC' : sg S k 1 = nI P.length := hC.1
    have hp : 0 < P.length := by
      cases P with
      | nil => exact absurd rfl o2
      | cons a P => exact Nat.zero_lt_succ _
    rw [hC', eq0F hp (by omega), bd_some, zer0]
    refine Rn_bv (Rn_mono (c_F (k := 5) (by omega) h) (fun S1 g => ?_))
    have e5 : (if (some P : Option Prg) = none then x else aF 5 x) = aF 5 x := if_neg (by intro q; cases q)
    refine go S1 (aF 5 x) e5.symm g.1 (c6_w g.2) (fun q => ?_)
    exfalso
    by_cases w : x.1 = 0
    · rw [aSf (aF_n (by omega) w)] at q
      exact aF_n (by omega) w q
    · rw [aFf w, aSf w] at q
      exact w q
end
