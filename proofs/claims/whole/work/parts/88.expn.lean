/-! an operand is read by the model -/
section
variable {N : Nat}
theorem EI_m {A : Nat → Prop} {b : Tx} {p tp0 : Nat} {x : Ft} {s : List Nat} {r : List (List Nat)} {pg : Prg} {f : Nat × Nat × Nat} (hb : TxI b) (hp : tp0 + 12 ≤ 2 * p) (h : EI A b p (x, (s, r), pg, f)) : (flt s r).length ≤ 83 ∧ tp0 + clen pg + (flt s r).length ≤ 1388 := by
  obtain ⟨b1, b2, b3, b4, -⟩ := EI_b hb h
  have := clen_le pg
  have := hb.1
  omega
theorem WK_of {S : am_S} {tp0 lo hi : Nat} {s : List Nat} {r : List (List Nat)} {pg : Prg} (h : ME S tp0 lo hi s r pg) (h1 : (flt s r).length ≤ 83) (h2 : tp0 + clen pg + (flt s r).length ≤ 1388) : WK S tp0 := ⟨tp0 + clen pg, (flt s r).length, ⟨h.1.1, h.1.2.2.1⟩, by omega, by omega, by omega⟩
theorem ME_c {S : am_S} {tp0 lo hi c v : Nat} {s : List Nat} {r : List (List Nat)} {pg : Prg} (hc : c = 1 ∨ c = 2) (h : ME S tp0 lo hi s r pg) : ME (sp (sp (sp (sp S 93 (tp0 + clen pg) (nI c)) 78 32 (nI (tp0 + clen pg + 1))) 93 (tp0 + clen pg + 1) (nI v)) 78 32 (nI (tp0 + clen pg + 1 + 1))) tp0 lo hi s r (pg ++ [(c, v)]) := by
  obtain ⟨⟨h1, h2, h3, h4⟩, h5, h6, h7, h8⟩ := h
  have hcl : clen (pg ++ [(c, v)]) = clen pg + 2 := by
    rw [clen_ap]
    show clen pg + (if c = 1 ∨ c = 2 then 2 else 1) = _
    rw [if_pos hc]
  refine ⟨⟨?_, ?_, ?_, ?_⟩, ?_, ?_, ?_, ?_⟩
  · simp (disch := omega) only [sgp, sgn, sgj]
    exact h1
  · exact stN_s h2 (fun j _ => by simp (disch := omega) only [sgp, sgn, sgj])
  · rw [sgp, hcl]
    rfl
  · refine codeX_ap h4 (fun j hj => ?_) ?_ (fun _ => ?_)
    · simp (disch := omega) only [sgp, sgn, sgj]
    · simp (disch := omega) only [sgp, sgn, sgj]
    · simp (disch := omega) only [sgp, sgn, sgj]
  · simp (disch := omega) only [sgp, sgn, sgj]
    exact h5
  · exact TSr_s h6 (fun j _ => by simp (disch := omega) only [sgp, sgn, sgj])
  · simp (disch := omega) only [sgp, sgn, sgj]
    exact h7
  · simp (disch := omega) only [sgp, sgn, sgj]
    exact h8
theorem m_part {A : Nat → Prop} {S : am_S} {b : Tx} {p lo hi tp0 : Nat} {x : Ft} {s : List Nat} {r : List (List Nat)} {pg : Prg} {mn nt : Nat} (hN : 10000 ≤ N) (hb : TxI b) (hlh : lo ≤ 8 ∧ hi ≤ 8) (hp : tp0 + 12 ≤ 2 * p) (hE : EI A b p (x, (s, r), pg, 1, mn, nt)) (hx : x.1 = 0) (hr : r.length ≤ 5) (h40 : ¬ x.2.2.2 = 40) (hnot : ¬ (mn = 1 ∧ kw (wdn b x.2) = 17)) (h : PMs S b x) (hM : ME S tp0 lo hi s r pg) : Rn (f_X10_part N 78 S) (fun S' => PMs S' b (eP b lo hi (x, (s, r), pg, 1, mn, nt)).1 ∧ ((eP b lo hi (x, (s, r), pg, 1, mn, nt)).1.1 = 0 → (eP b lo hi (x, (s, r), pg, 1, mn, nt)).2.2.2.1 = 0 ∧ (eP b lo hi (x, (s, r), pg, 1, mn, nt)).2.1 = (s, r) ∧ ME S' tp0 lo hi s r (eP b lo hi (x, (s, r), pg, 1, mn, nt)).2.2.1) ∧ (¬ (eP b lo hi (x, (s, r), pg, 1, mn, nt)).1.1 = 0 → WK S' tp0) ∧ Fl (exW tp0) S S') := by
  obtain ⟨m1, m2⟩ := EI_m hb hp hE
  have hms := ms_lt x.2.2.2
  have hkd := G_kd h.1.1
  have htl := G_tln hb h.1.1
  have hmv := mvl_lt h.1.1
  have hnm := G_num h.1.1
  have hkw := kw_le (wdn b x.2)
  generalize he : eP b lo hi (x, (s, r), pg, 1, mn, nt) = e'
  unfold eP at he
  unfold f_X10_part
  rw [m_good h, bd_some, if_pos hx, one0, h.2.1.2.2.1, h.2.1.2.2.2.2.1]
  have s2 : (nI (ms x.2.2.2) = (2 : Int32)) ↔ x.2.2.2 = 3 := (nIeq (b := 2) (by omega) (by omega)).trans ms3
  have s1 : (nI (ms x.2.2.2) = (1 : Int32)) ↔ x.2.2.2 = 2 := (nIeq (b := 1) (by omega) (by omega)).trans ms2
  have t4 : (nI (tln x.2) ≤ (4 : Int32)) ↔ tln x.2 ≤ 4 := nIle (b := 4) (by omega) (by omega)
  have h32 := hM.1.2.2.1
  -- two words of code, in a state with or without a fault
  have two : ∀ S1 y c (w : Int32) , PMs S1 b y → Fl mw6 S S1 → ∃ S2, (bv (f_X10_puts N 78 (nI c) S1) (fun S2 => (bv (f_X10_puts N 78 w S2) (fun S5 => b_X10_part_97 N 78 S5)))) = b_X10_part_97 N 78 S2 ∧ PMs S2 b y ∧ WK S2 tp0 ∧ Fl (exW tp0) S S2 ∧ S2 = sp (sp (sp (sp S1 93 (tp0 + clen pg) (nI c)) 78 32 (nI (tp0 + clen pg + 1))) 93 (tp0 + clen pg + 1) w) 78 32 (nI (tp0 + clen pg + 1 + 1)) := by
    intro S1 y c w g1 g2
    have k32 : sg S1 78 32 = nI (tp0 + clen pg) := (g2.1 _ _ (by unfold mw6; omega)).trans h32
    have k35 : sg S1 78 35 = nI (flt s r).length := (g2.1 _ _ (by unfold mw6; omega)).trans hM.1.1
    refine ⟨_, ?_, ?_, ?_, ?_, rfl⟩
    · rw [m_put k32 (by omega), bv_some, m_put (sgp _ _ _ _) (by omega), bv_some]
    · exact PMs_o (PMs_o (PMs_o (PMs_o g1 (by omega)) (by omega)) (by omega)) (by omega)
    · refine ⟨tp0 + clen pg + 1 + 1, (flt s r).length, ⟨?_, sgp _ _ _ _⟩, by omega, by omega, by omega⟩
      simp (disch := omega) only [sgp, sgn, sgj]
      exact k35
    · exact Fl_sp (Fl_sp (Fl_sp (Fl_sp (mw_ex g2) (by unfold exW; omega)) (by unfold exW; omega)) (by unfold exW; omega)) (by unfold exW; omega)
  have stop : ∀ S2 y, PMs S2 b y → ¬ y.1 = 0 → b_X10_part_97 N 78 S2 = some S2 := by
    intro S2 y g1 g2
    unfold b_X10_part_97 b_X10_part_108
    rw [m_good g1, bd_some, if_neg g2, zer0]
  have goon : ∀ S2, PMs S2 b x → Rn (b_X10_part_97 N 78 S2) (fun S' => PMs S' b (aS b x) ∧ Fl mw6 S2 S') := by
    intro S2 g1
    unfold b_X10_part_97 b_X10_part_108
    rw [m_good g1, bd_some, if_pos hx, one0]
    exact Rn_bv (Rn_mono (m_S hN hb g1 hx) (fun S3 g => Rn_ret g))
  have n6 : ¬ 6 ≤ r.length := by omega
  by_cases z3 : x.2.2.2 = 3
  · rw [if_pos (s2.mpr z3)]
    rw [if_neg (by omega : ¬ ¬ (x.2.2.2 = 3 ∨ x.2.2.2 = 40 ∨ x.2.2.2 = 2))] at he
    unfold b_X10_part_29
    by_cases y : tln x.2 ≤ 4
    · rw [if_pos (t4.mpr y)]
      have hn : num b x.2 ≤ 9999 := by rw [← mvl_num z3 y]; omega
      rw [if_neg (by omega : ¬ (6 ≤ r.length ∨ (x.2.2.2 = 3 ∧ 9999 < num b x.2))), if_neg h40, if_pos z3] at he
      subst he
      have h23 : sg (sp (sp S 93 (tp0 + clen pg) (nI 1)) 78 32 (nI (tp0 + clen pg + 1))) 78 23 = nI (num b x.2) := by
        rw [sgj (by omega), sgn (by omega), h.2.1.2.2.2.2.2.1, mvl_num z3 y]
      rw [show (1 : Int32) = nI 1 from rfl, m_put h32 (by omega), bv_some, h23, m_put (sgp _ _ _ _) (by omega), bv_some]
      have hP : PMs (sp (sp (sp (sp S 93 (tp0 + clen pg) (nI 1)) 78 32 (nI (tp0 + clen pg + 1))) 93 (tp0 + clen pg + 1) (nI (num b x.2))) 78 32 (nI (tp0 + clen pg + 1 + 1))) b x := PMs_o (PMs_o (PMs_o (PMs_o h (by omega)) (by omega)) (by omega)) (by omega)
      refine Rn_mono (goon _ hP) (fun S3 g => ⟨g.1, fun _ => ⟨rfl, rfl, ME_6 (ME_c (Or.inl rfl) hM) g.2⟩, fun q => absurd (aS0 (b := b) hx ▸ rfl : (aS b x).1 = 0) q, Fl_tr (Fl_sp (Fl_sp (Fl_sp (Fl_sp (Fl_rf _ _) (by unfold exW; omega)) (by unfold exW; omega)) (by unfold exW; omega)) (by unfold exW; omega)) (mw_ex g.2)⟩)
    · rw [if_neg (fun q => y (t4.mp q))]
      rw [if_pos (by have := num_4 (b := b) z3 y; omega : 6 ≤ r.length ∨ (x.2.2.2 = 3 ∧ 9999 < num b x.2))] at he
      subst he
      refine Rn_bv (Rn_mono (m_F (k := 2) (by omega) h) (fun S1 g1 => ?_))
      have k32 : sg S1 78 32 = nI (tp0 + clen pg) := (g1.2.1 _ _ (by unfold mw6; omega)).trans h32
      rw [show (1 : Int32) = nI 1 from rfl]
      rw [m_put k32 (by omega), bv_some, m_put (sgp _ _ _ _) (by omega), bv_some]
      have hP : PMs (sp (sp (sp (sp S1 93 (tp0 + clen pg) (nI 1)) 78 32 (nI (tp0 + clen pg + 1))) 93 (tp0 + clen pg + 1) (sg (sp (sp S1 93 (tp0 + clen pg) (nI 1)) 78 32 (nI (tp0 + clen pg + 1))) 78 23)) 78 32 (nI (tp0 + clen pg + 1 + 1))) b (aF 2 x) := PMs_o (PMs_o (PMs_o (PMs_o g1.1 (by omega)) (by omega)) (by omega)) (by omega)
      rw [stop _ _ hP (aF_n (by omega) hx)]
      refine Rn_ret ⟨hP, fun q => absurd q (aF_n (by omega) hx), fun _ => ⟨tp0 + clen pg + 1 + 1, (flt s r).length, ⟨?_, sgp _ _ _ _⟩, by omega, by omega, by omega⟩, Fl_sp (Fl_sp (Fl_sp (Fl_sp (mw_ex g1.2) (by unfold exW; omega)) (by unfold exW; omega)) (by unfold exW; omega)) (by unfold exW; omega)⟩
      simp (disch := omega) only [sgp, sgn, sgj]
      exact (g1.2.1 _ _ (by unfold mw6; omega)).trans hM.1.1
  · rw [if_neg (fun q => z3 (s2.mp q))]
    by_cases z2 : x.2.2.2 = 2
    · rw [if_pos (s1.mpr z2), m_wd hN hb h, bd_some, hM.2.2.2.1, hM.2.2.2.2]
      rw [if_neg (by omega : ¬ ¬ (x.2.2.2 = 3 ∨ x.2.2.2 = 40 ∨ x.2.2.2 = 2)), if_neg (by omega : ¬ (6 ≤ r.length ∨ (x.2.2.2 = 3 ∧ 9999 < num b x.2))), if_neg h40, if_neg z3, if_neg hnot] at he
      unfold b_X10_part_74 b_X10_part_79
      have bad : ¬ (lo ≤ kw (wdn b x.2) ∧ kw (wdn b x.2) ≤ hi) → Rn (bv (f_X10_wrong N 78 3 S) (fun S2 => (bv (f_X10_puts N 78 2 S2) (fun S2 => (bv (f_X10_puts N 78 (kI (kw (wdn b x.2))) S2) (fun S5 => b_X10_part_97 N 78 S5)))))) (fun S' => PMs S' b e'.1 ∧ (e'.1.1 = 0 → e'.2.2.2.1 = 0 ∧ e'.2.1 = (s, r) ∧ ME S' tp0 lo hi s r e'.2.2.1) ∧ (¬ e'.1.1 = 0 → WK S' tp0) ∧ Fl (exW tp0) S S') := by
        intro z7
        rw [if_neg z7] at he
        subst he
        refine Rn_bv (Rn_mono (m_F (k := 3) (by omega) h) (fun S1 g1 => ?_))
        obtain ⟨S2, t1, t2, t3, t4, -⟩ := two S1 (aF 3 x) 2 (kI (kw (wdn b x.2))) g1.1 g1.2
        rw [show (2 : Int32) = nI 2 from rfl, t1, stop _ _ t2 (aF_n (by omega) hx)]
        exact Rn_ret ⟨t2, fun q => absurd q (aF_n (by omega) hx), fun _ => t3, t4⟩
      have hkI : kw (wdn b x.2) ≤ 17 → kI (kw (wdn b x.2)) = nI (kw (wdn b x.2)) := fun q => if_neg (by omega)
      by_cases z7 : lo ≤ kw (wdn b x.2) ∧ kw (wdn b x.2) ≤ hi
      · rw [if_pos z7] at he
        subst he
        rw [hkI (by omega), ltF z7.1 (by omega), leT z7.2 (by omega)]
        obtain ⟨S2, t1, t2, t3, t4, t5⟩ := two S x 2 (nI (kw (wdn b x.2))) h (Fl_rf _ _)
        rw [show (2 : Int32) = nI 2 from rfl, t1]
        refine Rn_mono (goon _ t2) (fun S3 g => ⟨g.1, fun _ => ⟨rfl, rfl, ?_⟩, fun q => absurd (aS0 (b := b) hx ▸ rfl : (aS b x).1 = 0) q, Fl_tr t4 (mw_ex g.2)⟩)
        rw [t5] at g
        exact ME_6 (ME_c (Or.inr rfl) hM) g.2
      · have hbd := bad z7
        by_cases w1 : kI (kw (wdn b x.2)) < nI lo
        · rw [if_pos w1]
          exact hbd
        · rw [if_neg w1]
          have w2 : ¬ kI (kw (wdn b x.2)) ≤ nI hi := by
            intro w2
            by_cases w18 : kw (wdn b x.2) = 18
            · apply w1
              rw [w18]
              exact (by decide : ∀ l, l < 9 → kI 18 < nI l) lo (by omega)
            · rw [hkI (by omega), nIle (by omega) (by omega)] at w2
              rw [hkI (by omega)] at w1
              by_cases w5 : lo ≤ kw (wdn b x.2)
              · exact z7 ⟨w5, w2⟩
              · exact w1 ((nIlt (by omega) (by omega)).mpr (by omega))
          rw [if_neg w2]
          exact hbd
    · rw [if_neg (fun q => z2 (s1.mp q))]
      rw [if_pos (by omega : ¬ (x.2.2.2 = 3 ∨ x.2.2.2 = 40 ∨ x.2.2.2 = 2))] at he
      subst he
      refine Rn_bv (Rn_mono (m_F (k := 1) (by omega) h) (fun S1 g1 => ?_))
      rw [stop _ _ g1.1 (aF_n (by omega) hx)]
      exact Rn_ret ⟨g1.1, fun q => absurd q (aF_n (by omega) hx), fun _ => WK_6 (WK_of hM m1 m2) g1.2, mw_ex g1.2⟩
end
