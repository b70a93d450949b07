/-! operands, by the model -/
section
variable {N : Nat}
def OR (A : Nat → Prop) (b : Tx) (p lo hi tp0 d : Nat) (e : Es) (S0 S' : am_S) : Prop := ∃ (e' : Es) (d' : Nat), er b lo hi d e = er b lo hi d' e' ∧ PMs S' b e'.1 ∧ (e'.1.1 = 0 → e'.2.2.2.1 = 0 ∧ EI A b p e' ∧ ME S' tp0 lo hi e'.2.1.1 e'.2.1.2 e'.2.2.1 ∧ e'.2.1.2.length ≤ 5 ∧ b.1 + 2 ≤ e'.1.2.1 + d' ∧ d' < d) ∧ (¬ e'.1.1 = 0 → WK S' tp0) ∧ Fl (exW tp0) S0 S'
theorem bar0 : vp_nar .boolean 0 = 0 := rfl
theorem bar1 : vp_nar .boolean 1 = 1 := rfl
theorem m_f4 {S : am_S} {b : Tx} {y : Ft} {l2 l3 : Int32} {n : Nat} (h : PMs S b y) (hy : ¬ y.1 = 0) : b_X10_operand_4 N (n + 1) 78 l2 l3 S = some S := by
  have hp : b_X10_operand_120 N 78 S = some S := by
    unfold b_X10_operand_120 f_X10_part
    rw [m_good h, bd_some, if_neg hy, zer0, bv_some]
  unfold b_X10_operand_4
  rw [m_good h, bd_some, if_neg hy, zer0, hp, ite_self]
theorem m_f18 {S : am_S} {b : Tx} {y : Ft} {l2 l4 : Int32} {n m : Nat} (h : PMs S b y) (hy : ¬ y.1 = 0) : b_X10_operand_18 N (b_X10_operand_4 N (n + 1)) (m + 1) 78 l2 l4 S = some S := by
  unfold b_X10_operand_18 b_X10_operand_75 b_X10_operand_95 b_X10_operand_96 b_X10_operand_117
  rw [m_good h, bd_some, if_neg hy, zer0, m_good h, bd_some, if_neg hy, zer0, zer0]
  exact m_f4 h hy
theorem er_S {b : Tx} {lo hi d : Nat} {e : Es} (h : e.1.1 = 0) (hn : ¬ eN e) : er b lo hi (d + 1) e = er b lo hi d (eS b lo hi e) := if_pos ⟨h, hn⟩
theorem m_opd {A : Nat → Prop} {b : Tx} {p lo hi tp0 : Nat} (hN : 10000 ≤ N) (hb : TxI b) (hA : ∀ k, lo ≤ k → k ≤ hi → A k ∧ k ≤ 8) (hlh : lo ≤ 8 ∧ hi ≤ 8) (hp : tp0 + 12 ≤ 2 * p) : ∀ (d n4 n18 : Nat) (S : am_S) (x : Ft) (s : List Nat) (r : List (List Nat)) (pg : Prg) (mn nt : Nat), d < 5000 → d < n4 → d + 1 < n18 → EI A b p (x, (s, r), pg, 1, mn, nt) → x.1 = 0 → r.length ≤ 5 → b.1 + 2 ≤ x.2.1 + d → PMs S b x → ME S tp0 lo hi s r pg → Rn (b_X10_operand_18 N (b_X10_operand_4 N n4) n18 78 (nI mn) (nI nt) S) (OR A b p lo hi tp0 d (x, (s, r), pg, 1, mn, nt) S) := by
  have hL := hb.1
  intro d
  induction d with
  | zero =>
    intro n4 n18 S x s r pg mn nt _ _ _ hE hx hr hd h hM
    have : x.2.1 ≤ x.2.2.1 ∧ x.2.2.1 ≤ b.1 := G_hi h.1.1
    omega
  | succ d ih =>
    intro n4 n18 S x s r pg mn nt hd5 hn4 hn18 hE hx hr hd h hM
    obtain ⟨m4, rfl⟩ : ∃ m, n4 = m + 1 := ⟨n4 - 1, by omega⟩
    obtain ⟨m18, rfl⟩ : ∃ m, n18 = m + 1 := ⟨n18 - 1, by omega⟩
    obtain ⟨m1, m2⟩ := EI_m hb hp hE
    have hkw := kw_le (wdn b x.2)
    have f2 : mn ≤ 1 := hE.2.1.2.1
    have f3 : nt ≤ 6 := hE.2.1.2.2
    have hT : x.2.1 ≤ x.2.2.1 ∧ x.2.2.1 ≤ b.1 := G_hi h.1.1
    have eS1 : eS b lo hi (x, (s, r), pg, 1, mn, nt) = eP b lo hi (x, (s, r), pg, 1, mn, nt) := if_neg (by show ¬ (1 : Nat) = 0; omega)
    have st1 : er b lo hi (d + 1) (x, (s, r), pg, 1, mn, nt) = er b lo hi d (eP b lo hi (x, (s, r), pg, 1, mn, nt)) := by
      rw [er_S (e := (x, (s, r), pg, 1, mn, nt)) hx (fun q => absurd q.1 (by show ¬ (1 : Nat) = 0; omega)), eS1]
    have h35 := hM.1.1
    -- the rest behind the nots
    have c75 : ¬ (mn = 1 ∧ kw (wdn b x.2) = 17) → Rn (b_X10_operand_75 N (b_X10_operand_4 N (m4 + 1)) 78 (nI mn) S) (OR A b p lo hi tp0 (d + 1) (x, (s, r), pg, 1, mn, nt) S) := by
      intro hnot
      unfold b_X10_operand_75 b_X10_operand_95
      rw [m_good h, bd_some, if_pos hx, one0, show (40 : Int32) = nI 40 from rfl, m_sgn hb h (by omega), bd_some]
      by_cases z40 : x.2.2.2 = 40
      · rw [if_pos z40, one0]
        unfold b_X10_operand_96 b_X10_operand_117
        rw [one0, m_wai h35 (by omega), bv_some]
        have hP1 : PMs (sp (sp S 94 (flt s r).length 14) 78 35 (nI ((flt s r).length + 1))) b x := PMs_o (PMs_o h (by omega)) (by omega)
        have hF1 : Fl (exW tp0) S (sp (sp S 94 (flt s r).length 14) 78 35 (nI ((flt s r).length + 1))) := Fl_sp (Fl_sp (Fl_rf _ _) (by unfold exW; omega)) (by unfold exW; omega)
        refine Rn_bv (Rn_mono (m_S hN hb hP1 hx) (fun S6 g6 => ?_))
        have eP1 : eP b lo hi (x, (s, r), pg, 1, mn, nt) = (aS b x, ([], s :: r), pg, 1, 1, 0) := by
          unfold eP
          rw [if_neg (by show ¬ ¬ (x.2.2.2 = 3 ∨ x.2.2.2 = 40 ∨ x.2.2.2 = 2); omega), if_neg (by show ¬ (6 ≤ r.length ∨ (x.2.2.2 = 3 ∧ 9999 < num b x.2)); omega), if_pos (show x.2.2.2 = 40 from z40)]
        have hg : (aS b x).1 = 0 := by rw [aS0 hx]
        obtain ⟨k1, k2⟩ := EI_P hA hE hx rfl (by rw [eP1]; exact hg)
        rw [eP1] at k1 k2 st1
        have k2' : x.2.1 + 1 ≤ (aS b x).2.1 := k2
        have hT6 : (aS b x).2.1 ≤ (aS b x).2.2.1 ∧ (aS b x).2.2.1 ≤ b.1 := G_hi g6.1.1.1
        -- what stands behind the parenthesis
        have e36 : sg S6 78 36 = nI (r.length + 1) := by
          rw [g6.2.1 _ _ (by unfold mw6; omega)]
          simp (disch := omega) only [sgp, sgn, sgj]
          exact hM.2.1
        have e35 : sg S6 78 35 = nI ((flt s r).length + 1) := by
          rw [g6.2.1 _ _ (by unfold mw6; omega)]
          simp (disch := omega) only [sgp, sgn, sgj]
        have e32 : sg S6 78 32 = nI (tp0 + clen pg) := by
          rw [g6.2.1 _ _ (by unfold mw6; omega)]
          simp (disch := omega) only [sgp, sgn, sgj]
          exact hM.1.2.2.1
        unfold f_X10_deeper
        rw [e36]
        have l6' : ((6 : Int32) ≤ nI (r.length + 1)) ↔ 6 ≤ r.length + 1 := nIle (a := 6) (by omega) (by omega)
        by_cases z5 : 6 ≤ r.length + 1
        · rw [if_pos (l6'.mpr z5)]
          obtain ⟨d2, rfl⟩ : ∃ d2, d = d2 + 1 := ⟨d - 1, by omega⟩
          have hms := ms_lt (aS b x).2.2.2
          have s2 : (nI (ms (aS b x).2.2.2) = (2 : Int32)) ↔ (aS b x).2.2.2 = 3 := (nIeq (b := 2) (by omega) (by omega)).trans ms3
          have s1 : (nI (ms (aS b x).2.2.2) = (1 : Int32)) ↔ (aS b x).2.2.2 = 2 := (nIeq (b := 1) (by omega) (by omega)).trans ms2
          have eS2 : eS b lo hi (aS b x, ([], s :: r), pg, 1, 1, 0) = eP b lo hi (aS b x, ([], s :: r), pg, 1, 1, 0) := if_neg (by show ¬ (1 : Nat) = 0; omega)
          rw [er_S (e := (aS b x, ([], s :: r), pg, 1, 1, 0)) hg (fun q => absurd q.1 (by show ¬ (1 : Nat) = 0; omega)), eS2] at st1
          have bad : ∀ k, 0 < k ∧ k < 10 → eP b lo hi (aS b x, ([], s :: r), pg, 1, 1, 0) = (aF k (aS b x), ([], s :: r), pg, 1, 1, 0) → Rn (bv (b_X10_deeper_61 N 78 (nI k) S6) (fun S9 => b_X10_operand_4 N (m4 + 1) 78 1 1 S9)) (OR A b p lo hi tp0 (d2 + 1 + 1) (x, (s, r), pg, 1, mn, nt) S) := by
            intro k hk he
            unfold b_X10_deeper_61
            refine Rn_bv (Rn_bv (Rn_mono (m_F hk g6.1) (fun S7 g7 => Rn_ret ?_)))
            have hfl : ¬ (aF k (aS b x)).1 = 0 := aF_n (by omega) hg
            rw [m_f4 g7.1 hfl]
            refine Rn_ret ⟨(aF k (aS b x), ([], s :: r), pg, 1, 1, 0), d2, ?_, g7.1, fun q => absurd q hfl, fun _ => WK_6 ⟨tp0 + clen pg, (flt s r).length + 1, ⟨e35, e32⟩, by omega, by omega, by omega⟩ g7.2, Fl_tr (Fl_tr hF1 (mw_ex g6.2)) (mw_ex g7.2)⟩
            rw [st1, he]
          have e2 : (aS b x).2.2.2 = 3 ∨ (aS b x).2.2.2 = 40 ∨ (aS b x).2.2.2 = 2 → eP b lo hi (aS b x, ([], s :: r), pg, 1, 1, 0) = (aF 2 (aS b x), ([], s :: r), pg, 1, 1, 0) := by
            intro q
            unfold eP
            rw [if_neg (by show ¬ ¬ ((aS b x).2.2.2 = 3 ∨ (aS b x).2.2.2 = 40 ∨ (aS b x).2.2.2 = 2); exact fun y => y q), if_pos (by show 6 ≤ r.length + 1 ∨ _; exact Or.inl z5)]
          have e1 : ¬ ((aS b x).2.2.2 = 3 ∨ (aS b x).2.2.2 = 40 ∨ (aS b x).2.2.2 = 2) → eP b lo hi (aS b x, ([], s :: r), pg, 1, 1, 0) = (aF 1 (aS b x), ([], s :: r), pg, 1, 1, 0) := by
            intro q
            unfold eP
            rw [if_pos (by show ¬ ((aS b x).2.2.2 = 3 ∨ (aS b x).2.2.2 = 40 ∨ (aS b x).2.2.2 = 2); exact q)]
          unfold b_X10_deeper_56
          rw [g6.1.2.1.2.2.1]
          by_cases w3 : (aS b x).2.2.2 = 3
          · rw [if_pos (s2.mpr w3)]
            exact bad 2 (by omega) (e2 (Or.inl w3))
          rw [if_neg (fun q => w3 (s2.mp q))]
          by_cases w2 : (aS b x).2.2.2 = 2
          · rw [if_pos (s1.mpr w2)]
            exact bad 2 (by omega) (e2 (Or.inr (Or.inr w2)))
          rw [if_neg (fun q => w2 (s1.mp q)), show (40 : Int32) = nI 40 from rfl, m_sgn hb g6.1 (by omega), bd_some]
          by_cases w4 : (aS b x).2.2.2 = 40
          · rw [if_pos w4, one0]
            exact bad 2 (by omega) (e2 (Or.inr (Or.inl w4)))
          · rw [if_neg w4, zer0]
            exact bad 1 (by omega) (e1 (by omega))
        · rw [if_neg (fun q => z5 (l6'.mp q)), nI1, sgp, r78_45, n95, inbT (by omega) (by omega), nIc (by omega), bv_some, bar0]
          have hP9 : PMs (sp (sp S6 78 36 (nI (r.length + 1 + 1))) 95 (r.length + 1 + 1) 0) b (aS b x) := PMs_o (PMs_o g6.1 (by omega)) (by omega)
          have hF9 : Fl (exW tp0) S (sp (sp S6 78 36 (nI (r.length + 1 + 1))) 95 (r.length + 1 + 1) 0) := Fl_sp (Fl_sp (Fl_tr hF1 (mw_ex g6.2)) (by unfold exW; omega)) (by unfold exW; omega)
          have hM9 : ME (sp (sp S6 78 36 (nI (r.length + 1 + 1))) 95 (r.length + 1 + 1) 0) tp0 lo hi [] (s :: r) pg := by
            refine ⟨⟨?_, ⟨?_, ?_⟩, ?_, ?_⟩, ?_, ⟨?_, ?_⟩, ?_, ?_⟩
            · simp (disch := omega) only [sgp, sgn, sgj]
              exact e35
            · simp (disch := omega) only [sgp, sgn, sgj]
              rw [g6.2.1 _ _ (by unfold mw6; omega)]
              simp (disch := omega) only [sgp, sgn, sgj]
              rfl
            · refine stN_s hM.1.2.1 (fun j hj => ?_)
              simp (disch := omega) only [sgp, sgn, sgj]
              rw [g6.2.1 _ _ (by unfold mw6; omega)]
              simp (disch := omega) only [sgp, sgn, sgj]
            · simp (disch := omega) only [sgp, sgn, sgj]
              exact e32
            · refine codeX_s (n := tp0 + clen pg) (Nat.le_refl _) hM.1.2.2.2 (fun j hj => ?_)
              simp (disch := omega) only [sgp, sgn, sgj]
              rw [g6.2.1 _ _ (by unfold mw6; omega)]
              simp (disch := omega) only [sgp, sgn, sgj]
            · simp (disch := omega) only [sgp, sgn, sgj]
              rfl
            · show sg _ 95 (r.length + 1 + 1) = nI 0
              rw [sgp]
              rfl
            · refine TSr_s hM.2.2.1 (fun j hj => ?_)
              have hj' : j ≤ r.length + 1 := hj
              simp (disch := omega) only [sgp, sgn, sgj]
              rw [g6.2.1 _ _ (by unfold mw6; omega)]
              simp (disch := omega) only [sgp, sgn, sgj]
            · simp (disch := omega) only [sgp, sgn, sgj]
              rw [g6.2.1 _ _ (by unfold mw6; omega)]
              simp (disch := omega) only [sgp, sgn, sgj]
              exact hM.2.2.2.1
            · simp (disch := omega) only [sgp, sgn, sgj]
              rw [g6.2.1 _ _ (by unfold mw6; omega)]
              simp (disch := omega) only [sgp, sgn, sgj]
              exact hM.2.2.2.2
          unfold b_X10_operand_4
          rw [one0, m_good hP9, bd_some, if_pos hg, one0]
          refine Rn_mono (ih m4 N _ (aS b x) [] (s :: r) pg 1 0 (by omega) (by omega) (by omega) k1 hg (by show r.length + 1 ≤ 5; omega) (by omega) hP9 hM9) (fun S' g => ?_)
          obtain ⟨e', d', o1, o2, o3, o4, o5⟩ := g
          exact ⟨e', d', st1.trans o1, o2, fun q => by
            obtain ⟨q1, q2, q3, q4, q5, q6⟩ := o3 q
            exact ⟨q1, q2, q3, q4, q5, by omega⟩, o4, Fl_tr hF9 o5⟩
      · rw [if_neg z40, zer0]
        unfold b_X10_operand_96 b_X10_operand_117 b_X10_operand_4 b_X10_operand_120
        rw [zer0, zer0]
        refine Rn_bv (Rn_mono (m_part hN hb hlh hp hE hx hr z40 hnot h hM) (fun S' g => Rn_ret ?_))
        refine ⟨eP b lo hi (x, (s, r), pg, 1, mn, nt), d, st1, g.1, fun q => ?_, g.2.2.1, g.2.2.2⟩
        obtain ⟨k1, k2⟩ := EI_P hA hE hx rfl q
        obtain ⟨q1, q2, q3⟩ := g.2.1 q
        have k2' : x.2.1 + 1 ≤ (eP b lo hi (x, (s, r), pg, 1, mn, nt)).1.2.1 := k2
        exact ⟨q1, k1, by rw [q2]; exact q3, by rw [q2]; exact hr, by omega, by omega⟩
    unfold b_X10_operand_18
    rw [m_good h, bd_some, if_pos hx, one0]
    by_cases y0 : mn = 0
    · rw [eq0T y0]
      exact c75 (by omega)
    rw [eq0F (by omega) (by omega), m_wd hN hb h, bd_some, show (17 : Int32) = nI 17 from rfl]
    by_cases y17 : kw (wdn b x.2) = 17
    · rw [kIT hkw (by omega) y17]
      have zk : x.2.2.2 = 2 := kw_k2 (b := b) (T := x.2) (by omega)
      have eP1 : eP b lo hi (x, (s, r), pg, 1, mn, nt) = if 6 ≤ nt then (aF 2 x, (s, r), pg, 1, mn, nt) else (aS b x, (3 :: s, r), pg, (1, mn, nt + 1)) := by
        unfold eP
        rw [if_neg (by show ¬ ¬ (x.2.2.2 = 3 ∨ x.2.2.2 = 40 ∨ x.2.2.2 = 2); omega), if_neg (by show ¬ (6 ≤ r.length ∨ (x.2.2.2 = 3 ∧ 9999 < num b x.2)); omega), if_neg (by show ¬ x.2.2.2 = 40; omega), if_neg (by show ¬ x.2.2.2 = 3; omega), if_pos (by show mn = 1 ∧ kw (wdn b x.2) = 17; omega)]
      have n6 : (nI nt = (6 : Int32)) ↔ nt = 6 := nIeq (b := 6) (by omega) (by omega)
      unfold b_X10_operand_50
      by_cases z6 : 6 ≤ nt
      · rw [if_pos z6] at eP1
        rw [if_pos (n6.mpr (by omega))]
        refine Rn_bv (Rn_mono (m_F (k := 2) (by omega) h) (fun S1 g1 => ?_))
        have hfl : ¬ (aF 2 x).1 = 0 := aF_n (by omega) hx
        obtain ⟨q18, rfl⟩ : ∃ m, m18 = m + 1 := ⟨m18 - 1, by omega⟩
        rw [m_good g1.1, bd_some, if_neg hfl, zer0, m_f18 g1.1 hfl]
        exact Rn_ret ⟨(aF 2 x, (s, r), pg, 1, mn, nt), d, by rw [st1, eP1], g1.1, fun q => absurd q hfl, fun _ => WK_6 (WK_of hM m1 m2) g1.2, mw_ex g1.2⟩
      · rw [if_neg z6] at eP1
        rw [if_neg (fun q => by have := n6.mp q; omega), m_good h, bd_some, if_pos hx, one0, m_wai h35 (by omega), bv_some, nI1]
        have hP1 : PMs (sp (sp S 94 (flt s r).length 3) 78 35 (nI ((flt s r).length + 1))) b x := PMs_o (PMs_o h (by omega)) (by omega)
        have hF1 : Fl (exW tp0) S (sp (sp S 94 (flt s r).length 3) 78 35 (nI ((flt s r).length + 1))) := Fl_sp (Fl_sp (Fl_rf _ _) (by unfold exW; omega)) (by unfold exW; omega)
        have hM1 : ME (sp (sp S 94 (flt s r).length 3) 78 35 (nI ((flt s r).length + 1))) tp0 lo hi (3 :: s) r pg := by
          refine ⟨⟨?_, ?_, ?_, ?_⟩, ?_, ⟨?_, ?_⟩, ?_, ?_⟩
          · rw [flt_c]
            simp (disch := omega) only [sgp, sgn, sgj]
            rfl
          · rw [flt_c]
            refine ⟨?_, stN_s hM.1.2.1 (fun j hj => ?_)⟩
            · simp (disch := omega) only [sgp, sgn, sgj]
              rfl
            · simp (disch := omega) only [sgp, sgn, sgj]
          · simp (disch := omega) only [sgp, sgn, sgj]
            exact hM.1.2.2.1
          · refine codeX_s (n := tp0 + clen pg) (Nat.le_refl _) hM.1.2.2.2 (fun j hj => ?_)
            simp (disch := omega) only [sgp, sgn, sgj]
          · simp (disch := omega) only [sgp, sgn, sgj]
            exact hM.2.1
          · show sg _ 95 (r.length + 1) = nI (tst s)
            simp (disch := omega) only [sgp, sgn, sgj]
            exact hM.2.2.1.1
          · refine TSr_s hM.2.2.1.2 (fun j hj => ?_)
            simp (disch := omega) only [sgp, sgn, sgj]
          · simp (disch := omega) only [sgp, sgn, sgj]
            exact hM.2.2.2.1
          · simp (disch := omega) only [sgp, sgn, sgj]
            exact hM.2.2.2.2
        refine Rn_bv (Rn_mono (m_S hN hb hP1 hx) (fun S6 g6 => ?_))
        have hg : (aS b x).1 = 0 := by rw [aS0 hx]
        obtain ⟨k1, k2⟩ := EI_P hA hE hx rfl (by rw [eP1]; exact hg)
        rw [eP1] at k1 k2
        have k2' : x.2.1 + 1 ≤ (aS b x).2.1 := k2
        rw [eP1] at st1
        refine Rn_mono (ih (m4 + 1) m18 S6 (aS b x) (3 :: s) r pg mn (nt + 1) (by omega) (by omega) (by omega) k1 hg hr (by omega) g6.1 (ME_6 hM1 g6.2)) (fun S' g => ?_)
        obtain ⟨e', d', o1, o2, o3, o4, o5⟩ := g
        exact ⟨e', d', st1.trans o1, o2, fun q => by
          obtain ⟨q1, q2, q3, q4, q5, q6⟩ := o3 q
          exact ⟨q1, q2, q3, q4, q5, by omega⟩, o4, Fl_tr (Fl_tr hF1 (mw_ex g6.2)) o5⟩
    · rw [kIF hkw (by omega) y17]
      exact c75 (fun q => y17 q.2)
end
