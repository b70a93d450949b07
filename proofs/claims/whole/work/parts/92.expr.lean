/-! the loop of an expression, by the model -/
section
variable {N : Nat}
theorem tst_le : ∀ s : List Nat, tst s ≤ 1 := by
  intro s
  induction s with
  | nil => exact Nat.zero_le _
  | cons a s ih =>
    show (if rk a = 4 then 1 else tst s) ≤ 1
    split
    · omega
    · exact ih
theorem m_exl {A : Nat → Prop} {b : Tx} {p lo hi tp0 : Nat} (hN : 10000 ≤ N) (hb : TxI b) (hA : ∀ k, lo ≤ k → k ≤ hi → A k ∧ k ≤ 8) (hlh : lo ≤ 8 ∧ hi ≤ 8) (hp : tp0 + 12 ≤ 2 * p) : ∀ (D d n : Nat) (S : am_S) (x : Ft) (s : List Nat) (r : List (List Nat)) (pg : Prg) (mn nt : Nat), d ≤ D → d < 5000 → d < n → EI A b p (x, (s, r), pg, 0, mn, nt) → x.1 = 0 → r.length ≤ 5 → b.1 + 2 ≤ x.2.1 + d → PMs S b x → ME S tp0 lo hi s r pg → Rn (b_X10_expression_39 N n 78 1 S) (FR b tp0 (er b lo hi d (x, (s, r), pg, 0, mn, nt)) S) := by
  have hL := hb.1
  intro D
  induction D with
  | zero =>
    intro d n S x s r pg mn nt hD _ _ hE hx hr hd h hM
    have : x.2.1 ≤ x.2.2.1 ∧ x.2.2.1 ≤ b.1 := G_hi h.1.1
    omega
  | succ D ih =>
    intro d n S x s r pg mn nt hD hd5 hn hE hx hr hd h hM
    have hT : x.2.1 ≤ x.2.2.1 ∧ x.2.2.1 ≤ b.1 := G_hi h.1.1
    obtain ⟨d, rfl⟩ : ∃ m, d = m + 1 := ⟨d - 1, by omega⟩
    obtain ⟨m, rfl⟩ : ∃ m, n = m + 1 := ⟨n - 1, by omega⟩
    obtain ⟨m1, m2⟩ := EI_m hb hp hE
    obtain ⟨b1, b2, b3, b4, b5, b6⟩ := EI_b hb hE
    have hsl := flt_sl (s := s) (r := r)
    have hkw := kw_le (wdn b x.2)
    have hkd := G_kd h.1.1
    have hdq : dq A pg 0 (bns s + bnw r + 1) := hE.2.2.2.2.1
    have eS1 : eS b lo hi (x, (s, r), pg, 0, mn, nt) = eB b (x, (s, r), pg, 0, mn, nt) := if_pos rfl
    have st1 : ¬ eN (x, (s, r), pg, 0, mn, nt) → er b lo hi (d + 1) (x, (s, r), pg, 0, mn, nt) = er b lo hi d (eB b (x, (s, r), pg, 0, mn, nt)) := by
      intro q
      rw [er_S (e := (x, (s, r), pg, 0, mn, nt)) hx q, eS1]
    have hg : (aS b x).1 = 0 := by rw [aS0 hx]
    -- behind an operator and its operand
    have after : ∀ S1 (e1 : Es) op s1 pg1 mn1, e1 = (aS b x, (op :: s1, r), pg1, 1, mn1, 0) → ¬ eN (x, (s, r), pg, 0, mn, nt) → eB b (x, (s, r), pg, 0, mn, nt) = e1 → PMs S1 b (aS b x) → ME S1 tp0 lo hi (op :: s1) r pg1 → Fl (exW tp0) S S1 → Rn (bv (f_X10_operand N 78 (nI mn1) S1) (fun S9 => b_X10_expression_337 N (b_X10_expression_39 N m) 78 1 S9)) (FR b tp0 (er b lo hi (d + 1) (x, (s, r), pg, 0, mn, nt)) S) := by
      intro S1 e1 op s1 pg1 mn1 he1 hne heB hP1 hM1 hF1
      rw [st1 hne, heB]
      obtain ⟨k1, k2⟩ := EI_B hE hx rfl (by rw [heB, he1]; exact hg)
      rw [heB, he1] at k1 k2
      have k2' : x.2.1 + 1 ≤ (aS b x).2.1 := k2
      obtain ⟨M, hM'⟩ : ∃ M, N = M + 1 := ⟨N - 1, by omega⟩
      unfold f_X10_operand
      rw [show b_X10_operand_4 N N = b_X10_operand_4 N (M + 1) by rw [← hM']]
      unfold b_X10_operand_4
      rw [one0, m_good hP1, bd_some, if_pos hg, one0]
      have hop := m_opd hN hb hA hlh hp d M N S1 (aS b x) (op :: s1) r pg1 mn1 0 (by omega) (by omega) (by omega) k1 hg hr (by omega) hP1 hM1
      refine Rn_bv (Rn_mono hop (fun S9 g => ?_))
      obtain ⟨e', d', o1, o2, o3, o4, o5⟩ := g
      rw [he1, o1]
      unfold b_X10_expression_337
      by_cases w : e'.1.1 = 0
      · obtain ⟨q1, q2, q3, q4, q5, q6⟩ := o3 w
        obtain ⟨x', ⟨s', r'⟩, pg', wp', mn', nt'⟩ := e'
        have q1' : wp' = 0 := q1
        subst q1'
        refine Rn_mono (ih d' m S9 x' s' r' pg' mn' nt' (by omega) (by omega) (by omega) q2 w q4 q5 o2 q3) (fun S' g => ?_)
        obtain ⟨y, g1, g2, g3, g4⟩ := g
        exact ⟨y, g1, g2, g3, Fl_tr (Fl_tr hF1 o5) g4⟩
      · rw [er_f w]
        obtain ⟨m', rfl⟩ : ∃ m', m = m' + 1 := ⟨m - 1, by omega⟩
        unfold b_X10_expression_39 b_X10_expression_340
        rw [one0, m_good o2, bd_some, if_neg w, zer0, m_good o2, bd_some, if_neg w, zer0]
        exact m_360f hN o2 w (o4 w) rfl (Fl_tr hF1 o5)
    -- an operator waits, with the test told
    have tailT : ∀ op q mn1 s1 pg1 S1, q ≤ 1 → s1.length ≤ s.length → MW S1 tp0 s1 r pg1 → Fm (rW tp0) S S1 → q = tst (op :: s1) → ¬ eN (x, (s, r), pg, 0, mn, nt) → eB b (x, (s, r), pg, 0, mn, nt) = (aS b x, (op :: s1, r), pg1, 1, mn1, 0) → Rn (bv (f_X10_waitsFor N 78 (nI op) S1) (fun S2 => (if inb (sg S2 78 36) (ln (rf 78 45)) = true then (bv (f_X10_goes N 78 (sp S2 (rf 78 45) (Int32.toNatClampNeg (sg S2 78 36)) (vp_nar .boolean (nI q)))) (fun S6 => (bv (f_X10_operand N 78 (nI mn1) S6) (fun S9 => b_X10_expression_337 N (b_X10_expression_39 N m) 78 1 S9)))) else none))) (FR b tp0 (er b lo hi (d + 1) (x, (s, r), pg, 0, mn, nt)) S) := by
      intro op q mn1 s1 pg1 S1 hq1 hsl1 hW hf hq hne heB
      have jl := flt_le (r := r) hsl1
      have h36 : sg S1 78 36 = nI (r.length + 1) := (hf.1 _ _ (by omega)).trans hM.2.1
      rw [m_wai hW.1 (by omega), bv_some]
      have e36 : sg (sp (sp S1 94 (flt s1 r).length (nI op)) 78 35 (nI ((flt s1 r).length + 1))) 78 36 = nI (r.length + 1) := by
        simp (disch := omega) only [sgp, sgn, sgj]
        exact h36
      have evp : vp_nar .boolean (nI q) = nI q := by
        have : q = 0 ∨ q = 1 := by omega
        rcases this with y | y <;> subst y <;> rfl
      rw [e36, r78_45, n95, inbT (by omega) (by omega), nIc (by omega), evp]
      have hP1 := PMs_rl h hf
      have hP2 : PMs (sp (sp (sp S1 94 (flt s1 r).length (nI op)) 78 35 (nI ((flt s1 r).length + 1))) 95 (r.length + 1) (nI q)) b x := PMs_o (PMs_o (PMs_o hP1 (by omega)) (by omega)) (by omega)
      have hM2 := ME_op (op := op) (q := q) hW h36 (TSr_s hM.2.2.1.2 (fun j _ => hf.1 _ _ (by omega))) ((hf.1 _ _ (by omega)).trans hM.2.2.2.1) ((hf.1 _ _ (by omega)).trans hM.2.2.2.2) hq
      refine Rn_bv (Rn_mono (m_S hN hb hP2 hx) (fun S6 g6 => ?_))
      exact after S6 _ op s1 pg1 mn1 rfl hne heB g6.1 (ME_6 hM2 g6.2) (Fl_tr (Fl_sp (Fl_sp (Fl_sp (rf_w hf) (by unfold exW; omega)) (by unfold exW; omega)) (by unfold exW; omega)) (mw_ex g6.2))
    have tailP : ∀ op s1 pg1 S1, s1.length ≤ s.length → MW S1 tp0 s1 r pg1 → Fm (rW tp0) S S1 → tst s1 = tst s → tst (op :: s1) = tst s1 → ¬ eN (x, (s, r), pg, 0, mn, nt) → eB b (x, (s, r), pg, 0, mn, nt) = (aS b x, (op :: s1, r), pg1, 1, 0, 0) → Rn (bv (f_X10_waitsFor N 78 (nI op) S1) (fun S2 => (bv (f_X10_goes N 78 S2) (fun S5 => (bv (f_X10_operand N 78 0 S5) (fun S8 => b_X10_expression_337 N (b_X10_expression_39 N m) 78 1 S8)))))) (FR b tp0 (er b lo hi (d + 1) (x, (s, r), pg, 0, mn, nt)) S) := by
      intro op s1 pg1 S1 hsl1 hW hf ht hq hne heB
      have jl := flt_le (r := r) hsl1
      rw [m_wai hW.1 (by omega), bv_some]
      have hP1 := PMs_rl h hf
      have hP2 : PMs (sp (sp S1 94 (flt s1 r).length (nI op)) 78 35 (nI ((flt s1 r).length + 1))) b x := PMs_o (PMs_o hP1 (by omega)) (by omega)
      have hM2 := ME_op2 (op := op) (ME_rl hM hf hW ht) hq
      refine Rn_bv (Rn_mono (m_S hN hb hP2 hx) (fun S6 g6 => ?_))
      exact after S6 _ op s1 pg1 0 rfl hne heB g6.1 (ME_6 hM2 g6.2) (Fl_tr (Fl_sp (Fl_sp (rf_w hf) (by unfold exW; omega)) (by unfold exW; omega)) (mw_ex g6.2))
    have nE : ¬ x.2.2.2 = 59 → ¬ eN (x, (s, r), pg, 0, mn, nt) := fun q y => q y.2.2
    have eBop : ∀ op, tko b x.2 = op → 4 ≤ op → ¬ x.2.2.2 = 41 → ¬ (op = 6 ∨ op = 7) → eB b (x, (s, r), pg, 0, mn, nt) = (aS b x, (op :: (rls (rk op) s pg).1, r), (rls (rk op) s pg).2, 1, (if op = 4 ∨ op = 5 then 1 else 0), 0) := by
      intro op h1 h2 h3 h4
      unfold eB
      rw [if_neg (by show ¬ (x.2.2.2 = 41 ∧ 0 < r.length); exact fun q => h3 q.1), if_neg (by show ¬ tko b x.2 = 0; omega), if_neg (by show ¬ (tko b x.2 = 6 ∨ tko b x.2 = 7); rw [h1]; exact h4)]
      show eO b (tko b x.2) (rk (tko b x.2)) _ = _
      rw [h1]
      rfl
    -- no operator
    have none_ : (¬ eN (x, (s, r), pg, 0, mn, nt) → eB b (x, (s, r), pg, 0, mn, nt) = (aF 1 x, (s, r), pg, 0, mn, nt)) → Rn (b_X10_expression_335 N (b_X10_expression_39 N m) 78 S) (FR b tp0 (er b lo hi (d + 1) (x, (s, r), pg, 0, mn, nt)) S) := by
      intro h1
      unfold b_X10_expression_335 b_X10_expression_337
      obtain ⟨m', rfl⟩ : ∃ m', m = m' + 1 := ⟨m - 1, by omega⟩
      unfold b_X10_expression_39
      rw [zer0]
      refine m_340 hN hb hp hE hx h hM ?_ (Fl_rf _ _)
      by_cases y : eN (x, (s, r), pg, 0, mn, nt)
      · rw [if_pos y]
        exact if_neg (fun q => q.2 y)
      · rw [if_neg y, st1 y]
        rw [h1 y, er_f (aF_n (by omega) hx)]
    have rel : ∀ lv rr, (lv = rr ∨ (lv = 0 ∧ rr = 1)) → 1 ≤ rr ∧ rr ≤ 6 → Rn (f_X10_drops N 78 (nI lv) S) (fun S1 => MW S1 tp0 (rls rr s pg).1 r (rls rr s pg).2 ∧ Fm (rW tp0) S S1) := fun lv rr q1 q2 => by
      unfold f_X10_drops
      exact m_rel (r := r) q1 q2 s N S pg b6 (by omega) (by omega) (by omega) hM.1
    have sgj' := fun rr => rls_I (r := rr) b6 hdq
    have kn : ∀ k, ¬ k = 18 → kw (wdn b x.2) = k → x.2.2.2 = 2 := fun k q1 q2 => kw_k2 (b := b) (T := x.2) (by omega)
    rw [b_X10_expression_39, one0, m_good h, bd_some, if_pos hx, one0, m_wd hN hb h, bd_some, show (15 : Int32) = nI 15 from rfl, show (16 : Int32) = nI 16 from rfl]
    by_cases z15 : kw (wdn b x.2) = 15
    · have zk := kn 15 (by omega) z15
      have ht : tko b x.2 = 4 := by
        unfold tko
        rw [if_neg (by omega), if_neg (by omega), if_neg (by omega), if_neg (by omega), if_neg (by omega), if_neg (by omega), if_neg (by omega), if_pos z15]
      rw [kIT hkw (by omega) z15]
      unfold b_X10_expression_70 b_X10_expression_83 b_X10_expression_99
      rw [show (15 : Int32) = nI 15 from rfl, kIT hkw (by omega) z15]
      refine Rn_bv (Rn_mono (rel 2 2 (Or.inl rfl) (by omega)) (fun S1 g => ?_))
      rw [kIT hkw (by omega) z15]
      obtain ⟨j1, -, -, -, j5⟩ := sgj' 2
      have t0 : tst (rls 2 s pg).1 = 0 := by
        rcases j5 with q | q
        · exact sg_t0 j1 (by omega)
        · rw [q]; rfl
      exact tailT 4 0 1 _ _ S1 (by omega) (rls_le 2 s pg) g.1 g.2 (by show 0 = tst (rls 2 s pg).1; rw [t0]) (nE (by omega)) (eBop 4 ht (by omega) (by omega) (by omega))
    rw [kIF hkw (by omega) z15]
    by_cases z16 : kw (wdn b x.2) = 16
    · have zk := kn 16 (by omega) z16
      have ht : tko b x.2 = 5 := by
        unfold tko
        rw [if_neg (by omega), if_neg (by omega), if_neg (by omega), if_neg (by omega), if_neg (by omega), if_neg (by omega), if_pos z16]
      rw [kIT hkw (by omega) z16]
      unfold b_X10_expression_70 b_X10_expression_83 b_X10_expression_99
      rw [show (15 : Int32) = nI 15 from rfl, kIF hkw (by omega) z15]
      refine Rn_bv (Rn_mono (rel 1 1 (Or.inl rfl) (by omega)) (fun S1 g => ?_))
      rw [kIF hkw (by omega) z15]
      have t0 : tst (rls 1 s pg).1 = 0 := by rw [rls_1]; rfl
      exact tailT 5 0 1 _ _ S1 (by omega) (rls_le 1 s pg) g.1 g.2 (by show 0 = tst (rls 1 s pg).1; rw [t0]) (nE (by omega)) (eBop 5 ht (by omega) (by omega) (by omega))
    rw [kIF hkw (by omega) z16]
    have sgz : ∀ c S1, (c = 40 ∨ c = 41 ∨ c = 42 ∨ c = 43 ∨ c = 45 ∨ c = 47 ∨ c = 59 ∨ c = 60 ∨ c = 61) → PMs S1 b x → f_X10_isSign N 78 (nI c) S1 = some (if x.2.2.2 = c then 1 else 0, S1) := fun c S1 hc hP => m_sgn hb hP hc
    have tk0 : ¬ (x.2.2.2 = 60 ∨ x.2.2.2 = 61 ∨ x.2.2.2 = 43 ∨ x.2.2.2 = 45 ∨ x.2.2.2 = 42 ∨ x.2.2.2 = 47) → tko b x.2 = 0 := by
      intro q
      unfold tko
      rw [if_neg (by omega), if_neg (by omega), if_neg (by omega), if_neg (by omega), if_neg (by omega), if_neg (by omega), if_neg z16, if_neg z15]
    have c201 : (¬ (x.2.2.2 = 43 ∨ x.2.2.2 = 45 ∨ x.2.2.2 = 42 ∨ x.2.2.2 = 47) → ¬ (x.2.2.2 = 41 ∧ 0 < r.length) → eB b (x, (s, r), pg, 0, mn, nt) = (aF 1 x, (s, r), pg, 0, mn, nt)) → Rn (b_X10_expression_201 N (b_X10_expression_39 N m) 78 1 S) (FR b tp0 (er b lo hi (d + 1) (x, (s, r), pg, 0, mn, nt)) S) := by
      intro hno
      have plus : x.2.2.2 = 43 ∨ x.2.2.2 = 45 → Rn (b_X10_expression_219 N (b_X10_expression_39 N m) 78 1 S) (FR b tp0 (er b lo hi (d + 1) (x, (s, r), pg, 0, mn, nt)) S) := by
        intro hk
        unfold b_X10_expression_219 b_X10_expression_241
        refine Rn_bv (Rn_mono (rel 5 5 (Or.inl rfl) (by omega)) (fun S1 g => ?_))
        rw [show (43 : Int32) = nI 43 from rfl, sgz 43 S1 (by omega) (PMs_rl h g.2), bd_some]
        have jt := rls_t (r := 5) (by omega) (s := s) (P := pg)
        by_cases y : x.2.2.2 = 43
        · rw [if_pos y, one0]
          exact tailP 8 _ _ S1 (rls_le 5 s pg) g.1 g.2 jt rfl (nE (by omega)) (eBop 8 (by unfold tko; rw [if_neg (by omega), if_neg (by omega), if_pos y]) (by omega) (by omega) (by omega))
        · rw [if_neg y, zer0]
          exact tailP 9 _ _ S1 (rls_le 5 s pg) g.1 g.2 jt rfl (nE (by omega)) (eBop 9 (by unfold tko; rw [if_neg (by omega), if_neg (by omega), if_neg y, if_pos (by omega)]) (by omega) (by omega) (by omega))
      have times : x.2.2.2 = 42 ∨ x.2.2.2 = 47 → Rn (b_X10_expression_274 N (b_X10_expression_39 N m) 78 1 S) (FR b tp0 (er b lo hi (d + 1) (x, (s, r), pg, 0, mn, nt)) S) := by
        intro hk
        unfold b_X10_expression_274 b_X10_expression_297
        refine Rn_bv (Rn_mono (rel 6 6 (Or.inl rfl) (by omega)) (fun S1 g => ?_))
        rw [show (42 : Int32) = nI 42 from rfl, sgz 42 S1 (by omega) (PMs_rl h g.2), bd_some]
        have jt := rls_t (r := 6) (by omega) (s := s) (P := pg)
        by_cases y : x.2.2.2 = 42
        · rw [if_pos y, one0]
          exact tailP 10 _ _ S1 (rls_le 6 s pg) g.1 g.2 jt rfl (nE (by omega)) (eBop 10 (by unfold tko; rw [if_neg (by omega), if_neg (by omega), if_neg (by omega), if_neg (by omega), if_pos y]) (by omega) (by omega) (by omega))
        · rw [if_neg y, zer0]
          exact tailP 11 _ _ S1 (rls_le 6 s pg) g.1 g.2 jt rfl (nE (by omega)) (eBop 11 (by unfold tko; rw [if_neg (by omega), if_neg (by omega), if_neg (by omega), if_neg (by omega), if_neg y, if_pos (by omega)]) (by omega) (by omega) (by omega))
      unfold b_X10_expression_201
      rw [show (43 : Int32) = nI 43 from rfl, show (45 : Int32) = nI 45 from rfl, show (42 : Int32) = nI 42 from rfl, show (47 : Int32) = nI 47 from rfl, show (41 : Int32) = nI 41 from rfl]
      rw [sgz 43 S (by omega) h, bd_some]
      by_cases y43 : x.2.2.2 = 43
      · rw [if_pos y43, one0]
        exact plus (Or.inl y43)
      rw [if_neg y43, zer0, sgz 45 S (by omega) h, bd_some]
      by_cases y45 : x.2.2.2 = 45
      · rw [if_pos y45, one0]
        exact plus (Or.inr y45)
      rw [if_neg y45, zer0, sgz 42 S (by omega) h, bd_some]
      by_cases y42 : x.2.2.2 = 42
      · rw [if_pos y42, one0]
        exact times (Or.inl y42)
      rw [if_neg y42, zer0, sgz 47 S (by omega) h, bd_some]
      by_cases y47 : x.2.2.2 = 47
      · rw [if_pos y47, one0]
        exact times (Or.inr y47)
      rw [if_neg y47, zer0, sgz 41 S (by omega) h, bd_some]
      by_cases y41 : x.2.2.2 = 41
      · rw [if_pos y41, one0]
        unfold f_X10_isOpened
        rw [hM.1.1, m_opened s N b6 (by omega) (by omega) hM.1.2.1, bd_some]
        cases r with
        | nil =>
          rw [if_pos (show ([] : List (List Nat)).length = 0 from rfl), zer0]
          exact none_ (fun _ => hno (by omega) (fun q => absurd q.2 (by show ¬ 0 < 0; omega)))
        | cons t r =>
          rw [if_neg (by show ¬ r.length + 1 = 0; omega : ¬ (t :: r).length = 0), one0]
          have heB : eB b (x, (s, t :: r), pg, 0, mn, nt) = (aS b x, (t, r), (rls 1 s pg).2, 0, mn, nt) := if_pos ⟨y41, Nat.zero_lt_succ _⟩
          obtain ⟨k1, k2⟩ := EI_B hE hx rfl (by rw [heB]; exact hg)
          rw [heB] at k1 k2
          have k2' : x.2.1 + 1 ≤ (aS b x).2.1 := k2
          rw [st1 (nE (by omega)), heB]
          unfold f_X10_closes b_X10_expression_337
          refine Rn_bv (Rn_bv (Rn_mono (rel 0 1 (Or.inr ⟨rfl, rfl⟩) (by omega)) (fun S1 g => ?_)))
          obtain ⟨g1, g2⟩ := g
          rw [rls_1] at g1
          obtain ⟨w1, w2, w3, w4⟩ := g1
          have w1' : sg S1 78 35 = nI ((flt t r).length + 1) := w1
          have w2' : stN S1 94 (fun a => a) (flt t r) := w2.2
          have h36 : sg S1 78 36 = nI (r.length + 1 + 1) := (g2.1 _ _ (by omega)).trans hM.2.1
          have jl := flt_le (s := s) (s' := []) (r := t :: r) (Nat.zero_le _)
          have jl' : (flt t r).length + 1 ≤ (flt s (t :: r)).length := jl
          have hr' : r.length + 1 ≤ 5 := hr
          rw [w1', l1, nIs (by omega), show (flt t r).length + 1 - 1 = (flt t r).length by omega, sgj (by omega), h36, nIs (by omega), show r.length + 1 + 1 - 1 = r.length + 1 by omega]
          have hP1 : PMs (sp (sp S1 78 35 (nI (flt t r).length)) 78 36 (nI (r.length + 1))) b x := PMs_o (PMs_o (PMs_rl h g2) (by omega)) (by omega)
          have hM1 : ME (sp (sp S1 78 35 (nI (flt t r).length)) 78 36 (nI (r.length + 1))) tp0 lo hi t r (rls 1 s pg).2 := by
            refine ⟨⟨?_, ?_, ?_, ?_⟩, ?_, ?_, ?_, ?_⟩
            · simp (disch := omega) only [sgp, sgn, sgj]
            · exact stN_s w2' (fun j _ => by simp (disch := omega) only [sgp, sgn, sgj])
            · simp (disch := omega) only [sgp, sgn, sgj]
              exact w3
            · exact codeX_s (n := tp0 + clen (rls 1 s pg).2) (Nat.le_refl _) w4 (fun j _ => by simp (disch := omega) only [sgp, sgn, sgj])
            · simp (disch := omega) only [sgp, sgn, sgj]
            · exact TSr_s hM.2.2.1.2 (fun j _ => by
                rw [sgn (by omega), sgn (by omega)]
                exact g2.1 _ _ (by omega))
            · simp (disch := omega) only [sgp, sgn, sgj]
              exact (g2.1 _ _ (by omega)).trans hM.2.2.2.1
            · simp (disch := omega) only [sgp, sgn, sgj]
              exact (g2.1 _ _ (by omega)).trans hM.2.2.2.2
          refine Rn_bv (Rn_mono (m_S hN hb hP1 hx) (fun S6 g6 => Rn_ret ?_))
          refine Rn_mono (ih d m S6 (aS b x) t r (rls 1 s pg).2 mn nt (by omega) (by omega) (by omega) k1 hg (by omega) (by omega) g6.1 (ME_6 hM1 g6.2)) (fun S' g => ?_)
          obtain ⟨y, o1, o2, o3, o4⟩ := g
          exact ⟨y, o1, o2, o3, Fl_tr (Fl_tr (Fl_sp (Fl_sp (rf_w g2) (by unfold exW; omega)) (by unfold exW; omega)) (mw_ex g6.2)) o4⟩
      · rw [if_neg y41, zer0]
        exact none_ (fun _ => hno (by omega) (fun q => y41 q.1))
    have c142 : x.2.2.2 = 60 ∨ x.2.2.2 = 61 → Rn (b_X10_expression_142 N (b_X10_expression_39 N m) 78 1 S) (FR b tp0 (er b lo hi (d + 1) (x, (s, r), pg, 0, mn, nt)) S) := by
      intro hk
      have htl := tst_le s
      have htk : tko b x.2 = if x.2.2.2 = 60 then 6 else 7 := by
        unfold tko
        by_cases y : x.2.2.2 = 60
        · rw [if_pos y, if_pos y]
        · rw [if_neg y, if_neg y, if_pos (by omega)]
      have hop : tko b x.2 = 6 ∨ tko b x.2 = 7 := by rw [htk]; split <;> omega
      unfold b_X10_expression_142 b_X10_expression_176
      rw [hM.2.1, r78_45, n95, inbT (by omega) (by omega), nIc (by omega), hM.2.2.1.1]
      have heB : eB b (x, (s, r), pg, 0, mn, nt) = if tst s = 1 then (aF 1 x, (s, r), pg, 0, mn, nt) else eO b (tko b x.2) 5 (x, (s, r), pg, 0, mn, nt) := by
        unfold eB
        rw [if_neg (by show ¬ (x.2.2.2 = 41 ∧ 0 < r.length); omega), if_neg (by show ¬ tko b x.2 = 0; omega), if_pos (by show tko b x.2 = 6 ∨ tko b x.2 = 7; exact hop)]
      by_cases y : tst s = 0
      · rw [eq0T y]
        rw [if_neg (by omega)] at heB
        refine Rn_bv (Rn_mono (rel 4 4 (Or.inl rfl) (by omega)) (fun S1 g => ?_))
        rw [rls_45 y] at g
        rw [show (60 : Int32) = nI 60 from rfl, sgz 60 S1 (by omega) (PMs_rl h g.2), bd_some]
        by_cases y60 : x.2.2.2 = 60
        · rw [if_pos y60] at htk
          rw [if_pos y60, one0]
          exact tailT 6 1 0 _ _ S1 (by omega) (rls_le 5 s pg) g.1 g.2 rfl (nE (by omega)) (by rw [heB, htk]; rfl)
        · rw [if_neg y60] at htk
          rw [if_neg y60, zer0]
          exact tailT 7 1 0 _ _ S1 (by omega) (rls_le 5 s pg) g.1 g.2 rfl (nE (by omega)) (by rw [heB, htk]; rfl)
      · rw [eq0F (by omega) (by omega)]
        rw [if_pos (by omega)] at heB
        exact c201 (fun _ _ => heB)
    rw [show (60 : Int32) = nI 60 from rfl, show (61 : Int32) = nI 61 from rfl, sgz 60 S (by omega) h, bd_some]
    by_cases z60 : x.2.2.2 = 60
    · rw [if_pos z60, one0]
      exact c142 (Or.inl z60)
    rw [if_neg z60, zer0, sgz 61 S (by omega) h, bd_some]
    by_cases z61 : x.2.2.2 = 61
    · rw [if_pos z61, one0]
      exact c142 (Or.inr z61)
    rw [if_neg z61, zer0]
    refine c201 (fun q1 q2 => ?_)
    unfold eB
    rw [if_neg (by show ¬ (x.2.2.2 = 41 ∧ 0 < r.length); exact q2), if_pos (by show tko b x.2 = 0; exact tk0 (by omega))]
end
