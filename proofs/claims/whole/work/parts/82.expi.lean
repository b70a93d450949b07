/-! the machine keeps what holds of it -/
section
theorem aS_adv {b : Tx} {x : Ft} (h : TkG b x.2) (hk : ¬ x.2.2.2 = 0) (hx : x.1 = 0) : (aS b x).1 = 0 ∧ TkG b (aS b x).2 ∧ x.2.1 + 1 ≤ (aS b x).2.1 := by
  rw [aS0 hx]
  refine ⟨rfl, G_tk h, ?_⟩
  have h1 := tLo (tk_I (b := b) (G_hi h).2)
  obtain ⟨e, h2⟩ := h
  have h3 := (tNz h2 hk).1
  show x.2.1 + 1 ≤ (tk b x.2.2.1).1
  omega
theorem kw_k2 {b : Tx} {T : Tk} (h : ¬ kw (wdn b T) = 18) : T.2.2 = 2 := by
  unfold wdn at h
  split at h
  · rename_i q
    exact q.1
  · exact absurd kw_0 h
theorem aF_n {k : Nat} {x : Ft} (hk : ¬ k = 0) (hx : x.1 = 0) : ¬ (aF k x).1 = 0 := by
  rw [aF0 hx]
  exact hk
theorem tko_k {b : Tx} {T : Tk} (h : ¬ tko b T = 0) : ¬ T.2.2 = 0 := by
  intro z
  apply h
  have hk : kw (wdn b T) = 18 := Classical.byContradiction (fun q => by have := kw_k2 q; omega)
  unfold tko
  rw [hk, z]
  rfl
theorem tko_op {b : Tx} {T : Tk} (h : ¬ tko b T = 0) : 4 ≤ tko b T ∧ tko b T ≤ 11 := by
  unfold tko at h ⊢
  repeat' split
  all_goals (try omega)
  all_goals (exfalso; apply h; simp [*])
theorem EI_P {A : Nat → Prop} {b : Tx} {p lo hi : Nat} {e : Es} (hA : ∀ k, lo ≤ k → k ≤ hi → A k ∧ k ≤ 8) (h : EI A b p e) (hx : e.1.1 = 0) (hw : e.2.2.2.1 = 1) (hg : (eP b lo hi e).1.1 = 0) : EI A b p (eP b lo hi e) ∧ e.1.2.1 + 1 ≤ (eP b lo hi e).1.2.1 := by
  obtain ⟨x, ⟨s, r⟩, pg, wp, mn, nt⟩ := e
  obtain ⟨hG, ⟨f1, f2, f3⟩, ⟨g1, ⟨⟨g2, g3⟩, g4⟩⟩, k1, k2, k3⟩ := h
  have hx' : x.1 = 0 := hx
  have hw' : wp = 1 := hw
  subst hw'
  have g1' : r.length ≤ 6 := g1
  have g2' : sgI s := g2
  have g3' : c3 s ≤ 6 := g3
  have g4' : wok r := g4
  have k2' : dq A pg 0 (bns s + bnw r + 0) := k2
  have k3' : pg.length + (s.length + 1 + wln r) + p ≤ x.2.1 + 1 := k3
  have hwk : wok (s :: r) := ⟨⟨g2', g3'⟩, g4'⟩
  have hbb := (wok_b hwk).2
  have hbb' : bns s + bnw r ≤ 5 * (r.length + 1) := hbb
  unfold eP at hg ⊢
  by_cases z1 : ¬ (x.2.2.2 = 3 ∨ x.2.2.2 = 40 ∨ x.2.2.2 = 2)
  · rw [if_pos z1] at hg
    exact absurd hg (aF_n (by omega) hx')
  rw [if_neg z1] at hg ⊢
  have hk : ¬ x.2.2.2 = 0 := by omega
  obtain ⟨n1, n2, n3⟩ := aS_adv (x := x) hG hk hx'
  by_cases z2 : 6 ≤ r.length ∨ (x.2.2.2 = 3 ∧ 9999 < num b x.2)
  · rw [if_pos z2] at hg
    exact absurd hg (aF_n (by omega) hx')
  rw [if_neg z2] at hg ⊢
  by_cases z3 : x.2.2.2 = 40
  · rw [if_pos z3] at hg ⊢
    refine ⟨⟨n2, ⟨by show (1 : Nat) ≤ 1; omega, by show (1 : Nat) ≤ 1; omega, Nat.zero_le _⟩, ⟨by show r.length + 1 ≤ 6; omega, ⟨⟨trivial, Nat.zero_le _⟩, hwk⟩⟩, fun _ _ => ⟨rfl, Nat.zero_le _⟩, ?_, ?_⟩, n3⟩
    · show dq A pg 0 (0 + (bns s + bnw r) + 0)
      rw [Nat.zero_add]
      exact k2'
    · show pg.length + (0 + 1 + (s.length + 1 + wln r)) + p ≤ (aS b x).2.1 + 1
      omega
  rw [if_neg z3] at hg ⊢
  by_cases z4 : x.2.2.2 = 3
  · rw [if_pos z4] at hg ⊢
    refine ⟨⟨n2, ⟨Nat.zero_le _, f2, f3⟩, ⟨g1, hwk⟩, fun q => absurd q (by show ¬ (0 : Nat) = 1; omega), ?_, ?_⟩, n3⟩
    · show dq A (pg ++ [(1, num b x.2)]) 0 (bns s + bnw r + 1)
      exact dq_ap k2' (dq_num (by omega) (by omega))
    · show (pg ++ [(1, num b x.2)]).length + (s.length + 1 + wln r) + p ≤ (aS b x).2.1 + 1
      rw [List.length_append]
      show pg.length + 1 + (s.length + 1 + wln r) + p ≤ (aS b x).2.1 + 1
      omega
  rw [if_neg z4] at hg ⊢
  by_cases z5 : mn = 1 ∧ kw (wdn b x.2) = 17
  · rw [if_pos z5] at hg ⊢
    by_cases z6 : 6 ≤ nt
    · rw [if_pos z6] at hg
      exact absurd hg (aF_n (by omega) hx')
    rw [if_neg z6] at hg ⊢
    obtain ⟨c1, c2⟩ := k1 rfl z5.1
    have c1' : c3 s = nt := c1
    have c2' : hr s ≤ 3 := c2
    refine ⟨⟨n2, ⟨by show (1 : Nat) ≤ 1; omega, f2, by show nt + 1 ≤ 6; omega⟩, ⟨g1, ⟨⟨⟨by omega, ?_, g2'⟩, by show 1 + c3 s ≤ 6; omega⟩, g4'⟩⟩, fun _ _ => ⟨by show 1 + c3 s = nt + 1; omega, by show (3 : Nat) ≤ 3; omega⟩, ?_, ?_⟩, n3⟩
    · show hr s < 3 ∨ ((3 : Nat) = 3 ∧ hr s = 3)
      omega
    · show dq A pg 0 (0 + bns s + bnw r + 0)
      rw [Nat.zero_add]
      exact k2'
    · show pg.length + (s.length + 1 + 1 + wln r) + p ≤ (aS b x).2.1 + 1
      omega
  rw [if_neg z5] at hg ⊢
  by_cases z7 : lo ≤ kw (wdn b x.2) ∧ kw (wdn b x.2) ≤ hi
  · rw [if_pos z7] at hg ⊢
    refine ⟨⟨n2, ⟨Nat.zero_le _, f2, f3⟩, ⟨g1, hwk⟩, fun q => absurd q (by show ¬ (0 : Nat) = 1; omega), ?_, ?_⟩, n3⟩
    · show dq A (pg ++ [(2, kw (wdn b x.2))]) 0 (bns s + bnw r + 1)
      exact dq_ap k2' (dq_val (hA _ z7.1 z7.2) (by omega))
    · show (pg ++ [(2, kw (wdn b x.2))]).length + (s.length + 1 + wln r) + p ≤ (aS b x).2.1 + 1
      rw [List.length_append]
      show pg.length + 1 + (s.length + 1 + wln r) + p ≤ (aS b x).2.1 + 1
      omega
  · rw [if_neg z7] at hg
    exact absurd hg (aF_n (by omega) hx')
theorem EI_B {A : Nat → Prop} {b : Tx} {p : Nat} {e : Es} (h : EI A b p e) (hx : e.1.1 = 0) (hw : e.2.2.2.1 = 0) (hg : (eB b e).1.1 = 0) : EI A b p (eB b e) ∧ e.1.2.1 + 1 ≤ (eB b e).1.2.1 := by
  obtain ⟨x, ⟨s, r⟩, pg, wp, mn, nt⟩ := e
  obtain ⟨hG, ⟨f1, f2, f3⟩, ⟨g1, ⟨⟨g2, g3⟩, g4⟩⟩, k1, k2, k3⟩ := h
  have hx' : x.1 = 0 := hx
  have hw' : wp = 0 := hw
  subst hw'
  have g1' : r.length ≤ 6 := g1
  have g2' : sgI s := g2
  have g3' : c3 s ≤ 6 := g3
  have g4' : wok r := g4
  have k2' : dq A pg 0 (bns s + bnw r + 1) := k2
  have k3' : pg.length + (s.length + 1 + wln r) + p ≤ x.2.1 + 1 := k3
  have hgo : ∀ op rr, 4 ≤ op ∧ op ≤ 11 → ¬ x.2.2.2 = 0 → (hr (rls rr s pg).1 < rk op) → (op = 4 ∨ op = 5 → hr (rls rr s pg).1 ≤ 2 ∧ rk op ≤ 3) → EI A b p (eO b op rr (x, (s, r), pg, 0, mn, nt)) ∧ x.2.1 + 1 ≤ (eO b op rr (x, (s, r), pg, 0, mn, nt)).1.2.1 := by
    intro op rr ho hk hrr hao
    obtain ⟨n1, n2, n3⟩ := aS_adv (x := x) hG hk hx'
    obtain ⟨j1, j2, j3, j4, j5⟩ := rls_I (r := rr) g2' k2'
    have ho3 : ¬ op = 3 := by omega
    have hc0 : c3 (op :: (rls rr s pg).1) = c3 (rls rr s pg).1 := by
      show (if op = 3 then 1 else 0) + c3 (rls rr s pg).1 = _
      rw [if_neg ho3, Nat.zero_add]
    refine ⟨⟨n2, ⟨by show (1 : Nat) ≤ 1; omega, by show (if op = 4 ∨ op = 5 then 1 else 0) ≤ 1; split <;> omega, Nat.zero_le _⟩, ⟨g1, ⟨⟨⟨by omega, Or.inl hrr, j1⟩, ?_⟩, g4'⟩⟩, fun _ q => ?_, ?_, ?_⟩, n3⟩
    · show c3 (op :: (rls rr s pg).1) ≤ 6
      rw [hc0]
      omega
    · have q' : (if op = 4 ∨ op = 5 then 1 else 0) = 1 := q
      have q2 : op = 4 ∨ op = 5 := Classical.byContradiction (fun y => by rw [if_neg y] at q'; omega)
      refine ⟨?_, (hao q2).2⟩
      show c3 (op :: (rls rr s pg).1) = 0
      rw [hc0]
      exact sg_c3 j1 (hao q2).1
    · show dq A (rls rr s pg).2 0 ((if op = 3 then 0 else 1) + bns (rls rr s pg).1 + bnw r + (1 - 1))
      rw [if_neg ho3]
      rw [show 1 + bns (rls rr s pg).1 + bnw r + (1 - 1) = bns (rls rr s pg).1 + bnw r + 1 by omega]
      exact j3
    · show (rls rr s pg).2.length + ((rls rr s pg).1.length + 1 + 1 + wln r) + p ≤ (aS b x).2.1 + 1
      omega
  unfold eB at hg ⊢
  by_cases z1 : x.2.2.2 = 41 ∧ 0 < r.length
  · rw [if_pos z1] at hg ⊢
    obtain ⟨n1, n2, n3⟩ := aS_adv (x := x) hG (by omega) hx'
    obtain ⟨j1, j2, j3, j4, j5⟩ := rls_I (r := 1) g2' k2'
    cases r with
    | nil => exact absurd z1.2 (by show ¬ (0 < 0); omega)
    | cons t r =>
      rw [rls_1] at j3 j4
      have j3' : dq A (rls 1 s pg).2 0 (0 + (bns t + bnw r) + 1) := j3
      have j4' : (rls 1 s pg).2.length + 0 = pg.length + s.length := j4
      have k3'' : pg.length + (s.length + 1 + (t.length + 1 + wln r)) + p ≤ x.2.1 + 1 := k3'
      refine ⟨⟨n2, ⟨Nat.zero_le _, f2, f3⟩, ⟨by show r.length ≤ 6; have : r.length + 1 ≤ 6 := g1'; omega, g4'⟩, fun q => absurd q (by show ¬ (0 : Nat) = 1; omega), ?_, ?_⟩, n3⟩
      · show dq A (rls 1 s pg).2 0 (bns t + bnw r + 1)
        rw [Nat.zero_add] at j3'
        exact j3'
      · show (rls 1 s pg).2.length + (t.length + 1 + wln r) + p ≤ (aS b x).2.1 + 1
        omega
  rw [if_neg z1] at hg ⊢
  by_cases z2 : tko b x.2 = 0
  · rw [if_pos z2] at hg
    exact absurd hg (aF_n (by omega) hx')
  rw [if_neg z2] at hg ⊢
  have hop := tko_op z2
  have hkz := tko_k z2
  by_cases z3 : tko b x.2 = 6 ∨ tko b x.2 = 7
  · rw [if_pos z3] at hg ⊢
    by_cases z4 : tst s = 1
    · rw [if_pos z4] at hg
      exact absurd hg (aF_n (by omega) hx')
    rw [if_neg z4] at hg ⊢
    obtain ⟨j1, j2, j3, j4, j5⟩ := rls_I (r := 5) g2' k2'
    have hr4 : rk (tko b x.2) = 4 := by rcases z3 with q | q <;> rw [q] <;> rfl
    refine hgo (tko b x.2) 5 hop hkz ?_ (fun q => by omega)
    rw [hr4]
    have : ¬ hr (rls 5 s pg).1 = 4 := fun q => z4 (by rw [← rls_t (r := 5) (by omega) (s := s) (P := pg)]; exact sg_t1 q)
    rcases j5 with q | q
    · omega
    · rw [q]
      show (0 : Nat) < 4
      omega
  · rw [if_neg z3] at hg ⊢
    obtain ⟨j1, j2, j3, j4, j5⟩ := rls_I (r := rk (tko b x.2)) g2' k2'
    have h6 : hr (rls (rk (tko b x.2)) s pg).1 < rk (tko b x.2) := by
      rcases j5 with q | q
      · exact q
      · rw [q]
        show 0 < rk _
        exact rk_b.1
    refine hgo (tko b x.2) _ hop hkz h6 (fun q => ?_)
    have : rk (tko b x.2) ≤ 2 := by rcases q with q | q <;> rw [q] <;> decide
    exact ⟨by show hr (rls (rk (tko b x.2)) s pg).1 ≤ 2; omega, by show rk (tko b x.2) ≤ 3; omega⟩
end
