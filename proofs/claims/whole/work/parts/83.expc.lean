/-! an expression is read by the class -/
section
variable {N : Nat}
def flt : List Nat → List (List Nat) → List Nat
  | s, [] => s
  | s, t :: r => s ++ 14 :: flt t r
theorem flt_c (a : Nat) (s : List Nat) (r : List (List Nat)) : flt (a :: s) r = a :: flt s r := by
  cases r <;> rfl
theorem flt_o (s : List Nat) (r : List (List Nat)) : flt [] (s :: r) = 14 :: flt s r := rfl
theorem flt_len : ∀ (r : List (List Nat)) (s : List Nat), (flt s r).length + 1 = wln (s :: r) := by
  intro r
  induction r with
  | nil => intro s; rfl
  | cons t r ih =>
    intro s
    show (s ++ 14 :: flt t r).length + 1 = s.length + 1 + wln (t :: r)
    rw [List.length_append, ← ih t]
    show s.length + ((flt t r).length + 1) + 1 = s.length + 1 + ((flt t r).length + 1)
    omega
def stN (S : am_S) (c : Nat) (f : Nat → Nat) : List Nat → Prop
  | [] => True
  | a :: st => sg S c st.length = nI (f a) ∧ stN S c f st
theorem stN_s {S S' : am_S} {c : Nat} {f : Nat → Nat} : ∀ {st : List Nat}, stN S c f st → (∀ j, j < st.length → sg S' c j = sg S c j) → stN S' c f st := by
  intro st
  induction st with
  | nil => intro _ _; trivial
  | cons a st ih =>
    intro h hs
    exact ⟨(hs _ (Nat.lt_succ_self _)).trans h.1, ih h.2 (fun j hj => hs j (Nat.lt_succ_of_lt hj))⟩
def cwk (a : Nat) : Nat := if a = 14 then 0 else if a = 3 then 3 else oc a
theorem cwk_b : ∀ a, a < 15 → cwk a < 13 := by decide
theorem cwk_sc {a : Nat} (h : 3 ≤ a ∧ a ≤ 11) : 20000 + cwk a = sc (a, 0) := by
  have q : a = 3 ∨ a = 4 ∨ a = 5 ∨ a = 6 ∨ a = 7 ∨ a = 8 ∨ a = 9 ∨ a = 10 ∨ a = 11 := by omega
  rcases q with q | q | q | q | q | q | q | q | q <;> subst q <;> rfl
theorem rnk : ∀ a, a < 12 → 3 ≤ a → cwk a < 10 ∧ am_rank.getD (cwk a) 0 = nI (rk a) := by decide +kernel
theorem rnk0 : am_rank.getD 0 0 = nI 0 := by decide +kernel
def ER (S : am_S) (k : Nat) (s : List Nat) (r : List (List Nat)) (pg : Prg) : Prop := sg S 5 1 = nI (flt s r).length ∧ stN S 6 cwk (flt s r) ∧ sg S k 1 = nI pg.length ∧ stepsAt S (k + 1) 0 pg
def EF (S : am_S) (r : List (List Nat)) (f : Nat × Nat × Nat) : Prop := sg S 5 2 = nI r.length ∧ sg S 5 3 = nI f.2.2 ∧ sg S 5 4 = nI f.1 ∧ sg S 5 5 = nI f.2.1
theorem stA_ap {S S' : am_S} {c : Nat} {x : Nat × Nat} : ∀ {P : Prg} {i : Nat}, stepsAt S c i P → (∀ j, j < i + P.length → sg S' c j = sg S c j) → sg S' c (i + P.length) = nI (sc x) → stepsAt S' c i (P ++ [x]) := by
  intro P
  induction P with
  | nil => intro i _ _ h; exact ⟨h, trivial⟩
  | cons y P ih =>
    intro i h hs hx
    refine ⟨(hs i (by simp)).trans h.1, ih h.2 (fun j hj => hs j (by simp at hj ⊢; omega)) ?_⟩
    rw [show i + 1 + P.length = i + (y :: P).length by simp; omega]
    exact hx
def eRk (k : Nat) : Nat → Nat → Prop := fun c j => (c = 5 ∧ j = 1) ∨ c = 6 ∨ (c = k ∧ j = 1) ∨ c = k + 1
theorem c_add {S : am_S} {k : Nat} {s : List Nat} {r : List (List Nat)} {pg : Prg} {i : Nat × Nat} (hk : Ru k) (hk2 : 10 < k) (hl : pg.length < 700) (h : ER S k s r pg) : Rn (f_X5_addStep N k (nI (sc i)) S) (fun S' => ER S' k s r (pg ++ [i]) ∧ Fm (eRk k) S S') := by
  obtain ⟨h1, h2, h3, h4⟩ := h
  unfold f_X5_addStep b_X5_addStep_32
  rw [hk.1.1, hk.1.2, h3, leF hl (by omega), inbT hl (by omega), nIc (by omega), sgn (by omega), h3, nI1]
  refine Rn_ret ⟨⟨?_, ?_, ?_, ?_⟩, Fm_sp (Fm_sp (Fm_rf _ _) (by unfold eRk; omega)) (by unfold eRk; omega)⟩
  · simp (disch := omega) only [sgp, sgn, sgj]
    exact h1
  · exact stN_s h2 (fun j _ => by simp (disch := omega) only [sgp, sgn, sgj])
  · rw [sgp, List.length_append]
    rfl
  · refine stA_ap h4 (fun j hj => ?_) ?_
    · rw [sgn (by omega), sgj (by omega)]
    · rw [sgn (by omega), Nat.zero_add, sgp]
theorem c_psh {S : am_S} {k a : Nat} {s : List Nat} {r : List (List Nat)} {pg : Prg} (hk2 : 10 < k) (hl : (flt s r).length < 84) (h : ER S k s r pg) : Rn (f_X6_push N 5 (nI (cwk a)) S) (fun S' => (sg S' 5 1 = nI ((flt s r).length + 1) ∧ stN S' 6 cwk (a :: flt s r) ∧ sg S' k 1 = nI pg.length ∧ stepsAt S' (k + 1) 0 pg) ∧ Fm (eRk k) S S') := by
  obtain ⟨h1, h2, h3, h4⟩ := h
  unfold f_X6_push b_X6_push_32
  rw [r5_0, show ln 6 = 84 from rfl, h1, leF hl (by omega), inbT hl (by omega), nIc (by omega), sgn (by omega), h1, nI1]
  refine Rn_ret ⟨⟨sgp _ _ _ _, ⟨?_, ?_⟩, ?_, ?_⟩, Fm_sp (Fm_sp (Fm_rf _ _) (by unfold eRk; omega)) (by unfold eRk; omega)⟩
  · rw [sgn (by omega), sgp]
  · exact stN_s h2 (fun j hj => by rw [sgn (by omega), sgj (by omega)])
  · simp (disch := omega) only [sgp, sgn, sgj]
    exact h3
  · exact stepsAt_same (fun j => by simp (disch := omega) only [sgp, sgn, sgj]) h4
/-- those that bind as strongly go -/
theorem c_rel {k lr rr : Nat} {r : List (List Nat)} (hk : Ru k) (hk2 : 10 < k) (hlr : lr < 10) (hrr : am_rank.getD lr 0 = nI rr ∧ 1 ≤ rr ∧ rr < 10) : ∀ (s : List Nat) (n : Nat) (S : am_S) (pg : Prg), sgI s → s.length < n → (flt s r).length ≤ 84 → pg.length + s.length ≤ 700 → ER S k s r pg → Rn (b_X6_release_0 N n 5 k (nI lr) S) (fun S' => ER S' k (rls rr s pg).1 r (rls rr s pg).2 ∧ Fm (eRk k) S S') := by
  intro s
  induction s with
  | nil =>
    intro n S pg _ hn hf hl h
    obtain ⟨m, rfl⟩ : ∃ m, n = m + 1 := ⟨n - 1, by simp at hn; omega⟩
    have h0 := h
    obtain ⟨h1, h2, -⟩ := h
    cases r with
    | nil =>
      unfold b_X6_release_0 b_X6_release_60
      rw [r5_0, show ln 6 = 84 from rfl, h1]
      have e : nI (flt [] []).length ≤ 0 := by decide
      rw [if_pos e]
      exact Rn_ret ⟨h0, Fm_rf _ _⟩
    | cons t r =>
      rw [flt_o] at h2 hf
      have hf' : (flt t r).length + 1 ≤ 84 := hf
      have h2' : sg S 6 (flt t r).length = nI 0 := h2.1
      have h1' : sg S 5 1 = nI ((flt t r).length + 1) := h1
      unfold b_X6_release_0 b_X6_release_60
      rw [r5_0, show ln 6 = 84 from rfl, h1', le0F (by omega) (by omega), l1, nIs (by omega), show (flt t r).length + 1 - 1 = (flt t r).length by omega, inbT (by omega) (by omega), nIc (by omega), h2', inbT (by omega) (by omega), inbT (by omega) (by omega), nIc (by omega), nIc (by omega), rnk0, hrr.1, ltT (by omega) (by omega)]
      exact Rn_ret ⟨h0, Fm_rf _ _⟩
  | cons a s ih =>
    intro n S pg hI hn hf hl h
    obtain ⟨m, rfl⟩ : ∃ m, n = m + 1 := ⟨n - 1, by omega⟩
    have h0 := h
    obtain ⟨h1, h2, h3, h4⟩ := h
    obtain ⟨i1, -, i3⟩ := hI
    obtain ⟨c1, c2⟩ := rnk a (by omega) i1.1
    rw [flt_c] at h1 h2 hf
    have h1' : sg S 5 1 = nI ((flt s r).length + 1) := h1
    have hf' : (flt s r).length + 1 ≤ 84 := hf
    have h2' : sg S 6 (flt s r).length = nI (cwk a) := h2.1
    have hrb := rk_b (a := a)
    unfold b_X6_release_0 b_X6_release_60
    rw [r5_0, show ln 6 = 84 from rfl, h1', le0F (by omega) (by omega), l1, nIs (by omega), show (flt s r).length + 1 - 1 = (flt s r).length by omega, inbT (by omega) (by omega), nIc (by omega), h2', inbT (by omega) (by omega), inbT (by omega) (by omega), nIc (by omega), nIc (by omega), c2, hrr.1]
    by_cases z : rr ≤ rk a
    · have e : rls rr (a :: s) pg = rls rr s (pg ++ [(a, 0)]) := if_pos z
      rw [ltF z (by omega), e]
      have e1 : sg (sp S 5 1 (nI (flt s r).length)) 5 1 = nI (flt s r).length := sgp _ _ _ _
      have e2 : sg (sp S 5 1 (nI (flt s r).length)) 6 (flt s r).length = nI (cwk a) := by rw [sgn (by omega)]; exact h2'
      rw [e1, inbT (by omega) (by omega), nIc (by omega), e2, l20000, nIa, cwk_sc i1]
      have hER : ER (sp S 5 1 (nI (flt s r).length)) k s r pg := ⟨e1, stN_s h2.2 (fun j _ => by rw [sgn (by omega)]), by rw [sgn (by omega)]; exact h3, stepsAt_same (fun j => by rw [sgn (by omega)]) h4⟩
      have hf1 : Fm (eRk k) S (sp S 5 1 (nI (flt s r).length)) := Fm_sp (Fm_rf _ _) (by unfold eRk; omega)
      have hl' : pg.length + (s.length + 1) ≤ 700 := hl
      refine Rn_bv (Rn_mono (c_add hk hk2 (by omega) hER) (fun S2 g => ?_))
      refine Rn_mono (ih m S2 (pg ++ [(a, 0)]) i3 (by simp at hn; omega) (by omega) ?_ g.1) (fun S3 g3 => ⟨g3.1, Fm_tr (Fm_tr hf1 g.2) g3.2⟩)
      rw [List.length_append]
      show pg.length + 1 + s.length ≤ 700
      omega
    · have e : rls rr (a :: s) pg = (a :: s, pg) := if_neg z
      rw [ltT (by omega) (by omega), e]
      exact Rn_ret ⟨h0, Fm_rf _ _⟩
theorem PCs_e {S S' : am_S} {k : Nat} {b : Tx} {x : Ft} (hk2 : 10 < k) (h : PCs S b x) (hf : Fm (eRk k) S S') : PCs S' b x := PCs_f h hf.2 (fun c j hc => hf.1 c j (by unfold eRk; omega))
theorem EF_e {S S' : am_S} {k : Nat} {r : List (List Nat)} {f : Nat × Nat × Nat} (hk2 : 10 < k) (h : EF S r f) (hf : Fm (eRk k) S S') : EF S' r f := ⟨(hf.1 _ _ (by unfold eRk; omega)).trans h.1, (hf.1 _ _ (by unfold eRk; omega)).trans h.2.1, (hf.1 _ _ (by unfold eRk; omega)).trans h.2.2.1, (hf.1 _ _ (by unfold eRk; omega)).trans h.2.2.2⟩
theorem ER_6 {S S' : am_S} {k : Nat} {s : List Nat} {r : List (List Nat)} {pg : Prg} (hk2 : 10 < k) (h : ER S k s r pg) (hf : Fm cw6 S S') : ER S' k s r pg := ⟨(hf.1 _ _ (by unfold cw6; omega)).trans h.1, stN_s h.2.1 (fun j _ => hf.1 _ _ (by unfold cw6; omega)), (hf.1 _ _ (by unfold cw6; omega)).trans h.2.2.1, stepsAt_same (fun j => hf.1 _ _ (by unfold cw6; omega)) h.2.2.2⟩
theorem EF_6 {S S' : am_S} {r : List (List Nat)} {f : Nat × Nat × Nat} (h : EF S r f) (hf : Fm cw6 S S') : EF S' r f := ⟨(hf.1 _ _ (by unfold cw6; omega)).trans h.1, (hf.1 _ _ (by unfold cw6; omega)).trans h.2.1, (hf.1 _ _ (by unfold cw6; omega)).trans h.2.2.1, (hf.1 _ _ (by unfold cw6; omega)).trans h.2.2.2⟩
theorem c_vT {S : am_S} {b : Tx} {x : Ft} (hN : 10000 ≤ N) (hb : TxI b) (h : PCs S b x) : f_X6_valueOfThinks N 3 S = some (if 0 ≤ kw (wdn b x.2) ∧ kw (wdn b x.2) ≤ 5 then nI (cm (kw (wdn b x.2))) else -1, S) := by
  unfold f_X6_valueOfThinks b_X6_valueOfThinks_69
  rw [c_wd hN hb h (s := 8) (by omega) (by omega), bd_some, show skw 8 = 0 from rfl]
  by_cases z0 : kw (wdn b x.2) = 0
  · rw [if_pos z0, one0, z0]; rfl
  rw [if_neg z0, zer0]
  rw [c_wd hN hb h (s := 9) (by omega) (by omega), bd_some, show skw 9 = 1 from rfl]
  by_cases z1 : kw (wdn b x.2) = 1
  · rw [if_pos z1, one0, z1]; rfl
  rw [if_neg z1, zer0]
  rw [c_wd hN hb h (s := 10) (by omega) (by omega), bd_some, show skw 10 = 4 from rfl]
  by_cases z2 : kw (wdn b x.2) = 4
  · rw [if_pos z2, one0, z2]; rfl
  rw [if_neg z2, zer0]
  rw [c_wd hN hb h (s := 11) (by omega) (by omega), bd_some, show skw 11 = 2 from rfl]
  by_cases z3 : kw (wdn b x.2) = 2
  · rw [if_pos z3, one0, z3]; rfl
  rw [if_neg z3, zer0]
  rw [c_wd hN hb h (s := 12) (by omega) (by omega), bd_some, show skw 12 = 3 from rfl]
  by_cases z4 : kw (wdn b x.2) = 3
  · rw [if_pos z4, one0, z4]; rfl
  rw [if_neg z4, zer0]
  rw [c_wd hN hb h (s := 13) (by omega) (by omega), bd_some, show skw 13 = 5 from rfl]
  by_cases z5 : kw (wdn b x.2) = 5
  · rw [if_pos z5, one0, z5]; rfl
  rw [if_neg z5, zer0]
  rw [if_neg (by omega : ¬ (0 ≤ kw (wdn b x.2) ∧ kw (wdn b x.2) ≤ 5))]
theorem c_vS {S : am_S} {b : Tx} {x : Ft} (hN : 10000 ≤ N) (hb : TxI b) (h : PCs S b x) : f_X6_valueOfSounds N 3 S = some (if 4 ≤ kw (wdn b x.2) ∧ kw (wdn b x.2) ≤ 8 then nI (cm (kw (wdn b x.2))) else -1, S) := by
  unfold f_X6_valueOfSounds b_X6_valueOfSounds_58
  rw [c_wd hN hb h (s := 14) (by omega) (by omega), bd_some, show skw 14 = 6 from rfl]
  by_cases z0 : kw (wdn b x.2) = 6
  · rw [if_pos z0, one0, z0]; rfl
  rw [if_neg z0, zer0]
  rw [c_wd hN hb h (s := 15) (by omega) (by omega), bd_some, show skw 15 = 7 from rfl]
  by_cases z1 : kw (wdn b x.2) = 7
  · rw [if_pos z1, one0, z1]; rfl
  rw [if_neg z1, zer0]
  rw [c_wd hN hb h (s := 10) (by omega) (by omega), bd_some, show skw 10 = 4 from rfl]
  by_cases z2 : kw (wdn b x.2) = 4
  · rw [if_pos z2, one0, z2]; rfl
  rw [if_neg z2, zer0]
  rw [c_wd hN hb h (s := 16) (by omega) (by omega), bd_some, show skw 16 = 8 from rfl]
  by_cases z3 : kw (wdn b x.2) = 8
  · rw [if_pos z3, one0, z3]; rfl
  rw [if_neg z3, zer0]
  rw [c_wd hN hb h (s := 13) (by omega) (by omega), bd_some, show skw 13 = 5 from rfl]
  by_cases z4 : kw (wdn b x.2) = 5
  · rw [if_pos z4, one0, z4]; rfl
  rw [if_neg z4, zer0]
  rw [if_neg (by omega : ¬ (4 ≤ kw (wdn b x.2) ∧ kw (wdn b x.2) ≤ 8))]
def oI (a : Nat) : Int32 := if a = 0 then -1 else nI (cwk a)
theorem c_op {S : am_S} {b : Tx} {x : Ft} (hN : 10000 ≤ N) (hb : TxI b) (h : PCs S b x) : f_X6_operatorOf N 3 S = some (oI (tko b x.2), S) := by
  have hk := G_kd h.1.1
  have d1 : ∀ z : Int32, b_X6_operatorOf_141 N z S = some (z, S) := fun z => rfl
  have dflt : (bd (f_X8_isWord N 3 17 S) (fun r3 S4 => (if r3 = 0 then (bd (f_X8_isWord N 3 18 S4) (fun r7 S8 => (if r7 = 0 then b_X6_operatorOf_141 N (-1) S8 else b_X6_operatorOf_141 N 2 S8))) else some (1, S4)))) = some (if kw (wdn b x.2) = 16 then 1 else if kw (wdn b x.2) = 15 then 2 else -1, S) := by
    rw [c_wd hN hb h (by omega) (by omega), bd_some, show skw 17 = 16 from rfl]
    by_cases z : kw (wdn b x.2) = 16
    · rw [if_pos z, one0, if_pos z]
    · rw [if_neg z, zer0, c_wd hN hb h (by omega) (by omega), bd_some, show skw 18 = 15 from rfl, if_neg z]
      by_cases y : kw (wdn b x.2) = 15
      · rw [if_pos y, one0, if_pos y]
        rfl
      · rw [if_neg y, zer0, if_neg y]
        rfl
  unfold f_X6_operatorOf
  rw [h.2.1.2.2.2.1]
  simp only [dflt]
  unfold tko
  generalize hkk : x.2.2.2 = kk at *
  by_cases z1 : kk = 60
  · rw [if_pos z1, z1]
    rfl
  by_cases z2 : kk = 61
  · rw [if_neg z1, if_pos z2, z2]
    rfl
  by_cases z3 : kk = 43
  · rw [if_neg z1, if_neg z2, if_pos z3, z3]
    rfl
  by_cases z4 : kk = 45
  · rw [if_neg z1, if_neg z2, if_neg z3, if_pos z4, z4]
    rfl
  by_cases z5 : kk = 42
  · rw [if_neg z1, if_neg z2, if_neg z3, if_neg z4, if_pos z5, z5]
    rfl
  by_cases z6 : kk = 47
  · rw [if_neg z1, if_neg z2, if_neg z3, if_neg z4, if_neg z5, if_pos z6, z6]
    rfl
  rw [if_neg z1, if_neg z2, if_neg z3, if_neg z4, if_neg z5, if_neg z6]
  have ne : ∀ m, m < 100 → ¬ kk = m → ¬ nI kk = nI m := fun m hm q y => q ((nIeq (by omega) (by omega)).mp y)
  have n42 : ¬ nI kk = (42 : Int32) := ne 42 (by omega) z5
  have n43 : ¬ nI kk = (43 : Int32) := ne 43 (by omega) z3
  have n45 : ¬ nI kk = (45 : Int32) := ne 45 (by omega) z4
  have n47 : ¬ nI kk = (47 : Int32) := ne 47 (by omega) z6
  have n60 : ¬ nI kk = (60 : Int32) := ne 60 (by omega) z1
  have n61 : ¬ nI kk = (61 : Int32) := ne 61 (by omega) z2
  simp only [if_neg n42, if_neg n43, if_neg n45, if_neg n47, if_neg n60, if_neg n61]
  simp only [ite_self]
  by_cases y1 : kw (wdn b x.2) = 16
  · rw [if_pos y1, if_pos y1]
    rfl
  · rw [if_neg y1, if_neg y1]
    by_cases y2 : kw (wdn b x.2) = 15
    · rw [if_pos y2, if_pos y2]
      rfl
    · rw [if_neg y2, if_neg y2]
      rfl
end
