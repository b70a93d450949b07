/-! tokens of the class -/
section
variable {N : Nat}
theorem it1 {α : Type} {c : Prop} {i : Decidable c} {x y : α} {S : am_S} : (@ite (Option (α × am_S)) c i (some (x, S)) (some (y, S))) = some (@ite α c i x y, S) := by split <;> rfl
def kc28 (v : Int32) : Int32 := if v = 10 then 4 else if v = 32 then 4 else if v = 40 then v else if v = 41 then v else if v = 42 then v else if v = 43 then v else if v = 45 then v else if v = 47 then v else if v = 59 then v else if v = 60 then v else if v = 61 then v else 1
def kc14 (v : Int32) : Int32 := if v < 48 then kc28 v else if 57 < v then kc28 v else 3
def kc (v : Int32) : Int32 := if v < 97 then kc14 v else if 122 < v then kc14 v else 2
theorem kc_ok : ∀ x, x < 256 → kc (sby x) = nI (kd x) := by decide +kernel
theorem c_kind {x : Nat} {S : am_S} (h : x < 256) : f_X8_kindOf N (sby x) S = some (nI (kd x), S) := by
  rw [← kc_ok x h]
  unfold f_X8_kindOf b_X8_kindOf_14 b_X8_kindOf_28 kc kc14 kc28
  simp only [it1]
def TB (S : am_S) (b : Tx) : Prop := rg S 2 = 1 ∧ sg S 3 1 = nI b.1 ∧ ∀ j, j < b.1 → sg S 1 j = sby (b.2 j)
def TC (S : am_S) (b : Tx) (T : Tk) : Prop := TB S b ∧ sg S 3 2 = nI T.1 ∧ sg S 3 3 = nI T.2.1 ∧ sg S 3 4 = nI T.2.2 ∧ sg S 3 5 = nI (num b T)
def tkW : Nat → Nat → Prop := fun k j => k = 3 ∧ 2 ≤ j ∧ j ≤ 5
theorem TB_f {S S' : am_S} {b : Tx} (h : TB S b) (hf : Fm tkW S S') : TB S' b := ⟨by unfold rg; rw [hf.2]; exact h.1, (hf.1 _ _ (by unfold tkW; omega)).trans h.2.1, fun j hj => (hf.1 _ _ (by unfold tkW; omega)).trans (h.2.2 j hj)⟩
theorem tkw {S S' : am_S} {j : Nat} {v : Int32} (h : Fm tkW S S') (hj : 2 ≤ j ∧ j ≤ 5) : Fm tkW S (sp S' 3 j v) := Fm_sp h ⟨rfl, hj⟩
theorem ar01 : isAr 0 1 = true := rfl
theorem c_skp {b : Tx} {Q : am_S → Prop} (hb : TxI b) : ∀ (n p : Nat) (S : am_S), TB S b → sg S 3 2 = nI p → p ≤ b.1 → b.1 - p < n → (∀ S1, sg S1 3 2 = nI (skp b (b.1 - p) p) → Fm (fun k j => k = 3 ∧ j = 2) S S1 → Rn (b_X8_step_56 N 3 S1) Q) → Rn (b_X8_step_16 N n 3 S) Q := by
  intro n
  induction n with
  | zero => intro p S _ _ _ h; omega
  | succ n ih =>
    intro p S hB hp hpl hn hk
    have hL := hb.1
    unfold b_X8_step_16
    rw [hB.2.1, hp]
    by_cases z : b.1 ≤ p
    · rw [leT z (by omega)]
      refine hk S ?_ (Fm_rf _ _)
      rw [hp, show b.1 - p = 0 by omega]
      rfl
    · obtain ⟨d, hd⟩ : ∃ d, b.1 - p = d + 1 := ⟨b.1 - p - 1, by omega⟩
      rw [leF (by omega) (by omega), hB.1, ar01, ckT, n1, inbT (by omega) (by decide), nIc (by omega), hB.2.2 p (by omega), c_kind (hb.2 p), bd_some, l4]
      have hs : skp b (b.1 - p) p = if kd (b.2 p) = 4 then skp b d (p + 1) else p := by rw [hd]; rfl
      by_cases y : kd (b.2 p) = 4
      · rw [eqT y, hp, nI1]
        have hf : Fm (fun k j => k = 3 ∧ j = 2) S (sp S 3 2 (nI (p + 1))) := Fm_sp (Fm_rf _ _) ⟨rfl, rfl⟩
        refine ih (p + 1) _ (TB_f hB (tkw (Fm_rf _ _) (by omega))) (sgp _ _ _ _) (by omega) (by omega) (fun S1 h1 h2 => hk S1 ?_ (Fm_tr hf h2))
        rw [hs, if_pos y, h1, show b.1 - (p + 1) = d by omega]
      · rw [eqF y (by have := kd_lt (b.2 p); omega) (by omega)]
        exact hk S (by rw [hs, if_neg y, hp]) (Fm_rf _ _)
theorem c_run {b : Tx} {k : Nat} {Q : am_S → Prop} (hb : TxI b) (hk2 : k = 2 ∨ k = 3) : ∀ (n e : Nat) (S : am_S), TB S b → sg S 3 3 = nI e → sg S 3 4 = nI k → e ≤ b.1 → b.1 - e < n → (∀ S1, sg S1 3 3 = nI (rne b k (b.1 - e) e) → Fm (fun k j => k = 3 ∧ j = 3) S S1 → Rn (b_X8_step_165 N 3 S1) Q) → Rn (b_X8_step_106 N n 3 S) Q := by
  intro n
  induction n with
  | zero => intro p S _ _ _ _ h; omega
  | succ n ih =>
    intro p S hB hp h4 hpl hn hk
    have hL := hb.1
    unfold b_X8_step_106
    rw [hB.2.1, hp]
    by_cases z : b.1 ≤ p
    · rw [leT z (by omega)]
      refine hk S ?_ (Fm_rf _ _)
      rw [hp, show b.1 - p = 0 by omega]
      rfl
    · obtain ⟨d, hd⟩ : ∃ d, b.1 - p = d + 1 := ⟨b.1 - p - 1, by omega⟩
      have hs : rne b k (b.1 - p) p = if kd (b.2 p) = k then rne b k d (p + 1) else p := by rw [hd]; rfl
      have key : Rn (b_X8_step_133 N (b_X8_step_106 N n) 3 S) Q := by
        unfold b_X8_step_133
        rw [hp, hB.1, ar01, ckT, n1, inbT (by omega) (by decide), nIc (by omega), hB.2.2 p (by omega), c_kind (hb.2 p), bd_some, h4]
        by_cases y : kd (b.2 p) = k
        · rw [eqT y, hp, nI1]
          have hf : Fm (fun k j => k = 3 ∧ j = 3) S (sp S 3 3 (nI (p + 1))) := Fm_sp (Fm_rf _ _) ⟨rfl, rfl⟩
          refine ih (p + 1) _ (TB_f hB (tkw (Fm_rf _ _) (by omega))) (sgp _ _ _ _) ((sgj (by omega)).trans h4) (by omega) (by omega) (fun S1 h1 h2 => hk S1 ?_ (Fm_tr hf h2))
          rw [hs, if_pos y, h1, show b.1 - (p + 1) = d by omega]
        · rw [eqF y (by have := kd_lt (b.2 p); omega) (by omega)]
          exact hk S (by rw [hs, if_neg y, hp]) (Fm_rf _ _)
      rw [leF (by omega) (by omega), h4, l2, l3]
      rcases hk2 with q | q
      · rw [eqT q]
        exact key
      · rw [eqF (by omega) (by omega) (by omega), eqT q]
        exact key
theorem c_num {b : Tx} {p e : Nat} {S : am_S} (hb : TxI b) (hB : TB S b) (he : sg S 3 3 = nI e) (hel : e ≤ b.1) (hd : ∀ i, p ≤ i → i < e → kd (b.2 i) = 3) : ∀ (d n i : Nat), p + i + d = e → i + d ≤ 4 → d < n → b_X8_numberHere_24 N n 3 (nI (dg b p i)) (nI (p + i)) S = some (nI (dg b p (i + d)), S) := by
  have hL := hb.1
  intro d
  induction d with
  | zero =>
    intro n i h1 h3 h2
    obtain ⟨m, rfl⟩ : ∃ m, n = m + 1 := ⟨n - 1, by omega⟩
    unfold b_X8_numberHere_24
    rw [he, leT (by omega) (by omega)]
    rfl
  | succ d ih =>
    intro n i h1 h3 h2
    obtain ⟨m, rfl⟩ : ∃ m, n = m + 1 := ⟨n - 1, by omega⟩
    unfold b_X8_numberHere_24
    have hx := kd3.mp (hd (p + i) (by omega) (by omega))
    have hg := dg_lt (b := b) (p := p) (n := i) (fun j a c => hd j a (by omega))
    have h4 : 10 ^ i ≤ 10 ^ 4 := Nat.pow_le_pow_right (by omega) (by omega)
    have hv : sby (b.2 (p + i)) = nI (b.2 (p + i)) := by unfold sby; rw [if_pos (by omega)]
    have hs : nI (10 * dg b p i + b.2 (p + i)) - nI 48 = nI (dg b p (i + 1)) := by
      rw [nIs (by omega)]
      show _ = nI (10 * dg b p i + (b.2 (p + i) - 48))
      congr 1
      omega
    rw [he, leF (by omega) (by omega), hB.1, ar01, ckT, n1, inbT (by omega) (by decide), nIc (by omega), hB.2.2 (p + i) (by omega), hv, l10, nIm, nIa, l48, hs, nI1]
    have := ih m (i + 1) (by omega) (by omega) (by omega)
    rw [show i + (d + 1) = i + 1 + d by omega]
    exact this
theorem c_end {b : Tx} {T : Tk} {e : Nat} {S S0 : am_S} (hN : 10000 ≤ N) (hb : TxI b) (hB : TB S b) (hT : TkI b e T) (h2 : sg S 3 2 = nI T.1) (h3 : sg S 3 3 = nI T.2.1) (h4 : sg S 3 4 = nI T.2.2) (hf : Fm tkW S0 S) : Rn (b_X8_step_165 N 3 S) (fun S' => TC S' b T ∧ Fm tkW S0 S') := by
  have hL := hb.1
  have t1 := tLe hT
  have t2 := tHi hT
  have hk : T.2.2 < 62 := by
    by_cases z : T.2.2 = 0
    · omega
    · rw [(tNz hT z).2]
      exact kd_lt _
  have fin : ∀ v, v = nI (num b T) → Rn (b_X8_step_182 N 3 v S) (fun S' => TC S' b T ∧ Fm tkW S0 S') := by
    intro v hv
    unfold b_X8_step_182
    exact Rn_ret ⟨⟨TB_f hB (tkw (Fm_rf _ _) (by omega)), (sgj (by omega)).trans h2, (sgj (by omega)).trans h3, (sgj (by omega)).trans h4, (sgp _ _ _ _).trans hv⟩, tkw hf (by omega)⟩
  unfold b_X8_step_165
  rw [h4, l3]
  by_cases z : T.2.2 = 3
  · rw [eqT z]
    unfold f_X8_numberHere
    rw [h3, h2, nIs t1, l4]
    by_cases y : tln T ≤ 4
    · have := c_num (N := N) hb hB h3 t2 (fun i a c => (tWd hT (Or.inr z) i a c).trans z) (tln T) N 0 (by unfold tln; omega) (by omega) (by omega)
      rw [leT (by exact y) (by omega), l0, show (nI T.1 = nI (T.1 + 0)) from rfl]
      rw [show (nI 0 = nI (dg b T.1 0)) from rfl, this, bd_some]
      refine fin _ ?_
      unfold num
      rw [if_pos z, if_pos y, Nat.zero_add]
    · rw [leF (by unfold tln at y; omega) (by omega), bd_some]
      refine fin _ ?_
      unfold num
      rw [if_pos z, if_neg y]
      rfl
  · rw [eqF z (by omega) (by omega)]
    refine fin _ ?_
    unfold num
    rw [if_neg z]
    rfl
theorem c_step8 {b : Tx} {e : Nat} {S : am_S} (hN : 10000 ≤ N) (hb : TxI b) (hB : TB S b) (he : sg S 3 3 = nI e) (hel : e ≤ b.1) (h6 : sg S 3 6 = 0) : Rn (f_X8_step N 3 S) (fun S' => TC S' b (tk b e) ∧ Fm tkW S S') := by
  have hL := hb.1
  have hTI := tk_I hel
  obtain ⟨q1, q2⟩ := skp_le b (b.1 - e) e
  unfold f_X8_step
  rw [if_pos h6, he]
  have f0 : Fm tkW S (sp S 3 2 (nI e)) := tkw (Fm_rf _ _) (by omega)
  refine c_skp hb N e _ (TB_f hB f0) (sgp _ _ _ _) hel (by omega) (fun S1 h1 f1 => ?_)
  have f1' : Fm tkW S S1 := Fm_tr f0 (Fm_wk f1 (fun k j h => ⟨h.1, by omega, by omega⟩))
  unfold tk at hTI ⊢
  generalize skp b (b.1 - e) e = p at *
  have hB1 := TB_f hB f1'
  have f2 : Fm tkW S (sp (sp S1 3 3 (nI p)) 3 4 0) := tkw (tkw f1' (by omega)) (by omega)
  have g1 : sg (sp (sp S1 3 3 (nI p)) 3 4 0) 3 1 = nI b.1 := (TB_f hB f2).2.1
  have g2 : sg (sp (sp S1 3 3 (nI p)) 3 4 0) 3 2 = nI p := by
    rw [sgj (by omega), sgj (by omega)]
    exact h1
  have g3 : sg (sp (sp S1 3 3 (nI p)) 3 4 0) 3 3 = nI p := by
    rw [sgj (by omega), sgp]
  unfold b_X8_step_56
  rw [h1, g1, g2]
  by_cases z : b.1 ≤ p
  · have hT : tkA b p = (p, p, 0) := by unfold tkA; rw [if_pos z]
    rw [leT z (by omega)]
    obtain ⟨n, hn⟩ : ∃ n, N = n + 1 := ⟨N - 1, by omega⟩
    rw [show b_X8_step_106 N N = b_X8_step_106 N (n + 1) by rw [← hn]]
    unfold b_X8_step_106
    rw [g1, g3, leT z (by omega)]
    rw [hT] at hTI ⊢
    exact c_end hN hb (TB_f hB f2) hTI g2 g3 (sgp _ _ _ _) f2
  · have hT : tkA b p = (p, if kd (b.2 p) = 2 ∨ kd (b.2 p) = 3 then rne b (kd (b.2 p)) (b.1 - (p + 1)) (p + 1) else p + 1, kd (b.2 p)) := by unfold tkA; rw [if_neg z]
    have hr : rg (sp (sp S1 3 3 (nI p)) 3 4 0) 2 = 1 := (TB_f hB f2).1
    rw [leF (by omega) (by omega), hr, ar01, ckT, n1, inbT (by omega) (by decide), nIc (by omega), (TB_f hB f2).2.2 p (by omega), c_kind (hb.2 p), bd_some, sgj (by omega), g3, nI1]
    have f3 : Fm tkW S (sp (sp (sp (sp S1 3 3 (nI p)) 3 4 0) 3 4 (nI (kd (b.2 p)))) 3 3 (nI (p + 1))) := tkw (tkw f2 (by omega)) (by omega)
    generalize hS3 : sp (sp (sp (sp S1 3 3 (nI p)) 3 4 0) 3 4 (nI (kd (b.2 p)))) 3 3 (nI (p + 1)) = S3 at *
    have k2 : sg S3 3 2 = nI p := by
      rw [← hS3, sgj (by omega), sgj (by omega)]
      exact g2
    have k3 : sg S3 3 3 = nI (p + 1) := by rw [← hS3, sgp]
    have k4 : sg S3 3 4 = nI (kd (b.2 p)) := by rw [← hS3, sgj (by omega), sgp]
    rw [hT] at hTI ⊢
    by_cases y : kd (b.2 p) = 2 ∨ kd (b.2 p) = 3
    · rw [if_pos y] at hTI ⊢
      refine c_run hb y N (p + 1) S3 (TB_f hB f3) k3 k4 (by omega) (by omega) (fun S4 m1 m2 => ?_)
      have f4 : Fm tkW S S4 := Fm_tr f3 (Fm_wk m2 (fun k j h => ⟨h.1, by omega, by omega⟩))
      exact c_end hN hb (TB_f hB f4) hTI ((m2.1 _ _ (by omega)).trans k2) m1 ((m2.1 _ _ (by omega)).trans k4) f4
    · rw [if_neg y] at hTI ⊢
      obtain ⟨n, hn⟩ : ∃ n, N = n + 1 := ⟨N - 1, by omega⟩
      rw [show b_X8_step_106 N N = b_X8_step_106 N (n + 1) by rw [← hn]]
      have hkl := kd_lt (b.2 p)
      unfold b_X8_step_106
      rw [k4, l2, l3, eqF (by omega) (by omega) (by omega), eqF (by omega) (by omega) (by omega), ite_self]
      exact c_end hN hb (TB_f hB f3) hTI k2 k3 k4 f3
end
