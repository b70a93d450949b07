/-! what a rule keeps -/
section
def RuI (A : Nat → Prop) (o : Option Prg) : Prop := ∀ P, o = some P → dq A P 0 1 ∧ P.length ≤ 700 ∧ ¬ P = []
theorem er_P {A : Nat → Prop} {b : Tx} {p lo hi : Nat} {e : Es} (hb : TxI b) (h : EI A b p e) (hn : eN e) : dq A (rls 1 e.2.1.1 e.2.2.1).2 0 1 ∧ (rls 1 e.2.1.1 e.2.2.1).2.length + p ≤ e.1.2.1 ∧ e.1.2.1 ≤ b.1 := by
  obtain ⟨x, ⟨s, r⟩, pg, wp, mn, nt⟩ := e
  obtain ⟨b1, b2, b3, b4, b5, b6⟩ := EI_b hb h
  have hw : wp = 0 := hn.1
  subst hw
  have hr : r.length = 0 := hn.2.1
  have hr' : r = [] := List.eq_nil_of_length_eq_zero hr
  subst hr'
  have hdq : dq A pg 0 (bns s + 0 + 1) := h.2.2.2.2.1
  obtain ⟨-, -, j3, j4, -⟩ := rls_I (A := A) (m := 0) (r := 1) b6 hdq
  rw [rls_1] at j3 j4
  have j4' : (rls 1 s pg).2.length + 0 = pg.length + s.length := j4
  have b3' : pg.length + s.length + p ≤ x.2.1 := b3
  exact ⟨j3, by show (rls 1 s pg).2.length + p ≤ x.2.1; omega, b4⟩
theorem R_rul {A : Nat → Prop} {b : Tx} {lo hi : Nat} {o : Option Prg} {x : Ft} (hb : TxI b) (hA : ∀ k, lo ≤ k → k ≤ hi → A k ∧ k ≤ 8) (hG : TkG b x.2) (hx : x.1 = 0) (hz : (sRul b lo hi o x).1.1 = 0) : ∃ P, (sRul b lo hi o x).2 = some P ∧ (dq A P 0 1 ∧ P.length ≤ 700 ∧ ¬ P = []) ∧ TkG b (sRul b lo hi o x).1.2 ∧ P.length + (aS b x).2.1 ≤ (sRul b lo hi o x).1.2.1 := by
  have hL := hb.1
  unfold sRul at hz ⊢
  by_cases ho : o = none
  · rw [if_pos ho] at hz ⊢
    have hz' : (er b lo hi 800 (e00 (aS b x))).1.1 = 0 := hz
    have hGS : TkG b (aS b x).2 := (Mv_S hG).1
    obtain ⟨k1, k2⟩ := er_end (A := A) (p := (aS b x).2.1) hA 800 (e00 (aS b x)) (by have := (G_hi hGS); omega) (fun _ => EI_0 hGS) hz'
    obtain ⟨q1, q2, q3⟩ := er_P (lo := lo) (hi := hi) hb k1 k2
    rw [if_pos hz']
    refine ⟨_, rfl, ⟨q1, by omega, fun q => ?_⟩, k1.1, q2⟩
    rw [q] at q1
    exact absurd q1 (by show ¬ (0 : Nat) = 1; omega)
  · rw [if_neg ho] at hz
    have h5 : ¬ (aF 5 x).1 = 0 := aF_n (by omega) hx
    rw [aSf h5] at hz
    have hz' : (er b lo hi 800 (e00 (aF 5 x))).1.1 = 0 := hz
    rw [er_f (e := e00 (aF 5 x)) h5] at hz'
    exact absurd hz' h5
end
