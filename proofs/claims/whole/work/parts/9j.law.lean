/-! one call of the law -/
section
variable {N t : Nat} {a : Ax}
/-- all that is so between calls -/
def LSt (S : am_S) : Prop := ∃ t a, WX a ∧ XC S t a ∧ OCx S a.1 ∧ XM S a
theorem lg_eq (x : Int64) : lg_cmp x x = 0 := by
  unfold lg_cmp
  simp
theorem LSt_of {S S1 S2 : am_S} {t' : Nat} {a' : Ax} (hW : WX a') (h1 : PC t' a' S S1) (h2 : PM a' S1 S2) : LSt S2 := ⟨t', a', hW, XC_m h1.1 h2.2.2.1 h2.2.1, OCx_same h1.2.1 (fun k j hk => h2.2.1 k j (by omega)), h2.1⟩
theorem PC_lp {S S1 : am_S} {t' i : Nat} {a' : Ax} {v : Int64} (h : PC t' a' S S1) : PC t' a' S (lp S1 i v) := ⟨XC_m h.1 rfl (fun _ _ _ => rfl), OCx_same h.2.1 (fun _ _ _ => rfl), fun k j hk => h.2.2 k j hk⟩
theorem l_jx {fc : am_S → Option am_T} {fm : am_S → Option (Int32 × am_S)} {cd : Nat → Int32} {P : Nat → Prop} {E : Nat → am_S → Option (Int32 × am_S)} {K : am_S → Option am_S} {Q : am_S → Prop} {S : am_S} (h : Jx t a fc fm cd) (hX : XC S t a) (hO : OCx S a.1) (hM : XM S a) (hnp : cnp a.1 ≤ 8) (hP : Ex_ P (fc S)) (hE : ∀ e S1, P e → E e S1 = some (cd e, S1) ∧ ¬ cd e = 0) (hK : ∀ S', LSt S' → Rn (K S') Q) : Rn (bd (bw (fc S) (fun r S1 => if inb 0 (ln 108) = true then some (0, lp S1 (108 + Int32.toNatClampNeg 0) (Int32.toInt64 r)) else none) E) (fun r2 S3 => bd (fm S3) (fun r6 S7 => bd (f_X10_thrown N 78 S7) (fun r9 S10 => if r9 = r2 then (if r2 = 0 then (if inb 0 (ln 108) = true then (if lg_cmp (lg S10 (108 + Int32.toNatClampNeg 0)) (Int32.toInt64 r6) = 0 then K S10 else none) else none) else K S10) else none)))) Q := by
  have hin : inb 0 (ln 108) = true := by rw [n108]; decide
  obtain ⟨A, a', t', hW, hc, hm⟩ := h
  obtain ⟨q, eq, qA, qP⟩ := hc S hX hO
  obtain ⟨qa, S1⟩ := q
  have qA' : qa = A := qA
  subst qA'
  have qP' : PC t' a' S S1 := qP
  rw [eq]
  cases qa with
  | inl v =>
    have e1 : bw (some ((Sum.inl v : Int32 ⊕ Nat), S1)) (fun r S1 => if inb 0 (ln 108) = true then some ((0 : Int32), lp S1 (108 + Int32.toNatClampNeg 0) (Int32.toInt64 r)) else none) E = some (0, lp S1 108 (Int32.toInt64 v)) := by
      show (if inb 0 (ln 108) = true then some ((0 : Int32), lp S1 (108 + Int32.toNatClampNeg 0) (Int32.toInt64 v)) else none) = _
      rw [if_pos hin]
      rfl
    rw [e1, bd_some]
    have hP3 : PC t' a' S (lp S1 108 (Int32.toInt64 v)) := PC_lp qP'
    refine Rn_bd (Rn_mono (hm _ (XM_c hM hnp hP3.2.2)) (fun p hp => ?_))
    obtain ⟨⟨m1, m2⟩, m3⟩ := hp
    unfold f_X10_thrown
    rw [bd_some, m2, if_pos rfl, if_pos rfl, if_pos hin, show 108 + Int32.toNatClampNeg 0 = 108 from rfl, m3.2.2.2, lp_lg, m1, lg_eq, if_pos rfl]
    exact hK _ (LSt_of hW hP3 m3)
  | inr e =>
    have hPe : P e := hP e S1 eq
    obtain ⟨e2, e3⟩ := hE e S1 hPe
    have e1 : bw (some ((Sum.inr e : Int32 ⊕ Nat), S1)) (fun r S1 => if inb 0 (ln 108) = true then some ((0 : Int32), lp S1 (108 + Int32.toNatClampNeg 0) (Int32.toInt64 r)) else none) E = E e S1 := rfl
    rw [e1, e2, bd_some]
    refine Rn_bd (Rn_mono (hm _ (XM_c hM hnp qP'.2.2)) (fun p hp => ?_))
    obtain ⟨m1, m3⟩ := hp
    have m1' : sg p.2 78 0 = cd e := m1
    unfold f_X10_thrown
    rw [bd_some, m1', if_pos rfl, if_neg e3]
    exact hK _ (LSt_of hW qP' m3)
theorem l_jp {fc fm : am_S → Option (Int32 × am_S)} {K : am_S → Option am_S} {Q : am_S → Prop} {S : am_S} (h : Jp t a fc fm) (hX : XC S t a) (hO : OCx S a.1) (hM : XM S a) (hnp : cnp a.1 ≤ 8) (hK : ∀ S', LSt S' → Rn (K S') Q) : Rn (bd (fc S) (fun r2 S3 => bd (fm S3) (fun r6 S7 => if r2 = r6 then K S7 else none))) Q := by
  obtain ⟨A, a', t', hW, hc, hm⟩ := h
  refine Rn_bd (Rn_mono (hc S hX hO) (fun q hq => ?_))
  refine Rn_bd (Rn_mono (hm _ (XM_c hM hnp hq.2.2.2)) (fun p hp => ?_))
  rw [hq.1, hp.1, if_pos rfl]
  exact hK _ (LSt_of hW hq.2 hp.2)
theorem l_jv {fc fm : am_S → Option am_S} {K : am_S → Option am_S} {Q : am_S → Prop} {S : am_S} (h : Jv t a fc fm) (hX : XC S t a) (hO : OCx S a.1) (hM : XM S a) (hnp : cnp a.1 ≤ 8) (hK : ∀ S', LSt S' → Rn (K S') Q) : Rn (bv (fc S) (fun S3 => bv (fm S3) (fun S7 => K S7))) Q := by
  obtain ⟨a', t', hW, hc, hm⟩ := h
  refine Rn_bv (Rn_mono (hc S hX hO) (fun q hq => ?_))
  refine Rn_bv (Rn_mono (hm _ (XM_c hM hnp hq.2.2)) (fun p hp => ?_))
  exact hK _ (LSt_of hW hq hp)
theorem NW_of (hW : WX a) : NW a.1 a.2.1.2.2 := ⟨hW.2.1.2.2.1, hW.2.1.2.2.2⟩
end
