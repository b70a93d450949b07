/-! the class settles the city -/
section
variable {N : Nat}
theorem Rn_nd {β : Type} {o : Option β} {P Q : β → Prop} (h1 : Rn o P) (h2 : Rn o Q) : Rn o (fun x => P x ∧ Q x) := by
  obtain ⟨x, e1, q1⟩ := h1
  obtain ⟨y, e2, q2⟩ := h2
  rw [e1] at e2
  cases e2
  exact ⟨x, e1, q1, q2⟩
def cAt (c : Cp) (i : Nat) : Cp := ((c.1.1, (pnp c, ppa c, ppe c, fun p => if p < i then atN c p else pat c p)), c.2)
theorem CT_at {S : am_S} {t : Nat} {c d : Cp} (h : CT S t c) (e1 : d.1.1 = c.1.1) (e2 : pnp d = pnp c ∧ ppa d = ppa c ∧ ppe d = ppe c) (e3 : d.2 = c.2) (ha : ∀ p, p < pnp c → pat d p = pat c p) : CT S t d := by
  obtain ⟨⟨b1, p1, p2, p3, p4⟩, d2⟩ := d
  obtain ⟨⟨b1', q1, q2, q3, q4⟩, d2'⟩ := c
  obtain ⟨e21, e22, e23⟩ := e2
  have f1 : b1 = b1' := e1
  have f3 : d2 = d2' := e3
  have f21 : p1 = q1 := e21
  have f22 : p2 = q2 := e22
  have f23 : p3 = q3 := e23
  subst f1 f3 f21 f22 f23
  obtain ⟨h1, h2, h3, h4⟩ := h
  exact ⟨h1, h2, fun i hi => ⟨(h3 i hi).1, (h3 i hi).2.1, (h3 i hi).2.2.trans (ha i hi).symm⟩, h4⟩
theorem CT_w5 {S : am_S} {t i : Nat} {v : Int32} {c : Cp} (ht : Ci t) (h : CT S t c) : CT (sp S (t + 5) i v) t ((c.1.1, (pnp c, ppa c, ppe c, wr (pat c) i v)), c.2) := by
  have h8 := Ci_8 ht
  obtain ⟨⟨⟨a1, a2⟩, a3, a4⟩, ⟨a5, a6⟩, a7, ⟨a8, a9⟩, a10, a11⟩ := h
  refine ⟨⟨⟨by simp (disch := omega) only [sgp, sgn, sgj]; exact a1, by simp (disch := omega) only [sgp, sgn, sgj]; exact a2⟩, by simp (disch := omega) only [sgp, sgn, sgj]; exact a3, by simp (disch := omega) only [sgp, sgn, sgj]; exact a4⟩, ⟨fun i hi => by simp (disch := omega) only [sgp, sgn, sgj]; exact a5 i hi, fun i h1 h2 => by simp (disch := omega) only [sgp, sgn, sgj]; exact a6 i h1 h2⟩, fun j hj => ⟨by simp (disch := omega) only [sgp, sgn, sgj]; exact (a7 j hj).1, by simp (disch := omega) only [sgp, sgn, sgj]; exact (a7 j hj).2.1, ?_⟩, ⟨fun i hi => by simp (disch := omega) only [sgp, sgn, sgj]; exact a8 i hi, fun i hi => by simp (disch := omega) only [sgp, sgn, sgj]; exact a9 i hi⟩, RuC_s a10 (by simp (disch := omega) only [sgp, sgn, sgj]) (fun j => by simp (disch := omega) only [sgp, sgn, sgj]), RuC_s a11 (by simp (disch := omega) only [sgp, sgn, sgj]) (fun j => by simp (disch := omega) only [sgp, sgn, sgj])⟩
  show _ = wr (pat c) i v j
  by_cases z : j = i
  · subst z
    rw [sgp, wr_eq]
  · rw [sgj z, wr_ne z]
    exact (a7 j hj).2.2
theorem CT_w6 {S : am_S} {t i : Nat} {v : Int32} {c : Cp} (ht : Ci t) (h : CT S t c) : CT (sp S (t + 6) i v) t c := by
  have h8 := Ci_8 ht
  obtain ⟨⟨⟨a1, a2⟩, a3, a4⟩, ⟨a5, a6⟩, a7, ⟨a8, a9⟩, a10, a11⟩ := h
  exact ⟨⟨⟨by simp (disch := omega) only [sgp, sgn, sgj]; exact a1, by simp (disch := omega) only [sgp, sgn, sgj]; exact a2⟩, by simp (disch := omega) only [sgp, sgn, sgj]; exact a3, by simp (disch := omega) only [sgp, sgn, sgj]; exact a4⟩, ⟨fun i hi => by simp (disch := omega) only [sgp, sgn, sgj]; exact a5 i hi, fun i h1 h2 => by simp (disch := omega) only [sgp, sgn, sgj]; exact a6 i h1 h2⟩, fun j hj => by simp (disch := omega) only [sgp, sgn, sgj]; exact a7 j hj, ⟨fun i hi => by simp (disch := omega) only [sgp, sgn, sgj]; exact a8 i hi, fun i hi => by simp (disch := omega) only [sgp, sgn, sgj]; exact a9 i hi⟩, RuC_s a10 (by simp (disch := omega) only [sgp, sgn, sgj]) (fun j => by simp (disch := omega) only [sgp, sgn, sgj]), RuC_s a11 (by simp (disch := omega) only [sgp, sgn, sgj]) (fun j => by simp (disch := omega) only [sgp, sgn, sgj])⟩
/-- people that are settled -/
def SI (S0 : am_S) (t : Nat) (c : Cp) (i : Nat) (s : am_S) : Prop := CT s t (cAt c i) ∧ (∀ p, p < i → sg s (t + 6) p = cne (cyN c) p) ∧ Fm (twW t) S0 s
theorem c_set30 {S0 s : am_S} {t i : Nat} {c : Cp} {K : Nat → Int32 → am_S → Option am_S} {Q : am_S → Prop} (hN : 10000 ≤ N) (ht : Ci t) (hI : CpI c) (hi : i < pnp c) (h1 : CT s t (cAt c (i + 1))) (h2 : ∀ p, p < i → sg s (t + 6) p = cne (cyN c) p) (h3 : Fm (twW t) S0 s) (hk : ∀ s', SI S0 t c (i + 1) s' → Rn (K t (nI (i + 1)) s') Q) : Rn (b_X1_settle_30 N K t (nI i) s) Q := by
  have h8 := Ci_8 ht
  obtain ⟨⟨i1, i2, i3, i4⟩, i5, i6, i7, i8⟩ := id hI
  obtain ⟨-, ⟨r4, n3, -, -, -, -, r7, n6⟩, -⟩ := id ht
  have e0 : sg s t 0 = nI (pnb c) := h1.1.1.1
  have eb : ∀ x, x < pnb c → sg s (t + 1) x = nI (pba c x) ∧ 0 ≤ (nI (pba c x)).toInt ∧ (nI (pba c x)).toInt ≤ 30 := fun x hx => ⟨(h1.2.1.1 x hx).1, nIr (m := 30) (i5 x hx).1 (by omega)⟩
  have ep : sg s (t + 3) i = nI (ppa c i) := (h1.2.2.1 i hi).1
  unfold b_X1_settle_30
  rw [r4, n3, r7, n6, inbT (by omega) (by omega), nIc (by omega), ep, c_nea2 (ba := fun x => nI (pba c x)) hN ht i1 e0 eb (nIr (m := 30) (i6 i hi).1 (by omega)), bd_some, inbT (by omega) (by omega), nI1]
  refine hk _ ⟨CT_w6 ht h1, fun p hp => ?_, Fm_sp h3 (by unfold twW; omega)⟩
  by_cases z : p = i
  · subst z
    rw [sgp]
    rfl
  · rw [sgj z]
    exact h2 p (by omega)
theorem c_addRf {S : am_S} {t v : Nat} {c : Cp} (ht : Ci t) (hn : pnr c < 8) (h : CT S t c) : Rn (f_X1_addRound N t (nI v) S) (fun S' => Fm (fun k _ => k = t + 7 ∨ k = t) S S') := by
  obtain ⟨-, -, ⟨r1, n1, r2, n2⟩, -⟩ := ht
  obtain ⟨⟨⟨a1, a2⟩, a3, a4⟩, -⟩ := h
  unfold f_X1_addRound b_X1_addRound_29
  rw [r1, n1, a3, l8, leF hn (by omega), inbT hn (by omega), nIc (by omega), sgn (by omega), a3, nI1]
  exact Rn_ret (Fm_sp (Fm_sp (Fm_rf _ _) (by omega)) (by omega))
def SE (S0 : am_S) (t : Nat) (c : Cp) (s : am_S) : Prop := (CC s t (cyN c) ∧ (∀ i, i < 6 → sg s (t + 2) i = if i < pnb c then nI (prd c i) else 0) ∧ (∀ p, p < pnp c → sg s (t + 5) p = atN c p)) ∧ Fm (twW t) S0 s
theorem SE_of {S0 s : am_S} {t : Nat} {c d : Cp} (hI : CpI c) (h : CT s t d) (e1 : d.1 = (cAt c (pnp c)).1) (e2 : d.2.1.2 = c.2.1.2) (e3 : d.2.2 = c.2.2) (h2 : ∀ p, p < pnp c → sg s (t + 6) p = cne (cyN c) p) (h3 : Fm (twW t) S0 s) (hr : (¬ pnr c = 0 → d.2.1.1 = c.2.1.1) ∧ (pnr c = 0 → pnr d = pnb c ∧ ∀ j, j < pnb c → pro d j = j)) : SE S0 t c s := by
  obtain ⟨⟨i1, i2, i3, i4⟩, i5, i6, i7, i8⟩ := id hI
  obtain ⟨d1, ⟨dr, dw⟩, dru⟩ := d
  have e1' : d1 = (cAt c (pnp c)).1 := e1
  subst e1'
  have e2' : dw = c.2.1.2 := e2
  subst e2'
  have e3' : dru = c.2.2 := e3
  subst e3'
  obtain ⟨⟨⟨a1, a2⟩, a3, a4⟩, ⟨a5, a6⟩, a7, ⟨a8, a9⟩, a10, a11⟩ := h
  refine ⟨⟨⟨⟨a1, a2⟩, ⟨fun x hx => (a5 x hx).1, fun p hp => (a7 p hp).1, fun p hp => (a7 p hp).2.1, h2⟩, ⟨⟨pnw c, i4, a4, fun d => ?_⟩, ?_⟩, a10, a11⟩, fun i hi => ?_, fun p hp => ?_⟩, h3⟩
  · show (if pnw c = 0 then (2 : Int32) else nI (pwe c (d % pnw c))) = _
    by_cases z : pnw c = 0
    · rw [if_pos z, if_pos z]
    · rw [if_neg z, if_neg z]
      exact (a9 _ (Nat.mod_lt _ (by show 0 < pnw c; omega))).symm
  · by_cases z : pnr c = 0
    · obtain ⟨q1, q2⟩ := hr.2 z
      have q1' : dr.1 = pnb c := q1
      refine ⟨dr.1, by omega, a3, fun d => ?_⟩
      show (if pnb c = 0 then (-1 : Int32) else if pnr c = 0 then nI (d % pnb c) else nI (pro c (d % pnr c))) = _
      rw [q1', if_pos z]
      by_cases y : pnb c = 0
      · rw [if_pos y, if_pos y]
      · rw [if_neg y, if_neg y]
        have hm : d % pnb c < pnb c := Nat.mod_lt _ (by omega)
        have g := a8 (d % pnb c) (by show d % pnb c < dr.1; omega)
        rw [g, q2 _ hm]
    · have q := hr.1 z
      have q' : dr = c.2.1.1 := q
      subst q'
      refine ⟨pnr c, i3, a3, fun d => ?_⟩
      show (if pnb c = 0 then (-1 : Int32) else if pnr c = 0 then nI (d % pnb c) else nI (pro c (d % pnr c))) = _
      have hb := i7 0 (by omega)
      rw [if_neg (by omega), if_neg z, if_neg z]
      exact (a8 _ (Nat.mod_lt _ (by show 0 < pnr c; omega))).symm
  · by_cases z : i < pnb c
    · rw [if_pos z]
      exact (a5 i z).2
    · rw [if_neg z]
      exact a6 i (by show pnb c ≤ i; omega) hi
  · have g := (a7 p hp).2.2
    rw [g]
    exact if_pos hp
theorem c_settle {S : am_S} {t : Nat} {c : Cp} (hN : 10000 ≤ N) (ht : Ci t) (hI : CpI c) (h : CT S t c) : Rn (f_X1_settle N t S) (SE S t c) := by
  have h8 := Ci_8 ht
  obtain ⟨⟨i1, i2, i3, i4⟩, i5, i6, i7, i8⟩ := id hI
  obtain ⟨-, ⟨-, -, -, -, r6, n5, -, -⟩, -⟩ := id ht
  unfold f_X1_settle
  have h00 : ∀ p, p < pnp c → pat (cAt c 0) p = pat c p := fun p _ => by
    show (if p < 0 then atN c p else pat c p) = pat c p
    rw [if_neg (Nat.not_lt_zero p)]
  refine lp0 (fun n (s : am_S) i => b_X1_settle_2 N n t i s) (SI S t c) _ (pnp c) ?_ ?_ N S (by omega) ⟨CT_at h rfl ⟨rfl, rfl, rfl⟩ rfl h00, fun p hp => absurd hp (Nat.not_lt_zero p), Fm_rf _ _⟩
  · intro n s hs
    show Rn (b_X1_settle_2 N (n + 1) t (nI (pnp c)) s) _
    obtain ⟨s1, s2, s3⟩ := hs
    have e3 : sg s t 3 = nI (pnp c) := s1.1.1.2
    have e8 : sg s t 8 = nI (pnr c) := s1.1.2.1
    unfold b_X1_settle_2 b_X1_settle_80
    rw [e3, leT (Nat.le_refl _) (by omega), e8]
    by_cases z : pnr c = 0
    · rw [eq0T z]
      have s2' : ∀ p, p < pnp c → sg s (t + 6) p = cne (cyN c) p := s2
      refine lp0 (fun n (s' : am_S) i => b_X1_settle_61 N n t i s') (fun i s' => ∃ d : Cp, CT s' t d ∧ (pnr d = i ∧ ∀ j, j < i → pro d j = j) ∧ (d.1 = (cAt c (pnp c)).1 ∧ d.2.1.2 = c.2.1.2 ∧ d.2.2 = c.2.2) ∧ (∀ p, p < pnp c → sg s' (t + 6) p = cne (cyN c) p) ∧ Fm (twW t) S s') _ (pnb c) ?_ ?_ N s (by omega) ⟨_, s1, ⟨z, fun j hj => absurd hj (Nat.not_lt_zero j)⟩, ⟨rfl, rfl, rfl⟩, s2, s3⟩
      · intro n s' hs'
        show Rn (b_X1_settle_61 N (n + 1) t (nI (pnb c)) s') _
        obtain ⟨d, d1, d2, d3, d4, d5⟩ := hs'
        have e0 : sg s' t 0 = nI (pnb c) := by rw [d1.1.1.1]; unfold pnb; rw [d3.1]; rfl
        unfold b_X1_settle_61 b_X1_settle_80
        rw [e0, leT (Nat.le_refl _) (by omega)]
        exact Rn_ret (SE_of hI d1 d3.1 d3.2.1 d3.2.2 d4 d5 ⟨fun q => absurd z q, fun _ => d2⟩)
      · intro n i s' hi hs' ih
        show Rn (b_X1_settle_61 N (n + 1) t (nI i) s') _
        obtain ⟨d, d1, d2, d3, d4, d5⟩ := hs'
        have e0 : sg s' t 0 = nI (pnb c) := by rw [d1.1.1.1]; unfold pnb; rw [d3.1]; rfl
        unfold b_X1_settle_61
        rw [e0, leF (by omega) (by omega), nI1]
        have hd : pnr d < 8 := by have := d2.1; omega
        refine Rn_bv (Rn_mono (Rn_nd (c_addR (v := i) ht hd d1) (c_addRf (v := i) ht hd d1)) (fun s2 g => ?_))
        refine ih s2 ⟨adR d i, g.1.1, ⟨by show pnr d + 1 = i + 1; rw [d2.1], fun j hj => ?_⟩, ⟨d3.1, d3.2.1, d3.2.2⟩, fun p hp => (g.2.1 _ _ (by omega)).trans (d4 p hp), Fm_tr d5 g.1.2⟩
        show upf (pro d) (pnr d) i j = j
        by_cases y : j = i
        · rw [d2.1, y, upf_e]
        · rw [d2.1, upf_n y]
          exact d2.2 j (by omega)
    · rw [eq0F (by omega) (by omega)]
      exact Rn_ret (SE_of hI s1 rfl rfl rfl s2 s3 ⟨fun _ => rfl, fun q => absurd q z⟩)
  · intro n i s hi hs ih
    show Rn (b_X1_settle_2 N (n + 1) t (nI i) s) _
    obtain ⟨s1, s2, s3⟩ := hs
    have e3 : sg s t 3 = nI (pnp c) := s1.1.1.2
    have e5 : sg s (t + 5) i = pat c i := (s1.2.2.1 i hi).2.2.trans (if_neg (Nat.lt_irrefl i))
    unfold b_X1_settle_2
    rw [e3, leF (by omega) (by omega), r6, n5, inbT (by omega) (by omega), nIc (by omega), e5]
    by_cases z : pat c i < nI (pnp c)
    · rw [if_pos z]
      refine c_set30 hN ht hI hi (CT_at s1 rfl ⟨rfl, rfl, rfl⟩ rfl (fun p hp => ?_)) s2 s3 ih
      show (if p < i + 1 then atN c p else pat c p) = (if p < i then atN c p else pat c p)
      by_cases y : p = i
      · subst y
        rw [if_pos (by omega), if_neg (by omega)]
        exact if_pos z
      · by_cases w : p < i
        · rw [if_pos w, if_pos (by omega)]
        · rw [if_neg w, if_neg (by omega)]
    · rw [if_neg z, inbT (by omega) (by omega)]
      refine c_set30 hN ht hI hi (CT_at (CT_w5 (i := i) (v := -1) ht s1) rfl ⟨rfl, rfl, rfl⟩ rfl (fun p hp => ?_)) (fun p hp => by rw [sgn (by omega)]; exact s2 p hp) (Fm_sp s3 (by unfold twW; omega)) ih
      show (if p < i + 1 then atN c p else pat c p) = wr (fun p => if p < i then atN c p else pat c p) i (-1) p
      by_cases y : p = i
      · subst y
        rw [if_pos (by omega), wr_eq]
        exact if_neg z
      · rw [wr_ne y]
        by_cases w : p < i
        · rw [if_pos w, if_pos (by omega)]
        · rw [if_neg w, if_neg (by omega)]
end
