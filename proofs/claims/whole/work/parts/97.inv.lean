/-! what a line keeps -/
section
def Mv (b : Tx) (x y : Ft) : Prop := TkG b x.2 → TkG b y.2 ∧ x.2.1 ≤ y.2.1
theorem Mv_t {b : Tx} {x y z : Ft} (h : Mv b x y) (h' : Mv b y z) : Mv b x z := fun q => ⟨(h' (h q).1).1, Nat.le_trans (h q).2 (h' (h q).1).2⟩
theorem Mv_r {b : Tx} {x y : Ft} (h : y.2 = x.2) : Mv b x y := fun q => by rw [h]; exact ⟨q, Nat.le_refl _⟩
theorem Mv_S {b : Tx} {x : Ft} : Mv b x (aS b x) := fun q => by
  by_cases z : x.1 = 0
  · rw [aS0 z]
    have h1 := tLo (tk_I (b := b) (G_hi q).2)
    have h2 := (G_hi q).1
    exact ⟨G_tk q, by show x.2.1 ≤ (tk b x.2.2.1).1; omega⟩
  · rw [aSf z]
    exact ⟨q, Nat.le_refl _⟩
theorem Mv_F {b : Tx} {k : Nat} {x : Ft} : Mv b x (aF k x) := Mv_r (aF_2 k x)
theorem Mv_N {b : Tx} {m : Nat} {x : Ft} : Mv b x (aN b m x) := by
  unfold aN
  refine Mv_t ?_ Mv_S
  repeat' split
  · exact Mv_r rfl
  · exact Mv_F
  · exact Mv_F
theorem Mv_box {b : Tx} {x : Ft} {c : Cp} : Mv b x (sBox b x c).1 := by
  unfold sBox
  refine Mv_t (Mv_t (Mv_t ?_ Mv_S) Mv_N) Mv_N
  split
  · exact Mv_r rfl
  · exact Mv_F
theorem Mv_per {b : Tx} {x : Ft} {c : Cp} : Mv b x (sPer b x c).1 := by
  show Mv b x (y6 b x c)
  have h2 : Mv b x (y2 b x c) := by
    unfold y2
    refine Mv_t ?_ Mv_S
    split
    · exact Mv_r rfl
    · exact Mv_F
  have h4 : Mv b x (y4 b x c) := Mv_t (Mv_t h2 Mv_N) Mv_N
  unfold y6
  split
  · refine Mv_t h4 (Mv_t ?_ Mv_N)
    unfold y5
    split
    · exact Mv_t Mv_S Mv_F
    · exact Mv_S
  · exact h4
theorem Mv_rowR {b : Tx} : ∀ n x c, Mv b x (rowR b n x c).1 := by
  intro n
  induction n with
  | zero => intro x c; exact Mv_r rfl
  | succ n ih =>
    intro x c
    have h1 : Mv b x (aN b 9999 (rR1 b x c)) := Mv_t (Mv_r (rR1_2 b x c)) Mv_N
    unfold rowR
    repeat' split
    · exact Mv_t h1 (ih _ _)
    · exact h1
    · exact h1
theorem Mv_rowW {b : Tx} : ∀ n x c, Mv b x (rowW b n x c).1 := by
  intro n
  induction n with
  | zero => intro x c; exact Mv_r rfl
  | succ n ih =>
    intro x c
    have h1 : Mv b x (aN b 9 (rW1 x c)) := Mv_t (Mv_r (rW1_2 x c)) Mv_N
    unfold rowW
    repeat' split
    · exact Mv_t h1 (ih _ _)
    · exact h1
    · exact h1
theorem Mv_5 {b : Tx} {x : Ft} {n : Nat} : Mv b x (aS b (if 0 < n then aF 5 x else x)) := by
  refine Mv_t ?_ Mv_S
  split
  · exact Mv_F
  · exact Mv_r rfl
theorem Mv_rou {b : Tx} {x : Ft} {c : Cp} : Mv b x (sRou b x c).1 := by
  have h5 := Mv_5 (b := b) (x := x) (n := pnr c)
  unfold sRou
  generalize aS b (if 0 < pnr c then aF 5 x else x) = z at *
  split
  · exact Mv_t h5 (Mv_rowR _ _ _)
  · exact h5
theorem Mv_wet {b : Tx} {x : Ft} {c : Cp} : Mv b x (sWet b x c).1 := by
  have h5 := Mv_5 (b := b) (x := x) (n := pnw c)
  unfold sWet
  generalize aS b (if 0 < pnw c then aF 5 x else x) = z at *
  split
  · exact Mv_t h5 (Mv_rowW _ _ _)
  · exact h5
theorem I_adB {c : Cp} {v r : Nat} (hI : CpI c) (hn : pnb c < 6) (hv : v ≤ 30) (hr : r ≤ 99) : CpI (adB c v r) := by
  obtain ⟨⟨i1, i2, i3, i4⟩, i5, i6, i7, i8⟩ := hI
  refine ⟨⟨hn, i2, i3, i4⟩, fun i hi => ?_, i6, fun i hi => Nat.lt_succ_of_lt (i7 i hi), i8⟩
  have hi' : i < pnb c + 1 := hi
  show upf (pba c) (pnb c) v i ≤ 30 ∧ upf (prd c) (pnb c) r i ≤ 99
  by_cases q : i = pnb c
  · rw [q, upf_e, upf_e]
    exact ⟨hv, hr⟩
  · rw [upf_n q, upf_n q]
    exact i5 i (by omega)
theorem I_adP {c : Cp} {v r : Nat} {w : Int32} (hI : CpI c) (hn : pnp c < 8) (hv : v ≤ 30) (hr : r ≤ 9) (hw : w = -1 ∨ ∃ q, q ≤ 7 ∧ w = nI q) : CpI (adP c v r w) := by
  obtain ⟨⟨i1, i2, i3, i4⟩, i5, i6, i7, i8⟩ := hI
  refine ⟨⟨i1, hn, i3, i4⟩, i5, fun i hi => ?_, i7, i8⟩
  have hi' : i < pnp c + 1 := hi
  show upf (ppa c) (pnp c) v i ≤ 30 ∧ upf (ppe c) (pnp c) r i ≤ 9 ∧ (wr (pat c) (pnp c) w i = -1 ∨ ∃ q, q ≤ 7 ∧ wr (pat c) (pnp c) w i = nI q)
  by_cases q : i = pnp c
  · rw [q, upf_e, upf_e, wr_eq]
    exact ⟨hv, hr, hw⟩
  · rw [upf_n q, upf_n q, wr_ne q]
    exact i6 i (by omega)
theorem I_box {b : Tx} {x : Ft} {c : Cp} (hI : CpI c) (hx : x.1 = 0) : CpI (sBox b x c).2 := by
  by_cases z : (aN b 99 (aN b 30 (aS b (if pnb c < 6 then x else aF 2 x)))).1 = 0
  · have e : (sBox b x c).2 = adB c (num b (aS b (if pnb c < 6 then x else aF 2 x)).2) (num b (aN b 30 (aS b (if pnb c < 6 then x else aF 2 x))).2) := if_pos z
    rw [e]
    obtain ⟨a1, a2, a3⟩ := aN_0 z
    obtain ⟨b1, b2, b3⟩ := aN_0 a1
    refine I_adB hI ?_ b3 a3
    refine Classical.byContradiction (fun q => ?_)
    rw [if_neg q, aSf (aF_n (by omega) hx)] at b1
    exact aF_n (by omega) hx b1
  · have e : (sBox b x c).2 = c := if_neg z
    rw [e]
    exact hI
theorem I_per {b : Tx} {x : Ft} {c : Cp} (hI : CpI c) : CpI (sPer b x c).2 := by
  by_cases z : (y6 b x c).1 = 0
  · have e : (sPer b x c).2 = adP c (num b (y2 b x c).2) (num b (aN b 30 (y2 b x c)).2) (yAt b x c) := if_pos z
    rw [e]
    obtain ⟨z4, zn⟩ := y6_0 z
    have z4' : (aN b 9 (aN b 30 (y2 b x c))).1 = 0 := z4
    obtain ⟨a1, a2, a3⟩ := aN_0 z4'
    obtain ⟨b1, b2, b3⟩ := aN_0 a1
    refine I_adP hI zn b3 a3 ?_
    by_cases q : isAt b (y4 b x c)
    · have e6 : y6 b x c = aN b 7 (y5 b (y4 b x c) (pnp c)) := if_pos q
      have eA : yAt b x c = nI (num b (y5 b (y4 b x c) (pnp c)).2) := if_pos q
      rw [e6] at z
      rw [eA]
      exact Or.inr ⟨_, (aN_0 z).2.2, rfl⟩
    · have eA : yAt b x c = -1 := if_neg q
      exact Or.inl eA
  · have e : (sPer b x c).2 = c := if_neg z
    rw [e]
    exact hI
theorem I_rowR {b : Tx} : ∀ n x c, CpI c → CpI (rowR b n x c).2 := by
  intro n
  induction n with
  | zero => intro x c h; exact h
  | succ n ih =>
    intro x c h
    unfold rowR
    split
    · rename_i z
      obtain ⟨-, -, w3, -, w5⟩ := rR1_0 z
      split
      · exact ih _ _ (ad_IR h w3 w5)
      · exact ad_IR h w3 w5
    · exact h
theorem I_rowW {b : Tx} : ∀ n x c, CpI c → CpI (rowW b n x c).2 := by
  intro n
  induction n with
  | zero => intro x c h; exact h
  | succ n ih =>
    intro x c h
    unfold rowW
    split
    · rename_i z
      obtain ⟨-, -, w3, w5⟩ := rW1_0 z
      split
      · exact ih _ _ (ad_IW h w3 w5)
      · exact ad_IW h w3 w5
    · exact h
theorem I_rou {b : Tx} {x : Ft} {c : Cp} (h : CpI c) : CpI (sRou b x c).2 := by
  unfold sRou
  generalize aS b (if 0 < pnr c then aF 5 x else x) = z at *
  split
  · exact I_rowR _ _ _ h
  · exact h
theorem I_wet {b : Tx} {x : Ft} {c : Cp} (h : CpI c) : CpI (sWet b x c).2 := by
  unfold sWet
  generalize aS b (if 0 < pnw c then aF 5 x else x) = z at *
  split
  · exact I_rowW _ _ _ h
  · exact h
theorem I_bod {b : Tx} {x : Ft} {c : Cp} (h : CpI c) (hx : x.1 = 0) : CpI (sBod b x c).2 := by
  unfold sBod
  repeat' split
  · exact I_box h hx
  · exact I_per h
  · exact I_rou h
  · exact I_wet h
  · exact h
  · exact h
  · exact h
end
