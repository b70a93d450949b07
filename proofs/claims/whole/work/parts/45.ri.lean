/-! loops; what is so of every row -/
theorem lp_rn {σ β : Type} (B : Nat → σ → Int32 → Option β) (I : Nat → σ → Prop) (Q : β → Prop) (m : Nat) (h0 : ∀ n s, I m s → Rn (B (n + 1) s (nI m)) Q) (h1 : ∀ n i s, i < m → I i s → (∀ s', I (i + 1) s' → Rn (B n s' (nI (i + 1))) Q) → Rn (B (n + 1) s (nI i)) Q) : ∀ (d n i : Nat) (s : σ), i + d = m → d < n → I i s → Rn (B n s (nI i)) Q := by
  intro d
  induction d with
  | zero =>
    intro n i s hi hn hI
    cases n with
    | zero => omega
    | succ n =>
      have hm : i = m := by omega
      subst hm
      exact h0 n s hI
  | succ d ih =>
    intro n i s hi hn hI
    cases n with
    | zero => omega
    | succ n => exact h1 n i s (by omega) hI (fun s' hs' => ih n (i + 1) s' (by omega) (by omega) hs')
theorem lp0 {σ β : Type} (B : Nat → σ → Int32 → Option β) (I : Nat → σ → Prop) (Q : β → Prop) (m : Nat) (h0 : ∀ n s, I m s → Rn (B (n + 1) s (nI m)) Q) (h1 : ∀ n i s, i < m → I i s → (∀ s', I (i + 1) s' → Rn (B n s' (nI (i + 1))) Q) → Rn (B (n + 1) s (nI i)) Q) (n : Nat) (s : σ) (hn : m < n) (hI : I 0 s) : Rn (B n s 0) Q := lp_rn B I Q m h0 h1 m n 0 s (by omega) hn hI
def itr {α : Type} (f : Nat → α → α) : Nat → α → α
  | 0, a => a
  | n + 1, a => f n (itr f n a)
theorem lp_eq {α β : Type} (B : Nat → α → Int32 → Option β) (f : Nat → α → α) (g : α → Option β) (m : Nat) (P : Nat → α → Prop) (a : α) (hp : P 0 a) (hs : ∀ i b, i < m → P i b → P (i + 1) (f i b)) (h0 : ∀ n b, P m b → B (n + 1) b (nI m) = g b) (h1 : ∀ n i b, i < m → P i b → B (n + 1) b (nI i) = B n (f i b) (nI (i + 1))) (n : Nat) (hn : m < n) : B n a 0 = g (itr f m a) := by
  have key : ∀ (d n i : Nat) , i + d = m → d < n → P i (itr f i a) → B n (itr f i a) (nI i) = g (itr f m a) := by
    intro d
    induction d with
    | zero =>
      intro n i hi hn hI
      cases n with
      | zero => omega
      | succ n =>
        have hm : i = m := by omega
        subst hm
        exact h0 n _ hI
    | succ d ih =>
      intro n i hi hn hI
      cases n with
      | zero => omega
      | succ n =>
        rw [h1 n i _ (by omega) hI]
        exact ih n (i + 1) (by omega) (by omega) (hs i _ (by omega) hI)
  exact key m n 0 (by omega) hn hp
theorem itr_P {α : Type} {f : Nat → α → α} {m : Nat} {P : Nat → α → Prop} {a : α} (hp : P 0 a) (hs : ∀ i b, i < m → P i b → P (i + 1) (f i b)) : P m (itr f m a) := by
  have key : ∀ i, i ≤ m → P i (itr f i a) := by
    intro i
    induction i with
    | zero => intro _; exact hp
    | succ i ih => intro hi; exact hs i _ (by omega) (ih (by omega))
  exact key m (Nat.le_refl _)
/-- a loop that may end ahead -/
def itx {α β : Type} (f : Nat → α → α ⊕ β) : Nat → Nat → α → α ⊕ β
  | 0, _, a => .inl a
  | k + 1, i, a => match f i a with
    | .inl a' => itx f k (i + 1) a'
    | .inr b => .inr b
theorem lp_ex {α β γ : Type} (B : Nat → α → Int32 → Option γ) (f : Nat → α → α ⊕ β) (g : α → Option γ) (h : β → Option γ) (m : Nat) (P : Nat → α → Prop) (hs : ∀ i b b', i < m → P i b → f i b = .inl b' → P (i + 1) b') (h0 : ∀ n b, P m b → B (n + 1) b (nI m) = g b) (h1 : ∀ n i b b', i < m → P i b → f i b = .inl b' → B (n + 1) b (nI i) = B n b' (nI (i + 1))) (h2 : ∀ n i b c, i < m → P i b → f i b = .inr c → B (n + 1) b (nI i) = h c) : ∀ (d n i : Nat) (a : α), i + d = m → d < n → P i a → B n a (nI i) = match itx f d i a with
    | .inl a' => g a'
    | .inr b => h b := by
  intro d
  induction d with
  | zero =>
    intro n i a hi hn hI
    cases n with
    | zero => omega
    | succ n =>
      have hm : i = m := by omega
      subst hm
      exact h0 n _ hI
  | succ d ih =>
    intro n i a hi hn hI
    cases n with
    | zero => omega
    | succ n =>
      unfold itx
      cases hf : f i a with
      | inl a' =>
        rw [h1 n i a a' (by omega) hI hf]
        exact ih n (i + 1) a' (by omega) (by omega) (hs i a a' (by omega) hI hf)
      | inr b => exact h2 n i a b (by omega) hI hf
/-- numbers kept in bounds -/
def Bd (v : Int32) (m : Int) : Prop := 0 ≤ v.toInt ∧ v.toInt ≤ m
theorem jmin_t (a b : Int32) : (jmin a b).toInt = if b.toInt < a.toInt then b.toInt else a.toInt := by
  unfold jmin
  simp only [Int32.lt_iff_toInt_lt]
  split <;> rfl
theorem jmax_t (a b : Int32) : (jmax a b).toInt = if a.toInt < b.toInt then b.toInt else a.toInt := by
  unfold jmax
  simp only [Int32.lt_iff_toInt_lt]
  split <;> rfl
theorem jmin_b {m a b : Int32} {x y : Int} (ha : Bd a x) (hb : Bd b y) (hm : 0 ≤ m.toInt) (hx : x ≤ 10000) (hy : y ≤ 10000) : Bd (jmin m (a + b)) m.toInt := by
  obtain ⟨a1, a2⟩ := ha
  obtain ⟨b1, b2⟩ := hb
  have h : (a + b).toInt = a.toInt + b.toInt := tA (by omega) (by omega)
  unfold Bd
  rw [jmin_t, h]
  split <;> omega
theorem jmax_b {a b : Int32} {x : Int} (ha : Bd a x) (hb : Bd b x) (hx : x ≤ 10000) : Bd (jmax 0 (a - b)) x := by
  obtain ⟨a1, a2⟩ := ha
  obtain ⟨b1, b2⟩ := hb
  have h : (a - b).toInt = a.toInt - b.toInt := tS (by omega) (by omega)
  unfold Bd
  rw [jmax_t, h, t0]
  split <;> omega
theorem cl_b {v m : Int32} (hm : 0 ≤ m.toInt) : Bd (cl v 0 m) m.toInt := by
  unfold cl Bd
  simp only [Int32.le_iff_toInt_le, t0]
  split
  · split <;> omega
  · rw [t0]
    omega
theorem tho_b {c : Cy} {r : Nat → Int32} {p x : Nat} (hI : CI c) (hp : p < cnp c) : Bd (tho c r p x) 9 := by
  unfold tho
  cases hc : cth c with
  | none => exact hI.2.1.2.2 p hp
  | some P => exact cl_b (m := 9) (by decide)
theorem snd_b {c : Cy} {wet : Int32} {r : Nat → Int32} {x : Nat} {much : Int32} {q : Nat} : Bd (snd_ c wet r x much q) 99 := cl_b (m := 99) (by decide)
/-- one place of a row changed -/
theorem RI_hd {c : Cy} {r : Nat → Int32} {x p : Nat} {v : Int32} (h : RI c r) (hI : CI c) (hx : x < cnb c) (hp : p < cnp c) (hv : Bd v 99) : RI c (wr r (8 + 8 * x + p) v) := by
  obtain ⟨⟨h6, h8⟩, -⟩ := hI
  obtain ⟨⟨d, a0, a1⟩, a2, a3, a4, a5, a6⟩ := h
  refine ⟨⟨d, a0, ?_⟩, ?_, fun y hy => ?_, fun y q hy hq => ?_, fun q hq => ?_, fun q hq => ?_⟩
  · rw [wr_ne (by omega)]; exact a1
  · rw [wr_ne (by omega)]; exact a2
  · rw [wr_ne (by omega)]; exact a3 y hy
  · by_cases e : 8 + 8 * y + q = 8 + 8 * x + p
    · rw [e, wr_eq]
      exact ⟨hv, fun z => by omega⟩
    · rw [wr_ne e]; exact a4 y q hy hq
  · rw [wr_ne (by omega), wr_ne (by omega)]; exact a5 q hq
  · rw [wr_ne (by omega)]; exact a6 q hq
theorem RI_rg {c : Cy} {r : Nat → Int32} {p : Nat} {v : Int32} (h : RI c r) (hI : CI c) (hp : p < cnp c) (hv : Bd v 999) : RI c (wr r (56 + p) v) := by
  obtain ⟨⟨h6, h8⟩, -⟩ := hI
  obtain ⟨⟨d, a0, a1⟩, a2, a3, a4, a5, a6⟩ := h
  refine ⟨⟨d, a0, ?_⟩, ?_, fun y hy => ?_, fun y q hy hq => ?_, fun q hq => ?_, fun q hq => ?_⟩
  · rw [wr_ne (by omega)]; exact a1
  · rw [wr_ne (by omega)]; exact a2
  · rw [wr_ne (by omega)]; exact a3 y hy
  · rw [wr_ne (by omega)]; exact a4 y q hy hq
  · rw [wr_ne (i := 64 + q) (by omega)]
    by_cases e : 56 + q = 56 + p
    · rw [e, wr_eq]
      exact ⟨⟨hv, fun z => by omega⟩, (a5 q hq).2⟩
    · rw [wr_ne e]; exact a5 q hq
  · rw [wr_ne (by omega)]; exact a6 q hq
theorem RI_he {c : Cy} {r : Nat → Int32} {p : Nat} {v : Int32} (h : RI c r) (hI : CI c) (hp : p < cnp c) (hv : Bd v 9999) : RI c (wr r (64 + p) v) := by
  obtain ⟨⟨h6, h8⟩, -⟩ := hI
  obtain ⟨⟨d, a0, a1⟩, a2, a3, a4, a5, a6⟩ := h
  refine ⟨⟨d, a0, ?_⟩, ?_, fun y hy => ?_, fun y q hy hq => ?_, fun q hq => ?_, fun q hq => ?_⟩
  · rw [wr_ne (by omega)]; exact a1
  · rw [wr_ne (by omega)]; exact a2
  · rw [wr_ne (by omega)]; exact a3 y hy
  · rw [wr_ne (by omega)]; exact a4 y q hy hq
  · rw [wr_ne (i := 56 + q) (by omega)]
    by_cases e : 64 + q = 64 + p
    · rw [e, wr_eq]
      exact ⟨(a5 q hq).1, ⟨hv, fun z => by omega⟩⟩
    · rw [wr_ne e]; exact a5 q hq
  · rw [wr_ne (by omega)]; exact a6 q hq
theorem RI_rd {c : Cy} {r : Nat → Int32} {x : Nat} {v : Int32} (h : RI c r) (hI : CI c) (hx : x < cnb c) (hv : Bd v 99) : RI c (wr r (2 + x) v) := by
  obtain ⟨⟨h6, h8⟩, -⟩ := hI
  obtain ⟨⟨d, a0, a1⟩, a2, a3, a4, a5, a6⟩ := h
  refine ⟨⟨d, a0, ?_⟩, ?_, fun y hy => ?_, fun y q hy hq => ?_, fun q hq => ?_, fun q hq => ?_⟩
  · rw [wr_ne (by omega)]; exact a1
  · rw [wr_ne (by omega)]; exact a2
  · by_cases e : 2 + y = 2 + x
    · rw [e, wr_eq]
      exact ⟨hv, fun z => by omega⟩
    · rw [wr_ne e]; exact a3 y hy
  · rw [wr_ne (by omega)]; exact a4 y q hy hq
  · rw [wr_ne (by omega), wr_ne (by omega)]; exact a5 q hq
  · rw [wr_ne (by omega)]; exact a6 q hq
theorem RI_at {c : Cy} {r : Nat → Int32} {p : Nat} {v : Int32} (h : RI c r) (hI : CI c) (hv : v = -1 ∨ ∃ q, q < cnp c ∧ v = nI q) : RI c (wr r (72 + p) v) := by
  obtain ⟨⟨h6, h8⟩, -⟩ := hI
  obtain ⟨⟨d, a0, a1⟩, a2, a3, a4, a5, a6⟩ := h
  refine ⟨⟨d, a0, ?_⟩, ?_, fun y hy => ?_, fun y q hy hq => ?_, fun q hq => ?_, fun q hq => ?_⟩
  · rw [wr_ne (by omega)]; exact a1
  · rw [wr_ne (by omega)]; exact a2
  · rw [wr_ne (by omega)]; exact a3 y hy
  · rw [wr_ne (by omega)]; exact a4 y q hy hq
  · rw [wr_ne (by omega), wr_ne (by omega)]; exact a5 q hq
  · by_cases e : 72 + q = 72 + p
    · rw [e, wr_eq]
      exact hv
    · rw [wr_ne e]; exact a6 q hq
theorem RI_day {c : Cy} {r : Nat → Int32} {d : Nat} (h : RI c r) (hd : d < 5000) : RI c (wr r 0 (nI d)) := by
  obtain ⟨-, a2, a3, a4, a5, a6⟩ := h
  refine ⟨⟨d, hd, wr_eq _ _ _⟩, ?_, fun y hy => ?_, fun y q hy hq => ?_, fun q hq => ?_, fun q hq => ?_⟩
  · rw [wr_ne (by omega)]; exact a2
  · rw [wr_ne (by omega)]; exact a3 y hy
  · rw [wr_ne (by omega)]; exact a4 y q hy hq
  · rw [wr_ne (by omega), wr_ne (by omega)]; exact a5 q hq
  · rw [wr_ne (by omega)]; exact a6 q hq
theorem RI_st {c : Cy} {r : Nat → Int32} {v : Int32} (h : RI c r) (hv : v = 0 ∨ v = 1) : RI c (wr r 1 v) := by
  obtain ⟨a1, a2, a3, a4, a5, a6⟩ := h
  refine ⟨?_, ?_, fun y hy => ?_, fun y q hy hq => ?_, fun q hq => ?_, fun q hq => ?_⟩
  · rw [wr_ne (by omega)]; exact a1
  · rw [wr_eq]; exact hv
  · rw [wr_ne (by omega)]; exact a3 y hy
  · rw [wr_ne (by omega)]; exact a4 y q hy hq
  · rw [wr_ne (by omega), wr_ne (by omega)]; exact a5 q hq
  · rw [wr_ne (by omega)]; exact a6 q hq
/-- a day keeps it -/
theorem RI_d1 {c : Cy} {r : Nat → Int32} {p : Nat} (hI : CI c) (h : RI c r) (hp : p < cnp c) : RI c (d1 c r p) := by
  have hnb := hI.1.1
  have hnp := hI.1.2
  rcases cne_in (p := p) hI with q | ⟨x, hx, q⟩
  · rw [d1_ne q]; exact h
  · rw [d1_eq q (by omega)]
    exact RI_rg (RI_hd h hI hx hp (jmin_b (m := 99) (h.2.2.2.1 x p (by omega) (by omega)).1 (tho_b hI hp) (by decide) (by decide) (by decide))) hI hp (jmin_b (m := 999) (h.2.2.2.2.1 p (by omega)).1.1 (tho_b hI hp) (by decide) (by decide) (by decide))
theorem RI_d1s {c : Cy} {r : Nat → Int32} (hI : CI c) (h : RI c r) : ∀ n, n ≤ cnp c → RI c (d1s c r n) := by
  intro n
  induction n with
  | zero => intro _; exact h
  | succ n ih => intro hn; exact RI_d1 hI (ih (by omega)) (by omega)
theorem d1_low {c : Cy} {r : Nat → Int32} {p j : Nat} (hj : j < 8 ∨ 64 ≤ j) (hI : CI c) (hp : p < cnp c) : d1 c r p j = r j := by
  have hnb := hI.1.1
  have hnp := hI.1.2
  rcases cne_in (p := p) hI with q | ⟨x, hx, q⟩
  · rw [d1_ne q]
  · rw [d1_eq q (by omega), wr_ne (by omega), wr_ne (by omega)]
theorem d1s_low {c : Cy} {r : Nat → Int32} {j : Nat} (hj : j < 8 ∨ 64 ≤ j) (hI : CI c) : ∀ n, n ≤ cnp c → d1s c r n j = r j := by
  intro n
  induction n with
  | zero => intro _; rfl
  | succ n ih =>
    intro hn
    show d1 c (d1s c r n) n j = r j
    rw [d1_low hj hI (by omega), ih (by omega)]
theorem RI_d2a {c : Cy} {wet : Int32} {x p : Nat} {r : Nat → Int32} (hI : CI c) (h : RI c r) (hp : p < cnp c) : RI c (d2a c wet x r p) := by
  have hnb := hI.1.1
  have hnp := hI.1.2
  unfold d2a
  rcases h.2.2.2.2.2 p hp with q | ⟨o, ho, q⟩
  · rw [if_pos q]; exact h
  · rw [q, if_neg (nIn (by omega))]
    show RI c (wr r (64 + (nI o).toNatClampNeg) _)
    rw [nIc (by omega)]
    exact RI_he h hI ho (jmin_b (m := 9999) (h.2.2.2.2.1 o (by omega)).2.1 snd_b (by decide) (by decide) (by decide))
theorem d2a_low {c : Cy} {wet : Int32} {x p j : Nat} {r : Nat → Int32} (hj : j < 64 ∨ 72 ≤ j) (hI : CI c) (h : RI c r) (hp : p < cnp c) : d2a c wet x r p j = r j := by
  have hnb := hI.1.1
  have hnp := hI.1.2
  unfold d2a
  rcases h.2.2.2.2.2 p hp with q | ⟨o, ho, q⟩
  · rw [if_pos q]
  · rw [q, if_neg (nIn (by omega))]
    show wr r (64 + (nI o).toNatClampNeg) _ j = _
    rw [nIc (by omega), wr_ne (by omega)]
theorem RI_d2 {c : Cy} {wet : Int32} {x p : Nat} {r : Nat → Int32} (hI : CI c) (h : RI c r) (hx : x < cnb c) (hp : p < cnp c) : RI c (d2 c wet x r p) := by
  have hnb := hI.1.1
  have hnp := hI.1.2
  unfold d2
  split
  · exact h
  · have h2 := RI_d2a (wet := wet) (x := x) hI h hp
    have e1 := (h2.2.2.2.1 x p (by omega) (by omega)).1
    exact RI_hd (RI_rg h2 hI hp (jmax_b (h2.2.2.2.2.1 p (by omega)).1.1 ⟨e1.1, by omega⟩ (by decide))) hI hx hp ⟨by decide, by decide⟩
theorem RI_d2s {c : Cy} {wet : Int32} {x : Nat} {r : Nat → Int32} (hI : CI c) (h : RI c r) (hx : x < cnb c) : ∀ n, n ≤ cnp c → RI c (d2s c wet x r n) := by
  intro n
  induction n with
  | zero => intro _; exact h
  | succ n ih => intro hn; exact RI_d2 hI (ih (by omega)) hx (by omega)
theorem d2_low {c : Cy} {wet : Int32} {x p j : Nat} {r : Nat → Int32} (hj : j < 8 ∨ 72 ≤ j) (hI : CI c) (h : RI c r) (hx : x < cnb c) (hp : p < cnp c) : d2 c wet x r p j = r j := by
  have hnb := hI.1.1
  have hnp := hI.1.2
  unfold d2
  split
  · rfl
  · rw [wr_ne (by omega), wr_ne (by omega), d2a_low (by omega) hI h hp]
theorem d2s_low {c : Cy} {wet : Int32} {x j : Nat} {r : Nat → Int32} (hj : j < 8 ∨ 72 ≤ j) (hI : CI c) (h : RI c r) (hx : x < cnb c) : ∀ n, n ≤ cnp c → d2s c wet x r n j = r j := by
  intro n
  induction n with
  | zero => intro _; rfl
  | succ n ih =>
    intro hn
    show d2 c wet x (d2s c wet x r n) n j = r j
    rw [d2_low hj hI (RI_d2s hI h hx n (by omega)) hx (by omega), ih (by omega)]
theorem RI_d3 {c : Cy} {x : Nat} {r : Nat → Int32} (hI : CI c) (h : RI c r) (hx : x < cnb c) : RI c (d3 r x) := by
  have hnb := hI.1.1
  unfold d3
  split
  · exact h
  · rename_i q
    split
    · exact h
    · refine RI_rd h hI hx ?_
      obtain ⟨e1, e2⟩ := (h.2.2.1 x (by omega)).1
      have e3 : ¬ (r (2 + x)).toInt ≤ 0 := fun z => q (Int32.le_iff_toInt_le.mpr z)
      have e4 : (r (2 + x) - 1).toInt = (r (2 + x)).toInt - (1 : Int32).toInt := tS (by rw [t1]; omega) (by rw [t1]; omega)
      unfold Bd
      rw [e4, t1]
      omega
theorem RI_d3s {c : Cy} {r : Nat → Int32} (hI : CI c) (h : RI c r) : ∀ n, n ≤ cnb c → RI c (d3s r n) := by
  intro n
  induction n with
  | zero => intro _; exact h
  | succ n ih => intro hn; exact RI_d3 hI (ih (by omega)) (by omega)
theorem d3_low {r : Nat → Int32} {x j : Nat} (hj : ¬ j = 2 + x) : d3 r x j = r j := by
  unfold d3
  split
  · rfl
  · split
    · rfl
    · rw [wr_ne hj]
theorem d3s_low {r : Nat → Int32} {j : Nat} : ∀ n, n ≤ 6 → j < 2 ∨ 8 ≤ j → d3s r n j = r j := by
  intro n
  induction n with
  | zero => intro _ _; rfl
  | succ n ih =>
    intro hn hj
    show d3 (d3s r n) n j = r j
    rw [d3_low (by omega), ih (by omega) hj]
def Vi (c : Cy) (vis : Int32) : Prop := vis = -1 ∨ ∃ x, x < cnb c ∧ vis = nI x
theorem day_in {c : Cy} {wet vis : Int32} {r : Nat → Int32} {d : Nat} (hI : CI c) (h : RI c r) (hv : Vi c vis) (hd : r 0 = nI d) (hd2 : d < 4999) : RI c (day_ c wet vis r) ∧ day_ c wet vis r 0 = nI (d + 1) ∧ day_ c wet vis r 1 = r 1 ∧ ∀ p, day_ c wet vis r (72 + p) = r (72 + p) := by
  have hnb := hI.1.1
  have hnp := hI.1.2
  have h1 := RI_d1s hI h (cnp c) (Nat.le_refl _)
  have key : ∀ rb, RI c rb → rb 0 = r 0 → rb 1 = r 1 → (∀ p, rb (72 + p) = r (72 + p)) → RI c (wr (d3s rb (cnb c)) 0 (d3s rb (cnb c) 0 + 1)) ∧ wr (d3s rb (cnb c)) 0 (d3s rb (cnb c) 0 + 1) 0 = nI (d + 1) ∧ wr (d3s rb (cnb c)) 0 (d3s rb (cnb c) 0 + 1) 1 = r 1 ∧ ∀ p, wr (d3s rb (cnb c)) 0 (d3s rb (cnb c) 0 + 1) (72 + p) = r (72 + p) := by
    intro rb hb e0 e1 e2
    have q0 : d3s rb (cnb c) 0 + 1 = nI (d + 1) := by rw [d3s_low _ hnb (by omega), e0, hd, nI1]
    rw [q0]
    refine ⟨RI_day (RI_d3s hI hb _ (Nat.le_refl _)) (by omega), wr_eq _ _ _, ?_, fun p => ?_⟩
    · rw [wr_ne (by omega), d3s_low _ hnb (by omega), e1]
    · rw [wr_ne (by omega), d3s_low _ hnb (by omega), e2]
  show RI c (wr (d3s (if fet c vis r = true then _ else _) (cnb c)) 0 _) ∧ _
  unfold day_
  by_cases hf : fet c vis r = true
  · simp only [hf, if_true]
    rcases hv with hv | ⟨x, hx, hv⟩
    · exfalso
      unfold fet at hf
      rw [hv] at hf
      simp at hf
    · rw [hv, nIc (by omega)]
      refine key _ (RI_d2s hI h1 hx _ (Nat.le_refl _)) ?_ ?_ (fun p => ?_)
      · rw [d2s_low (by omega) hI h1 hx _ (Nat.le_refl _), d1s_low (by omega) hI _ (Nat.le_refl _)]
      · rw [d2s_low (by omega) hI h1 hx _ (Nat.le_refl _), d1s_low (by omega) hI _ (Nat.le_refl _)]
      · rw [d2s_low (by omega) hI h1 hx _ (Nat.le_refl _), d1s_low (by omega) hI _ (Nat.le_refl _)]
  · simp only [if_neg hf]
    refine key _ h1 ?_ ?_ (fun p => ?_)
    · rw [d1s_low (by omega) hI _ (Nat.le_refl _)]
    · rw [d1s_low (by omega) hI _ (Nat.le_refl _)]
    · rw [d1s_low (by omega) hI _ (Nat.le_refl _)]
