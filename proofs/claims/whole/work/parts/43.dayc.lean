/-! a city, and a day in it -/
abbrev Cy : Type := (Nat × Nat) × ((Nat → Int32) × (Nat → Int32) × (Nat → Int32)) × ((Nat → Int32) × (Nat → Int32)) × (Option Prg × Option Prg)
def cnb (c : Cy) : Nat := c.1.1
def cnp (c : Cy) : Nat := c.1.2
def cba (c : Cy) : Nat → Int32 := c.2.1.1
def cpa (c : Cy) : Nat → Int32 := c.2.1.2.1
def cpe (c : Cy) : Nat → Int32 := c.2.1.2.2
def cwe (c : Cy) : Nat → Int32 := c.2.2.1.1
def cro (c : Cy) : Nat → Int32 := c.2.2.1.2
def cth (c : Cy) : Option Prg := c.2.2.2.1
def cso (c : Cy) : Option Prg := c.2.2.2.2
def ff (a b : Int32) : Int32 := if b ≤ a then a - b else b - a
def nrs (ba : Nat → Int32) (w : Int32) : Nat → Int32
  | 0 => -1
  | n + 1 => if nrs ba w n = -1 then nI n else if ff (ba (nrs ba w n).toNatClampNeg) w ≤ ff (ba n) w then nrs ba w n else nI n
def cne (c : Cy) (p : Nat) : Int32 := nrs (cba c) (cpa c p) (cnb c)
def AT_ : Nat → Prop := fun k => k ≤ 5
def AS_ : Nat → Prop := fun k => 4 ≤ k ∧ k ≤ 8
theorem nrs_in (ba : Nat → Int32) (w : Int32) : ∀ n, n < 100 → (n = 0 ∧ nrs ba w n = -1) ∨ ∃ x, x < n ∧ nrs ba w n = nI x := by
  intro n
  induction n with
  | zero => intro _; exact Or.inl ⟨rfl, rfl⟩
  | succ n ih =>
    intro h
    unfold nrs
    rcases ih (by omega) with ⟨h1, h2⟩ | ⟨x, h1, h2⟩
    · rw [if_pos h2]
      exact Or.inr ⟨n, by omega, rfl⟩
    · rw [h2, eqmF (by omega)]
      split
      · exact Or.inr ⟨x, by omega, rfl⟩
      · exact Or.inr ⟨n, by omega, rfl⟩
/-- what is so of every city -/
def CI (c : Cy) : Prop := (cnb c ≤ 6 ∧ cnp c ≤ 8) ∧ ((∀ x, x < cnb c → 0 ≤ (cba c x).toInt ∧ (cba c x).toInt ≤ 30) ∧ (∀ p, p < cnp c → 0 ≤ (cpa c p).toInt ∧ (cpa c p).toInt ≤ 30) ∧ (∀ p, p < cnp c → 0 ≤ (cpe c p).toInt ∧ (cpe c p).toInt ≤ 9)) ∧ ((∀ d, 0 ≤ (cwe c d).toInt ∧ (cwe c d).toInt ≤ 9) ∧ (∀ d, (cnb c = 0 ∧ cro c d = -1) ∨ ∃ x, x < cnb c ∧ cro c d = nI x)) ∧ ((∀ P, cth c = some P → dp AT_ P 0 ∧ P.length ≤ 700 ∧ P ≠ []) ∧ (∀ P, cso c = some P → dp AS_ P 0 ∧ P.length ≤ 700 ∧ P ≠ []))
/-- the row of a state, in a city -/
def RI (c : Cy) (r : Nat → Int32) : Prop := (∃ d, d < 5000 ∧ r 0 = nI d) ∧ (r 1 = 0 ∨ r 1 = 1) ∧ (∀ x, x < 6 → (0 ≤ (r (2 + x)).toInt ∧ (r (2 + x)).toInt ≤ 99) ∧ (cnb c ≤ x → r (2 + x) = 0)) ∧ (∀ x p, x < 6 → p < 8 → (0 ≤ (r (8 + 8 * x + p)).toInt ∧ (r (8 + 8 * x + p)).toInt ≤ 99) ∧ (cnb c ≤ x ∨ cnp c ≤ p → r (8 + 8 * x + p) = 0)) ∧ (∀ p, p < 8 → ((0 ≤ (r (56 + p)).toInt ∧ (r (56 + p)).toInt ≤ 999) ∧ (cnp c ≤ p → r (56 + p) = 0)) ∧ ((0 ≤ (r (64 + p)).toInt ∧ (r (64 + p)).toInt ≤ 9999) ∧ (cnp c ≤ p → r (64 + p) = 0))) ∧ (∀ p, p < cnp c → r (72 + p) = -1 ∨ ∃ q, q < cnp c ∧ r (72 + p) = nI q)
def cl (v a b : Int32) : Int32 := if a ≤ v then (if v ≤ b then v else b) else a
def tvals (c : Cy) (r : Nat → Int32) (p x : Nat) : Nat → Int32 := fun k => if k = 0 then cpe c p else if k = 1 then r (56 + p) else if k = 2 then r (2 + x) else if k = 3 then hIn r x else if k = 4 then r (64 + p) else r 0
def tho (c : Cy) (r : Nat → Int32) (p x : Nat) : Int32 := match cth c with
  | none => cpe c p
  | some P => cl (ev P (tvals c r p x)) 0 9
def d1 (c : Cy) (r : Nat → Int32) (p : Nat) : Nat → Int32 := if cne c p = -1 then r else
  let x := (cne c p).toNatClampNeg
  wr (wr r (8 + 8 * x + p) (jmin 99 (r (8 + 8 * x + p) + tho c r p x))) (56 + p) (jmin 999 (r (56 + p) + tho c r p x))
def d1s (c : Cy) (r : Nat → Int32) : Nat → Nat → Int32
  | 0 => r
  | n + 1 => d1 c (d1s c r n) n
def svals (c : Cy) (wet : Int32) (r : Nat → Int32) (x : Nat) (much : Int32) (q : Nat) : Nat → Int32 := fun k => if k = 6 then much else if k = 7 then ff (cba c x) (cpa c q) else if k = 4 then r (64 + q) else if k = 8 then wet else r 0
def snd_ (c : Cy) (wet : Int32) (r : Nat → Int32) (x : Nat) (much : Int32) (q : Nat) : Int32 := cl (match cso c with
  | none => much / 2 + wet - ff (cba c x) (cpa c q) / 3
  | some P => ev P (svals c wet r x much q)) 0 99
def d2a (c : Cy) (wet : Int32) (x : Nat) (r : Nat → Int32) (p : Nat) : Nat → Int32 := if r (72 + p) = -1 then r else
  let q := (r (72 + p)).toNatClampNeg
  wr r (64 + q) (jmin 9999 (r (64 + q) + snd_ c wet r x (r (8 + 8 * x + p)) q))
def d2 (c : Cy) (wet : Int32) (x : Nat) (r : Nat → Int32) (p : Nat) : Nat → Int32 := if r (8 + 8 * x + p) = 0 then r else
  wr (wr (d2a c wet x r p) (56 + p) (jmax 0 (d2a c wet x r p (56 + p) - d2a c wet x r p (8 + 8 * x + p)))) (8 + 8 * x + p) 0
def d2s (c : Cy) (wet : Int32) (x : Nat) (r : Nat → Int32) : Nat → Nat → Int32
  | 0 => r
  | n + 1 => d2 c wet x (d2s c wet x r n) n
/-- what is fetched -/
def d2f (c : Cy) (wet : Int32) (x : Nat) (r : Nat → Int32) : Nat → Int32
  | 0 => 0
  | n + 1 => d2f c wet x r n + d2s c wet x r n (8 + 8 * x + n)
def d3 (r : Nat → Int32) (x : Nat) : Nat → Int32 := if r (2 + x) ≤ 0 then r else if hIn r x ≤ 0 then r else wr r (2 + x) (r (2 + x) - 1)
def d3s (r : Nat → Int32) : Nat → Nat → Int32
  | 0 => r
  | n + 1 => d3 (d3s r n) n
def fet (c : Cy) (vis : Int32) (r : Nat → Int32) : Bool := decide (¬ vis = -1) && decide (¬ r 1 = 1)
def day_ (c : Cy) (wet vis : Int32) (r : Nat → Int32) : Nat → Int32 :=
  let ra := d1s c r (cnp c)
  let rb := if fet c vis r = true then d2s c wet vis.toNatClampNeg ra (cnp c) else ra
  let rc := d3s rb (cnb c)
  wr rc 0 (rc 0 + 1)
def dayF (c : Cy) (wet vis : Int32) (r : Nat → Int32) : Int32 := if fet c vis r = true then d2f c wet vis.toNatClampNeg (d1s c r (cnp c)) (cnp c) else 0
/-- where a city lies in the class -/
def RuC (S : am_S) (k : Nat) : Option Prg → Prop
  | none => sg S k 1 = 0
  | some P => sg S k 1 = nI P.length ∧ stepsAt S (k + 1) 0 P
def CC (S : am_S) (t : Nat) (c : Cy) : Prop := (sg S t 0 = nI (cnb c) ∧ sg S t 3 = nI (cnp c)) ∧ ((∀ x, x < cnb c → sg S (t + 1) x = cba c x) ∧ (∀ p, p < cnp c → sg S (t + 3) p = cpa c p) ∧ (∀ p, p < cnp c → sg S (t + 4) p = cpe c p) ∧ (∀ p, p < cnp c → sg S (t + 6) p = cne c p)) ∧ ((∃ n, n ≤ 8 ∧ sg S t 10 = nI n ∧ ∀ d, cwe c d = if n = 0 then 2 else sg S (t + 8) (d % n)) ∧ (∃ n, n ≤ 8 ∧ sg S t 8 = nI n ∧ ∀ d, cro c d = if n = 0 then -1 else sg S (t + 7) (d % n))) ∧ (RuC S (t + 9) (cth c) ∧ RuC S (t + 12) (cso c))
def Ci (t : Nat) : Prop := (rf t 1 = t + 1 ∧ ln (t + 1) = 6 ∧ rf t 2 = t + 2 ∧ ln (t + 2) = 6) ∧ (rf t 4 = t + 3 ∧ ln (t + 3) = 8 ∧ rf t 5 = t + 4 ∧ ln (t + 4) = 8 ∧ rf t 6 = t + 5 ∧ ln (t + 5) = 8 ∧ rf t 7 = t + 6 ∧ ln (t + 6) = 8) ∧ (rf t 9 = t + 7 ∧ ln (t + 7) = 8 ∧ rf t 11 = t + 8 ∧ ln (t + 8) = 8) ∧ (rf t 12 = t + 9 ∧ Ru (t + 9) ∧ rf t 13 = t + 12 ∧ Ru (t + 12) ∧ rf t 14 = t + 15 ∧ ln (t + 15) = 6) ∧ (t = 8 ∨ t = 24) ∧ isC 1 t = true
theorem Ci8 : Ci 8 := ⟨⟨rfl, rfl, rfl, rfl⟩, ⟨rfl, rfl, rfl, rfl, rfl, rfl, rfl, rfl⟩, ⟨rfl, rfl, rfl, rfl⟩, ⟨rfl, ⟨⟨rfl, rfl⟩, rfl, rfl⟩, rfl, ⟨⟨rfl, rfl⟩, rfl, rfl⟩, rfl, rfl⟩, Or.inl rfl, by decide +kernel⟩
theorem Ci24 : Ci 24 := ⟨⟨rfl, rfl, rfl, rfl⟩, ⟨rfl, rfl, rfl, rfl, rfl, rfl, rfl, rfl⟩, ⟨rfl, rfl, rfl, rfl⟩, ⟨rfl, ⟨⟨rfl, rfl⟩, rfl, rfl⟩, rfl, ⟨⟨rfl, rfl⟩, rfl, rfl⟩, rfl, rfl⟩, Or.inr rfl, by decide +kernel⟩
def Sk (k : Nat) : Prop := St k ∧ 40 ≤ k ∧ k < 76
theorem Sk40 : Sk 40 := ⟨⟨rfl, rfl⟩, by decide, by decide⟩
theorem Sk42 : Sk 42 := ⟨⟨rfl, rfl⟩, by decide, by decide⟩
theorem Sk50 : Sk 50 := ⟨⟨rfl, rfl⟩, by decide, by decide⟩
theorem SkL {i : Nat} (h : i < 7) : Sk (62 + 2 * i) := by
  have h1 : i = 0 ∨ i = 1 ∨ i = 2 ∨ i = 3 ∨ i = 4 ∨ i = 5 ∨ i = 6 := by omega
  rcases h1 with h | h | h | h | h | h | h <;> subst h <;> exact ⟨⟨rfl, rfl⟩, by decide, by decide⟩
/-- what a day writes -/
def dW (t k : Nat) : Nat → Prop := fun a => a = k + 1 ∨ a = t + 11 ∨ a = t + 14 ∨ a = t + 15
theorem RuC_same {S S' : am_S} {k : Nat} {o : Option Prg} (h : RuC S k o) (h1 : ∀ j, sg S' k j = sg S k j) (h2 : ∀ j, sg S' (k + 1) j = sg S (k + 1) j) : RuC S' k o := by
  cases o with
  | none => exact (h1 1).trans h
  | some P => exact ⟨(h1 1).trans h.1, stepsAt_same h2 h.2⟩
theorem CC_same {S S' : am_S} {t : Nat} {c : Cy} (h : CC S t c) (hs : ∀ a j, t ≤ a → a < t + 15 → ¬ a = t + 11 → ¬ a = t + 14 → sg S' a j = sg S a j) : CC S' t c := by
  obtain ⟨⟨a1, a2⟩, ⟨b1, b2, b3, b4⟩, ⟨⟨n, n1, n2, n3⟩, ⟨m, m1, m2, m3⟩⟩, ⟨u1, u2⟩⟩ := h
  refine ⟨⟨(hs _ _ (by omega) (by omega) (by omega) (by omega)).trans a1, (hs _ _ (by omega) (by omega) (by omega) (by omega)).trans a2⟩, ⟨fun x hx => (hs _ _ (by omega) (by omega) (by omega) (by omega)).trans (b1 x hx), fun x hx => (hs _ _ (by omega) (by omega) (by omega) (by omega)).trans (b2 x hx), fun x hx => (hs _ _ (by omega) (by omega) (by omega) (by omega)).trans (b3 x hx), fun x hx => (hs _ _ (by omega) (by omega) (by omega) (by omega)).trans (b4 x hx)⟩, ⟨⟨n, n1, (hs _ _ (by omega) (by omega) (by omega) (by omega)).trans n2, fun d => ?_⟩, ⟨m, m1, (hs _ _ (by omega) (by omega) (by omega) (by omega)).trans m2, fun d => ?_⟩⟩, RuC_same u1 (fun j => hs _ _ (by omega) (by omega) (by omega) (by omega)) (fun j => hs _ _ (by omega) (by omega) (by omega) (by omega)), RuC_same u2 (fun j => hs _ _ (by omega) (by omega) (by omega) (by omega)) (fun j => hs _ _ (by omega) (by omega) (by omega) (by omega))⟩
  · rw [hs _ _ (by omega) (by omega) (by omega) (by omega)]
    exact n3 d
  · rw [hs _ _ (by omega) (by omega) (by omega) (by omega)]
    exact m3 d
theorem CC_day {S S' : am_S} {t k : Nat} {c : Cy} (ht : Ci t) (hk : Sk k) (h : CC S t c) (hf : Fr (dW t k) S S') : CC S' t c := by
  obtain ⟨-, -, -, -, ht5, -⟩ := ht
  obtain ⟨-, hk1, hk2⟩ := hk
  refine CC_same h (fun a j h1 h2 h3 h4 => hf.1 a j ?_)
  unfold dW
  omega
