/-! rows of boxes, in their order -/
def dfs (n : Nat) : Nat → Nat → List (List Nat)
  | 0, _ => [[]]
  | m + 1, U => (List.range n).flatMap (fun b => if U.testBit b then [] else (dfs n m (U ||| 2 ^ b)).map (fun s => b :: s))
def prm (n : Nat) : List (List Nat) := dfs n n 0
/-- the next row, as the reference finds it -/
def fk (q : Nat → Nat) : Nat → Nat
  | 0 => 0
  | j + 1 => if q j ≤ q (j + 1) then j + 1 else fk q j
def fo (q : Nat → Nat) (k : Nat) : Nat → Nat
  | 0 => 0
  | o + 1 => if q k ≤ q (o + 1) then o + 1 else fo q k o
def swq (q : Nat → Nat) (a b : Nat) : Nat → Nat := fun i => if i = b then q a else if i = a then q b else q i
def rv : Nat → Nat → Nat → (Nat → Nat) → Nat → Nat
  | 0, _, _, q => q
  | f + 1, a, o, q => if o ≤ a then q else rv f (a + 1) (o - 1) (swq q a o)
def nxq (n : Nat) (q : Nat → Nat) : Option (Nat → Nat) := if fk q (n - 1) = 0 then none else some (rv 6 (fk q (n - 1)) (n - 1) (swq q (fk q (n - 1) - 1) (fo q (fk q (n - 1) - 1) (n - 1))))
def gq (L : List Nat) : Nat → Nat := fun k => L.getD k 0
def tol (n : Nat) (q : Nat → Nat) : List Nat := (List.range n).map q
def chk (n : Nat) : List (List Nat) → Bool
  | [] => true
  | [a] => (nxq n (gq a)).isNone
  | a :: b :: t => ((nxq n (gq a)).map (tol n) == some b) && chk n (b :: t)
def okP (n : Nat) (L : List Nat) : Bool := (L.length == n) && L.all (fun b => decide (b < n))
theorem chk_ok : ∀ n, n < 7 → chk n (prm n) = true := by decide +kernel
theorem prm_ok : ∀ n, n < 7 → (prm n).all (okP n) = true := by decide +kernel
theorem prm_0 : ∀ n, n < 7 → (prm n).head? = some (List.range n) := by decide +kernel
theorem prm_l : ∀ n, n < 7 → (prm n).length ≤ 720 := by decide +kernel
/-- where one would be, by a row -/
def odI (c : Cy) (d : Nat) (r : Rw) (q : Nat → Nat) : Nat → Rw
  | 0 => r
  | j + 1 => day_ c (cwe c (d + j)) (nI (q j)) (odI c d r q j)
theorem odI_ext {c : Cy} {d : Nat} {r : Rw} {q q' : Nat → Nat} : ∀ n, (∀ j, j < n → q j = q' j) → odI c d r q n = odI c d r q' n := by
  intro n
  induction n with
  | zero => intro _; rfl
  | succ n ih =>
    intro h
    show day_ c _ (nI (q n)) (odI c d r q n) = day_ c _ (nI (q' n)) (odI c d r q' n)
    rw [ih (fun j hj => h j (by omega)), h n (by omega)]
theorem odI_in {c : Cy} {d : Nat} {r : Rw} {q : Nat → Nat} (hI : CI c) (h : RI c r) (hd : r 0 = nI d) : ∀ n, d + n < 4999 → (∀ j, j < n → q j < cnb c) → RI c (odI c d r q n) ∧ odI c d r q n 0 = nI (d + n) := by
  intro n
  induction n with
  | zero => intro _ _; exact ⟨h, hd⟩
  | succ n ih =>
    intro hn hq
    obtain ⟨i1, i2⟩ := ih (by omega) (fun j hj => hq j (by omega))
    obtain ⟨j1, j2, -, -⟩ := day_in (wet := cwe c (d + n)) (vis := nI (q n)) hI i1 (Or.inr ⟨_, hq n (by omega), rfl⟩) i2 (by omega)
    exact ⟨j1, j2⟩
theorem odI_up {c : Cy} {d : Nat} {r : Rw} {q : Nat → Nat} {p : Nat} (hI : CI c) (h : RI c r) (hd : r 0 = nI d) (hp : p < cnp c) : ∀ n, d + n < 4999 → (∀ j, j < n → q j < cnb c) → (r (64 + p)).toInt ≤ (odI c d r q n (64 + p)).toInt := by
  intro n
  induction n with
  | zero => intro _ _; exact Int.le_refl _
  | succ n ih =>
    intro hn hq
    have h1 := ih (by omega) (fun j hj => hq j (by omega))
    obtain ⟨i1, i2⟩ := odI_in (q := q) hI h hd n (by omega) (fun j hj => hq j (by omega))
    have h2 := day_up (wet := cwe c (d + n)) (vis := nI (q n)) hI i1 (Or.inr ⟨_, hq n (by omega), rfl⟩) hp
    show _ ≤ (day_ c _ (nI (q n)) (odI c d r q n) (64 + p)).toInt
    omega
theorem sm_le {f g : Rw} : ∀ n : Nat, n ≤ 8 → (∀ i, i < n → Bd (f (64 + i)) 9999 ∧ Bd (g (64 + i)) 9999 ∧ (f (64 + i)).toInt ≤ (g (64 + i)).toInt) → 0 ≤ (sm f 64 n).toInt ∧ (sm f 64 n).toInt ≤ (sm g 64 n).toInt ∧ (sm g 64 n).toInt ≤ 9999 * n := by
  intro n
  induction n with
  | zero => intro _ _; exact ⟨(by decide : 0 ≤ (0 : Int32).toInt), (by decide : (0 : Int32).toInt ≤ (0 : Int32).toInt), (by decide : (0 : Int32).toInt ≤ 9999 * ((0 : Nat) : Int))⟩
  | succ n ih =>
    intro hn h
    obtain ⟨i1, i2, i3⟩ := ih (by omega) (fun i hi => h i (by omega))
    obtain ⟨⟨a1, a2⟩, ⟨b1, b2⟩, e⟩ := h n (by omega)
    show 0 ≤ (sm f 64 n + f (64 + n)).toInt ∧ (sm f 64 n + f (64 + n)).toInt ≤ (sm g 64 n + g (64 + n)).toInt ∧ (sm g 64 n + g (64 + n)).toInt ≤ _
    rw [tA (by omega) (by omega), tA (by omega) (by omega)]
    omega
def hpr (c : Cy) (d : Nat) (r : Rw) (L : List Nat) : Int32 := sm (odI c d r (gq L) (cnb c)) 64 8
theorem okP_in {n : Nat} {L : List Nat} (h : okP n L = true) : L.length = n ∧ ∀ j, j < n → gq L j < n := by
  unfold okP at h
  simp only [Bool.and_eq_true, beq_iff_eq, List.all_eq_true, decide_eq_true_eq] at h
  refine ⟨h.1, fun j hj => ?_⟩
  unfold gq
  rw [List.getD_eq_getElem?_getD, List.getElem?_eq_getElem (by omega)]
  exact h.2 _ (List.getElem_mem _)
theorem hpr_in {c : Cy} {d : Nat} {r : Rw} {L : List Nat} (hI : CI c) (h : RI c r) (hd : r 0 = nI d) (hd2 : d ≤ 999) (hL : okP (cnb c) L = true) : 0 ≤ (sm r 64 8).toInt ∧ (sm r 64 8).toInt ≤ (hpr c d r L).toInt ∧ (hpr c d r L).toInt ≤ 79992 := by
  have hnb := hI.1.1
  have hnp := hI.1.2
  have hq := (okP_in hL).2
  obtain ⟨i1, -⟩ := odI_in (q := gq L) hI h hd (cnb c) (by omega) hq
  have := sm_le (f := r) (g := odI c d r (gq L) (cnb c)) 8 (by omega) (fun i hi => ⟨(h.2.2.2.2.1 i hi).2.1, (i1.2.2.2.2.1 i hi).2.1, by
    by_cases z : i < cnp c
    · exact odI_up hI h hd z _ (by omega) hq
    · rw [(h.2.2.2.2.1 i hi).2.2 (by omega), (i1.2.2.2.2.1 i hi).2.2 (by omega)]
      omega⟩)
  exact ⟨this.1, this.2.1, this.2.2⟩
/-- the best of some -/
def wgf (c : Cy) (d : Nat) (r : Rw) (a : Int32 × List Nat) (L : List Nat) : Int32 × List Nat := if hpr c d r L ≤ a.1 then a else (hpr c d r L, L)
def bst (c : Cy) (d : Nat) (r : Rw) : Int32 × List Nat := (prm (cnb c)).foldl (wgf c d r) (-1, [])
