/-- fewer locals known -/
def am_sub : List (Option Value) → List (Option Value) → Prop
  | [], _ => True
  | none :: a, b => am_sub a b.tail
  | some v :: a, b => b.head? = some (some v) ∧ am_sub a b.tail
theorem am_sub_at : ∀ (a b : List (Option Value)), am_sub a b → ∀ (i : Nat) (v : Value), a[i]? = some (some v) → b[i]? = some (some v) := by
  intro a
  induction a with
  | nil => intro b _ i v h; simp at h
  | cons o a ih =>
    intro b hs i v h
    cases o with
    | none =>
      cases i with
      | zero => simp at h
      | succ i =>
        simp at h
        have := ih b.tail hs i v h
        cases b with
        | nil => simp at this
        | cons x b => simpa using this
    | some w =>
      obtain ⟨h1, h2⟩ := hs
      cases b with
      | nil => simp at h1
      | cons x b =>
        simp at h1
        cases i with
        | zero => simp at h ⊢; rw [h1, h]
        | succ i => simp at h ⊢; exact ih b h2 i v h
theorem ev_ls {G : am_G} {R : Room} {Φ : List Frame → Array Value → State → State → Prop} {M : am_M} {cu su pc : Nat} {ls ls' : List (Option Value)} {st : List Value} {h : am_H} (k : Ev G R Φ M cu su pc ls' st h) (hs : am_sub ls' ls) : Ev G R Φ M cu su pc ls st h := by
  intro p e s m args below meth c H locs lsA hB hO hL hH hZ hS
  exact k p e s m args below meth c H locs lsA hB hO ⟨hL.1, hL.2.1, fun i v hi => hL.2.2 i v (am_sub_at _ _ hs i v hi)⟩ hH hZ hS
theorem es_iinc {G : am_G} {R : Room} {Φ : List Frame → Array Value → State → State → Prop} {M : am_M} {cu su pc : Nat} {ls : List (Option Value)} {st : List Value} {h : am_H} {i : Nat} {n : Int} {x : Int32} (v : Int32) (hd : decode (mb M) pc = .ok (.iinc i n, 3)) (hl : ls[i]? = some (some (.int x))) (hn : i < mL M) (hv : Int32.ofInt n = v) (hw : am_nl ls i = true) (k : Ev G R Φ M cu su (pc + 3) (ls.set i (some (.int (x + v)))) st h) : Ev G R Φ M cu su pc ls st h := ev_iinc (x + v) hd hl hn (by rw [hv]) hw k
def jushr (x y : Int32) : Int32 := (x.toUInt32 >>> (y.toUInt32 &&& Int32.toUInt32 31)).toInt32
def jmin (x y : Int32) : Int32 := if y < x then y else x
def jmax (x y : Int32) : Int32 := if x < y then y else x
def jabs (x : Int32) : Int32 := if 0 ≤ x then x else 0 - x
def isB (x : Int32) : Bool := decide (x = 0) || decide (x = 1)
theorem isB_of {x : Int32} (h : isB x = true) : x = 0 ∨ x = 1 := by simpa [isB] using h
theorem isB_nar {x : Int32} (h : isB x = true) : narrow .boolean (.int x) = .int x := by rcases isB_of h with rfl | rfl <;> rfl
theorem isB_by {x : Int32} (h : isB x = true) : narrow .byte (.int x) = .int x := by rcases isB_of h with rfl | rfl <;> rfl
def cpk (s0 d0 n : Int32) (la lb : Nat) : Bool := decide (¬ s0 < 0) && decide (¬ d0 < 0) && decide (¬ n < 0) && Nat.ble (s0.toNatClampNeg + n.toNatClampNeg) la && Nat.ble (d0.toNatClampNeg + n.toNatClampNeg) lb
theorem am_nt {x c : Int32} {k : Int} (h : ¬ x = c) (hc : c.toInt = k) : ¬ x.toInt = k := fun e => h (Int32.toInt_inj.mp (e.trans hc.symm))
theorem tr_9_0 {k : Nat} (h : isC 9 k = true) : isAr 0 (rf k 0) = true := (by decide +kernel : ∀ k, k < 109 → isC 9 k = true → isAr 0 (rf k 0) = true) k (isC_lt h) h
theorem tr_9_2 {k : Nat} (h : isC 9 k = true) : isC 2 (rf k 2) = true := (by decide +kernel : ∀ k, k < 109 → isC 9 k = true → isC 2 (rf k 2) = true) k (isC_lt h) h
theorem tr_9_4 {k : Nat} (h : isC 9 k = true) : isAr 1 (rf k 4) = true := (by decide +kernel : ∀ k, k < 109 → isC 9 k = true → isAr 1 (rf k 4) = true) k (isC_lt h) h
theorem tr_9_7 {k : Nat} (h : isC 9 k = true) : isC 7 (rf k 7) = true := (by decide +kernel : ∀ k, k < 109 → isC 9 k = true → isC 7 (rf k 7) = true) k (isC_lt h) h
theorem tr_9_8 {k : Nat} (h : isC 9 k = true) : isC 7 (rf k 8) = true := (by decide +kernel : ∀ k, k < 109 → isC 9 k = true → isC 7 (rf k 8) = true) k (isC_lt h) h
theorem tr_9_9 {k : Nat} (h : isC 9 k = true) : isC 0 (rf k 9) = true := (by decide +kernel : ∀ k, k < 109 → isC 9 k = true → isC 0 (rf k 9) = true) k (isC_lt h) h
theorem tr_9_10 {k : Nat} (h : isC 9 k = true) : isC 3 (rf k 10) = true := (by decide +kernel : ∀ k, k < 109 → isC 9 k = true → isC 3 (rf k 10) = true) k (isC_lt h) h
theorem tr_9_12 {k : Nat} (h : isC 9 k = true) : isC 7 (rf k 12) = true := (by decide +kernel : ∀ k, k < 109 → isC 9 k = true → isC 7 (rf k 12) = true) k (isC_lt h) h
theorem tr_9_13 {k : Nat} (h : isC 9 k = true) : isC 0 (rf k 13) = true := (by decide +kernel : ∀ k, k < 109 → isC 9 k = true → isC 0 (rf k 13) = true) k (isC_lt h) h
theorem tr_9_14 {k : Nat} (h : isC 9 k = true) : isC 3 (rf k 14) = true := (by decide +kernel : ∀ k, k < 109 → isC 9 k = true → isC 3 (rf k 14) = true) k (isC_lt h) h
theorem tr_9_15 {k : Nat} (h : isC 9 k = true) : isC 4 (rf k 15) = true := (by decide +kernel : ∀ k, k < 109 → isC 9 k = true → isC 4 (rf k 15) = true) k (isC_lt h) h
theorem tr_9_16 {k : Nat} (h : isC 9 k = true) : isAr 1 (rf k 16) = true := (by decide +kernel : ∀ k, k < 109 → isC 9 k = true → isAr 1 (rf k 16) = true) k (isC_lt h) h
theorem tr_9_17 {k : Nat} (h : isC 9 k = true) : isAr 1 (rf k 17) = true := (by decide +kernel : ∀ k, k < 109 → isC 9 k = true → isAr 1 (rf k 17) = true) k (isC_lt h) h
theorem tr_2_0 {k : Nat} (h : isC 2 k = true) : isC 8 (rf k 0) = true := (by decide +kernel : ∀ k, k < 109 → isC 2 k = true → isC 8 (rf k 0) = true) k (isC_lt h) h
theorem tr_2_1 {k : Nat} (h : isC 2 k = true) : isC 6 (rf k 1) = true := (by decide +kernel : ∀ k, k < 109 → isC 2 k = true → isC 6 (rf k 1) = true) k (isC_lt h) h
theorem tr_6_0 {k : Nat} (h : isC 6 k = true) : isAr 1 (rf k 0) = true := (by decide +kernel : ∀ k, k < 109 → isC 6 k = true → isAr 1 (rf k 0) = true) k (isC_lt h) h
theorem tr_1_1 {k : Nat} (h : isC 1 k = true) : isAr 1 (rf k 1) = true := (by decide +kernel : ∀ k, k < 109 → isC 1 k = true → isAr 1 (rf k 1) = true) k (isC_lt h) h
theorem tr_1_2 {k : Nat} (h : isC 1 k = true) : isAr 1 (rf k 2) = true := (by decide +kernel : ∀ k, k < 109 → isC 1 k = true → isAr 1 (rf k 2) = true) k (isC_lt h) h
theorem tr_1_4 {k : Nat} (h : isC 1 k = true) : isAr 1 (rf k 4) = true := (by decide +kernel : ∀ k, k < 109 → isC 1 k = true → isAr 1 (rf k 4) = true) k (isC_lt h) h
theorem tr_1_5 {k : Nat} (h : isC 1 k = true) : isAr 1 (rf k 5) = true := (by decide +kernel : ∀ k, k < 109 → isC 1 k = true → isAr 1 (rf k 5) = true) k (isC_lt h) h
theorem tr_1_6 {k : Nat} (h : isC 1 k = true) : isAr 1 (rf k 6) = true := (by decide +kernel : ∀ k, k < 109 → isC 1 k = true → isAr 1 (rf k 6) = true) k (isC_lt h) h
theorem tr_1_7 {k : Nat} (h : isC 1 k = true) : isAr 1 (rf k 7) = true := (by decide +kernel : ∀ k, k < 109 → isC 1 k = true → isAr 1 (rf k 7) = true) k (isC_lt h) h
theorem tr_1_9 {k : Nat} (h : isC 1 k = true) : isAr 1 (rf k 9) = true := (by decide +kernel : ∀ k, k < 109 → isC 1 k = true → isAr 1 (rf k 9) = true) k (isC_lt h) h
theorem tr_1_11 {k : Nat} (h : isC 1 k = true) : isAr 1 (rf k 11) = true := (by decide +kernel : ∀ k, k < 109 → isC 1 k = true → isAr 1 (rf k 11) = true) k (isC_lt h) h
theorem tr_1_12 {k : Nat} (h : isC 1 k = true) : isC 5 (rf k 12) = true := (by decide +kernel : ∀ k, k < 109 → isC 1 k = true → isC 5 (rf k 12) = true) k (isC_lt h) h
theorem tr_1_13 {k : Nat} (h : isC 1 k = true) : isC 5 (rf k 13) = true := (by decide +kernel : ∀ k, k < 109 → isC 1 k = true → isC 5 (rf k 13) = true) k (isC_lt h) h
theorem tr_1_14 {k : Nat} (h : isC 1 k = true) : isAr 1 (rf k 14) = true := (by decide +kernel : ∀ k, k < 109 → isC 1 k = true → isAr 1 (rf k 14) = true) k (isC_lt h) h
theorem tr_5_0 {k : Nat} (h : isC 5 k = true) : isAr 1 (rf k 0) = true := (by decide +kernel : ∀ k, k < 109 → isC 5 k = true → isAr 1 (rf k 0) = true) k (isC_lt h) h
theorem tr_5_2 {k : Nat} (h : isC 5 k = true) : isAr 1 (rf k 2) = true := (by decide +kernel : ∀ k, k < 109 → isC 5 k = true → isAr 1 (rf k 2) = true) k (isC_lt h) h
theorem tr_7_0 {k : Nat} (h : isC 7 k = true) : isAr 1 (rf k 0) = true := (by decide +kernel : ∀ k, k < 109 → isC 7 k = true → isAr 1 (rf k 0) = true) k (isC_lt h) h
theorem tr_0_0 {k : Nat} (h : isC 0 k = true) : isAr 1 (rf k 0) = true := (by decide +kernel : ∀ k, k < 109 → isC 0 k = true → isAr 1 (rf k 0) = true) k (isC_lt h) h
theorem tr_3_0 {k : Nat} (h : isC 3 k = true) : isAr 1 (rf k 0) = true := (by decide +kernel : ∀ k, k < 109 → isC 3 k = true → isAr 1 (rf k 0) = true) k (isC_lt h) h
theorem tr_3_1 {k : Nat} (h : isC 3 k = true) : isAr 1 (rf k 1) = true := (by decide +kernel : ∀ k, k < 109 → isC 3 k = true → isAr 1 (rf k 1) = true) k (isC_lt h) h
theorem tr_3_2 {k : Nat} (h : isC 3 k = true) : isAr 1 (rf k 2) = true := (by decide +kernel : ∀ k, k < 109 → isC 3 k = true → isAr 1 (rf k 2) = true) k (isC_lt h) h
theorem tr_4_0 {k : Nat} (h : isC 4 k = true) : isAr 3 (rf k 0) = true := (by decide +kernel : ∀ k, k < 109 → isC 4 k = true → isAr 3 (rf k 0) = true) k (isC_lt h) h
theorem tr_4_1 {k : Nat} (h : isC 4 k = true) : isAr 1 (rf k 1) = true := (by decide +kernel : ∀ k, k < 109 → isC 4 k = true → isAr 1 (rf k 1) = true) k (isC_lt h) h
theorem tr_4_2 {k : Nat} (h : isC 4 k = true) : isAr 1 (rf k 2) = true := (by decide +kernel : ∀ k, k < 109 → isC 4 k = true → isAr 1 (rf k 2) = true) k (isC_lt h) h
theorem tr_10_7 {k : Nat} (h : isC 10 k = true) : isAr 1 (rf k 7) = true := (by decide +kernel : ∀ k, k < 109 → isC 10 k = true → isAr 1 (rf k 7) = true) k (isC_lt h) h
theorem tr_10_8 {k : Nat} (h : isC 10 k = true) : isAr 1 (rf k 8) = true := (by decide +kernel : ∀ k, k < 109 → isC 10 k = true → isAr 1 (rf k 8) = true) k (isC_lt h) h
theorem tr_10_9 {k : Nat} (h : isC 10 k = true) : isAr 1 (rf k 9) = true := (by decide +kernel : ∀ k, k < 109 → isC 10 k = true → isAr 1 (rf k 9) = true) k (isC_lt h) h
theorem tr_10_10 {k : Nat} (h : isC 10 k = true) : isAr 1 (rf k 10) = true := (by decide +kernel : ∀ k, k < 109 → isC 10 k = true → isAr 1 (rf k 10) = true) k (isC_lt h) h
theorem tr_10_11 {k : Nat} (h : isC 10 k = true) : isAr 1 (rf k 11) = true := (by decide +kernel : ∀ k, k < 109 → isC 10 k = true → isAr 1 (rf k 11) = true) k (isC_lt h) h
theorem tr_10_12 {k : Nat} (h : isC 10 k = true) : isAr 1 (rf k 12) = true := (by decide +kernel : ∀ k, k < 109 → isC 10 k = true → isAr 1 (rf k 12) = true) k (isC_lt h) h
theorem tr_10_13 {k : Nat} (h : isC 10 k = true) : isAr 1 (rf k 13) = true := (by decide +kernel : ∀ k, k < 109 → isC 10 k = true → isAr 1 (rf k 13) = true) k (isC_lt h) h
theorem tr_10_17 {k : Nat} (h : isC 10 k = true) : isAr 1 (rf k 17) = true := (by decide +kernel : ∀ k, k < 109 → isC 10 k = true → isAr 1 (rf k 17) = true) k (isC_lt h) h
theorem tr_10_37 {k : Nat} (h : isC 10 k = true) : isAr 1 (rf k 37) = true := (by decide +kernel : ∀ k, k < 109 → isC 10 k = true → isAr 1 (rf k 37) = true) k (isC_lt h) h
theorem tr_10_38 {k : Nat} (h : isC 10 k = true) : isAr 1 (rf k 38) = true := (by decide +kernel : ∀ k, k < 109 → isC 10 k = true → isAr 1 (rf k 38) = true) k (isC_lt h) h
theorem tr_10_39 {k : Nat} (h : isC 10 k = true) : isAr 1 (rf k 39) = true := (by decide +kernel : ∀ k, k < 109 → isC 10 k = true → isAr 1 (rf k 39) = true) k (isC_lt h) h
theorem tr_10_40 {k : Nat} (h : isC 10 k = true) : isAr 1 (rf k 40) = true := (by decide +kernel : ∀ k, k < 109 → isC 10 k = true → isAr 1 (rf k 40) = true) k (isC_lt h) h
theorem tr_10_41 {k : Nat} (h : isC 10 k = true) : isAr 1 (rf k 41) = true := (by decide +kernel : ∀ k, k < 109 → isC 10 k = true → isAr 1 (rf k 41) = true) k (isC_lt h) h
theorem tr_10_42 {k : Nat} (h : isC 10 k = true) : isAr 1 (rf k 42) = true := (by decide +kernel : ∀ k, k < 109 → isC 10 k = true → isAr 1 (rf k 42) = true) k (isC_lt h) h
theorem tr_10_43 {k : Nat} (h : isC 10 k = true) : isAr 1 (rf k 43) = true := (by decide +kernel : ∀ k, k < 109 → isC 10 k = true → isAr 1 (rf k 43) = true) k (isC_lt h) h
theorem tr_10_44 {k : Nat} (h : isC 10 k = true) : isAr 1 (rf k 44) = true := (by decide +kernel : ∀ k, k < 109 → isC 10 k = true → isAr 1 (rf k 44) = true) k (isC_lt h) h
theorem tr_10_45 {k : Nat} (h : isC 10 k = true) : isAr 2 (rf k 45) = true := (by decide +kernel : ∀ k, k < 109 → isC 10 k = true → isAr 2 (rf k 45) = true) k (isC_lt h) h
theorem tr_10_46 {k : Nat} (h : isC 10 k = true) : isAr 1 (rf k 46) = true := (by decide +kernel : ∀ k, k < 109 → isC 10 k = true → isAr 1 (rf k 46) = true) k (isC_lt h) h
theorem tr_10_47 {k : Nat} (h : isC 10 k = true) : isAr 1 (rf k 47) = true := (by decide +kernel : ∀ k, k < 109 → isC 10 k = true → isAr 1 (rf k 47) = true) k (isC_lt h) h
theorem tr_10_49 {k : Nat} (h : isC 10 k = true) : isAr 1 (rf k 49) = true := (by decide +kernel : ∀ k, k < 109 → isC 10 k = true → isAr 1 (rf k 49) = true) k (isC_lt h) h
theorem tr_10_50 {k : Nat} (h : isC 10 k = true) : isAr 1 (rf k 50) = true := (by decide +kernel : ∀ k, k < 109 → isC 10 k = true → isAr 1 (rf k 50) = true) k (isC_lt h) h
theorem tr_10_53 {k : Nat} (h : isC 10 k = true) : isAr 1 (rf k 53) = true := (by decide +kernel : ∀ k, k < 109 → isC 10 k = true → isAr 1 (rf k 53) = true) k (isC_lt h) h
theorem tr_10_55 {k : Nat} (h : isC 10 k = true) : isAr 1 (rf k 55) = true := (by decide +kernel : ∀ k, k < 109 → isC 10 k = true → isAr 1 (rf k 55) = true) k (isC_lt h) h
theorem tr_10_57 {k : Nat} (h : isC 10 k = true) : isAr 1 (rf k 57) = true := (by decide +kernel : ∀ k, k < 109 → isC 10 k = true → isAr 1 (rf k 57) = true) k (isC_lt h) h
theorem tr_10_58 {k : Nat} (h : isC 10 k = true) : isAr 1 (rf k 58) = true := (by decide +kernel : ∀ k, k < 109 → isC 10 k = true → isAr 1 (rf k 58) = true) k (isC_lt h) h
theorem tr_10_59 {k : Nat} (h : isC 10 k = true) : isAr 1 (rf k 59) = true := (by decide +kernel : ∀ k, k < 109 → isC 10 k = true → isAr 1 (rf k 59) = true) k (isC_lt h) h
theorem tr_10_64 {k : Nat} (h : isC 10 k = true) : isAr 1 (rf k 64) = true := (by decide +kernel : ∀ k, k < 109 → isC 10 k = true → isAr 1 (rf k 64) = true) k (isC_lt h) h
theorem tr_10_65 {k : Nat} (h : isC 10 k = true) : isAr 1 (rf k 65) = true := (by decide +kernel : ∀ k, k < 109 → isC 10 k = true → isAr 1 (rf k 65) = true) k (isC_lt h) h
theorem tr_10_66 {k : Nat} (h : isC 10 k = true) : isAr 1 (rf k 66) = true := (by decide +kernel : ∀ k, k < 109 → isC 10 k = true → isAr 1 (rf k 66) = true) k (isC_lt h) h
theorem on_0 {k : Nat} (h : isC 9 k = true) : am_only (1001 + 0) k 5 = true := (by decide +kernel : ∀ k, k < 109 → isC 9 k = true → am_only (1001 + 0) k 5 = true) k (isC_lt h) h
theorem on_1 {k : Nat} (h : isC 9 k = true) : am_only (1001 + 1) k 6 = true := (by decide +kernel : ∀ k, k < 109 → isC 9 k = true → am_only (1001 + 1) k 6 = true) k (isC_lt h) h
theorem on_2 {k : Nat} (h : isC 8 k = true) : am_only (1001 + 2) k 0 = true := (by decide +kernel : ∀ k, k < 109 → isC 8 k = true → am_only (1001 + 2) k 0 = true) k (isC_lt h) h
theorem on_l {k : Nat} (h : isC 10 k = true) : am_only (1000) k 25 = true := (by decide +kernel : ∀ k, k < 109 → isC 10 k = true → am_only (1000) k 25 = true) k (isC_lt h) h
theorem onL : am_onlyL 108 = true := by decide +kernel
theorem ol_pos {k : Nat} (h : isAr 4 k = true) : 0 < k := (by decide +kernel : ∀ k, k < 109 → isAr 4 k = true → 0 < k) k (isAr_lt h) h
theorem ol_one {k : Nat} (h : isAr 4 k = true) : am_onlyL k = true := (by decide +kernel : ∀ k, k < 109 → isAr 4 k = true → am_onlyL k = true) k (isAr_lt h) h
theorem aa_ty {k : Nat} {i : Int32} (h : isAr 3 k = true) (hi : inb i (ln k) = true) : isC 7 (62 + 2 * Int32.toNatClampNeg i) = true := by
  have h1 : ln k = 7 := (by decide +kernel : ∀ k, k < 109 → isAr 3 k = true → ln k = 7) k (isAr_lt h) h
  rw [h1] at hi
  simp only [inb, Bool.and_eq_true] at hi
  have h2 : i.toNatClampNeg < 7 := Nat.ble_eq.mp hi.2
  exact (by decide +kernel : ∀ n, n < 7 → isC 7 (62 + 2 * n) = true) _ h2
theorem j_nat : Cond.native arraycopyName ∈ am_WT := w_323
theorem j_sta : Cond.static arraycopyName ∈ am_WT := w_322
theorem j_ini : Cond.initialized "java/lang/System" ∈ am_WT := w_19
theorem jc_min : Cond.code Lib.Math.min.name Lib.Math.min.code 2 (some .int) ∈ am_WT := w_320
theorem es_min {G : am_G} {R : Room} {Φ : List Frame → Array Value → State → State → Prop} {M : am_M} {cu su pc : Nat} {ls : List (Option Value)} {st : List Value} {h : am_H} {idx : Nat} {x y : Int32} (hd : decode (mb M) pc = .ok (.invokestatic idx, 3)) (hw : Cond.methodLink (mo M) idx Lib.Math.min.name ∈ am_WT) (hst : (st.map fun v => v.category).sum ≤ 8) (hf : am_fit R 0) (hcs : cu ≤ R.cells ∧ su ≤ R.slots) (k : Ev G R Φ M cu su (pc + 3) ls (.int (jmin x y) :: st) h) : Ev G R Φ M cu su pc ls (.int y :: .int x :: st) h := ev_min hd hw w_319 w_18 jc_min hst hf hcs k
theorem jc_max : Cond.code Lib.Math.max.name Lib.Math.max.code 2 (some .int) ∈ am_WT := w_302
theorem es_max {G : am_G} {R : Room} {Φ : List Frame → Array Value → State → State → Prop} {M : am_M} {cu su pc : Nat} {ls : List (Option Value)} {st : List Value} {h : am_H} {idx : Nat} {x y : Int32} (hd : decode (mb M) pc = .ok (.invokestatic idx, 3)) (hw : Cond.methodLink (mo M) idx Lib.Math.max.name ∈ am_WT) (hst : (st.map fun v => v.category).sum ≤ 8) (hf : am_fit R 0) (hcs : cu ≤ R.cells ∧ su ≤ R.slots) (k : Ev G R Φ M cu su (pc + 3) ls (.int (jmax x y) :: st) h) : Ev G R Φ M cu su pc ls (.int y :: .int x :: st) h := ev_max hd hw w_301 w_18 jc_max hst hf hcs k
theorem jc_abs : Cond.code Lib.Math.abs.name Lib.Math.abs.code 1 (some .int) ∈ am_WT := w_743
theorem es_abs {G : am_G} {R : Room} {Φ : List Frame → Array Value → State → State → Prop} {M : am_M} {cu su pc : Nat} {ls : List (Option Value)} {st : List Value} {h : am_H} {idx : Nat} {x : Int32} (hd : decode (mb M) pc = .ok (.invokestatic idx, 3)) (hw : Cond.methodLink (mo M) idx Lib.Math.abs.name ∈ am_WT) (hst : (st.map fun v => v.category).sum ≤ 8) (hf : am_fit R 0) (hcs : cu ≤ R.cells ∧ su ≤ R.slots) (k : Ev G R Φ M cu su (pc + 3) ls (.int (jabs x) :: st) h) : Ev G R Φ M cu su pc ls (.int x :: st) h := ev_abs hd hw w_742 w_18 jc_abs hst hf hcs k
def am_up2 : List String := ["java/lang/RuntimeException", "java/lang/Exception"]
theorem x0_at : ∀ w ∈ ax_at RX9 163 am_nse 13 prog_34_method_4_code am_up2, w ∈ am_WT ∨ w ∈ am_ext := by decide +kernel
theorem x0_0 : decode prog_34_method_4_code 0 = .ok (.aload_n 0, 1) := by decide +kernel
theorem x0_1 : decode prog_34_method_4_code 1 = .ok (.aload_n 1, 1) := by decide +kernel
theorem x0_2 : decode prog_34_method_4_code 2 = .ok (.invokespecial 13, 3) := by decide +kernel
theorem x0_5 : decode prog_34_method_4_code 5 = .ok (.return_, 1) := by decide +kernel
theorem x0_f : Bundle.fit am_nse = true := by decide +kernel
theorem x1_at : ∀ w ∈ ax_at RX9 102 am_iae 7 prog_20_method_2_code am_up2, w ∈ am_WT ∨ w ∈ am_ext := by decide +kernel
theorem x1_0 : decode prog_20_method_2_code 0 = .ok (.aload_n 0, 1) := by decide +kernel
theorem x1_1 : decode prog_20_method_2_code 1 = .ok (.aload_n 1, 1) := by decide +kernel
theorem x1_2 : decode prog_20_method_2_code 2 = .ok (.invokespecial 7, 3) := by decide +kernel
theorem x1_5 : decode prog_20_method_2_code 5 = .ok (.return_, 1) := by decide +kernel
theorem x1_f : Bundle.fit am_iae = true := by decide +kernel
theorem hpL_eta (Y : List am_Y) (S : am_S) : ((hpL Y S).1, 1) = hpL Y S := rfl
theorem hp_eta (S : am_S) : ((hp S).1, 1) = hp S := hpL_eta am_lay S
theorem xe_0 : am_nse = am_ex 0 := by decide +kernel
theorem xe_1 : am_iae = am_ex 1 := by decide +kernel
theorem xn_f : ∀ n ∈ am_up2, Bundle.fit n = true := by decide +kernel
theorem es_thr0 {G : am_G} {D : Nat} {M : am_M} {pc is : Nat} {ls : List (Option Value)} {st : List Value} {S : am_S} {h0 : am_H} {Qr : Option Value → am_H → Prop} {tx : String} (i : Nat) (d0 : decode (mb M) pc = .ok (.new 159, 3)) (d3 : decode (mb M) (pc + 3) = .ok (.dup, 1)) (d4 : decode (mb M) (pc + 4) = .ok (.ldc is, 2)) (d6 : decode (mb M) (pc + 6) = .ok (.invokespecial 163, 3)) (d9 : decode (mb M) (pc + 9) = .ok (.athrow, 1)) (hmo : mo M = RX9) (hs : am_strs[i]? = some (RX9, is, tx)) (hh : mh M = []) (hst : (st.map fun v => v.category).sum ≤ 8) (hD : 7 ≤ D) : Ev G (am_R D (t_c (.inr 0, S)) (t_s (.inr 0, S))) (am_Φ G h0 (t_c (.inr 0, S)) (t_s (.inr 0, S)) Qr (q_tx (.inr 0, S))) M 0 0 pc ls st (hp S) := by
  have hcl : Cond.classLink (mo M) 159 am_nse ∈ am_WT := by rw [hmo]; exact w_1101
  have hat : ∀ w ∈ ax_at (mo M) 163 am_nse 13 prog_34_method_4_code am_up2, w ∈ am_WT ∨ w ∈ am_ext := by rw [hmo]; exact x0_at
  have hst9 : am_strs[i]? = some (mo M, is, tx) := by rw [hmo]; exact hs
  have hfr : am_up2.length + 3 < (am_R D (t_c (.inr 0, S)) (t_s (.inr 0, S))).frames := by show 2 + 3 < D; omega
  have hlo : 8 + (13 * (am_up2.length + 1) + 43) ≤ (am_R D (t_c (.inr 0, S)) (t_s (.inr 0, S))).locals := by show 8 + (13 * (2 + 1) + 43) ≤ 64 * D; omega
  exact ev_throw (cls := am_nse) (names := am_up2) (ik := 159) (ic := 163) (ix := 13) (rx := prog_34_method_4_code) i d0 d3 d4 d6 d9 x0_0 x0_1 x0_2 x0_5 x0_f xn_f hcl w_28 hst9 hat hh hfr hlo hst (Nat.le_refl 1) (Nat.le_refl 6) ⟨0, rfl, xe_0, hp_eta S⟩ (Nat.le_refl 1) (Nat.le_refl 6)
theorem es_thr1 {G : am_G} {D : Nat} {M : am_M} {pc is : Nat} {ls : List (Option Value)} {st : List Value} {S : am_S} {h0 : am_H} {Qr : Option Value → am_H → Prop} {tx : String} (i : Nat) (d0 : decode (mb M) pc = .ok (.new 98, 3)) (d3 : decode (mb M) (pc + 3) = .ok (.dup, 1)) (d4 : decode (mb M) (pc + 4) = .ok (.ldc is, 2)) (d6 : decode (mb M) (pc + 6) = .ok (.invokespecial 102, 3)) (d9 : decode (mb M) (pc + 9) = .ok (.athrow, 1)) (hmo : mo M = RX9) (hs : am_strs[i]? = some (RX9, is, tx)) (hh : mh M = []) (hst : (st.map fun v => v.category).sum ≤ 8) (hD : 7 ≤ D) : Ev G (am_R D (t_c (.inr 1, S)) (t_s (.inr 1, S))) (am_Φ G h0 (t_c (.inr 1, S)) (t_s (.inr 1, S)) Qr (q_tx (.inr 1, S))) M 0 0 pc ls st (hp S) := by
  have hcl : Cond.classLink (mo M) 98 am_iae ∈ am_WT := by rw [hmo]; exact w_829
  have hat : ∀ w ∈ ax_at (mo M) 102 am_iae 7 prog_20_method_2_code am_up2, w ∈ am_WT ∨ w ∈ am_ext := by rw [hmo]; exact x1_at
  have hst9 : am_strs[i]? = some (mo M, is, tx) := by rw [hmo]; exact hs
  have hfr : am_up2.length + 3 < (am_R D (t_c (.inr 1, S)) (t_s (.inr 1, S))).frames := by show 2 + 3 < D; omega
  have hlo : 8 + (13 * (am_up2.length + 1) + 43) ≤ (am_R D (t_c (.inr 1, S)) (t_s (.inr 1, S))).locals := by show 8 + (13 * (2 + 1) + 43) ≤ 64 * D; omega
  exact ev_throw (cls := am_iae) (names := am_up2) (ik := 98) (ic := 102) (ix := 7) (rx := prog_20_method_2_code) i d0 d3 d4 d6 d9 x1_0 x1_1 x1_2 x1_5 x1_f xn_f hcl w_12 hst9 hat hh hfr hlo hst (Nat.le_refl 1) (Nat.le_refl 6) ⟨1, rfl, xe_1, hp_eta S⟩ (Nat.le_refl 1) (Nat.le_refl 6)
theorem es_callVi {G : am_G} {R : Room} {Φ : List Frame → Array Value → State → State → Prop} {M : am_M} {cu su pc : Nat} {ls : List (Option Value)} {st st0 : List Value} {S S' : am_S} {K : am_M} {idx n d : Nat} {a ci : Nat} {rr : vw_C} {As : List Value} {r : Int32} (hM : am_Met G d K 0 0 (.ref a :: As) (hp S) (q_i (r, S')) q_n) (hd : decode (mb M) pc = .ok (.invokevirtual idx, 3)) (ok : am_okV K n) (hw : Cond.methodLink (mo M) idx (my K) ∈ am_WT) (hn : As.length = n) (hca : isC ci a = true) (hcl : am_cl[ci]? = some rr) (hrr : rr.1 = (my K).cls) (hst : (st.map fun v => v.category).sum ≤ 8) (hst0 : st0 = As.reverse ++ .ref a :: st) (hf : am_fit R d) (hcs : cu ≤ R.cells ∧ su ≤ R.slots) (kk : Ev G R Φ M cu su (pc + 3) ls (.int r :: st) (hp S')) : Ev G R Φ M cu su pc ls st0 (hp S) := by
  obtain ⟨fds, h1, -⟩ := isC_of hca
  refine ev_invV hM hd ok hw hn (hp_get h1) hcl hrr hst hst0 hf hcs (fun v h' hq => ?_) (fun _ _ hF => hF.elim)
  obtain ⟨rfl, rfl⟩ := hq
  exact kk
theorem es_callSi {G : am_G} {R : Room} {Φ : List Frame → Array Value → State → State → Prop} {M : am_M} {cu su pc : Nat} {ls : List (Option Value)} {st st0 : List Value} {S S' : am_S} {K : am_M} {idx n d : Nat} {As : List Value} {r : Int32} (hM : am_Met G d K 0 0 As (hp S) (q_i (r, S')) q_n) (hd : decode (mb M) pc = .ok (.invokestatic idx, 3)) (ok : am_okS K n) (hw : Cond.methodLink (mo M) idx (my K) ∈ am_WT) (hn : As.length = n) (hst : (st.map fun v => v.category).sum ≤ 8) (hst0 : st0 = As.reverse ++ st) (hf : am_fit R d) (hcs : cu ≤ R.cells ∧ su ≤ R.slots) (kk : Ev G R Φ M cu su (pc + 3) ls (.int r :: st) (hp S')) : Ev G R Φ M cu su pc ls st0 (hp S) := by
  refine ev_invS hM hd ok hw hn hst hst0 hf hcs (fun v h' hq => ?_) (fun _ _ hF => hF.elim)
  obtain ⟨rfl, rfl⟩ := hq
  exact kk
theorem es_callSNi {G : am_G} {R : Room} {Φ : List Frame → Array Value → State → State → Prop} {M : am_M} {cu su pc : Nat} {ls : List (Option Value)} {st st0 : List Value} {S S' : am_S} {K : am_M} {idx n d : Nat} {host : String} {As : List Value} {r : Int32} (hM : am_Met G d K 0 0 As (hp S) (q_i (r, S')) q_n) (hd : decode (mb M) pc = .ok (.invokestatic idx, 3)) (ok : am_okS K n) (hw : Cond.methodLinkNest (mo M) idx (my K) host ∈ am_nest) (hn : As.length = n) (hst : (st.map fun v => v.category).sum ≤ 8) (hst0 : st0 = As.reverse ++ st) (hf : am_fit R d) (hcs : cu ≤ R.cells ∧ su ≤ R.slots) (kk : Ev G R Φ M cu su (pc + 3) ls (.int r :: st) (hp S')) : Ev G R Φ M cu su pc ls st0 (hp S) := by
  refine ev_invSN hM hd ok hw hn hst hst0 hf hcs (fun v h' hq => ?_)
  obtain ⟨rfl, rfl⟩ := hq
  exact kk
theorem es_callVNi {G : am_G} {R : Room} {Φ : List Frame → Array Value → State → State → Prop} {M : am_M} {cu su pc : Nat} {ls : List (Option Value)} {st st0 : List Value} {S S' : am_S} {K : am_M} {idx n d : Nat} {a ci : Nat} {rr : vw_C} {host : String} {As : List Value} {r : Int32} (hM : am_Met G d K 0 0 (.ref a :: As) (hp S) (q_i (r, S')) q_n) (hd : decode (mb M) pc = .ok (.invokevirtual idx, 3)) (ok : am_okV K n) (hw : Cond.methodLinkNest (mo M) idx (my K) host ∈ am_nest) (hn : As.length = n) (hca : isC ci a = true) (hcl : am_cl[ci]? = some rr) (hrr : rr.1 = (my K).cls) (hst : (st.map fun v => v.category).sum ≤ 8) (hst0 : st0 = As.reverse ++ .ref a :: st) (hf : am_fit R d) (hcs : cu ≤ R.cells ∧ su ≤ R.slots) (kk : Ev G R Φ M cu su (pc + 3) ls (.int r :: st) (hp S')) : Ev G R Φ M cu su pc ls st0 (hp S) := by
  obtain ⟨fds, h1, -⟩ := isC_of hca
  refine ev_invVN hM hd ok hw hn (hp_get h1) hcl hrr hst hst0 hf hcs (fun v h' hq => ?_)
  obtain ⟨rfl, rfl⟩ := hq
  exact kk
theorem es_callVl {G : am_G} {R : Room} {Φ : List Frame → Array Value → State → State → Prop} {M : am_M} {cu su pc : Nat} {ls : List (Option Value)} {st st0 : List Value} {S S' : am_S} {K : am_M} {idx n d : Nat} {a ci : Nat} {rr : vw_C} {As : List Value} {r : Int64} (hM : am_Met G d K 0 0 (.ref a :: As) (hp S) (q_l (r, S')) q_n) (hd : decode (mb M) pc = .ok (.invokevirtual idx, 3)) (ok : am_okV K n) (hw : Cond.methodLink (mo M) idx (my K) ∈ am_WT) (hn : As.length = n) (hca : isC ci a = true) (hcl : am_cl[ci]? = some rr) (hrr : rr.1 = (my K).cls) (hst : (st.map fun v => v.category).sum ≤ 8) (hst0 : st0 = As.reverse ++ .ref a :: st) (hf : am_fit R d) (hcs : cu ≤ R.cells ∧ su ≤ R.slots) (kk : Ev G R Φ M cu su (pc + 3) ls (.long r :: st) (hp S')) : Ev G R Φ M cu su pc ls st0 (hp S) := by
  obtain ⟨fds, h1, -⟩ := isC_of hca
  refine ev_invV hM hd ok hw hn (hp_get h1) hcl hrr hst hst0 hf hcs (fun v h' hq => ?_) (fun _ _ hF => hF.elim)
  obtain ⟨rfl, rfl⟩ := hq
  exact kk
theorem es_callSl {G : am_G} {R : Room} {Φ : List Frame → Array Value → State → State → Prop} {M : am_M} {cu su pc : Nat} {ls : List (Option Value)} {st st0 : List Value} {S S' : am_S} {K : am_M} {idx n d : Nat} {As : List Value} {r : Int64} (hM : am_Met G d K 0 0 As (hp S) (q_l (r, S')) q_n) (hd : decode (mb M) pc = .ok (.invokestatic idx, 3)) (ok : am_okS K n) (hw : Cond.methodLink (mo M) idx (my K) ∈ am_WT) (hn : As.length = n) (hst : (st.map fun v => v.category).sum ≤ 8) (hst0 : st0 = As.reverse ++ st) (hf : am_fit R d) (hcs : cu ≤ R.cells ∧ su ≤ R.slots) (kk : Ev G R Φ M cu su (pc + 3) ls (.long r :: st) (hp S')) : Ev G R Φ M cu su pc ls st0 (hp S) := by
  refine ev_invS hM hd ok hw hn hst hst0 hf hcs (fun v h' hq => ?_) (fun _ _ hF => hF.elim)
  obtain ⟨rfl, rfl⟩ := hq
  exact kk
theorem es_callSNl {G : am_G} {R : Room} {Φ : List Frame → Array Value → State → State → Prop} {M : am_M} {cu su pc : Nat} {ls : List (Option Value)} {st st0 : List Value} {S S' : am_S} {K : am_M} {idx n d : Nat} {host : String} {As : List Value} {r : Int64} (hM : am_Met G d K 0 0 As (hp S) (q_l (r, S')) q_n) (hd : decode (mb M) pc = .ok (.invokestatic idx, 3)) (ok : am_okS K n) (hw : Cond.methodLinkNest (mo M) idx (my K) host ∈ am_nest) (hn : As.length = n) (hst : (st.map fun v => v.category).sum ≤ 8) (hst0 : st0 = As.reverse ++ st) (hf : am_fit R d) (hcs : cu ≤ R.cells ∧ su ≤ R.slots) (kk : Ev G R Φ M cu su (pc + 3) ls (.long r :: st) (hp S')) : Ev G R Φ M cu su pc ls st0 (hp S) := by
  refine ev_invSN hM hd ok hw hn hst hst0 hf hcs (fun v h' hq => ?_)
  obtain ⟨rfl, rfl⟩ := hq
  exact kk
theorem es_callVNl {G : am_G} {R : Room} {Φ : List Frame → Array Value → State → State → Prop} {M : am_M} {cu su pc : Nat} {ls : List (Option Value)} {st st0 : List Value} {S S' : am_S} {K : am_M} {idx n d : Nat} {a ci : Nat} {rr : vw_C} {host : String} {As : List Value} {r : Int64} (hM : am_Met G d K 0 0 (.ref a :: As) (hp S) (q_l (r, S')) q_n) (hd : decode (mb M) pc = .ok (.invokevirtual idx, 3)) (ok : am_okV K n) (hw : Cond.methodLinkNest (mo M) idx (my K) host ∈ am_nest) (hn : As.length = n) (hca : isC ci a = true) (hcl : am_cl[ci]? = some rr) (hrr : rr.1 = (my K).cls) (hst : (st.map fun v => v.category).sum ≤ 8) (hst0 : st0 = As.reverse ++ .ref a :: st) (hf : am_fit R d) (hcs : cu ≤ R.cells ∧ su ≤ R.slots) (kk : Ev G R Φ M cu su (pc + 3) ls (.long r :: st) (hp S')) : Ev G R Φ M cu su pc ls st0 (hp S) := by
  obtain ⟨fds, h1, -⟩ := isC_of hca
  refine ev_invVN hM hd ok hw hn (hp_get h1) hcl hrr hst hst0 hf hcs (fun v h' hq => ?_)
  obtain ⟨rfl, rfl⟩ := hq
  exact kk
theorem es_callVv {G : am_G} {R : Room} {Φ : List Frame → Array Value → State → State → Prop} {M : am_M} {cu su pc : Nat} {ls : List (Option Value)} {st st0 : List Value} {S S' : am_S} {K : am_M} {idx n d : Nat} {a ci : Nat} {rr : vw_C} {As : List Value} (hM : am_Met G d K 0 0 (.ref a :: As) (hp S) (q_v S') q_n) (hd : decode (mb M) pc = .ok (.invokevirtual idx, 3)) (ok : am_okV K n) (hw : Cond.methodLink (mo M) idx (my K) ∈ am_WT) (hn : As.length = n) (hca : isC ci a = true) (hcl : am_cl[ci]? = some rr) (hrr : rr.1 = (my K).cls) (hst : (st.map fun v => v.category).sum ≤ 8) (hst0 : st0 = As.reverse ++ .ref a :: st) (hf : am_fit R d) (hcs : cu ≤ R.cells ∧ su ≤ R.slots) (kk : Ev G R Φ M cu su (pc + 3) ls (st) (hp S')) : Ev G R Φ M cu su pc ls st0 (hp S) := by
  obtain ⟨fds, h1, -⟩ := isC_of hca
  refine ev_invV hM hd ok hw hn (hp_get h1) hcl hrr hst hst0 hf hcs (fun v h' hq => ?_) (fun _ _ hF => hF.elim)
  obtain ⟨rfl, rfl⟩ := hq
  exact kk
theorem es_callSv {G : am_G} {R : Room} {Φ : List Frame → Array Value → State → State → Prop} {M : am_M} {cu su pc : Nat} {ls : List (Option Value)} {st st0 : List Value} {S S' : am_S} {K : am_M} {idx n d : Nat} {As : List Value} (hM : am_Met G d K 0 0 As (hp S) (q_v S') q_n) (hd : decode (mb M) pc = .ok (.invokestatic idx, 3)) (ok : am_okS K n) (hw : Cond.methodLink (mo M) idx (my K) ∈ am_WT) (hn : As.length = n) (hst : (st.map fun v => v.category).sum ≤ 8) (hst0 : st0 = As.reverse ++ st) (hf : am_fit R d) (hcs : cu ≤ R.cells ∧ su ≤ R.slots) (kk : Ev G R Φ M cu su (pc + 3) ls (st) (hp S')) : Ev G R Φ M cu su pc ls st0 (hp S) := by
  refine ev_invS hM hd ok hw hn hst hst0 hf hcs (fun v h' hq => ?_) (fun _ _ hF => hF.elim)
  obtain ⟨rfl, rfl⟩ := hq
  exact kk
theorem es_callSNv {G : am_G} {R : Room} {Φ : List Frame → Array Value → State → State → Prop} {M : am_M} {cu su pc : Nat} {ls : List (Option Value)} {st st0 : List Value} {S S' : am_S} {K : am_M} {idx n d : Nat} {host : String} {As : List Value} (hM : am_Met G d K 0 0 As (hp S) (q_v S') q_n) (hd : decode (mb M) pc = .ok (.invokestatic idx, 3)) (ok : am_okS K n) (hw : Cond.methodLinkNest (mo M) idx (my K) host ∈ am_nest) (hn : As.length = n) (hst : (st.map fun v => v.category).sum ≤ 8) (hst0 : st0 = As.reverse ++ st) (hf : am_fit R d) (hcs : cu ≤ R.cells ∧ su ≤ R.slots) (kk : Ev G R Φ M cu su (pc + 3) ls (st) (hp S')) : Ev G R Φ M cu su pc ls st0 (hp S) := by
  refine ev_invSN hM hd ok hw hn hst hst0 hf hcs (fun v h' hq => ?_)
  obtain ⟨rfl, rfl⟩ := hq
  exact kk
theorem es_callVNv {G : am_G} {R : Room} {Φ : List Frame → Array Value → State → State → Prop} {M : am_M} {cu su pc : Nat} {ls : List (Option Value)} {st st0 : List Value} {S S' : am_S} {K : am_M} {idx n d : Nat} {a ci : Nat} {rr : vw_C} {host : String} {As : List Value} (hM : am_Met G d K 0 0 (.ref a :: As) (hp S) (q_v S') q_n) (hd : decode (mb M) pc = .ok (.invokevirtual idx, 3)) (ok : am_okV K n) (hw : Cond.methodLinkNest (mo M) idx (my K) host ∈ am_nest) (hn : As.length = n) (hca : isC ci a = true) (hcl : am_cl[ci]? = some rr) (hrr : rr.1 = (my K).cls) (hst : (st.map fun v => v.category).sum ≤ 8) (hst0 : st0 = As.reverse ++ .ref a :: st) (hf : am_fit R d) (hcs : cu ≤ R.cells ∧ su ≤ R.slots) (kk : Ev G R Φ M cu su (pc + 3) ls (st) (hp S')) : Ev G R Φ M cu su pc ls st0 (hp S) := by
  obtain ⟨fds, h1, -⟩ := isC_of hca
  refine ev_invVN hM hd ok hw hn (hp_get h1) hcl hrr hst hst0 hf hcs (fun v h' hq => ?_)
  obtain ⟨rfl, rfl⟩ := hq
  exact kk
theorem es_callVti {G : am_G} {R : Room} {Φ : List Frame → Array Value → State → State → Prop} {M : am_M} {cu su pc : Nat} {ls : List (Option Value)} {st st0 : List Value} {S S' : am_S} {K : am_M} {idx n d : Nat} {a ci : Nat} {rr : vw_C} {As : List Value} {r : Int32} (hM : am_Met G d K (t_c (.inl r, S')) (t_s (.inl r, S')) (.ref a :: As) (hp S) (q_ti (.inl r, S')) (q_tx (.inl r, S'))) (hd : decode (mb M) pc = .ok (.invokevirtual idx, 3)) (ok : am_okV K n) (hw : Cond.methodLink (mo M) idx (my K) ∈ am_WT) (hn : As.length = n) (hca : isC ci a = true) (hcl : am_cl[ci]? = some rr) (hrr : rr.1 = (my K).cls) (hst : (st.map fun v => v.category).sum ≤ 8) (hst0 : st0 = As.reverse ++ .ref a :: st) (hf : am_fit R d) (hcs : cu ≤ R.cells ∧ su ≤ R.slots) (kk : Ev G R Φ M cu su (pc + 3) ls (.int r :: st) (hp S')) : Ev G R Φ M cu su pc ls st0 (hp S) := by
  obtain ⟨fds, h1, -⟩ := isC_of hca
  refine ev_invV (mc := 0) (ms := 0) hM hd ok hw hn (hp_get h1) hcl hrr hst hst0 hf hcs (fun v h' hq => ?_) (fun E h' hq => ?_)
  · obtain ⟨r2, h2, rfl, rfl⟩ := hq
    cases h2
    exact kk
  · obtain ⟨e, h2, -⟩ := hq
    cases h2
theorem es_callVx {G : am_G} {D : Nat} {M : am_M} {pc : Nat} {ls : List (Option Value)} {st st0 : List Value} {S : am_S} {h0 : am_H} {Qr qr : Option Value → am_H → Prop} {o : am_T} {K : am_M} {idx n d : Nat} {a ci : Nat} {rr : vw_C} {As : List Value} (hM : am_Met G d K (t_c o) (t_s o) (.ref a :: As) (hp S) qr (q_tx o)) (hno : ∀ v h, qr v h → False) (hd : decode (mb M) pc = .ok (.invokevirtual idx, 3)) (ok : am_okV K n) (hw : Cond.methodLink (mo M) idx (my K) ∈ am_WT) (hn : As.length = n) (hca : isC ci a = true) (hcl : am_cl[ci]? = some rr) (hrr : rr.1 = (my K).cls) (hst : (st.map fun v => v.category).sum ≤ 8) (hst0 : st0 = As.reverse ++ .ref a :: st) (hf : am_fit (am_R D (t_c o) (t_s o)) d) (hh : mh M = []) : Ev G (am_R D (t_c o) (t_s o)) (am_Φ G h0 (t_c o) (t_s o) Qr (q_tx o)) M 0 0 pc ls st0 (hp S) := by
  obtain ⟨fds, h1, -⟩ := isC_of hca
  refine ev_invV hM hd ok hw hn (hp_get h1) hcl hrr hst hst0 hf ⟨by rw [Nat.zero_add]; exact Nat.le_refl _, by rw [Nat.zero_add]; exact Nat.le_refl _⟩ (fun v h' hq => (hno v h' hq).elim) (fun E h' hq hz => ?_)
  exact evx_out hh (by rw [Nat.zero_add]; exact Nat.le_refl _) (by rw [Nat.zero_add]; exact Nat.le_refl _) hz hq
theorem es_callVtv {G : am_G} {R : Room} {Φ : List Frame → Array Value → State → State → Prop} {M : am_M} {cu su pc : Nat} {ls : List (Option Value)} {st st0 : List Value} {S S' : am_S} {K : am_M} {idx n d : Nat} {a ci : Nat} {rr : vw_C} {As : List Value} {r : Int32} (hM : am_Met G d K (t_c (.inl r, S')) (t_s (.inl r, S')) (.ref a :: As) (hp S) (q_tv (.inl r, S')) (q_tx (.inl r, S'))) (hd : decode (mb M) pc = .ok (.invokevirtual idx, 3)) (ok : am_okV K n) (hw : Cond.methodLink (mo M) idx (my K) ∈ am_WT) (hn : As.length = n) (hca : isC ci a = true) (hcl : am_cl[ci]? = some rr) (hrr : rr.1 = (my K).cls) (hst : (st.map fun v => v.category).sum ≤ 8) (hst0 : st0 = As.reverse ++ .ref a :: st) (hf : am_fit R d) (hcs : cu ≤ R.cells ∧ su ≤ R.slots) (kk : Ev G R Φ M cu su (pc + 3) ls (st) (hp S')) : Ev G R Φ M cu su pc ls st0 (hp S) := by
  obtain ⟨fds, h1, -⟩ := isC_of hca
  refine ev_invV (mc := 0) (ms := 0) hM hd ok hw hn (hp_get h1) hcl hrr hst hst0 hf hcs (fun v h' hq => ?_) (fun E h' hq => ?_)
  · obtain ⟨r2, h2, rfl, rfl⟩ := hq
    cases h2
    exact kk
  · obtain ⟨e, h2, -⟩ := hq
    cases h2
theorem es_callSti {G : am_G} {R : Room} {Φ : List Frame → Array Value → State → State → Prop} {M : am_M} {cu su pc : Nat} {ls : List (Option Value)} {st st0 : List Value} {S S' : am_S} {K : am_M} {idx n d : Nat} {As : List Value} {r : Int32} (hM : am_Met G d K (t_c (.inl r, S')) (t_s (.inl r, S')) As (hp S) (q_ti (.inl r, S')) (q_tx (.inl r, S'))) (hd : decode (mb M) pc = .ok (.invokestatic idx, 3)) (ok : am_okS K n) (hw : Cond.methodLink (mo M) idx (my K) ∈ am_WT) (hn : As.length = n) (hst : (st.map fun v => v.category).sum ≤ 8) (hst0 : st0 = As.reverse ++ st) (hf : am_fit R d) (hcs : cu ≤ R.cells ∧ su ≤ R.slots) (kk : Ev G R Φ M cu su (pc + 3) ls (.int r :: st) (hp S')) : Ev G R Φ M cu su pc ls st0 (hp S) := by
  refine ev_invS (mc := 0) (ms := 0) hM hd ok hw hn hst hst0 hf hcs (fun v h' hq => ?_) (fun E h' hq => ?_)
  · obtain ⟨r2, h2, rfl, rfl⟩ := hq
    cases h2
    exact kk
  · obtain ⟨e, h2, -⟩ := hq
    cases h2
theorem es_callSx {G : am_G} {D : Nat} {M : am_M} {pc : Nat} {ls : List (Option Value)} {st st0 : List Value} {S : am_S} {h0 : am_H} {Qr qr : Option Value → am_H → Prop} {o : am_T} {K : am_M} {idx n d : Nat} {As : List Value} (hM : am_Met G d K (t_c o) (t_s o) As (hp S) qr (q_tx o)) (hno : ∀ v h, qr v h → False) (hd : decode (mb M) pc = .ok (.invokestatic idx, 3)) (ok : am_okS K n) (hw : Cond.methodLink (mo M) idx (my K) ∈ am_WT) (hn : As.length = n) (hst : (st.map fun v => v.category).sum ≤ 8) (hst0 : st0 = As.reverse ++ st) (hf : am_fit (am_R D (t_c o) (t_s o)) d) (hh : mh M = []) : Ev G (am_R D (t_c o) (t_s o)) (am_Φ G h0 (t_c o) (t_s o) Qr (q_tx o)) M 0 0 pc ls st0 (hp S) := by
  refine ev_invS hM hd ok hw hn hst hst0 hf ⟨by rw [Nat.zero_add]; exact Nat.le_refl _, by rw [Nat.zero_add]; exact Nat.le_refl _⟩ (fun v h' hq => (hno v h' hq).elim) (fun E h' hq hz => ?_)
  exact evx_out hh (by rw [Nat.zero_add]; exact Nat.le_refl _) (by rw [Nat.zero_add]; exact Nat.le_refl _) hz hq
theorem es_callStv {G : am_G} {R : Room} {Φ : List Frame → Array Value → State → State → Prop} {M : am_M} {cu su pc : Nat} {ls : List (Option Value)} {st st0 : List Value} {S S' : am_S} {K : am_M} {idx n d : Nat} {As : List Value} {r : Int32} (hM : am_Met G d K (t_c (.inl r, S')) (t_s (.inl r, S')) As (hp S) (q_tv (.inl r, S')) (q_tx (.inl r, S'))) (hd : decode (mb M) pc = .ok (.invokestatic idx, 3)) (ok : am_okS K n) (hw : Cond.methodLink (mo M) idx (my K) ∈ am_WT) (hn : As.length = n) (hst : (st.map fun v => v.category).sum ≤ 8) (hst0 : st0 = As.reverse ++ st) (hf : am_fit R d) (hcs : cu ≤ R.cells ∧ su ≤ R.slots) (kk : Ev G R Φ M cu su (pc + 3) ls (st) (hp S')) : Ev G R Φ M cu su pc ls st0 (hp S) := by
  refine ev_invS (mc := 0) (ms := 0) hM hd ok hw hn hst hst0 hf hcs (fun v h' hq => ?_) (fun E h' hq => ?_)
  · obtain ⟨r2, h2, rfl, rfl⟩ := hq
    cases h2
    exact kk
  · obtain ⟨e, h2, -⟩ := hq
    cases h2
theorem nq_i {e : Nat} {S : am_S} : ∀ v h, q_ti (.inr e, S) v h → False := by
  intro v h hq
  obtain ⟨r, h2, -⟩ := hq
  cases h2
theorem nq_v {e : Nat} {S : am_S} : ∀ v h, q_tv (.inr e, S) v h → False := by
  intro v h hq
  obtain ⟨r, h2, -⟩ := hq
  cases h2
theorem ax_ofWF {l : Launch} {y : MethodName} {ws ws' : List Cond} {rm : Room} {Pc : Array Value → State → Prop} {Qc : Array Value → State → Outcome → State → Prop} {XC : String → State → State → Prop} {mc ms : Nat} {free : Addr → Prop} {cc : ByteArray} {maxL : Nat} {ret : Option FieldType}
    (hy : plainFor y = true) (hw : ws = Cond.code y cc maxL ret :: ws')
    (body : ∀ p e s m args below meth c s₁, BodyLoose p l y (headSpec ws rm) cc maxL ret e s m args below meth c s₁ → c.maxLocals = maxL → (∀ x ∈ c.exceptionTable.toList, False) → Pc args s →
      W p l e (headSpec ws rm).room s m args below meth c s.heap [] 0 0 (vx_MQ below Qc XC args s mc ms free) (entryFrame m args maxL)) : vx_Met l y ws rm Pc Qc XC mc ms free := by
  refine MetFree.of_bodySF (code := cc) (maxLocals := maxL) (ret := ret) hy ?_ ?_
  · intro args s m h hn
    obtain ⟨meth, c, h1, h2, h3, h4, h5, h6, -, -⟩ := Cond.code_spec hn (atoms_spec (ws := ws) h _ (by rw [hw]; exact List.mem_cons_self))
    exact ⟨meth, c, h1, h2, h3, h4, h5, h6⟩
  · intro p e s m args below meth c s₁ B hml hP _
    have hh0 : s₁.heap = s.heap := by rw [B.state]; rfl
    have ht : ∀ x ∈ c.exceptionTable.toList, False := by
      obtain ⟨meth9, c9, h1, h2, -, -, -, -, h7, -⟩ := Cond.code_spec B.named (atoms_spec (ws := ws) B.pre _ (by rw [hw]; exact List.mem_cons_self))
      cases Option.some.inj (h1.symm.trans B.method)
      cases Option.some.inj (h2.symm.trans (Stand.of_body B).code)
      intro x hx
      rw [Array.isEmpty_iff.mp h7] at hx
      cases hx
    obtain ⟨t, a1, o, b1, b2, b3⟩ := body p e s m args below meth c s₁ B hml ht hP s₁ hh0 (Stand.of_body B)
    exact ⟨t, o, a1, b1, b2, b3⟩
theorem am_ofF {G : am_G} {d mc ms : Nat} {M : am_M} {as : List Value} {h : am_H} {Qr : Option Value → am_H → Prop} {Qx : String → am_H → Prop} (hy : plainFor (my M) = true) (ho : (my M).cls = mo M) (hh : mh M = []) (hc : as.all (fun v => v.category == 1) = true) (hn : as.length ≤ mL M)
    (body : Ev G (am_R d mc ms) (am_Φ G h mc ms Qr Qx) M 0 0 0 (am_ls0 as (mL M)) [] h) : am_Met G d M mc ms as h Qr Qx := by
  refine ax_ofWF hy rfl ?_
  intro p e s m args below meth c s₁ B hml ht hP
  obtain ⟨rfl, hO, hH, hZ⟩ := hP
  have hts := atoms_spec (ws := am_ws M) B.pre
  have hl := lv_entry (as.map (tv G)) (n := mL M) (by rw [am_slen as hc]; exact hn)
  rw [lg_entry_eq]
  generalize (lg_sl (as.map (tv G)) ++ List.replicate (mL M - (lg_sl (as.map (tv G))).length) Slot.unset).toArray = ls at hl ⊢
  refine body p e s m _ below meth c s.heap [] ls ⟨B.exec, B.bytes, B.returns, hml, ?_, fun w hw => hts w (List.mem_cons_of_mem _ hw), B.notSynchronized, (name_of_methodNamed B.named B.method).1, ?_⟩ hO (am_entry hc hl) hH hZ va_S.rf
  · rw [← ho]
    exact findClass_of_methodNamed B.named
  · rw [hh]
    cases hx : c.exceptionTable.toList with
    | nil => rfl
    | cons x t => exact (ht x (by rw [hx]; exact List.mem_cons_self)).elim

