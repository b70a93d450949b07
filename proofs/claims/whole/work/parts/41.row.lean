/-! a row of numbers (the reference's order), where it lies, and what State's methods do to it -/
def wr (r : Nat → Int32) (j : Nat) (v : Int32) : Nat → Int32 := fun i => if i = j then v else r i
theorem wr_eq (r : Nat → Int32) (j : Nat) (v : Int32) : wr r j v j = v := if_pos rfl
theorem wr_ne {r : Nat → Int32} {j i : Nat} {v : Int32} (h : ¬ i = j) : wr r j v i = r i := if_neg h
def pm (j : Nat) : Nat := if j < 8 then j else if j < 56 then j + 24 else j - 48
theorem pm_inj {i j : Nat} (hi : i < 80) (hj : j < 80) (h : pm i = pm j) : i = j := by
  unfold pm at h
  split at h <;> split at h <;> (try split at h) <;> (try split at h) <;> omega
theorem pm_lt {j : Nat} (h : j < 80) : pm j < 80 := by
  unfold pm
  split <;> (try split) <;> omega
theorem pm_at {p : Nat} : pm (72 + p) = 24 + p := by
  unfold pm
  split <;> (try split) <;> omega
theorem pm_he {p : Nat} : pm (64 + p) = 16 + p := by
  unfold pm
  split <;> (try split) <;> omega
theorem pm_rg {p : Nat} : pm (56 + p) = 8 + p := by
  unfold pm
  split <;> (try split) <;> omega
theorem pm_rd {x : Nat} (h : x < 6) : pm (2 + x) = 2 + x := by
  unfold pm
  split <;> (try split) <;> omega
theorem pm_hd {x p : Nat} (h : x < 6) (hp : p < 8) : pm (8 + 8 * x + p) = 32 + 8 * x + p := by
  unfold pm
  split <;> (try split) <;> omega
def RC (S : am_S) (k m : Nat) (r : Nat → Int32) : Prop := ∀ j, j < m → sg S (k + 1) (pm j) = r j
def RM (S : am_S) (b m : Nat) (r : Nat → Int32) : Prop := ∀ j, j < m → sg S 96 (b + j) = r j
theorem RC_sp {S : am_S} {k m j : Nat} {r : Nat → Int32} {v : Int32} (hm : m ≤ 80) (hj : j < 80) (h : RC S k m r) : RC (sp S (k + 1) (pm j) v) k m (wr r j v) := by
  intro i hi
  by_cases hij : i = j
  · subst hij
    rw [sgp, wr_eq]
  · rw [sgj (fun q => hij (pm_inj (by omega) hj q)), wr_ne hij]
    exact h i hi
theorem RC_same {S S' : am_S} {k m : Nat} {r : Nat → Int32} (h : RC S k m r) (hs : ∀ j, sg S' (k + 1) j = sg S (k + 1) j) : RC S' k m r := fun j hj => (hs _).trans (h j hj)
theorem RM_sp {S : am_S} {b m j : Nat} {r : Nat → Int32} {v : Int32} (h : RM S b m r) : RM (sp S 96 (b + j) v) b m (wr r j v) := by
  intro i hi
  by_cases hij : i = j
  · subst hij
    rw [sgp, wr_eq]
  · rw [sgj (by omega), wr_ne hij]
    exact h i hi
theorem RM_same {S S' : am_S} {b m : Nat} {r : Nat → Int32} (h : RM S b m r) (hs : ∀ j, j < m → sg S' 96 (b + j) = sg S 96 (b + j)) : RM S' b m r := fun j hj => (hs _ hj).trans (h j hj)
theorem RC_hd {S : am_S} {k m x p : Nat} {r : Nat → Int32} {v : Int32} (hm : m ≤ 80) (hx : x < 6) (hp : p < 8) (h : RC S k m r) : RC (sp S (k + 1) (32 + 8 * x + p) v) k m (wr r (8 + 8 * x + p) v) := by
  have h1 := RC_sp (j := 8 + 8 * x + p) (v := v) hm (by omega) h
  rwa [pm_hd hx hp] at h1
theorem RC_rg {S : am_S} {k m p : Nat} {r : Nat → Int32} {v : Int32} (hm : m ≤ 80) (hp : p < 8) (h : RC S k m r) : RC (sp S (k + 1) (8 + p) v) k m (wr r (56 + p) v) := by
  have h1 := RC_sp (j := 56 + p) (v := v) hm (by omega) h
  rwa [pm_rg] at h1
theorem RC_he {S : am_S} {k m p : Nat} {r : Nat → Int32} {v : Int32} (hm : m ≤ 80) (hp : p < 8) (h : RC S k m r) : RC (sp S (k + 1) (16 + p) v) k m (wr r (64 + p) v) := by
  have h1 := RC_sp (j := 64 + p) (v := v) hm (by omega) h
  rwa [pm_he] at h1
theorem RC_at {S : am_S} {k m p : Nat} {r : Nat → Int32} {v : Int32} (hm : m ≤ 80) (hp : p < 8) (h : RC S k m r) : RC (sp S (k + 1) (24 + p) v) k m (wr r (72 + p) v) := by
  have h1 := RC_sp (j := 72 + p) (v := v) hm (by omega) h
  rwa [pm_at] at h1
theorem RC_rd {S : am_S} {k m x : Nat} {r : Nat → Int32} {v : Int32} (hm : m ≤ 80) (hx : x < 6) (h : RC S k m r) : RC (sp S (k + 1) (2 + x) v) k m (wr r (2 + x) v) := by
  have h1 := RC_sp (j := 2 + x) (v := v) hm (by omega) h
  rwa [pm_rd hx] at h1
def St (k : Nat) : Prop := rf k 0 = k + 1 ∧ ln (k + 1) = 80
/-- sums -/
def sm (r : Nat → Int32) (a : Nat) : Nat → Int32
  | 0 => 0
  | n + 1 => sm r a n + r (a + n)
theorem sm_add (r : Nat → Int32) (a m n : Nat) : sm r a (m + n) = sm r a m + sm r (a + m) n := by
  induction n with
  | zero => exact (Int32.add_zero _).symm
  | succ n ih =>
    show sm r a (m + n) + r (a + (m + n)) = sm r a m + (sm r (a + m) n + r (a + m + n))
    rw [ih, ← Int32.add_assoc, Nat.add_assoc]
theorem sm_zero {r : Nat → Int32} {a n : Nat} (h : ∀ i, i < n → r (a + i) = 0) : sm r a n = 0 := by
  induction n with
  | zero => rfl
  | succ n ih =>
    show sm r a n + r (a + n) = 0
    rw [ih (fun i hi => h i (by omega)), h n (by omega)]
    rfl
theorem sm_ext {r r' : Nat → Int32} {a a' n : Nat} (h : ∀ i, i < n → r (a + i) = r' (a' + i)) : sm r a n = sm r' a' n := by
  induction n with
  | zero => rfl
  | succ n ih =>
    show sm r a n + r (a + n) = sm r' a' n + r' (a' + n)
    rw [ih (fun i hi => h i (by omega)), h n (by omega)]
theorem c_sum {N k a m : Nat} {S : am_S} (hk : St k) (ha : a + m ≤ 80) : ∀ (d n i : Nat) (v : Int32), d < n → i + d = m → b_X7_sumOf_5 N n k (nI a) (nI m) v (nI (a + i)) S = some (v + sm (sg S (k + 1)) (a + i) d, S) := by
  intro d
  induction d with
  | zero =>
    intro n i v hn hi
    cases n with
    | zero => omega
    | succ n =>
      unfold b_X7_sumOf_5
      rw [nIa, if_pos ((nIle (by omega) (by omega)).mpr (by omega))]
      show some (v, S) = some (v + 0, S)
      rw [Int32.add_zero]
  | succ d ih =>
    intro n i v hn hi
    cases n with
    | zero => omega
    | succ n =>
      unfold b_X7_sumOf_5
      rw [nIa, if_neg (fun q => by have := (nIle (by omega) (by omega)).mp q; omega), hk.1, hk.2, if_pos (inbN (by omega) (by omega)), nIc (by omega), nI1, Nat.add_assoc, ih n (i + 1) _ (by omega) (by omega)]
      have h1 := sm_add (sg S (k + 1)) (a + i) 1 d
      have h2 : sm (sg S (k + 1)) (a + i) 1 = sg S (k + 1) (a + i) := Int32.zero_add _
      rw [Nat.add_comm d 1, h1, h2, ← Int32.add_assoc, Nat.add_assoc]
theorem c_sumOf {N k a m : Nat} {S : am_S} (hN : 10000 ≤ N) (hk : St k) (ha : a + m ≤ 80) : f_X7_sumOf N k (nI a) (nI m) S = some (sm (sg S (k + 1)) a m, S) := by
  unfold f_X7_sumOf
  have h := c_sum (N := N) (S := S) hk ha m N 0 0 (by omega) (by omega)
  rw [Nat.add_zero, Int32.zero_add] at h
  exact h
/-- the row's own readings -/
def hIn (r : Nat → Int32) (x : Nat) : Int32 := sm r (8 + 8 * x) 8
theorem c_heldIn {N k m x : Nat} {S : am_S} {r : Nat → Int32} (hN : 10000 ≤ N) (hk : St k) (hx : x < 6) (hm : 72 ≤ m) (h : RC S k m r) : f_X7_heldIn N k (nI x) S = some (hIn r x, S) := by
  unfold f_X7_heldIn
  rw [l32, l8, nIm, nIa, c_sumOf hN hk (by omega), bd_some]
  have h1 : sm (sg S (k + 1)) (32 + x * 8) 8 = hIn r x := sm_ext (fun i hi => by
    rw [← h (8 + 8 * x + i) (by omega), pm_hd hx hi, Nat.mul_comm])
  rw [h1]
theorem c_dayNow {N k m : Nat} {S : am_S} {r : Nat → Int32} (hk : St k) (hm : 72 ≤ m) (h : RC S k m r) : f_X7_dayNow N k S = some (r 0, S) := by
  unfold f_X7_dayNow
  rw [hk.1, hk.2, l0, if_pos (inbN (by omega) (by omega)), nIc (by omega), ← h 0 (by omega)]
  rfl
theorem c_atOf {N k m p : Nat} {S : am_S} {r : Nat → Int32} (hk : St k) (hp : 72 + p < m) (hm : m ≤ 80) (h : RC S k m r) : f_X7_atOf N k (nI p) S = some (r (72 + p), S) := by
  unfold f_X7_atOf
  rw [hk.1, hk.2, l24, nIa, if_pos (inbN (by omega) (by omega)), nIc (by omega), ← h (72 + p) hp, pm_at]
theorem c_redOf {N k m x : Nat} {S : am_S} {r : Nat → Int32} (hk : St k) (hx : x < 6) (hm : 72 ≤ m) (h : RC S k m r) : f_X7_redOf N k (nI x) S = some (r (2 + x), S) := by
  unfold f_X7_redOf
  rw [hk.1, hk.2, l2, nIa, if_pos (inbN (by omega) (by omega)), nIc (by omega), ← h (2 + x) (by omega), pm_rd hx]
theorem c_regretOf {N k m p : Nat} {S : am_S} {r : Nat → Int32} (hk : St k) (hp : p < 8) (hm : 72 ≤ m) (h : RC S k m r) : f_X7_regretOf N k (nI p) S = some (r (56 + p), S) := by
  unfold f_X7_regretOf
  rw [hk.1, hk.2, l8, nIa, if_pos (inbN (by omega) (by omega)), nIc (by omega), ← h (56 + p) (by omega), pm_rg]
theorem c_heardBy {N k m p : Nat} {S : am_S} {r : Nat → Int32} (hk : St k) (hp : p < 8) (hm : 72 ≤ m) (h : RC S k m r) : f_X7_heardBy N k (nI p) S = some (r (64 + p), S) := by
  unfold f_X7_heardBy
  rw [hk.1, hk.2, l16, nIa, if_pos (inbN (by omega) (by omega)), nIc (by omega), ← h (64 + p) (by omega), pm_he]
theorem ixh (x p : Nat) : (32 + nI x * 8) + nI p = nI (32 + 8 * x + p) := by
  rw [l32, l8, nIm, nIa, nIa, Nat.mul_comm]
theorem c_heldOf {N k m x p : Nat} {S : am_S} {r : Nat → Int32} (hk : St k) (hx : x < 6) (hp : p < 8) (hm : 72 ≤ m) (h : RC S k m r) : f_X7_heldOf N k (nI x) (nI p) S = some (r (8 + 8 * x + p), S) := by
  unfold f_X7_heldOf
  rw [hk.1, hk.2, ixh, if_pos (inbN (by omega) (by omega)), nIc (by omega), ← h (8 + 8 * x + p) (by omega), pm_hd hx hp]
theorem c_onStrike {N k m : Nat} {S : am_S} {r : Nat → Int32} (hk : St k) (hm : 72 ≤ m) (h : RC S k m r) : f_X7_onStrike N k S = some (if r 1 = 1 then 1 else 0, S) := by
  unfold f_X7_onStrike
  rw [hk.1, hk.2, l1, if_pos (inbN (by omega) (by omega)), nIc (by omega)]
  have h1 : sg S (k + 1) 1 = r 1 := h 1 (by omega)
  rw [h1]
  split <;> rfl
/-- what a thing written to a row's cell does -/
def RCw (S S' : am_S) (k m : Nat) (r : Nat → Int32) : Prop := RC S' k m r ∧ Fr (fun a => a = k + 1) S S'
theorem c_think {N k m x p : Nat} {S : am_S} {r : Nat → Int32} {v : Int32} (hk : St k) (hx : x < 6) (hp : p < 8) (hm : 72 ≤ m) (hm2 : m ≤ 80) (h : RC S k m r) : Rn (f_X7_think N k (nI x) (nI p) v S) (fun S' => RCw S S' k m (wr (wr r (8 + 8 * x + p) (jmin 99 (r (8 + 8 * x + p) + v))) (56 + p) (jmin 999 (r (56 + p) + v)))) := by
  unfold f_X7_think
  rw [hk.1, hk.2, ixh, l8, nIa, if_pos (inbN (by omega) (by omega)), if_pos (inbN (by omega) (by omega)), if_pos (inbN (by omega) (by omega)), if_pos (inbN (by omega) (by omega)), nIc (by omega), nIc (by omega)]
  have e1 : sg S (k + 1) (32 + 8 * x + p) = r (8 + 8 * x + p) := by rw [← h _ (by omega), pm_hd hx hp]
  rw [sgj (by omega), e1]
  have e2 : sg S (k + 1) (8 + p) = r (56 + p) := by rw [← h _ (by omega), pm_rg]
  rw [e2]
  exact Rn_ret ⟨RC_rg hm2 hp (RC_hd hm2 hx hp h), Fr_sp (Fr_sp (Fr_rf _ _) rfl) rfl⟩
theorem c_hear {N k m p : Nat} {S : am_S} {r : Nat → Int32} {v : Int32} (hk : St k) (hp : p < 8) (hm : 72 ≤ m) (hm2 : m ≤ 80) (h : RC S k m r) : Rn (f_X7_hear N k (nI p) v S) (fun S' => RCw S S' k m (wr r (64 + p) (jmin 9999 (r (64 + p) + v)))) := by
  unfold f_X7_hear
  rw [hk.1, hk.2, l16, nIa, if_pos (inbN (by omega) (by omega)), if_pos (inbN (by omega) (by omega)), nIc (by omega)]
  have e1 : sg S (k + 1) (16 + p) = r (64 + p) := by rw [← h _ (by omega), pm_he]
  rw [e1]
  exact Rn_ret ⟨RC_he hm2 hp h, Fr_sp (Fr_rf _ _) rfl⟩
theorem c_letGo {N k m x p : Nat} {S : am_S} {r : Nat → Int32} (hk : St k) (hx : x < 6) (hp : p < 8) (hm : 72 ≤ m) (hm2 : m ≤ 80) (h : RC S k m r) : Rn (f_X7_letGo N k (nI x) (nI p) S) (fun S' => RCw S S' k m (wr (wr r (56 + p) (jmax 0 (r (56 + p) - r (8 + 8 * x + p)))) (8 + 8 * x + p) 0)) := by
  unfold f_X7_letGo
  rw [hk.1, hk.2, ixh, l8, nIa, if_pos (inbN (by omega) (by omega)), if_pos (inbN (by omega) (by omega)), if_pos (inbN (by omega) (by omega)), if_pos (inbN (by omega) (by omega)), nIc (by omega), nIc (by omega)]
  have e1 : sg S (k + 1) (32 + 8 * x + p) = r (8 + 8 * x + p) := by rw [← h _ (by omega), pm_hd hx hp]
  have e2 : sg S (k + 1) (8 + p) = r (56 + p) := by rw [← h _ (by omega), pm_rg]
  rw [e1, e2]
  exact Rn_ret ⟨RC_hd hm2 hx hp (RC_rg hm2 hp h), Fr_sp (Fr_sp (Fr_rf _ _) rfl) rfl⟩
theorem c_setRed {N k m x : Nat} {S : am_S} {r : Nat → Int32} {v : Int32} (hk : St k) (hx : x < 6) (hm2 : m ≤ 80) (h : RC S k m r) : Rn (f_X7_setRed N k (nI x) v S) (fun S' => RCw S S' k m (wr r (2 + x) v)) := by
  unfold f_X7_setRed
  rw [hk.1, hk.2, l2, nIa, if_pos (inbN (by omega) (by omega)), nIc (by omega)]
  exact Rn_ret ⟨RC_rd hm2 hx h, Fr_sp (Fr_rf _ _) rfl⟩
theorem c_turnTo {N k m p : Nat} {S : am_S} {r : Nat → Int32} {v : Int32} (hk : St k) (hp : p < 8) (hm2 : m ≤ 80) (h : RC S k m r) : Rn (f_X7_turnTo N k (nI p) v S) (fun S' => RCw S S' k m (wr r (72 + p) v)) := by
  unfold f_X7_turnTo
  rw [hk.1, hk.2, l24, nIa, if_pos (inbN (by omega) (by omega)), nIc (by omega)]
  exact Rn_ret ⟨RC_at hm2 hp h, Fr_sp (Fr_rf _ _) rfl⟩
theorem c_nextDay {N k m : Nat} {S : am_S} {r : Nat → Int32} (hk : St k) (hm : 72 ≤ m) (hm2 : m ≤ 80) (h : RC S k m r) : Rn (f_X7_nextDay N k S) (fun S' => RCw S S' k m (wr r 0 (r 0 + 1))) := by
  unfold f_X7_nextDay
  rw [hk.1, hk.2, l0, if_pos (inbN (by omega) (by omega)), if_pos (inbN (by omega) (by omega)), nIc (by omega)]
  have e1 : sg S (k + 1) 0 = r 0 := h 0 (by omega)
  rw [e1]
  exact Rn_ret ⟨RC_sp (j := 0) hm2 (by omega) h, Fr_sp (Fr_rf _ _) rfl⟩
theorem c_setStrike {N k m : Nat} {S : am_S} {r : Nat → Int32} {v : Int32} (hk : St k) (hm2 : m ≤ 80) (h : RC S k m r) : Rn (f_X7_setStrike N k v S) (fun S' => RCw S S' k m (wr r 1 (if v = 0 then 0 else 1))) := by
  unfold f_X7_setStrike b_X7_setStrike_14
  rw [hk.1, hk.2, l1, if_pos (inbN (by omega) (by omega)), nIc (by omega)]
  split
  · exact Rn_ret ⟨RC_sp (j := 1) hm2 (by omega) h, Fr_sp (Fr_rf _ _) rfl⟩
  · exact Rn_ret ⟨RC_sp (j := 1) hm2 (by omega) h, Fr_sp (Fr_rf _ _) rfl⟩
