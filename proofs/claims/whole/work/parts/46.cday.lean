/-! the class's day -/
theorem xor_nn {a b : Int32} (ha : 0 ≤ a.toInt) (hb : 0 ≤ b.toInt) : 0 ≤ (a ^^^ b) := by
  have key : ∀ x : Int32, 0 ≤ x.toInt ↔ x.toBitVec.msb = false := fun x => by
    rw [BitVec.msb_eq_toInt]
    show 0 ≤ x.toBitVec.toInt ↔ _
    simp
  rw [Int32.le_iff_toInt_le, t0, key, Int32.toBitVec_xor, BitVec.msb_xor, (key a).mp ha, (key b).mp hb]
  rfl
theorem nId {a n : Nat} (ha : a < 2147483648) (hn : n < 2147483648) : nI a / nI n = nI (a / n) := (Int32.ofNat_div (by omega) (by omega)).symm
theorem nImod {a n : Nat} (ha : a < 2147483648) (hn : n < 2147483648) : nI a - nI a / nI n * nI n = nI (a % n) := by
  have h1 := Nat.div_mul_le_self a n
  rw [nId ha hn, nIm, nIs h1]
  congr 1
  have h2 := Nat.div_add_mod' a n
  omega
theorem c_fmod {N a n : Nat} {S : am_S} (ha : a < 2147483648) (hn : n < 2147483648) (h0 : 0 < n) : f_J9_floorMod_7cf53 N (nI a) (nI n) S = some (nI (a % n), S) := by
  unfold f_J9_floorMod_7cf53 b_J9_floorMod_7cf53_18
  rw [eq0F h0 hn, if_pos (xor_nn (by rw [nIi ha]; omega) (by rw [nIi hn]; omega)), nImod ha hn]
theorem c_wetOn {N t d : Nat} {c : Cy} {S : am_S} (ht : Ci t) (hC : CC S t c) (hd : d < 10000) : f_X1_wetOn N t (nI d) S = some (cwe c d, S) := by
  obtain ⟨-, -, ⟨-, -, t1, t2⟩, -⟩ := ht
  obtain ⟨-, -, ⟨⟨n, h1, h2, h3⟩, -⟩, -⟩ := hC
  unfold f_X1_wetOn b_X1_wetOn_25
  rw [h2, h3 d]
  by_cases hn : n = 0
  · subst hn
    rw [if_neg (by decide), if_pos rfl]
  · rw [oneT (by omega) (by omega), c_fmod (by omega) (by omega) (by omega), bd_some, t1, t2, inbT (by have := Nat.mod_lt d (show 0 < n by omega); omega) (by decide), nIc (by have := Nat.mod_lt d (show 0 < n by omega); omega), if_neg hn]
theorem c_boxOn {N t d : Nat} {c : Cy} {S : am_S} (ht : Ci t) (hC : CC S t c) (hd : d < 10000) : f_X1_boxOn N t (nI d) S = some (cro c d, S) := by
  obtain ⟨-, -, ⟨t1, t2, -, -⟩, -⟩ := ht
  obtain ⟨-, -, ⟨-, ⟨n, h1, h2, h3⟩⟩, -⟩ := hC
  unfold f_X1_boxOn b_X1_boxOn_25
  rw [h2, h3 d]
  by_cases hn : n = 0
  · subst hn
    rw [if_neg (by decide), if_pos rfl]
  · rw [oneT (by omega) (by omega), c_fmod (by omega) (by omega) (by omega), bd_some, t1, t2, inbT (by have := Nat.mod_lt d (show 0 < n by omega); omega) (by decide), nIc (by have := Nat.mod_lt d (show 0 < n by omega); omega), if_neg hn]
theorem c_passDayWith {N t k : Nat} {wet vis : Int32} {c : Cy} {S : am_S} {r : Nat → Int32} (hN : 10000 ≤ N) (ht : Ci t) (hk : Sk k) (hI : CI c) (hv : Vi c vis) (hC : CC S t c) (hR : RC S k (72 + cnp c) r) (hRI : RI c r) : Rn (f_X1_passDayWith N t k wet vis S) (fun q => q.1 = dayF c wet vis r ∧ RC q.2 k (72 + cnp c) (day_ c wet vis r) ∧ Fr (dW t k) S q.2) := by
  have hnb := hI.1.1
  have hnp := hI.1.2
  obtain ⟨-, ⟨-, -, -, -, -, -, ti1, ti2⟩, -, -, ti9, -⟩ := id ht
  obtain ⟨hk0, hk1, hk2⟩ := id hk
  unfold f_X1_passDayWith
  refine lp0 (fun n (s : am_S) i => b_X1_passDayWith_3 N n t k wet vis i s) (fun i s => CC s t c ∧ RC s k (72 + cnp c) (d1s c r i) ∧ Fr (dW t k) S s) _ (cnp c) ?_ ?_ N S (by omega) ⟨hC, hR, Fr_rf _ _⟩
  · intro n s hs
    obtain ⟨h1, h2, h3⟩ := hs
    have hRI1 := RI_d1s hI hRI (cnp c) (Nat.le_refl _)
    show Rn (b_X1_passDayWith_3 N (n + 1) t k wet vis (nI (cnp c)) s) _
    unfold b_X1_passDayWith_3 b_X1_passDayWith_74
    rw [h1.1.2, leT (Nat.le_refl _) (by omega)]
    have fin : ∀ (f : Int32) (S1 : am_S) (rb : Nat → Int32), CC S1 t c → RC S1 k (72 + cnp c) rb → Fr (dW t k) S S1 → dayF c wet vis r = f → day_ c wet vis r = wr (d3s rb (cnb c)) 0 (d3s rb (cnb c) 0 + 1) → Rn (b_X1_passDayWith_77 N N t k f 0 S1) (fun q => q.1 = dayF c wet vis r ∧ RC q.2 k (72 + cnp c) (day_ c wet vis r) ∧ Fr (dW t k) S q.2) := by
      intro f S1 rb g1 g2 g3 g4 g5
      refine Rn_mono (c_day3 hN ht hk hI (by omega) (by omega) (cnb c) N 0 S1 rb (by omega) (by omega) g1 g2) (fun q hq => ⟨hq.1.trans g4.symm, ?_, Fr_tr g3 hq.2.2⟩)
      rw [g5]
      exact hq.2.1
    by_cases q1 : vis = -1
    · rw [if_pos q1]
      have hf : ¬ fet c vis r = true := by
        unfold fet
        rw [q1]
        simp
      refine fin 0 s _ h1 h2 h3 ?_ ?_
      · unfold dayF
        rw [if_neg hf]
      · unfold day_
        simp only [if_neg hf]
    · rw [if_neg q1, c_onStrike hk0 (by omega) h2, bd_some, d1s_low (by omega) hI _ (Nat.le_refl _)]
      by_cases q2 : r 1 = 1
      · rw [if_pos q2, if_neg (by decide)]
        have hf : ¬ fet c vis r = true := by
          unfold fet
          rw [q2]
          simp
        refine fin 0 s _ h1 h2 h3 ?_ ?_
        · unfold dayF
          rw [if_neg hf]
        · unfold day_
          simp only [if_neg hf]
      · rw [if_neg q2, if_pos rfl]
        have hf : fet c vis r = true := by
          unfold fet
          simp [q1, q2]
        rcases hv with hv | ⟨x, hx, hv⟩
        · exact absurd hv q1
        · rw [hv]
          unfold f_X1_fetchAll
          refine Rn_bd (Rn_mono (c_fetch (wet := wet) hN ht hk hI hx (cnp c) N 0 s (d1s c r (cnp c)) (by omega) (by omega) h1 h2 (RI_d2s hI hRI1 hx)) (fun q hq => ?_))
          rw [← hv]
          refine fin _ q.2 _ (CC_day ht hk h1 hq.2.2) hq.2.1 (Fr_tr h3 hq.2.2) ?_ ?_
          · unfold dayF
            rw [if_pos hf, hq.1, hv, nIc (by omega)]
          · unfold day_
            simp only [if_pos hf]
            rw [hv, nIc (by omega)]
  · intro n i s hi hs ih
    obtain ⟨h1, h2, h3⟩ := hs
    show Rn (b_X1_passDayWith_3 N (n + 1) t k wet vis (nI i) s) _
    unfold b_X1_passDayWith_3 b_X1_passDayWith_44
    rw [h1.1.2, leF (by omega) (by omega), ti1, ti2, inbT (by omega) (by decide), nIc (by omega), h1.2.1.2.2.2 i hi, nI1]
    rcases cne_in (p := i) hI with q | ⟨x, hx, q⟩
    · rw [if_pos q]
      refine ih s ⟨h1, ?_, h3⟩
      show RC s k _ (d1 c (d1s c r i) i)
      rw [d1_ne q]
      exact h2
    · rw [q, if_neg (nIn (by omega))]
      refine Rn_bd (Rn_mono (c_thoughts hN ht hk h1 hI hi (by omega) (by omega) (by omega) h2) (fun q1 hq => ?_))
      have hF1 : Fr (dW t k) s q1.2 := Fr_wk hq.2 (fun a ha => by unfold dW; omega)
      refine Rn_bv (Rn_mono (c_think (r := d1s c r i) hk0 (by omega) (by omega) (by omega) (by omega) (RC_same h2 (fun j => hq.2.1 _ j (by omega)))) (fun S2 hS => ?_))
      have hF2 : Fr (dW t k) s S2 := Fr_tr hF1 (Fr_wk hS.2 (fun a ha => Or.inl ha))
      refine ih S2 ⟨CC_day ht hk h1 hF2, ?_, Fr_tr h3 hF2⟩
      show RC S2 k _ (d1 c (d1s c r i) i)
      rw [d1_eq q (by omega), ← hq.1]
      exact hS.1
/-- an ordinary day -/
def dayO (c : Cy) (d : Nat) (r : Nat → Int32) : Nat → Int32 := day_ c (cwe c d) (cro c d) r
def dayOF (c : Cy) (d : Nat) (r : Nat → Int32) : Int32 := dayF c (cwe c d) (cro c d) r
theorem Vi_cro {c : Cy} {d : Nat} (hI : CI c) : Vi c (cro c d) := by
  rcases hI.2.2.1.2 d with ⟨-, h⟩ | h
  · exact Or.inl h
  · exact Or.inr h
theorem c_passDay {N t k d : Nat} {c : Cy} {S : am_S} {r : Nat → Int32} (hN : 10000 ≤ N) (ht : Ci t) (hk : Sk k) (hI : CI c) (hC : CC S t c) (hR : RC S k (72 + cnp c) r) (hRI : RI c r) (hd : r 0 = nI d) (hd2 : d < 10000) : Rn (f_X1_passDay N t k S) (fun q => q.1 = dayOF c d r ∧ RC q.2 k (72 + cnp c) (dayO c d r) ∧ Fr (dW t k) S q.2) := by
  have hnp := hI.1.2
  unfold f_X1_passDay
  rw [c_dayNow hk.1 (by omega) hR, bd_some, hd, c_wetOn ht hC hd2, bd_some, c_dayNow hk.1 (by omega) hR, bd_some, hd, c_boxOn ht hC hd2, bd_some]
  exact Rn_bd (Rn_mono (c_passDayWith hN ht hk hI (Vi_cro hI) hC hR hRI) (fun q hq => Rn_ret hq))
/-- so many days -/
def dys (c : Cy) (d : Nat) (r : Nat → Int32) : Nat → Nat → Int32
  | 0 => r
  | n + 1 => dayO c (d + n) (dys c d r n)
theorem dys_in {c : Cy} {d : Nat} {r : Nat → Int32} (hI : CI c) (h : RI c r) (hd : r 0 = nI d) : ∀ n, d + n < 4999 → RI c (dys c d r n) ∧ dys c d r n 0 = nI (d + n) ∧ dys c d r n 1 = r 1 ∧ ∀ p, dys c d r n (72 + p) = r (72 + p) := by
  intro n
  induction n with
  | zero => intro _; exact ⟨h, hd, rfl, fun _ => rfl⟩
  | succ n ih =>
    intro hn
    obtain ⟨i1, i2, i3, i4⟩ := ih (by omega)
    obtain ⟨j1, j2, j3, j4⟩ := day_in (wet := cwe c (d + n)) (vis := cro c (d + n)) hI i1 (Vi_cro hI) i2 (by omega)
    exact ⟨j1, j2, j3.trans i3, fun p => (j4 p).trans (i4 p)⟩
