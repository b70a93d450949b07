/-! which word a token is -/
section
variable {N : Nat}
def kws (w : Nat) : Nat → Nat → Nat
  | 0, _ => 18
  | d + 1, k => if vw k = w then k else kws w d (k + 1)
def kw (w : Nat) : Nat := kws w 18 0
theorem kws_le (w : Nat) : ∀ d k, k + d = 18 → kws w d k ≤ 18 := by
  intro d
  induction d with
  | zero => intro k _; exact Nat.le_refl _
  | succ d ih =>
    intro k h
    unfold kws
    split
    · omega
    · exact ih (k + 1) (by omega)
theorem kws_vw (w : Nat) : ∀ d k, kws w d k < 18 → vw (kws w d k) = w := by
  intro d
  induction d with
  | zero => intro k h; exact absurd h (by unfold kws; omega)
  | succ d ih =>
    intro k
    unfold kws
    split
    · intro _; assumption
    · exact ih (k + 1)
theorem kw_vw : ∀ k, k < 18 → kw (vw k) = k := by decide +kernel
theorem kw_iff {w k : Nat} (hk : k < 18) : kw w = k ↔ w = vw k := by
  constructor
  · intro h
    have := kws_vw w 18 0 (by show kw w < 18; omega)
    rw [← this]
    show vw (kw w) = vw k
    rw [h]
  · intro h
    rw [h]
    exact kw_vw k hk
theorem kw_le (w : Nat) : kw w ≤ 18 := kws_le w 18 0 rfl
theorem kw_0 : kw 0 = 18 := by decide +kernel
def kI (k : Nat) : Int32 := if k = 18 then -1 else nI k
theorem i64 {a b : Nat} (ha : a < 2 ^ 40) (hb : b < 2 ^ 40) : lg_cmp (Int64.ofNat a) (Int64.ofNat b) = 0 ↔ a = b := by
  have h1 : Int64.ofNat a = Int64.ofNat b ↔ a = b := by
    constructor
    · intro h
      have h2 := congrArg Int64.toInt h
      rw [Int64.toInt_ofNat_of_lt (by omega), Int64.toInt_ofNat_of_lt (by omega)] at h2
      omega
    · intro h; rw [h]
  unfold lg_cmp
  by_cases z : a = b
  · subst z
    have h3 : ¬ (Int64.ofNat a > Int64.ofNat a) := Int64.lt_irrefl
    rw [if_neg h3, if_pos rfl]
    exact ⟨fun _ => rfl, fun _ => rfl⟩
  · have h4 : ¬ Int64.ofNat a = Int64.ofNat b := fun q => z (h1.mp q)
    constructor
    · intro h
      split at h
      · exact absurd h (by decide)
      · exact absurd h (by decide)
    · intro h
      exact absurd h z
theorem vw_lt : ∀ k, k < 18 → vw k < 2 ^ 40 := by decide +kernel
theorem m_kwl {w : Nat} {S : am_S} (hw : w < 2 ^ 40) (hl : lg S 0 = Int64.ofNat w) : ∀ d n k, k + d = 18 → d < n → b_X10_knownWord_21 N n 78 (nI k) S = some (kI (kws w d k), S) := by
  intro d
  induction d with
  | zero =>
    intro n k h1 h2
    obtain ⟨m, rfl⟩ : ∃ m, n = m + 1 := ⟨n - 1, by omega⟩
    unfold b_X10_knownWord_21
    rw [l18, leT (by omega) (by omega)]
    rfl
  | succ d ih =>
    intro n k h1 h2
    obtain ⟨m, rfl⟩ : ∃ m, n = m + 1 := ⟨n - 1, by omega⟩
    unfold b_X10_knownWord_21 kws
    rw [l18, leF (by omega) (by omega), m_lett k (by omega), bd_some, hl]
    by_cases z : vw k = w
    · rw [if_pos ((i64 (vw_lt k (by omega)) hw).mpr z), if_pos z]
      unfold kI
      rw [if_neg (by omega)]
    · rw [if_neg (fun q => z ((i64 (vw_lt k (by omega)) hw).mp q)), if_neg z, nI1]
      exact ih m (k + 1) (by omega) (by omega)
theorem ms2 {k : Nat} : ms k = 1 ↔ k = 2 := by
  unfold ms
  repeat' split
  all_goals omega
theorem ms_lt (k : Nat) : ms k < 5 := by
  unfold ms
  repeat' split
  all_goals omega
theorem tln_lt {b : Tx} {e : Nat} {T : Tk} (hb : TxI b) (h : TkI b e T) : tln T ≤ 700 := by
  have := tHi h
  have := hb.1
  unfold tln
  omega
theorem m_kw {b : Tx} {e : Nat} {T : Tk} {S : am_S} (hN : 10000 ≤ N) (hb : TxI b) (hI : TkI b e T) (h : TM S b T) : f_X10_knownWord N 78 S = some (kI (kw (wdn b T)), S) := by
  obtain ⟨-, -, h20, -, h22, -, -, hl⟩ := h
  have hm := ms_lt T.2.2
  have ht := tln_lt hb hI
  unfold f_X10_knownWord b_X10_knownWord_17 wdn
  rw [h20, h22, l1]
  by_cases z : T.2.2 = 2
  · rw [eqT (ms2.mpr z), l7]
    by_cases y : tln T ≤ 7
    · rw [leT y (by omega), if_pos ⟨z, y⟩]
      have hp := pkw_lt (b := b) (p := T.1) (n := tln T) (fun i a c => (tWd hI (Or.inl z) i a (by have := tLe hI; unfold tln at c; omega)).trans z)
      have h7 : 32 ^ tln T ≤ 32 ^ 7 := Nat.pow_le_pow_right (by omega) y
      have hl' : lg S 0 = Int64.ofNat (pkw b T.1 (tln T)) := by
        rw [hl]
        unfold mwd
        rw [if_pos z, Nat.min_eq_right y]
      exact m_kwl (by omega) hl' 18 N 0 rfl (by omega)
    · rw [leF (by omega) (by omega), if_neg (fun q => y q.2), kw_0]
      rfl
  · rw [eqF (fun q => z (ms2.mp q)) (by omega) (by omega), if_neg (fun q => z q.1), kw_0]
    rfl
/-! strings of the class -/
def chs (s i : Nat) : Nat := (strb s i).toNatClampNeg
def svk (s : Nat) : Nat → Nat
  | 0 => 0
  | n + 1 => 32 * svk s n + (chs s n - 96)
def skw (s : Nat) : Nat := ([0, 9, 10, 11, 12, 8, 13, 17, 0, 1, 4, 2, 3, 5, 6, 7, 8, 16, 15, 14] : List Nat).getD s 0
theorem str_ok : ∀ s, s < 20 → 1 ≤ s → strn s ≤ 7 ∧ (∀ i, i < strn s → 97 ≤ chs s i ∧ chs s i ≤ 122 ∧ strb s i = nI (chs s i)) ∧ svk s (strn s) = vw (skw s) ∧ skw s < 18 := by decide +kernel
theorem char_ok : ∀ x, x < 128 → isCh (UInt32.toInt32 (Int32.toUInt32 (nI x &&& 255) % 65536)) = true ∧ UInt32.toInt32 (Int32.toUInt32 (nI x &&& 255) % 65536) = nI x := by decide +kernel
theorem c_char {s i : Nat} {S : am_S} (hs : s < 20) (hs1 : 1 ≤ s) (hi : i < strn s) : f_J0_charAt_5068e N s (nI i) S = some (nI (chs s i), S) := by
  obtain ⟨h1, h2, -⟩ := str_ok s hs hs1
  obtain ⟨h3, h4, h5⟩ := h2 i hi
  obtain ⟨h6, h7⟩ := char_ok (chs s i) (by omega)
  rw [h7] at h6
  unfold f_J0_charAt_5068e f_J0_isLatin1_aae02 b_J0_isLatin1_aae02_18 f_J1_charAt_3b067 f_J0_checkIndex_df160 f_J3_checkIndex_8e157
  rw [one0, zer0, isB1, ckT, bd_some, one0, lt0F (by omega), ltT hi (by omega), bd_some, bv_some, inbT hi (by omega), nIc (by omega), h5, h7, h6, ckT, bd_some, h6, ckT]
theorem c_slen {s : Nat} {S : am_S} (hs : s < 20) (hs1 : 1 ≤ s) : f_J0_length_8abf5 N s S = some (nI (strn s), S) := by
  unfold f_J0_length_8abf5 f_J0_coder_7d493 b_J0_coder_7d493_14
  rw [one0, isB0, ckT, bd_some, show ((0 : Int32) &&& (31 : Int32)) = 0 by decide]
  congr 2
  exact Int32.shiftRight_zero
theorem pk_inj {b : Tx} {p s : Nat} (hs : ∀ i, i < strn s → 97 ≤ chs s i ∧ chs s i ≤ 122) : ∀ n m, m ≤ strn s → (∀ i, i < n → 97 ≤ b.2 (p + i) ∧ b.2 (p + i) ≤ 122) → pkw b p n = svk s m → n = m ∧ ∀ i, i < n → b.2 (p + i) = chs s i := by
  intro n
  induction n with
  | zero =>
    intro m hm _ h
    cases m with
    | zero => exact ⟨rfl, fun i hi => by omega⟩
    | succ m =>
      have := hs m (by omega)
      unfold pkw svk at h
      omega
  | succ n ih =>
    intro m hm hn h
    have h1 := hn n (by omega)
    cases m with
    | zero =>
      unfold pkw svk at h
      omega
    | succ m =>
      have h2 := hs m (by omega)
      unfold pkw svk at h
      obtain ⟨h3, h4⟩ := ih m (by omega) (fun i hi => hn i (by omega)) (by omega)
      refine ⟨by omega, fun i hi => ?_⟩
      by_cases z : i = n
      · subst z
        subst h3
        omega
      · exact h4 i (by omega)
theorem pkv_eq {b : Tx} {p s : Nat} : ∀ n, (∀ i, i < n → b.2 (p + i) = chs s i) → pkw b p n = svk s n := by
  intro n
  induction n with
  | zero => intro _; rfl
  | succ n ih =>
    intro h
    unfold pkw svk
    rw [ih (fun i hi => h i (by omega)), h n (by omega)]
theorem c_isw {b : Tx} {T : Tk} {s : Nat} {S : am_S} (hb : TxI b) (hs : s < 20) (hs1 : 1 ≤ s) (hB : TB S b) (h2 : sg S 3 2 = nI T.1) (hlen : T.1 + strn s ≤ b.1) : ∀ d n i, i + d = strn s → d < n → ((∀ j, i ≤ j → j < strn s → b.2 (T.1 + j) = chs s j) → b_X8_isWord_28 N n 3 s (nI i) S = some (1, S)) ∧ (∀ j, i ≤ j → j < strn s → ¬ b.2 (T.1 + j) = chs s j → b_X8_isWord_28 N n 3 s (nI i) S = some (0, S)) := by
  have hL := hb.1
  obtain ⟨h7, h8, -⟩ := str_ok s hs hs1
  intro d
  induction d with
  | zero =>
    intro n i h1 h3
    obtain ⟨m, rfl⟩ : ∃ m, n = m + 1 := ⟨n - 1, by omega⟩
    refine ⟨fun _ => ?_, fun j hj1 hj2 => by omega⟩
    unfold b_X8_isWord_28
    rw [c_slen hs hs1, bd_some, leT (by omega) (by omega)]
  | succ d ih =>
    intro n i h1 h3
    obtain ⟨m, rfl⟩ : ∃ m, n = m + 1 := ⟨n - 1, by omega⟩
    obtain ⟨c1, c2, c3⟩ := h8 i (by omega)
    obtain ⟨k1, k2⟩ := ih m (i + 1) (by omega) (by omega)
    have hx := hb.2 (T.1 + i)
    have key : b_X8_isWord_28 N (m + 1) 3 s (nI i) S = if b.2 (T.1 + i) = chs s i then b_X8_isWord_28 N m 3 s (nI (i + 1)) S else some (0, S) := by
      rw [b_X8_isWord_28]
      rw [c_slen hs hs1, bd_some, leF (by omega) (by omega), hB.1, ar01, ckT, h2, nIa, n1, inbT (by omega) (by decide), c_char hs hs1 (by omega), bd_some, nIc (by omega), hB.2.2 _ (by omega), nI1]
      by_cases z : b.2 (T.1 + i) = chs s i
      · rw [if_pos z]
        have hv : sby (b.2 (T.1 + i)) = nI (b.2 (T.1 + i)) := if_pos (by omega)
        rw [hv, eqT z]
      · rw [if_neg z]
        refine if_neg (fun q => ?_)
        have hq : ∀ x y, x < 256 → y < 128 → sby x = nI y → x = y := by
          intro x y hx hy hxy
          unfold sby at hxy
          split at hxy
          · exact (nIeq (by omega) (by omega)).mp hxy
          · exfalso
            have h9 : ∀ x, x < 256 → 128 ≤ x → nI x - 256 < 0 := by decide +kernel
            have := h9 x hx (by omega)
            rw [hxy] at this
            exact nI0 (by omega) this
        exact z (hq _ _ hx (by omega) q)
    rw [key]
    constructor
    · intro h
      rw [if_pos (h i (Nat.le_refl _) (by omega))]
      exact k1 (fun j a c => h j (by omega) c)
    · intro j a c q
      by_cases z : b.2 (T.1 + i) = chs s i
      · rw [if_pos z]
        refine k2 j ?_ c q
        by_cases y : j = i
        · subst y
          exact absurd z q
        · omega
      · rw [if_neg z]
theorem c_word {b : Tx} {e : Nat} {T : Tk} {s : Nat} {S : am_S} (hN : 10000 ≤ N) (hb : TxI b) (hI : TkI b e T) (h : TC S b T) (hs : s < 20) (hs1 : 1 ≤ s) : f_X8_isWord N 3 s S = some (if kw (wdn b T) = skw s then 1 else 0, S) := by
  obtain ⟨hB, h2, h3, h4, -⟩ := h
  have hL := hb.1
  obtain ⟨c1, c2, c3, c4⟩ := str_ok s hs hs1
  have t1 := tLe hI
  have t2 := tHi hI
  have hk : T.2.2 < 62 := by
    by_cases z : T.2.2 = 0
    · omega
    · rw [(tNz hI z).2]
      exact kd_lt _
  unfold f_X8_isWord b_X8_isWord_24
  rw [h4, l2, h3, h2, nIs t1]
  have hno : ¬ (T.2.2 = 2 ∧ tln T = strn s) → ¬ kw (wdn b T) = skw s := by
    intro hn hq
    rw [kw_iff c4] at hq
    have hv0 : ¬ vw (skw s) = 0 := (by decide +kernel : ∀ k, k < 18 → ¬ vw k = 0) _ c4
    unfold wdn at hq
    split at hq
    · rename_i y
      have hw := tWd hI (Or.inl y.1)
      obtain ⟨p1, p2⟩ := pk_inj (b := b) (p := T.1) (s := s) (fun i hi => ⟨(c2 i hi).1, (c2 i hi).2.1⟩) (tln T) (strn s) (Nat.le_refl _) (fun i hi => kd2.mp ((hw (T.1 + i) (by omega) (by unfold tln at hi; omega)).trans y.1)) (hq.trans c3.symm)
      exact hn ⟨y.1, p1⟩
    · exact hv0 hq.symm
  by_cases z : T.2.2 = 2
  · rw [eqT z, c_slen hs hs1, bd_some]
    by_cases y : tln T = strn s
    · rw [eqT (show T.2.1 - T.1 = strn s from y)]
      have hw := tWd hI (Or.inl z)
      have hl : T.1 + strn s ≤ b.1 := by unfold tln at y; omega
      obtain ⟨k1, k2⟩ := c_isw (N := N) hb hs hs1 hB h2 hl (strn s) N 0 (by omega) (by omega)
      have hwd : wdn b T = pkw b T.1 (strn s) := by
        unfold wdn
        rw [if_pos ⟨z, by omega⟩, y]
      by_cases x : ∀ j, j < strn s → b.2 (T.1 + j) = chs s j
      · rw [if_pos ((kw_iff c4).mpr ((hwd.trans (pkv_eq _ x)).trans c3))]
        exact k1 (fun j _ c => x j c)
      · have hx : ¬ kw (wdn b T) = skw s := by
          intro hq
          rw [kw_iff c4, hwd] at hq
          obtain ⟨p1, p2⟩ := pk_inj (b := b) (p := T.1) (s := s) (fun i hi => ⟨(c2 i hi).1, (c2 i hi).2.1⟩) (strn s) (strn s) (Nat.le_refl _) (fun i hi => kd2.mp ((hw (T.1 + i) (by omega) (by unfold tln at y; omega)).trans z)) (hq.trans c3.symm)
          exact x p2
        rw [if_neg hx]
        obtain ⟨j, hj⟩ := Classical.not_forall.mp x
        have hj1 : j < strn s := Classical.byContradiction (fun q => hj (fun w => absurd w q))
        exact k2 j (by omega) hj1 (fun q => hj (fun _ => q))
    · rw [eqF (show ¬ T.2.1 - T.1 = strn s from y) (by omega) (by omega), if_neg (hno (fun q => y q.2))]
  · rw [eqF z (by omega) (by omega), if_neg (hno (fun q => z q.1))]
end
