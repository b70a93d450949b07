/-! tokens of the model -/
section
variable {N : Nat}
theorem l41 : (41 : Int32) = nI 41 := rfl
theorem l42 : (42 : Int32) = nI 42 := rfl
theorem l43 : (43 : Int32) = nI 43 := rfl
theorem l45 : (45 : Int32) = nI 45 := rfl
theorem l47 : (47 : Int32) = nI 47 := rfl
theorem l57 : (57 : Int32) = nI 57 := rfl
theorem l59 : (59 : Int32) = nI 59 := rfl
theorem l60 : (60 : Int32) = nI 60 := rfl
theorem l61 : (61 : Int32) = nI 61 := rfl
theorem l96 : (96 : Int32) = nI 96 := rfl
theorem l97 : (97 : Int32) = nI 97 := rfl
theorem l122 : (122 : Int32) = nI 122 := rfl
def Fl (W : Nat → Nat → Prop) (S S' : am_S) : Prop := (∀ k j, ¬ W k j → sg S' k j = sg S k j) ∧ S'.2.2 = S.2.2 ∧ ∀ i, ¬ i = 0 → lg S' i = lg S i
theorem Fl_rf (W : Nat → Nat → Prop) (S : am_S) : Fl W S S := ⟨fun _ _ _ => rfl, rfl, fun _ _ => rfl⟩
theorem Fl_tr {W : Nat → Nat → Prop} {S S' S'' : am_S} (h : Fl W S S') (h' : Fl W S' S'') : Fl W S S'' := ⟨fun k j hk => (h'.1 k j hk).trans (h.1 k j hk), h'.2.1.trans h.2.1, fun i hi => (h'.2.2 i hi).trans (h.2.2 i hi)⟩
theorem Fl_wk {W W' : Nat → Nat → Prop} {S S' : am_S} (h : Fl W S S') (hw : ∀ k j, W k j → W' k j) : Fl W' S S' := ⟨fun k j hk => h.1 k j (fun q => hk (hw k j q)), h.2⟩
theorem sp_lg {S : am_S} {k j i : Nat} {v : Int32} : lg (sp S k j v) i = lg S i := rfl
theorem lp_sg {S : am_S} {k j i : Nat} {v : Int64} : sg (lp S i v) k j = sg S k j := rfl
theorem lp_lg {S : am_S} {i : Nat} {v : Int64} : lg (lp S i v) i = v := by
  unfold lg lp vp_updL
  simp
theorem lp_ln {S : am_S} {i j : Nat} {v : Int64} (h : ¬ j = i) : lg (lp S i v) j = lg S j := by
  unfold lg lp vp_updL
  simp [h]
theorem Fl_sp {W : Nat → Nat → Prop} {S S' : am_S} {k j : Nat} {v : Int32} (h : Fl W S S') (hk : W k j) : Fl W S (sp S' k j v) := ⟨fun a i ha => by
  by_cases z : a = k
  · subst z
    by_cases y : i = j
    · subst y
      exact absurd hk ha
    · rw [sgj y]
      exact h.1 _ _ ha
  · rw [sgn z]
    exact h.1 a i ha, h.2⟩
theorem Fl_lp {W : Nat → Nat → Prop} {S S' : am_S} {v : Int64} (h : Fl W S S') : Fl W S (lp S' 0 v) := ⟨fun a i ha => h.1 a i ha, h.2.1, fun i hi => (lp_ln hi).trans (h.2.2 i hi)⟩
theorem Fl_m {W : Nat → Nat → Prop} {S S' : am_S} (h : Fm W S S') : Fl W S S' := ⟨h.1, by rw [h.2], fun i _ => by unfold lg; rw [h.2]⟩
def mgW : Nat → Nat → Prop := fun k j => k = 78 ∧ 19 ≤ j ∧ j ≤ 24
theorem mgw {S S' : am_S} {j : Nat} {v : Int32} (h : Fl mgW S S') (hj : 19 ≤ j ∧ j ≤ 24) : Fl mgW S (sp S' 78 j v) := Fl_sp h ⟨rfl, hj⟩
def MB (S : am_S) (b : Tx) : Prop := sg S 78 18 = nI b.1 ∧ ∀ j, j < b.1 → sg S 85 j = nI (b.2 j)
theorem MB_f {S S' : am_S} {b : Tx} (h : MB S b) (hf : Fl mgW S S') : MB S' b := ⟨(hf.1 _ _ (by unfold mgW; omega)).trans h.1, fun j hj => (hf.1 _ _ (by unfold mgW; omega)).trans (h.2 j hj)⟩
def ms (k : Nat) : Nat := if k = 0 then 0 else if k = 1 then 4 else if k = 2 then 1 else if k = 3 then 2 else 3
def fby (b : Tx) (T : Tk) : Nat := if T.2.2 = 0 then 0 else b.2 T.1
def TM (S : am_S) (b : Tx) (T : Tk) : Prop := MB S b ∧ sg S 78 19 = nI T.2.1 ∧ sg S 78 20 = nI (ms T.2.2) ∧ sg S 78 21 = nI T.1 ∧ sg S 78 22 = nI (tln T) ∧ sg S 78 23 = nI (mvl b T) ∧ sg S 78 24 = nI (fby b T) ∧ lg S 0 = Int64.ofNat (mwd b T)
def bya (b : Tx) (k : Nat) : Nat := if k < b.1 then b.2 k else 0
theorem bya_lt {b : Tx} {k : Nat} (hb : TxI b) : bya b k < 256 := by
  unfold bya
  split
  · exact hb.2 k
  · omega
theorem m_byte {b : Tx} {k : Nat} {S : am_S} (hb : TxI b) (hB : MB S b) (hk : k < 100000) : f_X10_byteAt N 78 (nI k) S = some (nI (bya b k), S) := by
  have hL := hb.1
  unfold f_X10_byteAt b_X10_byteAt_18 bya
  rw [hB.1]
  by_cases z : b.1 ≤ k
  · rw [leT z (by omega), if_neg (by omega)]
    rfl
  · rw [leF (by omega) (by omega), r78_13, n85, inbT (by omega) (by decide), nIc (by omega), hB.2 k (by omega), if_pos (by omega)]
theorem m_letter {x : Nat} {S : am_S} (h : x < 256) : f_X10_isLetter N (nI x) S = some (if kd x = 2 then 1 else 0, S) := by
  unfold f_X10_isLetter b_X10_isLetter_16 b_X10_isLetter_17
  rw [l97, l122, isB0, isB1, ckT, ckT]
  by_cases z1 : x < 97
  · rw [ltT z1 (by omega), if_neg (by rw [kd2]; omega)]
  · rw [ltF (by omega) (by omega)]
    by_cases z2 : 122 < x
    · rw [ltT z2 (by omega), if_neg (by rw [kd2]; omega)]
    · rw [ltF (by omega) (by omega), if_pos (kd2.mpr (by omega))]
theorem m_digit {x : Nat} {S : am_S} (h : x < 256) : f_X10_isDigit N (nI x) S = some (if kd x = 3 then 1 else 0, S) := by
  unfold f_X10_isDigit b_X10_isDigit_16 b_X10_isDigit_17
  rw [l48, l57, isB0, isB1, ckT, ckT]
  by_cases z1 : x < 48
  · rw [ltT z1 (by omega), if_neg (by rw [kd3]; omega)]
  · rw [ltF (by omega) (by omega)]
    by_cases z2 : 57 < x
    · rw [ltT z2 (by omega), if_neg (by rw [kd3]; omega)]
    · rw [ltF (by omega) (by omega), if_pos (kd3.mpr (by omega))]
theorem one0 {α : Type} {X Y : α} : (if (1 : Int32) = 0 then X else Y) = Y := if_neg (by decide)
theorem zer0 {α : Type} {X Y : α} : (if (0 : Int32) = 0 then X else Y) = X := if_pos rfl
theorem b5 : Int32.toInt64 5 &&& (63 : Int64) = 5 := by decide
theorem sy64 : ∀ y, y < 32 → Int32.toInt64 (nI y) = Int64.ofNat y := by decide +kernel
theorem sh64 {w y : Nat} (hw : w < 2 ^ 40) (hy : y < 32) : (Int64.ofNat w <<< (Int32.toInt64 5 &&& (63 : Int64))) ||| Int32.toInt64 (nI y) = Int64.ofNat (32 * w + y) := by
  rw [b5, sy64 y hy, ← Int64.toBitVec_inj, Int64.toBitVec_or, Int64.toBitVec_shiftLeft]
  refine BitVec.eq_of_toNat_eq ?_
  show (BitVec.ofNat 64 w <<< (5 : BitVec 64) ||| BitVec.ofNat 64 y).toNat = (BitVec.ofNat 64 (32 * w + y)).toNat
  rw [BitVec.toNat_or, show (BitVec.ofNat 64 w <<< (5 : BitVec 64)) = BitVec.ofNat 64 w <<< 5 from rfl, BitVec.toNat_shiftLeft, BitVec.toNat_ofNat, BitVec.toNat_ofNat, BitVec.toNat_ofNat, Nat.mod_eq_of_lt (show w < 2 ^ 64 by omega), Nat.mod_eq_of_lt (show y < 2 ^ 64 by omega), Nat.mod_eq_of_lt (show 32 * w + y < 2 ^ 64 by omega), Nat.shiftLeft_eq, Nat.mod_eq_of_lt (show w * 2 ^ 5 < 2 ^ 64 by omega), ← Nat.shiftLeft_eq, ← Nat.shiftLeft_add_eq_or_of_lt (show y < 2 ^ 5 by omega), Nat.shiftLeft_eq]
  omega
theorem pkw_lt {b : Tx} {p : Nat} : ∀ {n : Nat}, (∀ i, p ≤ i → i < p + n → kd (b.2 i) = 2) → pkw b p n < 32 ^ n := by
  intro n
  induction n with
  | zero => intro _; exact Nat.one_pos
  | succ n ih =>
    intro h
    have h1 := ih (fun i a c => h i a (by omega))
    have h2 := kd2.mp (h (p + n) (by omega) (by omega))
    unfold pkw
    rw [Nat.pow_succ]
    omega
theorem m_end {b : Tx} {T : Tk} {S S0 : am_S} (hB : MB S b) (hle : T.1 ≤ T.2.1) (h19 : sg S 78 19 = nI T.2.1) (h20 : sg S 78 20 = nI (ms T.2.2)) (h21 : sg S 78 21 = nI T.1) (h23 : sg S 78 23 = nI (mvl b T)) (h24 : sg S 78 24 = nI (fby b T)) (hw : lg S 0 = Int64.ofNat (mwd b T)) (hf : Fl mgW S0 S) : Rn (b_X10_goes_331 N 78 S) (fun S' => TM S' b T ∧ Fl mgW S0 S') := by
  unfold b_X10_goes_331
  rw [h19, h21, nIs hle]
  exact Rn_ret ⟨⟨MB_f hB (mgw (Fl_rf _ _) (by omega)), (sgj (by omega)).trans h19, (sgj (by omega)).trans h20, (sgj (by omega)).trans h21, sgp _ _ _ _, (sgj (by omega)).trans h23, (sgj (by omega)).trans h24, hw⟩, mgw hf (by omega)⟩
theorem kdb {b : Tx} {k : Nat} (h : kd (bya b k) = 2 ∨ kd (bya b k) = 3) : k < b.1 ∧ bya b k = b.2 k := by
  unfold bya at h ⊢
  split at h
  · rename_i q
    rw [if_pos q]
    exact ⟨q, rfl⟩
  · exact absurd h (by decide)
/-- a word -/
theorem m_word {b : Tx} {p : Nat} {S0 : am_S} {Q : am_S → Prop} (hb : TxI b) : ∀ (n i : Nat) (S : am_S), MB S b → p + i ≤ b.1 → b.1 - (p + i) < n → (∀ j, p ≤ j → j < p + i → kd (b.2 j) = 2) → sg S 78 19 = nI (p + i) → sg S 78 21 = nI p → lg S 0 = Int64.ofNat (pkw b p (min 7 i)) → Fl mgW S0 S → (∀ S1, sg S1 78 19 = nI (rne b 2 (b.1 - (p + i)) (p + i)) → lg S1 0 = Int64.ofNat (pkw b p (min 7 (rne b 2 (b.1 - (p + i)) (p + i) - p))) → Fl (fun k j => k = 78 ∧ j = 19) S S1 → Rn (b_X10_goes_331 N 78 (sp S1 78 20 1)) Q) → Rn (b_X10_goes_108 N n 78 S) Q := by
  intro n
  have hL := hb.1
  induction n with
  | zero => intro i S _ _ h; omega
  | succ n ih =>
    intro i S hB hi hn hl h19 h21 hw hf hk
    have hx := bya_lt (b := b) (k := p + i) hb
    unfold b_X10_goes_108
    rw [h19, m_byte hb hB (by omega), bd_some, m_letter hx, bd_some]
    by_cases z : kd (bya b (p + i)) = 2
    · obtain ⟨y1, y2⟩ := kdb (Or.inl z)
      rw [y2] at z
      obtain ⟨d, hd⟩ : ∃ d, b.1 - (p + i) = d + 1 := ⟨b.1 - (p + i) - 1, by omega⟩
      have hs : rne b 2 (b.1 - (p + i)) (p + i) = rne b 2 (b.1 - (p + (i + 1))) (p + (i + 1)) := by
        rw [hd, show b.1 - (p + (i + 1)) = d by omega]
        show (if kd (b.2 (p + i)) = 2 then rne b 2 d (p + i + 1) else p + i) = _
        rw [if_pos z]
        rfl
      have hc := kd2.mp z
      rw [y2, if_pos z, one0, h19, h21, nIs (by omega), l7, show p + i - p = i by omega]
      have hl' : ∀ j, p ≤ j → j < p + (i + 1) → kd (b.2 j) = 2 := fun j a c => by
        by_cases q : j = p + i
        · rw [q]; exact z
        · exact hl j a (by omega)
      have next : ∀ S2, MB S2 b → sg S2 78 19 = nI (p + i) → sg S2 78 21 = nI p → lg S2 0 = Int64.ofNat (pkw b p (min 7 (i + 1))) → Fl mgW S0 S2 → Fl (fun k j => k = 78 ∧ j = 19) S S2 → Rn (b_X10_goes_159 N (b_X10_goes_108 N n) 78 S2) Q := by
        intro S2 g1 g2 g3 g4 g5 g6
        unfold b_X10_goes_159
        rw [g2, nI1]
        refine ih (i + 1) _ (MB_f g1 (mgw (Fl_rf _ _) (by omega))) (by omega) (by omega) hl' (sgp _ _ _ _) ((sgj (by omega)).trans g3) g4 (mgw g5 (by omega)) (fun S1 k1 k2 k3 => hk S1 ?_ ?_ (Fl_tr (Fl_sp g6 ⟨rfl, rfl⟩) k3))
        · rw [k1, hs]
        · rw [k2, hs]
      by_cases q : 7 ≤ i
      · rw [leT q (by omega)]
        refine next S hB h19 h21 ?_ hf (Fl_rf _ _)
        rw [hw, show min 7 i = min 7 (i + 1) by omega]
      · rw [leF (by omega) (by omega), m_byte hb hB (by omega), bd_some, y2, hw, l96, nIs (by omega), show min 7 i = i by omega, sh64 (by have := pkw_lt (b := b) (p := p) (n := i) hl; have : 32 ^ i ≤ 32 ^ 7 := Nat.pow_le_pow_right (by omega) (by omega); omega) (by omega)]
        refine next _ hB h19 h21 ?_ (Fl_lp hf) (Fl_lp (Fl_rf _ _))
        rw [lp_lg, show min 7 (i + 1) = i + 1 by omega]
        rfl
    · rw [if_neg z, zer0]
      have hs : rne b 2 (b.1 - (p + i)) (p + i) = p + i := by
        by_cases q : p + i < b.1
        · obtain ⟨d, hd⟩ : ∃ d, b.1 - (p + i) = d + 1 := ⟨b.1 - (p + i) - 1, by omega⟩
          have y2 : bya b (p + i) = b.2 (p + i) := by unfold bya; rw [if_pos q]
          rw [hd]
          show (if kd (b.2 (p + i)) = 2 then rne b 2 d (p + i + 1) else p + i) = _
          rw [if_neg (by rw [← y2]; exact z)]
        · rw [show b.1 - (p + i) = 0 by omega]
          rfl
      refine hk S (by rw [h19, hs]) ?_ (Fl_rf _ _)
      rw [hw, hs, show p + i - p = i by omega]
/-- a number -/
theorem m_dgts {b : Tx} {p : Nat} {S0 : am_S} {Q : am_S → Prop} (hb : TxI b) : ∀ (n i : Nat) (S : am_S), MB S b → p + i ≤ b.1 → b.1 - (p + i) < n → (∀ j, p ≤ j → j < p + i → kd (b.2 j) = 3) → sg S 78 19 = nI (p + i) → sg S 78 21 = nI p → sg S 78 23 = nI (dg b p (min 4 i)) → Fl mgW S0 S → (∀ S1, sg S1 78 19 = nI (rne b 3 (b.1 - (p + i)) (p + i)) → sg S1 78 23 = nI (dg b p (min 4 (rne b 3 (b.1 - (p + i)) (p + i) - p))) → Fm (fun k j => k = 78 ∧ (j = 19 ∨ j = 23)) S S1 → Rn (b_X10_goes_331 N 78 (sp S1 78 20 2)) Q) → Rn (b_X10_goes_187 N n 78 S) Q := by
  intro n
  have hL := hb.1
  induction n with
  | zero => intro i S _ _ h; omega
  | succ n ih =>
    intro i S hB hi hn hl h19 h21 hw hf hk
    have hx := bya_lt (b := b) (k := p + i) hb
    unfold b_X10_goes_187
    rw [h19, m_byte hb hB (by omega), bd_some, m_digit hx, bd_some]
    by_cases z : kd (bya b (p + i)) = 3
    · obtain ⟨y1, y2⟩ := kdb (Or.inr z)
      rw [y2] at z
      obtain ⟨d, hd⟩ : ∃ d, b.1 - (p + i) = d + 1 := ⟨b.1 - (p + i) - 1, by omega⟩
      have hs : rne b 3 (b.1 - (p + i)) (p + i) = rne b 3 (b.1 - (p + (i + 1))) (p + (i + 1)) := by
        rw [hd, show b.1 - (p + (i + 1)) = d by omega]
        show (if kd (b.2 (p + i)) = 3 then rne b 3 d (p + i + 1) else p + i) = _
        rw [if_pos z]
        rfl
      have hc := kd3.mp z
      rw [y2, if_pos z, one0, h19, h21, nIs (by omega), l4, show p + i - p = i by omega]
      have hl' : ∀ j, p ≤ j → j < p + (i + 1) → kd (b.2 j) = 3 := fun j a c => by
        by_cases q : j = p + i
        · rw [q]; exact z
        · exact hl j a (by omega)
      have next : ∀ S2, MB S2 b → sg S2 78 19 = nI (p + i) → sg S2 78 21 = nI p → sg S2 78 23 = nI (dg b p (min 4 (i + 1))) → Fl mgW S0 S2 → Fm (fun k j => k = 78 ∧ (j = 19 ∨ j = 23)) S S2 → Rn (b_X10_goes_237 N (b_X10_goes_187 N n) 78 S2) Q := by
        intro S2 g1 g2 g3 g4 g5 g6
        unfold b_X10_goes_237
        rw [g2, nI1]
        refine ih (i + 1) _ (MB_f g1 (mgw (Fl_rf _ _) (by omega))) (by omega) (by omega) hl' (sgp _ _ _ _) ((sgj (by omega)).trans g3) ((sgj (by omega)).trans g4) (mgw g5 (by omega)) (fun S1 k1 k2 k3 => hk S1 ?_ ?_ (Fm_tr (Fm_sp g6 ⟨rfl, Or.inl rfl⟩) k3))
        · rw [k1, hs]
        · rw [k2, hs]
      by_cases q : 4 ≤ i
      · rw [leT q (by omega)]
        refine next S hB h19 h21 ?_ hf (Fm_rf _ _)
        rw [hw, show min 4 i = min 4 (i + 1) by omega]
      · have hg := dg_lt (b := b) (p := p) (n := i) hl
        have h4 : 10 ^ i ≤ 10 ^ 4 := Nat.pow_le_pow_right (by omega) (by omega)
        have hv : nI (10 * dg b p i + b.2 (p + i)) - nI 48 = nI (dg b p (i + 1)) := by
          rw [nIs (by omega)]
          show _ = nI (10 * dg b p i + (b.2 (p + i) - 48))
          congr 1
          omega
        rw [leF (by omega) (by omega), m_byte hb hB (by omega), bd_some, y2, hw, l10, l48, show min 4 i = i by omega, nIm, nIa, hv]
        refine next _ (MB_f hB (mgw (Fl_rf _ _) (by omega))) ((sgj (by omega)).trans h19) ((sgj (by omega)).trans h21) ?_ (mgw hf (by omega)) (Fm_sp (Fm_rf _ _) ⟨rfl, Or.inr rfl⟩)
        rw [sgp, show min 4 (i + 1) = i + 1 by omega]
    · rw [if_neg z, zer0]
      have hs : rne b 3 (b.1 - (p + i)) (p + i) = p + i := by
        by_cases q : p + i < b.1
        · obtain ⟨d, hd⟩ : ∃ d, b.1 - (p + i) = d + 1 := ⟨b.1 - (p + i) - 1, by omega⟩
          have y2 : bya b (p + i) = b.2 (p + i) := by unfold bya; rw [if_pos q]
          rw [hd]
          show (if kd (b.2 (p + i)) = 3 then rne b 3 d (p + i + 1) else p + i) = _
          rw [if_neg (by rw [← y2]; exact z)]
        · rw [show b.1 - (p + i) = 0 by omega]
          rfl
      refine hk S (by rw [h19, hs]) ?_ (Fm_rf _ _)
      rw [hw, hs, show p + i - p = i by omega]
theorem m_skp {b : Tx} {Q : am_S → Prop} (hb : TxI b) : ∀ (n p : Nat) (S : am_S), MB S b → sg S 78 19 = nI p → p ≤ b.1 → b.1 - p < n → (∀ S1, sg S1 78 19 = nI (skp b (b.1 - p) p) → Fm (fun k j => k = 78 ∧ j = 19) S S1 → Rn (b_X10_goes_50 N 78 S1) Q) → Rn (b_X10_goes_0 N n 78 S) Q := by
  intro n
  induction n with
  | zero => intro p S _ _ _ h; omega
  | succ n ih =>
    intro p S hB hp hpl hn hk
    have hL := hb.1
    unfold b_X10_goes_0
    rw [hB.1, hp]
    by_cases z : b.1 ≤ p
    · rw [leT z (by omega)]
      refine hk S ?_ (Fm_rf _ _)
      rw [hp, show b.1 - p = 0 by omega]
      rfl
    · obtain ⟨d, hd⟩ : ∃ d, b.1 - p = d + 1 := ⟨b.1 - p - 1, by omega⟩
      have hs : skp b (b.1 - p) p = if kd (b.2 p) = 4 then skp b d (p + 1) else p := by rw [hd]; rfl
      have hx := hb.2 p
      have y2 : bya b p = b.2 p := by unfold bya; rw [if_pos (by omega)]
      have next : kd (b.2 p) = 4 → Rn (b_X10_goes_37 N (b_X10_goes_0 N n) 78 S) Q := by
        intro y
        unfold b_X10_goes_37
        rw [hp, nI1]
        have hf : Fm (fun k j => k = 78 ∧ j = 19) S (sp S 78 19 (nI (p + 1))) := Fm_sp (Fm_rf _ _) ⟨rfl, rfl⟩
        refine ih (p + 1) _ (MB_f hB (mgw (Fl_rf _ _) (by omega))) (sgp _ _ _ _) (by omega) (by omega) (fun S1 h1 h2 => hk S1 ?_ (Fm_tr hf h2))
        rw [hs, if_pos y, h1, show b.1 - (p + 1) = d by omega]
      rw [leF (by omega) (by omega), m_byte hb hB (by omega), bd_some, y2, l32]
      by_cases y : b.2 p = 32
      · rw [eqT y]
        exact next (kd4.mpr (Or.inr y))
      · rw [eqF y (by omega) (by omega), hp, m_byte hb hB (by omega), bd_some, y2, l10]
        by_cases w : b.2 p = 10
        · rw [eqT w]
          exact next (kd4.mpr (Or.inl w))
        · rw [eqF w (by omega) (by omega)]
          exact hk S (by rw [hs, if_neg (by rw [kd4]; omega), hp]) (Fm_rf _ _)
theorem kdsg {x : Nat} (h : x < 256) (h2 : ¬ kd x = 2) (h3 : ¬ kd x = 3) (h4 : ¬ kd x = 4) : (x = 59 ∨ x = 40 ∨ x = 41 ∨ x = 43 ∨ x = 45 ∨ x = 42 ∨ x = 47 ∨ x = 60 ∨ x = 61) ∧ kd x = x ∨ ¬ (x = 59 ∨ x = 40 ∨ x = 41 ∨ x = 43 ∨ x = 45 ∨ x = 42 ∨ x = 47 ∨ x = 60 ∨ x = 61) ∧ kd x = 1 := by
  have a2 : ¬ (97 ≤ x ∧ x ≤ 122) := fun q => h2 (kd2.mpr q)
  have a3 : ¬ (48 ≤ x ∧ x ≤ 57) := fun q => h3 (kd3.mpr q)
  have a4 : ¬ (x = 10 ∨ x = 32) := fun q => h4 (kd4.mpr q)
  by_cases z : x = 40 ∨ x = 41 ∨ x = 42 ∨ x = 43 ∨ x = 45 ∨ x = 47 ∨ x = 59 ∨ x = 60 ∨ x = 61
  · refine Or.inl ⟨by omega, ?_⟩
    unfold kd
    rw [if_neg a2, if_neg a3, if_neg a4, if_pos z]
  · refine Or.inr ⟨by omega, ?_⟩
    unfold kd
    rw [if_neg a2, if_neg a3, if_neg a4, if_neg z]
theorem m_goes {b : Tx} {e : Nat} {S : am_S} (hN : 10000 ≤ N) (hb : TxI b) (hB : MB S b) (he : sg S 78 19 = nI e) (hel : e ≤ b.1) : Rn (f_X10_goes N 78 S) (fun S' => TM S' b (tk b e) ∧ Fl mgW S S') := by
  have hL := hb.1
  have hTI := tk_I hel
  obtain ⟨q1, q2⟩ := skp_le b (b.1 - e) e
  have q4 := skp_n4 b (b.1 - e) e
  unfold f_X10_goes
  refine m_skp hb N e S hB he hel (by omega) (fun S1 h1 f1 => ?_)
  have f1' : Fl mgW S S1 := Fl_m (Fm_wk f1 (fun k j h => ⟨h.1, by omega, by omega⟩))
  unfold tk at hTI ⊢
  generalize skp b (b.1 - e) e = p at *
  have hB1 := MB_f hB f1'
  unfold b_X10_goes_50
  rw [h1]
  have f2 : Fl mgW S (sp (lp (sp S1 78 21 (nI p)) 0 0) 78 23 0) := mgw (Fl_lp (mgw f1' (by omega))) (by omega)
  generalize hS2 : sp (lp (sp S1 78 21 (nI p)) 0 0) 78 23 0 = S2 at *
  have g19 : sg S2 78 19 = nI p := by
    rw [← hS2, sgj (by omega), lp_sg, sgj (by omega), h1]
  have g21 : sg S2 78 21 = nI p := by
    rw [← hS2, sgj (by omega), lp_sg, sgp]
  have g23 : sg S2 78 23 = nI 0 := by
    rw [← hS2, sgp]
    rfl
  have gl : lg S2 0 = Int64.ofNat 0 := by
    rw [← hS2, sp_lg, lp_lg]
    rfl
  rw [g19, m_byte hb (MB_f hB f2) (by omega), bd_some]
  have f3 : Fl mgW S (sp S2 78 24 (nI (bya b p))) := mgw f2 (by omega)
  generalize hS3 : sp S2 78 24 (nI (bya b p)) = S3 at *
  have k19 : sg S3 78 19 = nI p := by rw [← hS3, sgj (by omega), g19]
  have k21 : sg S3 78 21 = nI p := by rw [← hS3, sgj (by omega), g21]
  have k23 : sg S3 78 23 = nI 0 := by rw [← hS3, sgj (by omega), g23]
  have k24 : sg S3 78 24 = nI (bya b p) := by rw [← hS3, sgp]
  have kl : lg S3 0 = Int64.ofNat 0 := by rw [← hS3, sp_lg, gl]
  have hB3 := MB_f hB f3
  rw [k19, hB3.1]
  by_cases z : b.1 ≤ p
  · have hT : tkA b p = (p, p, 0) := by unfold tkA; rw [if_pos z]
    rw [ltF z (by omega)]
    rw [hT] at hTI ⊢
    refine m_end (MB_f hB3 (mgw (Fl_rf _ _) (by omega))) (Nat.le_refl p) ((sgj (by omega)).trans k19) (sgp _ _ _ _) ((sgj (by omega)).trans k21) ((sgj (by omega)).trans k23) ((sgj (by omega)).trans (k24.trans ?_)) kl (mgw f3 (by omega))
    unfold bya
    rw [if_neg (by omega)]
    rfl
  · have y2 : bya b p = b.2 p := by unfold bya; rw [if_pos (by omega)]
    have hT : tkA b p = (p, if kd (b.2 p) = 2 ∨ kd (b.2 p) = 3 then rne b (kd (b.2 p)) (b.1 - (p + 1)) (p + 1) else p + 1, kd (b.2 p)) := by unfold tkA; rw [if_neg z]
    have hx := hb.2 p
    have hr : ∀ k, kd (b.2 p) = k → rne b k (b.1 - (p + 0)) (p + 0) = rne b k (b.1 - (p + 1)) (p + 1) := by
      intro k hk
      obtain ⟨d, hd⟩ : ∃ d, b.1 - (p + 0) = d + 1 := ⟨b.1 - p - 1, by omega⟩
      rw [hd, show b.1 - (p + 1) = d by omega]
      show (if kd (b.2 p) = k then rne b k d (p + 1) else p) = _
      rw [if_pos hk]
    have hf : ∀ T : Tk, T.1 = p → T.2.2 = kd (b.2 p) → fby b T = b.2 p := by
      intro T t1 t2
      unfold fby
      rw [if_neg (by rw [t2]; exact kd_n0 _), t1]
    rw [y2] at k24 ⊢
    rw [ltT (by omega) (by omega), m_letter hx, bd_some]
    by_cases w2 : kd (b.2 p) = 2
    · rw [if_pos w2, one0]
      rw [hT, w2, if_pos (Or.inl rfl)] at hTI ⊢
      obtain ⟨r1, r2⟩ := rne_le b 2 (b.1 - (p + 1)) (p + 1)
      refine m_word (p := p) (S0 := S) hb N 0 S3 hB3 (by omega) (by omega) (fun j _ _ => by omega) k19 k21 kl f3 (fun S4 m1 m2 m3 => ?_)
      rw [hr 2 w2] at m1 m2
      have f4 : Fl mgW S S4 := Fl_tr f3 (Fl_wk m3 (fun k j h => ⟨h.1, by omega, by omega⟩))
      refine m_end (MB_f hB (mgw f4 (by omega))) (by show p ≤ rne _ _ _ _; omega) ((sgj (by omega)).trans m1) (sgp _ _ _ _) ((sgj (by omega)).trans ((m3.1 _ _ (by omega)).trans k21)) ((sgj (by omega)).trans ((m3.1 _ _ (by omega)).trans k23)) ((sgj (by omega)).trans ((m3.1 _ _ (by omega)).trans (k24.trans ?_))) (m2.trans ?_) (mgw f4 (by omega))
      · rw [hf (p, rne b 2 (b.1 - (p + 1)) (p + 1), 2) rfl w2.symm]
      · rfl
    · rw [if_neg w2, zer0, m_digit hx, bd_some]
      by_cases w3 : kd (b.2 p) = 3
      · rw [if_pos w3, one0]
        rw [hT, w3, if_pos (Or.inr rfl)] at hTI ⊢
        obtain ⟨r1, r2⟩ := rne_le b 3 (b.1 - (p + 1)) (p + 1)
        refine m_dgts (p := p) (S0 := S) hb N 0 S3 hB3 (by omega) (by omega) (fun j _ _ => by omega) k19 k21 k23 f3 (fun S4 m1 m2 m3 => ?_)
        rw [hr 3 w3] at m1 m2
        have f4 : Fl mgW S S4 := Fl_tr f3 (Fl_m (Fm_wk m3 (fun k j h => ⟨h.1, by omega, by omega⟩)))
        refine m_end (MB_f hB (mgw f4 (by omega))) (by show p ≤ rne _ _ _ _; omega) ((sgj (by omega)).trans m1) (sgp _ _ _ _) ((sgj (by omega)).trans ((m3.1 _ _ (by omega)).trans k21)) ((sgj (by omega)).trans (m2.trans ?_)) ((sgj (by omega)).trans ((m3.1 _ _ (by omega)).trans (k24.trans ?_))) ?_ (mgw f4 (by omega))
        · rfl
        · rw [hf (p, rne b 3 (b.1 - (p + 1)) (p + 1), 3) rfl w3.symm]
        · show lg S4 0 = _
          unfold lg
          rw [m3.2]
          exact kl
      · rw [if_neg w3, zer0, k19, nI1]
        rw [hT, if_neg (by omega : ¬ (kd (b.2 p) = 2 ∨ kd (b.2 p) = 3))] at hTI ⊢
        have f4 : Fl mgW S (sp S3 78 19 (nI (p + 1))) := mgw f3 (by omega)
        have fin : ∀ v, v = nI (ms (kd (b.2 p))) → Rn (b_X10_goes_328 N 78 78 v (sp S3 78 19 (nI (p + 1)))) (fun S' => TM S' b (p, p + 1, kd (b.2 p)) ∧ Fl mgW S S') := by
          intro v hv
          unfold b_X10_goes_328
          refine m_end (MB_f hB (mgw f4 (by omega))) (Nat.le_succ p) ((sgj (by omega)).trans (sgp _ _ _ _)) ((sgp _ _ _ _).trans hv) ((sgj (by omega)).trans ((sgj (by omega)).trans k21)) ((sgj (by omega)).trans ((sgj (by omega)).trans (k23.trans ?_))) ((sgj (by omega)).trans ((sgj (by omega)).trans (k24.trans ?_))) (kl.trans ?_) (mgw f4 (by omega))
          · unfold mvl
            rw [if_neg w3]
          · rw [hf (p, p + 1, kd (b.2 p)) rfl rfl]
          · unfold mwd
            rw [if_neg w2]
        have hkd := kdsg hx w2 w3 (q4 (by omega))
        unfold b_X10_goes_323
        rw [l59, l40, l41, l43, l45, l42, l47, l60, l61]
        generalize hxx : b.2 p = x at *
        by_cases v1 : x = 59
        · rw [eqT v1]
          exact fin _ (by rw [v1]; rfl)
        rw [eqF v1 (by omega) (by omega)]
        by_cases v2 : x = 40
        · rw [eqT v2]
          exact fin _ (by rw [v2]; rfl)
        rw [eqF v2 (by omega) (by omega)]
        by_cases v3 : x = 41
        · rw [eqT v3]
          exact fin _ (by rw [v3]; rfl)
        rw [eqF v3 (by omega) (by omega)]
        by_cases v4 : x = 43
        · rw [eqT v4]
          exact fin _ (by rw [v4]; rfl)
        rw [eqF v4 (by omega) (by omega)]
        by_cases v5 : x = 45
        · rw [eqT v5]
          exact fin _ (by rw [v5]; rfl)
        rw [eqF v5 (by omega) (by omega)]
        by_cases v6 : x = 42
        · rw [eqT v6]
          exact fin _ (by rw [v6]; rfl)
        rw [eqF v6 (by omega) (by omega)]
        by_cases v7 : x = 47
        · rw [eqT v7]
          exact fin _ (by rw [v7]; rfl)
        rw [eqF v7 (by omega) (by omega)]
        by_cases v8 : x = 60
        · rw [eqT v8]
          exact fin _ (by rw [v8]; rfl)
        rw [eqF v8 (by omega) (by omega)]
        by_cases v9 : x = 61
        · rw [eqT v9]
          exact fin _ (by rw [v9]; rfl)
        rw [eqF v9 (by omega) (by omega)]
        refine fin _ ?_
        rw [show kd x = 1 by omega]
        rfl
/-! words -/
def vw (k : Nat) : Nat := if k = 0 then 17362953925 else if k = 1 then 609470644 else if k = 2 then 18596 else if k = 3 then 267652 else if k = 4 then 8554052 else if k = 5 then 4153 else if k = 6 then 447592 else if k = 7 then 6194 else if k = 8 then 23732 else if k = 9 then 2552 else if k = 10 then 542723566 else if k = 11 then 52 else if k = 12 then 19387844 else if k = 13 then 679786867 else if k = 14 then 653965459 else if k = 15 then 1476 else if k = 16 then 498 else if k = 17 then 14836 else 0
theorem m_lett {S : am_S} : ∀ k, k < 18 → f_X10_letters N (nI k) S = some (Int64.ofNat (vw k), S) := by
  intro k hk
  have h : k = 0 ∨ k = 1 ∨ k = 2 ∨ k = 3 ∨ k = 4 ∨ k = 5 ∨ k = 6 ∨ k = 7 ∨ k = 8 ∨ k = 9 ∨ k = 10 ∨ k = 11 ∨ k = 12 ∨ k = 13 ∨ k = 14 ∨ k = 15 ∨ k = 16 ∨ k = 17 := by omega
  rcases h with h | h | h | h | h | h | h | h | h | h | h | h | h | h | h | h | h | h <;> subst h <;> rfl
end
