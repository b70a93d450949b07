section
variable {N t : Nat} {a : Ax}
/-- bytes -/
def byt (v : Int32) (k : Int32) : Nat := ((v >>> (k &&& (31 : Int32))) &&& 255).toNatClampNeg
theorem and_b (x : Int32) : 0 ≤ (x &&& 255).toInt ∧ (x &&& 255).toInt ≤ 255 := by
  have h : (x &&& 255).toBitVec.toNat ≤ 255 := by
    rw [Int32.toBitVec_and, BitVec.toNat_and]
    exact Nat.and_le_right
  have h2 : (x &&& 255).toInt = (x &&& 255).toBitVec.toNat := BitVec.toInt_eq_toNat_of_lt (by omega)
  rw [h2]
  omega
theorem byt_ok (v k : Int32) : (v >>> (k &&& (31 : Int32))) &&& 255 = nI (byt v k) ∧ byt v k < 256 := by
  obtain ⟨h1, h2⟩ := and_b (v >>> (k &&& (31 : Int32)))
  refine ⟨ofC (Int32.le_iff_toInt_le.mpr h1), ?_⟩
  unfold byt Int32.toNatClampNeg
  omega
theorem sby_ok : ∀ n, n < 256 → vp_nar .byte (Int8.toInt32 (Int8.ofNat n)) = sby n := by decide +kernel
theorem byt_c {v : Int32} {k : Nat} (hk : k = 24 ∨ k = 16 ∨ k = 8 ∨ k = 0) : vp_nar .byte (Int8.toInt32 (Int32.toInt8 (jushr v (nI k)))) = sby (byt v (nI k)) := by
  obtain ⟨h1, h2⟩ := byt_ok v (nI k)
  have e1 : (jushr v (nI k)).toBitVec = v.toBitVec >>> k := by rcases hk with h | h | h | h <;> subst h <;> rfl
  have e2 : (v >>> (nI k &&& (31 : Int32))).toBitVec = v.toBitVec.sshiftRight k := by rcases hk with h | h | h | h <;> subst h <;> rfl
  have e3 : Int32.toInt8 (jushr v (nI k)) = Int8.ofNat (byt v (nI k)) := by
    have e4 : (nI (byt v (nI k))).toBitVec = v.toBitVec.sshiftRight k &&& 255#32 := by
      rw [← h1, Int32.toBitVec_and, e2]
      rfl
    have e5 : Int8.ofNat (byt v (nI k)) = Int32.toInt8 (nI (byt v (nI k))) := by
      rw [← Int8.toBitVec_inj]
      rw [Int32.toBitVec_toInt8, BitVec.signExtend_eq_setWidth_of_le _ (by decide)]
      show BitVec.ofNat 8 _ = (BitVec.ofNat 32 _).setWidth 8
      refine BitVec.eq_of_toNat_eq ?_
      rw [BitVec.toNat_setWidth, BitVec.toNat_ofNat, BitVec.toNat_ofNat]
      omega
    rw [e5, ← Int8.toBitVec_inj]
    rw [Int32.toBitVec_toInt8, BitVec.signExtend_eq_setWidth_of_le _ (by decide), Int32.toBitVec_toInt8, BitVec.signExtend_eq_setWidth_of_le _ (by decide)]
    rw [e1, e4]
    refine BitVec.eq_of_getLsbD_eq (fun i hi => ?_)
    rw [BitVec.getLsbD_setWidth, BitVec.getLsbD_setWidth, BitVec.getLsbD_ushiftRight, BitVec.getLsbD_and, BitVec.getLsbD_sshiftRight]
    have b1 : (255#32).getLsbD i = true := (by decide : ∀ i, i < 8 → (255#32).getLsbD i = true) i hi
    have b2 : decide (32 ≤ i) = false := decide_eq_false (by omega)
    rw [b1, b2, if_pos (by omega)]
    simp
  rw [e3]
  exact sby_ok _ h2
def tpF (T : Nat × (Nat → Nat)) (b : Nat) : Nat × (Nat → Nat) := (T.1 + 1, fun i => if i = T.1 then b else T.2 i)
def tp4 (T : Nat × (Nat → Nat)) (v : Int32) : Nat × (Nat → Nat) := tpF (tpF (tpF (tpF T (byt v (nI 24))) (byt v (nI 16))) (byt v (nI 8))) (byt v (nI 0))
def TpC (S : am_S) (T : Nat × (Nat → Nat)) : Prop := sg S 0 1 = nI T.1 ∧ ∀ j, j < T.1 → sg S 1 j = sby (T.2 j)
def TpM (S : am_S) (T : Nat × (Nat → Nat)) : Prop := sg S 78 14 = nI T.1 ∧ ∀ j, j < T.1 → sg S 85 j = nI (T.2 j)
def tcW : Nat → Nat → Prop := fun k j => k = 1 ∨ (k = 0 ∧ j = 1)
def tmW : Nat → Nat → Prop := fun k j => k = 85 ∨ (k = 78 ∧ j = 14)
theorem c_put1 {S : am_S} {T : Nat × (Nat → Nat)} {b : Nat} (h : TpC S T) : TpC (sp (sp S 1 T.1 (sby b)) 0 1 (nI (T.1 + 1))) (tpF T b) := by
  refine ⟨sgp _ _ _ _, fun j hj => ?_⟩
  have hj' : j < T.1 + 1 := hj
  show _ = sby (if j = T.1 then b else T.2 j)
  rw [sgn (by omega)]
  by_cases z : j = T.1
  · rw [if_pos z, z, sgp]
  · rw [if_neg z, sgj z]
    exact h.2 j (by omega)
theorem m_put1 {S : am_S} {T : Nat × (Nat → Nat)} {b : Nat} (h : TpM S T) : TpM (sp (sp S 85 T.1 (nI b)) 78 14 (nI (T.1 + 1))) (tpF T b) := by
  refine ⟨sgp _ _ _ _, fun j hj => ?_⟩
  have hj' : j < T.1 + 1 := hj
  show _ = nI (if j = T.1 then b else T.2 j)
  rw [sgn (by omega)]
  by_cases z : j = T.1
  · rw [if_pos z, z, sgp]
  · rw [if_neg z, sgj z]
    exact h.2 j (by omega)
theorem c_step1 {S : am_S} {T : Nat × (Nat → Nat)} {v : Int32} {k n : Nat} {k' : Int32} {Q : am_S → Prop} (hk : k = 24 ∨ k = 16 ∨ k = 8 ∨ k = 0) (hk' : nI k + (-8) = k') (hT : T.1 < 700) (h : TpC S T) (ih : ∀ S', TpC S' (tpF T (byt v (nI k))) → Fm tcW S S' → Rn (b_X9_putBytes_3 N n 0 v k' S') Q) : Rn (b_X9_putBytes_3 N (n + 1) 0 v (nI k) S) Q := by
  unfold b_X9_putBytes_3 b_X9_putBytes_42
  have hs : sg (sp S (rf 0 0) (Int32.toNatClampNeg (sg S 0 1)) (vp_nar .byte (Int8.toInt32 (Int32.toInt8 (jushr v (nI k)))))) 0 1 = nI T.1 := by
    rw [r0_0, sgn (by omega)]
    exact h.1
  rw [lt0F (by omega), hs, h.1, r0_0, n1, leF (by omega) (by omega), inbT (by omega) (by decide), nIc (by omega), nI1, byt_c hk, hk']
  exact ih _ (c_put1 h) (Fm_sp (Fm_sp (Fm_rf _ _) (Or.inl rfl)) (Or.inr ⟨rfl, rfl⟩))
theorem c_put4 {S : am_S} {T : Nat × (Nat → Nat)} {v : Int32} (hN : 10000 ≤ N) (hT : T.1 + 4 ≤ 700) (h : TpC S T) : Rn (f_X9_putBytes N 0 v S) (fun S' => TpC S' (tp4 T v) ∧ Fm tcW S S') := by
  unfold f_X9_putBytes
  obtain ⟨n, rfl⟩ : ∃ n, N = n + 5 := ⟨N - 5, by omega⟩
  rw [l24]
  refine c_step1 (k' := nI 16) (by omega) (by decide) (by omega) h (fun S1 g1 f1 => ?_)
  refine c_step1 (k' := nI 8) (by omega) (by decide) (by show T.1 + 1 < 700; omega) g1 (fun S2 g2 f2 => ?_)
  refine c_step1 (k' := nI 0) (by omega) (by decide) (by show T.1 + 1 + 1 < 700; omega) g2 (fun S3 g3 f3 => ?_)
  refine c_step1 (k' := -8) (by omega) (by decide) (by show T.1 + 1 + 1 + 1 < 700; omega) g3 (fun S4 g4 f4 => ?_)
  unfold b_X9_putBytes_3
  rw [if_pos (by decide)]
  exact Rn_ret ⟨g4, Fm_tr f1 (Fm_tr f2 (Fm_tr f3 f4))⟩
theorem m_step1 {S : am_S} {T : Nat × (Nat → Nat)} {v : Int32} {k n : Nat} {k' : Int32} {Q : am_S → Prop} (hk : k = 24 ∨ k = 16 ∨ k = 8 ∨ k = 0) (hk' : nI k + (-8) = k') (hT : T.1 < 700) (h : TpM S T) (ih : ∀ S', TpM S' (tpF T (byt v (nI k))) → Fm tmW S S' → Rn (b_X10_lays_3 N n 78 v k' S') Q) : Rn (b_X10_lays_3 N (n + 1) 78 v (nI k) S) Q := by
  unfold b_X10_lays_3
  have hs : ∀ u w, sg (sp S 85 u w) 78 14 = nI T.1 := fun u w => by
    rw [sgn (by omega)]
    exact h.1
  rw [lt0F (by omega), h.1, r78_13, n85, inbT (by omega) (by decide), nIc (by omega), hs, nI1, (byt_ok v (nI k)).1, hk']
  exact ih _ (m_put1 h) (Fm_sp (Fm_sp (Fm_rf _ _) (Or.inl rfl)) (Or.inr ⟨rfl, rfl⟩))
theorem m_put4 {S : am_S} {T : Nat × (Nat → Nat)} {v : Int32} (hN : 10000 ≤ N) (hT : T.1 + 4 ≤ 700) (h : TpM S T) : Rn (f_X10_lays N 78 v S) (fun S' => TpM S' (tp4 T v) ∧ Fm tmW S S') := by
  unfold f_X10_lays
  obtain ⟨n, rfl⟩ : ∃ n, N = n + 5 := ⟨N - 5, by omega⟩
  rw [l24]
  refine m_step1 (k' := nI 16) (by omega) (by decide) (by omega) h (fun S1 g1 f1 => ?_)
  refine m_step1 (k' := nI 8) (by omega) (by decide) (by show T.1 + 1 < 700; omega) g1 (fun S2 g2 f2 => ?_)
  refine m_step1 (k' := nI 0) (by omega) (by decide) (by show T.1 + 1 + 1 < 700; omega) g2 (fun S3 g3 f3 => ?_)
  refine m_step1 (k' := -8) (by omega) (by decide) (by show T.1 + 1 + 1 + 1 < 700; omega) g3 (fun S4 g4 f4 => ?_)
  unfold b_X10_lays_3
  rw [if_pos (by decide)]
  exact Rn_ret ⟨g4, Fm_tr f1 (Fm_tr f2 (Fm_tr f3 f4))⟩
def setT (a : Ax) (T : Nat × (Nat → Nat)) : Ax := (a.1, a.2.1, a.2.2.1, T, a.2.2.2.2)
theorem tp4_1 {T : Nat × (Nat → Nat)} {v : Int32} : (tp4 T v).1 = T.1 + 4 := rfl
theorem tp4_W {T : Nat × (Nat → Nat)} {v : Int32} (h : ∀ i, T.2 i < 256) : ∀ i, (tp4 T v).2 i < 256 := by
  have key : ∀ (T : Nat × (Nat → Nat)) (b : Nat), b < 256 → (∀ i, T.2 i < 256) → ∀ i, (tpF T b).2 i < 256 := fun T b hb hT i => by
    show (if i = T.1 then b else T.2 i) < 256
    split
    · exact hb
    · exact hT i
  exact key _ _ (byt_ok v _).2 (key _ _ (byt_ok v _).2 (key _ _ (byt_ok v _).2 (key _ _ (byt_ok v _).2 h)))
theorem x_feed {p q u v w : Int32} (hN : 10000 ≤ N) (hW : WX a) : Jp t a (f_X9_feed N 0 p q u v w) (f_X10_feed N 78 p q u v w) := by
  have hnp := WX_np hW
  obtain ⟨w1, w2⟩ := hW.2.2.2
  by_cases z : a.2.2.2.1.1 ≤ 680
  · refine ⟨nI (a.2.2.2.1.1 + 20), setT a (tp4 (tp4 (tp4 (tp4 (tp4 a.2.2.2.1 p) q) u) v) w), t, ⟨hW.1, hW.2.1, hW.2.2.1, by show a.2.2.2.1.1 + 4 + 4 + 4 + 4 + 4 ≤ 700; omega, tp4_W (tp4_W (tp4_W (tp4_W (tp4_W w2))))⟩, fun S hX hO => ?_, fun S hX => ?_⟩
    · have ht := HC_t hX.1
      unfold f_X9_feed
      rw [hX.2.2.2.2.1.1, show (680 : Int32) = nI 680 from rfl, leT z (by omega)]
      refine Rn_bv (Rn_mono (c_put4 hN (by omega) hX.2.2.2.2.1) (fun S1 h1 => ?_))
      refine Rn_bv (Rn_mono (c_put4 hN (by show a.2.2.2.1.1 + 4 + 4 ≤ 700; omega) h1.1) (fun S2 h2 => ?_))
      refine Rn_bv (Rn_mono (c_put4 hN (by show a.2.2.2.1.1 + 4 + 4 + 4 ≤ 700; omega) h2.1) (fun S3 h3 => ?_))
      refine Rn_bv (Rn_mono (c_put4 hN (by show a.2.2.2.1.1 + 4 + 4 + 4 + 4 ≤ 700; omega) h3.1) (fun S4 h4 => ?_))
      refine Rn_bv (Rn_mono (c_put4 hN (by show a.2.2.2.1.1 + 4 + 4 + 4 + 4 + 4 ≤ 700; omega) h4.1) (fun S5 h5 => ?_))
      have hf := Fm_tr h1.2 (Fm_tr h2.2 (Fm_tr h3.2 (Fm_tr h4.2 h5.2)))
      have e : ∀ k j, ¬ k = 1 → ¬ (k = 0 ∧ j = 1) → sg S5 k j = sg S k j := fun k j x1 x2 => hf.1 k j (by unfold tcW; omega)
      obtain ⟨a1, a2, a3, a4, -, ⟨a7, a8⟩⟩ := hX
      refine Rn_ret ⟨h5.1.1, ⟨HC_same a1 (by rw [hf.2]), CC_same a2 (fun k j k1 k2 k3 k4 => e k j (by omega) (by omega)), VC_same a3 (fun k j hk => e k j (by omega) (by omega)), ?_, h5.1, ⟨(e _ _ (by omega) (by omega)).trans a7, fun j hj => (e _ _ (by omega) (by omega)).trans (a8 j hj)⟩⟩, OCx_same hO (fun k j hk => e k j (by omega) (by omega)), fun k j hk => e k j (by omega) (by omega)⟩
      show (match a.2.2.1 with
        | none => sg S5 0 11 = 0
        | some v => sg S5 0 11 = 1 ∧ VC S5 (cnp a.1) 50 52 54 v)
      cases hv : a.2.2.1 with
      | none =>
        rw [hv] at a4
        exact (e _ _ (by omega) (by omega)).trans a4
      | some v =>
        rw [hv] at a4
        exact ⟨(e _ _ (by omega) (by omega)).trans a4.1, VC_same a4.2 (fun k j hk => e k j (by omega) (by omega))⟩
    · obtain ⟨k1, k2, k3⟩ := XM_0 hX hnp
      unfold f_X10_feed
      rw [k1.2.2.2.1.1, l20, nIa, l700, leT (by omega) (by omega)]
      refine Rn_bv (Rn_mono (m_put4 hN (by omega) k1.2.2.2.1) (fun S1 h1 => ?_))
      refine Rn_bv (Rn_mono (m_put4 hN (by show a.2.2.2.1.1 + 4 + 4 ≤ 700; omega) h1.1) (fun S2 h2 => ?_))
      refine Rn_bv (Rn_mono (m_put4 hN (by show a.2.2.2.1.1 + 4 + 4 + 4 ≤ 700; omega) h2.1) (fun S3 h3 => ?_))
      refine Rn_bv (Rn_mono (m_put4 hN (by show a.2.2.2.1.1 + 4 + 4 + 4 + 4 ≤ 700; omega) h3.1) (fun S4 h4 => ?_))
      refine Rn_bv (Rn_mono (m_put4 hN (by show a.2.2.2.1.1 + 4 + 4 + 4 + 4 + 4 ≤ 700; omega) h4.1) (fun S5 h5 => ?_))
      have hf := Fm_tr h1.2 (Fm_tr h2.2 (Fm_tr h3.2 (Fm_tr h4.2 h5.2)))
      have e : ∀ k j, ¬ k = 85 → ¬ (k = 78 ∧ j = 14) → sg S5 k j = sg (sp S 78 0 0) k j := fun k j x1 x2 => hf.1 k j (by unfold tmW; omega)
      obtain ⟨⟨b1, b2⟩, ⟨b3, b4, b5⟩, b6, -, ⟨b9, b10⟩⟩ := k1
      refine Rn_ret ⟨h5.1.1, ⟨⟨CM_same b1 (fun k j hk => e k j (by unfold mC at hk; omega) (by unfold mC at hk; omega)), (e _ _ (by omega) (by omega)).trans b2.1, (e _ _ (by omega) (by omega)).trans b2.2⟩, ⟨RM_same b3 (fun j _ => e _ _ (by omega) (by omega)), AM_same b4 (e _ _ (by omega) (by omega)) (fun j => e _ _ (by omega) (by omega)), NM_same b5 (e _ _ (by omega) (by omega)) (fun j => e _ _ (by omega) (by omega))⟩, ?_, h5.1, ⟨(e _ _ (by omega) (by omega)).trans b9, fun j hj => (e _ _ (by omega) (by omega)).trans (b10 j hj)⟩⟩, fun k j hk => (e k j (by omega) (by omega)).trans (k3.2.1 k j hk), by rw [hf.2]; exact k3.2.2.1, by unfold lg; rw [hf.2]; exact k3.2.2.2⟩
      show (match a.2.2.1 with
        | none => sg S5 78 61 = 0
        | some v => sg S5 78 61 = 1 ∧ RMc S5 105 (72 + cnp a.1) v.1 ∧ AM S5 (cnp a.1) 62 106 v.2.1 ∧ NM S5 63 107 v.2.2)
      cases hv : a.2.2.1 with
      | none =>
        rw [hv] at b6
        exact (e _ _ (by omega) (by omega)).trans b6
      | some v =>
        rw [hv] at b6
        obtain ⟨c1, c2, c3, c4⟩ := b6
        exact ⟨(e _ _ (by omega) (by omega)).trans c1, fun j hj => (e _ _ (by omega) (by omega)).trans (c2 j hj), AM_same c3 (e _ _ (by omega) (by omega)) (fun j => e _ _ (by omega) (by omega)), NM_same c4 (e _ _ (by omega) (by omega)) (fun j => e _ _ (by omega) (by omega))⟩
  · refine ⟨-1, a, t, hW, fun S hX hO => ?_, fun S hX => ?_⟩
    · unfold f_X9_feed
      rw [hX.2.2.2.2.1.1, show (680 : Int32) = nI 680 from rfl, leF (by omega) (by omega)]
      exact Rn_ret ⟨rfl, PC_q hX hO (Fm_rf _ _)⟩
    · obtain ⟨k1, k2, k3⟩ := XM_0 hX hnp
      unfold f_X10_feed
      rw [k1.2.2.2.1.1, l20, nIa, l700, leF (by omega) (by omega)]
      exact Rn_ret ⟨rfl, k3⟩
theorem x_fault (hW : WX a) : Jp t a (f_X9_fault N 0) (f_X10_fault N 78) := by
  have hnp := WX_np hW
  refine ⟨a.2.2.2.2.1, a, t, hW, fun S hX hO => ?_, fun S hX => ?_⟩
  · unfold f_X9_fault
    exact Rn_ret ⟨hX.2.2.2.2.2.1, PC_q hX hO (Fm_rf _ _)⟩
  · obtain ⟨k1, k2, k3⟩ := XM_0 hX hnp
    unfold f_X10_fault
    exact Rn_ret ⟨k1.2.2.2.2.1, k3⟩
theorem x_middle (hN : 10000 ≤ N) (hW : WX a) : Jp t a (f_X9_middle N 0) (f_X10_middle N 78) := by
  have hnp := WX_np hW
  refine ⟨pl_ a.1 false, a, t, hW, fun S hX hO => ?_, fun S hX => ?_⟩
  · unfold f_X9_middle
    rw [g_isC hX.1, hX.1.1, ← bI0, c_pl hN hW.1 hX.1.2.1 hX.2.1, bd_some]
    exact Rn_ret ⟨rfl, PC_q hX hO (Fm_rf _ _)⟩
  · obtain ⟨k1, k2, k3⟩ := XM_0 hX hnp
    unfold f_X10_middle
    have e := m_pl (bs := false) hN hW.1 k1.1.1
    rw [bI0] at e
    rw [e, bd_some]
    exact Rn_ret ⟨rfl, k3⟩
end
