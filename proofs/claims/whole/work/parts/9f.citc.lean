/-! a text by the class -/
section
variable {N : Nat}
theorem rgp (S : am_S) (i v : Nat) : rg (rp S i v) i = v := by unfold rg rp va_up; exact if_pos rfl
theorem rgn {S : am_S} {i v k : Nat} (h : ¬ k = i) : rg (rp S i v) k = rg S k := by unfold rg rp va_up; exact if_neg h
theorem rg_sp (S : am_S) (k j i : Nat) (v : Int32) : rg (sp S k j v) i = rg S i := rfl
theorem sg_rp (S : am_S) (i v k j : Nat) : sg (rp S i v) k j = sg S k j := rfl
def rdW (u : Nat) : Nat → Nat → Prop := fun k _ => k = 3 ∨ k = 5 ∨ k = 6 ∨ (u ≤ k ∧ k < u + 15)
def CE (S : am_S) (u : Nat) (c : Cp) : Prop := CC S u (cyN c) ∧ (∀ i, i < 6 → sg S (u + 2) i = if i < pnb c then nI (prd c i) else 0) ∧ (∀ p, p < pnp c → sg S (u + 5) p = atN c p)
theorem sAll_ok {b : Tx} (hb : TxI b) (h : (sAll b).1.1 = 0) : LI b (sAll b).1 (sAll b).2.1 (sAll b).2.2 := (T_ok hb (b.1 + 1) (x00 b) cp0 0 (fun _ => LI_0 b) (fun _ => by omega) h).1
theorem c_read {S : am_S} {u : Nat} {b : Tx} (hN : 10000 ≤ N) (hb : TxI b) (hu : Ci u) (h1 : ∀ j, j < b.1 → sg S 1 j = sby (b.2 j)) : Rn (f_X2_read N 2 1 (nI b.1) u S) (fun q => q.1 = nI (sAll b).1.1 ∧ PCs q.2 b (sAll b).1 ∧ ((sAll b).1.1 = 0 → CE q.2 u (sAll b).2.1) ∧ (∀ k j, ¬ rdW u k j → sg q.2 k j = sg S k j) ∧ (rg q.2 0 = rg S 0 ∧ rg q.2 1 = rg S 1)) := by
  have hL := hb.1
  have h8 := Ci_8 hu
  unfold f_X2_read f_X8_start
  rw [r2_0]
  refine Rn_bv (Rn_mono (c_clear hN hu) (fun S1 g1 => ?_))
  have ej : jmin (nI b.1) (nI (ln 1)) = nI b.1 := by unfold jmin; rw [n1, ltF (by omega) (by omega)]
  rw [ej]
  obtain ⟨S2, hS2⟩ : ∃ S2, S2 = sp (sp (sp (rp S1 2 1) 3 1 (nI b.1)) 3 3 0) 3 6 0 := ⟨_, rfl⟩
  rw [← hS2]
  have e2 : ∀ k j, ¬ k = 3 → sg S2 k j = sg S1 k j := fun k j hk => by rw [hS2, sgn hk, sgn hk, sgn hk, sg_rp]
  have r2 : rg S2 2 = 1 ∧ rg S2 0 = rg S1 0 ∧ rg S2 1 = rg S1 1 := by
    rw [hS2]
    exact ⟨rgp S1 2 1, rgn (S := S1) (i := 2) (v := 1) (k := 0) (by omega), rgn (S := S1) (i := 2) (v := 1) (k := 1) (by omega)⟩
  have hB : TB S2 b := ⟨r2.1, by rw [hS2]; simp (disch := omega) only [sgp, sgn, sgj], fun j hj => by rw [e2 _ _ (by omega), g1.2.1 _ _ (by unfold twW; omega)]; exact h1 j hj⟩
  refine Rn_bv (Rn_bv (Rn_mono (c_step8 (e := 0) hN hb hB (by rw [hS2]; simp (disch := omega) only [sgp, sgn, sgj]; rfl) (Nat.zero_le _) (by rw [hS2, sgp])) (fun S3 g3 => Rn_ret ?_)))
  have e3 : ∀ k j, ¬ k = 3 → sg S3 k j = sg S1 k j := fun k j hk => by rw [g3.2.1 _ _ (by unfold tkW; omega)]; exact e2 k j hk
  have hP : PCs S3 b (x00 b) := ⟨⟨⟨0, tk_I (Nat.zero_le _)⟩, by show 0 < 10; omega⟩, g3.1, by rw [g3.2.1 _ _ (by unfold tkW; omega), hS2, sgp]; rfl⟩
  have hC : CT S3 u cp0 := CT_same g1.1 (fun k j q1 q2 => e3 k j (by omega))
  have r3 : rg S3 0 = rg S 0 ∧ rg S3 1 = rg S 1 := by
    unfold rg at r2 ⊢
    rw [g3.2.2, ← g1.2.2]
    exact r2.2
  refine c_text (S0 := S3) (t := u) hN hb hu (b.1 + 1) N 0 (x00 b) cp0 0 S3 (by omega) (by omega) (fun _ => Nat.zero_le _) (fun _ => LI_0 b) (fun _ => by omega) hP (fun _ => hC) (Fm_rf _ _) (fun S4 q1 q2 q3 => ?_)
  have q1' : PCs S4 b (sAll b).1 := q1
  have q2' : (sAll b).1.1 = 0 → CT S4 u (sAll b).2.1 := q2
  have r4 : rg S4 0 = rg S 0 ∧ rg S4 1 = rg S 1 := by
    unfold rg at r3 ⊢
    rw [q3.2]
    exact r3
  have e4 : ∀ k j, ¬ rdW u k j → sg S4 k j = sg S k j := fun k j hk => by
    unfold rdW at hk
    rw [q3.1 _ _ (by unfold pcW; omega), e3 _ _ (by omega), g1.2.1 _ _ (by unfold twW; omega)]
  unfold b_X2_read_53 b_X2_read_67
  rw [r2_0, c_fine q1', bd_some]
  by_cases z : (sAll b).1.1 = 0
  · rw [if_pos z, one0]
    have hI := (sAll_ok hb z).2.1
    refine Rn_bv (Rn_mono (c_settle hN hu hI (q2' z)) (fun S5 g5 => ?_))
    have hP5 : PCs S5 b (sAll b).1 := PCs_f q1' g5.2.2 (fun k j hk => g5.2.1 _ _ (by unfold twW; omega))
    refine Rn_ret ⟨hP5.2.2, hP5, fun _ => g5.1, fun k j hk => ?_, ?_⟩
    · rw [g5.2.1 _ _ (by unfold rdW at hk; unfold twW; omega)]
      exact e4 k j hk
    · unfold rg at r4 ⊢
      rw [g5.2.2]
      exact r4
  · rw [if_neg z, zer0]
    exact Rn_ret ⟨q1'.2.2, q1', fun q => absurd q z, e4, r4⟩
theorem c_place {S : am_S} {b : Tx} {x : Ft} (h : PCs S b x) : f_X2_placeOfFault N 2 S = some (if x.1 = 0 then -1 else nI x.2.1, S) := by
  unfold f_X2_placeOfFault b_X2_placeOfFault_21
  rw [r2_0, c_fine h, bd_some]
  by_cases z : x.1 = 0
  · rw [if_pos z, one0, if_pos z]
  · rw [if_neg z, zer0, if_neg z, h.2.1.2.1]
theorem c_begin {S : am_S} {u : Nat} {c : Cp} (hN : 10000 ≤ N) (hI : CpI c) (hu : Ci u) (hC : CE S u c) : Rn (f_X7_begin N 40 u S) (fun S' => RC S' 40 (72 + pnp c) (rwN c) ∧ Fm (fun k _ => k = 41) S S') := by
  have h8 := Ci_8 hu
  obtain ⟨-, h2, h5⟩ := hC
  have hp := hI.1.2.1
  obtain ⟨⟨-, -, r2, n2⟩, ⟨-, -, -, -, r6, n5, -, -⟩, -⟩ := hu
  unfold f_X7_begin
  rw [show rf 40 0 = 41 from rfl, r2, r6, n2, n5, show ln 41 = 80 from rfl, show Int32.toNatClampNeg 0 = 0 from rfl, show Int32.toNatClampNeg 2 = 2 from rfl, show Int32.toNatClampNeg 6 = 6 from rfl, show Int32.toNatClampNeg 24 = 24 from rfl, show Int32.toNatClampNeg 8 = 8 from rfl]
  refine Rn_bv (Rn_mono (c_fill (la := 80) rfl (by omega) (by omega)) (fun S1 g1 => ?_))
  rw [if_pos (show cpk 0 2 6 6 80 = true by decide), if_pos (show cpk 0 24 8 8 80 = true by decide)]
  refine Rn_ret ⟨fun j hj => ?_, fun k j hk => ?_, ?_⟩
  · show sg _ 41 (pm j) = _
    rw [sg_scp]
    by_cases y1 : j < 8
    · have e : pm j = j := if_pos y1
      rw [e, if_neg (by omega), sg_scp]
      by_cases y2 : 2 ≤ j
      · rw [if_pos (by omega), g1.2.1 _ _ (by omega), Nat.zero_add, show j = 2 + (j - 2) by omega, rwN_2 (by omega), show 2 + (j - 2) - 2 = j - 2 by omega]
        exact h2 _ (by omega)
      · rw [if_neg (by omega), rwN_0 (by omega)]
        exact g1.1 _ (by omega)
    · by_cases y2 : 72 ≤ j
      · have e : pm j = j - 48 := by unfold pm; rw [if_neg (by omega), if_neg (by omega)]
        rw [e, if_pos (by omega), sg_scp, if_neg (by omega), g1.2.1 _ _ (by omega), show 0 + (j - 48 - 24) = j - 72 by omega, show j = 72 + (j - 72) by omega, rwN_72, show 72 + (j - 72) - 72 = j - 72 by omega]
        exact h5 _ (by omega)
      · have e : pm j < 80 ∧ ¬ (2 ≤ pm j ∧ pm j < 8) ∧ ¬ (24 ≤ pm j ∧ pm j < 32) := by unfold pm; split <;> (try split) <;> omega
        rw [if_neg (by omega), sg_scp, if_neg (by omega), rwN_0 (by omega)]
        exact g1.1 _ (by omega)
  · rw [sg_scp, if_neg (by omega), sg_scp, if_neg (by omega)]
    exact g1.2.1 _ _ (by omega)
  · rw [scp2, scp2]
    exact g1.2.2
end
