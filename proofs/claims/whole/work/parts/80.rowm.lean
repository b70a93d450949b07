/-! the wet nights are read; rows by the model -/
section
variable {N : Nat}
theorem c_inW {S : am_S} {b : Tx} {x : Ft} {c : Cp} (hN : 10000 ≤ N) (hb : TxI b) (hI : CpI c) (h : PCs S b x) : Rn (f_X2_readInRow N 2 (nI (pnw c)) (nI 8) 9 9999 S) (fun q => q.1 = nI (num b x.2) ∧ PCs q.2 b (aN b 9 (rW1 x c)) ∧ Fm cw6 S q.2) := by
  have hk := G_kd h.1.1
  have hnm := G_num h.1.1
  have hnr := hI.1.2.2.2
  have last : ∀ S1, PCs S1 b (rW1 x c) → Fm cw6 S S1 → Rn (b_X2_readInRow_69 N 2 9 S1) (fun q => q.1 = nI (num b x.2) ∧ PCs q.2 b (aN b 9 (rW1 x c)) ∧ Fm cw6 S q.2) := by
    intro S1 h1 h2
    unfold b_X2_readInRow_69
    rw [r2_0, l9]
    refine Rn_bd (Rn_mono (c_N hN hb (by omega) h1) (fun q g => Rn_ret ⟨?_, g.2.1, Fm_tr h2 g.2.2⟩))
    rw [← rW1_2 x c]
    exact g.1
  unfold f_X2_readInRow b_X2_readInRow_27
  rw [r2_0, h.2.1.2.2.2.1, h.2.1.2.2.2.2, l3]
  by_cases y : x.2.2.2 = 3
  · rw [eqT y]
    by_cases w : pnw c < 8
    · rw [ltT w (by omega), eqT y]
      have hl : PCs S b (rW1 x c) := by
        unfold rW1
        rw [if_neg (fun q => by omega)]
        exact h
      by_cases v : 9 < num b x.2
      · have e : (9 : Int32) < nI (num b x.2) := (nIlt (a := 9) (by omega) (by omega)).mpr v
        rw [if_pos e]
        exact last S hl (Fm_rf _ _)
      · have e : ¬ (9 : Int32) < nI (num b x.2) := fun q => v ((nIlt (a := 9) (by omega) (by omega)).mp q)
        have e2 : nI (num b x.2) < (9999 : Int32) := (nIlt (b := 9999) (by omega) (by omega)).mpr (by omega)
        rw [if_neg e, if_pos e2]
        exact last S hl (Fm_rf _ _)
    · rw [ltF (by omega) (by omega)]
      refine Rn_bv (Rn_mono (c_F (k := 2) (by omega) h) (fun S1 g1 => ?_))
      refine last S1 ?_ g1.2
      unfold rW1
      rw [if_pos ⟨y, by omega⟩]
      exact g1.1
  · rw [eqF y (by omega) (by omega), eqF y (by omega) (by omega)]
    refine last S ?_ (Fm_rf _ _)
    unfold rW1
    rw [if_neg (fun q => y q.1)]
    exact h
theorem c_rowW {t : Nat} {b : Tx} {S0 : am_S} (hN : 10000 ≤ N) (hb : TxI b) (ht : Ci t) : ∀ (d n : Nat) (S : am_S) (x : Ft) (c : Cp), pnw c + d = 9 → 0 < d → d + 1 < n → CpI c → PCs S b x → x.1 = 0 → (pnw c = 0 ∨ x.2.2.2 = 3) → CT S t c → Fm (pcW t) S0 S → Rn (b_X2_readWet_24 N n 2 t (nI (pnw c)) S) (fun S' => PCs S' b (rowW b d x c).1 ∧ CT S' t (rowW b d x c).2 ∧ Fm (pcW t) S0 S') := by
  intro d
  induction d with
  | zero => intro n S x c _ h; omega
  | succ d ih =>
    intro n S x c hd _ hn hI h z hor hC hF
    obtain ⟨m, rfl⟩ : ∃ m, n = m + 1 := ⟨n - 1, by omega⟩
    have hk := G_kd h.1.1
    have hnm := G_num h.1.1
    have hnb := hI.1.1
    have hnr := hI.1.2.2.2
    unfold b_X2_readWet_24 rowW
    have e0 : f_X2_moreNumbers N 2 (nI (pnw c)) S = some (1, S) := (c_more h (by omega)).trans (by rw [if_pos ⟨z, hor⟩])
    rw [l8, ltF (by omega) (by omega), e0, bd_some, one0]
    refine Rn_bd (Rn_mono (c_inW hN hb hI h) (fun q hq => ?_))
    obtain ⟨h1, h2, h3⟩ := hq
    rw [r2_0, c_fine h2, bd_some]
    have hC2 := CT_6 ht hC h3
    have hF2 := Fm_tr hF (cw_pc (t := t) h3)
    unfold b_X2_readWet_66
    rw [nI1]
    by_cases w : (aN b 9 (rW1 x c)).1 = 0
    · obtain ⟨-, -, w3, w5⟩ := rW1_0 w
      rw [if_pos w, one0, if_pos w, h1]
      refine Rn_bv (Rn_mono (c_addW ht w3 hC2) (fun S3 g3 => ?_))
      have hP3 := PCs_t ht h2 g3.2
      have hF3 := Fm_tr hF2 (tw_pc g3.2)
      have hI3 : CpI (adW c (num b x.2)) := by
        obtain ⟨⟨i1, i2, i3, i4⟩, i5, i6, i7, i8⟩ := hI
        refine ⟨⟨i1, i2, i3, w3⟩, i5, i6, i7, fun i hi => ?_⟩
        have hi' : i < pnw c + 1 := hi
        show upf (pwe c) (pnw c) (num b x.2) i ≤ 9
        by_cases v : i = pnw c
        · rw [v, upf_e]
          exact w5
        · rw [upf_n v]
          exact i8 i (by omega)
      by_cases v : (aN b 9 (rW1 x c)).2.2.2 = 3
      · rw [if_pos v]
        exact ih m S3 _ (adW c (num b x.2)) (by show pnw c + 1 + d = 9; omega) (by omega) (by omega) hI3 hP3 w (Or.inr v) g3.1 hF3
      · rw [if_neg v]
        obtain ⟨k, rfl⟩ : ∃ k, m = k + 1 := ⟨m - 1, by omega⟩
        unfold b_X2_readWet_24 b_X2_readWet_72
        have e4 : f_X2_moreNumbers N 2 (nI (pnw c + 1)) S3 = some (0, S3) := (c_more hP3 (by omega)).trans (by rw [if_neg (fun q => q.2.elim (by omega) v)])
        rw [l8, ltF (by omega) (by omega), e4, bd_some, zer0]
        exact Rn_ret ⟨hP3, g3.1, hF3⟩
    · rw [if_neg w, zer0, if_neg w]
      obtain ⟨k, rfl⟩ : ∃ k, m = k + 1 := ⟨m - 1, by omega⟩
      unfold b_X2_readWet_24 b_X2_readWet_72
      have e4 : f_X2_moreNumbers N 2 (nI (pnw c + 1)) q.2 = some (0, q.2) := (c_more h2 (by omega)).trans (by rw [if_neg (fun q => w q.1)])
      rw [e4, bd_some, zer0]
      split <;> exact Rn_ret ⟨h2, hC2, hF2⟩
theorem c_wet {S : am_S} {t : Nat} {b : Tx} {x : Ft} {c : Cp} (hN : 10000 ≤ N) (hb : TxI b) (ht : Ci t) (hI : CpI c) (h : PCs S b x) (hC : CT S t c) : Rn (f_X2_readWet N 2 t S) (fun S' => PCs S' b (sWet b x c).1 ∧ CT S' t (sWet b x c).2 ∧ Fm (pcW t) S S') := by
  have hnr := hI.1.2.2.2
  have go : ∀ S1, PCs S1 b (if 0 < pnw c then aF 5 x else x) → CT S1 t c → Fm (pcW t) S S1 → Rn (b_X2_readWet_15 N 2 t S1) (fun S' => PCs S' b (sWet b x c).1 ∧ CT S' t (sWet b x c).2 ∧ Fm (pcW t) S S') := by
    intro S1 h1 h2 h3
    unfold b_X2_readWet_15 sWet
    rw [r2_0]
    refine Rn_bv (Rn_mono (c_S hN hb h1) (fun S2 g2 => ?_))
    have hC2 := CT_6 ht h2 g2.2
    have hF2 := Fm_tr h3 (cw_pc (t := t) g2.2)
    by_cases z : (aS b (if 0 < pnw c then aF 5 x else x)).1 = 0
    · rw [if_pos z]
      have h0 : pnw c = 0 := Classical.byContradiction (fun q => by
        rw [if_pos (by omega)] at z
        by_cases w : x.1 = 0
        · rw [aF0 w, aSf (by show ¬ (5 : Nat) = 0; omega)] at z
          exact absurd z (by show ¬ (5 : Nat) = 0; omega)
        · rw [aFf w, aSf w] at z
          exact w z)
      have := c_rowW hN hb ht 9 N S2 _ c (by omega) (by omega) (by omega) hI g2.1 z (Or.inl h0) hC2 hF2
      rw [show nI (pnw c) = 0 by rw [h0]; rfl] at this
      exact this
    · rw [if_neg z]
      obtain ⟨k, hk⟩ : ∃ k, N = k + 1 := ⟨N - 1, by omega⟩
      rw [show b_X2_readWet_24 N N = b_X2_readWet_24 N (k + 1) by rw [← hk]]
      unfold b_X2_readWet_24 b_X2_readWet_72
      have e4 : f_X2_moreNumbers N 2 0 S2 = some (0, S2) := (c_more (i := 0) g2.1 (by omega)).trans (by rw [if_neg (fun q => z q.1)])
      rw [e4, bd_some, zer0, ite_self]
      exact Rn_ret ⟨g2.1, hC2, hF2⟩
  unfold f_X2_readWet
  rw [hC.1.2.2, r2_0]
  by_cases z : 0 < pnw c
  · rw [le0F z (by omega), l5]
    refine Rn_bv (Rn_mono (c_F (by omega) h) (fun S1 g => ?_))
    refine go S1 ?_ (CT_6 ht hC g.2) (cw_pc g.2)
    rw [if_pos z]
    exact g.1
  · rw [l0, leT (by omega) (by omega)]
    refine go S ?_ hC (Fm_rf _ _)
    rw [if_neg z]
    exact h
theorem ad_IR {c : Cp} {v : Nat} (hI : CpI c) (hn : pnr c < 8) (hv : v < pnb c) : CpI (adR c v) := by
  obtain ⟨⟨i1, i2, i3, i4⟩, i5, i6, i7, i8⟩ := hI
  refine ⟨⟨i1, i2, hn, i4⟩, i5, i6, fun i hi => ?_, i8⟩
  have hi' : i < pnr c + 1 := hi
  show upf (pro c) (pnr c) v i < pnb c
  by_cases q : i = pnr c
  · rw [q, upf_e]
    exact hv
  · rw [upf_n q]
    exact i7 i (by omega)
theorem ad_IW {c : Cp} {v : Nat} (hI : CpI c) (hn : pnw c < 8) (hv : v ≤ 9) : CpI (adW c v) := by
  obtain ⟨⟨i1, i2, i3, i4⟩, i5, i6, i7, i8⟩ := hI
  refine ⟨⟨i1, i2, i3, hn⟩, i5, i6, i7, fun i hi => ?_⟩
  have hi' : i < pnw c + 1 := hi
  show upf (pwe c) (pnw c) v i ≤ 9
  by_cases q : i = pnw c
  · rw [q, upf_e]
    exact hv
  · rw [upf_n q]
    exact i8 i (by omega)
theorem m_rowR {b : Tx} {tp : Nat} {S0 : am_S} (hN : 10000 ≤ N) (hb : TxI b) : ∀ (d n : Nat) (S : am_S) (x : Ft) (c : Cp), pnr c + d = 9 → 0 < d → d + 1 < n → CpI c → PMs S b x → x.1 = 0 → CTM S tp c → Fl pmW S0 S → Rn (b_X10_readsRound_2 N n 78 1 S) (fun S' => PMs S' b (rowR b d x c).1 ∧ ((rowR b d x c).1.1 = 0 → CTM S' tp (rowR b d x c).2) ∧ Fl pmW S0 S') := by
  intro d
  induction d with
  | zero => intro n S x c _ h; omega
  | succ d ih =>
    intro n S x c hd _ hn hI h z hC hF
    obtain ⟨m, rfl⟩ : ∃ m, n = m + 1 := ⟨n - 1, by omega⟩
    have hk := G_kd h.1.1
    have hnm := G_num h.1.1
    have hnb := hI.1.1
    have hnr := hI.1.2.2.1
    have hms := ms_lt x.2.2.2
    have htl := G_tln hb h.1.1
    have hmv := mvl_lt h.1.1
    rw [b_X10_readsRound_2, one0, m_good h, bd_some, if_pos z, one0]
    unfold rowR b_X10_readsRound_46
    have bad : ∀ k, 0 < k ∧ k < 10 → aN b 9999 (rR1 b x c) = (k, x.2) → Rn (bv (f_X10_wrong N 78 (nI k) S) (fun S2 => b_X10_readsRound_70 N (b_X10_readsRound_2 N m) 78 S2)) (fun S' => PMs S' b (aN b 9999 (rR1 b x c), c).1 ∧ ((aN b 9999 (rR1 b x c), c).1.1 = 0 → CTM S' tp (aN b 9999 (rR1 b x c), c).2) ∧ Fl pmW S0 S') := by
      intro k hk he
      refine Rn_bv (Rn_mono (m_F hk h) (fun S1 g => ?_))
      rw [aF0 z] at g
      unfold b_X10_readsRound_70
      rw [m_good g.1, bd_some, if_neg (by show ¬ k = 0; omega : ¬ (k, x.2).1 = 0), zer0]
      refine Rn_ret ⟨?_, fun q => ?_, Fl_tr hF (mw_pm g.2)⟩
      · show PMs S1 b (aN b 9999 (rR1 b x c))
        rw [he]
        exact g.1
      · have q' : (aN b 9999 (rR1 b x c)).1 = 0 := q
        rw [he] at q'
        exact absurd q' (by show ¬ k = 0; omega)
    rw [h.2.1.2.2.1, hC.1.2.1, h.2.1.2.2.2.2.1, h.2.1.2.2.2.2.2.1, hC.1.1.1, l2, l8, l4, l3, l1]
    have nb : ∀ k, ¬ k = 0 → aN b 9999 (rR1 b x c) = (k, x.2) → ¬ (aN b 9999 (rR1 b x c)).1 = 0 := fun k hk he => by rw [he]; exact hk
    by_cases y : x.2.2.2 = 3
    · rw [eqT (ms3.mpr y)]
      by_cases w : pnr c = 8
      · have e : aN b 9999 (rR1 b x c) = (2, x.2) := by
          unfold rR1
          rw [if_pos y, if_neg (by omega), aF0 z, aNf (by show ¬ (2 : Nat) = 0; omega)]
        rw [eqT w, if_neg (nb 2 (by omega) e)]
        exact bad 2 (by omega) e
      · rw [eqF w (by omega) (by omega)]
        by_cases v : tln x.2 ≤ 4
        · rw [leT v (by omega), mvl_num y v]
          have hlt : num b x.2 < 10000 := by rw [← mvl_num y v]; exact hmv
          by_cases u : num b x.2 < pnb c
          · rw [ltT u (by omega)]
            have e1 : rR1 b x c = x := by
              unfold rR1
              rw [if_pos y, if_pos (by omega), if_neg (by omega), if_pos u]
            have e : aN b 9999 (rR1 b x c) = aS b x := by
              rw [e1]
              unfold aN
              rw [if_pos y, if_pos (by omega)]
            rw [e]
            have eg : (aS b x).1 = 0 := by rw [aS0 z]
            rw [if_pos eg]
            unfold b_X10_readsRound_70
            rw [m_good h, bd_some, if_pos z, one0, hC.1.2.1, r78_40, n90, inbT (by omega) (by omega), nIc (by omega), h.2.1.2.2.2.2.2.1, mvl_num y v, sgn (by omega), hC.1.2.1, nI1]
            have hP1 : PMs (sp (sp S 90 (pnr c) (nI (num b x.2))) 78 28 (nI (pnr c + 1))) b x := PMs_o (PMs_o h (by omega)) (by omega)
            refine Rn_bv (Rn_mono (m_S hN hb hP1 z) (fun S2 g2 => ?_))
            have hC2 := CTM_6 (m_adR (v := num b x.2) hC) g2.2
            have hF2 : Fl pmW S0 S2 := Fl_tr (Fl_sp (Fl_sp hF (Or.inr (by omega))) (Or.inl (by omega))) (mw_pm g2.2)
            have hms2 := ms_lt (aS b x).2.2.2
            rw [g2.1.2.1.2.2.1, l2]
            unfold b_X10_readsRound_118
            by_cases t : (aS b x).2.2.2 = 3
            · rw [eqT (ms3.mpr t), if_pos t]
              exact ih m S2 _ (adR c (num b x.2)) (by show pnr c + 1 + d = 9; omega) (by omega) (by omega) (ad_IR hI (by omega) u) g2.1 eg hC2 hF2
            · rw [eqF (fun q => t (ms3.mp q)) (by omega) (by omega), if_neg t]
              obtain ⟨k, rfl⟩ : ∃ k, m = k + 1 := ⟨m - 1, by omega⟩
              unfold b_X10_readsRound_2 b_X10_readsRound_122
              rw [zer0]
              exact Rn_ret ⟨g2.1, fun _ => hC2, hF2⟩
          · have e : aN b 9999 (rR1 b x c) = (3, x.2) := by
              unfold rR1
              rw [if_pos y, if_pos (by omega), if_neg (by omega), if_neg u, aF0 z, aNf (by show ¬ (3 : Nat) = 0; omega)]
            rw [ltF (by omega) (by omega), if_neg (nb 3 (by omega) e)]
            exact bad 3 (by omega) e
        · have e : aN b 9999 (rR1 b x c) = (2, x.2) := by
            have h9 := num_4 (b := b) y v
            unfold rR1
            rw [if_pos y, if_pos (by omega), if_pos (by omega)]
            unfold aN
            rw [if_pos y, if_neg (by omega), aF0 z, aSf (by show ¬ (2 : Nat) = 0; omega)]
          rw [leF (by omega) (by omega), if_neg (nb 2 (by omega) e)]
          exact bad 2 (by omega) e
    · have e : aN b 9999 (rR1 b x c) = (1, x.2) := by
        unfold rR1
        rw [if_neg y]
        unfold aN
        rw [if_neg y, aF0 z, aSf (by show ¬ (1 : Nat) = 0; omega)]
      rw [eqF (fun q => y (ms3.mp q)) (by omega) (by omega), if_neg (nb 1 (by omega) e)]
      exact bad 1 (by omega) e
theorem m_rou {S : am_S} {b : Tx} {x : Ft} {c : Cp} {tp : Nat} {Q : am_S → Prop} (hN : 10000 ≤ N) (hb : TxI b) (hI : CpI c) (h : PMs S b x) (hC : CTM S tp c) (hQ : ∀ S', PMs S' b (sRou b x c).1 → ((sRou b x c).1.1 = 0 → CTM S' tp (sRou b x c).2) → Fl pmW S S' → Rn (b_X10_line_235 N 78 S') Q) : Rn (if (sg S 78 28) ≤ 0 then b_X10_line_95 N 78 78 0 0 S else b_X10_line_95 N 78 78 0 1 S) Q := by
  have hnr := hI.1.2.2.1
  have go : ∀ v, v ≤ 1 → (if v = 0 then x else aF 5 x) = (if 0 < pnr c then aF 5 x else x) → Rn (b_X10_line_95 N 78 78 0 (nI v) S) Q := by
    intro v hv he
    unfold b_X10_line_95
    refine Rn_bd (Rn_mono (m_beg (u := 0) hN hb h (by omega) hv) (fun q g => ?_))
    rw [if_pos rfl, he] at g
    unfold sRou at hQ
    by_cases z : (if 0 < pnr c then aF 5 x else x).1 = 0
    · rw [if_pos z] at g
      rw [g.1, one0]
      have h0 : pnr c = 0 := Classical.byContradiction (fun q => by
        rw [if_pos (by omega)] at z
        by_cases w : x.1 = 0
        · rw [aF0 w] at z
          exact absurd z (by show ¬ (5 : Nat) = 0; omega)
        · rw [aFf w] at z
          exact w z)
      have eg : (aS b (if 0 < pnr c then aF 5 x else x)).1 = 0 := by rw [aS0 z]
      rw [if_pos eg] at hQ
      unfold f_X10_readsRound
      exact Rn_bv (Rn_mono (m_rowR hN hb 9 N q.2 _ c (by omega) (by omega) (by omega) hI g.2.1 eg (CTM_6 hC g.2.2) (mw_pm g.2.2)) (fun S3 g3 => hQ S3 g3.1 g3.2.1 g3.2.2))
    · rw [if_neg z] at g
      rw [g.1, zer0]
      have e1 : aS b (if 0 < pnr c then aF 5 x else x) = (if 0 < pnr c then aF 5 x else x) := aSf z
      rw [e1] at g hQ
      rw [if_neg z] at hQ
      exact hQ q.2 g.2.1 (fun q => absurd q z) (mw_pm g.2.2)
  rw [hC.1.2.1]
  by_cases z : 0 < pnr c
  · rw [le0F z (by omega)]
    exact go 1 (by omega) (by rw [if_neg (by omega), if_pos z])
  · have e0 : nI (pnr c) ≤ 0 := (nIle (b := 0) (by omega) (by omega)).mpr (by omega)
    rw [if_pos e0]
    exact go 0 (by omega) (by rw [if_pos rfl, if_neg z])
theorem m_rowW {b : Tx} {tp : Nat} {S0 : am_S} (hN : 10000 ≤ N) (hb : TxI b) : ∀ (d n : Nat) (S : am_S) (x : Ft) (c : Cp), pnw c + d = 9 → 0 < d → d + 1 < n → CpI c → PMs S b x → x.1 = 0 → CTM S tp c → Fl pmW S0 S → Rn (b_X10_readsWet_2 N n 78 1 S) (fun S' => PMs S' b (rowW b d x c).1 ∧ ((rowW b d x c).1.1 = 0 → CTM S' tp (rowW b d x c).2) ∧ Fl pmW S0 S') := by
  intro d
  induction d with
  | zero => intro n S x c _ h; omega
  | succ d ih =>
    intro n S x c hd _ hn hI h z hC hF
    obtain ⟨m, rfl⟩ : ∃ m, n = m + 1 := ⟨n - 1, by omega⟩
    have hnr := hI.1.2.2.2
    have hms := ms_lt x.2.2.2
    rw [b_X10_readsWet_2, one0, m_good h, bd_some, if_pos z, one0]
    unfold rowW
    have next : ∀ S1, PMs S1 b (rW1 x c) → CTM S1 tp c → Fl pmW S0 S1 → Rn (b_X10_readsWet_35 N (b_X10_readsWet_2 N m) 78 S1) (fun S' => PMs S' b (if (aN b 9 (rW1 x c)).1 = 0 then (if (aN b 9 (rW1 x c)).2.2.2 = 3 then rowW b d (aN b 9 (rW1 x c)) (adW c (num b x.2)) else (aN b 9 (rW1 x c), adW c (num b x.2))) else (aN b 9 (rW1 x c), c)).1 ∧ ((if (aN b 9 (rW1 x c)).1 = 0 then (if (aN b 9 (rW1 x c)).2.2.2 = 3 then rowW b d (aN b 9 (rW1 x c)) (adW c (num b x.2)) else (aN b 9 (rW1 x c), adW c (num b x.2))) else (aN b 9 (rW1 x c), c)).1.1 = 0 → CTM S' tp (if (aN b 9 (rW1 x c)).1 = 0 then (if (aN b 9 (rW1 x c)).2.2.2 = 3 then rowW b d (aN b 9 (rW1 x c)) (adW c (num b x.2)) else (aN b 9 (rW1 x c), adW c (num b x.2))) else (aN b 9 (rW1 x c), c)).2) ∧ Fl pmW S0 S') := by
      intro S1 h1 h2 h3
      unfold b_X10_readsWet_35
      rw [l9]
      refine Rn_bd (Rn_mono (m_N hN hb (by omega) h1) (fun q g => ?_))
      have hC2 := CTM_6 h2 g.2.2
      have hF2 := Fl_tr h3 (mw_pm g.2.2)
      rw [m_good g.2.1, bd_some]
      by_cases w : (aN b 9 (rW1 x c)).1 = 0
      · obtain ⟨-, -, w3, w5⟩ := rW1_0 w
        have hq : q.1 = nI (num b x.2) := by
          rw [g.1 w, rW1_2]
        have e29 : sg (sp q.2 91 (pnw c) q.1) 78 29 = nI (pnw c) := by rw [sgn (by omega)]; exact hC2.1.2.2.1
        rw [if_pos w, one0, if_pos w, hC2.1.2.2.1, r78_41, n91, inbT (by omega) (by omega), nIc (by omega), e29, nI1, hq]
        have hP2 : PMs (sp (sp q.2 91 (pnw c) (nI (num b x.2))) 78 29 (nI (pnw c + 1))) b (aN b 9 (rW1 x c)) := PMs_o (PMs_o g.2.1 (by omega)) (by omega)
        have hC3 := m_adW (v := num b x.2) hC2
        have hF3 : Fl pmW S0 (sp (sp q.2 91 (pnw c) (nI (num b x.2))) 78 29 (nI (pnw c + 1))) := Fl_sp (Fl_sp hF2 (Or.inr (by omega))) (Or.inl (by omega))
        have hms2 := ms_lt (aN b 9 (rW1 x c)).2.2.2
        rw [hP2.2.1.2.2.1, l2]
        unfold b_X10_readsWet_84
        by_cases t : (aN b 9 (rW1 x c)).2.2.2 = 3
        · rw [eqT (ms3.mpr t), if_pos t]
          exact ih m _ _ (adW c (num b x.2)) (by show pnw c + 1 + d = 9; omega) (by omega) (by omega) (ad_IW hI (by omega) w5) hP2 w hC3 hF3
        · rw [eqF (fun q => t (ms3.mp q)) (by omega) (by omega), if_neg t]
          obtain ⟨k, rfl⟩ : ∃ k, m = k + 1 := ⟨m - 1, by omega⟩
          unfold b_X10_readsWet_2 b_X10_readsWet_88
          rw [zer0]
          exact Rn_ret ⟨hP2, fun _ => hC3, hF3⟩
      · rw [if_neg w, zer0, if_neg w]
        exact Rn_ret ⟨g.2.1, fun q => absurd q w, hF2⟩
    rw [h.2.1.2.2.1, hC.1.2.2.1, l8]
    by_cases w : pnw c = 8
    · rw [eqT w]
      by_cases y : x.2.2.2 = 3
      · have e2 : nI (ms x.2.2.2) = 2 := by rw [ms3.mpr y]; rfl
        rw [if_pos e2]
        refine Rn_bv (Rn_mono (m_F (k := 2) (by omega) h) (fun S1 g => ?_))
        refine next S1 ?_ (CTM_6 hC g.2) (Fl_tr hF (mw_pm g.2))
        unfold rW1
        rw [if_pos ⟨y, by omega⟩]
        exact g.1
      · have e2 : ¬ nI (ms x.2.2.2) = 2 := fun q => y (ms3.mp ((nIeq (b := 2) (by omega) (by omega)).mp q))
        rw [if_neg e2]
        refine next S ?_ hC hF
        unfold rW1
        rw [if_neg (fun q => y q.1)]
        exact h
    · rw [eqF w (by omega) (by omega)]
      refine next S ?_ hC hF
      unfold rW1
      rw [if_neg (fun q => by omega)]
      exact h
theorem m_wet {S : am_S} {b : Tx} {x : Ft} {c : Cp} {tp : Nat} {Q : am_S → Prop} (hN : 10000 ≤ N) (hb : TxI b) (hI : CpI c) (h : PMs S b x) (hC : CTM S tp c) (hQ : ∀ S', PMs S' b (sWet b x c).1 → ((sWet b x c).1.1 = 0 → CTM S' tp (sWet b x c).2) → Fl pmW S S' → Rn (b_X10_line_235 N 78 S') Q) : Rn (if (sg S 78 29) ≤ 0 then b_X10_line_128 N 78 78 0 0 S else b_X10_line_128 N 78 78 0 1 S) Q := by
  have hnr := hI.1.2.2.2
  have go : ∀ v, v ≤ 1 → (if v = 0 then x else aF 5 x) = (if 0 < pnw c then aF 5 x else x) → Rn (b_X10_line_128 N 78 78 0 (nI v) S) Q := by
    intro v hv he
    unfold b_X10_line_128
    refine Rn_bd (Rn_mono (m_beg (u := 0) hN hb h (by omega) hv) (fun q g => ?_))
    rw [if_pos rfl, he] at g
    unfold sWet at hQ
    by_cases z : (if 0 < pnw c then aF 5 x else x).1 = 0
    · rw [if_pos z] at g
      rw [g.1, one0]
      have h0 : pnw c = 0 := Classical.byContradiction (fun q => by
        rw [if_pos (by omega)] at z
        by_cases w : x.1 = 0
        · rw [aF0 w] at z
          exact absurd z (by show ¬ (5 : Nat) = 0; omega)
        · rw [aFf w] at z
          exact w z)
      have eg : (aS b (if 0 < pnw c then aF 5 x else x)).1 = 0 := by rw [aS0 z]
      rw [if_pos eg] at hQ
      unfold f_X10_readsWet
      exact Rn_bv (Rn_mono (m_rowW hN hb 9 N q.2 _ c (by omega) (by omega) (by omega) hI g.2.1 eg (CTM_6 hC g.2.2) (mw_pm g.2.2)) (fun S3 g3 => hQ S3 g3.1 g3.2.1 g3.2.2))
    · rw [if_neg z] at g
      rw [g.1, zer0]
      have e1 : aS b (if 0 < pnw c then aF 5 x else x) = (if 0 < pnw c then aF 5 x else x) := aSf z
      rw [e1] at g hQ
      rw [if_neg z] at hQ
      exact hQ q.2 g.2.1 (fun q => absurd q z) (mw_pm g.2.2)
  rw [hC.1.2.2.1]
  by_cases z : 0 < pnw c
  · rw [le0F z (by omega)]
    exact go 1 (by omega) (by rw [if_neg (by omega), if_pos z])
  · have e0 : nI (pnw c) ≤ 0 := (nIle (b := 0) (by omega) (by omega)).mpr (by omega)
    rw [if_pos e0]
    exact go 0 (by omega) (by rw [if_pos rfl, if_neg z])
end
