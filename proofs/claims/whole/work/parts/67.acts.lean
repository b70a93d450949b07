/-! acts that are kept, what is noted: on either side -/
def push (l : Al) (r : Rw) : Al := if l.1 = 40 then (40, fun i => if i = 39 then r else l.2 (i + 1)) else (l.1 + 1, fun i => if i = l.1 then r else l.2 i)
theorem push_W {c : Cy} {l : Al} {r : Rw} (h1 : l.1 ≤ 40) (h2 : ∀ i, i < l.1 → WR c (l.2 i)) (hr : WR c r) : (push l r).1 ≤ 40 ∧ ∀ i, i < (push l r).1 → WR c ((push l r).2 i) := by
  unfold push
  by_cases z : l.1 = 40
  · rw [if_pos z]
    refine ⟨Nat.le_refl _, fun i hi => ?_⟩
    have hi' : i < 40 := hi
    show WR c (if i = 39 then r else l.2 (i + 1))
    by_cases y : i = 39
    · rw [if_pos y]; exact hr
    · rw [if_neg y]; exact h2 _ (by omega)
  · rw [if_neg z]
    refine ⟨by show l.1 + 1 ≤ 40; omega, fun i hi => ?_⟩
    have hi' : i < l.1 + 1 := hi
    show WR c (if i = l.1 then r else l.2 i)
    by_cases y : i = l.1
    · rw [if_pos y]; exact hr
    · rw [if_neg y]; exact h2 _ (by omega)
section
variable {N np : Nat} {S : am_S} {l : Al} {r : Rw}
theorem c_keep (h40 : l.1 ≤ 40) (hnp : np ≤ 8) (hA : AC S np 44 l) (hR : RC S 40 (72 + np) r) : Rn (f_X0_keep N 44 40 S) (fun S' => AC S' np 44 (push l r) ∧ Fm (fun k j => k = 45 ∨ (k = 44 ∧ (j = 1 ∨ j = 2))) S S') := by
  obtain ⟨h1, nx, h2, h3, h4⟩ := hA
  unfold f_X0_keep
  rw [h3, l80, nIm, r44_0, n45, Sk40.1.1, Sk40.1.2, l0, cpkT (by omega) (by omega) (by omega) (by omega), nIc (by omega), nIc (by omega), nIc (by omega)]
  have e2 : sg (scp S (40 + 1) 0 45 (nx * 80) 80) 44 2 = nI nx := by rw [sg_scp, if_neg (by omega)]; exact h3
  have e1 : ∀ v, sg (sp (scp S (40 + 1) 0 45 (nx * 80) 80) 44 2 v) 44 1 = nI l.1 := fun v => by rw [sgj (by omega), sg_scp, if_neg (by omega)]; exact h1
  rw [e2, e1, nI1, l40, nImod (by omega) (by omega), nI1]
  have ej : jmin (nI 40) (nI (l.1 + 1)) = nI (push l r).1 := by
    unfold jmin push
    by_cases z : l.1 = 40
    · rw [ltF (by omega) (by omega), if_pos z]
    · rw [if_neg z]
      show (if nI (l.1 + 1) < nI 40 then nI (l.1 + 1) else nI 40) = nI (l.1 + 1)
      by_cases y : l.1 + 1 < 40
      · rw [ltT y (by omega)]
      · rw [ltF (by omega) (by omega)]
        congr 1
        omega
  rw [ej]
  refine Rn_ret ⟨⟨sgp _ _ _ _, (nx + 1) % 40, Nat.mod_lt _ (by omega), by rw [sgj (by omega), sgp], fun i j hi hj => ?_⟩, ?_⟩
  · have hp := pm_lt (j := j) (by omega)
    rw [sgn (by omega), sgn (by omega), sg_scp]
    unfold push at hi ⊢
    by_cases z : l.1 = 40
    · rw [if_pos z] at hi ⊢
      have hi' : i < 40 := hi
      show _ = (if i = 39 then r else l.2 (i + 1)) j
      by_cases y : i = 39
      · rw [if_pos y, if_pos ⟨rfl, by omega, by omega⟩, ← hR j hj]
        congr 1
        omega
      · rw [if_neg y, if_neg (by omega), ← h4 (i + 1) j (by omega) hj]
        congr 2
        omega
    · rw [if_neg z] at hi ⊢
      have hi' : i < l.1 + 1 := hi
      show _ = (if i = l.1 then r else l.2 i) j
      have es : ((nx + 1) % 40 + 40 - (l.1 + 1) + i) % 40 = (nx + 40 - l.1 + i) % 40 := by omega
      rw [es]
      by_cases y : i = l.1
      · have e9 : (nx + 40 - l.1 + i) % 40 = nx := by omega
        rw [if_pos y, e9, if_pos ⟨rfl, by omega, by omega⟩, ← hR j hj]
        congr 1
        omega
      · rw [if_neg y, if_neg (by omega), ← h4 i j (by omega) hj]
  · refine Fm_sp (Fm_sp ⟨fun k j hk => ?_, rfl⟩ (by omega)) (by omega)
    rw [sg_scp, if_neg (by omega)]
theorem m_keeps (hN : 10000 ≤ N) (h40 : l.1 ≤ 40) (hnp : np ≤ 8) (hA : AM S np 48 97 l) (hR : RM S 0 (72 + np) r) : Rn (f_X10_keeps N 78 S) (fun S' => AM S' np 48 97 (push l r) ∧ Fm (fun k j => k = 97 ∨ (k = 78 ∧ j = 48)) S S') := by
  have tail : ∀ (s : am_S) (l' : Al), l'.1 < 40 → AM s np 48 97 l' → Fm (fun k j => k = 97 ∨ (k = 78 ∧ j = 48)) S s → push l r = (l'.1 + 1, fun i => if i = l'.1 then r else l'.2 i) → Rn (b_X10_keeps_50 N 78 s) (fun S' => AM S' np 48 97 (push l r) ∧ Fm (fun k j => k = 97 ∨ (k = 78 ∧ j = 48)) S S') := by
    intro s l' hl' hA' hf hp
    unfold b_X10_keeps_50
    refine lp0 (fun n (s2 : am_S) i => b_X10_keeps_52 N n 78 i s2) (fun i s2 => Fm (fun k j => k = 97 ∧ 80 * l'.1 ≤ j) s s2 ∧ ∀ j, j < i → sg s2 97 (80 * l'.1 + j) = sg s 96 j) _ 80 ?_ ?_ N s (by omega) ⟨Fm_rf _ _, fun j hj => by omega⟩
    · intro n s2 hs
      show Rn (b_X10_keeps_52 N (n + 1) 78 (nI 80) s2) _
      unfold b_X10_keeps_52
      have e48 : sg s2 78 48 = nI l'.1 := (hs.1.1 _ _ (by omega)).trans hA'.1
      rw [l80, leT (Nat.le_refl _) (by omega), e48, nI1, hp]
      refine Rn_ret ⟨⟨sgp _ _ _ _, fun i j hi hj => ?_⟩, Fm_sp (Fm_tr hf (Fm_wk hs.1 (fun k j h => Or.inl h.1))) (Or.inr ⟨rfl, rfl⟩)⟩
      have hi' : i < l'.1 + 1 := hi
      show sg _ 97 (80 * i + j) = (if i = l'.1 then r else l'.2 i) j
      rw [sgn (by omega)]
      by_cases y : i = l'.1
      · rw [if_pos y, y, hs.2 j (by omega), hf.1 _ _ (by omega), ← hR j hj, Nat.zero_add]
      · rw [if_neg y, hs.1.1 _ _ (by omega)]
        exact hA'.2 i j (by omega) hj
    · intro n i s2 hi hs ih
      show Rn (b_X10_keeps_52 N (n + 1) 78 (nI i) s2) _
      unfold b_X10_keeps_52
      have e48 : sg s2 78 48 = nI l'.1 := (hs.1.1 _ _ (by omega)).trans hA'.1
      rw [l80, leF (by omega) (by omega), e48, nIm, nIa, r78_46, r78_47, n96, n97, inbT (by omega) (by decide), inbT (by omega) (by decide), nIc (by omega), nIc (by omega), nI1]
      refine ih _ ⟨Fm_sp hs.1 ⟨rfl, by omega⟩, fun j hj => ?_⟩
      by_cases y : j = i
      · subst y
        rw [sgp]
        exact hs.1.1 _ _ (by omega)
      · rw [sgj (by omega)]
        exact hs.2 j (by omega)
  unfold f_X10_keeps
  rw [hA.1]
  by_cases z : l.1 = 40
  · rw [z, if_pos (by decide)]
    refine lp_rn (fun n (s : am_S) i => b_X10_keeps_12 N n 78 i s) (fun i s => 80 ≤ i ∧ Fm (fun k _ => k = 97) S s ∧ (∀ j, j + 80 < i → sg s 97 j = sg S 97 (j + 80)) ∧ ∀ j, i ≤ j + 80 → sg s 97 j = sg S 97 j) _ 3200 ?_ ?_ 3120 N 80 S (by omega) (by omega) ⟨by omega, Fm_rf _ _, fun j hj => by omega, fun j hj => rfl⟩
    · intro n s hs
      obtain ⟨-, g1, g2, g3⟩ := hs
      show Rn (b_X10_keeps_12 N (n + 1) 78 (nI 3200) s) _
      unfold b_X10_keeps_12
      have e48 : sg s 78 48 = nI 40 := by rw [g1.1 _ _ (by omega), hA.1, z]
      rw [l3200, leT (Nat.le_refl _) (by omega), e48, l1, nIs (by omega)]
      refine tail _ (39, fun i => l.2 (i + 1)) (by show 39 < 40; omega) ⟨sgp _ _ _ _, fun i j hi hj => ?_⟩ (Fm_sp (Fm_wk g1 (fun k j h => Or.inl h)) (Or.inr ⟨rfl, rfl⟩)) ?_
      · have hi' : i < 39 := hi
        show sg _ 97 (80 * i + j) = l.2 (i + 1) j
        rw [sgn (by omega), g2 _ (by omega), ← hA.2 (i + 1) j (by omega) hj]
        congr 1
        omega
      · unfold push
        rw [if_pos z]
    · intro n i s hi hs ih
      obtain ⟨g0, g1, g2, g3⟩ := hs
      show Rn (b_X10_keeps_12 N (n + 1) 78 (nI i) s) _
      unfold b_X10_keeps_12
      rw [l3200, leF (by omega) (by omega), l80, nIs g0, r78_47, n97, inbT (by omega) (by decide), inbT (by omega) (by decide), nIc (by omega), nIc (by omega), nI1, g3 i (by omega)]
      refine ih _ ⟨by omega, Fm_sp g1 rfl, fun j hj => ?_, fun j hj => ?_⟩
      · by_cases y : j = i - 80
        · rw [y, sgp]
          congr 1
          omega
        · rw [sgj y]
          exact g2 j (by omega)
      · rw [sgj (by omega)]
        exact g3 j (by omega)
  · rw [l40, eqF z (by omega) (by omega)]
    refine tail S l (by omega) hA (Fm_rf _ _) ?_
    unfold push
    rw [if_neg z]
/-- undone -/
theorem c_takeBack (h0 : 0 < l.1) (h40 : l.1 ≤ 40) (hnp : np ≤ 8) (hA : AC S np 44 l) : Rn (f_X0_takeBack N 44 40 S) (fun S' => AC S' np 44 (l.1 - 1, l.2) ∧ RC S' 40 (72 + np) (l.2 (l.1 - 1)) ∧ Fm (fun k j => k = 41 ∨ (k = 44 ∧ (j = 1 ∨ j = 2))) S S') := by
  obtain ⟨h1, nx, h2, h3, h4⟩ := hA
  unfold f_X0_takeBack b_X0_takeBack_54
  rw [h1, le0F h0 (by omega), h3, l40, nIa, l1, nIs (by omega), nImod (by omega) (by omega), sgp, l80, nIm, r44_0, n45, Sk40.1.1, Sk40.1.2, l0, cpkT (by omega) (by omega) (by omega) (by omega), nIc (by omega), nIc (by omega), nIc (by omega)]
  have e1 : sg (scp (sp S 44 2 (nI ((nx + 40 - 1) % 40))) 45 ((nx + 40 - 1) % 40 * 80) (40 + 1) 0 80) 44 1 = nI l.1 := by
    rw [sg_scp, if_neg (by omega), sgj (by omega)]
    exact h1
  rw [e1, nIs (by omega)]
  refine Rn_ret ⟨⟨sgp _ _ _ _, (nx + 40 - 1) % 40, Nat.mod_lt _ (by omega), ?_, fun i j hi hj => ?_⟩, fun j hj => ?_, ?_⟩
  · rw [sgj (by omega), sg_scp, if_neg (by omega), sgp]
  · have hi' : i < l.1 - 1 := hi
    show sg _ 45 (80 * (((nx + 40 - 1) % 40 + 40 - (l.1 - 1) + i) % 40) + pm j) = l.2 i j
    rw [sgn (by omega), sg_scp, if_neg (by omega), sgn (by omega), ← h4 i j (by omega) hj]
    congr 2
    omega
  · have hp := pm_lt (j := j) (by omega)
    show sg _ 41 (pm j) = _
    rw [sgn (by omega), sg_scp, if_pos ⟨rfl, by omega, by omega⟩, sgn (by omega), ← h4 (l.1 - 1) j (by omega) hj]
    congr 1
    omega
  · refine Fm_sp ⟨fun k j hk => ?_, rfl⟩ (by omega)
    rw [sg_scp, if_neg (by omega)]
    by_cases y : k = 44
    · subst y
      exact sgj (by omega)
    · exact sgn y
theorem m_undo (hN : 10000 ≤ N) (h0 : 0 < l.1) (h40 : l.1 ≤ 40) (hnp : np ≤ 8) (hA : AM S np 48 97 l) : Rn (b_X10_undo_26 N N 78 0 (sp S 78 48 (nI (l.1 - 1)))) (fun q => q.1 = nI (l.1 - 1) ∧ AM q.2 np 48 97 (l.1 - 1, l.2) ∧ RM q.2 0 (72 + np) (l.2 (l.1 - 1)) ∧ Fm (fun k j => (k = 96 ∧ j < 80) ∨ (k = 78 ∧ j = 48)) S q.2) := by
  refine lp0 (fun n (s : am_S) i => b_X10_undo_26 N n 78 i s) (fun i s => Fm (fun k j => k = 96 ∧ j < 80) (sp S 78 48 (nI (l.1 - 1))) s ∧ ∀ j, j < i → sg s 96 j = sg S 97 (80 * (l.1 - 1) + j)) _ 80 ?_ ?_ N _ (by omega) ⟨Fm_rf _ _, fun j hj => by omega⟩
  · intro n s hs
    show Rn (b_X10_undo_26 N (n + 1) 78 (nI 80) s) _
    unfold b_X10_undo_26
    have e48 : sg s 78 48 = nI (l.1 - 1) := (hs.1.1 _ _ (by omega)).trans (sgp _ _ _ _)
    rw [l80, leT (Nat.le_refl _) (by omega), e48]
    refine Rn_ret ⟨rfl, ⟨e48, fun i j hi hj => ?_⟩, fun j hj => ?_, Fm_tr (Fm_sp (Fm_rf _ _) (Or.inr ⟨rfl, rfl⟩)) (Fm_wk hs.1 (fun k j h => Or.inl h))⟩
    · have hi' : i < l.1 - 1 := hi
      show sg s 97 (80 * i + j) = _
      rw [hs.1.1 _ _ (by omega), sgn (by omega)]
      exact hA.2 i j (by omega) hj
    · rw [Nat.zero_add, hs.2 j (by omega)]
      exact hA.2 _ j (by omega) hj
  · intro n i s hi hs ih
    show Rn (b_X10_undo_26 N (n + 1) 78 (nI i) s) _
    unfold b_X10_undo_26
    have e48 : sg s 78 48 = nI (l.1 - 1) := (hs.1.1 _ _ (by omega)).trans (sgp _ _ _ _)
    rw [l80, leF (by omega) (by omega), e48, nIm, nIa, r78_46, r78_47, n96, n97, inbT (by omega) (by decide), inbT (by omega) (by decide), nIc (by omega), nIc (by omega), nI1]
    refine ih _ ⟨Fm_sp hs.1 ⟨rfl, by omega⟩, fun j hj => ?_⟩
    by_cases y : j = i
    · subst y
      rw [sgp, hs.1.1 _ _ (by omega), sgn (by omega)]
    · rw [sgj (by omega)]
      exact hs.2 j (by omega)
end
