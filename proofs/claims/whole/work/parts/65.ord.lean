/-! an order: the class's -/
def lv (i : Nat) : Nat := 62 + 2 * i
/-- what trying rows from depth k on may write -/
def oC (t k : Nat) : Nat → Nat → Prop := fun a j => (63 + 2 * k < a ∧ a ≤ 75) ∨ (a = 60 ∧ k ≤ j) ∨ a = 61 ∨ (a = 58 ∧ j = 3) ∨ a = t + 11 ∨ a = t + 14 ∨ a = t + 15
def Bst (S : am_S) (c : Cy) (a : Int32 × List Nat) : Prop := sg S 58 3 = a.1 ∧ (a.1 = -1 ∨ ∀ i, i < cnb c → sg S 61 i = nI (gq a.2 i))
section
variable {N t : Nat} {c : Cy} {S : am_S} {r : Rw}
theorem CC_oC {S S' : am_S} {k : Nat} (ht : t = 8 ∨ t = 24) (h : CC S t c) (hf : Fm (oC t k) S S') : CC S' t c := CC_same h (fun a j h1 h2 h3 h4 => hf.1 a j (by unfold oC; omega))
theorem gq_app {p : List Nat} {b j : Nat} (hj : j < p.length) : gq (p ++ [b]) j = gq p j := by
  unfold gq
  rw [List.getD_eq_getElem?_getD, List.getD_eq_getElem?_getD, List.getElem?_append_left hj]
theorem gq_end {p : List Nat} {b : Nat} : gq (p ++ [b]) p.length = b := by
  unfold gq
  rw [List.getD_eq_getElem?_getD, List.getElem?_concat_length]
  rfl
theorem c_try {d : Nat} (hN : 10000 ≤ N) (ht : Ci t) (hI : CI c) (hRI : RI c r) (hd0 : r 0 = nI d) (hd : d ≤ 999) : ∀ (m f k U : Nat) (p : List Nat) (a : Int32 × List Nat) (S : am_S), k + m = cnb c → m < f → U < 256 → p.length = k → (∀ j, j < k → gq p j < cnb c) → CC S t c → RC S (62 + 2 * k) (72 + cnp c) (odI c d r (gq p) k) → (∀ j, j < k → sg S 60 j = nI (gq p j)) → Bst S c a → Rn (f_X4_tryRows N f 58 t (nI k) (nI U) S) (fun S' => Bst S' c (((dfs (cnb c) m U).map (fun s => p ++ s)).foldl (wgf c d r) a) ∧ Fm (oC t k) S S') := by
  have hnb := hI.1.1
  have hnp := hI.1.2
  have ht9 := ht.2.2.2.2.1
  intro m
  induction m with
  | zero =>
    intro f k U p a S hk hf hU hp hpb hC hR hrow hB
    cases f with
    | zero => omega
    | succ f =>
      have hkn : k = cnb c := by omega
      have hSk : Sk (62 + 2 * k) := SkL (by omega)
      unfold f_X4_tryRows b_X4_tryRows_14 f_X4_weighRow b_X4_weighRow_28
      rw [hC.1.1, leT (by omega) (by omega), r58_0, n59, inbT (by omega) (by decide), nIc (by omega), c_heardAll hN hSk hR, bd_some]
      have eh : sm (odI c d r (gq p) k) 64 8 = hpr c d r p := by rw [hkn]; rfl
      have ef : ((dfs (cnb c) 0 U).map (fun s => p ++ s)).foldl (wgf c d r) a = wgf c d r a p := by
        show wgf c d r a (p ++ []) = _
        rw [List.append_nil]
      rw [eh, ef, hB.1]
      unfold wgf
      by_cases z : hpr c d r p ≤ a.1
      · rw [if_pos z, if_pos z]
        exact Rn_ret ⟨hB, Fm_rf _ _⟩
      · rw [if_neg z, if_neg z, r58_1, r58_2, n60, n61, l0, l6, cpkT (by omega) (by omega) (by omega) (by omega), nIc (by omega), nIc (by omega)]
        refine Rn_ret ⟨⟨?_, Or.inr (fun i hi => ?_)⟩, ⟨fun b j hb => ?_, rfl⟩⟩
        · show sg (scp _ 60 0 61 0 6) 58 3 = _
          rw [sg_scp, if_neg (by omega), sgp]
        · show sg (scp _ 60 0 61 0 6) 61 i = _
          rw [sg_scp, if_pos ⟨rfl, by omega, by omega⟩, Nat.sub_zero, Nat.zero_add, sgn (by omega)]
          exact hrow i (by omega)
        · unfold oC at hb
          rw [sg_scp, if_neg (by omega)]
          by_cases y : b = 58
          · subst y
            exact sgj (by omega)
          · exact sgn y
  | succ m ih =>
    intro f k U p a S hk hf hU hp hpb hC hR hrow hB
    cases f with
    | zero => omega
    | succ f =>
      have hSk : Sk (62 + 2 * k) := SkL (by omega)
      have hSk1 : Sk (62 + 2 * (k + 1)) := SkL (by omega)
      obtain ⟨i1, i2⟩ := odI_in (q := gq p) hI hRI hd0 k (by omega) hpb
      unfold f_X4_tryRows
      rw [hC.1.1, leF (by omega) (by omega), l6, ltT (by omega) (by omega), nI1, r58_0, n59, inbT (by omega) (by decide), nIc (by omega)]
      have ed : dfs (cnb c) (m + 1) U = (List.range (cnb c)).flatMap (fun b => if U.testBit b then [] else (dfs (cnb c) m (U ||| 2 ^ b)).map (fun s => b :: s)) := rfl
      rw [ed]
      generalize hg : (fun b => if U.testBit b then [] else (dfs (cnb c) m (U ||| 2 ^ b)).map (fun s => b :: s)) = g
      refine lp0 (fun n (s : am_S) i => b_X4_tryRows_41 N (f_X4_tryRows N f) n 58 t (nI k) (nI U) (62 + 2 * (k + 1)) i s) (fun i s => Bst s c ((((List.range i).flatMap g).map (fun s => p ++ s)).foldl (wgf c d r) a) ∧ Fm (oC t k) S s) _ (cnb c) ?_ ?_ N S (by omega) ⟨hB, Fm_rf _ _⟩
      · intro n s hs
        show Rn (b_X4_tryRows_41 N (f_X4_tryRows N f) (n + 1) 58 t (nI k) (nI U) (62 + 2 * (k + 1)) (nI (cnb c)) s) _
        unfold b_X4_tryRows_41
        rw [(CC_oC ht9 hC hs.2).1.1, leT (Nat.le_refl _) (by omega)]
        exact Rn_ret hs
      · intro n b s hb hs ih2
        obtain ⟨g1, g2⟩ := hs
        have hC1 := CC_oC ht9 hC g2
        obtain ⟨u1, u2, u3, -, -, -, -⟩ := set_f (V := U) (q := b) hU (by omega)
        have er : (List.range (b + 1)).flatMap g = (List.range b).flatMap g ++ g b := by
          rw [List.range_succ, List.flatMap_append]
          simp
        show Rn (b_X4_tryRows_41 N (f_X4_tryRows N f) (n + 1) 58 t (nI k) (nI U) (62 + 2 * (k + 1)) (nI b) s) _
        unfold b_X4_tryRows_41 b_X4_tryRows_110
        rw [hC1.1.1, leF (by omega) (by omega), nI1 b, nI1 k]
        cases hbt : U.testBit b with
        | true =>
          rw [if_neg (fun z => by rw [u3.mp z] at hbt; cases hbt)]
          refine ih2 s ⟨?_, g2⟩
          have eg : g b = [] := by rw [← hg]; show (if U.testBit b then [] else _) = []; rw [hbt]; rfl
          rw [er, eg, List.append_nil]
          exact g1
        | false =>
          have eg : g b = (dfs (cnb c) m (U ||| 2 ^ b)).map (fun s => b :: s) := by rw [← hg]; show (if U.testBit b then [] else _) = _; rw [hbt]; rfl
          rw [if_pos (u3.mpr hbt), r58_0, r58_1, n59, n60, inbT (by omega) (by decide), inbT (by omega) (by decide), nIc (by omega)]
          have hR1 : RC (sp s 60 k (nI b)) (62 + 2 * k) (72 + cnp c) (odI c d r (gq p) k) := RC_o (RC_same hR (fun j => g2.1 _ _ (by unfold oC; omega))) (by omega)
          refine Rn_bv (Rn_mono (c_copyFrom hSk1 hSk (by omega) hR1) (fun S1 h1 => ?_))
          have f1 : Fm (oC t k) S S1 := Fm_tr (Fm_sp g2 (by unfold oC; omega)) (Fm_wk (Fm_fr h1.2.1) (fun a j ha => by unfold oC; omega))
          rw [c_dayNow hSk1.1 (by omega) h1.1, bd_some, i2, c_wetOn ht (CC_oC ht9 hC f1) (by omega), bd_some]
          refine Rn_bd (Rn_mono (c_passDayWith hN ht hSk1 hI (Or.inr ⟨b, hb, rfl⟩) (CC_oC ht9 hC f1) h1.1 i1) (fun q h2 => ?_))
          have f2 : Fm (oC t k) S q.2 := Fm_tr f1 (Fm_wk (Fm_fr h2.2.2) (fun a j ha => by unfold dW at ha; unfold oC; omega))
          have eU : (nI U ||| (1 : Int32) <<< (nI b &&& (31 : Int32))) = nI (U ||| 2 ^ b) := u2
          rw [eU]
          have el : (p ++ [b]).length = k + 1 := by rw [List.length_append, hp]; rfl
          have eq1 : ∀ j, j < k → gq (p ++ [b]) j = gq p j := fun j hj => gq_app (by omega)
          have eq2 : gq (p ++ [b]) k = b := by rw [← hp]; exact gq_end
          have e60 : ∀ j, j < k → sg q.2 60 j = nI (gq p j) := fun j hj => (f2.1 _ _ (by unfold oC; omega)).trans (hrow j hj)
          have e60k : sg q.2 60 k = nI b := by
            rw [h2.2.2.1 _ _ (by unfold dW; omega), h1.2.1.1 _ _ (by omega), sgp]
          have hB2 : Bst q.2 c ((((List.range b).flatMap g).map (fun s => p ++ s)).foldl (wgf c d r) a) := by
            have keep : ∀ x j, x = 58 ∨ x = 61 → sg q.2 x j = sg s x j := fun x j hx => by
              rw [h2.2.2.1 _ _ (by unfold dW; omega), h1.2.1.1 _ _ (by omega), sgn (by omega)]
            refine ⟨(keep _ _ (by omega)).trans g1.1, ?_⟩
            rcases g1.2 with y | y
            · exact Or.inl y
            · exact Or.inr (fun i hi => (keep _ _ (by omega)).trans (y i hi))
          refine Rn_bv (Rn_mono (ih f (k + 1) (U ||| 2 ^ b) (p ++ [b]) _ q.2 (by omega) (by omega) u1 el (fun j hj => ?_) (CC_oC ht9 hC f2) ?_ (fun j hj => ?_) hB2) (fun S3 h3 => ?_))
          · by_cases y : j = k
            · rw [y, eq2]; exact hb
            · rw [eq1 j (by omega)]; exact hpb j (by omega)
          · have e9 : odI c d r (gq (p ++ [b])) (k + 1) = day_ c (cwe c (d + k)) (nI b) (odI c d r (gq p) k) := by
              show day_ c _ (nI (gq (p ++ [b]) k)) (odI c d r (gq (p ++ [b])) k) = _
              rw [eq2, odI_ext k eq1]
            rw [e9]
            exact h2.2.1
          · by_cases y : j = k
            · rw [y, eq2]; exact e60k
            · rw [eq1 j (by omega)]; exact e60 j (by omega)
          · refine ih2 S3 ⟨?_, Fm_tr f2 (Fm_wk h3.2 (fun a j ha => by unfold oC at ha ⊢; omega))⟩
            have ex : ((g b).map (fun s => p ++ s)) = (dfs (cnb c) m (U ||| 2 ^ b)).map (fun s => (p ++ [b]) ++ s) := by
              rw [eg, List.map_map]
              refine List.map_congr_left (fun s _ => ?_)
              show p ++ (b :: s) = (p ++ [b]) ++ s
              rw [List.append_assoc]
              rfl
            rw [er, List.map_append, List.foldl_append, ex]
            exact h3.1
end
