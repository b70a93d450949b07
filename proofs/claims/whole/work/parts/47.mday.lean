/-! the reference's day -/
theorem nIz (a : Nat) : nI a + 0 = nI a := nIa a 0
def Fm (W : Nat → Nat → Prop) (S S' : am_S) : Prop := (∀ k j, ¬ W k j → sg S' k j = sg S k j) ∧ S'.2 = S.2
theorem Fm_rf (W : Nat → Nat → Prop) (S : am_S) : Fm W S S := ⟨fun _ _ _ => rfl, rfl⟩
theorem Fm_tr {W : Nat → Nat → Prop} {S S' S'' : am_S} (h : Fm W S S') (h' : Fm W S' S'') : Fm W S S'' := ⟨fun k j hk => (h'.1 k j hk).trans (h.1 k j hk), h'.2.trans h.2⟩
theorem Fm_wk {W W' : Nat → Nat → Prop} {S S' : am_S} (h : Fm W S S') (hw : ∀ k j, W k j → W' k j) : Fm W' S S' := ⟨fun k j hk => h.1 k j (fun q => hk (hw k j q)), h.2⟩
theorem Fm_sp {W : Nat → Nat → Prop} {S S' : am_S} {k j : Nat} {v : Int32} (h : Fm W S S') (hk : W k j) : Fm W S (sp S' k j v) := ⟨fun a i ha => by
  by_cases q : a = k
  · subst q
    rw [sgj (fun q => ha (by rw [q]; exact hk))]
    exact h.1 a i ha
  · rw [sgn q]
    exact h.1 a i ha, h.2⟩
theorem Fm_fr {W : Nat → Prop} {S S' : am_S} (h : Fr W S S') : Fm (fun k _ => W k) S S' := ⟨fun k j hk => h.1 k j hk, h.2⟩
/-- what a day at b writes -/
def mW (b : Nat) : Nat → Nat → Prop := fun k j => k = 98 ∨ k = 99 ∨ (k = 78 ∧ j = 54) ∨ (k = 96 ∧ b ≤ j ∧ j < b + 80)
def mV : Nat → Nat → Prop := fun k _ => k = 98 ∨ k = 99
theorem mV_W {b : Nat} : ∀ k j, mV k j → mW b k j := fun k j h => h.elim Or.inl (fun h => Or.inr (Or.inl h))
def codeM (S : am_S) (f : Nat) : Option Prg → Prop
  | none => sg S 78 f = -1
  | some P => ∃ a, sg S 78 f = nI a ∧ a < 1400 ∧ codeAt S a P
def CM (S : am_S) (c : Cy) : Prop := (sg S 78 1 = nI (cnb c) ∧ sg S 78 2 = nI (cnp c)) ∧ ((∀ x, x < cnb c → sg S 79 x = cba c x) ∧ (∀ p, p < cnp c → sg S 80 p = cpa c p) ∧ (∀ p, p < cnp c → sg S 81 p = cpe c p)) ∧ ((∃ n, n ≤ 8 ∧ sg S 78 4 = nI n ∧ ∀ d, cwe c d = if n = 0 then 2 else sg S 83 (d % n)) ∧ (∃ n, n ≤ 8 ∧ sg S 78 3 = nI n ∧ ∀ d, cro c d = if cnb c = 0 then -1 else if n = 0 then nI (d % cnb c) else sg S 82 (d % n))) ∧ (codeM S 5 (cth c) ∧ codeM S 6 (cso c))
def mC : Nat → Nat → Prop := fun k j => (79 ≤ k ∧ k ≤ 84) ∨ (k = 78 ∧ 1 ≤ j ∧ j ≤ 6)
theorem codeM_same {S S' : am_S} {f : Nat} {o : Option Prg} (hf : 1 ≤ f ∧ f ≤ 6) (h : codeM S f o) (hs : ∀ k j, mC k j → sg S' k j = sg S k j) : codeM S' f o := by
  cases o with
  | none => exact (hs 78 f (Or.inr ⟨rfl, hf⟩)).trans h
  | some P =>
    obtain ⟨a, h1, h2, h3⟩ := h
    exact ⟨a, (hs 78 f (Or.inr ⟨rfl, hf⟩)).trans h1, h2, codeAt_same (fun j => hs 84 j (Or.inl ⟨by omega, by omega⟩)) h3⟩
theorem CM_same {S S' : am_S} {c : Cy} (h : CM S c) (hs : ∀ k j, mC k j → sg S' k j = sg S k j) : CM S' c := by
  obtain ⟨⟨a1, a2⟩, ⟨b1, b2, b3⟩, ⟨⟨n, n1, n2, n3⟩, ⟨m, m1, m2, m3⟩⟩, ⟨u1, u2⟩⟩ := h
  have e : ∀ k j, 79 ≤ k → k ≤ 84 → sg S' k j = sg S k j := fun k j h1 h2 => hs k j (Or.inl ⟨h1, h2⟩)
  have e2 : ∀ j, 1 ≤ j → j ≤ 6 → sg S' 78 j = sg S 78 j := fun j h1 h2 => hs 78 j (Or.inr ⟨rfl, h1, h2⟩)
  refine ⟨⟨(e2 1 (by omega) (by omega)).trans a1, (e2 2 (by omega) (by omega)).trans a2⟩, ⟨fun x hx => (e 79 x (by omega) (by omega)).trans (b1 x hx), fun x hx => (e 80 x (by omega) (by omega)).trans (b2 x hx), fun x hx => (e 81 x (by omega) (by omega)).trans (b3 x hx)⟩, ⟨⟨n, n1, (e2 4 (by omega) (by omega)).trans n2, fun d => ?_⟩, ⟨m, m1, (e2 3 (by omega) (by omega)).trans m2, fun d => ?_⟩⟩, codeM_same ⟨by omega, by omega⟩ u1 hs, codeM_same ⟨by omega, by omega⟩ u2 hs⟩
  · rw [e 83 _ (by omega) (by omega)]
    exact n3 d
  · rw [e 82 _ (by omega) (by omega)]
    exact m3 d
theorem CM_o {S : am_S} {c : Cy} {k j : Nat} {v : Int32} (h : CM S c) (hk : 85 ≤ k) : CM (sp S k j v) c := CM_same h (fun a i ha => sgn (by unfold mC at ha; omega))
theorem CM_m {S S' : am_S} {c : Cy} {b : Nat} (h : CM S c) (hf : Fm (mW b) S S') : CM S' c := CM_same h (fun a i ha => hf.1 a i (by unfold mC at ha; unfold mW; omega))
theorem RM_o {S : am_S} {b m k j : Nat} {r : Nat → Int32} {v : Int32} (h : RM S b m r) (hk : ¬ k = 96) : RM (sp S k j v) b m r := RM_same h (fun i _ => sgn (fun q => hk q.symm))
section
variable {S : am_S} {b m : Nat} {r : Nat → Int32}
theorem RM_hd (h : RM S b m r) (hm : 72 ≤ m) {x p : Nat} (hx : x < 6) (hp : p < 8) : sg S 96 (b + 8 + 8 * x + p) = r (8 + 8 * x + p) := by
  rw [← h _ (by omega), Nat.add_assoc b, Nat.add_assoc b]
theorem RM_rg (h : RM S b m r) (hm : 72 ≤ m) {p : Nat} (hp : p < 8) : sg S 96 (b + 56 + p) = r (56 + p) := by
  rw [← h _ (by omega), Nat.add_assoc b]
theorem RM_he (h : RM S b m r) (hm : 72 ≤ m) {p : Nat} (hp : p < 8) : sg S 96 (b + 64 + p) = r (64 + p) := by
  rw [← h _ (by omega), Nat.add_assoc b]
theorem RM_at (h : RM S b m r) {p : Nat} (hp : 72 + p < m) : sg S 96 (b + 72 + p) = r (72 + p) := by
  rw [← h _ (by omega), Nat.add_assoc b]
theorem RM_rd (h : RM S b m r) (hm : 72 ≤ m) {x : Nat} (hx : x < 6) : sg S 96 (b + 2 + x) = r (2 + x) := by
  rw [← h _ (by omega), Nat.add_assoc b]
theorem RM_0 (h : RM S b m r) (hm : 72 ≤ m) : sg S 96 b = r 0 := h 0 (by omega)
theorem RM_1 (h : RM S b m r) (hm : 72 ≤ m) : sg S 96 (b + 1) = r 1 := h 1 (by omega)
theorem RMw_hd {x p : Nat} {v : Int32} (h : RM S b m r) : RM (sp S 96 (b + 8 + 8 * x + p) v) b m (wr r (8 + 8 * x + p) v) := by
  rw [show b + 8 + 8 * x + p = b + (8 + 8 * x + p) by omega]
  exact RM_sp h
theorem RMw_rg {p : Nat} {v : Int32} (h : RM S b m r) : RM (sp S 96 (b + 56 + p) v) b m (wr r (56 + p) v) := by
  rw [show b + 56 + p = b + (56 + p) by omega]
  exact RM_sp h
theorem RMw_he {p : Nat} {v : Int32} (h : RM S b m r) : RM (sp S 96 (b + 64 + p) v) b m (wr r (64 + p) v) := by
  rw [show b + 64 + p = b + (64 + p) by omega]
  exact RM_sp h
theorem RMw_at {p : Nat} {v : Int32} (h : RM S b m r) : RM (sp S 96 (b + 72 + p) v) b m (wr r (72 + p) v) := by
  rw [show b + 72 + p = b + (72 + p) by omega]
  exact RM_sp h
theorem RMw_rd {x : Nat} {v : Int32} (h : RM S b m r) : RM (sp S 96 (b + 2 + x) v) b m (wr r (2 + x) v) := by
  rw [show b + 2 + x = b + (2 + x) by omega]
  exact RM_sp h
theorem RMw_0 {v : Int32} (h : RM S b m r) : RM (sp S 96 b v) b m (wr r 0 v) := RM_sp (j := 0) h
end
/-- sums -/
def sI (g : Nat → Int32) : Nat → Int32
  | 0 => 0
  | n + 1 => sI g n + g n
theorem lp_sI {β : Type} (B : Nat → Int32 → Int32 → Option β) (g : Nat → Int32) (fin : Int32 → Option β) (m : Nat) (h0 : ∀ n v, B (n + 1) v (nI m) = fin v) (h1 : ∀ n i v, i < m → B (n + 1) v (nI i) = B n (v + g i) (nI (i + 1))) (n : Nat) (hn : m < n) : B n 0 0 = fin (sI g m) := by
  have h := lp_eq B (fun i v => v + g i) fin m (fun _ _ => True) 0 trivial (fun _ _ _ _ => trivial) (fun n b _ => h0 n b) (fun n i b hi _ => h1 n i b hi) n hn
  rw [h]
  congr 1
  clear h h0 h1 hn
  induction m with
  | zero => rfl
  | succ m ih =>
    show itr _ m 0 + g m = sI g m + g m
    rw [ih]
theorem sI_sm {r : Nat → Int32} {a : Nat} : ∀ n, sI (fun i => r (a + i)) n = sm r a n := by
  intro n
  induction n with
  | zero => rfl
  | succ n ih =>
    show sI _ n + _ = sm r a n + _
    rw [ih]
theorem sI_ext {g g' : Nat → Int32} : ∀ n, (∀ i, i < n → g i = g' i) → sI g n = sI g' n := by
  intro n
  induction n with
  | zero => intro _; rfl
  | succ n ih =>
    intro h
    show sI g n + g n = sI g' n + g' n
    rw [ih (fun i hi => h i (by omega)), h n (by omega)]
theorem sm_cut {r : Nat → Int32} {a n m : Nat} (hn : n ≤ m) (h : ∀ i, n ≤ i → i < m → r (a + i) = 0) : sm r a m = sm r a n := by
  obtain ⟨k, rfl⟩ : ∃ k, m = n + k := ⟨m - n, by omega⟩
  rw [sm_add, sm_zero (n := k) (fun i hi => by rw [Nat.add_assoc]; exact h (n + i) (by omega) (by omega)), Int32.add_zero]
theorem hIn_np {c : Cy} {r : Nat → Int32} {x : Nat} (hI : CI c) (h : RI c r) (hx : x < 6) : hIn r x = sm r (8 + 8 * x) (cnp c) :=
  sm_cut hI.1.2 (fun i h1 h2 => (h.2.2.2.1 x i hx h2).2 (Or.inr h1))
theorem m_off {N : Nat} {a b : Int32} {S : am_S} : f_X10_off N a b S = some (ff a b, S) := by
  unfold f_X10_off b_X10_off_14 ff
  split <;> rfl
theorem m_lesser {N : Nat} {a b : Int32} {S : am_S} : f_X10_lesser N a b S = some (jmin a b, S) := by
  unfold f_X10_lesser b_X10_lesser_10 jmin
  by_cases h : b ≤ a
  · rw [if_pos h]
    by_cases h2 : b < a
    · rw [if_pos h2]
    · rw [if_neg h2]
      have e1 := Int32.le_iff_toInt_le.mp h
      have e2 : ¬ b.toInt < a.toInt := fun z => h2 (Int32.lt_iff_toInt_lt.mpr z)
      have e3 : b = a := Int32.toInt_inj.mp (by omega)
      rw [e3]
  · have e1 : ¬ b.toInt ≤ a.toInt := fun z => h (Int32.le_iff_toInt_le.mpr z)
    rw [if_neg h, if_neg (fun z => by have := Int32.lt_iff_toInt_lt.mp z; omega)]
theorem m_boxOf {N p : Nat} {c : Cy} {S : am_S} (hN : 10000 ≤ N) (hI : CI c) (hC : CM S c) (hp : p < cnp c) : f_X10_boxOf N 78 (nI p) S = some (cne c p, S) := by
  have hnb := hI.1.1
  have hnp := hI.1.2
  unfold f_X10_boxOf cne
  have h := lp_eq (fun n a i => b_X10_boxOf_4 N n 78 (nI p) a i S) (fun i a => if a = -1 then nI i else if ff (cba c a.toNatClampNeg) (cpa c p) ≤ ff (cba c i) (cpa c p) then a else nI i) (fun a => some (a, S)) (cnb c) (fun i a => a = -1 ∨ ∃ x, x < cnb c ∧ a = nI x) (-1) (Or.inl rfl) (fun i b hi hb => by
    split
    · exact Or.inr ⟨i, hi, rfl⟩
    · split
      · exact hb
      · exact Or.inr ⟨i, hi, rfl⟩) (fun n b _ => by
    show b_X10_boxOf_4 N (n + 1) 78 (nI p) b (nI (cnb c)) S = _
    unfold b_X10_boxOf_4
    rw [hC.1.1, leT (Nat.le_refl _) (by omega)]) (fun n i b hi hb => by
    show b_X10_boxOf_4 N (n + 1) 78 (nI p) b (nI i) S = b_X10_boxOf_4 N n 78 (nI p) _ (nI (i + 1)) S
    rw [b_X10_boxOf_4]
    unfold b_X10_boxOf_50 b_X10_boxOf_52
    rw [hC.1.1, leF (by omega) (by omega), nI1]
    rcases hb with hb | ⟨x, hx, hb⟩
    · rw [if_pos hb, if_pos hb]
    · rw [hb, eqmF (by omega), eqmF (by omega)]
      simp (disch := omega) only [r78_7, r78_8, r78_9, r78_10, r78_11, r78_12, r78_13, r78_17, r78_37, r78_38, r78_39, r78_40, r78_41, r78_42, r78_43, r78_44, r78_45, r78_46, r78_47, r78_49, r78_50, r78_53, r78_55, r78_57, r78_58, r78_59, r78_64, r78_65, r78_66, n79, n80, n81, n82, n83, n84, n85, n86, n87, n88, n89, n90, n91, n92, n93, n94, n95, n96, n97, n98, n99, n100, n101, n102, n103, n104, n105, n106, n107, inbT, nIc, m_off, bd_some, hC.2.1.1, hC.2.1.2.1]
      split <;> rfl) N (by omega)
  refine h.trans ?_
  congr 2
  generalize cnb c = n
  induction n with
  | zero => rfl
  | succ n ih =>
    rw [itr, ih]
    rfl
theorem m_heldIn {N b x : Nat} {c : Cy} {S : am_S} {r : Nat → Int32} (hN : 10000 ≤ N) (hb : b ≤ 80) (hI : CI c) (hn : sg S 78 2 = nI (cnp c)) (hR : RM S b (72 + cnp c) r) (hRI : RI c r) (hx : x < 6) : f_X10_heldIn N 78 (nI b) (nI x) S = some (hIn r x, S) := by
  have hnp := hI.1.2
  unfold f_X10_heldIn
  rw [hIn_np hI hRI hx, ← sI_sm]
  refine lp_sI (fun n v i => b_X10_heldIn_5 N n 78 (nI b) (nI x) v i S) (fun i => r (8 + 8 * x + i)) (fun v => some (v, S)) (cnp c) (fun n v => ?_) (fun n i v hi => ?_) N (by omega)
  · show b_X10_heldIn_5 N (n + 1) 78 (nI b) (nI x) v (nI (cnp c)) S = _
    unfold b_X10_heldIn_5
    rw [hn, leT (Nat.le_refl _) (by omega)]
  · show b_X10_heldIn_5 N (n + 1) 78 (nI b) (nI x) v (nI i) S = b_X10_heldIn_5 N n 78 (nI b) (nI x) (v + r (8 + 8 * x + i)) (nI (i + 1)) S
    rw [b_X10_heldIn_5]
    simp (disch := omega) only [hn, r78_7, r78_8, r78_9, r78_10, r78_11, r78_12, r78_13, r78_17, r78_37, r78_38, r78_39, r78_40, r78_41, r78_42, r78_43, r78_44, r78_45, r78_46, r78_47, r78_49, r78_50, r78_53, r78_55, r78_57, r78_58, r78_59, r78_64, r78_65, r78_66, n79, n80, n81, n82, n83, n84, n85, n86, n87, n88, n89, n90, n91, n92, n93, n94, n95, n96, n97, n98, n99, n100, n101, n102, n103, n104, n105, n106, n107, l2, l3, l4, l5, l6, l7, l8, l56, l64, l72, l80, nIa, nIm, nI1, nIz, nIc, inbT, inb0T, inb1T, c00, c01, leT, leF, ltT, ltF, eqT, eqF, eqmF, oneT, bd_some, bv_some, sgn, sgj, sgp, RM_hd hR]
def wetP (N b d : Nat) (S : am_S) (wet : Int32) : Prop := ∀ S', Fm (mW b) S S' → sg S' 96 b = nI d → f_X10_wetIn N 78 (nI b) S' = some (wet, S')
def visP (N b d : Nat) (S : am_S) (vis : Int32) : Prop := ∀ S', Fm (mW b) S S' → f_X10_comesOn N 78 (nI d) S' = some (vis, S')
theorem m_thinksInto {N b p x : Nat} {c : Cy} {S : am_S} {r : Nat → Int32} (hN : 10000 ≤ N) (hb : b ≤ 80) (hI : CI c) (hC : CM S c) (hR : RM S b (72 + cnp c) r) (hRI : RI c r) (hx : x < cnb c) (hp : p < cnp c) : Rn (f_X10_thinksInto N 78 (nI b) (nI p) (nI x) S) (fun q => q.1 = tho c r p x ∧ Fm mV S q.2) := by
  have hnb := hI.1.1
  have hnp := hI.1.2
  have h5 := hC.2.2.2.1
  unfold f_X10_thinksInto
  cases hc : cth c with
  | none =>
    rw [hc] at h5
    have h6 : sg S 78 5 = -1 := h5
    rw [h6, if_pos rfl]
    simp (disch := omega) only [r78_7, r78_8, r78_9, r78_10, r78_11, r78_12, r78_13, r78_17, r78_37, r78_38, r78_39, r78_40, r78_41, r78_42, r78_43, r78_44, r78_45, r78_46, r78_47, r78_49, r78_50, r78_53, r78_55, r78_57, r78_58, r78_59, r78_64, r78_65, r78_66, n79, n80, n81, n82, n83, n84, n85, n86, n87, n88, n89, n90, n91, n92, n93, n94, n95, n96, n97, n98, n99, n100, n101, n102, n103, n104, n105, n106, n107, l2, l3, l4, l5, l6, l7, l8, l56, l64, l72, l80, nIa, nIm, nI1, nIz, nIc, inbT, inb0T, inb1T, c00, c01, leT, leF, ltT, ltF, eqT, eqF, eqmF, oneT, bd_some, bv_some, sgn, sgj, sgp, hC.2.1.2.2]
    refine Rn_ret ⟨?_, Fm_rf _ _⟩
    unfold tho
    rw [hc]
  | some P =>
    rw [hc] at h5
    obtain ⟨a, h6, h7, h8⟩ := h5
    obtain ⟨hP1, hP2, hP3⟩ := hI.2.2.2.1 P hc
    rw [h6, eqmF (by omega)]
    simp (disch := omega) only [r78_7, r78_8, r78_9, r78_10, r78_11, r78_12, r78_13, r78_17, r78_37, r78_38, r78_39, r78_40, r78_41, r78_42, r78_43, r78_44, r78_45, r78_46, r78_47, r78_49, r78_50, r78_53, r78_55, r78_57, r78_58, r78_59, r78_64, r78_65, r78_66, n79, n80, n81, n82, n83, n84, n85, n86, n87, n88, n89, n90, n91, n92, n93, n94, n95, n96, n97, n98, n99, n100, n101, n102, n103, n104, n105, n106, n107, l2, l3, l4, l5, l6, l7, l8, l56, l64, l72, l80, nIa, nIm, nI1, nIz, nIc, inbT, inb0T, inb1T, c00, c01, leT, leF, ltT, ltF, eqT, eqF, eqmF, oneT, bd_some, bv_some, sgn, sgj, sgp, hC.2.1.2.2, RM_rg hR, RM_rd hR, RM_0 hR, RM_he hR]
    rw [m_heldIn hN hb hI (by simp (disch := omega) only [sgn]; exact hC.1.2) (by repeat (first | assumption | refine RM_o ?_ (by omega))) hRI (by omega), bd_some]
    simp (disch := omega) only [r78_7, r78_8, r78_9, r78_10, r78_11, r78_12, r78_13, r78_17, r78_37, r78_38, r78_39, r78_40, r78_41, r78_42, r78_43, r78_44, r78_45, r78_46, r78_47, r78_49, r78_50, r78_53, r78_55, r78_57, r78_58, r78_59, r78_64, r78_65, r78_66, n79, n80, n81, n82, n83, n84, n85, n86, n87, n88, n89, n90, n91, n92, n93, n94, n95, n96, n97, n98, n99, n100, n101, n102, n103, n104, n105, n106, n107, l2, l3, l4, l5, l6, l7, l8, l56, l64, l72, l80, nIa, nIm, nI1, nIz, nIc, inbT, inb0T, inb1T, c00, c01, leT, leF, ltT, ltF, eqT, eqF, eqmF, oneT, bd_some, bv_some, sgn, sgj, sgp, RM_rg hR, RM_rd hR, RM_0 hR, RM_he hR, h6]
    unfold f_X10_reckons
    refine Rn_bd (Rn_mono (m_reckons (A := AT_) (vals := tvals c r p x) P N a [] _ (by omega) ?_ trivial hP1 (by decide) ?_) ?_)
    · exact codeAt_same (fun j => by simp (disch := omega) only [sgn]) h8
    · intro j hj
      have hj2 : j ≤ 5 := hj
      have h1 : j = 0 ∨ j = 1 ∨ j = 2 ∨ j = 3 ∨ j = 4 ∨ j = 5 := by omega
      rcases h1 with h | h | h | h | h | h <;> subst h <;> simp (disch := omega) only [sgj, sgp] <;> rfl
    · intro q hq
      rw [cl_bounded, bd_some]
      refine Rn_ret ⟨?_, ?_⟩
      · show cl q.1 0 _ = _
        rw [hq.1]
        unfold tho
        rw [hc]
        rfl
      · refine Fm_tr ?_ (Fm_wk (Fm_fr hq.2) (fun k j h => Or.inr h))
        repeat (refine Fm_sp ?_ (Or.inl rfl))
        exact Fm_rf _ _
theorem m_soundsBy {N b x o d : Nat} {much wet : Int32} {c : Cy} {S : am_S} {r : Nat → Int32} (hN : 10000 ≤ N) (hb : b ≤ 80) (hI : CI c) (hC : CM S c) (hR : RM S b (72 + cnp c) r) (hx : x < cnb c) (ho : o < cnp c) (hd : r 0 = nI d) (hw : wetP N b d S wet) : Rn (f_X10_soundsBy N 78 (nI b) much (nI x) (nI o) S) (fun q => q.1 = snd_ c wet r x much o ∧ Fm mV S q.2) := by
  have hnb := hI.1.1
  have hnp := hI.1.2
  have h5 := hC.2.2.2.2
  unfold f_X10_soundsBy
  simp (disch := omega) only [r78_7, r78_8, r78_9, r78_10, r78_11, r78_12, r78_13, r78_17, r78_37, r78_38, r78_39, r78_40, r78_41, r78_42, r78_43, r78_44, r78_45, r78_46, r78_47, r78_49, r78_50, r78_53, r78_55, r78_57, r78_58, r78_59, r78_64, r78_65, r78_66, n79, n80, n81, n82, n83, n84, n85, n86, n87, n88, n89, n90, n91, n92, n93, n94, n95, n96, n97, n98, n99, n100, n101, n102, n103, n104, n105, n106, n107, inbT, nIc, m_off, bd_some, hC.2.1.1, hC.2.1.2.1]
  cases hc : cso c with
  | none =>
    rw [hc] at h5
    have h6 : sg S 78 6 = -1 := h5
    rw [h6, if_pos rfl, hw S (Fm_rf _ _) (by rw [RM_0 hR (by omega), hd]), bd_some, cl_bounded, bd_some]
    refine Rn_ret ⟨?_, Fm_rf _ _⟩
    unfold snd_
    rw [hc]
  | some P =>
    rw [hc] at h5
    obtain ⟨a, h6, h7, h8⟩ := h5
    obtain ⟨hP1, hP2, hP3⟩ := hI.2.2.2.2 P hc
    rw [h6, eqmF (by omega)]
    simp (disch := omega) only [r78_7, r78_8, r78_9, r78_10, r78_11, r78_12, r78_13, r78_17, r78_37, r78_38, r78_39, r78_40, r78_41, r78_42, r78_43, r78_44, r78_45, r78_46, r78_47, r78_49, r78_50, r78_53, r78_55, r78_57, r78_58, r78_59, r78_64, r78_65, r78_66, n79, n80, n81, n82, n83, n84, n85, n86, n87, n88, n89, n90, n91, n92, n93, n94, n95, n96, n97, n98, n99, n100, n101, n102, n103, n104, n105, n106, n107, l2, l3, l4, l5, l6, l7, l8, l56, l64, l72, l80, nIa, nIm, nI1, nIz, nIc, inbT, inb0T, inb1T, c00, c01, leT, leF, ltT, ltF, eqT, eqF, eqmF, oneT, bd_some, bv_some, sgn, sgj, sgp, RM_he hR, RM_0 hR]
    rw [hw _ (Fm_sp (Fm_sp (Fm_sp (Fm_rf _ _) (Or.inl rfl)) (Or.inl rfl)) (Or.inl rfl)) (by simp (disch := omega) only [sgn]; rw [RM_0 hR (by omega), hd]), bd_some]
    simp (disch := omega) only [r78_7, r78_8, r78_9, r78_10, r78_11, r78_12, r78_13, r78_17, r78_37, r78_38, r78_39, r78_40, r78_41, r78_42, r78_43, r78_44, r78_45, r78_46, r78_47, r78_49, r78_50, r78_53, r78_55, r78_57, r78_58, r78_59, r78_64, r78_65, r78_66, n79, n80, n81, n82, n83, n84, n85, n86, n87, n88, n89, n90, n91, n92, n93, n94, n95, n96, n97, n98, n99, n100, n101, n102, n103, n104, n105, n106, n107, l2, l3, l4, l5, l6, l7, l8, l56, l64, l72, l80, nIa, nIm, nI1, nIz, nIc, inbT, inb0T, inb1T, c00, c01, leT, leF, ltT, ltF, eqT, eqF, eqmF, oneT, bd_some, bv_some, sgn, sgj, sgp, RM_he hR, RM_0 hR, h6]
    unfold f_X10_reckons
    refine Rn_bd (Rn_mono (m_reckons (A := AS_) (vals := svals c wet r x much o) P N a [] _ (by omega) ?_ trivial hP1 (by decide) ?_) ?_)
    · exact codeAt_same (fun j => by simp (disch := omega) only [sgn]) h8
    · intro j hj
      have hj2 : 4 ≤ j ∧ j ≤ 8 := hj
      have h1 : j = 4 ∨ j = 5 ∨ j = 6 ∨ j = 7 ∨ j = 8 := by omega
      rcases h1 with h | h | h | h | h <;> subst h <;> simp (disch := omega) only [sgj, sgp] <;> rfl
    · intro q hq
      rw [cl_bounded, bd_some]
      refine Rn_ret ⟨?_, ?_⟩
      · show cl q.1 0 _ = _
        rw [hq.1]
        unfold snd_
        rw [hc]
        rfl
      · refine Fm_tr ?_ (Fm_wk (Fm_fr hq.2) (fun k j h => Or.inr h))
        repeat (refine Fm_sp ?_ (Or.inl rfl))
        exact Fm_rf _ _
