/-! the JDK's own: Math, System.arraycopy -/
section EVM
variable {G : am_G} {R : Room} {Φ : List Frame → Array Value → State → State → Prop} {M : am_M} {cu su pc : Nat} {ls : List (Option Value)} {st : List Value} {h : am_H}
theorem ev_min {idx : Nat} {x y : Int32} (hd : decode (mb M) pc = .ok (.invokestatic idx, 3)) (hw : Cond.methodLink (mo M) idx Lib.Math.min.name ∈ am_WT) (hw1 : Cond.static Lib.Math.min.name ∈ am_WT) (hw2 : Cond.initialized "java/lang/Math" ∈ am_WT) (hw3 : Cond.code Lib.Math.min.name Lib.Math.min.code 2 (some .int) ∈ am_WT) (hst : (st.map fun v => v.category).sum ≤ 8) (hf : am_fit R 0) (hcs : cu ≤ R.cells ∧ su ≤ R.slots) (k : Ev G R Φ M cu su (pc + 3) ls (.int (if y < x then y else x) :: st) h) : Ev G R Φ M cu su pc ls (.int y :: .int x :: st) h := by
  intro p e s m args below meth c H locs lsA hB hO hL hH hZ hS
  have hk := k p e s m args below meth c H locs lsA hB hO hL hH hZ hS
  have hfr := hf.1
  have hlo := hf.2
  refine va_mmin hB.1 hB.2.1 (by rw [hB.2.2.2.1]; exact hL.1.symm) hB.2.2.2.2.1 (hB.2.2.2.2.2.1 _ hw) (hB.2.2.2.2.2.1 _ hw1) (hB.2.2.2.2.2.1 _ hw2) (hB.2.2.2.2.2.1 _ hw3) (by omega) (by rw [tv_cats]; omega) hcs.1 hcs.2 hd ?_
  exact hk
theorem ev_max {idx : Nat} {x y : Int32} (hd : decode (mb M) pc = .ok (.invokestatic idx, 3)) (hw : Cond.methodLink (mo M) idx Lib.Math.max.name ∈ am_WT) (hw1 : Cond.static Lib.Math.max.name ∈ am_WT) (hw2 : Cond.initialized "java/lang/Math" ∈ am_WT) (hw3 : Cond.code Lib.Math.max.name Lib.Math.max.code 2 (some .int) ∈ am_WT) (hst : (st.map fun v => v.category).sum ≤ 8) (hf : am_fit R 0) (hcs : cu ≤ R.cells ∧ su ≤ R.slots) (k : Ev G R Φ M cu su (pc + 3) ls (.int (if x < y then y else x) :: st) h) : Ev G R Φ M cu su pc ls (.int y :: .int x :: st) h := by
  intro p e s m args below meth c H locs lsA hB hO hL hH hZ hS
  have hk := k p e s m args below meth c H locs lsA hB hO hL hH hZ hS
  have hfr := hf.1
  have hlo := hf.2
  refine va_mmax hB.1 hB.2.1 (by rw [hB.2.2.2.1]; exact hL.1.symm) hB.2.2.2.2.1 (hB.2.2.2.2.2.1 _ hw) (hB.2.2.2.2.2.1 _ hw1) (hB.2.2.2.2.2.1 _ hw2) (hB.2.2.2.2.2.1 _ hw3) (by omega) (by rw [tv_cats]; omega) hcs.1 hcs.2 hd ?_
  exact hk
theorem ev_abs {idx : Nat} {x : Int32} (hd : decode (mb M) pc = .ok (.invokestatic idx, 3)) (hw : Cond.methodLink (mo M) idx Lib.Math.abs.name ∈ am_WT) (hw1 : Cond.static Lib.Math.abs.name ∈ am_WT) (hw2 : Cond.initialized "java/lang/Math" ∈ am_WT) (hw3 : Cond.code Lib.Math.abs.name Lib.Math.abs.code 1 (some .int) ∈ am_WT) (hst : (st.map fun v => v.category).sum ≤ 8) (hf : am_fit R 0) (hcs : cu ≤ R.cells ∧ su ≤ R.slots) (k : Ev G R Φ M cu su (pc + 3) ls (.int (if 0 ≤ x then x else 0 - x) :: st) h) : Ev G R Φ M cu su pc ls (.int x :: st) h := by
  intro p e s m args below meth c H locs lsA hB hO hL hH hZ hS
  have hk := k p e s m args below meth c H locs lsA hB hO hL hH hZ hS
  have hfr := hf.1
  have hlo := hf.2
  refine va_mabs hB.1 hB.2.1 (by rw [hB.2.2.2.1]; exact hL.1.symm) hB.2.2.2.2.1 (hB.2.2.2.2.2.1 _ hw) (hB.2.2.2.2.2.1 _ hw1) (hB.2.2.2.2.2.1 _ hw2) (hB.2.2.2.2.2.1 _ hw3) (by omega) (by rw [tv_cats]; omega) hcs.1 hcs.2 hd ?_
  exact hk
/-- arraycopy of ints; source and target may be one array -/
theorem ev_copy {idx a b n0 n1 : Nat} {f g : Nat → Int32} {sp dp n : Int32} (hd : decode (mb M) pc = .ok (.invokestatic idx, 3)) (hw : Cond.methodLink (mo M) idx arraycopyName ∈ am_WT) (hw1 : Cond.native arraycopyName ∈ am_WT) (hw2 : Cond.static arraycopyName ∈ am_WT) (hw3 : Cond.initialized "java/lang/System" ∈ am_WT) (ha : h.1[a]? = some (.inl (1, n0, .inl f))) (hb : h.1[b]? = some (.inl (1, n1, .inl g))) (h1 : ¬ sp < 0) (h2 : ¬ dp < 0) (h3 : ¬ n < 0) (h4 : sp.toNatClampNeg + n.toNatClampNeg ≤ n0) (h5 : dp.toNatClampNeg + n.toNatClampNeg ≤ n1) (hst : (st.map fun v => v.category).sum ≤ 8) (hf : am_fit R 0) (k : Ev G R Φ M cu su (pc + 3) ls st (am_up h b (.inl (1, n1, .inl (va_cpy f g sp.toNatClampNeg dp.toNatClampNeg n.toNatClampNeg))))) : Ev G R Φ M cu su pc ls (.int n :: .int dp :: .ref b :: .int sp :: .ref a :: st) h := by
  intro p e s m args below meth c H locs lsA hB hO hL hH hZ hS
  have hfr := hf.1
  have hlo := hf.2
  have hnf : nativeFrameWords "java/lang/System" "arraycopy" 5 + 11 ≤ 40 := by decide
  refine va_copyi (ty := .int) hB.1 hB.2.1 (by rw [hB.2.2.2.1]; exact hL.1.symm) hB.2.2.2.2.1 (hB.2.2.2.2.2.1 _ hw) (hB.2.2.2.2.2.1 _ hw1) (hB.2.2.2.2.2.1 _ hw2) (hB.2.2.2.2.2.1 _ hw3) hO.1 hH (tw_D G h.1) hS a b 1 1 (tw_get ha) (tw_get hb) rfl rfl rfl h1 h2 h3 h4 h5 (fun _ _ => rfl) (by omega) (by rw [tv_cats]; omega) hd (fun H1 locs1 hP1 hD1 hS1 => ?_)
  rw [show (gB G + b, (Sum.inl (gY G 1, n1, .inl (va_cpy f g sp.toNatClampNeg dp.toNatClampNeg n.toNatClampNeg)) : va_E)) = (gB G + b, te G (.inl (1, n1, .inl (va_cpy f g sp.toNatClampNeg dp.toNatClampNeg n.toNatClampNeg)))) from rfl, tw_set] at hP1
  exact k p e s m args below meth c H1 locs1 lsA hB hO hL hP1 (by simpa [am_sz, am_up] using hZ) hS1
end EVM
