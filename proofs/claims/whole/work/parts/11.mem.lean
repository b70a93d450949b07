/-- numbers by cell and place; longs; references that change -/
abbrev am_S : Type := (Nat → Nat → Int32) × (Nat → Int64) × (Nat → Nat)
def up2 (f : Nat → Nat → Int32) (k j : Nat) (v : Int32) : Nat → Nat → Int32 := fun a i => bif (Nat.beq a k && Nat.beq i j) then v else f a i
def sg (S : am_S) (k j : Nat) : Int32 := S.1 k j
def sp (S : am_S) (k j : Nat) (v : Int32) : am_S := (up2 S.1 k j v, S.2)
def sw (S : am_S) (k : Nat) (f : Nat → Int32) : am_S := (fun a => bif Nat.beq a k then f else S.1 a, S.2)
def lg (S : am_S) (i : Nat) : Int64 := S.2.1 i
def lp (S : am_S) (i : Nat) (v : Int64) : am_S := (S.1, vp_updL S.2.1 i v, S.2.2)
def rg (S : am_S) (i : Nat) : Nat := S.2.2 i
def rp (S : am_S) (i : Nat) (v : Nat) : am_S := (S.1, S.2.1, va_up S.2.2 i v)
abbrev am_Y : Type := (Nat × Nat) ⊕ (Nat × List (Option Nat))
def am_lay : List am_Y := [.inr (9, [some 1, none, some 2, none, some 7, some 1001, some 1002, some 40, some 42, some 44, some 46, none, some 50, some 52, some 54, some 58, some 76, some 77, none]), .inl (0, 700), .inr (2, [some 3, some 5]), .inr (8, [some 1003, none, none, none, none, none, none]), .inl (0, 0), .inr (6, [some 6, none, none, none, none, none]), .inl (1, 84), .inl (1, 3), .inr (1, [none, some 9, some 10, none, some 11, some 12, some 13, some 14, none, some 15, none, some 16, some 17, some 20, some 23]), .inl (1, 6), .inl (1, 6), .inl (1, 8), .inl (1, 8), .inl (1, 8), .inl (1, 8), .inl (1, 8), .inl (1, 8), .inr (5, [some 18, none, some 19]), .inl (1, 700), .inl (1, 40), .inr (5, [some 21, none, some 22]), .inl (1, 700), .inl (1, 40), .inl (1, 6), .inr (1, [none, some 25, some 26, none, some 27, some 28, some 29, some 30, none, some 31, none, some 32, some 33, some 36, some 39]), .inl (1, 6), .inl (1, 6), .inl (1, 8), .inl (1, 8), .inl (1, 8), .inl (1, 8), .inl (1, 8), .inl (1, 8), .inr (5, [some 34, none, some 35]), .inl (1, 700), .inl (1, 40), .inr (5, [some 37, none, some 38]), .inl (1, 700), .inl (1, 40), .inl (1, 6), .inr (7, [some 41]), .inl (1, 80), .inr (7, [some 43]), .inl (1, 80), .inr (0, [some 45, none, none]), .inl (1, 3200), .inr (3, [some 47, some 48, some 49, none]), .inl (1, 8), .inl (1, 8), .inl (1, 8), .inr (7, [some 51]), .inl (1, 80), .inr (0, [some 53, none, none]), .inl (1, 3200), .inr (3, [some 55, some 56, some 57, none]), .inl (1, 8), .inl (1, 8), .inl (1, 8), .inr (4, [some 59, some 60, some 61, none, none]), .inl (3, 7), .inl (1, 6), .inl (1, 6), .inr (7, [some 63]), .inl (1, 80), .inr (7, [some 65]), .inl (1, 80), .inr (7, [some 67]), .inl (1, 80), .inr (7, [some 69]), .inl (1, 80), .inr (7, [some 71]), .inl (1, 80), .inr (7, [some 73]), .inl (1, 80), .inr (7, [some 75]), .inl (1, 80), .inl (1, 512), .inl (1, 8), .inr (10, [none, none, none, none, none, none, none, some 79, some 80, some 81, some 82, some 83, some 84, some 85, none, none, none, some 86, none, none, none, none, none, none, none, some 1000, none, none, none, none, none, none, none, none, none, none, none, some 87, some 88, some 89, some 90, some 91, some 92, some 93, some 94, some 95, some 96, some 97, none, some 98, some 99, none, none, some 100, none, some 101, none, some 102, some 103, some 104, none, none, none, none, some 105, some 106, some 107]), .inl (1, 6), .inl (1, 8), .inl (1, 8), .inl (1, 8), .inl (1, 8), .inl (1, 1400), .inl (1, 700), .inl (1, 3), .inl (1, 6), .inl (1, 8), .inl (1, 8), .inl (1, 8), .inl (1, 8), .inl (1, 80), .inl (1, 1400), .inl (1, 950), .inl (2, 9), .inl (1, 160), .inl (1, 3200), .inl (1, 9), .inl (1, 950), .inl (1, 6), .inl (1, 6), .inl (1, 24), .inl (1, 8), .inl (1, 448), .inl (1, 80), .inl (1, 3200), .inl (1, 24), .inl (4, 1)]
def am_kd (d : Option Nat) : Nat := match d with
  | none => 0
  | some r => bif Nat.blt r 1000 then 1 else r - 998
def cfs (ci : Nat) : List Nat := match ci with
  | 0 => [1, 0, 0]
  | 1 => [0, 1, 1, 0, 1, 1, 1, 1, 0, 1, 0, 1, 1, 1, 1]
  | 2 => [1, 1]
  | 3 => [1, 1, 1, 0]
  | 4 => [1, 1, 1, 0, 0]
  | 5 => [1, 0, 1]
  | 6 => [1, 0, 0, 0, 0, 0]
  | 7 => [1]
  | 8 => [5, 0, 0, 0, 0, 0, 0]
  | 9 => [1, 0, 1, 0, 1, 3, 4, 1, 1, 1, 1, 0, 1, 1, 1, 1, 1, 1, 0]
  | 10 => [0, 0, 0, 0, 0, 0, 0, 1, 1, 1, 1, 1, 1, 1, 0, 0, 0, 1, 0, 0, 0, 0, 0, 0, 0, 2, 0, 0, 0, 0, 0, 0, 0, 0, 0, 0, 0, 1, 1, 1, 1, 1, 1, 1, 1, 1, 1, 1, 0, 1, 1, 0, 0, 1, 0, 1, 0, 1, 1, 1, 0, 0, 0, 0, 1, 1, 1]
  | _ => []
def am_fv (S : am_S) (k j : Nat) (d : Option Nat) : Value := match d with
  | none => .int (sg S k j)
  | some r => bif Nat.blt r 1000 then .ref r else bif Nat.beq r 1000 then .long (lg S 0) else .ref (rg S (r - 1001))
def am_cell (S : am_S) (k : Nat) (e : am_Y) : am_E := match e with
  | .inl (t, n) => .inl (t, n, bif Nat.beq t 3 then .inr (.inr (.inr (.inr (fun i => some (62 + 2 * i))))) else bif Nat.beq t 4 then .inr (.inl (fun i => lg S (k + i))) else .inl (S.1 k))
  | .inr (ci, fds) => .inr (ci, fds.mapIdx (fun j d => am_fv S k j d))
def hpL (Y : List am_Y) (S : am_S) : am_H := (Y.mapIdx (am_cell S), 1)
def hp (S : am_S) : am_H := hpL am_lay S
theorem hp_get {S : am_S} {k : Nat} {e : am_Y} (h : am_lay[k]? = some e) : (hp S).1[k]? = some (am_cell S k e) := by
  simp [hp, hpL, List.getElem?_mapIdx, h]
theorem hp_sealed (S : am_S) : ¬ (hp S).2 = 0 := fun z => by cases z
def isC (ci k : Nat) : Bool := match am_lay[k]? with
  | some (.inr (c, _)) => Nat.beq c ci
  | _ => false
def isAr (t k : Nat) : Bool := match am_lay[k]? with
  | some (.inl (c, _)) => Nat.beq c t
  | _ => false
def ln (k : Nat) : Nat := match am_lay[k]? with
  | some (.inl (_, n)) => n
  | _ => 0
def rf (k j : Nat) : Nat := match am_lay[k]? with
  | some (.inr (_, fds)) => (fds.getD j none).getD 0
  | _ => 0
def am_lk : Bool := am_lay.all (fun e => match e with
  | .inl _ => true
  | .inr (c, fds) => fds.map am_kd == cfs c)
theorem am_lk_ok : am_lk = true := by decide +kernel
theorem isC_lt {ci k : Nat} (h : isC ci k = true) : k < 109 := by
  rcases Nat.lt_or_ge k 109 with q | q
  · exact q
  · have : am_lay[k]? = none := List.getElem?_eq_none (by rw [show am_lay.length = 109 from rfl]; exact q)
    simp [isC, this] at h
theorem isAr_lt {t k : Nat} (h : isAr t k = true) : k < 109 := by
  rcases Nat.lt_or_ge k 109 with q | q
  · exact q
  · have : am_lay[k]? = none := List.getElem?_eq_none (by rw [show am_lay.length = 109 from rfl]; exact q)
    simp [isAr, this] at h
theorem isC_of {ci k : Nat} (h : isC ci k = true) : ∃ fds, am_lay[k]? = some (.inr (ci, fds)) ∧ fds.map am_kd = cfs ci := by
  unfold isC at h
  cases he : am_lay[k]? with
  | none => simp [he] at h
  | some e =>
    cases e with
    | inl x => simp [he] at h
    | inr x =>
      obtain ⟨c, fds⟩ := x
      simp only [he] at h
      have hc : c = ci := Nat.eq_of_beq_eq_true h
      subst hc
      refine ⟨fds, rfl, ?_⟩
      have h1 := List.all_eq_true.mp am_lk_ok _ (List.mem_of_getElem? he)
      exact eq_of_beq h1
theorem isC_fd {ci k j n : Nat} (h : isC ci k = true) (hj : (cfs ci)[j]? = some n) : ∃ fds d, am_lay[k]? = some (.inr (ci, fds)) ∧ fds[j]? = some d ∧ am_kd d = n := by
  obtain ⟨fds, h1, h2⟩ := isC_of h
  rw [← h2, List.getElem?_map] at hj
  cases hd : fds[j]? with
  | none => simp [hd] at hj
  | some d => simp [hd] at hj; exact ⟨fds, d, h1, hd, hj⟩
theorem isAr_of {t k : Nat} (h : isAr t k = true) : am_lay[k]? = some (.inl (t, ln k)) := by
  unfold isAr at h
  cases he : am_lay[k]? with
  | none => simp [he] at h
  | some e =>
    cases e with
    | inr x => simp [he] at h
    | inl x =>
      obtain ⟨c, n⟩ := x
      simp only [he] at h
      have hc : c = t := Nat.eq_of_beq_eq_true h
      subst hc
      simp [ln, he]
theorem sw_sp (S : am_S) (k j : Nat) (v : Int32) : sw S k (upd (S.1 k) j v) = sp S k j v := by
  refine Prod.ext ?_ rfl
  funext a i
  simp only [sw, sp, up2, upd]
  cases h : Nat.beq a k with
  | false => simp
  | true =>
    have := Nat.eq_of_beq_eq_true h
    subst this
    by_cases hi : i = j
    · subst hi; simp [pk_us]
    · have : Nat.beq i j = false := by
        cases hb : Nat.beq i j with
        | false => rfl
        | true => exact absurd (Nat.eq_of_beq_eq_true hb) hi
      simp [this, pk_un hi]
/-- one array's row changed -/
theorem hpL_sw {Y : List am_Y} {S : am_S} {k t n : Nat} {f : Nat → Int32} (h : Y[k]? = some (.inl (t, n))) (ht : Nat.beq t 3 = false) (ht4 : Nat.beq t 4 = false) : am_up (hpL Y S) k (.inl (t, n, .inl f)) = hpL Y (sw S k f) := by
  refine Prod.ext ?_ rfl
  show (Y.mapIdx (am_cell S)).set k _ = Y.mapIdx (am_cell (sw S k f))
  refine List.ext_getElem? (fun i => ?_)
  by_cases hi : k = i
  · subst hi
    have hl := (List.getElem?_eq_some_iff.mp h).1
    rw [List.getElem?_set_self (by simpa using hl), List.getElem?_mapIdx, h]
    simp [am_cell, ht, ht4, sw]
  · rw [List.getElem?_set_ne hi, List.getElem?_mapIdx, List.getElem?_mapIdx]
    cases he : Y[i]? with
    | none => rfl
    | some e =>
      have hb : Nat.beq i k = false := by
        cases hb : Nat.beq i k with
        | false => rfl
        | true => exact absurd (Nat.eq_of_beq_eq_true hb).symm hi
      simp only [Option.map_some]
      congr 1
      cases e with
      | inl x => simp [am_cell, sw, hb, lg]
      | inr x => simp [am_cell, am_fv, sw, sg, hb, lg, rg]
theorem hpL_sp {Y : List am_Y} {S : am_S} {k ci j : Nat} {fds : List (Option Nat)} {v : Int32} (h : Y[k]? = some (.inr (ci, fds))) (hj : fds[j]? = some none) : am_up (hpL Y S) k (.inr (ci, (fds.mapIdx (fun j d => am_fv S k j d)).set j (.int v))) = hpL Y (sp S k j v) := by
  refine Prod.ext ?_ rfl
  show (Y.mapIdx (am_cell S)).set k _ = Y.mapIdx (am_cell (sp S k j v))
  refine List.ext_getElem? (fun i => ?_)
  by_cases hi : k = i
  · subst hi
    have hl := (List.getElem?_eq_some_iff.mp h).1
    rw [List.getElem?_set_self (by simpa using hl), List.getElem?_mapIdx, h]
    simp only [Option.map_some, am_cell]
    congr 3
    refine List.ext_getElem? (fun a => ?_)
    by_cases ha : j = a
    · subst ha
      have hl2 := (List.getElem?_eq_some_iff.mp hj).1
      rw [List.getElem?_set_self (by simpa using hl2), List.getElem?_mapIdx, hj]
      simp [am_fv, sg, sp, up2]
    · rw [List.getElem?_set_ne ha, List.getElem?_mapIdx, List.getElem?_mapIdx]
      cases hd : fds[a]? with
      | none => rfl
      | some d =>
        have hb : Nat.beq a j = false := by
          cases hb : Nat.beq a j with
          | false => rfl
          | true => exact absurd (Nat.eq_of_beq_eq_true hb).symm ha
        cases d <;> simp [am_fv, sg, sp, up2, hb, lg, rg]
  · rw [List.getElem?_set_ne hi, List.getElem?_mapIdx, List.getElem?_mapIdx]
    cases he : Y[i]? with
    | none => rfl
    | some e =>
      have hb : Nat.beq i k = false := by
        cases hb : Nat.beq i k with
        | false => rfl
        | true => exact absurd (Nat.eq_of_beq_eq_true hb).symm hi
      simp only [Option.map_some]
      congr 1
      cases e with
      | inl x =>
        obtain ⟨t, n⟩ := x
        have : up2 S.1 k j v i = S.1 i := by funext a; simp [up2, hb]
        simp [am_cell, sp, this, lg]
      | inr x => simp [am_cell, am_fv, sp, sg, up2, hb, lg, rg]
theorem hpL_rp {Y : List am_Y} {S : am_S} {k ci j i : Nat} {fds : List (Option Nat)} {v : Nat} (h : Y[k]? = some (.inr (ci, fds))) (hj : fds[j]? = some (some (1001 + i))) (hone : ∀ a b : Nat, ∀ c fs, Y[a]? = some (.inr (c, fs)) → fs[b]? = some (some (1001 + i)) → a = k ∧ b = j) : am_up (hpL Y S) k (.inr (ci, (fds.mapIdx (fun j d => am_fv S k j d)).set j (.ref v))) = hpL Y (rp S i v) := by
  refine Prod.ext ?_ rfl
  show (Y.mapIdx (am_cell S)).set k _ = Y.mapIdx (am_cell (rp S i v))
  have hfv : ∀ (a b : Nat) (d : Option Nat), d ≠ some (1001 + i) → am_fv S a b d = am_fv (rp S i v) a b d := by
    intro a b d hd
    cases d with
    | none => rfl
    | some r =>
      simp only [am_fv]
      cases h1 : Nat.blt r 1000 with
      | true => simp only [cond_true]
      | false =>
        cases h2 : Nat.beq r 1000 with
        | true => simp only [cond_true, cond_false, lg, rp]
        | false =>
          have h3 : ¬ r < 1000 := fun q => by rw [show Nat.blt r 1000 = true from Nat.ble_eq.mpr q] at h1; cases h1
          have h4 : ¬ r = 1000 := fun q => by subst q; cases h2
          have h5 : r - 1001 ≠ i := fun q => hd (by rw [show r = 1001 + i by omega])
          simp [rg, rp, va_up, h5]
  refine List.ext_getElem? (fun x => ?_)
  by_cases hi : k = x
  · subst hi
    have hl := (List.getElem?_eq_some_iff.mp h).1
    rw [List.getElem?_set_self (by simpa using hl), List.getElem?_mapIdx, h]
    simp only [Option.map_some, am_cell]
    congr 3
    refine List.ext_getElem? (fun a => ?_)
    by_cases ha : j = a
    · subst ha
      have hl2 := (List.getElem?_eq_some_iff.mp hj).1
      rw [List.getElem?_set_self (by simpa using hl2), List.getElem?_mapIdx, hj]
      have h1 : Nat.blt (1001 + i) 1000 = false := by
        cases hb : Nat.blt (1001 + i) 1000 with
        | false => rfl
        | true => exact absurd (Nat.ble_eq.mp hb) (by omega)
      have h2 : Nat.beq (1001 + i) 1000 = false := by
        cases hb : Nat.beq (1001 + i) 1000 with
        | false => rfl
        | true => exact absurd (Nat.eq_of_beq_eq_true hb) (by omega)
      simp [am_fv, h1, h2, rg, rp, va_up]
    · rw [List.getElem?_set_ne ha, List.getElem?_mapIdx, List.getElem?_mapIdx]
      cases hd : fds[a]? with
      | none => simp
      | some d =>
        simp only [Option.map_some]
        rw [hfv k a d (fun q => ha (hone k a ci fds h (by rw [hd, q])).2.symm)]
  · rw [List.getElem?_set_ne hi, List.getElem?_mapIdx, List.getElem?_mapIdx]
    cases he : Y[x]? with
    | none => simp
    | some e =>
      simp only [Option.map_some]
      refine congrArg some ?_
      cases e with
      | inl y => simp [am_cell, rp, lg]
      | inr y =>
        obtain ⟨c, fs⟩ := y
        simp only [am_cell]
        refine congrArg (fun l => (Sum.inr (c, l) : am_E)) ?_
        refine List.ext_getElem? (fun a => ?_)
        rw [List.getElem?_mapIdx, List.getElem?_mapIdx]
        cases hd : fs[a]? with
        | none => simp
        | some d =>
          simp only [Option.map_some]
          rw [hfv x a d (fun q => hi (hone x a c fs he (by rw [hd, q])).1.symm)]
