/-! which exceptions a call throws (written by gen9i.py) -/
section
def Ex_ (P : Nat → Prop) (o : Option am_T) : Prop := ∀ e S, o = some (.inr e, S) → P e
variable {P : Nat → Prop} {N : Nat}
theorem Ex_n : Ex_ P none := fun e S h => by cases h
theorem Ex_l {r : Int32} {S : am_S} : Ex_ P (some (.inl r, S)) := fun e S h => by cases h
theorem Ex_r {k : Nat} {S : am_S} (hk : P k) : Ex_ P (some (.inr k, S)) := fun e S h => by cases h; exact hk
theorem Ex_i {c : Prop} {i : Decidable c} {a b : Option am_T} (ha : Ex_ P a) (hb : Ex_ P b) : Ex_ P (@ite _ c i a b) := by
  by_cases z : c
  · rw [if_pos z]; exact ha
  · rw [if_neg z]; exact hb
theorem Ex_d {α : Type} {o : Option (α × am_S)} {F : α → am_S → Option am_T} (h : ∀ r S, Ex_ P (F r S)) : Ex_ P (bd o F) := by
  cases o with
  | none => exact Ex_n
  | some q => exact h q.1 q.2
theorem Ex_v {o : Option am_S} {F : am_S → Option am_T} (h : ∀ S, Ex_ P (F S)) : Ex_ P (bv o F) := by
  cases o with
  | none => exact Ex_n
  | some q => exact h q
theorem Ex_t {o : Option am_T} {F : Int32 → am_S → Option am_T} (ho : Ex_ P o) (h : ∀ r S, Ex_ P (F r S)) : Ex_ P (bt o F) := by
  cases o with
  | none => exact Ex_n
  | some q =>
    obtain ⟨x, S⟩ := q
    cases x with
    | inl r => exact h r S
    | inr e => exact Ex_r (ho e S rfl)
theorem e_b_X9_city_12 (h1 : P 1) (S : am_S) : Ex_ P (b_X9_city_12 N S) := by
  unfold b_X9_city_12
  repeat' (first | assumption | with_reducible exact Ex_n | with_reducible exact Ex_l | with_reducible refine Ex_r ?_ | with_reducible refine Ex_i ?_ ?_ | with_reducible refine Ex_d (fun _ _ => ?_) | with_reducible refine Ex_v (fun _ => ?_) | with_reducible refine Ex_t ?_ (fun _ _ => ?_))
theorem e_f_X9_city (h1 : P 1) (l0 : Nat) (l1 : Int32) (S : am_S) : Ex_ P (f_X9_city N l0 l1 S) := by
  unfold f_X9_city
  repeat' (first | assumption | with_reducible exact Ex_n | with_reducible exact Ex_l | with_reducible refine Ex_r ?_ | with_reducible refine Ex_i ?_ ?_ | with_reducible refine Ex_d (fun _ _ => ?_) | with_reducible refine Ex_v (fun _ => ?_) | with_reducible refine Ex_t ?_ (fun _ _ => ?_) | with_reducible apply e_b_X9_city_12)
theorem e_b_X9_count_134  (z0 : Int32) (S : am_S) : Ex_ P (b_X9_count_134 N z0 S) := by
  unfold b_X9_count_134
  repeat' (first | assumption | with_reducible exact Ex_n | with_reducible exact Ex_l | with_reducible refine Ex_r ?_ | with_reducible refine Ex_i ?_ ?_ | with_reducible refine Ex_d (fun _ _ => ?_) | with_reducible refine Ex_v (fun _ => ?_) | with_reducible refine Ex_t ?_ (fun _ _ => ?_))
theorem e_f_X9_count (h0 : P 0) (l0 : Nat) (l1 : Int32) (S : am_S) : Ex_ P (f_X9_count N l0 l1 S) := by
  unfold f_X9_count
  repeat' (first | assumption | with_reducible exact Ex_n | with_reducible exact Ex_l | with_reducible refine Ex_r ?_ | with_reducible refine Ex_i ?_ ?_ | with_reducible refine Ex_d (fun _ _ => ?_) | with_reducible refine Ex_v (fun _ => ?_) | with_reducible refine Ex_t ?_ (fun _ _ => ?_) | with_reducible apply e_b_X9_count_134)
theorem e_b_X9_needBox_15 (h0 : P 0) (S : am_S) : Ex_ P (b_X9_needBox_15 N S) := by
  unfold b_X9_needBox_15
  repeat' (first | assumption | with_reducible exact Ex_n | with_reducible exact Ex_l | with_reducible refine Ex_r ?_ | with_reducible refine Ex_i ?_ ?_ | with_reducible refine Ex_d (fun _ _ => ?_) | with_reducible refine Ex_v (fun _ => ?_) | with_reducible refine Ex_t ?_ (fun _ _ => ?_))
theorem e_f_X9_needBox (h0 : P 0) (l0 : Nat) (l1 : Int32) (S : am_S) : Ex_ P (f_X9_needBox N l0 l1 S) := by
  unfold f_X9_needBox
  repeat' (first | assumption | with_reducible exact Ex_n | with_reducible exact Ex_l | with_reducible refine Ex_r ?_ | with_reducible refine Ex_i ?_ ?_ | with_reducible refine Ex_d (fun _ _ => ?_) | with_reducible refine Ex_v (fun _ => ?_) | with_reducible refine Ex_t ?_ (fun _ _ => ?_) | with_reducible apply e_b_X9_needBox_15)
theorem e_f_X9_box (h0 : P 0) (l0 : Nat) (l1 : Int32) (l2 : Int32) (S : am_S) : Ex_ P (f_X9_box N l0 l1 l2 S) := by
  unfold f_X9_box
  repeat' (first | assumption | with_reducible exact Ex_n | with_reducible exact Ex_l | with_reducible refine Ex_r ?_ | with_reducible refine Ex_i ?_ ?_ | with_reducible refine Ex_d (fun _ _ => ?_) | with_reducible refine Ex_v (fun _ => ?_) | with_reducible refine Ex_t ?_ (fun _ _ => ?_) | with_reducible apply e_f_X9_needBox)
theorem e_b_X9_needPerson_15 (h0 : P 0) (S : am_S) : Ex_ P (b_X9_needPerson_15 N S) := by
  unfold b_X9_needPerson_15
  repeat' (first | assumption | with_reducible exact Ex_n | with_reducible exact Ex_l | with_reducible refine Ex_r ?_ | with_reducible refine Ex_i ?_ ?_ | with_reducible refine Ex_d (fun _ _ => ?_) | with_reducible refine Ex_v (fun _ => ?_) | with_reducible refine Ex_t ?_ (fun _ _ => ?_))
theorem e_f_X9_needPerson (h0 : P 0) (l0 : Nat) (l1 : Int32) (S : am_S) : Ex_ P (f_X9_needPerson N l0 l1 S) := by
  unfold f_X9_needPerson
  repeat' (first | assumption | with_reducible exact Ex_n | with_reducible exact Ex_l | with_reducible refine Ex_r ?_ | with_reducible refine Ex_i ?_ ?_ | with_reducible refine Ex_d (fun _ _ => ?_) | with_reducible refine Ex_v (fun _ => ?_) | with_reducible refine Ex_t ?_ (fun _ _ => ?_) | with_reducible apply e_b_X9_needPerson_15)
theorem e_f_X9_person (h0 : P 0) (l0 : Nat) (l1 : Int32) (l2 : Int32) (S : am_S) : Ex_ P (f_X9_person N l0 l1 l2 S) := by
  unfold f_X9_person
  repeat' (first | assumption | with_reducible exact Ex_n | with_reducible exact Ex_l | with_reducible refine Ex_r ?_ | with_reducible refine Ex_i ?_ ?_ | with_reducible refine Ex_d (fun _ _ => ?_) | with_reducible refine Ex_v (fun _ => ?_) | with_reducible refine Ex_t ?_ (fun _ _ => ?_) | with_reducible apply e_f_X9_needPerson)
theorem e_f_X9_held (h0 : P 0) (l0 : Nat) (l1 : Int32) (l2 : Int32) (S : am_S) : Ex_ P (f_X9_held N l0 l1 l2 S) := by
  unfold f_X9_held
  repeat' (first | assumption | with_reducible exact Ex_n | with_reducible exact Ex_l | with_reducible refine Ex_r ?_ | with_reducible refine Ex_i ?_ ?_ | with_reducible refine Ex_d (fun _ _ => ?_) | with_reducible refine Ex_v (fun _ => ?_) | with_reducible refine Ex_t ?_ (fun _ _ => ?_) | with_reducible apply e_f_X9_needBox | with_reducible apply e_f_X9_needPerson)
theorem e_f_X9_write (h0 : P 0) (l0 : Nat) (l1 : Int32) (S : am_S) : Ex_ P (f_X9_write N l0 l1 S) := by
  unfold f_X9_write
  repeat' (first | assumption | with_reducible exact Ex_n | with_reducible exact Ex_l | with_reducible refine Ex_r ?_ | with_reducible refine Ex_i ?_ ?_ | with_reducible refine Ex_d (fun _ _ => ?_) | with_reducible refine Ex_v (fun _ => ?_) | with_reducible refine Ex_t ?_ (fun _ _ => ?_) | with_reducible apply e_f_X9_needPerson)
theorem e_f_X9_paint (h0 : P 0) (l0 : Nat) (l1 : Int32) (S : am_S) : Ex_ P (f_X9_paint N l0 l1 S) := by
  unfold f_X9_paint
  repeat' (first | assumption | with_reducible exact Ex_n | with_reducible exact Ex_l | with_reducible refine Ex_r ?_ | with_reducible refine Ex_i ?_ ?_ | with_reducible refine Ex_d (fun _ _ => ?_) | with_reducible refine Ex_v (fun _ => ?_) | with_reducible refine Ex_t ?_ (fun _ _ => ?_) | with_reducible apply e_f_X9_needBox)
theorem e_b_X9_turn_34  (l0 : Nat) (S : am_S) : Ex_ P (b_X9_turn_34 N l0 S) := by
  unfold b_X9_turn_34
  repeat' (first | assumption | with_reducible exact Ex_n | with_reducible exact Ex_l | with_reducible refine Ex_r ?_ | with_reducible refine Ex_i ?_ ?_ | with_reducible refine Ex_d (fun _ _ => ?_) | with_reducible refine Ex_v (fun _ => ?_) | with_reducible refine Ex_t ?_ (fun _ _ => ?_))
theorem e_b_X9_turn_15  (l0 : Nat) (l1 : Int32) (l2 : Int32) (S : am_S) : Ex_ P (b_X9_turn_15 N l0 l1 l2 S) := by
  unfold b_X9_turn_15
  repeat' (first | assumption | with_reducible exact Ex_n | with_reducible exact Ex_l | with_reducible refine Ex_r ?_ | with_reducible refine Ex_i ?_ ?_ | with_reducible refine Ex_d (fun _ _ => ?_) | with_reducible refine Ex_v (fun _ => ?_) | with_reducible refine Ex_t ?_ (fun _ _ => ?_) | with_reducible apply e_b_X9_turn_34)
theorem e_f_X9_turn (h0 : P 0) (l0 : Nat) (l1 : Int32) (l2 : Int32) (S : am_S) : Ex_ P (f_X9_turn N l0 l1 l2 S) := by
  unfold f_X9_turn
  repeat' (first | assumption | with_reducible exact Ex_n | with_reducible exact Ex_l | with_reducible refine Ex_r ?_ | with_reducible refine Ex_i ?_ ?_ | with_reducible refine Ex_d (fun _ _ => ?_) | with_reducible refine Ex_v (fun _ => ?_) | with_reducible refine Ex_t ?_ (fun _ _ => ?_) | with_reducible apply e_f_X9_needPerson | with_reducible apply e_b_X9_turn_15)
theorem e_b_X9_needWhat_9 (h0 : P 0) (S : am_S) : Ex_ P (b_X9_needWhat_9 N S) := by
  unfold b_X9_needWhat_9
  repeat' (first | assumption | with_reducible exact Ex_n | with_reducible exact Ex_l | with_reducible refine Ex_r ?_ | with_reducible refine Ex_i ?_ ?_ | with_reducible refine Ex_d (fun _ _ => ?_) | with_reducible refine Ex_v (fun _ => ?_) | with_reducible refine Ex_t ?_ (fun _ _ => ?_))
theorem e_f_X9_needWhat (h0 : P 0) (l0 : Int32) (l1 : Int32) (S : am_S) : Ex_ P (f_X9_needWhat N l0 l1 S) := by
  unfold f_X9_needWhat
  repeat' (first | assumption | with_reducible exact Ex_n | with_reducible exact Ex_l | with_reducible refine Ex_r ?_ | with_reducible refine Ex_i ?_ ?_ | with_reducible refine Ex_d (fun _ _ => ?_) | with_reducible refine Ex_v (fun _ => ?_) | with_reducible refine Ex_t ?_ (fun _ _ => ?_) | with_reducible apply e_b_X9_needWhat_9)
theorem e_b_X9_needRange_10 (h1 : P 1) (S : am_S) : Ex_ P (b_X9_needRange_10 N S) := by
  unfold b_X9_needRange_10
  repeat' (first | assumption | with_reducible exact Ex_n | with_reducible exact Ex_l | with_reducible refine Ex_r ?_ | with_reducible refine Ex_i ?_ ?_ | with_reducible refine Ex_d (fun _ _ => ?_) | with_reducible refine Ex_v (fun _ => ?_) | with_reducible refine Ex_t ?_ (fun _ _ => ?_))
theorem e_f_X9_needRange (h1 : P 1) (l0 : Int32) (l1 : Int32) (l2 : Int32) (S : am_S) : Ex_ P (f_X9_needRange N l0 l1 l2 S) := by
  unfold f_X9_needRange
  repeat' (first | assumption | with_reducible exact Ex_n | with_reducible exact Ex_l | with_reducible refine Ex_r ?_ | with_reducible refine Ex_i ?_ ?_ | with_reducible refine Ex_d (fun _ _ => ?_) | with_reducible refine Ex_v (fun _ => ?_) | with_reducible refine Ex_t ?_ (fun _ _ => ?_) | with_reducible apply e_b_X9_needRange_10)
theorem e_b_X9_then_46  (z0 : Int32) (S : am_S) : Ex_ P (b_X9_then_46 N z0 S) := by
  unfold b_X9_then_46
  repeat' (first | assumption | with_reducible exact Ex_n | with_reducible exact Ex_l | with_reducible refine Ex_r ?_ | with_reducible refine Ex_i ?_ ?_ | with_reducible refine Ex_d (fun _ _ => ?_) | with_reducible refine Ex_v (fun _ => ?_) | with_reducible refine Ex_t ?_ (fun _ _ => ?_))
theorem e_f_X9_then (h0 : P 0) (h1 : P 1) (l0 : Nat) (l1 : Int32) (l2 : Int32) (l3 : Int32) (S : am_S) : Ex_ P (f_X9_then N l0 l1 l2 l3 S) := by
  unfold f_X9_then
  repeat' (first | assumption | with_reducible exact Ex_n | with_reducible exact Ex_l | with_reducible refine Ex_r ?_ | with_reducible refine Ex_i ?_ ?_ | with_reducible refine Ex_d (fun _ _ => ?_) | with_reducible refine Ex_v (fun _ => ?_) | with_reducible refine Ex_t ?_ (fun _ _ => ?_) | with_reducible apply e_f_X9_needBox | with_reducible apply e_f_X9_needWhat | with_reducible apply e_f_X9_needRange | with_reducible apply e_b_X9_then_46)
theorem e_b_X9_later_46  (z0 : Int32) (S : am_S) : Ex_ P (b_X9_later_46 N z0 S) := by
  unfold b_X9_later_46
  repeat' (first | assumption | with_reducible exact Ex_n | with_reducible exact Ex_l | with_reducible refine Ex_r ?_ | with_reducible refine Ex_i ?_ ?_ | with_reducible refine Ex_d (fun _ _ => ?_) | with_reducible refine Ex_v (fun _ => ?_) | with_reducible refine Ex_t ?_ (fun _ _ => ?_))
theorem e_f_X9_later (h0 : P 0) (h1 : P 1) (l0 : Nat) (l1 : Int32) (l2 : Int32) (l3 : Int32) (S : am_S) : Ex_ P (f_X9_later N l0 l1 l2 l3 S) := by
  unfold f_X9_later
  repeat' (first | assumption | with_reducible exact Ex_n | with_reducible exact Ex_l | with_reducible refine Ex_r ?_ | with_reducible refine Ex_i ?_ ?_ | with_reducible refine Ex_d (fun _ _ => ?_) | with_reducible refine Ex_v (fun _ => ?_) | with_reducible refine Ex_t ?_ (fun _ _ => ?_) | with_reducible apply e_f_X9_needPerson | with_reducible apply e_f_X9_needWhat | with_reducible apply e_f_X9_needRange | with_reducible apply e_b_X9_later_46)
theorem e_b_X9_first_18  : ∀ n b0 b1 b2 b3, Ex_ P (b_X9_first_18 N n b0 b1 b2 b3) := by
  intro n
  induction n with
  | zero => intro b0 b1 b2 b3; unfold b_X9_first_18; exact Ex_n
  | succ n ih =>
    intro b0 b1 b2 b3
    unfold b_X9_first_18
    repeat' (first | assumption | with_reducible exact Ex_n | with_reducible exact Ex_l | with_reducible refine Ex_r ?_ | with_reducible refine Ex_i ?_ ?_ | with_reducible refine Ex_d (fun _ _ => ?_) | with_reducible refine Ex_v (fun _ => ?_) | with_reducible refine Ex_t ?_ (fun _ _ => ?_) | with_reducible apply ih)
theorem e_f_X9_first (h0 : P 0) (l0 : Nat) (l1 : Int32) (S : am_S) : Ex_ P (f_X9_first N l0 l1 S) := by
  unfold f_X9_first
  repeat' (first | assumption | with_reducible exact Ex_n | with_reducible exact Ex_l | with_reducible refine Ex_r ?_ | with_reducible refine Ex_i ?_ ?_ | with_reducible refine Ex_d (fun _ _ => ?_) | with_reducible refine Ex_v (fun _ => ?_) | with_reducible refine Ex_t ?_ (fun _ _ => ?_) | with_reducible apply e_f_X9_needPerson | with_reducible apply e_b_X9_first_18)
theorem e_b_X9_full_26  : ∀ n b0 b1 b2 b3 b4, Ex_ P (b_X9_full_26 N n b0 b1 b2 b3 b4) := by
  intro n
  induction n with
  | zero => intro b0 b1 b2 b3 b4; unfold b_X9_full_26; exact Ex_n
  | succ n ih =>
    intro b0 b1 b2 b3 b4
    unfold b_X9_full_26
    repeat' (first | assumption | with_reducible exact Ex_n | with_reducible exact Ex_l | with_reducible refine Ex_r ?_ | with_reducible refine Ex_i ?_ ?_ | with_reducible refine Ex_d (fun _ _ => ?_) | with_reducible refine Ex_v (fun _ => ?_) | with_reducible refine Ex_t ?_ (fun _ _ => ?_) | with_reducible apply ih)
theorem e_f_X9_full (h0 : P 0) (h1 : P 1) (l0 : Nat) (l1 : Int32) (l2 : Int32) (S : am_S) : Ex_ P (f_X9_full N l0 l1 l2 S) := by
  unfold f_X9_full
  repeat' (first | assumption | with_reducible exact Ex_n | with_reducible exact Ex_l | with_reducible refine Ex_r ?_ | with_reducible refine Ex_i ?_ ?_ | with_reducible refine Ex_d (fun _ _ => ?_) | with_reducible refine Ex_v (fun _ => ?_) | with_reducible refine Ex_t ?_ (fun _ _ => ?_) | with_reducible apply e_f_X9_needBox | with_reducible apply e_f_X9_needRange | with_reducible apply e_b_X9_full_26)
theorem e_f_X9_most (h0 : P 0) (h1 : P 1) (l0 : Nat) (l1 : Int32) (l2 : Int32) (S : am_S) : Ex_ P (f_X9_most N l0 l1 l2 S) := by
  unfold f_X9_most
  repeat' (first | assumption | with_reducible exact Ex_n | with_reducible exact Ex_l | with_reducible refine Ex_r ?_ | with_reducible refine Ex_i ?_ ?_ | with_reducible refine Ex_d (fun _ _ => ?_) | with_reducible refine Ex_v (fun _ => ?_) | with_reducible refine Ex_t ?_ (fun _ _ => ?_) | with_reducible apply e_f_X9_needWhat | with_reducible apply e_f_X9_needRange)
theorem e_b_X9_ring_32  (z0 : Int32) (S : am_S) : Ex_ P (b_X9_ring_32 N z0 S) := by
  unfold b_X9_ring_32
  repeat' (first | assumption | with_reducible exact Ex_n | with_reducible exact Ex_l | with_reducible refine Ex_r ?_ | with_reducible refine Ex_i ?_ ?_ | with_reducible refine Ex_d (fun _ _ => ?_) | with_reducible refine Ex_v (fun _ => ?_) | with_reducible refine Ex_t ?_ (fun _ _ => ?_))
theorem e_f_X9_ring (h0 : P 0) (l0 : Nat) (l1 : Int32) (S : am_S) : Ex_ P (f_X9_ring N l0 l1 S) := by
  unfold f_X9_ring
  repeat' (first | assumption | with_reducible exact Ex_n | with_reducible exact Ex_l | with_reducible refine Ex_r ?_ | with_reducible refine Ex_i ?_ ?_ | with_reducible refine Ex_d (fun _ _ => ?_) | with_reducible refine Ex_v (fun _ => ?_) | with_reducible refine Ex_t ?_ (fun _ _ => ?_) | with_reducible apply e_f_X9_needPerson | with_reducible apply e_b_X9_ring_32)
theorem e_f_X9_comesTo (h0 : P 0) (l0 : Nat) (l1 : Int32) (S : am_S) : Ex_ P (f_X9_comesTo N l0 l1 S) := by
  unfold f_X9_comesTo
  repeat' (first | assumption | with_reducible exact Ex_n | with_reducible exact Ex_l | with_reducible refine Ex_r ?_ | with_reducible refine Ex_i ?_ ?_ | with_reducible refine Ex_d (fun _ _ => ?_) | with_reducible refine Ex_v (fun _ => ?_) | with_reducible refine Ex_t ?_ (fun _ _ => ?_) | with_reducible apply e_f_X9_needPerson)
theorem e_f_X9_toCover (h1 : P 1) (l0 : Nat) (l1 : Int32) (S : am_S) : Ex_ P (f_X9_toCover N l0 l1 S) := by
  unfold f_X9_toCover
  repeat' (first | assumption | with_reducible exact Ex_n | with_reducible exact Ex_l | with_reducible refine Ex_r ?_ | with_reducible refine Ex_i ?_ ?_ | with_reducible refine Ex_d (fun _ _ => ?_) | with_reducible refine Ex_v (fun _ => ?_) | with_reducible refine Ex_t ?_ (fun _ _ => ?_) | with_reducible apply e_f_X9_needRange)
theorem e_b_X9_oneMore_31  (z0 : Int32) (S : am_S) : Ex_ P (b_X9_oneMore_31 N z0 S) := by
  unfold b_X9_oneMore_31
  repeat' (first | assumption | with_reducible exact Ex_n | with_reducible exact Ex_l | with_reducible refine Ex_r ?_ | with_reducible refine Ex_i ?_ ?_ | with_reducible refine Ex_d (fun _ _ => ?_) | with_reducible refine Ex_v (fun _ => ?_) | with_reducible refine Ex_t ?_ (fun _ _ => ?_))
theorem e_f_X9_oneMore (h0 : P 0) (l0 : Nat) (l1 : Int32) (S : am_S) : Ex_ P (f_X9_oneMore N l0 l1 S) := by
  unfold f_X9_oneMore
  repeat' (first | assumption | with_reducible exact Ex_n | with_reducible exact Ex_l | with_reducible refine Ex_r ?_ | with_reducible refine Ex_i ?_ ?_ | with_reducible refine Ex_d (fun _ _ => ?_) | with_reducible refine Ex_v (fun _ => ?_) | with_reducible refine Ex_t ?_ (fun _ _ => ?_) | with_reducible apply e_f_X9_needWhat | with_reducible apply e_b_X9_oneMore_31)
theorem e_b_X9_order_63  (z0 : Int32) (S : am_S) : Ex_ P (b_X9_order_63 N z0 S) := by
  unfold b_X9_order_63
  repeat' (first | assumption | with_reducible exact Ex_n | with_reducible exact Ex_l | with_reducible refine Ex_r ?_ | with_reducible refine Ex_i ?_ ?_ | with_reducible refine Ex_d (fun _ _ => ?_) | with_reducible refine Ex_v (fun _ => ?_) | with_reducible refine Ex_t ?_ (fun _ _ => ?_))
theorem e_b_X9_order_25  (l0 : Nat) (l1 : Int32) (S : am_S) : Ex_ P (b_X9_order_25 N l0 l1 S) := by
  unfold b_X9_order_25
  repeat' (first | assumption | with_reducible exact Ex_n | with_reducible exact Ex_l | with_reducible refine Ex_r ?_ | with_reducible refine Ex_i ?_ ?_ | with_reducible refine Ex_d (fun _ _ => ?_) | with_reducible refine Ex_v (fun _ => ?_) | with_reducible refine Ex_t ?_ (fun _ _ => ?_) | with_reducible apply e_b_X9_order_63)
theorem e_f_X9_order (h0 : P 0) (l0 : Nat) (l1 : Int32) (S : am_S) : Ex_ P (f_X9_order N l0 l1 S) := by
  unfold f_X9_order
  repeat' (first | assumption | with_reducible exact Ex_n | with_reducible exact Ex_l | with_reducible refine Ex_r ?_ | with_reducible refine Ex_i ?_ ?_ | with_reducible refine Ex_d (fun _ _ => ?_) | with_reducible refine Ex_v (fun _ => ?_) | with_reducible refine Ex_t ?_ (fun _ _ => ?_) | with_reducible apply e_b_X9_order_25 | with_reducible apply e_f_X9_needBox)
theorem e_b_X9_note_38  (l0 : Nat) (S : am_S) : Ex_ P (b_X9_note_38 N l0 S) := by
  unfold b_X9_note_38
  repeat' (first | assumption | with_reducible exact Ex_n | with_reducible exact Ex_l | with_reducible refine Ex_r ?_ | with_reducible refine Ex_i ?_ ?_ | with_reducible refine Ex_d (fun _ _ => ?_) | with_reducible refine Ex_v (fun _ => ?_) | with_reducible refine Ex_t ?_ (fun _ _ => ?_))
theorem e_f_X9_note (h0 : P 0) (l0 : Nat) (l1 : Int32) (l2 : Int32) (l3 : Int32) (S : am_S) : Ex_ P (f_X9_note N l0 l1 l2 l3 S) := by
  unfold f_X9_note
  repeat' (first | assumption | with_reducible exact Ex_n | with_reducible exact Ex_l | with_reducible refine Ex_r ?_ | with_reducible refine Ex_i ?_ ?_ | with_reducible refine Ex_d (fun _ _ => ?_) | with_reducible refine Ex_v (fun _ => ?_) | with_reducible refine Ex_t ?_ (fun _ _ => ?_) | with_reducible apply e_f_X9_needPerson | with_reducible apply e_b_X9_note_38)
theorem e_b_X9_thought_33  (z0 : Int32) (S : am_S) : Ex_ P (b_X9_thought_33 N z0 S) := by
  unfold b_X9_thought_33
  repeat' (first | assumption | with_reducible exact Ex_n | with_reducible exact Ex_l | with_reducible refine Ex_r ?_ | with_reducible refine Ex_i ?_ ?_ | with_reducible refine Ex_d (fun _ _ => ?_) | with_reducible refine Ex_v (fun _ => ?_) | with_reducible refine Ex_t ?_ (fun _ _ => ?_))
theorem e_b_X9_thought_107  {k41 : Nat → Int32 → Int32 → Int32 → Int32 → am_S → Option (am_T)} (gk41 : ∀ a0 a1 a2 a3 a4 a5, Ex_ P (k41 a0 a1 a2 a3 a4 a5)) {k56 : Nat → Int32 → Int32 → Int32 → Int32 → Int32 → am_S → Option (am_T)} (gk56 : ∀ a0 a1 a2 a3 a4 a5 a6, Ex_ P (k56 a0 a1 a2 a3 a4 a5 a6)) (l0 : Nat) (l1 : Int32) (l2 : Int32) (l3 : Int32) (l4 : Int32) (l5 : Int32) (S : am_S) : Ex_ P (b_X9_thought_107 N k41 k56 l0 l1 l2 l3 l4 l5 S) := by
  unfold b_X9_thought_107
  repeat' (first | assumption | with_reducible exact Ex_n | with_reducible exact Ex_l | with_reducible refine Ex_r ?_ | with_reducible refine Ex_i ?_ ?_ | with_reducible refine Ex_d (fun _ _ => ?_) | with_reducible refine Ex_v (fun _ => ?_) | with_reducible refine Ex_t ?_ (fun _ _ => ?_) | with_reducible apply gk41 | with_reducible apply gk56)
theorem e_b_X9_thought_106  {k41 : Nat → Int32 → Int32 → Int32 → Int32 → am_S → Option (am_T)} (gk41 : ∀ a0 a1 a2 a3 a4 a5, Ex_ P (k41 a0 a1 a2 a3 a4 a5)) {k56 : Nat → Int32 → Int32 → Int32 → Int32 → Int32 → am_S → Option (am_T)} (gk56 : ∀ a0 a1 a2 a3 a4 a5 a6, Ex_ P (k56 a0 a1 a2 a3 a4 a5 a6)) (l0 : Nat) (l1 : Int32) (l2 : Int32) (l4 : Int32) (l5 : Int32) (z0 : Int32) (S : am_S) : Ex_ P (b_X9_thought_106 N k41 k56 l0 l1 l2 l4 l5 z0 S) := by
  unfold b_X9_thought_106
  repeat' (first | assumption | with_reducible exact Ex_n | with_reducible exact Ex_l | with_reducible refine Ex_r ?_ | with_reducible refine Ex_i ?_ ?_ | with_reducible refine Ex_d (fun _ _ => ?_) | with_reducible refine Ex_v (fun _ => ?_) | with_reducible refine Ex_t ?_ (fun _ _ => ?_) | with_reducible apply gk41 | with_reducible apply gk56 | with_reducible apply e_b_X9_thought_107)
theorem e_b_X9_thought_56  {k41 : Nat → Int32 → Int32 → Int32 → Int32 → am_S → Option (am_T)} (gk41 : ∀ a0 a1 a2 a3 a4 a5, Ex_ P (k41 a0 a1 a2 a3 a4 a5)) : ∀ n b0 b1 b2 b3 b4 b5 b6, Ex_ P (b_X9_thought_56 N k41 n b0 b1 b2 b3 b4 b5 b6) := by
  intro n
  induction n with
  | zero => intro b0 b1 b2 b3 b4 b5 b6; unfold b_X9_thought_56; exact Ex_n
  | succ n ih =>
    intro b0 b1 b2 b3 b4 b5 b6
    unfold b_X9_thought_56
    repeat' (first | assumption | with_reducible exact Ex_n | with_reducible exact Ex_l | with_reducible refine Ex_r ?_ | with_reducible refine Ex_i ?_ ?_ | with_reducible refine Ex_d (fun _ _ => ?_) | with_reducible refine Ex_v (fun _ => ?_) | with_reducible refine Ex_t ?_ (fun _ _ => ?_) | with_reducible apply ih | with_reducible apply gk41 | with_reducible apply e_b_X9_thought_107 | with_reducible apply e_b_X9_thought_106)
theorem e_b_X9_thought_128  (z0 : Int32) (S : am_S) : Ex_ P (b_X9_thought_128 N z0 S) := by
  unfold b_X9_thought_128
  repeat' (first | assumption | with_reducible exact Ex_n | with_reducible exact Ex_l | with_reducible refine Ex_r ?_ | with_reducible refine Ex_i ?_ ?_ | with_reducible refine Ex_d (fun _ _ => ?_) | with_reducible refine Ex_v (fun _ => ?_) | with_reducible refine Ex_t ?_ (fun _ _ => ?_))
theorem e_b_X9_thought_41  : ∀ n b0 b1 b2 b3 b4 b5, Ex_ P (b_X9_thought_41 N n b0 b1 b2 b3 b4 b5) := by
  intro n
  induction n with
  | zero => intro b0 b1 b2 b3 b4 b5; unfold b_X9_thought_41; exact Ex_n
  | succ n ih =>
    intro b0 b1 b2 b3 b4 b5
    unfold b_X9_thought_41
    repeat' (first | assumption | with_reducible exact Ex_n | with_reducible exact Ex_l | with_reducible refine Ex_r ?_ | with_reducible refine Ex_i ?_ ?_ | with_reducible refine Ex_d (fun _ _ => ?_) | with_reducible refine Ex_v (fun _ => ?_) | with_reducible refine Ex_t ?_ (fun _ _ => ?_) | with_reducible apply ih | with_reducible apply e_b_X9_thought_128 | with_reducible apply e_b_X9_thought_56)
theorem e_f_X9_thought (h0 : P 0) (l0 : Nat) (l1 : Int32) (S : am_S) : Ex_ P (f_X9_thought N l0 l1 S) := by
  unfold f_X9_thought
  repeat' (first | assumption | with_reducible exact Ex_n | with_reducible exact Ex_l | with_reducible refine Ex_r ?_ | with_reducible refine Ex_i ?_ ?_ | with_reducible refine Ex_d (fun _ _ => ?_) | with_reducible refine Ex_v (fun _ => ?_) | with_reducible refine Ex_t ?_ (fun _ _ => ?_) | with_reducible apply e_f_X9_needWhat | with_reducible apply e_b_X9_thought_33 | with_reducible apply e_b_X9_thought_41)
theorem e_b_X9_ask_53  {k18 : Nat → Int32 → Int32 → Int32 → Int32 → Int32 → am_S → Option (am_T)} (gk18 : ∀ a0 a1 a2 a3 a4 a5 a6, Ex_ P (k18 a0 a1 a2 a3 a4 a5 a6)) (l0 : Nat) (l1 : Int32) (l2 : Int32) (l3 : Int32) (l4 : Int32) (l5 : Int32) (S : am_S) : Ex_ P (b_X9_ask_53 N k18 l0 l1 l2 l3 l4 l5 S) := by
  unfold b_X9_ask_53
  repeat' (first | assumption | with_reducible exact Ex_n | with_reducible exact Ex_l | with_reducible refine Ex_r ?_ | with_reducible refine Ex_i ?_ ?_ | with_reducible refine Ex_d (fun _ _ => ?_) | with_reducible refine Ex_v (fun _ => ?_) | with_reducible refine Ex_t ?_ (fun _ _ => ?_) | with_reducible apply gk18)
theorem e_b_X9_ask_69  (z0 : Int32) (S : am_S) : Ex_ P (b_X9_ask_69 N z0 S) := by
  unfold b_X9_ask_69
  repeat' (first | assumption | with_reducible exact Ex_n | with_reducible exact Ex_l | with_reducible refine Ex_r ?_ | with_reducible refine Ex_i ?_ ?_ | with_reducible refine Ex_d (fun _ _ => ?_) | with_reducible refine Ex_v (fun _ => ?_) | with_reducible refine Ex_t ?_ (fun _ _ => ?_))
theorem e_b_X9_ask_18  : ∀ n b0 b1 b2 b3 b4 b5 b6, Ex_ P (b_X9_ask_18 N n b0 b1 b2 b3 b4 b5 b6) := by
  intro n
  induction n with
  | zero => intro b0 b1 b2 b3 b4 b5 b6; unfold b_X9_ask_18; exact Ex_n
  | succ n ih =>
    intro b0 b1 b2 b3 b4 b5 b6
    unfold b_X9_ask_18
    repeat' (first | assumption | with_reducible exact Ex_n | with_reducible exact Ex_l | with_reducible refine Ex_r ?_ | with_reducible refine Ex_i ?_ ?_ | with_reducible refine Ex_d (fun _ _ => ?_) | with_reducible refine Ex_v (fun _ => ?_) | with_reducible refine Ex_t ?_ (fun _ _ => ?_) | with_reducible apply ih | with_reducible apply e_b_X9_ask_69 | with_reducible apply e_b_X9_ask_53)
theorem e_f_X9_ask (h0 : P 0) (l0 : Nat) (l1 : Int32) (S : am_S) : Ex_ P (f_X9_ask N l0 l1 S) := by
  unfold f_X9_ask
  repeat' (first | assumption | with_reducible exact Ex_n | with_reducible exact Ex_l | with_reducible refine Ex_r ?_ | with_reducible refine Ex_i ?_ ?_ | with_reducible refine Ex_d (fun _ _ => ?_) | with_reducible refine Ex_v (fun _ => ?_) | with_reducible refine Ex_t ?_ (fun _ _ => ?_) | with_reducible apply e_f_X9_needWhat | with_reducible apply e_b_X9_ask_18)
theorem e_b_X9_wetNights_75  {k33 : Nat → Int32 → Int32 → Int32 → Int32 → Int32 → Int32 → am_S → Option (am_T)} (gk33 : ∀ a0 a1 a2 a3 a4 a5 a6 a7, Ex_ P (k33 a0 a1 a2 a3 a4 a5 a6 a7)) (l0 : Nat) (l1 : Int32) (l2 : Int32) (l3 : Int32) (l4 : Int32) (l5 : Int32) (l6 : Int32) (S : am_S) : Ex_ P (b_X9_wetNights_75 N k33 l0 l1 l2 l3 l4 l5 l6 S) := by
  unfold b_X9_wetNights_75
  repeat' (first | assumption | with_reducible exact Ex_n | with_reducible exact Ex_l | with_reducible refine Ex_r ?_ | with_reducible refine Ex_i ?_ ?_ | with_reducible refine Ex_d (fun _ _ => ?_) | with_reducible refine Ex_v (fun _ => ?_) | with_reducible refine Ex_t ?_ (fun _ _ => ?_) | with_reducible apply gk33)
theorem e_b_X9_wetNights_33  : ∀ n b0 b1 b2 b3 b4 b5 b6 b7, Ex_ P (b_X9_wetNights_33 N n b0 b1 b2 b3 b4 b5 b6 b7) := by
  intro n
  induction n with
  | zero => intro b0 b1 b2 b3 b4 b5 b6 b7; unfold b_X9_wetNights_33; exact Ex_n
  | succ n ih =>
    intro b0 b1 b2 b3 b4 b5 b6 b7
    unfold b_X9_wetNights_33
    repeat' (first | assumption | with_reducible exact Ex_n | with_reducible exact Ex_l | with_reducible refine Ex_r ?_ | with_reducible refine Ex_i ?_ ?_ | with_reducible refine Ex_d (fun _ _ => ?_) | with_reducible refine Ex_v (fun _ => ?_) | with_reducible refine Ex_t ?_ (fun _ _ => ?_) | with_reducible apply ih | with_reducible apply e_b_X9_wetNights_75)
theorem e_f_X9_wetNights (h0 : P 0) (h1 : P 1) (l0 : Nat) (l1 : Int32) (l2 : Int32) (l3 : Int32) (l4 : Int32) (S : am_S) : Ex_ P (f_X9_wetNights N l0 l1 l2 l3 l4 S) := by
  unfold f_X9_wetNights
  repeat' (first | assumption | with_reducible exact Ex_n | with_reducible exact Ex_l | with_reducible refine Ex_r ?_ | with_reducible refine Ex_i ?_ ?_ | with_reducible refine Ex_d (fun _ _ => ?_) | with_reducible refine Ex_v (fun _ => ?_) | with_reducible refine Ex_t ?_ (fun _ _ => ?_) | with_reducible apply e_f_X9_needPerson | with_reducible apply e_f_X9_needRange | with_reducible apply e_b_X9_wetNights_33)
theorem e_b_X9_game_55  (S : am_S) : Ex_ P (b_X9_game_55 N S) := by
  unfold b_X9_game_55
  repeat' (first | assumption | with_reducible exact Ex_n | with_reducible exact Ex_l | with_reducible refine Ex_r ?_ | with_reducible refine Ex_i ?_ ?_ | with_reducible refine Ex_d (fun _ _ => ?_) | with_reducible refine Ex_v (fun _ => ?_) | with_reducible refine Ex_t ?_ (fun _ _ => ?_))
theorem e_b_X9_game_132  {k89 : Nat → Int32 → Int32 → Int32 → Int32 → am_S → Option (am_T)} (gk89 : ∀ a0 a1 a2 a3 a4 a5, Ex_ P (k89 a0 a1 a2 a3 a4 a5)) (l0 : Nat) (l3 : Int32) (l4 : Int32) (l5 : Int32) (l6 : Int32) (S : am_S) : Ex_ P (b_X9_game_132 N k89 l0 l3 l4 l5 l6 S) := by
  unfold b_X9_game_132
  repeat' (first | assumption | with_reducible exact Ex_n | with_reducible exact Ex_l | with_reducible refine Ex_r ?_ | with_reducible refine Ex_i ?_ ?_ | with_reducible refine Ex_d (fun _ _ => ?_) | with_reducible refine Ex_v (fun _ => ?_) | with_reducible refine Ex_t ?_ (fun _ _ => ?_) | with_reducible apply gk89)
theorem e_b_X9_game_130  {k89 : Nat → Int32 → Int32 → Int32 → Int32 → am_S → Option (am_T)} (gk89 : ∀ a0 a1 a2 a3 a4 a5, Ex_ P (k89 a0 a1 a2 a3 a4 a5)) (l0 : Nat) (l3 : Int32) (l4 : Int32) (l6 : Int32) (z0 : Int32) (S : am_S) : Ex_ P (b_X9_game_130 N k89 l0 l3 l4 l6 z0 S) := by
  unfold b_X9_game_130
  repeat' (first | assumption | with_reducible exact Ex_n | with_reducible exact Ex_l | with_reducible refine Ex_r ?_ | with_reducible refine Ex_i ?_ ?_ | with_reducible refine Ex_d (fun _ _ => ?_) | with_reducible refine Ex_v (fun _ => ?_) | with_reducible refine Ex_t ?_ (fun _ _ => ?_) | with_reducible apply gk89 | with_reducible apply e_b_X9_game_132)
theorem e_b_X9_game_149  (z0 : Int32) (S : am_S) : Ex_ P (b_X9_game_149 N z0 S) := by
  unfold b_X9_game_149
  repeat' (first | assumption | with_reducible exact Ex_n | with_reducible exact Ex_l | with_reducible refine Ex_r ?_ | with_reducible refine Ex_i ?_ ?_ | with_reducible refine Ex_d (fun _ _ => ?_) | with_reducible refine Ex_v (fun _ => ?_) | with_reducible refine Ex_t ?_ (fun _ _ => ?_))
theorem e_b_X9_game_89  : ∀ n b0 b1 b2 b3 b4 b5, Ex_ P (b_X9_game_89 N n b0 b1 b2 b3 b4 b5) := by
  intro n
  induction n with
  | zero => intro b0 b1 b2 b3 b4 b5; unfold b_X9_game_89; exact Ex_n
  | succ n ih =>
    intro b0 b1 b2 b3 b4 b5
    unfold b_X9_game_89
    repeat' (first | assumption | with_reducible exact Ex_n | with_reducible exact Ex_l | with_reducible refine Ex_r ?_ | with_reducible refine Ex_i ?_ ?_ | with_reducible refine Ex_d (fun _ _ => ?_) | with_reducible refine Ex_v (fun _ => ?_) | with_reducible refine Ex_t ?_ (fun _ _ => ?_) | with_reducible apply ih | with_reducible apply e_b_X9_game_149 | with_reducible apply e_b_X9_game_132 | with_reducible apply e_b_X9_game_130)
theorem e_b_X9_game_60  : ∀ n b0 b1 b2 b3 b4 b5, Ex_ P (b_X9_game_60 N n b0 b1 b2 b3 b4 b5) := by
  intro n
  induction n with
  | zero => intro b0 b1 b2 b3 b4 b5; unfold b_X9_game_60; exact Ex_n
  | succ n ih =>
    intro b0 b1 b2 b3 b4 b5
    unfold b_X9_game_60
    repeat' (first | assumption | with_reducible exact Ex_n | with_reducible exact Ex_l | with_reducible refine Ex_r ?_ | with_reducible refine Ex_i ?_ ?_ | with_reducible refine Ex_d (fun _ _ => ?_) | with_reducible refine Ex_v (fun _ => ?_) | with_reducible refine Ex_t ?_ (fun _ _ => ?_) | with_reducible apply ih | with_reducible apply e_b_X9_game_89)
theorem e_f_X9_game (h0 : P 0) (h1 : P 1) (l0 : Nat) (l1 : Int32) (l2 : Int32) (l3 : Int32) (S : am_S) : Ex_ P (f_X9_game N l0 l1 l2 l3 S) := by
  unfold f_X9_game
  repeat' (first | assumption | with_reducible exact Ex_n | with_reducible exact Ex_l | with_reducible refine Ex_r ?_ | with_reducible refine Ex_i ?_ ?_ | with_reducible refine Ex_d (fun _ _ => ?_) | with_reducible refine Ex_v (fun _ => ?_) | with_reducible refine Ex_t ?_ (fun _ _ => ?_) | with_reducible apply e_f_X9_needPerson | with_reducible apply e_f_X9_needWhat | with_reducible apply e_b_X9_game_55 | with_reducible apply e_b_X9_game_60)
theorem e_b_X9_years_59  {k31 : Nat → Int32 → Int32 → Int32 → am_S → Option (am_T)} (gk31 : ∀ a0 a1 a2 a3 a4, Ex_ P (k31 a0 a1 a2 a3 a4)) (l0 : Nat) (l2 : Int32) (l3 : Int32) (l4 : Int32) (l5 : Int32) (S : am_S) : Ex_ P (b_X9_years_59 N k31 l0 l2 l3 l4 l5 S) := by
  unfold b_X9_years_59
  repeat' (first | assumption | with_reducible exact Ex_n | with_reducible exact Ex_l | with_reducible refine Ex_r ?_ | with_reducible refine Ex_i ?_ ?_ | with_reducible refine Ex_d (fun _ _ => ?_) | with_reducible refine Ex_v (fun _ => ?_) | with_reducible refine Ex_t ?_ (fun _ _ => ?_) | with_reducible apply gk31)
theorem e_b_X9_years_31  : ∀ n b0 b1 b2 b3 b4, Ex_ P (b_X9_years_31 N n b0 b1 b2 b3 b4) := by
  intro n
  induction n with
  | zero => intro b0 b1 b2 b3 b4; unfold b_X9_years_31; exact Ex_n
  | succ n ih =>
    intro b0 b1 b2 b3 b4
    unfold b_X9_years_31
    repeat' (first | assumption | with_reducible exact Ex_n | with_reducible exact Ex_l | with_reducible refine Ex_r ?_ | with_reducible refine Ex_i ?_ ?_ | with_reducible refine Ex_d (fun _ _ => ?_) | with_reducible refine Ex_v (fun _ => ?_) | with_reducible refine Ex_t ?_ (fun _ _ => ?_) | with_reducible apply ih | with_reducible apply e_b_X9_years_59)
theorem e_f_X9_years (h0 : P 0) (h1 : P 1) (l0 : Nat) (l1 : Int32) (l2 : Int32) (l3 : Int32) (S : am_S) : Ex_ P (f_X9_years N l0 l1 l2 l3 S) := by
  unfold f_X9_years
  repeat' (first | assumption | with_reducible exact Ex_n | with_reducible exact Ex_l | with_reducible refine Ex_r ?_ | with_reducible refine Ex_i ?_ ?_ | with_reducible refine Ex_d (fun _ _ => ?_) | with_reducible refine Ex_v (fun _ => ?_) | with_reducible refine Ex_t ?_ (fun _ _ => ?_) | with_reducible apply e_f_X9_needWhat | with_reducible apply e_f_X9_needRange | with_reducible apply e_b_X9_years_31)
theorem e_b_X9_pale_25  : ∀ n b0 b1 b2 b3 b4, Ex_ P (b_X9_pale_25 N n b0 b1 b2 b3 b4) := by
  intro n
  induction n with
  | zero => intro b0 b1 b2 b3 b4; unfold b_X9_pale_25; exact Ex_n
  | succ n ih =>
    intro b0 b1 b2 b3 b4
    unfold b_X9_pale_25
    repeat' (first | assumption | with_reducible exact Ex_n | with_reducible exact Ex_l | with_reducible refine Ex_r ?_ | with_reducible refine Ex_i ?_ ?_ | with_reducible refine Ex_d (fun _ _ => ?_) | with_reducible refine Ex_v (fun _ => ?_) | with_reducible refine Ex_t ?_ (fun _ _ => ?_) | with_reducible apply ih)
theorem e_f_X9_pale (h0 : P 0) (h1 : P 1) (l0 : Nat) (l1 : Int32) (l2 : Int32) (S : am_S) : Ex_ P (f_X9_pale N l0 l1 l2 S) := by
  unfold f_X9_pale
  repeat' (first | assumption | with_reducible exact Ex_n | with_reducible exact Ex_l | with_reducible refine Ex_r ?_ | with_reducible refine Ex_i ?_ ?_ | with_reducible refine Ex_d (fun _ _ => ?_) | with_reducible refine Ex_v (fun _ => ?_) | with_reducible refine Ex_t ?_ (fun _ _ => ?_) | with_reducible apply e_f_X9_needBox | with_reducible apply e_f_X9_needRange | with_reducible apply e_b_X9_pale_25)
theorem e_b_X9_visits_47  {k17 : Nat → Int32 → Int32 → Int32 → Int32 → am_S → Option (am_T)} (gk17 : ∀ a0 a1 a2 a3 a4 a5, Ex_ P (k17 a0 a1 a2 a3 a4 a5)) (l0 : Nat) (l1 : Int32) (l2 : Int32) (l3 : Int32) (l4 : Int32) (S : am_S) : Ex_ P (b_X9_visits_47 N k17 l0 l1 l2 l3 l4 S) := by
  unfold b_X9_visits_47
  repeat' (first | assumption | with_reducible exact Ex_n | with_reducible exact Ex_l | with_reducible refine Ex_r ?_ | with_reducible refine Ex_i ?_ ?_ | with_reducible refine Ex_d (fun _ _ => ?_) | with_reducible refine Ex_v (fun _ => ?_) | with_reducible refine Ex_t ?_ (fun _ _ => ?_) | with_reducible apply gk17)
theorem e_b_X9_visits_17  : ∀ n b0 b1 b2 b3 b4 b5, Ex_ P (b_X9_visits_17 N n b0 b1 b2 b3 b4 b5) := by
  intro n
  induction n with
  | zero => intro b0 b1 b2 b3 b4 b5; unfold b_X9_visits_17; exact Ex_n
  | succ n ih =>
    intro b0 b1 b2 b3 b4 b5
    unfold b_X9_visits_17
    repeat' (first | assumption | with_reducible exact Ex_n | with_reducible exact Ex_l | with_reducible refine Ex_r ?_ | with_reducible refine Ex_i ?_ ?_ | with_reducible refine Ex_d (fun _ _ => ?_) | with_reducible refine Ex_v (fun _ => ?_) | with_reducible refine Ex_t ?_ (fun _ _ => ?_) | with_reducible apply ih | with_reducible apply e_b_X9_visits_47)
theorem e_f_X9_visits (h0 : P 0) (h1 : P 1) (l0 : Nat) (l1 : Int32) (l2 : Int32) (S : am_S) : Ex_ P (f_X9_visits N l0 l1 l2 S) := by
  unfold f_X9_visits
  repeat' (first | assumption | with_reducible exact Ex_n | with_reducible exact Ex_l | with_reducible refine Ex_r ?_ | with_reducible refine Ex_i ?_ ?_ | with_reducible refine Ex_d (fun _ _ => ?_) | with_reducible refine Ex_v (fun _ => ?_) | with_reducible refine Ex_t ?_ (fun _ _ => ?_) | with_reducible apply e_f_X9_needBox | with_reducible apply e_f_X9_needRange | with_reducible apply e_b_X9_visits_17)
theorem e_b_X9_steps_50  (S : am_S) : Ex_ P (b_X9_steps_50 N S) := by
  unfold b_X9_steps_50
  repeat' (first | assumption | with_reducible exact Ex_n | with_reducible exact Ex_l | with_reducible refine Ex_r ?_ | with_reducible refine Ex_i ?_ ?_ | with_reducible refine Ex_d (fun _ _ => ?_) | with_reducible refine Ex_v (fun _ => ?_) | with_reducible refine Ex_t ?_ (fun _ _ => ?_))
theorem e_b_X9_steps_15  : ∀ n b0 b1 b2 b3 b4, Ex_ P (b_X9_steps_15 N n b0 b1 b2 b3 b4) := by
  intro n
  induction n with
  | zero => intro b0 b1 b2 b3 b4; unfold b_X9_steps_15; exact Ex_n
  | succ n ih =>
    intro b0 b1 b2 b3 b4
    unfold b_X9_steps_15
    repeat' (first | assumption | with_reducible exact Ex_n | with_reducible exact Ex_l | with_reducible refine Ex_r ?_ | with_reducible refine Ex_i ?_ ?_ | with_reducible refine Ex_d (fun _ _ => ?_) | with_reducible refine Ex_v (fun _ => ?_) | with_reducible refine Ex_t ?_ (fun _ _ => ?_) | with_reducible apply ih | with_reducible apply e_b_X9_steps_50)
theorem e_f_X9_steps (h0 : P 0) (l0 : Nat) (l1 : Int32) (l2 : Int32) (S : am_S) : Ex_ P (f_X9_steps N l0 l1 l2 S) := by
  unfold f_X9_steps
  repeat' (first | assumption | with_reducible exact Ex_n | with_reducible exact Ex_l | with_reducible refine Ex_r ?_ | with_reducible refine Ex_i ?_ ?_ | with_reducible refine Ex_d (fun _ _ => ?_) | with_reducible refine Ex_v (fun _ => ?_) | with_reducible refine Ex_t ?_ (fun _ _ => ?_) | with_reducible apply e_f_X9_needPerson | with_reducible apply e_b_X9_steps_15)
theorem e_b_X9_quiet_80  {k31 : Nat → Int32 → Int32 → Int32 → Int32 → Int32 → am_S → Option (am_T)} (gk31 : ∀ a0 a1 a2 a3 a4 a5 a6, Ex_ P (k31 a0 a1 a2 a3 a4 a5 a6)) (l0 : Nat) (l1 : Int32) (l2 : Int32) (l3 : Int32) (l5 : Int32) (z0 : Int32) (S : am_S) : Ex_ P (b_X9_quiet_80 N k31 l0 l1 l2 l3 l5 z0 S) := by
  unfold b_X9_quiet_80
  repeat' (first | assumption | with_reducible exact Ex_n | with_reducible exact Ex_l | with_reducible refine Ex_r ?_ | with_reducible refine Ex_i ?_ ?_ | with_reducible refine Ex_d (fun _ _ => ?_) | with_reducible refine Ex_v (fun _ => ?_) | with_reducible refine Ex_t ?_ (fun _ _ => ?_) | with_reducible apply gk31)
theorem e_b_X9_quiet_31  : ∀ n b0 b1 b2 b3 b4 b5 b6, Ex_ P (b_X9_quiet_31 N n b0 b1 b2 b3 b4 b5 b6) := by
  intro n
  induction n with
  | zero => intro b0 b1 b2 b3 b4 b5 b6; unfold b_X9_quiet_31; exact Ex_n
  | succ n ih =>
    intro b0 b1 b2 b3 b4 b5 b6
    unfold b_X9_quiet_31
    repeat' (first | assumption | with_reducible exact Ex_n | with_reducible exact Ex_l | with_reducible refine Ex_r ?_ | with_reducible refine Ex_i ?_ ?_ | with_reducible refine Ex_d (fun _ _ => ?_) | with_reducible refine Ex_v (fun _ => ?_) | with_reducible refine Ex_t ?_ (fun _ _ => ?_) | with_reducible apply ih | with_reducible apply e_b_X9_quiet_80)
theorem e_f_X9_quiet (h0 : P 0) (h1 : P 1) (l0 : Nat) (l1 : Int32) (l2 : Int32) (S : am_S) : Ex_ P (f_X9_quiet N l0 l1 l2 S) := by
  unfold f_X9_quiet
  repeat' (first | assumption | with_reducible exact Ex_n | with_reducible exact Ex_l | with_reducible refine Ex_r ?_ | with_reducible refine Ex_i ?_ ?_ | with_reducible refine Ex_d (fun _ _ => ?_) | with_reducible refine Ex_v (fun _ => ?_) | with_reducible refine Ex_t ?_ (fun _ _ => ?_) | with_reducible apply e_f_X9_needPerson | with_reducible apply e_f_X9_needRange | with_reducible apply e_b_X9_quiet_31)
theorem e_b_X9_bestAt_74  {k20 : Nat → Int32 → Int32 → Int32 → Int32 → Int32 → am_S → Option (am_T)} (gk20 : ∀ a0 a1 a2 a3 a4 a5 a6, Ex_ P (k20 a0 a1 a2 a3 a4 a5 a6)) (l0 : Nat) (l1 : Int32) (l2 : Int32) (l3 : Int32) (l4 : Int32) (l5 : Int32) (S : am_S) : Ex_ P (b_X9_bestAt_74 N k20 l0 l1 l2 l3 l4 l5 S) := by
  unfold b_X9_bestAt_74
  repeat' (first | assumption | with_reducible exact Ex_n | with_reducible exact Ex_l | with_reducible refine Ex_r ?_ | with_reducible refine Ex_i ?_ ?_ | with_reducible refine Ex_d (fun _ _ => ?_) | with_reducible refine Ex_v (fun _ => ?_) | with_reducible refine Ex_t ?_ (fun _ _ => ?_) | with_reducible apply gk20)
theorem e_b_X9_bestAt_20  : ∀ n b0 b1 b2 b3 b4 b5 b6, Ex_ P (b_X9_bestAt_20 N n b0 b1 b2 b3 b4 b5 b6) := by
  intro n
  induction n with
  | zero => intro b0 b1 b2 b3 b4 b5 b6; unfold b_X9_bestAt_20; exact Ex_n
  | succ n ih =>
    intro b0 b1 b2 b3 b4 b5 b6
    unfold b_X9_bestAt_20
    repeat' (first | assumption | with_reducible exact Ex_n | with_reducible exact Ex_l | with_reducible refine Ex_r ?_ | with_reducible refine Ex_i ?_ ?_ | with_reducible refine Ex_d (fun _ _ => ?_) | with_reducible refine Ex_v (fun _ => ?_) | with_reducible refine Ex_t ?_ (fun _ _ => ?_) | with_reducible apply ih | with_reducible apply e_b_X9_bestAt_74)
theorem e_f_X9_bestAt (h0 : P 0) (h1 : P 1) (l0 : Nat) (l1 : Int32) (l2 : Int32) (S : am_S) : Ex_ P (f_X9_bestAt N l0 l1 l2 S) := by
  unfold f_X9_bestAt
  repeat' (first | assumption | with_reducible exact Ex_n | with_reducible exact Ex_l | with_reducible refine Ex_r ?_ | with_reducible refine Ex_i ?_ ?_ | with_reducible refine Ex_d (fun _ _ => ?_) | with_reducible refine Ex_v (fun _ => ?_) | with_reducible refine Ex_t ?_ (fun _ _ => ?_) | with_reducible apply e_f_X9_needPerson | with_reducible apply e_f_X9_needRange | with_reducible apply e_b_X9_bestAt_20)
theorem e_f_X9_reds (h1 : P 1) (l0 : Nat) (l1 : Int32) (S : am_S) : Ex_ P (f_X9_reds N l0 l1 S) := by
  unfold f_X9_reds
  repeat' (first | assumption | with_reducible exact Ex_n | with_reducible exact Ex_l | with_reducible refine Ex_r ?_ | with_reducible refine Ex_i ?_ ?_ | with_reducible refine Ex_d (fun _ _ => ?_) | with_reducible refine Ex_v (fun _ => ?_) | with_reducible refine Ex_t ?_ (fun _ _ => ?_) | with_reducible apply e_f_X9_needRange)
theorem e_b_X9_whose_52  {k12 : Nat → Int32 → Int32 → Int32 → Int32 → am_S → Option (am_T)} (gk12 : ∀ a0 a1 a2 a3 a4 a5, Ex_ P (k12 a0 a1 a2 a3 a4 a5)) (l0 : Nat) (l1 : Int32) (l2 : Int32) (l3 : Int32) (l4 : Int32) (S : am_S) : Ex_ P (b_X9_whose_52 N k12 l0 l1 l2 l3 l4 S) := by
  unfold b_X9_whose_52
  repeat' (first | assumption | with_reducible exact Ex_n | with_reducible exact Ex_l | with_reducible refine Ex_r ?_ | with_reducible refine Ex_i ?_ ?_ | with_reducible refine Ex_d (fun _ _ => ?_) | with_reducible refine Ex_v (fun _ => ?_) | with_reducible refine Ex_t ?_ (fun _ _ => ?_) | with_reducible apply gk12)
theorem e_b_X9_whose_12  : ∀ n b0 b1 b2 b3 b4 b5, Ex_ P (b_X9_whose_12 N n b0 b1 b2 b3 b4 b5) := by
  intro n
  induction n with
  | zero => intro b0 b1 b2 b3 b4 b5; unfold b_X9_whose_12; exact Ex_n
  | succ n ih =>
    intro b0 b1 b2 b3 b4 b5
    unfold b_X9_whose_12
    repeat' (first | assumption | with_reducible exact Ex_n | with_reducible exact Ex_l | with_reducible refine Ex_r ?_ | with_reducible refine Ex_i ?_ ?_ | with_reducible refine Ex_d (fun _ _ => ?_) | with_reducible refine Ex_v (fun _ => ?_) | with_reducible refine Ex_t ?_ (fun _ _ => ?_) | with_reducible apply ih | with_reducible apply e_b_X9_whose_52)
theorem e_f_X9_whose (h0 : P 0) (l0 : Nat) (l1 : Int32) (S : am_S) : Ex_ P (f_X9_whose N l0 l1 S) := by
  unfold f_X9_whose
  repeat' (first | assumption | with_reducible exact Ex_n | with_reducible exact Ex_l | with_reducible refine Ex_r ?_ | with_reducible refine Ex_i ?_ ?_ | with_reducible refine Ex_d (fun _ _ => ?_) | with_reducible refine Ex_v (fun _ => ?_) | with_reducible refine Ex_t ?_ (fun _ _ => ?_) | with_reducible apply e_f_X9_needBox | with_reducible apply e_b_X9_whose_12)
end
