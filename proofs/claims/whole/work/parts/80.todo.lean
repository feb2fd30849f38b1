-- the calls that are not yet proved
def same01 {α : Type} (T : (α → Prop) → Prop) (M : (α → Wd → Prop) → Prop) : Prop :=
  ∀ G : α → Prop, (∀ r, (∀ F : α → Wd → Prop, (∀ w2, Inv w2 → F r w2) → M F) → G r) → T G
def same10 {α : Type} (T : (α → Wd → Prop) → Prop) (M : Wd → (α → Prop) → Prop) : Prop :=
  ∀ G : α → Wd → Prop, (∀ r w1, Inv w1 → (∀ F : α → Prop, F r → M w1 F) → G r w1) → T G
theorem op_run {w : Wd} (hI : Inv w)  : same1 (cf_T_run  w) (cf_M_run) := by
  sorry
theorem op_step {w : Wd} (hI : Inv w) (a0 : Int32) : same1 (cf_T_step a0 w) (cf_M_step a0) := by
  sorry
theorem op_jump {w : Wd} (hI : Inv w) (a0 : Int32) : same1 (cf_T_jump a0 w) (cf_M_jump a0) := by
  sorry
theorem op_poly {w : Wd} (hI : Inv w) (a0 : Int32) (a1 : Int32) : same1 (cf_T_poly a0 a1 w) (cf_M_poly a0 a1) := by
  sorry
theorem op_factor {w : Wd} (hI : Inv w) (a0 : Int32) (a1 : Int32) : same1 (cf_T_factor a0 a1 w) (cf_M_factor a0 a1) := by
  sorry
theorem op_ofDegree {w : Wd} (hI : Inv w) (a0 : Int32) (a1 : Int32) : same1 (cf_T_ofDegree a0 a1 w) (cf_M_ofDegree a0 a1) := by
  sorry
theorem op_order {w : Wd} (hI : Inv w) (a0 : Int32) : same1 (cf_T_order a0 w) (cf_M_order a0) := by
  sorry
theorem op_swan {w : Wd} (hI : Inv w) (a0 : Int32) (a1 : Int32) : same0 (cf_T_swan a0 a1) (cf_M_swan a0 a1) := by
  sorry
theorem op_evens {w : Wd} (hI : Inv w) (a0 : Int32) : same0 (cf_T_evens a0) (cf_M_evens a0) := by
  sorry
theorem op_multiple {w : Wd} (hI : Inv w) (a0 : Int32) (a1 : Int32) : same1 (cf_T_multiple a0 a1 w) (cf_M_multiple a0 a1) := by
  sorry
theorem op_shortest {w : Wd} (hI : Inv w) (a0 : Int64) (a1 : Int32) (a2 : Int32) : same01 (cf_T_shortest a0 a1 a2) (cf_M_shortest a0 a1 a2 w) := by
  sorry
theorem op_trinomial {w : Wd} (hI : Inv w) (a0 : Int32) (a1 : Int32) (a2 : Int32) : same1 (cf_T_trinomial a0 a1 a2 w) (cf_M_trinomial a0 a1 a2) := by
  sorry
theorem op_least {w : Wd} (hI : Inv w) (a0 : Int32) (a1 : Int32) : same1 (cf_T_least a0 a1 w) (cf_M_least a0 a1) := by
  sorry
theorem op_many {w : Wd} (hI : Inv w) (a0 : Int32) (a1 : Int32) : same1 (cf_T_many a0 a1 w) (cf_M_many a0 a1) := by
  sorry
theorem op_stays {w : Wd} (hI : Inv w) (a0 : Int32) (a1 : Int32) (a2 : Int32) : same1 (cf_T_stays a0 a1 a2 w) (cf_M_stays a0 a1 a2) := by
  sorry
theorem op_bare {w : Wd} (hI : Inv w) (a0 : Int32) : same1 (cf_T_bare a0 w) (cf_M_bare a0) := by
  sorry
theorem op_minimal {w : Wd} (hI : Inv w) (a0 : Int32) (a1 : Int32) : same1 (cf_T_minimal a0 a1 w) (cf_M_minimal a0 a1) := by
  sorry
theorem op_trace {w : Wd} (hI : Inv w) (a0 : Int32) (a1 : Int32) : same01 (cf_T_trace a0 a1 w) (cf_M_trace a0 a1 w) := by
  sorry
theorem op_conjugates {w : Wd} (hI : Inv w) (a0 : Int32) (a1 : Int32) : same01 (cf_T_conjugates a0 a1 w) (cf_M_conjugates a0 a1 w) := by
  sorry
theorem op_log {w : Wd} (hI : Inv w) (a0 : Int32) (a1 : Int32) (a2 : Int32) : same1 (cf_T_log a0 a1 a2 w) (cf_M_log a0 a1 a2) := by
  sorry
theorem op_roots {w : Wd} (hI : Inv w) (a0 : Int32) (a1 : Int32) : same01 (cf_T_roots a0 a1 w) (cf_M_roots a0 a1 w) := by
  sorry
theorem op_shift {w : Wd} (hI : Inv w) (a0 : Int32) : same1 (cf_T_shift a0 w) (cf_M_shift a0) := by
  sorry
theorem op_letter {w : Wd} (hI : Inv w) (a0 : Int32) (a1 : Int32) : same1 (cf_T_letter a0 a1 w) (cf_M_letter a0 a1) := by
  sorry
theorem op_spell {w : Wd} (hI : Inv w) (a0 : Int32) (a1 : Int32) : same1 (cf_T_spell a0 a1 w) (cf_M_spell a0 a1) := by
  sorry
theorem op_next {w : Wd} (hI : Inv w) (a0 : Int32) (a1 : Int32) : same1 (cf_T_next a0 a1 w) (cf_M_next a0 a1) := by
  sorry
theorem op_divisor {w : Wd} (hI : Inv w) (a0 : Int32) (a1 : Int32) : same1 (cf_T_divisor a0 a1 w) (cf_M_divisor a0 a1) := by
  sorry
theorem op_couples {w : Wd} (hI : Inv w) (a0 : Int32) : same1 (cf_T_couples a0 w) (cf_M_couples a0) := by
  sorry
theorem op_mirror {w : Wd} (hI : Inv w) (a0 : Int32) (a1 : Int32) : same0 (cf_T_mirror a0 a1 w) (cf_M_mirror a0 a1 w) := by
  sorry
theorem op_akin {w : Wd} (hI : Inv w) (a0 : Int32) (a1 : Int32) : same1 (cf_T_akin a0 a1 w) (cf_M_akin a0 a1) := by
  sorry
theorem op_count {w : Wd} (hI : Inv w) (a0 : Int32) : same01 (cf_T_count a0 w) (cf_M_count a0 w) := by
  sorry
