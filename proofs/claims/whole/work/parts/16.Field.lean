-- bytecode as predicates, by program (wip/whole/gen/extract.py)
theorem mi_Field_unlikeConjugates : ay_MI y_Field_unlikeConjugates prog_4_method_2_code 8 (some FieldType.int) 2 := ⟨wd_1004, wd_8, by decide +kernel, by decide +kernel, by decide⟩
theorem mi_Field_traceOf : ay_MI y_Field_traceOf prog_4_method_3_code 10 (some FieldType.int) 2 := ⟨wd_1014, wd_8, by decide +kernel, by decide +kernel, by decide⟩
theorem mi_Field_leastPoly : ay_MI y_Field_leastPoly prog_4_method_4_code 11 (some FieldType.long) 2 := ⟨wd_1001, wd_8, by decide +kernel, by decide +kernel, by decide⟩
theorem mi_Field_findPower : ay_MI y_Field_findPower prog_4_method_7_code 4 (some FieldType.int) 1 := ⟨wd_1034, wd_8, by decide +kernel, by decide +kernel, by decide⟩
theorem mi_Field_logarithm : ay_MI y_Field_logarithm prog_4_method_5_code 15 (some FieldType.long) 3 := ⟨wd_1028, wd_8, by decide +kernel, by decide +kernel, by decide⟩
theorem mi_Field_countRoots : ay_MI y_Field_countRoots prog_4_method_6_code 6 (some FieldType.int) 2 := ⟨wd_1043, wd_8, by decide +kernel, by decide +kernel, by decide⟩
theorem d_Field_unlikeConjugates_0 : decode prog_4_method_2_code 0 = .ok (.iconst 1, 1) := by decide +kernel
theorem d_Field_unlikeConjugates_1 : decode prog_4_method_2_code 1 = .ok (.istore 4, 2) := by decide +kernel
theorem d_Field_unlikeConjugates_3 : decode prog_4_method_2_code 3 = .ok (.lload_n 0, 1) := by decide +kernel
theorem d_Field_unlikeConjugates_4 : decode prog_4_method_2_code 4 = .ok (.lload_n 2, 1) := by decide +kernel
theorem d_Field_unlikeConjugates_5 : decode prog_4_method_2_code 5 = .ok (.invokestatic 20, 3) := by decide +kernel
theorem d_Field_unlikeConjugates_8 : decode prog_4_method_2_code 8 = .ok (.lstore 5, 2) := by decide +kernel
theorem d_Field_unlikeConjugates_10 : decode prog_4_method_2_code 10 = .ok (.iconst 0, 1) := by decide +kernel
theorem d_Field_unlikeConjugates_11 : decode prog_4_method_2_code 11 = .ok (.istore 7, 2) := by decide +kernel
theorem d_Field_unlikeConjugates_13 : decode prog_4_method_2_code 13 = .ok (.iload 7, 2) := by decide +kernel
theorem d_Field_unlikeConjugates_15 : decode prog_4_method_2_code 15 = .ok (.bipush 31, 2) := by decide +kernel
theorem d_Field_unlikeConjugates_17 : decode prog_4_method_2_code 17 = .ok (.if_icmp .ge 27, 3) := by decide +kernel
theorem d_Field_unlikeConjugates_20 : decode prog_4_method_2_code 20 = .ok (.lload 5, 2) := by decide +kernel
theorem d_Field_unlikeConjugates_22 : decode prog_4_method_2_code 22 = .ok (.lload_n 0, 1) := by decide +kernel
theorem d_Field_unlikeConjugates_23 : decode prog_4_method_2_code 23 = .ok (.lcmp, 1) := by decide +kernel
theorem d_Field_unlikeConjugates_24 : decode prog_4_method_2_code 24 = .ok (.ifCond .eq 20, 3) := by decide +kernel
theorem d_Field_unlikeConjugates_27 : decode prog_4_method_2_code 27 = .ok (.lload 5, 2) := by decide +kernel
theorem d_Field_unlikeConjugates_29 : decode prog_4_method_2_code 29 = .ok (.lload_n 2, 1) := by decide +kernel
theorem d_Field_unlikeConjugates_30 : decode prog_4_method_2_code 30 = .ok (.invokestatic 20, 3) := by decide +kernel
theorem d_Field_unlikeConjugates_33 : decode prog_4_method_2_code 33 = .ok (.lstore 5, 2) := by decide +kernel
theorem d_Field_unlikeConjugates_35 : decode prog_4_method_2_code 35 = .ok (.iinc 4 1, 3) := by decide +kernel
theorem d_Field_unlikeConjugates_38 : decode prog_4_method_2_code 38 = .ok (.iinc 7 1, 3) := by decide +kernel
theorem d_Field_unlikeConjugates_41 : decode prog_4_method_2_code 41 = .ok (.goto (-28), 3) := by decide +kernel
theorem d_Field_unlikeConjugates_44 : decode prog_4_method_2_code 44 = .ok (.iload 4, 2) := by decide +kernel
theorem d_Field_unlikeConjugates_46 : decode prog_4_method_2_code 46 = .ok (.ireturn, 1) := by decide +kernel
def cf_Field_unlikeConjugates_B13  (K13 : Int64 → Int64 → Int32 → Int64 → Int32 → Prop) (P : Int32 → Prop) (x0 : Int64) (x2 : Int64) (x4 : Int32) (x5 : Int64) (x7 : Int32)  : Prop :=
  (((31 : Int32) ≤ x7 → P x4) ∧ (¬ (31 : Int32) ≤ x7 → ((x5 = x0 → P x4) ∧ (¬ x5 = x0 → cf_Polys_squareBy x5 x2 (fun r2 => ∀ v3, v3 = x4 + (1 : Int32) → ∀ v4, v4 = x7 + (1 : Int32) → K13 x0 x2 v3 r2 v4)))))
def cf_Field_unlikeConjugates_L13   (P : Int32 → Prop) : Nat → Int64 → Int64 → Int32 → Int64 → Int32 → Prop
  | 0 => fun x0 x2 x4 x5 x7 => False
  | n + 1 => fun x0 x2 x4 x5 x7 => cf_Field_unlikeConjugates_B13 (cf_Field_unlikeConjugates_L13 P n) P x0 x2 x4 x5 x7
def cf_Field_unlikeConjugates (a0 : Int64) (a1 : Int64) (P : Int32 → Prop) : Prop :=
  cf_Polys_squareBy a0 a1 (fun r1 => ∃ n, cf_Field_unlikeConjugates_L13 P n a0 a1 (1 : Int32) r1 (0 : Int32))
theorem cf_Field_unlikeConjugates_B13_ok {g : ayG} {d : Nat} (hd : 4 ≤ d)   (w : Wd) (K13 : Int64 → Int64 → Int32 → Int64 → Int32 → Prop) (P : Int32 → Prop) (Q : Option Value → Wd → Prop) (hQ : ∀ x, P x → Q (some (.int x)) w) (hK13 : ∀ (x0 : Int64) (x2 : Int64) (x4 : Int32) (x5 : Int64) (x7 : Int32), (K13 x0 x2 x4 x5 x7 → wp g (fun _ => True) y_Field_unlikeConjugates prog_4_method_2_code 8 (some FieldType.int) d 13 [(0, .long x0), (2, .long x2), (4, .int x4), (5, .long x5), (7, .int x7)] [] w Q)) (x0 : Int64) (x2 : Int64) (x4 : Int32) (x5 : Int64) (x7 : Int32) (h : cf_Field_unlikeConjugates_B13 K13 P x0 x2 x4 x5 x7) : wp g (fun _ => True) y_Field_unlikeConjugates prog_4_method_2_code 8 (some FieldType.int) d 13 [(0, .long x0), (2, .long x2), (4, .int x4), (5, .long x5), (7, .int x7)] [] w Q := by
  unfold cf_Field_unlikeConjugates_B13 at h
  refine am_iload d_Field_unlikeConjugates_13 4 rfl ?_
  refine am_bipush (v := 31) d_Field_unlikeConjugates_15 rfl ?_
  refine am_icmp_ge (tgt := 44) d_Field_unlikeConjugates_17 (by decide) (fun c17 => ?_) (fun c17 => ?_)
  · have h := h.1 c17
    refine am_iload d_Field_unlikeConjugates_44 2 rfl ?_
    exact am_ireturn d_Field_unlikeConjugates_46 rfl rfl (hQ x4 h)
  · have h := h.2 c17
    refine am_lload d_Field_unlikeConjugates_20 3 rfl ?_
    refine am_lload_n d_Field_unlikeConjugates_22 0 rfl ?_
    refine am_lif_eq (tgt := 44) d_Field_unlikeConjugates_23 d_Field_unlikeConjugates_24 (by decide) (fun c23 => ?_) (fun c23 => ?_)
    · have h := h.1 c23
      refine am_iload d_Field_unlikeConjugates_44 2 rfl ?_
      exact am_ireturn d_Field_unlikeConjugates_46 rfl rfl (hQ x4 h)
    · have h := h.2 c23
      refine am_lload d_Field_unlikeConjugates_27 3 rfl ?_
      refine am_lload_n d_Field_unlikeConjugates_29 1 rfl ?_
      refine am_callS (d2 := d - 1) [.long x5, .long x2] d_Field_unlikeConjugates_30 mi_Polys_squareBy wd_1005 wd_649 (by omega) rfl rfl (Nat.le_of_ble_eq_true rfl) ?_
      refine Call.post ?_ (cf_Polys_squareBy_ok (by omega) x5 x2  w _ h)
      rintro _ _ ⟨r2, rfl, rfl, h⟩
      show wp g (fun _ => True) y_Field_unlikeConjugates prog_4_method_2_code 8 (some FieldType.int) d 33 [(0, .long x0), (2, .long x2), (4, .int x4), (5, .long x5), (7, .int x7)] [.long r2] w Q
      refine am_lstore (l' := [(5, .long r2), (0, .long x0), (2, .long x2), (4, .int x4), (7, .int x7)]) d_Field_unlikeConjugates_33 (by decide) rfl ?_
      obtain ⟨v3, ev3⟩ : ∃ z : Int32, z = x4 + (1 : Int32) := ⟨_, rfl⟩
      have h := h v3 ev3
      refine am_iinc (v := v3) (l' := [(4, .int v3), (5, .long r2), (0, .long x0), (2, .long x2), (7, .int x7)]) d_Field_unlikeConjugates_35 3 rfl (by rw [ev3]; rfl) (by decide) rfl ?_
      obtain ⟨v4, ev4⟩ : ∃ z : Int32, z = x7 + (1 : Int32) := ⟨_, rfl⟩
      have h := h v4 ev4
      refine am_iinc (v := v4) (l' := [(7, .int v4), (4, .int v3), (5, .long r2), (0, .long x0), (2, .long x2)]) d_Field_unlikeConjugates_38 4 rfl (by rw [ev4]; rfl) (by decide) rfl ?_
      refine am_goto (tgt := 13) d_Field_unlikeConjugates_41 (by decide) ?_
      refine am_sub [3, 4, 1, 2, 0] rfl ?_
      exact hK13 x0 x2 v3 r2 v4 h
theorem cf_Field_unlikeConjugates_L13_ok {g : ayG} {d : Nat} (hd : 4 ≤ d)   (w : Wd)  (P : Int32 → Prop) (Q : Option Value → Wd → Prop) (hQ : ∀ x, P x → Q (some (.int x)) w)  : ∀ (n : Nat) (x0 : Int64) (x2 : Int64) (x4 : Int32) (x5 : Int64) (x7 : Int32) (h : cf_Field_unlikeConjugates_L13 P n x0 x2 x4 x5 x7), wp g (fun _ => True) y_Field_unlikeConjugates prog_4_method_2_code 8 (some FieldType.int) d 13 [(0, .long x0), (2, .long x2), (4, .int x4), (5, .long x5), (7, .int x7)] [] w Q
  | 0, x0, x2, x4, x5, x7, h => False.elim h
  | n + 1, x0, x2, x4, x5, x7, h => cf_Field_unlikeConjugates_B13_ok hd   w (cf_Field_unlikeConjugates_L13 P n) P Q hQ (fun x0 x2 x4 x5 x7 h => cf_Field_unlikeConjugates_L13_ok hd   w  P Q hQ  n x0 x2 x4 x5 x7 h) x0 x2 x4 x5 x7 h
theorem cf_Field_unlikeConjugates_ok {g : ayG} {d : Nat} (hd : 4 ≤ d) (a0 : Int64) (a1 : Int64)  (w : Wd) (P : Int32 → Prop) (h : cf_Field_unlikeConjugates a0 a1 P) : Call g y_Field_unlikeConjugates prog_4_method_2_code 8 (some FieldType.int) d [.long a0, .long a1] w (fun (r : Option Value) (w2 : Wd) => ∃ x, r = some (.int x) ∧ w = w2 ∧ P x) := by
  unfold cf_Field_unlikeConjugates at h
  refine am_enter mi_Field_unlikeConjugates (Nat.le_of_ble_eq_true rfl) ?_
  have hQ : ∀ x, P x → (fun (r : Option Value) (w2 : Wd) => ∃ x, r = some (.int x) ∧ w = w2 ∧ P x) (some (.int x)) w := fun x h => ⟨x, rfl, rfl, h⟩
  generalize (fun (r : Option Value) (w2 : Wd) => ∃ x, r = some (.int x) ∧ w = w2 ∧ P x) = Q at hQ ⊢
  show wp g (fun _ => True) y_Field_unlikeConjugates prog_4_method_2_code 8 (some FieldType.int) d 0 [(0, .long a0), (2, .long a1)] [] w Q
  refine am_iconst (v := 1) d_Field_unlikeConjugates_0 rfl ?_
  refine am_istore (l' := [(4, .int (1 : Int32)), (0, .long a0), (2, .long a1)]) d_Field_unlikeConjugates_1 (by decide) rfl ?_
  refine am_lload_n d_Field_unlikeConjugates_3 1 rfl ?_
  refine am_lload_n d_Field_unlikeConjugates_4 2 rfl ?_
  refine am_callS (d2 := d - 1) [.long a0, .long a1] d_Field_unlikeConjugates_5 mi_Polys_squareBy wd_1005 wd_649 (by omega) rfl rfl (Nat.le_of_ble_eq_true rfl) ?_
  refine Call.post ?_ (cf_Polys_squareBy_ok (by omega) a0 a1  w _ h)
  rintro _ _ ⟨r1, rfl, rfl, h⟩
  show wp g (fun _ => True) y_Field_unlikeConjugates prog_4_method_2_code 8 (some FieldType.int) d 8 [(4, .int (1 : Int32)), (0, .long a0), (2, .long a1)] [.long r1] w Q
  refine am_lstore (l' := [(5, .long r1), (4, .int (1 : Int32)), (0, .long a0), (2, .long a1)]) d_Field_unlikeConjugates_8 (by decide) rfl ?_
  refine am_iconst (v := 0) d_Field_unlikeConjugates_10 rfl ?_
  refine am_istore (l' := [(7, .int (0 : Int32)), (5, .long r1), (4, .int (1 : Int32)), (0, .long a0), (2, .long a1)]) d_Field_unlikeConjugates_11 (by decide) rfl ?_
  refine am_sub [3, 4, 2, 1, 0] rfl ?_
  obtain ⟨n, h⟩ := h
  exact cf_Field_unlikeConjugates_L13_ok (by omega)   w  P Q hQ  n a0 a1 (1 : Int32) r1 (0 : Int32) h
theorem d_Field_traceOf_0 : decode prog_4_method_3_code 0 = .ok (.lload_n 2, 1) := by decide +kernel
theorem d_Field_traceOf_1 : decode prog_4_method_3_code 1 = .ok (.invokestatic 24, 3) := by decide +kernel
theorem d_Field_traceOf_4 : decode prog_4_method_3_code 4 = .ok (.istore 4, 2) := by decide +kernel
theorem d_Field_traceOf_6 : decode prog_4_method_3_code 6 = .ok (.lconst 0, 1) := by decide +kernel
theorem d_Field_traceOf_7 : decode prog_4_method_3_code 7 = .ok (.lstore 5, 2) := by decide +kernel
theorem d_Field_traceOf_9 : decode prog_4_method_3_code 9 = .ok (.lload_n 0, 1) := by decide +kernel
theorem d_Field_traceOf_10 : decode prog_4_method_3_code 10 = .ok (.lstore 7, 2) := by decide +kernel
theorem d_Field_traceOf_12 : decode prog_4_method_3_code 12 = .ok (.iconst 0, 1) := by decide +kernel
theorem d_Field_traceOf_13 : decode prog_4_method_3_code 13 = .ok (.istore 9, 2) := by decide +kernel
theorem d_Field_traceOf_15 : decode prog_4_method_3_code 15 = .ok (.iload 9, 2) := by decide +kernel
theorem d_Field_traceOf_17 : decode prog_4_method_3_code 17 = .ok (.iload 4, 2) := by decide +kernel
theorem d_Field_traceOf_19 : decode prog_4_method_3_code 19 = .ok (.if_icmp .ge 24, 3) := by decide +kernel
theorem d_Field_traceOf_22 : decode prog_4_method_3_code 22 = .ok (.lload 5, 2) := by decide +kernel
theorem d_Field_traceOf_24 : decode prog_4_method_3_code 24 = .ok (.lload 7, 2) := by decide +kernel
theorem d_Field_traceOf_26 : decode prog_4_method_3_code 26 = .ok (.lxor, 1) := by decide +kernel
theorem d_Field_traceOf_27 : decode prog_4_method_3_code 27 = .ok (.lstore 5, 2) := by decide +kernel
theorem d_Field_traceOf_29 : decode prog_4_method_3_code 29 = .ok (.lload 7, 2) := by decide +kernel
theorem d_Field_traceOf_31 : decode prog_4_method_3_code 31 = .ok (.lload_n 2, 1) := by decide +kernel
theorem d_Field_traceOf_32 : decode prog_4_method_3_code 32 = .ok (.invokestatic 20, 3) := by decide +kernel
theorem d_Field_traceOf_35 : decode prog_4_method_3_code 35 = .ok (.lstore 7, 2) := by decide +kernel
theorem d_Field_traceOf_37 : decode prog_4_method_3_code 37 = .ok (.iinc 9 1, 3) := by decide +kernel
theorem d_Field_traceOf_40 : decode prog_4_method_3_code 40 = .ok (.goto (-25), 3) := by decide +kernel
theorem d_Field_traceOf_43 : decode prog_4_method_3_code 43 = .ok (.lload 5, 2) := by decide +kernel
theorem d_Field_traceOf_45 : decode prog_4_method_3_code 45 = .ok (.l2i, 1) := by decide +kernel
theorem d_Field_traceOf_46 : decode prog_4_method_3_code 46 = .ok (.ireturn, 1) := by decide +kernel
def cf_Field_traceOf_B15  (K15 : Int64 → Int32 → Int64 → Int64 → Int32 → Prop) (P : Int32 → Prop) (x2 : Int64) (x4 : Int32) (x5 : Int64) (x7 : Int64) (x9 : Int32)  : Prop :=
  ((x4 ≤ x9 → P x5.toInt32) ∧ (¬ x4 ≤ x9 → ∀ v2, v2 = x5 ^^^ x7 → cf_Polys_squareBy x7 x2 (fun r3 => ∀ v4, v4 = x9 + (1 : Int32) → K15 x2 x4 v2 r3 v4)))
def cf_Field_traceOf_L15   (P : Int32 → Prop) : Nat → Int64 → Int32 → Int64 → Int64 → Int32 → Prop
  | 0 => fun x2 x4 x5 x7 x9 => False
  | n + 1 => fun x2 x4 x5 x7 x9 => cf_Field_traceOf_B15 (cf_Field_traceOf_L15 P n) P x2 x4 x5 x7 x9
def cf_Field_traceOf (a0 : Int64) (a1 : Int64) (P : Int32 → Prop) : Prop :=
  cf_Polys_degree a1 (fun r1 => ∃ n, cf_Field_traceOf_L15 P n a1 r1 (0 : Int64) a0 (0 : Int32))
theorem cf_Field_traceOf_B15_ok {g : ayG} {d : Nat} (hd : 4 ≤ d)   (w : Wd) (K15 : Int64 → Int32 → Int64 → Int64 → Int32 → Prop) (P : Int32 → Prop) (Q : Option Value → Wd → Prop) (hQ : ∀ x, P x → Q (some (.int x)) w) (hK15 : ∀ (x2 : Int64) (x4 : Int32) (x5 : Int64) (x7 : Int64) (x9 : Int32), (K15 x2 x4 x5 x7 x9 → wp g (fun _ => True) y_Field_traceOf prog_4_method_3_code 10 (some FieldType.int) d 15 [(2, .long x2), (4, .int x4), (5, .long x5), (7, .long x7), (9, .int x9)] [] w Q)) (x2 : Int64) (x4 : Int32) (x5 : Int64) (x7 : Int64) (x9 : Int32) (h : cf_Field_traceOf_B15 K15 P x2 x4 x5 x7 x9) : wp g (fun _ => True) y_Field_traceOf prog_4_method_3_code 10 (some FieldType.int) d 15 [(2, .long x2), (4, .int x4), (5, .long x5), (7, .long x7), (9, .int x9)] [] w Q := by
  unfold cf_Field_traceOf_B15 at h
  refine am_iload d_Field_traceOf_15 4 rfl ?_
  refine am_iload d_Field_traceOf_17 1 rfl ?_
  refine am_icmp_ge (tgt := 43) d_Field_traceOf_19 (by decide) (fun c19 => ?_) (fun c19 => ?_)
  · have h := h.1 c19
    refine am_lload d_Field_traceOf_43 2 rfl ?_
    refine am_l2i d_Field_traceOf_45 ?_
    exact am_ireturn d_Field_traceOf_46 rfl rfl (hQ x5.toInt32 h)
  · have h := h.2 c19
    refine am_lload d_Field_traceOf_22 2 rfl ?_
    refine am_lload d_Field_traceOf_24 3 rfl ?_
    refine am_lxor d_Field_traceOf_26 ?_
    refine am_topl (fun v2 ev2 => ?_)
    have h := h v2 ev2
    refine am_lstore (l' := [(5, .long v2), (2, .long x2), (4, .int x4), (7, .long x7), (9, .int x9)]) d_Field_traceOf_27 (by decide) rfl ?_
    refine am_lload d_Field_traceOf_29 3 rfl ?_
    refine am_lload_n d_Field_traceOf_31 1 rfl ?_
    refine am_callS (d2 := d - 1) [.long x7, .long x2] d_Field_traceOf_32 mi_Polys_squareBy wd_1005 wd_649 (by omega) rfl rfl (Nat.le_of_ble_eq_true rfl) ?_
    refine Call.post ?_ (cf_Polys_squareBy_ok (by omega) x7 x2  w _ h)
    rintro _ _ ⟨r3, rfl, rfl, h⟩
    show wp g (fun _ => True) y_Field_traceOf prog_4_method_3_code 10 (some FieldType.int) d 35 [(5, .long v2), (2, .long x2), (4, .int x4), (7, .long x7), (9, .int x9)] [.long r3] w Q
    refine am_lstore (l' := [(7, .long r3), (5, .long v2), (2, .long x2), (4, .int x4), (9, .int x9)]) d_Field_traceOf_35 (by decide) rfl ?_
    obtain ⟨v4, ev4⟩ : ∃ z : Int32, z = x9 + (1 : Int32) := ⟨_, rfl⟩
    have h := h v4 ev4
    refine am_iinc (v := v4) (l' := [(9, .int v4), (7, .long r3), (5, .long v2), (2, .long x2), (4, .int x4)]) d_Field_traceOf_37 4 rfl (by rw [ev4]; rfl) (by decide) rfl ?_
    refine am_goto (tgt := 15) d_Field_traceOf_40 (by decide) ?_
    refine am_sub [3, 4, 2, 1, 0] rfl ?_
    exact hK15 x2 x4 v2 r3 v4 h
theorem cf_Field_traceOf_L15_ok {g : ayG} {d : Nat} (hd : 4 ≤ d)   (w : Wd)  (P : Int32 → Prop) (Q : Option Value → Wd → Prop) (hQ : ∀ x, P x → Q (some (.int x)) w)  : ∀ (n : Nat) (x2 : Int64) (x4 : Int32) (x5 : Int64) (x7 : Int64) (x9 : Int32) (h : cf_Field_traceOf_L15 P n x2 x4 x5 x7 x9), wp g (fun _ => True) y_Field_traceOf prog_4_method_3_code 10 (some FieldType.int) d 15 [(2, .long x2), (4, .int x4), (5, .long x5), (7, .long x7), (9, .int x9)] [] w Q
  | 0, x2, x4, x5, x7, x9, h => False.elim h
  | n + 1, x2, x4, x5, x7, x9, h => cf_Field_traceOf_B15_ok hd   w (cf_Field_traceOf_L15 P n) P Q hQ (fun x2 x4 x5 x7 x9 h => cf_Field_traceOf_L15_ok hd   w  P Q hQ  n x2 x4 x5 x7 x9 h) x2 x4 x5 x7 x9 h
theorem cf_Field_traceOf_ok {g : ayG} {d : Nat} (hd : 4 ≤ d) (a0 : Int64) (a1 : Int64)  (w : Wd) (P : Int32 → Prop) (h : cf_Field_traceOf a0 a1 P) : Call g y_Field_traceOf prog_4_method_3_code 10 (some FieldType.int) d [.long a0, .long a1] w (fun (r : Option Value) (w2 : Wd) => ∃ x, r = some (.int x) ∧ w = w2 ∧ P x) := by
  unfold cf_Field_traceOf at h
  refine am_enter mi_Field_traceOf (Nat.le_of_ble_eq_true rfl) ?_
  have hQ : ∀ x, P x → (fun (r : Option Value) (w2 : Wd) => ∃ x, r = some (.int x) ∧ w = w2 ∧ P x) (some (.int x)) w := fun x h => ⟨x, rfl, rfl, h⟩
  generalize (fun (r : Option Value) (w2 : Wd) => ∃ x, r = some (.int x) ∧ w = w2 ∧ P x) = Q at hQ ⊢
  show wp g (fun _ => True) y_Field_traceOf prog_4_method_3_code 10 (some FieldType.int) d 0 [(0, .long a0), (2, .long a1)] [] w Q
  refine am_lload_n d_Field_traceOf_0 1 rfl ?_
  refine am_callS (d2 := d - 1) [.long a1] d_Field_traceOf_1 mi_Polys_degree wd_1015 wd_391 (by omega) rfl rfl (Nat.le_of_ble_eq_true rfl) ?_
  refine Call.post ?_ (cf_Polys_degree_ok (by omega) a1  w _ h)
  rintro _ _ ⟨r1, rfl, rfl, h⟩
  show wp g (fun _ => True) y_Field_traceOf prog_4_method_3_code 10 (some FieldType.int) d 4 [(0, .long a0), (2, .long a1)] [.int r1] w Q
  refine am_istore (l' := [(4, .int r1), (0, .long a0), (2, .long a1)]) d_Field_traceOf_4 (by decide) rfl ?_
  refine am_lconst (v := 0) d_Field_traceOf_6 rfl ?_
  refine am_lstore (l' := [(5, .long (0 : Int64)), (4, .int r1), (0, .long a0), (2, .long a1)]) d_Field_traceOf_7 (by decide) rfl ?_
  refine am_lload_n d_Field_traceOf_9 2 rfl ?_
  refine am_lstore (l' := [(7, .long a0), (5, .long (0 : Int64)), (4, .int r1), (0, .long a0), (2, .long a1)]) d_Field_traceOf_10 (by decide) rfl ?_
  refine am_iconst (v := 0) d_Field_traceOf_12 rfl ?_
  refine am_istore (l' := [(9, .int (0 : Int32)), (7, .long a0), (5, .long (0 : Int64)), (4, .int r1), (0, .long a0), (2, .long a1)]) d_Field_traceOf_13 (by decide) rfl ?_
  refine am_sub [5, 3, 2, 1, 0] rfl ?_
  obtain ⟨n, h⟩ := h
  exact cf_Field_traceOf_L15_ok (by omega)   w  P Q hQ  n a1 r1 (0 : Int64) a0 (0 : Int32) h
theorem d_Field_leastPoly_0 : decode prog_4_method_4_code 0 = .ok (.lload_n 1, 1) := by decide +kernel
theorem d_Field_leastPoly_1 : decode prog_4_method_4_code 1 = .ok (.lload_n 3, 1) := by decide +kernel
theorem d_Field_leastPoly_2 : decode prog_4_method_4_code 2 = .ok (.invokestatic 28, 3) := by decide +kernel
theorem d_Field_leastPoly_5 : decode prog_4_method_4_code 5 = .ok (.aload_n 0, 1) := by decide +kernel
theorem d_Field_leastPoly_6 : decode prog_4_method_4_code 6 = .ok (.getfield 11, 3) := by decide +kernel
theorem d_Field_leastPoly_9 : decode prog_4_method_4_code 9 = .ok (.arraylength, 1) := by decide +kernel
theorem d_Field_leastPoly_10 : decode prog_4_method_4_code 10 = .ok (.iconst 1, 1) := by decide +kernel
theorem d_Field_leastPoly_11 : decode prog_4_method_4_code 11 = .ok (.isub, 1) := by decide +kernel
theorem d_Field_leastPoly_12 : decode prog_4_method_4_code 12 = .ok (.invokestatic 32, 3) := by decide +kernel
theorem d_Field_leastPoly_15 : decode prog_4_method_4_code 15 = .ok (.istore 5, 2) := by decide +kernel
theorem d_Field_leastPoly_17 : decode prog_4_method_4_code 17 = .ok (.iconst 0, 1) := by decide +kernel
theorem d_Field_leastPoly_18 : decode prog_4_method_4_code 18 = .ok (.istore 6, 2) := by decide +kernel
theorem d_Field_leastPoly_20 : decode prog_4_method_4_code 20 = .ok (.iload 6, 2) := by decide +kernel
theorem d_Field_leastPoly_22 : decode prog_4_method_4_code 22 = .ok (.aload_n 0, 1) := by decide +kernel
theorem d_Field_leastPoly_23 : decode prog_4_method_4_code 23 = .ok (.getfield 11, 3) := by decide +kernel
theorem d_Field_leastPoly_26 : decode prog_4_method_4_code 26 = .ok (.arraylength, 1) := by decide +kernel
theorem d_Field_leastPoly_27 : decode prog_4_method_4_code 27 = .ok (.if_icmp .ge 17, 3) := by decide +kernel
theorem d_Field_leastPoly_30 : decode prog_4_method_4_code 30 = .ok (.aload_n 0, 1) := by decide +kernel
theorem d_Field_leastPoly_31 : decode prog_4_method_4_code 31 = .ok (.getfield 11, 3) := by decide +kernel
theorem d_Field_leastPoly_34 : decode prog_4_method_4_code 34 = .ok (.iload 6, 2) := by decide +kernel
theorem d_Field_leastPoly_36 : decode prog_4_method_4_code 36 = .ok (.lconst 0, 1) := by decide +kernel
theorem d_Field_leastPoly_37 : decode prog_4_method_4_code 37 = .ok (.lastore, 1) := by decide +kernel
theorem d_Field_leastPoly_38 : decode prog_4_method_4_code 38 = .ok (.iinc 6 1, 3) := by decide +kernel
theorem d_Field_leastPoly_41 : decode prog_4_method_4_code 41 = .ok (.goto (-21), 3) := by decide +kernel
theorem d_Field_leastPoly_44 : decode prog_4_method_4_code 44 = .ok (.aload_n 0, 1) := by decide +kernel
theorem d_Field_leastPoly_45 : decode prog_4_method_4_code 45 = .ok (.getfield 11, 3) := by decide +kernel
theorem d_Field_leastPoly_48 : decode prog_4_method_4_code 48 = .ok (.iconst 0, 1) := by decide +kernel
theorem d_Field_leastPoly_49 : decode prog_4_method_4_code 49 = .ok (.lconst 1, 1) := by decide +kernel
theorem d_Field_leastPoly_50 : decode prog_4_method_4_code 50 = .ok (.lastore, 1) := by decide +kernel
theorem d_Field_leastPoly_51 : decode prog_4_method_4_code 51 = .ok (.lload_n 1, 1) := by decide +kernel
theorem d_Field_leastPoly_52 : decode prog_4_method_4_code 52 = .ok (.lstore 6, 2) := by decide +kernel
theorem d_Field_leastPoly_54 : decode prog_4_method_4_code 54 = .ok (.iconst 0, 1) := by decide +kernel
theorem d_Field_leastPoly_55 : decode prog_4_method_4_code 55 = .ok (.istore 8, 2) := by decide +kernel
theorem d_Field_leastPoly_57 : decode prog_4_method_4_code 57 = .ok (.iload 8, 2) := by decide +kernel
theorem d_Field_leastPoly_59 : decode prog_4_method_4_code 59 = .ok (.iload 5, 2) := by decide +kernel
theorem d_Field_leastPoly_61 : decode prog_4_method_4_code 61 = .ok (.if_icmp .ge 80, 3) := by decide +kernel
theorem d_Field_leastPoly_64 : decode prog_4_method_4_code 64 = .ok (.iload 5, 2) := by decide +kernel
theorem d_Field_leastPoly_66 : decode prog_4_method_4_code 66 = .ok (.istore 9, 2) := by decide +kernel
theorem d_Field_leastPoly_68 : decode prog_4_method_4_code 68 = .ok (.iload 9, 2) := by decide +kernel
theorem d_Field_leastPoly_70 : decode prog_4_method_4_code 70 = .ok (.ifCond .le 39, 3) := by decide +kernel
theorem d_Field_leastPoly_73 : decode prog_4_method_4_code 73 = .ok (.aload_n 0, 1) := by decide +kernel
theorem d_Field_leastPoly_74 : decode prog_4_method_4_code 74 = .ok (.getfield 11, 3) := by decide +kernel
theorem d_Field_leastPoly_77 : decode prog_4_method_4_code 77 = .ok (.iload 9, 2) := by decide +kernel
theorem d_Field_leastPoly_79 : decode prog_4_method_4_code 79 = .ok (.aload_n 0, 1) := by decide +kernel
theorem d_Field_leastPoly_80 : decode prog_4_method_4_code 80 = .ok (.getfield 11, 3) := by decide +kernel
theorem d_Field_leastPoly_83 : decode prog_4_method_4_code 83 = .ok (.iload 9, 2) := by decide +kernel
theorem d_Field_leastPoly_85 : decode prog_4_method_4_code 85 = .ok (.iconst 1, 1) := by decide +kernel
theorem d_Field_leastPoly_86 : decode prog_4_method_4_code 86 = .ok (.isub, 1) := by decide +kernel
theorem d_Field_leastPoly_87 : decode prog_4_method_4_code 87 = .ok (.laload, 1) := by decide +kernel
theorem d_Field_leastPoly_88 : decode prog_4_method_4_code 88 = .ok (.aload_n 0, 1) := by decide +kernel
theorem d_Field_leastPoly_89 : decode prog_4_method_4_code 89 = .ok (.getfield 11, 3) := by decide +kernel
theorem d_Field_leastPoly_92 : decode prog_4_method_4_code 92 = .ok (.iload 9, 2) := by decide +kernel
theorem d_Field_leastPoly_94 : decode prog_4_method_4_code 94 = .ok (.laload, 1) := by decide +kernel
theorem d_Field_leastPoly_95 : decode prog_4_method_4_code 95 = .ok (.lload 6, 2) := by decide +kernel
theorem d_Field_leastPoly_97 : decode prog_4_method_4_code 97 = .ok (.lload_n 3, 1) := by decide +kernel
theorem d_Field_leastPoly_98 : decode prog_4_method_4_code 98 = .ok (.invokestatic 38, 3) := by decide +kernel
theorem d_Field_leastPoly_101 : decode prog_4_method_4_code 101 = .ok (.lxor, 1) := by decide +kernel
theorem d_Field_leastPoly_102 : decode prog_4_method_4_code 102 = .ok (.lastore, 1) := by decide +kernel
theorem d_Field_leastPoly_103 : decode prog_4_method_4_code 103 = .ok (.iinc 9 (-1), 3) := by decide +kernel
theorem d_Field_leastPoly_106 : decode prog_4_method_4_code 106 = .ok (.goto (-38), 3) := by decide +kernel
theorem d_Field_leastPoly_109 : decode prog_4_method_4_code 109 = .ok (.aload_n 0, 1) := by decide +kernel
theorem d_Field_leastPoly_110 : decode prog_4_method_4_code 110 = .ok (.getfield 11, 3) := by decide +kernel
theorem d_Field_leastPoly_113 : decode prog_4_method_4_code 113 = .ok (.iconst 0, 1) := by decide +kernel
theorem d_Field_leastPoly_114 : decode prog_4_method_4_code 114 = .ok (.aload_n 0, 1) := by decide +kernel
theorem d_Field_leastPoly_115 : decode prog_4_method_4_code 115 = .ok (.getfield 11, 3) := by decide +kernel
theorem d_Field_leastPoly_118 : decode prog_4_method_4_code 118 = .ok (.iconst 0, 1) := by decide +kernel
theorem d_Field_leastPoly_119 : decode prog_4_method_4_code 119 = .ok (.laload, 1) := by decide +kernel
theorem d_Field_leastPoly_120 : decode prog_4_method_4_code 120 = .ok (.lload 6, 2) := by decide +kernel
theorem d_Field_leastPoly_122 : decode prog_4_method_4_code 122 = .ok (.lload_n 3, 1) := by decide +kernel
theorem d_Field_leastPoly_123 : decode prog_4_method_4_code 123 = .ok (.invokestatic 38, 3) := by decide +kernel
theorem d_Field_leastPoly_126 : decode prog_4_method_4_code 126 = .ok (.lastore, 1) := by decide +kernel
theorem d_Field_leastPoly_127 : decode prog_4_method_4_code 127 = .ok (.lload 6, 2) := by decide +kernel
theorem d_Field_leastPoly_129 : decode prog_4_method_4_code 129 = .ok (.lload_n 3, 1) := by decide +kernel
theorem d_Field_leastPoly_130 : decode prog_4_method_4_code 130 = .ok (.invokestatic 20, 3) := by decide +kernel
theorem d_Field_leastPoly_133 : decode prog_4_method_4_code 133 = .ok (.lstore 6, 2) := by decide +kernel
theorem d_Field_leastPoly_135 : decode prog_4_method_4_code 135 = .ok (.iinc 8 1, 3) := by decide +kernel
theorem d_Field_leastPoly_138 : decode prog_4_method_4_code 138 = .ok (.goto (-81), 3) := by decide +kernel
theorem d_Field_leastPoly_141 : decode prog_4_method_4_code 141 = .ok (.lconst 0, 1) := by decide +kernel
theorem d_Field_leastPoly_142 : decode prog_4_method_4_code 142 = .ok (.lstore 8, 2) := by decide +kernel
theorem d_Field_leastPoly_144 : decode prog_4_method_4_code 144 = .ok (.iconst 0, 1) := by decide +kernel
theorem d_Field_leastPoly_145 : decode prog_4_method_4_code 145 = .ok (.istore 10, 2) := by decide +kernel
theorem d_Field_leastPoly_147 : decode prog_4_method_4_code 147 = .ok (.iload 10, 2) := by decide +kernel
theorem d_Field_leastPoly_149 : decode prog_4_method_4_code 149 = .ok (.iload 5, 2) := by decide +kernel
theorem d_Field_leastPoly_151 : decode prog_4_method_4_code 151 = .ok (.if_icmp .gt 26, 3) := by decide +kernel
theorem d_Field_leastPoly_154 : decode prog_4_method_4_code 154 = .ok (.lload 8, 2) := by decide +kernel
theorem d_Field_leastPoly_156 : decode prog_4_method_4_code 156 = .ok (.aload_n 0, 1) := by decide +kernel
theorem d_Field_leastPoly_157 : decode prog_4_method_4_code 157 = .ok (.getfield 11, 3) := by decide +kernel
theorem d_Field_leastPoly_160 : decode prog_4_method_4_code 160 = .ok (.iload 10, 2) := by decide +kernel
theorem d_Field_leastPoly_162 : decode prog_4_method_4_code 162 = .ok (.laload, 1) := by decide +kernel
theorem d_Field_leastPoly_163 : decode prog_4_method_4_code 163 = .ok (.lconst 1, 1) := by decide +kernel
theorem d_Field_leastPoly_164 : decode prog_4_method_4_code 164 = .ok (.land, 1) := by decide +kernel
theorem d_Field_leastPoly_165 : decode prog_4_method_4_code 165 = .ok (.iload 10, 2) := by decide +kernel
theorem d_Field_leastPoly_167 : decode prog_4_method_4_code 167 = .ok (.lshl, 1) := by decide +kernel
theorem d_Field_leastPoly_168 : decode prog_4_method_4_code 168 = .ok (.lor, 1) := by decide +kernel
theorem d_Field_leastPoly_169 : decode prog_4_method_4_code 169 = .ok (.lstore 8, 2) := by decide +kernel
theorem d_Field_leastPoly_171 : decode prog_4_method_4_code 171 = .ok (.iinc 10 1, 3) := by decide +kernel
theorem d_Field_leastPoly_174 : decode prog_4_method_4_code 174 = .ok (.goto (-27), 3) := by decide +kernel
theorem d_Field_leastPoly_177 : decode prog_4_method_4_code 177 = .ok (.lload 8, 2) := by decide +kernel
theorem d_Field_leastPoly_179 : decode prog_4_method_4_code 179 = .ok (.lreturn, 1) := by decide +kernel
def cf_Field_leastPoly_B147  (K147 : Int32 → Int64 → Int32 → Wd → Prop) (P : Int64 → Wd → Prop) (x5 : Int32) (x8 : Int64) (x10 : Int32) (w : Wd) : Prop :=
  ((x5 < x10 → P x8 w) ∧ (¬ x5 < x10 → vp_in x10 32 ∧ ∀ v4, v4 = x8 ||| (lshl ((w.2 24 x10.toNatClampNeg) &&& (1 : Int64)) x10) → ∀ v5, v5 = x10 + (1 : Int32) → K147 x5 v4 v5 w))
def cf_Field_leastPoly_L147   (P : Int64 → Wd → Prop) : Nat → Int32 → Int64 → Int32 → Wd → Prop
  | 0 => fun x5 x8 x10 w => False
  | n + 1 => fun x5 x8 x10 w => cf_Field_leastPoly_B147 (cf_Field_leastPoly_L147 P n) P x5 x8 x10 w
def cf_Field_leastPoly_B68  (K57 : Int64 → Int32 → Int64 → Int32 → Wd → Prop) (K68 : Int64 → Int32 → Int64 → Int32 → Int32 → Wd → Prop) (P : Int64 → Wd → Prop) (x3 : Int64) (x5 : Int32) (x6 : Int64) (x8 : Int32) (x9 : Int32) (w : Wd) : Prop :=
  ((x9 ≤ 0 → vp_in (0 : Int32) 32 ∧ cf_Polys_productBy (w.2 24 (0 : Int32).toNatClampNeg) x6 x3 (fun r6 => vp_in (0 : Int32) 32 ∧ ∀ w7, w7 = wL w 24 (0 : Int32).toNatClampNeg r6 → cf_Polys_squareBy x6 x3 (fun r8 => ∀ v9, v9 = x8 + (1 : Int32) → K57 x3 x5 r8 v9 w7))) ∧ (¬ x9 ≤ 0 → vp_in (x9 - (1 : Int32)) 32 ∧ vp_in x9 32 ∧ cf_Polys_productBy (w.2 24 x9.toNatClampNeg) x6 x3 (fun r10 => vp_in x9 32 ∧ ∀ w11, w11 = wL w 24 x9.toNatClampNeg ((w.2 24 (x9 - (1 : Int32)).toNatClampNeg) ^^^ r10) → ∀ v12, v12 = x9 + (-1 : Int32) → K68 x3 x5 x6 x8 v12 w11)))
def cf_Field_leastPoly_L68  (K57 : Int64 → Int32 → Int64 → Int32 → Wd → Prop) (P : Int64 → Wd → Prop) : Nat → Int64 → Int32 → Int64 → Int32 → Int32 → Wd → Prop
  | 0 => fun x3 x5 x6 x8 x9 w => False
  | n + 1 => fun x3 x5 x6 x8 x9 w => cf_Field_leastPoly_B68 K57 (cf_Field_leastPoly_L68 K57 P n) P x3 x5 x6 x8 x9 w
def cf_Field_leastPoly_B57  (K57 : Int64 → Int32 → Int64 → Int32 → Wd → Prop) (P : Int64 → Wd → Prop) (x3 : Int64) (x5 : Int32) (x6 : Int64) (x8 : Int32) (w : Wd) : Prop :=
  ((x5 ≤ x8 → ∃ n, cf_Field_leastPoly_L147 P n x5 (0 : Int64) (0 : Int32) w) ∧ (¬ x5 ≤ x8 → ∃ n, cf_Field_leastPoly_L68 K57 P n x3 x5 x6 x8 x5 w))
def cf_Field_leastPoly_L57   (P : Int64 → Wd → Prop) : Nat → Int64 → Int32 → Int64 → Int32 → Wd → Prop
  | 0 => fun x3 x5 x6 x8 w => False
  | n + 1 => fun x3 x5 x6 x8 w => cf_Field_leastPoly_B57 (cf_Field_leastPoly_L57 P n) P x3 x5 x6 x8 w
def cf_Field_leastPoly_B20  (K20 : Int64 → Int64 → Int32 → Int32 → Wd → Prop) (P : Int64 → Wd → Prop) (x1 : Int64) (x3 : Int64) (x5 : Int32) (x6 : Int32) (w : Wd) : Prop :=
  (((32 : Int32) ≤ x6 → vp_in (0 : Int32) 32 ∧ ∀ w3, w3 = wL w 24 (0 : Int32).toNatClampNeg (1 : Int64) → ∃ n, cf_Field_leastPoly_L57 P n x3 x5 x1 (0 : Int32) w3) ∧ (¬ (32 : Int32) ≤ x6 → vp_in x6 32 ∧ ∀ w13, w13 = wL w 24 x6.toNatClampNeg (0 : Int64) → ∀ v14, v14 = x6 + (1 : Int32) → K20 x1 x3 x5 v14 w13))
def cf_Field_leastPoly_L20   (P : Int64 → Wd → Prop) : Nat → Int64 → Int64 → Int32 → Int32 → Wd → Prop
  | 0 => fun x1 x3 x5 x6 w => False
  | n + 1 => fun x1 x3 x5 x6 w => cf_Field_leastPoly_B20 (cf_Field_leastPoly_L20 P n) P x1 x3 x5 x6 w
def cf_Field_leastPoly (a0 : Int64) (a1 : Int64) (w : Wd) (P : Int64 → Wd → Prop) : Prop :=
  cf_Field_unlikeConjugates a0 a1 (fun r1 => ∀ v2, v2 = imin r1 ((32 : Int32) - (1 : Int32)) → ∃ n, cf_Field_leastPoly_L20 P n a0 a1 v2 (0 : Int32) w)
theorem cf_Field_leastPoly_B147_ok {g : ayG} {d : Nat} (hd : 5 ≤ d)   (w : Wd) (K147 : Int32 → Int64 → Int32 → Wd → Prop) (P : Int64 → Wd → Prop) (Q : Option Value → Wd → Prop) (hQ : ∀ x w2, P x w2 → Q (some (.long x)) w2) (hK147 : ∀ (x5 : Int32) (x8 : Int64) (x10 : Int32) (w : Wd), (K147 x5 x8 x10 w → wp g (fun _ => True) y_Field_leastPoly prog_4_method_4_code 11 (some FieldType.long) d 147 [(0, .ref (g.1 + 23)), (5, .int x5), (8, .long x8), (10, .int x10)] [] w Q)) (x5 : Int32) (x8 : Int64) (x10 : Int32) (h : cf_Field_leastPoly_B147 K147 P x5 x8 x10 w) : wp g (fun _ => True) y_Field_leastPoly prog_4_method_4_code 11 (some FieldType.long) d 147 [(0, .ref (g.1 + 23)), (5, .int x5), (8, .long x8), (10, .int x10)] [] w Q := by
  unfold cf_Field_leastPoly_B147 at h
  refine am_iload d_Field_leastPoly_147 3 rfl ?_
  refine am_iload d_Field_leastPoly_149 1 rfl ?_
  refine am_icmp_gt (tgt := 177) d_Field_leastPoly_151 (by decide) (fun c151 => ?_) (fun c151 => ?_)
  · have h := h.1 c151
    refine am_lload d_Field_leastPoly_177 2 rfl ?_
    exact am_lreturn d_Field_leastPoly_179 rfl (hQ x8 w h)
  · have h := h.2 c151
    refine am_lload d_Field_leastPoly_154 2 rfl ?_
    refine am_aload_n d_Field_leastPoly_156 0 rfl ?_
    refine am_getf (T := F_Field) (fs := ob_Field g w 23) (C := R_Field) (N := 2) (ci := 7) 0 d_Field_leastPoly_157 wd_155 rfl (by decide) (el_Field (show ay_sh 23 = _ from rfl)) rfl i_Field (by decide) rfl ?_
    refine am_iload d_Field_leastPoly_160 3 rfl ?_
    have hi162 := h.1
    have h := h.2
    refine am_laload d_Field_leastPoly_162 (show ay_sh 24 = _ from rfl) hi162 ?_
    refine am_lconst (v := 1) d_Field_leastPoly_163 rfl ?_
    refine am_land d_Field_leastPoly_164 ?_
    refine am_iload d_Field_leastPoly_165 3 rfl ?_
    refine am_lshl d_Field_leastPoly_167 ?_
    refine am_lor d_Field_leastPoly_168 ?_
    refine am_topl (fun v4 ev4 => ?_)
    have h := h v4 ev4
    refine am_lstore (l' := [(8, .long v4), (0, .ref (g.1 + 23)), (5, .int x5), (10, .int x10)]) d_Field_leastPoly_169 (by decide) rfl ?_
    obtain ⟨v5, ev5⟩ : ∃ z : Int32, z = x10 + (1 : Int32) := ⟨_, rfl⟩
    have h := h v5 ev5
    refine am_iinc (v := v5) (l' := [(10, .int v5), (8, .long v4), (0, .ref (g.1 + 23)), (5, .int x5)]) d_Field_leastPoly_171 3 rfl (by rw [ev5]; rfl) (by decide) rfl ?_
    refine am_goto (tgt := 147) d_Field_leastPoly_174 (by decide) ?_
    refine am_sub [2, 3, 1, 0] rfl ?_
    exact hK147 x5 v4 v5 w h
theorem cf_Field_leastPoly_L147_ok {g : ayG} {d : Nat} (hd : 5 ≤ d)    (P : Int64 → Wd → Prop) (Q : Option Value → Wd → Prop) (hQ : ∀ x w2, P x w2 → Q (some (.long x)) w2)  : ∀ (n : Nat) (x5 : Int32) (x8 : Int64) (x10 : Int32) (w : Wd) (h : cf_Field_leastPoly_L147 P n x5 x8 x10 w), wp g (fun _ => True) y_Field_leastPoly prog_4_method_4_code 11 (some FieldType.long) d 147 [(0, .ref (g.1 + 23)), (5, .int x5), (8, .long x8), (10, .int x10)] [] w Q
  | 0, x5, x8, x10, w, h => False.elim h
  | n + 1, x5, x8, x10, w, h => cf_Field_leastPoly_B147_ok hd   w (cf_Field_leastPoly_L147 P n) P Q hQ (fun x5 x8 x10 w h => cf_Field_leastPoly_L147_ok hd    P Q hQ  n x5 x8 x10 w h) x5 x8 x10 h
theorem cf_Field_leastPoly_B68_ok {g : ayG} {d : Nat} (hd : 5 ≤ d)   (w : Wd) (K57 : Int64 → Int32 → Int64 → Int32 → Wd → Prop) (K68 : Int64 → Int32 → Int64 → Int32 → Int32 → Wd → Prop) (P : Int64 → Wd → Prop) (Q : Option Value → Wd → Prop) (hQ : ∀ x w2, P x w2 → Q (some (.long x)) w2) (hK57 : ∀ (x3 : Int64) (x5 : Int32) (x6 : Int64) (x8 : Int32) (w : Wd), (K57 x3 x5 x6 x8 w → wp g (fun _ => True) y_Field_leastPoly prog_4_method_4_code 11 (some FieldType.long) d 57 [(0, .ref (g.1 + 23)), (3, .long x3), (5, .int x5), (6, .long x6), (8, .int x8)] [] w Q)) (hK68 : ∀ (x3 : Int64) (x5 : Int32) (x6 : Int64) (x8 : Int32) (x9 : Int32) (w : Wd), (K68 x3 x5 x6 x8 x9 w → wp g (fun _ => True) y_Field_leastPoly prog_4_method_4_code 11 (some FieldType.long) d 68 [(0, .ref (g.1 + 23)), (3, .long x3), (5, .int x5), (6, .long x6), (8, .int x8), (9, .int x9)] [] w Q)) (x3 : Int64) (x5 : Int32) (x6 : Int64) (x8 : Int32) (x9 : Int32) (h : cf_Field_leastPoly_B68 K57 K68 P x3 x5 x6 x8 x9 w) : wp g (fun _ => True) y_Field_leastPoly prog_4_method_4_code 11 (some FieldType.long) d 68 [(0, .ref (g.1 + 23)), (3, .long x3), (5, .int x5), (6, .long x6), (8, .int x8), (9, .int x9)] [] w Q := by
  unfold cf_Field_leastPoly_B68 at h
  refine am_iload d_Field_leastPoly_68 5 rfl ?_
  refine am_if_le (tgt := 109) d_Field_leastPoly_70 (by decide) (fun c70 => ?_) (fun c70 => ?_)
  · have h := h.1 c70
    refine am_aload_n d_Field_leastPoly_109 0 rfl ?_
    refine am_getf (T := F_Field) (fs := ob_Field g w 23) (C := R_Field) (N := 2) (ci := 7) 0 d_Field_leastPoly_110 wd_155 rfl (by decide) (el_Field (show ay_sh 23 = _ from rfl)) rfl i_Field (by decide) rfl ?_
    refine am_iconst (v := 0) d_Field_leastPoly_113 rfl ?_
    refine am_aload_n d_Field_leastPoly_114 0 rfl ?_
    refine am_getf (T := F_Field) (fs := ob_Field g w 23) (C := R_Field) (N := 2) (ci := 7) 0 d_Field_leastPoly_115 wd_155 rfl (by decide) (el_Field (show ay_sh 23 = _ from rfl)) rfl i_Field (by decide) rfl ?_
    refine am_iconst (v := 0) d_Field_leastPoly_118 rfl ?_
    have hi119 := h.1
    have h := h.2
    refine am_laload d_Field_leastPoly_119 (show ay_sh 24 = _ from rfl) hi119 ?_
    refine am_lload d_Field_leastPoly_120 3 rfl ?_
    refine am_lload_n d_Field_leastPoly_122 1 rfl ?_
    refine am_callS (d2 := d - 1) [.long (w.2 24 (0 : Int32).toNatClampNeg), .long x6, .long x3] d_Field_leastPoly_123 mi_Polys_productBy wd_1007 wd_530 (by omega) rfl rfl (Nat.le_of_ble_eq_true rfl) ?_
    refine Call.post ?_ (cf_Polys_productBy_ok (by omega) (w.2 24 (0 : Int32).toNatClampNeg) x6 x3  w _ h)
    rintro _ _ ⟨r6, rfl, rfl, h⟩
    show wp g (fun _ => True) y_Field_leastPoly prog_4_method_4_code 11 (some FieldType.long) d 126 [(0, .ref (g.1 + 23)), (3, .long x3), (5, .int x5), (6, .long x6), (8, .int x8), (9, .int x9)] [.long r6, .int (0 : Int32), .ref (g.1 + 24)] w Q
    have hi126 := h.1
    have h := h.2
    refine am_lastore d_Field_leastPoly_126 (show ay_sh 24 = _ from rfl) hi126 ?_
    obtain ⟨w7, ew7⟩ : ∃ z, z = wL w 24 (0 : Int32).toNatClampNeg r6 := ⟨_, rfl⟩
    rw [← ew7]
    have h := h w7 ew7
    refine am_lload d_Field_leastPoly_127 3 rfl ?_
    refine am_lload_n d_Field_leastPoly_129 1 rfl ?_
    refine am_callS (d2 := d - 1) [.long x6, .long x3] d_Field_leastPoly_130 mi_Polys_squareBy wd_1005 wd_649 (by omega) rfl rfl (Nat.le_of_ble_eq_true rfl) ?_
    refine Call.post ?_ (cf_Polys_squareBy_ok (by omega) x6 x3  w7 _ h)
    rintro _ _ ⟨r8, rfl, rfl, h⟩
    show wp g (fun _ => True) y_Field_leastPoly prog_4_method_4_code 11 (some FieldType.long) d 133 [(0, .ref (g.1 + 23)), (3, .long x3), (5, .int x5), (6, .long x6), (8, .int x8), (9, .int x9)] [.long r8] w7 Q
    refine am_lstore (l' := [(6, .long r8), (0, .ref (g.1 + 23)), (3, .long x3), (5, .int x5), (8, .int x8), (9, .int x9)]) d_Field_leastPoly_133 (by decide) rfl ?_
    obtain ⟨v9, ev9⟩ : ∃ z : Int32, z = x8 + (1 : Int32) := ⟨_, rfl⟩
    have h := h v9 ev9
    refine am_iinc (v := v9) (l' := [(8, .int v9), (6, .long r8), (0, .ref (g.1 + 23)), (3, .long x3), (5, .int x5), (9, .int x9)]) d_Field_leastPoly_135 4 rfl (by rw [ev9]; rfl) (by decide) rfl ?_
    refine am_goto (tgt := 57) d_Field_leastPoly_138 (by decide) ?_
    refine am_sub [2, 3, 4, 1, 0] rfl ?_
    exact hK57 x3 x5 r8 v9 w7 h
  · have h := h.2 c70
    refine am_aload_n d_Field_leastPoly_73 0 rfl ?_
    refine am_getf (T := F_Field) (fs := ob_Field g w 23) (C := R_Field) (N := 2) (ci := 7) 0 d_Field_leastPoly_74 wd_155 rfl (by decide) (el_Field (show ay_sh 23 = _ from rfl)) rfl i_Field (by decide) rfl ?_
    refine am_iload d_Field_leastPoly_77 5 rfl ?_
    refine am_aload_n d_Field_leastPoly_79 0 rfl ?_
    refine am_getf (T := F_Field) (fs := ob_Field g w 23) (C := R_Field) (N := 2) (ci := 7) 0 d_Field_leastPoly_80 wd_155 rfl (by decide) (el_Field (show ay_sh 23 = _ from rfl)) rfl i_Field (by decide) rfl ?_
    refine am_iload d_Field_leastPoly_83 5 rfl ?_
    refine am_iconst (v := 1) d_Field_leastPoly_85 rfl ?_
    refine am_isub d_Field_leastPoly_86 ?_
    have hi87 := h.1
    have h := h.2
    refine am_laload d_Field_leastPoly_87 (show ay_sh 24 = _ from rfl) hi87 ?_
    refine am_aload_n d_Field_leastPoly_88 0 rfl ?_
    refine am_getf (T := F_Field) (fs := ob_Field g w 23) (C := R_Field) (N := 2) (ci := 7) 0 d_Field_leastPoly_89 wd_155 rfl (by decide) (el_Field (show ay_sh 23 = _ from rfl)) rfl i_Field (by decide) rfl ?_
    refine am_iload d_Field_leastPoly_92 5 rfl ?_
    have hi94 := h.1
    have h := h.2
    refine am_laload d_Field_leastPoly_94 (show ay_sh 24 = _ from rfl) hi94 ?_
    refine am_lload d_Field_leastPoly_95 3 rfl ?_
    refine am_lload_n d_Field_leastPoly_97 1 rfl ?_
    refine am_callS (d2 := d - 1) [.long (w.2 24 x9.toNatClampNeg), .long x6, .long x3] d_Field_leastPoly_98 mi_Polys_productBy wd_1007 wd_530 (by omega) rfl rfl (Nat.le_of_ble_eq_true rfl) ?_
    refine Call.post ?_ (cf_Polys_productBy_ok (by omega) (w.2 24 x9.toNatClampNeg) x6 x3  w _ h)
    rintro _ _ ⟨r10, rfl, rfl, h⟩
    show wp g (fun _ => True) y_Field_leastPoly prog_4_method_4_code 11 (some FieldType.long) d 101 [(0, .ref (g.1 + 23)), (3, .long x3), (5, .int x5), (6, .long x6), (8, .int x8), (9, .int x9)] [.long r10, .long (w.2 24 (x9 - (1 : Int32)).toNatClampNeg), .int x9, .ref (g.1 + 24)] w Q
    refine am_lxor d_Field_leastPoly_101 ?_
    have hi102 := h.1
    have h := h.2
    refine am_lastore d_Field_leastPoly_102 (show ay_sh 24 = _ from rfl) hi102 ?_
    obtain ⟨w11, ew11⟩ : ∃ z, z = wL w 24 x9.toNatClampNeg ((w.2 24 (x9 - (1 : Int32)).toNatClampNeg) ^^^ r10) := ⟨_, rfl⟩
    rw [← ew11]
    have h := h w11 ew11
    obtain ⟨v12, ev12⟩ : ∃ z : Int32, z = x9 + (-1 : Int32) := ⟨_, rfl⟩
    have h := h v12 ev12
    refine am_iinc (v := v12) (l' := [(9, .int v12), (0, .ref (g.1 + 23)), (3, .long x3), (5, .int x5), (6, .long x6), (8, .int x8)]) d_Field_leastPoly_103 5 rfl (by rw [ev12]; rfl) (by decide) rfl ?_
    refine am_goto (tgt := 68) d_Field_leastPoly_106 (by decide) ?_
    refine am_sub [1, 2, 3, 4, 5, 0] rfl ?_
    exact hK68 x3 x5 x6 x8 v12 w11 h
theorem cf_Field_leastPoly_L68_ok {g : ayG} {d : Nat} (hd : 5 ≤ d)   (K57 : Int64 → Int32 → Int64 → Int32 → Wd → Prop) (P : Int64 → Wd → Prop) (Q : Option Value → Wd → Prop) (hQ : ∀ x w2, P x w2 → Q (some (.long x)) w2) (hK57 : ∀ (x3 : Int64) (x5 : Int32) (x6 : Int64) (x8 : Int32) (w : Wd), (K57 x3 x5 x6 x8 w → wp g (fun _ => True) y_Field_leastPoly prog_4_method_4_code 11 (some FieldType.long) d 57 [(0, .ref (g.1 + 23)), (3, .long x3), (5, .int x5), (6, .long x6), (8, .int x8)] [] w Q)) : ∀ (n : Nat) (x3 : Int64) (x5 : Int32) (x6 : Int64) (x8 : Int32) (x9 : Int32) (w : Wd) (h : cf_Field_leastPoly_L68 K57 P n x3 x5 x6 x8 x9 w), wp g (fun _ => True) y_Field_leastPoly prog_4_method_4_code 11 (some FieldType.long) d 68 [(0, .ref (g.1 + 23)), (3, .long x3), (5, .int x5), (6, .long x6), (8, .int x8), (9, .int x9)] [] w Q
  | 0, x3, x5, x6, x8, x9, w, h => False.elim h
  | n + 1, x3, x5, x6, x8, x9, w, h => cf_Field_leastPoly_B68_ok hd   w K57 (cf_Field_leastPoly_L68 K57 P n) P Q hQ hK57 (fun x3 x5 x6 x8 x9 w h => cf_Field_leastPoly_L68_ok hd   K57 P Q hQ hK57 n x3 x5 x6 x8 x9 w h) x3 x5 x6 x8 x9 h
theorem cf_Field_leastPoly_B57_ok {g : ayG} {d : Nat} (hd : 5 ≤ d)   (w : Wd) (K57 : Int64 → Int32 → Int64 → Int32 → Wd → Prop) (P : Int64 → Wd → Prop) (Q : Option Value → Wd → Prop) (hQ : ∀ x w2, P x w2 → Q (some (.long x)) w2) (hK57 : ∀ (x3 : Int64) (x5 : Int32) (x6 : Int64) (x8 : Int32) (w : Wd), (K57 x3 x5 x6 x8 w → wp g (fun _ => True) y_Field_leastPoly prog_4_method_4_code 11 (some FieldType.long) d 57 [(0, .ref (g.1 + 23)), (3, .long x3), (5, .int x5), (6, .long x6), (8, .int x8)] [] w Q)) (x3 : Int64) (x5 : Int32) (x6 : Int64) (x8 : Int32) (h : cf_Field_leastPoly_B57 K57 P x3 x5 x6 x8 w) : wp g (fun _ => True) y_Field_leastPoly prog_4_method_4_code 11 (some FieldType.long) d 57 [(0, .ref (g.1 + 23)), (3, .long x3), (5, .int x5), (6, .long x6), (8, .int x8)] [] w Q := by
  unfold cf_Field_leastPoly_B57 at h
  refine am_iload d_Field_leastPoly_57 4 rfl ?_
  refine am_iload d_Field_leastPoly_59 2 rfl ?_
  refine am_icmp_ge (tgt := 141) d_Field_leastPoly_61 (by decide) (fun c61 => ?_) (fun c61 => ?_)
  · have h := h.1 c61
    refine am_lconst (v := 0) d_Field_leastPoly_141 rfl ?_
    refine am_lstore (l' := [(8, .long (0 : Int64)), (0, .ref (g.1 + 23)), (3, .long x3), (5, .int x5), (6, .long x6)]) d_Field_leastPoly_142 (by decide) rfl ?_
    refine am_iconst (v := 0) d_Field_leastPoly_144 rfl ?_
    refine am_istore (l' := [(10, .int (0 : Int32)), (8, .long (0 : Int64)), (0, .ref (g.1 + 23)), (3, .long x3), (5, .int x5), (6, .long x6)]) d_Field_leastPoly_145 (by decide) rfl ?_
    refine am_sub [2, 4, 1, 0] rfl ?_
    obtain ⟨n, h⟩ := h
    exact cf_Field_leastPoly_L147_ok (by omega)    P Q hQ  n x5 (0 : Int64) (0 : Int32) w h
  · have h := h.2 c61
    refine am_iload d_Field_leastPoly_64 2 rfl ?_
    refine am_istore (l' := [(9, .int x5), (0, .ref (g.1 + 23)), (3, .long x3), (5, .int x5), (6, .long x6), (8, .int x8)]) d_Field_leastPoly_66 (by decide) rfl ?_
    refine am_sub [1, 2, 3, 4, 5, 0] rfl ?_
    obtain ⟨n, h⟩ := h
    exact cf_Field_leastPoly_L68_ok (by omega)   K57 P Q hQ hK57 n x3 x5 x6 x8 x5 w h
theorem cf_Field_leastPoly_L57_ok {g : ayG} {d : Nat} (hd : 5 ≤ d)    (P : Int64 → Wd → Prop) (Q : Option Value → Wd → Prop) (hQ : ∀ x w2, P x w2 → Q (some (.long x)) w2)  : ∀ (n : Nat) (x3 : Int64) (x5 : Int32) (x6 : Int64) (x8 : Int32) (w : Wd) (h : cf_Field_leastPoly_L57 P n x3 x5 x6 x8 w), wp g (fun _ => True) y_Field_leastPoly prog_4_method_4_code 11 (some FieldType.long) d 57 [(0, .ref (g.1 + 23)), (3, .long x3), (5, .int x5), (6, .long x6), (8, .int x8)] [] w Q
  | 0, x3, x5, x6, x8, w, h => False.elim h
  | n + 1, x3, x5, x6, x8, w, h => cf_Field_leastPoly_B57_ok hd   w (cf_Field_leastPoly_L57 P n) P Q hQ (fun x3 x5 x6 x8 w h => cf_Field_leastPoly_L57_ok hd    P Q hQ  n x3 x5 x6 x8 w h) x3 x5 x6 x8 h
theorem cf_Field_leastPoly_B20_ok {g : ayG} {d : Nat} (hd : 5 ≤ d)   (w : Wd) (K20 : Int64 → Int64 → Int32 → Int32 → Wd → Prop) (P : Int64 → Wd → Prop) (Q : Option Value → Wd → Prop) (hQ : ∀ x w2, P x w2 → Q (some (.long x)) w2) (hK20 : ∀ (x1 : Int64) (x3 : Int64) (x5 : Int32) (x6 : Int32) (w : Wd), (K20 x1 x3 x5 x6 w → wp g (fun _ => True) y_Field_leastPoly prog_4_method_4_code 11 (some FieldType.long) d 20 [(0, .ref (g.1 + 23)), (1, .long x1), (3, .long x3), (5, .int x5), (6, .int x6)] [] w Q)) (x1 : Int64) (x3 : Int64) (x5 : Int32) (x6 : Int32) (h : cf_Field_leastPoly_B20 K20 P x1 x3 x5 x6 w) : wp g (fun _ => True) y_Field_leastPoly prog_4_method_4_code 11 (some FieldType.long) d 20 [(0, .ref (g.1 + 23)), (1, .long x1), (3, .long x3), (5, .int x5), (6, .int x6)] [] w Q := by
  unfold cf_Field_leastPoly_B20 at h
  refine am_iload d_Field_leastPoly_20 4 rfl ?_
  refine am_aload_n d_Field_leastPoly_22 0 rfl ?_
  refine am_getf (T := F_Field) (fs := ob_Field g w 23) (C := R_Field) (N := 2) (ci := 7) 0 d_Field_leastPoly_23 wd_155 rfl (by decide) (el_Field (show ay_sh 23 = _ from rfl)) rfl i_Field (by decide) rfl ?_
  refine am_alen (v := 32) d_Field_leastPoly_26 (show ay_sh 24 = _ from rfl) (by decide) rfl ?_
  refine am_icmp_ge (tgt := 44) d_Field_leastPoly_27 (by decide) (fun c27 => ?_) (fun c27 => ?_)
  · have h := h.1 c27
    refine am_aload_n d_Field_leastPoly_44 0 rfl ?_
    refine am_getf (T := F_Field) (fs := ob_Field g w 23) (C := R_Field) (N := 2) (ci := 7) 0 d_Field_leastPoly_45 wd_155 rfl (by decide) (el_Field (show ay_sh 23 = _ from rfl)) rfl i_Field (by decide) rfl ?_
    refine am_iconst (v := 0) d_Field_leastPoly_48 rfl ?_
    refine am_lconst (v := 1) d_Field_leastPoly_49 rfl ?_
    have hi50 := h.1
    have h := h.2
    refine am_lastore d_Field_leastPoly_50 (show ay_sh 24 = _ from rfl) hi50 ?_
    obtain ⟨w3, ew3⟩ : ∃ z, z = wL w 24 (0 : Int32).toNatClampNeg (1 : Int64) := ⟨_, rfl⟩
    rw [← ew3]
    have h := h w3 ew3
    refine am_lload_n d_Field_leastPoly_51 1 rfl ?_
    refine am_lstore (l' := [(6, .long x1), (0, .ref (g.1 + 23)), (1, .long x1), (3, .long x3), (5, .int x5)]) d_Field_leastPoly_52 (by decide) rfl ?_
    refine am_iconst (v := 0) d_Field_leastPoly_54 rfl ?_
    refine am_istore (l' := [(8, .int (0 : Int32)), (6, .long x1), (0, .ref (g.1 + 23)), (1, .long x1), (3, .long x3), (5, .int x5)]) d_Field_leastPoly_55 (by decide) rfl ?_
    refine am_sub [2, 4, 5, 1, 0] rfl ?_
    obtain ⟨n, h⟩ := h
    exact cf_Field_leastPoly_L57_ok (by omega)    P Q hQ  n x3 x5 x1 (0 : Int32) w3 h
  · have h := h.2 c27
    refine am_aload_n d_Field_leastPoly_30 0 rfl ?_
    refine am_getf (T := F_Field) (fs := ob_Field g w 23) (C := R_Field) (N := 2) (ci := 7) 0 d_Field_leastPoly_31 wd_155 rfl (by decide) (el_Field (show ay_sh 23 = _ from rfl)) rfl i_Field (by decide) rfl ?_
    refine am_iload d_Field_leastPoly_34 4 rfl ?_
    refine am_lconst (v := 0) d_Field_leastPoly_36 rfl ?_
    have hi37 := h.1
    have h := h.2
    refine am_lastore d_Field_leastPoly_37 (show ay_sh 24 = _ from rfl) hi37 ?_
    obtain ⟨w13, ew13⟩ : ∃ z, z = wL w 24 x6.toNatClampNeg (0 : Int64) := ⟨_, rfl⟩
    rw [← ew13]
    have h := h w13 ew13
    obtain ⟨v14, ev14⟩ : ∃ z : Int32, z = x6 + (1 : Int32) := ⟨_, rfl⟩
    have h := h v14 ev14
    refine am_iinc (v := v14) (l' := [(6, .int v14), (0, .ref (g.1 + 23)), (1, .long x1), (3, .long x3), (5, .int x5)]) d_Field_leastPoly_38 4 rfl (by rw [ev14]; rfl) (by decide) rfl ?_
    refine am_goto (tgt := 20) d_Field_leastPoly_41 (by decide) ?_
    refine am_sub [1, 2, 3, 4, 0] rfl ?_
    exact hK20 x1 x3 x5 v14 w13 h
theorem cf_Field_leastPoly_L20_ok {g : ayG} {d : Nat} (hd : 5 ≤ d)    (P : Int64 → Wd → Prop) (Q : Option Value → Wd → Prop) (hQ : ∀ x w2, P x w2 → Q (some (.long x)) w2)  : ∀ (n : Nat) (x1 : Int64) (x3 : Int64) (x5 : Int32) (x6 : Int32) (w : Wd) (h : cf_Field_leastPoly_L20 P n x1 x3 x5 x6 w), wp g (fun _ => True) y_Field_leastPoly prog_4_method_4_code 11 (some FieldType.long) d 20 [(0, .ref (g.1 + 23)), (1, .long x1), (3, .long x3), (5, .int x5), (6, .int x6)] [] w Q
  | 0, x1, x3, x5, x6, w, h => False.elim h
  | n + 1, x1, x3, x5, x6, w, h => cf_Field_leastPoly_B20_ok hd   w (cf_Field_leastPoly_L20 P n) P Q hQ (fun x1 x3 x5 x6 w h => cf_Field_leastPoly_L20_ok hd    P Q hQ  n x1 x3 x5 x6 w h) x1 x3 x5 x6 h
theorem cf_Field_leastPoly_ok {g : ayG} {d : Nat} (hd : 5 ≤ d) (a0 : Int64) (a1 : Int64)  (w : Wd) (P : Int64 → Wd → Prop) (h : cf_Field_leastPoly a0 a1 w P) : Call g y_Field_leastPoly prog_4_method_4_code 11 (some FieldType.long) d [.ref (g.1 + 23), .long a0, .long a1] w (fun (r : Option Value) (w2 : Wd) => ∃ x, r = some (.long x) ∧ P x w2) := by
  unfold cf_Field_leastPoly at h
  refine am_enter mi_Field_leastPoly (Nat.le_of_ble_eq_true rfl) ?_
  have hQ : ∀ x w2, P x w2 → (fun (r : Option Value) (w2 : Wd) => ∃ x, r = some (.long x) ∧ P x w2) (some (.long x)) w2 := fun x w2 h => ⟨x, rfl, h⟩
  generalize (fun (r : Option Value) (w2 : Wd) => ∃ x, r = some (.long x) ∧ P x w2) = Q at hQ ⊢
  show wp g (fun _ => True) y_Field_leastPoly prog_4_method_4_code 11 (some FieldType.long) d 0 [(0, .ref (g.1 + 23)), (1, .long a0), (3, .long a1)] [] w Q
  refine am_lload_n d_Field_leastPoly_0 1 rfl ?_
  refine am_lload_n d_Field_leastPoly_1 2 rfl ?_
  refine am_callS (d2 := d - 1) [.long a0, .long a1] d_Field_leastPoly_2 mi_Field_unlikeConjugates wd_1002 wd_1003 (by omega) rfl rfl (Nat.le_of_ble_eq_true rfl) ?_
  refine Call.post ?_ (cf_Field_unlikeConjugates_ok (by omega) a0 a1  w _ h)
  rintro _ _ ⟨r1, rfl, rfl, h⟩
  show wp g (fun _ => True) y_Field_leastPoly prog_4_method_4_code 11 (some FieldType.long) d 5 [(0, .ref (g.1 + 23)), (1, .long a0), (3, .long a1)] [.int r1] w Q
  refine am_aload_n d_Field_leastPoly_5 0 rfl ?_
  refine am_getf (T := F_Field) (fs := ob_Field g w 23) (C := R_Field) (N := 2) (ci := 7) 0 d_Field_leastPoly_6 wd_155 rfl (by decide) (el_Field (show ay_sh 23 = _ from rfl)) rfl i_Field (by decide) rfl ?_
  refine am_alen (v := 32) d_Field_leastPoly_9 (show ay_sh 24 = _ from rfl) (by decide) rfl ?_
  refine am_iconst (v := 1) d_Field_leastPoly_10 rfl ?_
  refine am_isub d_Field_leastPoly_11 ?_
  refine am_mmin d_Field_leastPoly_12 wd_1006 (by omega) (Nat.le_of_ble_eq_true rfl) ?_
  refine am_topi (fun v2 ev2 => ?_)
  have h := h v2 ev2
  refine am_istore (l' := [(5, .int v2), (0, .ref (g.1 + 23)), (1, .long a0), (3, .long a1)]) d_Field_leastPoly_15 (by decide) rfl ?_
  refine am_iconst (v := 0) d_Field_leastPoly_17 rfl ?_
  refine am_istore (l' := [(6, .int (0 : Int32)), (5, .int v2), (0, .ref (g.1 + 23)), (1, .long a0), (3, .long a1)]) d_Field_leastPoly_18 (by decide) rfl ?_
  refine am_sub [2, 3, 4, 1, 0] rfl ?_
  obtain ⟨n, h⟩ := h
  exact cf_Field_leastPoly_L20_ok (by omega)    P Q hQ  n a0 a1 v2 (0 : Int32) w h
theorem d_Field_findPower_0 : decode prog_4_method_7_code 0 = .ok (.iconst 0, 1) := by decide +kernel
theorem d_Field_findPower_1 : decode prog_4_method_7_code 1 = .ok (.istore_n 3, 1) := by decide +kernel
theorem d_Field_findPower_2 : decode prog_4_method_7_code 2 = .ok (.iload_n 3, 1) := by decide +kernel
theorem d_Field_findPower_3 : decode prog_4_method_7_code 3 = .ok (.aload_n 0, 1) := by decide +kernel
theorem d_Field_findPower_4 : decode prog_4_method_7_code 4 = .ok (.getfield 17, 3) := by decide +kernel
theorem d_Field_findPower_7 : decode prog_4_method_7_code 7 = .ok (.arraylength, 1) := by decide +kernel
theorem d_Field_findPower_8 : decode prog_4_method_7_code 8 = .ok (.if_icmp .ge 22, 3) := by decide +kernel
theorem d_Field_findPower_11 : decode prog_4_method_7_code 11 = .ok (.aload_n 0, 1) := by decide +kernel
theorem d_Field_findPower_12 : decode prog_4_method_7_code 12 = .ok (.getfield 17, 3) := by decide +kernel
theorem d_Field_findPower_15 : decode prog_4_method_7_code 15 = .ok (.iload_n 3, 1) := by decide +kernel
theorem d_Field_findPower_16 : decode prog_4_method_7_code 16 = .ok (.laload, 1) := by decide +kernel
theorem d_Field_findPower_17 : decode prog_4_method_7_code 17 = .ok (.lload_n 1, 1) := by decide +kernel
theorem d_Field_findPower_18 : decode prog_4_method_7_code 18 = .ok (.lcmp, 1) := by decide +kernel
theorem d_Field_findPower_19 : decode prog_4_method_7_code 19 = .ok (.ifCond .ne 5, 3) := by decide +kernel
theorem d_Field_findPower_22 : decode prog_4_method_7_code 22 = .ok (.iload_n 3, 1) := by decide +kernel
theorem d_Field_findPower_23 : decode prog_4_method_7_code 23 = .ok (.ireturn, 1) := by decide +kernel
theorem d_Field_findPower_24 : decode prog_4_method_7_code 24 = .ok (.iinc 3 1, 3) := by decide +kernel
theorem d_Field_findPower_27 : decode prog_4_method_7_code 27 = .ok (.goto (-25), 3) := by decide +kernel
theorem d_Field_findPower_30 : decode prog_4_method_7_code 30 = .ok (.iconst (-1), 1) := by decide +kernel
theorem d_Field_findPower_31 : decode prog_4_method_7_code 31 = .ok (.ireturn, 1) := by decide +kernel
def cf_Field_findPower_B2  (w : Wd) (K2 : Int64 → Int32 → Prop) (P : Int32 → Prop) (x1 : Int64) (x3 : Int32)  : Prop :=
  (((256 : Int32) ≤ x3 → P (-1 : Int32)) ∧ (¬ (256 : Int32) ≤ x3 → vp_in x3 256 ∧ ((¬ (w.2 25 x3.toNatClampNeg) = x1 → ∀ v1, v1 = x3 + (1 : Int32) → K2 x1 v1) ∧ ((w.2 25 x3.toNatClampNeg) = x1 → P x3))))
def cf_Field_findPower_L2  (w : Wd)  (P : Int32 → Prop) : Nat → Int64 → Int32 → Prop
  | 0 => fun x1 x3 => False
  | n + 1 => fun x1 x3 => cf_Field_findPower_B2 w (cf_Field_findPower_L2 w P n) P x1 x3
def cf_Field_findPower (a0 : Int64) (w : Wd) (P : Int32 → Prop) : Prop :=
  ∃ n, cf_Field_findPower_L2 w P n a0 (0 : Int32)
theorem cf_Field_findPower_B2_ok {g : ayG} {d : Nat} (hd : 0 ≤ d)   (w : Wd) (K2 : Int64 → Int32 → Prop) (P : Int32 → Prop) (Q : Option Value → Wd → Prop) (hQ : ∀ x, P x → Q (some (.int x)) w) (hK2 : ∀ (x1 : Int64) (x3 : Int32), (K2 x1 x3 → wp g (fun _ => True) y_Field_findPower prog_4_method_7_code 4 (some FieldType.int) d 2 [(0, .ref (g.1 + 23)), (1, .long x1), (3, .int x3)] [] w Q)) (x1 : Int64) (x3 : Int32) (h : cf_Field_findPower_B2 w K2 P x1 x3) : wp g (fun _ => True) y_Field_findPower prog_4_method_7_code 4 (some FieldType.int) d 2 [(0, .ref (g.1 + 23)), (1, .long x1), (3, .int x3)] [] w Q := by
  unfold cf_Field_findPower_B2 at h
  refine am_iload_n d_Field_findPower_2 2 rfl ?_
  refine am_aload_n d_Field_findPower_3 0 rfl ?_
  refine am_getf (T := F_Field) (fs := ob_Field g w 23) (C := R_Field) (N := 2) (ci := 7) 1 d_Field_findPower_4 wd_156 rfl (by decide) (el_Field (show ay_sh 23 = _ from rfl)) rfl i_Field (by decide) rfl ?_
  refine am_alen (v := 256) d_Field_findPower_7 (show ay_sh 25 = _ from rfl) (by decide) rfl ?_
  refine am_icmp_ge (tgt := 30) d_Field_findPower_8 (by decide) (fun c8 => ?_) (fun c8 => ?_)
  · have h := h.1 c8
    refine am_iconst (v := -1) d_Field_findPower_30 rfl ?_
    exact am_ireturn d_Field_findPower_31 rfl rfl (hQ (-1 : Int32) h)
  · have h := h.2 c8
    refine am_aload_n d_Field_findPower_11 0 rfl ?_
    refine am_getf (T := F_Field) (fs := ob_Field g w 23) (C := R_Field) (N := 2) (ci := 7) 1 d_Field_findPower_12 wd_156 rfl (by decide) (el_Field (show ay_sh 23 = _ from rfl)) rfl i_Field (by decide) rfl ?_
    refine am_iload_n d_Field_findPower_15 2 rfl ?_
    have hi16 := h.1
    have h := h.2
    refine am_laload d_Field_findPower_16 (show ay_sh 25 = _ from rfl) hi16 ?_
    refine am_lload_n d_Field_findPower_17 1 rfl ?_
    refine am_lif_ne (tgt := 24) d_Field_findPower_18 d_Field_findPower_19 (by decide) (fun c18 => ?_) (fun c18 => ?_)
    · have h := h.1 c18
      obtain ⟨v1, ev1⟩ : ∃ z : Int32, z = x3 + (1 : Int32) := ⟨_, rfl⟩
      have h := h v1 ev1
      refine am_iinc (v := v1) (l' := [(3, .int v1), (0, .ref (g.1 + 23)), (1, .long x1)]) d_Field_findPower_24 2 rfl (by rw [ev1]; rfl) (by decide) rfl ?_
      refine am_goto (tgt := 2) d_Field_findPower_27 (by decide) ?_
      refine am_sub [1, 2, 0] rfl ?_
      exact hK2 x1 v1 h
    · have h := h.2 c18
      refine am_iload_n d_Field_findPower_22 2 rfl ?_
      exact am_ireturn d_Field_findPower_23 rfl rfl (hQ x3 h)
theorem cf_Field_findPower_L2_ok {g : ayG} {d : Nat} (hd : 0 ≤ d)   (w : Wd)  (P : Int32 → Prop) (Q : Option Value → Wd → Prop) (hQ : ∀ x, P x → Q (some (.int x)) w)  : ∀ (n : Nat) (x1 : Int64) (x3 : Int32) (h : cf_Field_findPower_L2 w P n x1 x3), wp g (fun _ => True) y_Field_findPower prog_4_method_7_code 4 (some FieldType.int) d 2 [(0, .ref (g.1 + 23)), (1, .long x1), (3, .int x3)] [] w Q
  | 0, x1, x3, h => False.elim h
  | n + 1, x1, x3, h => cf_Field_findPower_B2_ok hd   w (cf_Field_findPower_L2 w P n) P Q hQ (fun x1 x3 h => cf_Field_findPower_L2_ok hd   w  P Q hQ  n x1 x3 h) x1 x3 h
theorem cf_Field_findPower_ok {g : ayG} {d : Nat} (hd : 0 ≤ d) (a0 : Int64)  (w : Wd) (P : Int32 → Prop) (h : cf_Field_findPower a0 w P) : Call g y_Field_findPower prog_4_method_7_code 4 (some FieldType.int) d [.ref (g.1 + 23), .long a0] w (fun (r : Option Value) (w2 : Wd) => ∃ x, r = some (.int x) ∧ w = w2 ∧ P x) := by
  unfold cf_Field_findPower at h
  refine am_enter mi_Field_findPower (Nat.le_of_ble_eq_true rfl) ?_
  have hQ : ∀ x, P x → (fun (r : Option Value) (w2 : Wd) => ∃ x, r = some (.int x) ∧ w = w2 ∧ P x) (some (.int x)) w := fun x h => ⟨x, rfl, rfl, h⟩
  generalize (fun (r : Option Value) (w2 : Wd) => ∃ x, r = some (.int x) ∧ w = w2 ∧ P x) = Q at hQ ⊢
  show wp g (fun _ => True) y_Field_findPower prog_4_method_7_code 4 (some FieldType.int) d 0 [(0, .ref (g.1 + 23)), (1, .long a0)] [] w Q
  refine am_iconst (v := 0) d_Field_findPower_0 rfl ?_
  refine am_istore_n (l' := [(3, .int (0 : Int32)), (0, .ref (g.1 + 23)), (1, .long a0)]) d_Field_findPower_1 (by decide) rfl ?_
  refine am_sub [1, 2, 0] rfl ?_
  obtain ⟨n, h⟩ := h
  exact cf_Field_findPower_L2_ok (by omega)   w  P Q hQ  n a0 (0 : Int32) h
theorem d_Field_logarithm_0 : decode prog_4_method_5_code 0 = .ok (.lload_n 3, 1) := by decide +kernel
theorem d_Field_logarithm_1 : decode prog_4_method_5_code 1 = .ok (.lconst 0, 1) := by decide +kernel
theorem d_Field_logarithm_2 : decode prog_4_method_5_code 2 = .ok (.lcmp, 1) := by decide +kernel
theorem d_Field_logarithm_3 : decode prog_4_method_5_code 3 = .ok (.ifCond .ne 27, 3) := by decide +kernel
theorem d_Field_logarithm_6 : decode prog_4_method_5_code 6 = .ok (.lload_n 1, 1) := by decide +kernel
theorem d_Field_logarithm_7 : decode prog_4_method_5_code 7 = .ok (.lconst 1, 1) := by decide +kernel
theorem d_Field_logarithm_8 : decode prog_4_method_5_code 8 = .ok (.lcmp, 1) := by decide +kernel
theorem d_Field_logarithm_9 : decode prog_4_method_5_code 9 = .ok (.ifCond .ne 7, 3) := by decide +kernel
theorem d_Field_logarithm_12 : decode prog_4_method_5_code 12 = .ok (.lconst 0, 1) := by decide +kernel
theorem d_Field_logarithm_13 : decode prog_4_method_5_code 13 = .ok (.goto 16, 3) := by decide +kernel
theorem d_Field_logarithm_16 : decode prog_4_method_5_code 16 = .ok (.lload_n 1, 1) := by decide +kernel
theorem d_Field_logarithm_17 : decode prog_4_method_5_code 17 = .ok (.lconst 0, 1) := by decide +kernel
theorem d_Field_logarithm_18 : decode prog_4_method_5_code 18 = .ok (.lcmp, 1) := by decide +kernel
theorem d_Field_logarithm_19 : decode prog_4_method_5_code 19 = .ok (.ifCond .ne 7, 3) := by decide +kernel
theorem d_Field_logarithm_22 : decode prog_4_method_5_code 22 = .ok (.lconst 1, 1) := by decide +kernel
theorem d_Field_logarithm_23 : decode prog_4_method_5_code 23 = .ok (.goto 6, 3) := by decide +kernel
theorem d_Field_logarithm_26 : decode prog_4_method_5_code 26 = .ok (.ldc2_w 42, 3) := by decide +kernel
theorem d_Field_logarithm_29 : decode prog_4_method_5_code 29 = .ok (.lreturn, 1) := by decide +kernel
theorem d_Field_logarithm_30 : decode prog_4_method_5_code 30 = .ok (.lload_n 1, 1) := by decide +kernel
theorem d_Field_logarithm_31 : decode prog_4_method_5_code 31 = .ok (.lconst 0, 1) := by decide +kernel
theorem d_Field_logarithm_32 : decode prog_4_method_5_code 32 = .ok (.lcmp, 1) := by decide +kernel
theorem d_Field_logarithm_33 : decode prog_4_method_5_code 33 = .ok (.ifCond .ne 7, 3) := by decide +kernel
theorem d_Field_logarithm_36 : decode prog_4_method_5_code 36 = .ok (.ldc2_w 42, 3) := by decide +kernel
theorem d_Field_logarithm_39 : decode prog_4_method_5_code 39 = .ok (.lreturn, 1) := by decide +kernel
theorem d_Field_logarithm_40 : decode prog_4_method_5_code 40 = .ok (.lconst 1, 1) := by decide +kernel
theorem d_Field_logarithm_41 : decode prog_4_method_5_code 41 = .ok (.lstore 7, 2) := by decide +kernel
theorem d_Field_logarithm_43 : decode prog_4_method_5_code 43 = .ok (.iconst 0, 1) := by decide +kernel
theorem d_Field_logarithm_44 : decode prog_4_method_5_code 44 = .ok (.istore 9, 2) := by decide +kernel
theorem d_Field_logarithm_46 : decode prog_4_method_5_code 46 = .ok (.iload 9, 2) := by decide +kernel
theorem d_Field_logarithm_48 : decode prog_4_method_5_code 48 = .ok (.aload_n 0, 1) := by decide +kernel
theorem d_Field_logarithm_49 : decode prog_4_method_5_code 49 = .ok (.getfield 17, 3) := by decide +kernel
theorem d_Field_logarithm_52 : decode prog_4_method_5_code 52 = .ok (.arraylength, 1) := by decide +kernel
theorem d_Field_logarithm_53 : decode prog_4_method_5_code 53 = .ok (.if_icmp .ge 28, 3) := by decide +kernel
theorem d_Field_logarithm_56 : decode prog_4_method_5_code 56 = .ok (.aload_n 0, 1) := by decide +kernel
theorem d_Field_logarithm_57 : decode prog_4_method_5_code 57 = .ok (.getfield 17, 3) := by decide +kernel
theorem d_Field_logarithm_60 : decode prog_4_method_5_code 60 = .ok (.iload 9, 2) := by decide +kernel
theorem d_Field_logarithm_62 : decode prog_4_method_5_code 62 = .ok (.lload 7, 2) := by decide +kernel
theorem d_Field_logarithm_64 : decode prog_4_method_5_code 64 = .ok (.lastore, 1) := by decide +kernel
theorem d_Field_logarithm_65 : decode prog_4_method_5_code 65 = .ok (.lload 7, 2) := by decide +kernel
theorem d_Field_logarithm_67 : decode prog_4_method_5_code 67 = .ok (.lload_n 3, 1) := by decide +kernel
theorem d_Field_logarithm_68 : decode prog_4_method_5_code 68 = .ok (.lload 5, 2) := by decide +kernel
theorem d_Field_logarithm_70 : decode prog_4_method_5_code 70 = .ok (.invokestatic 38, 3) := by decide +kernel
theorem d_Field_logarithm_73 : decode prog_4_method_5_code 73 = .ok (.lstore 7, 2) := by decide +kernel
theorem d_Field_logarithm_75 : decode prog_4_method_5_code 75 = .ok (.iinc 9 1, 3) := by decide +kernel
theorem d_Field_logarithm_78 : decode prog_4_method_5_code 78 = .ok (.goto (-32), 3) := by decide +kernel
theorem d_Field_logarithm_81 : decode prog_4_method_5_code 81 = .ok (.lload 7, 2) := by decide +kernel
theorem d_Field_logarithm_83 : decode prog_4_method_5_code 83 = .ok (.lload 5, 2) := by decide +kernel
theorem d_Field_logarithm_85 : decode prog_4_method_5_code 85 = .ok (.invokestatic 44, 3) := by decide +kernel
theorem d_Field_logarithm_88 : decode prog_4_method_5_code 88 = .ok (.lstore 9, 2) := by decide +kernel
theorem d_Field_logarithm_90 : decode prog_4_method_5_code 90 = .ok (.lload_n 1, 1) := by decide +kernel
theorem d_Field_logarithm_91 : decode prog_4_method_5_code 91 = .ok (.lstore 11, 2) := by decide +kernel
theorem d_Field_logarithm_93 : decode prog_4_method_5_code 93 = .ok (.iconst 0, 1) := by decide +kernel
theorem d_Field_logarithm_94 : decode prog_4_method_5_code 94 = .ok (.istore 13, 2) := by decide +kernel
theorem d_Field_logarithm_96 : decode prog_4_method_5_code 96 = .ok (.iload 13, 2) := by decide +kernel
theorem d_Field_logarithm_98 : decode prog_4_method_5_code 98 = .ok (.sipush 256, 3) := by decide +kernel
theorem d_Field_logarithm_101 : decode prog_4_method_5_code 101 = .ok (.if_icmp .ge 46, 3) := by decide +kernel
theorem d_Field_logarithm_104 : decode prog_4_method_5_code 104 = .ok (.aload_n 0, 1) := by decide +kernel
theorem d_Field_logarithm_105 : decode prog_4_method_5_code 105 = .ok (.lload 11, 2) := by decide +kernel
theorem d_Field_logarithm_107 : decode prog_4_method_5_code 107 = .ok (.invokevirtual 47, 3) := by decide +kernel
theorem d_Field_logarithm_110 : decode prog_4_method_5_code 110 = .ok (.istore 14, 2) := by decide +kernel
theorem d_Field_logarithm_112 : decode prog_4_method_5_code 112 = .ok (.iload 14, 2) := by decide +kernel
theorem d_Field_logarithm_114 : decode prog_4_method_5_code 114 = .ok (.iconst (-1), 1) := by decide +kernel
theorem d_Field_logarithm_115 : decode prog_4_method_5_code 115 = .ok (.if_icmp .eq 15, 3) := by decide +kernel
theorem d_Field_logarithm_118 : decode prog_4_method_5_code 118 = .ok (.iload 13, 2) := by decide +kernel
theorem d_Field_logarithm_120 : decode prog_4_method_5_code 120 = .ok (.i2l, 1) := by decide +kernel
theorem d_Field_logarithm_121 : decode prog_4_method_5_code 121 = .ok (.ldc2_w 50, 3) := by decide +kernel
theorem d_Field_logarithm_124 : decode prog_4_method_5_code 124 = .ok (.lmul, 1) := by decide +kernel
theorem d_Field_logarithm_125 : decode prog_4_method_5_code 125 = .ok (.iload 14, 2) := by decide +kernel
theorem d_Field_logarithm_127 : decode prog_4_method_5_code 127 = .ok (.i2l, 1) := by decide +kernel
theorem d_Field_logarithm_128 : decode prog_4_method_5_code 128 = .ok (.ladd, 1) := by decide +kernel
theorem d_Field_logarithm_129 : decode prog_4_method_5_code 129 = .ok (.lreturn, 1) := by decide +kernel
theorem d_Field_logarithm_130 : decode prog_4_method_5_code 130 = .ok (.lload 11, 2) := by decide +kernel
theorem d_Field_logarithm_132 : decode prog_4_method_5_code 132 = .ok (.lload 9, 2) := by decide +kernel
theorem d_Field_logarithm_134 : decode prog_4_method_5_code 134 = .ok (.lload 5, 2) := by decide +kernel
theorem d_Field_logarithm_136 : decode prog_4_method_5_code 136 = .ok (.invokestatic 38, 3) := by decide +kernel
theorem d_Field_logarithm_139 : decode prog_4_method_5_code 139 = .ok (.lstore 11, 2) := by decide +kernel
theorem d_Field_logarithm_141 : decode prog_4_method_5_code 141 = .ok (.iinc 13 1, 3) := by decide +kernel
theorem d_Field_logarithm_144 : decode prog_4_method_5_code 144 = .ok (.goto (-48), 3) := by decide +kernel
theorem d_Field_logarithm_147 : decode prog_4_method_5_code 147 = .ok (.ldc2_w 42, 3) := by decide +kernel
theorem d_Field_logarithm_150 : decode prog_4_method_5_code 150 = .ok (.lreturn, 1) := by decide +kernel
def cf_Field_logarithm_B96  (K96 : Int64 → Int64 → Int64 → Int32 → Wd → Prop) (P : Int64 → Wd → Prop) (x5 : Int64) (x9 : Int64) (x11 : Int64) (x13 : Int32) (w : Wd) : Prop :=
  (((256 : Int32) ≤ x13 → P (-1 : Int64) w) ∧ (¬ (256 : Int32) ≤ x13 → cf_Field_findPower x11 w (fun r2 => ((r2 = (-1 : Int32) → cf_Polys_productBy x11 x9 x5 (fun r3 => ∀ v4, v4 = x13 + (1 : Int32) → K96 x5 x9 r3 v4 w)) ∧ (¬ r2 = (-1 : Int32) → P ((x13.toInt64 * (256 : Int64)) + r2.toInt64) w)))))
def cf_Field_logarithm_L96   (P : Int64 → Wd → Prop) : Nat → Int64 → Int64 → Int64 → Int32 → Wd → Prop
  | 0 => fun x5 x9 x11 x13 w => False
  | n + 1 => fun x5 x9 x11 x13 w => cf_Field_logarithm_B96 (cf_Field_logarithm_L96 P n) P x5 x9 x11 x13 w
def cf_Field_logarithm_B46  (K46 : Int64 → Int64 → Int64 → Int64 → Int32 → Wd → Prop) (P : Int64 → Wd → Prop) (x1 : Int64) (x3 : Int64) (x5 : Int64) (x7 : Int64) (x9 : Int32) (w : Wd) : Prop :=
  (((256 : Int32) ≤ x9 → cf_Polys_inverseBy x7 x5 (fun r1 => ∃ n, cf_Field_logarithm_L96 P n x5 r1 x1 (0 : Int32) w)) ∧ (¬ (256 : Int32) ≤ x9 → vp_in x9 256 ∧ ∀ w5, w5 = wL w 25 x9.toNatClampNeg x7 → cf_Polys_productBy x7 x3 x5 (fun r6 => ∀ v7, v7 = x9 + (1 : Int32) → K46 x1 x3 x5 r6 v7 w5)))
def cf_Field_logarithm_L46   (P : Int64 → Wd → Prop) : Nat → Int64 → Int64 → Int64 → Int64 → Int32 → Wd → Prop
  | 0 => fun x1 x3 x5 x7 x9 w => False
  | n + 1 => fun x1 x3 x5 x7 x9 w => cf_Field_logarithm_B46 (cf_Field_logarithm_L46 P n) P x1 x3 x5 x7 x9 w
def cf_Field_logarithm (a0 : Int64) (a1 : Int64) (a2 : Int64) (w : Wd) (P : Int64 → Wd → Prop) : Prop :=
  ((¬ a1 = (0 : Int64) → ((¬ a0 = (0 : Int64) → ∃ n, cf_Field_logarithm_L46 P n a0 a1 a2 (1 : Int64) (0 : Int32) w) ∧ (a0 = (0 : Int64) → P (-1 : Int64) w))) ∧ (a1 = (0 : Int64) → ((¬ a0 = (1 : Int64) → ((¬ a0 = (0 : Int64) → P (-1 : Int64) w) ∧ (a0 = (0 : Int64) → P (1 : Int64) w))) ∧ (a0 = (1 : Int64) → P (0 : Int64) w))))
theorem cf_Field_logarithm_B96_ok {g : ayG} {d : Nat} (hd : 5 ≤ d)   (w : Wd) (K96 : Int64 → Int64 → Int64 → Int32 → Wd → Prop) (P : Int64 → Wd → Prop) (Q : Option Value → Wd → Prop) (hQ : ∀ x w2, P x w2 → Q (some (.long x)) w2) (hK96 : ∀ (x5 : Int64) (x9 : Int64) (x11 : Int64) (x13 : Int32) (w : Wd), (K96 x5 x9 x11 x13 w → wp g (fun _ => True) y_Field_logarithm prog_4_method_5_code 15 (some FieldType.long) d 96 [(0, .ref (g.1 + 23)), (5, .long x5), (9, .long x9), (11, .long x11), (13, .int x13)] [] w Q)) (x5 : Int64) (x9 : Int64) (x11 : Int64) (x13 : Int32) (h : cf_Field_logarithm_B96 K96 P x5 x9 x11 x13 w) : wp g (fun _ => True) y_Field_logarithm prog_4_method_5_code 15 (some FieldType.long) d 96 [(0, .ref (g.1 + 23)), (5, .long x5), (9, .long x9), (11, .long x11), (13, .int x13)] [] w Q := by
  unfold cf_Field_logarithm_B96 at h
  refine am_iload d_Field_logarithm_96 4 rfl ?_
  refine am_sipush (v := 256) d_Field_logarithm_98 rfl ?_
  refine am_icmp_ge (tgt := 147) d_Field_logarithm_101 (by decide) (fun c101 => ?_) (fun c101 => ?_)
  · have h := h.1 c101
    refine am_ldc2 (v := -1) d_Field_logarithm_147 wd_1029 ?_
    exact am_lreturn d_Field_logarithm_150 rfl (hQ (-1 : Int64) w h)
  · have h := h.2 c101
    refine am_aload_n d_Field_logarithm_104 0 rfl ?_
    refine am_lload d_Field_logarithm_105 3 rfl ?_
    refine am_callV (C := y_Field_findPower.cls) (d2 := d - 1) [.long x11] d_Field_logarithm_107 mi_Field_findPower wd_1031 wd_1033 ws_Field_findPower (by decide) (el_Field (show ay_sh 23 = _ from rfl)) rfl rfl (by omega) rfl rfl (Nat.le_of_ble_eq_true rfl) ?_
    refine Call.post ?_ (cf_Field_findPower_ok (by omega) x11  w _ h)
    rintro _ _ ⟨r2, rfl, rfl, h⟩
    show wp g (fun _ => True) y_Field_logarithm prog_4_method_5_code 15 (some FieldType.long) d 110 [(0, .ref (g.1 + 23)), (5, .long x5), (9, .long x9), (11, .long x11), (13, .int x13)] [.int r2] w Q
    refine am_istore (l' := [(14, .int r2), (0, .ref (g.1 + 23)), (5, .long x5), (9, .long x9), (11, .long x11), (13, .int x13)]) d_Field_logarithm_110 (by decide) rfl ?_
    refine am_iload d_Field_logarithm_112 0 rfl ?_
    refine am_iconst (v := -1) d_Field_logarithm_114 rfl ?_
    refine am_icmp_eq (tgt := 130) d_Field_logarithm_115 (by decide) (fun c115 => ?_) (fun c115 => ?_)
    · have h := h.1 c115
      refine am_lload d_Field_logarithm_130 4 rfl ?_
      refine am_lload d_Field_logarithm_132 3 rfl ?_
      refine am_lload d_Field_logarithm_134 2 rfl ?_
      refine am_callS (d2 := d - 1) [.long x11, .long x9, .long x5] d_Field_logarithm_136 mi_Polys_productBy wd_1007 wd_530 (by omega) rfl rfl (Nat.le_of_ble_eq_true rfl) ?_
      refine Call.post ?_ (cf_Polys_productBy_ok (by omega) x11 x9 x5  w _ h)
      rintro _ _ ⟨r3, rfl, rfl, h⟩
      show wp g (fun _ => True) y_Field_logarithm prog_4_method_5_code 15 (some FieldType.long) d 139 [(14, .int r2), (0, .ref (g.1 + 23)), (5, .long x5), (9, .long x9), (11, .long x11), (13, .int x13)] [.long r3] w Q
      refine am_lstore (l' := [(11, .long r3), (14, .int r2), (0, .ref (g.1 + 23)), (5, .long x5), (9, .long x9), (13, .int x13)]) d_Field_logarithm_139 (by decide) rfl ?_
      obtain ⟨v4, ev4⟩ : ∃ z : Int32, z = x13 + (1 : Int32) := ⟨_, rfl⟩
      have h := h v4 ev4
      refine am_iinc (v := v4) (l' := [(13, .int v4), (11, .long r3), (14, .int r2), (0, .ref (g.1 + 23)), (5, .long x5), (9, .long x9)]) d_Field_logarithm_141 5 rfl (by rw [ev4]; rfl) (by decide) rfl ?_
      refine am_goto (tgt := 96) d_Field_logarithm_144 (by decide) ?_
      refine am_sub [3, 4, 5, 1, 0] rfl ?_
      exact hK96 x5 x9 r3 v4 w h
    · have h := h.2 c115
      refine am_iload d_Field_logarithm_118 5 rfl ?_
      refine am_i2l d_Field_logarithm_120 ?_
      refine am_ldc2 (v := 256) d_Field_logarithm_121 wd_1035 ?_
      refine am_lmul d_Field_logarithm_124 ?_
      refine am_iload d_Field_logarithm_125 0 rfl ?_
      refine am_i2l d_Field_logarithm_127 ?_
      refine am_ladd d_Field_logarithm_128 ?_
      exact am_lreturn d_Field_logarithm_129 rfl (hQ ((x13.toInt64 * (256 : Int64)) + r2.toInt64) w h)
theorem cf_Field_logarithm_L96_ok {g : ayG} {d : Nat} (hd : 5 ≤ d)    (P : Int64 → Wd → Prop) (Q : Option Value → Wd → Prop) (hQ : ∀ x w2, P x w2 → Q (some (.long x)) w2)  : ∀ (n : Nat) (x5 : Int64) (x9 : Int64) (x11 : Int64) (x13 : Int32) (w : Wd) (h : cf_Field_logarithm_L96 P n x5 x9 x11 x13 w), wp g (fun _ => True) y_Field_logarithm prog_4_method_5_code 15 (some FieldType.long) d 96 [(0, .ref (g.1 + 23)), (5, .long x5), (9, .long x9), (11, .long x11), (13, .int x13)] [] w Q
  | 0, x5, x9, x11, x13, w, h => False.elim h
  | n + 1, x5, x9, x11, x13, w, h => cf_Field_logarithm_B96_ok hd   w (cf_Field_logarithm_L96 P n) P Q hQ (fun x5 x9 x11 x13 w h => cf_Field_logarithm_L96_ok hd    P Q hQ  n x5 x9 x11 x13 w h) x5 x9 x11 x13 h
theorem cf_Field_logarithm_B46_ok {g : ayG} {d : Nat} (hd : 5 ≤ d)   (w : Wd) (K46 : Int64 → Int64 → Int64 → Int64 → Int32 → Wd → Prop) (P : Int64 → Wd → Prop) (Q : Option Value → Wd → Prop) (hQ : ∀ x w2, P x w2 → Q (some (.long x)) w2) (hK46 : ∀ (x1 : Int64) (x3 : Int64) (x5 : Int64) (x7 : Int64) (x9 : Int32) (w : Wd), (K46 x1 x3 x5 x7 x9 w → wp g (fun _ => True) y_Field_logarithm prog_4_method_5_code 15 (some FieldType.long) d 46 [(0, .ref (g.1 + 23)), (1, .long x1), (3, .long x3), (5, .long x5), (7, .long x7), (9, .int x9)] [] w Q)) (x1 : Int64) (x3 : Int64) (x5 : Int64) (x7 : Int64) (x9 : Int32) (h : cf_Field_logarithm_B46 K46 P x1 x3 x5 x7 x9 w) : wp g (fun _ => True) y_Field_logarithm prog_4_method_5_code 15 (some FieldType.long) d 46 [(0, .ref (g.1 + 23)), (1, .long x1), (3, .long x3), (5, .long x5), (7, .long x7), (9, .int x9)] [] w Q := by
  unfold cf_Field_logarithm_B46 at h
  refine am_iload d_Field_logarithm_46 5 rfl ?_
  refine am_aload_n d_Field_logarithm_48 0 rfl ?_
  refine am_getf (T := F_Field) (fs := ob_Field g w 23) (C := R_Field) (N := 2) (ci := 7) 1 d_Field_logarithm_49 wd_156 rfl (by decide) (el_Field (show ay_sh 23 = _ from rfl)) rfl i_Field (by decide) rfl ?_
  refine am_alen (v := 256) d_Field_logarithm_52 (show ay_sh 25 = _ from rfl) (by decide) rfl ?_
  refine am_icmp_ge (tgt := 81) d_Field_logarithm_53 (by decide) (fun c53 => ?_) (fun c53 => ?_)
  · have h := h.1 c53
    refine am_lload d_Field_logarithm_81 4 rfl ?_
    refine am_lload d_Field_logarithm_83 3 rfl ?_
    refine am_callS (d2 := d - 1) [.long x7, .long x5] d_Field_logarithm_85 mi_Polys_inverseBy wd_1030 wd_537 (by omega) rfl rfl (Nat.le_of_ble_eq_true rfl) ?_
    refine Call.post ?_ (cf_Polys_inverseBy_ok (by omega) x7 x5  w _ h)
    rintro _ _ ⟨r1, rfl, rfl, h⟩
    show wp g (fun _ => True) y_Field_logarithm prog_4_method_5_code 15 (some FieldType.long) d 88 [(0, .ref (g.1 + 23)), (1, .long x1), (3, .long x3), (5, .long x5), (7, .long x7), (9, .int x9)] [.long r1] w Q
    refine am_lstore (l' := [(9, .long r1), (0, .ref (g.1 + 23)), (1, .long x1), (3, .long x3), (5, .long x5), (7, .long x7)]) d_Field_logarithm_88 (by decide) rfl ?_
    refine am_lload_n d_Field_logarithm_90 2 rfl ?_
    refine am_lstore (l' := [(11, .long x1), (9, .long r1), (0, .ref (g.1 + 23)), (1, .long x1), (3, .long x3), (5, .long x5), (7, .long x7)]) d_Field_logarithm_91 (by decide) rfl ?_
    refine am_iconst (v := 0) d_Field_logarithm_93 rfl ?_
    refine am_istore (l' := [(13, .int (0 : Int32)), (11, .long x1), (9, .long r1), (0, .ref (g.1 + 23)), (1, .long x1), (3, .long x3), (5, .long x5), (7, .long x7)]) d_Field_logarithm_94 (by decide) rfl ?_
    refine am_sub [3, 6, 2, 1, 0] rfl ?_
    obtain ⟨n, h⟩ := h
    exact cf_Field_logarithm_L96_ok (by omega)    P Q hQ  n x5 r1 x1 (0 : Int32) w h
  · have h := h.2 c53
    refine am_aload_n d_Field_logarithm_56 0 rfl ?_
    refine am_getf (T := F_Field) (fs := ob_Field g w 23) (C := R_Field) (N := 2) (ci := 7) 1 d_Field_logarithm_57 wd_156 rfl (by decide) (el_Field (show ay_sh 23 = _ from rfl)) rfl i_Field (by decide) rfl ?_
    refine am_iload d_Field_logarithm_60 5 rfl ?_
    refine am_lload d_Field_logarithm_62 4 rfl ?_
    have hi64 := h.1
    have h := h.2
    refine am_lastore d_Field_logarithm_64 (show ay_sh 25 = _ from rfl) hi64 ?_
    obtain ⟨w5, ew5⟩ : ∃ z, z = wL w 25 x9.toNatClampNeg x7 := ⟨_, rfl⟩
    rw [← ew5]
    have h := h w5 ew5
    refine am_lload d_Field_logarithm_65 4 rfl ?_
    refine am_lload_n d_Field_logarithm_67 2 rfl ?_
    refine am_lload d_Field_logarithm_68 3 rfl ?_
    refine am_callS (d2 := d - 1) [.long x7, .long x3, .long x5] d_Field_logarithm_70 mi_Polys_productBy wd_1007 wd_530 (by omega) rfl rfl (Nat.le_of_ble_eq_true rfl) ?_
    refine Call.post ?_ (cf_Polys_productBy_ok (by omega) x7 x3 x5  w5 _ h)
    rintro _ _ ⟨r6, rfl, rfl, h⟩
    show wp g (fun _ => True) y_Field_logarithm prog_4_method_5_code 15 (some FieldType.long) d 73 [(0, .ref (g.1 + 23)), (1, .long x1), (3, .long x3), (5, .long x5), (7, .long x7), (9, .int x9)] [.long r6] w5 Q
    refine am_lstore (l' := [(7, .long r6), (0, .ref (g.1 + 23)), (1, .long x1), (3, .long x3), (5, .long x5), (9, .int x9)]) d_Field_logarithm_73 (by decide) rfl ?_
    obtain ⟨v7, ev7⟩ : ∃ z : Int32, z = x9 + (1 : Int32) := ⟨_, rfl⟩
    have h := h v7 ev7
    refine am_iinc (v := v7) (l' := [(9, .int v7), (7, .long r6), (0, .ref (g.1 + 23)), (1, .long x1), (3, .long x3), (5, .long x5)]) d_Field_logarithm_75 5 rfl (by rw [ev7]; rfl) (by decide) rfl ?_
    refine am_goto (tgt := 46) d_Field_logarithm_78 (by decide) ?_
    refine am_sub [2, 3, 4, 5, 1, 0] rfl ?_
    exact hK46 x1 x3 x5 r6 v7 w5 h
theorem cf_Field_logarithm_L46_ok {g : ayG} {d : Nat} (hd : 5 ≤ d)    (P : Int64 → Wd → Prop) (Q : Option Value → Wd → Prop) (hQ : ∀ x w2, P x w2 → Q (some (.long x)) w2)  : ∀ (n : Nat) (x1 : Int64) (x3 : Int64) (x5 : Int64) (x7 : Int64) (x9 : Int32) (w : Wd) (h : cf_Field_logarithm_L46 P n x1 x3 x5 x7 x9 w), wp g (fun _ => True) y_Field_logarithm prog_4_method_5_code 15 (some FieldType.long) d 46 [(0, .ref (g.1 + 23)), (1, .long x1), (3, .long x3), (5, .long x5), (7, .long x7), (9, .int x9)] [] w Q
  | 0, x1, x3, x5, x7, x9, w, h => False.elim h
  | n + 1, x1, x3, x5, x7, x9, w, h => cf_Field_logarithm_B46_ok hd   w (cf_Field_logarithm_L46 P n) P Q hQ (fun x1 x3 x5 x7 x9 w h => cf_Field_logarithm_L46_ok hd    P Q hQ  n x1 x3 x5 x7 x9 w h) x1 x3 x5 x7 x9 h
theorem cf_Field_logarithm_ok {g : ayG} {d : Nat} (hd : 5 ≤ d) (a0 : Int64) (a1 : Int64) (a2 : Int64)  (w : Wd) (P : Int64 → Wd → Prop) (h : cf_Field_logarithm a0 a1 a2 w P) : Call g y_Field_logarithm prog_4_method_5_code 15 (some FieldType.long) d [.ref (g.1 + 23), .long a0, .long a1, .long a2] w (fun (r : Option Value) (w2 : Wd) => ∃ x, r = some (.long x) ∧ P x w2) := by
  unfold cf_Field_logarithm at h
  refine am_enter mi_Field_logarithm (Nat.le_of_ble_eq_true rfl) ?_
  have hQ : ∀ x w2, P x w2 → (fun (r : Option Value) (w2 : Wd) => ∃ x, r = some (.long x) ∧ P x w2) (some (.long x)) w2 := fun x w2 h => ⟨x, rfl, h⟩
  generalize (fun (r : Option Value) (w2 : Wd) => ∃ x, r = some (.long x) ∧ P x w2) = Q at hQ ⊢
  show wp g (fun _ => True) y_Field_logarithm prog_4_method_5_code 15 (some FieldType.long) d 0 [(0, .ref (g.1 + 23)), (1, .long a0), (3, .long a1), (5, .long a2)] [] w Q
  refine am_lload_n d_Field_logarithm_0 2 rfl ?_
  refine am_lconst (v := 0) d_Field_logarithm_1 rfl ?_
  refine am_lif_ne (tgt := 30) d_Field_logarithm_2 d_Field_logarithm_3 (by decide) (fun c2 => ?_) (fun c2 => ?_)
  · have h := h.1 c2
    refine am_lload_n d_Field_logarithm_30 1 rfl ?_
    refine am_lconst (v := 0) d_Field_logarithm_31 rfl ?_
    refine am_lif_ne (tgt := 40) d_Field_logarithm_32 d_Field_logarithm_33 (by decide) (fun c32 => ?_) (fun c32 => ?_)
    · have h := h.1 c32
      refine am_lconst (v := 1) d_Field_logarithm_40 rfl ?_
      refine am_lstore (l' := [(7, .long (1 : Int64)), (0, .ref (g.1 + 23)), (1, .long a0), (3, .long a1), (5, .long a2)]) d_Field_logarithm_41 (by decide) rfl ?_
      refine am_iconst (v := 0) d_Field_logarithm_43 rfl ?_
      refine am_istore (l' := [(9, .int (0 : Int32)), (7, .long (1 : Int64)), (0, .ref (g.1 + 23)), (1, .long a0), (3, .long a1), (5, .long a2)]) d_Field_logarithm_44 (by decide) rfl ?_
      refine am_sub [2, 3, 4, 5, 1, 0] rfl ?_
      obtain ⟨n, h⟩ := h
      exact cf_Field_logarithm_L46_ok (by omega)    P Q hQ  n a0 a1 a2 (1 : Int64) (0 : Int32) w h
    · have h := h.2 c32
      refine am_ldc2 (v := -1) d_Field_logarithm_36 wd_1029 ?_
      exact am_lreturn d_Field_logarithm_39 rfl (hQ (-1 : Int64) w h)
  · have h := h.2 c2
    refine am_lload_n d_Field_logarithm_6 1 rfl ?_
    refine am_lconst (v := 1) d_Field_logarithm_7 rfl ?_
    refine am_lif_ne (tgt := 16) d_Field_logarithm_8 d_Field_logarithm_9 (by decide) (fun c8 => ?_) (fun c8 => ?_)
    · have h := h.1 c8
      refine am_lload_n d_Field_logarithm_16 1 rfl ?_
      refine am_lconst (v := 0) d_Field_logarithm_17 rfl ?_
      refine am_lif_ne (tgt := 26) d_Field_logarithm_18 d_Field_logarithm_19 (by decide) (fun c18 => ?_) (fun c18 => ?_)
      · have h := h.1 c18
        refine am_ldc2 (v := -1) d_Field_logarithm_26 wd_1029 ?_
        exact am_lreturn d_Field_logarithm_29 rfl (hQ (-1 : Int64) w h)
      · have h := h.2 c18
        refine am_lconst (v := 1) d_Field_logarithm_22 rfl ?_
        refine am_goto (tgt := 29) d_Field_logarithm_23 (by decide) ?_
        exact am_lreturn d_Field_logarithm_29 rfl (hQ (1 : Int64) w h)
    · have h := h.2 c8
      refine am_lconst (v := 0) d_Field_logarithm_12 rfl ?_
      refine am_goto (tgt := 29) d_Field_logarithm_13 (by decide) ?_
      exact am_lreturn d_Field_logarithm_29 rfl (hQ (0 : Int64) w h)
theorem d_Field_countRoots_0 : decode prog_4_method_6_code 0 = .ok (.lload_n 0, 1) := by decide +kernel
theorem d_Field_countRoots_1 : decode prog_4_method_6_code 1 = .ok (.lconst 0, 1) := by decide +kernel
theorem d_Field_countRoots_2 : decode prog_4_method_6_code 2 = .ok (.lcmp, 1) := by decide +kernel
theorem d_Field_countRoots_3 : decode prog_4_method_6_code 3 = .ok (.ifCond .ne 7, 3) := by decide +kernel
theorem d_Field_countRoots_6 : decode prog_4_method_6_code 6 = .ok (.iconst 1, 1) := by decide +kernel
theorem d_Field_countRoots_7 : decode prog_4_method_6_code 7 = .ok (.iload_n 2, 1) := by decide +kernel
theorem d_Field_countRoots_8 : decode prog_4_method_6_code 8 = .ok (.ishl, 1) := by decide +kernel
theorem d_Field_countRoots_9 : decode prog_4_method_6_code 9 = .ok (.ireturn, 1) := by decide +kernel
theorem d_Field_countRoots_10 : decode prog_4_method_6_code 10 = .ok (.ldc2_w 52, 3) := by decide +kernel
theorem d_Field_countRoots_13 : decode prog_4_method_6_code 13 = .ok (.lload_n 0, 1) := by decide +kernel
theorem d_Field_countRoots_14 : decode prog_4_method_6_code 14 = .ok (.invokestatic 54, 3) := by decide +kernel
theorem d_Field_countRoots_17 : decode prog_4_method_6_code 17 = .ok (.lstore_n 3, 1) := by decide +kernel
theorem d_Field_countRoots_18 : decode prog_4_method_6_code 18 = .ok (.iconst 0, 1) := by decide +kernel
theorem d_Field_countRoots_19 : decode prog_4_method_6_code 19 = .ok (.istore 5, 2) := by decide +kernel
theorem d_Field_countRoots_21 : decode prog_4_method_6_code 21 = .ok (.iload 5, 2) := by decide +kernel
theorem d_Field_countRoots_23 : decode prog_4_method_6_code 23 = .ok (.iload_n 2, 1) := by decide +kernel
theorem d_Field_countRoots_24 : decode prog_4_method_6_code 24 = .ok (.if_icmp .ge 15, 3) := by decide +kernel
theorem d_Field_countRoots_27 : decode prog_4_method_6_code 27 = .ok (.lload_n 3, 1) := by decide +kernel
theorem d_Field_countRoots_28 : decode prog_4_method_6_code 28 = .ok (.lload_n 0, 1) := by decide +kernel
theorem d_Field_countRoots_29 : decode prog_4_method_6_code 29 = .ok (.invokestatic 20, 3) := by decide +kernel
theorem d_Field_countRoots_32 : decode prog_4_method_6_code 32 = .ok (.lstore_n 3, 1) := by decide +kernel
theorem d_Field_countRoots_33 : decode prog_4_method_6_code 33 = .ok (.iinc 5 1, 3) := by decide +kernel
theorem d_Field_countRoots_36 : decode prog_4_method_6_code 36 = .ok (.goto (-15), 3) := by decide +kernel
theorem d_Field_countRoots_39 : decode prog_4_method_6_code 39 = .ok (.lload_n 0, 1) := by decide +kernel
theorem d_Field_countRoots_40 : decode prog_4_method_6_code 40 = .ok (.lload_n 3, 1) := by decide +kernel
theorem d_Field_countRoots_41 : decode prog_4_method_6_code 41 = .ok (.ldc2_w 52, 3) := by decide +kernel
theorem d_Field_countRoots_44 : decode prog_4_method_6_code 44 = .ok (.lxor, 1) := by decide +kernel
theorem d_Field_countRoots_45 : decode prog_4_method_6_code 45 = .ok (.invokestatic 57, 3) := by decide +kernel
theorem d_Field_countRoots_48 : decode prog_4_method_6_code 48 = .ok (.invokestatic 24, 3) := by decide +kernel
theorem d_Field_countRoots_51 : decode prog_4_method_6_code 51 = .ok (.ireturn, 1) := by decide +kernel
def cf_Field_countRoots_B21  (K21 : Int64 → Int32 → Int64 → Int32 → Prop) (P : Int32 → Prop) (x0 : Int64) (x2 : Int32) (x3 : Int64) (x5 : Int32)  : Prop :=
  ((x2 ≤ x5 → cf_Polys_gcd x0 (x3 ^^^ (2 : Int64)) (fun r2 => cf_Polys_degree r2 (fun r3 => P r3))) ∧ (¬ x2 ≤ x5 → cf_Polys_squareBy x3 x0 (fun r4 => ∀ v5, v5 = x5 + (1 : Int32) → K21 x0 x2 r4 v5)))
def cf_Field_countRoots_L21   (P : Int32 → Prop) : Nat → Int64 → Int32 → Int64 → Int32 → Prop
  | 0 => fun x0 x2 x3 x5 => False
  | n + 1 => fun x0 x2 x3 x5 => cf_Field_countRoots_B21 (cf_Field_countRoots_L21 P n) P x0 x2 x3 x5
def cf_Field_countRoots (a0 : Int64) (a1 : Int32) (P : Int32 → Prop) : Prop :=
  ((¬ a0 = (0 : Int64) → cf_Polys_remainder (2 : Int64) a0 (fun r1 => ∃ n, cf_Field_countRoots_L21 P n a0 a1 r1 (0 : Int32))) ∧ (a0 = (0 : Int64) → P (ishl (1 : Int32) a1)))
theorem cf_Field_countRoots_B21_ok {g : ayG} {d : Nat} (hd : 4 ≤ d)   (w : Wd) (K21 : Int64 → Int32 → Int64 → Int32 → Prop) (P : Int32 → Prop) (Q : Option Value → Wd → Prop) (hQ : ∀ x, P x → Q (some (.int x)) w) (hK21 : ∀ (x0 : Int64) (x2 : Int32) (x3 : Int64) (x5 : Int32), (K21 x0 x2 x3 x5 → wp g (fun _ => True) y_Field_countRoots prog_4_method_6_code 6 (some FieldType.int) d 21 [(0, .long x0), (2, .int x2), (3, .long x3), (5, .int x5)] [] w Q)) (x0 : Int64) (x2 : Int32) (x3 : Int64) (x5 : Int32) (h : cf_Field_countRoots_B21 K21 P x0 x2 x3 x5) : wp g (fun _ => True) y_Field_countRoots prog_4_method_6_code 6 (some FieldType.int) d 21 [(0, .long x0), (2, .int x2), (3, .long x3), (5, .int x5)] [] w Q := by
  unfold cf_Field_countRoots_B21 at h
  refine am_iload d_Field_countRoots_21 3 rfl ?_
  refine am_iload_n d_Field_countRoots_23 1 rfl ?_
  refine am_icmp_ge (tgt := 39) d_Field_countRoots_24 (by decide) (fun c24 => ?_) (fun c24 => ?_)
  · have h := h.1 c24
    refine am_lload_n d_Field_countRoots_39 0 rfl ?_
    refine am_lload_n d_Field_countRoots_40 2 rfl ?_
    refine am_ldc2 (v := 2) d_Field_countRoots_41 wd_1044 ?_
    refine am_lxor d_Field_countRoots_44 ?_
    refine am_callS (d2 := d - 1) [.long x0, .long (x3 ^^^ (2 : Int64))] d_Field_countRoots_45 mi_Polys_gcd wd_1046 wd_493 (by omega) rfl rfl (Nat.le_of_ble_eq_true rfl) ?_
    refine Call.post ?_ (cf_Polys_gcd_ok (by omega) x0 (x3 ^^^ (2 : Int64))  w _ h)
    rintro _ _ ⟨r2, rfl, rfl, h⟩
    show wp g (fun _ => True) y_Field_countRoots prog_4_method_6_code 6 (some FieldType.int) d 48 [(0, .long x0), (2, .int x2), (3, .long x3), (5, .int x5)] [.long r2] w Q
    refine am_callS (d2 := d - 1) [.long r2] d_Field_countRoots_48 mi_Polys_degree wd_1015 wd_391 (by omega) rfl rfl (Nat.le_of_ble_eq_true rfl) ?_
    refine Call.post ?_ (cf_Polys_degree_ok (by omega) r2  w _ h)
    rintro _ _ ⟨r3, rfl, rfl, h⟩
    show wp g (fun _ => True) y_Field_countRoots prog_4_method_6_code 6 (some FieldType.int) d 51 [(0, .long x0), (2, .int x2), (3, .long x3), (5, .int x5)] [.int r3] w Q
    exact am_ireturn d_Field_countRoots_51 rfl rfl (hQ r3 h)
  · have h := h.2 c24
    refine am_lload_n d_Field_countRoots_27 2 rfl ?_
    refine am_lload_n d_Field_countRoots_28 0 rfl ?_
    refine am_callS (d2 := d - 1) [.long x3, .long x0] d_Field_countRoots_29 mi_Polys_squareBy wd_1005 wd_649 (by omega) rfl rfl (Nat.le_of_ble_eq_true rfl) ?_
    refine Call.post ?_ (cf_Polys_squareBy_ok (by omega) x3 x0  w _ h)
    rintro _ _ ⟨r4, rfl, rfl, h⟩
    show wp g (fun _ => True) y_Field_countRoots prog_4_method_6_code 6 (some FieldType.int) d 32 [(0, .long x0), (2, .int x2), (3, .long x3), (5, .int x5)] [.long r4] w Q
    refine am_lstore_n (l' := [(3, .long r4), (0, .long x0), (2, .int x2), (5, .int x5)]) d_Field_countRoots_32 (by decide) rfl ?_
    obtain ⟨v5, ev5⟩ : ∃ z : Int32, z = x5 + (1 : Int32) := ⟨_, rfl⟩
    have h := h v5 ev5
    refine am_iinc (v := v5) (l' := [(5, .int v5), (3, .long r4), (0, .long x0), (2, .int x2)]) d_Field_countRoots_33 3 rfl (by rw [ev5]; rfl) (by decide) rfl ?_
    refine am_goto (tgt := 21) d_Field_countRoots_36 (by decide) ?_
    refine am_sub [2, 3, 1, 0] rfl ?_
    exact hK21 x0 x2 r4 v5 h
theorem cf_Field_countRoots_L21_ok {g : ayG} {d : Nat} (hd : 4 ≤ d)   (w : Wd)  (P : Int32 → Prop) (Q : Option Value → Wd → Prop) (hQ : ∀ x, P x → Q (some (.int x)) w)  : ∀ (n : Nat) (x0 : Int64) (x2 : Int32) (x3 : Int64) (x5 : Int32) (h : cf_Field_countRoots_L21 P n x0 x2 x3 x5), wp g (fun _ => True) y_Field_countRoots prog_4_method_6_code 6 (some FieldType.int) d 21 [(0, .long x0), (2, .int x2), (3, .long x3), (5, .int x5)] [] w Q
  | 0, x0, x2, x3, x5, h => False.elim h
  | n + 1, x0, x2, x3, x5, h => cf_Field_countRoots_B21_ok hd   w (cf_Field_countRoots_L21 P n) P Q hQ (fun x0 x2 x3 x5 h => cf_Field_countRoots_L21_ok hd   w  P Q hQ  n x0 x2 x3 x5 h) x0 x2 x3 x5 h
theorem cf_Field_countRoots_ok {g : ayG} {d : Nat} (hd : 4 ≤ d) (a0 : Int64) (a1 : Int32)  (w : Wd) (P : Int32 → Prop) (h : cf_Field_countRoots a0 a1 P) : Call g y_Field_countRoots prog_4_method_6_code 6 (some FieldType.int) d [.long a0, .int a1] w (fun (r : Option Value) (w2 : Wd) => ∃ x, r = some (.int x) ∧ w = w2 ∧ P x) := by
  unfold cf_Field_countRoots at h
  refine am_enter mi_Field_countRoots (Nat.le_of_ble_eq_true rfl) ?_
  have hQ : ∀ x, P x → (fun (r : Option Value) (w2 : Wd) => ∃ x, r = some (.int x) ∧ w = w2 ∧ P x) (some (.int x)) w := fun x h => ⟨x, rfl, rfl, h⟩
  generalize (fun (r : Option Value) (w2 : Wd) => ∃ x, r = some (.int x) ∧ w = w2 ∧ P x) = Q at hQ ⊢
  show wp g (fun _ => True) y_Field_countRoots prog_4_method_6_code 6 (some FieldType.int) d 0 [(0, .long a0), (2, .int a1)] [] w Q
  refine am_lload_n d_Field_countRoots_0 0 rfl ?_
  refine am_lconst (v := 0) d_Field_countRoots_1 rfl ?_
  refine am_lif_ne (tgt := 10) d_Field_countRoots_2 d_Field_countRoots_3 (by decide) (fun c2 => ?_) (fun c2 => ?_)
  · have h := h.1 c2
    refine am_ldc2 (v := 2) d_Field_countRoots_10 wd_1044 ?_
    refine am_lload_n d_Field_countRoots_13 0 rfl ?_
    refine am_callS (d2 := d - 1) [.long (2 : Int64), .long a0] d_Field_countRoots_14 mi_Polys_remainder wd_1045 wd_486 (by omega) rfl rfl (Nat.le_of_ble_eq_true rfl) ?_
    refine Call.post ?_ (cf_Polys_remainder_ok (by omega) (2 : Int64) a0  w _ h)
    rintro _ _ ⟨r1, rfl, rfl, h⟩
    show wp g (fun _ => True) y_Field_countRoots prog_4_method_6_code 6 (some FieldType.int) d 17 [(0, .long a0), (2, .int a1)] [.long r1] w Q
    refine am_lstore_n (l' := [(3, .long r1), (0, .long a0), (2, .int a1)]) d_Field_countRoots_17 (by decide) rfl ?_
    refine am_iconst (v := 0) d_Field_countRoots_18 rfl ?_
    refine am_istore (l' := [(5, .int (0 : Int32)), (3, .long r1), (0, .long a0), (2, .int a1)]) d_Field_countRoots_19 (by decide) rfl ?_
    refine am_sub [2, 3, 1, 0] rfl ?_
    obtain ⟨n, h⟩ := h
    exact cf_Field_countRoots_L21_ok (by omega)   w  P Q hQ  n a0 a1 r1 (0 : Int32) h
  · have h := h.2 c2
    refine am_iconst (v := 1) d_Field_countRoots_6 rfl ?_
    refine am_iload_n d_Field_countRoots_7 1 rfl ?_
    refine am_ishl d_Field_countRoots_8 ?_
    exact am_ireturn d_Field_countRoots_9 rfl rfl (hQ (ishl (1 : Int32) a1) h)
