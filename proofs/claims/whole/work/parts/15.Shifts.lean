-- bytecode as predicates, by program (wip/whole/gen/extract.py)
theorem mi_Shifts_sumOf : ay_MI y_Shifts_sumOf prog_10_method_4_code 2 (some FieldType.long) 1 := ⟨wd_580, wd_21, by decide +kernel, by decide +kernel, by decide⟩
theorem mi_Shifts_after : ay_MI y_Shifts_after prog_10_method_2_code 5 (some FieldType.long) 2 := ⟨wd_576, wd_21, by decide +kernel, by decide +kernel, by decide⟩
theorem mi_Shifts_behind : ay_MI y_Shifts_behind prog_10_method_3_code 12 (some FieldType.long) 3 := ⟨wd_598, wd_21, by decide +kernel, by decide +kernel, by decide⟩
theorem mi_Shifts_breaks : ay_MI y_Shifts_breaks prog_10_method_6_code 9 (some FieldType.boolean) 4 := ⟨wd_906, wd_21, by decide +kernel, by decide +kernel, by decide⟩
theorem mi_Shifts_shortestRule : ay_MI y_Shifts_shortestRule prog_10_method_5_code 12 (some FieldType.long) 2 := ⟨wd_903, wd_21, by decide +kernel, by decide +kernel, by decide⟩
theorem d_Shifts_sumOf_0 : decode prog_10_method_4_code 0 = .ok (.lload_n 0, 1) := by decide +kernel
theorem d_Shifts_sumOf_1 : decode prog_10_method_4_code 1 = .ok (.invokestatic 29, 3) := by decide +kernel
theorem d_Shifts_sumOf_4 : decode prog_10_method_4_code 4 = .ok (.iconst 1, 1) := by decide +kernel
theorem d_Shifts_sumOf_5 : decode prog_10_method_4_code 5 = .ok (.iand, 1) := by decide +kernel
theorem d_Shifts_sumOf_6 : decode prog_10_method_4_code 6 = .ok (.i2l, 1) := by decide +kernel
theorem d_Shifts_sumOf_7 : decode prog_10_method_4_code 7 = .ok (.lreturn, 1) := by decide +kernel
def cf_Shifts_sumOf (a0 : Int64) (P : Int64 → Prop) : Prop :=
  cf_Long_bitCount a0 (fun r1 => P ((r1 &&& (1 : Int32)).toInt64))
theorem cf_Shifts_sumOf_ok {g : ayG} {d : Nat} (hd : 1 ≤ d) (a0 : Int64)  (w : Wd) (P : Int64 → Prop) (h : cf_Shifts_sumOf a0 P) : Call g y_Shifts_sumOf prog_10_method_4_code 2 (some FieldType.long) d [.long a0] w (fun (r : Option Value) (w2 : Wd) => ∃ x, r = some (.long x) ∧ w = w2 ∧ P x) := by
  unfold cf_Shifts_sumOf at h
  refine am_enter mi_Shifts_sumOf (Nat.le_of_ble_eq_true rfl) ?_
  have hQ : ∀ x, P x → (fun (r : Option Value) (w2 : Wd) => ∃ x, r = some (.long x) ∧ w = w2 ∧ P x) (some (.long x)) w := fun x h => ⟨x, rfl, rfl, h⟩
  generalize (fun (r : Option Value) (w2 : Wd) => ∃ x, r = some (.long x) ∧ w = w2 ∧ P x) = Q at hQ ⊢
  show wp g (fun _ => True) y_Shifts_sumOf prog_10_method_4_code 2 (some FieldType.long) d 0 [(0, .long a0)] [] w Q
  refine am_lload_n d_Shifts_sumOf_0 0 rfl ?_
  refine am_callS (d2 := d - 1) [.long a0] d_Shifts_sumOf_1 mi_Long_bitCount wd_581 wd_582 (by omega) rfl rfl (Nat.le_of_ble_eq_true rfl) ?_
  refine Call.post ?_ (cf_Long_bitCount_ok (by omega) a0  w _ h)
  rintro _ _ ⟨r1, rfl, rfl, h⟩
  show wp g (fun _ => True) y_Shifts_sumOf prog_10_method_4_code 2 (some FieldType.long) d 4 [(0, .long a0)] [.int r1] w Q
  refine am_iconst (v := 1) d_Shifts_sumOf_4 rfl ?_
  refine am_iand d_Shifts_sumOf_5 ?_
  refine am_i2l d_Shifts_sumOf_6 ?_
  exact am_lreturn d_Shifts_sumOf_7 rfl (hQ ((r1 &&& (1 : Int32)).toInt64) h)
theorem d_Shifts_after_0 : decode prog_10_method_2_code 0 = .ok (.lload_n 0, 1) := by decide +kernel
theorem d_Shifts_after_1 : decode prog_10_method_2_code 1 = .ok (.invokestatic 7, 3) := by decide +kernel
theorem d_Shifts_after_4 : decode prog_10_method_2_code 4 = .ok (.istore 4, 2) := by decide +kernel
theorem d_Shifts_after_6 : decode prog_10_method_2_code 6 = .ok (.lload_n 2, 1) := by decide +kernel
theorem d_Shifts_after_7 : decode prog_10_method_2_code 7 = .ok (.iconst 1, 1) := by decide +kernel
theorem d_Shifts_after_8 : decode prog_10_method_2_code 8 = .ok (.lshr, 1) := by decide +kernel
theorem d_Shifts_after_9 : decode prog_10_method_2_code 9 = .ok (.lload_n 0, 1) := by decide +kernel
theorem d_Shifts_after_10 : decode prog_10_method_2_code 10 = .ok (.lload_n 2, 1) := by decide +kernel
theorem d_Shifts_after_11 : decode prog_10_method_2_code 11 = .ok (.land, 1) := by decide +kernel
theorem d_Shifts_after_12 : decode prog_10_method_2_code 12 = .ok (.invokestatic 13, 3) := by decide +kernel
theorem d_Shifts_after_15 : decode prog_10_method_2_code 15 = .ok (.iload 4, 2) := by decide +kernel
theorem d_Shifts_after_17 : decode prog_10_method_2_code 17 = .ok (.iconst 1, 1) := by decide +kernel
theorem d_Shifts_after_18 : decode prog_10_method_2_code 18 = .ok (.isub, 1) := by decide +kernel
theorem d_Shifts_after_19 : decode prog_10_method_2_code 19 = .ok (.lshl, 1) := by decide +kernel
theorem d_Shifts_after_20 : decode prog_10_method_2_code 20 = .ok (.lor, 1) := by decide +kernel
theorem d_Shifts_after_21 : decode prog_10_method_2_code 21 = .ok (.lreturn, 1) := by decide +kernel
def cf_Shifts_after (a0 : Int64) (a1 : Int64) (P : Int64 → Prop) : Prop :=
  cf_Polys_degree a0 (fun r1 => cf_Shifts_sumOf (a0 &&& a1) (fun r2 => P ((lshr a1 (1 : Int32)) ||| (lshl r2 (r1 - (1 : Int32))))))
theorem cf_Shifts_after_ok {g : ayG} {d : Nat} (hd : 3 ≤ d) (a0 : Int64) (a1 : Int64)  (w : Wd) (P : Int64 → Prop) (h : cf_Shifts_after a0 a1 P) : Call g y_Shifts_after prog_10_method_2_code 5 (some FieldType.long) d [.long a0, .long a1] w (fun (r : Option Value) (w2 : Wd) => ∃ x, r = some (.long x) ∧ w = w2 ∧ P x) := by
  unfold cf_Shifts_after at h
  refine am_enter mi_Shifts_after (Nat.le_of_ble_eq_true rfl) ?_
  have hQ : ∀ x, P x → (fun (r : Option Value) (w2 : Wd) => ∃ x, r = some (.long x) ∧ w = w2 ∧ P x) (some (.long x)) w := fun x h => ⟨x, rfl, rfl, h⟩
  generalize (fun (r : Option Value) (w2 : Wd) => ∃ x, r = some (.long x) ∧ w = w2 ∧ P x) = Q at hQ ⊢
  show wp g (fun _ => True) y_Shifts_after prog_10_method_2_code 5 (some FieldType.long) d 0 [(0, .long a0), (2, .long a1)] [] w Q
  refine am_lload_n d_Shifts_after_0 0 rfl ?_
  refine am_callS (d2 := d - 1) [.long a0] d_Shifts_after_1 mi_Polys_degree wd_577 wd_391 (by omega) rfl rfl (Nat.le_of_ble_eq_true rfl) ?_
  refine Call.post ?_ (cf_Polys_degree_ok (by omega) a0  w _ h)
  rintro _ _ ⟨r1, rfl, rfl, h⟩
  show wp g (fun _ => True) y_Shifts_after prog_10_method_2_code 5 (some FieldType.long) d 4 [(0, .long a0), (2, .long a1)] [.int r1] w Q
  refine am_istore (l' := [(4, .int r1), (0, .long a0), (2, .long a1)]) d_Shifts_after_4 (by decide) rfl ?_
  refine am_lload_n d_Shifts_after_6 2 rfl ?_
  refine am_iconst (v := 1) d_Shifts_after_7 rfl ?_
  refine am_lshr d_Shifts_after_8 ?_
  refine am_lload_n d_Shifts_after_9 1 rfl ?_
  refine am_lload_n d_Shifts_after_10 2 rfl ?_
  refine am_land d_Shifts_after_11 ?_
  refine am_callS (d2 := d - 1) [.long (a0 &&& a1)] d_Shifts_after_12 mi_Shifts_sumOf wd_578 wd_579 (by omega) rfl rfl (Nat.le_of_ble_eq_true rfl) ?_
  refine Call.post ?_ (cf_Shifts_sumOf_ok (by omega) (a0 &&& a1)  w _ h)
  rintro _ _ ⟨r2, rfl, rfl, h⟩
  show wp g (fun _ => True) y_Shifts_after prog_10_method_2_code 5 (some FieldType.long) d 15 [(4, .int r1), (0, .long a0), (2, .long a1)] [.long r2, .long (lshr a1 (1 : Int32))] w Q
  refine am_iload d_Shifts_after_15 0 rfl ?_
  refine am_iconst (v := 1) d_Shifts_after_17 rfl ?_
  refine am_isub d_Shifts_after_18 ?_
  refine am_lshl d_Shifts_after_19 ?_
  refine am_lor d_Shifts_after_20 ?_
  exact am_lreturn d_Shifts_after_21 rfl (hQ ((lshr a1 (1 : Int32)) ||| (lshl r2 (r1 - (1 : Int32)))) h)
theorem d_Shifts_behind_0 : decode prog_10_method_3_code 0 = .ok (.lload_n 0, 1) := by decide +kernel
theorem d_Shifts_behind_1 : decode prog_10_method_3_code 1 = .ok (.invokestatic 7, 3) := by decide +kernel
theorem d_Shifts_behind_4 : decode prog_10_method_3_code 4 = .ok (.istore 6, 2) := by decide +kernel
theorem d_Shifts_behind_6 : decode prog_10_method_3_code 6 = .ok (.ldc2_w 19, 3) := by decide +kernel
theorem d_Shifts_behind_9 : decode prog_10_method_3_code 9 = .ok (.lload 4, 2) := by decide +kernel
theorem d_Shifts_behind_11 : decode prog_10_method_3_code 11 = .ok (.lload_n 0, 1) := by decide +kernel
theorem d_Shifts_behind_12 : decode prog_10_method_3_code 12 = .ok (.invokestatic 21, 3) := by decide +kernel
theorem d_Shifts_behind_15 : decode prog_10_method_3_code 15 = .ok (.lstore 7, 2) := by decide +kernel
theorem d_Shifts_behind_17 : decode prog_10_method_3_code 17 = .ok (.lconst 0, 1) := by decide +kernel
theorem d_Shifts_behind_18 : decode prog_10_method_3_code 18 = .ok (.lstore 9, 2) := by decide +kernel
theorem d_Shifts_behind_20 : decode prog_10_method_3_code 20 = .ok (.iconst 0, 1) := by decide +kernel
theorem d_Shifts_behind_21 : decode prog_10_method_3_code 21 = .ok (.istore 11, 2) := by decide +kernel
theorem d_Shifts_behind_23 : decode prog_10_method_3_code 23 = .ok (.iload 11, 2) := by decide +kernel
theorem d_Shifts_behind_25 : decode prog_10_method_3_code 25 = .ok (.iload 6, 2) := by decide +kernel
theorem d_Shifts_behind_27 : decode prog_10_method_3_code 27 = .ok (.if_icmp .ge 34, 3) := by decide +kernel
theorem d_Shifts_behind_30 : decode prog_10_method_3_code 30 = .ok (.lload 9, 2) := by decide +kernel
theorem d_Shifts_behind_32 : decode prog_10_method_3_code 32 = .ok (.lload 7, 2) := by decide +kernel
theorem d_Shifts_behind_34 : decode prog_10_method_3_code 34 = .ok (.lload_n 2, 1) := by decide +kernel
theorem d_Shifts_behind_35 : decode prog_10_method_3_code 35 = .ok (.land, 1) := by decide +kernel
theorem d_Shifts_behind_36 : decode prog_10_method_3_code 36 = .ok (.invokestatic 13, 3) := by decide +kernel
theorem d_Shifts_behind_39 : decode prog_10_method_3_code 39 = .ok (.iload 11, 2) := by decide +kernel
theorem d_Shifts_behind_41 : decode prog_10_method_3_code 41 = .ok (.lshl, 1) := by decide +kernel
theorem d_Shifts_behind_42 : decode prog_10_method_3_code 42 = .ok (.lor, 1) := by decide +kernel
theorem d_Shifts_behind_43 : decode prog_10_method_3_code 43 = .ok (.lstore 9, 2) := by decide +kernel
theorem d_Shifts_behind_45 : decode prog_10_method_3_code 45 = .ok (.lload 7, 2) := by decide +kernel
theorem d_Shifts_behind_47 : decode prog_10_method_3_code 47 = .ok (.iconst 1, 1) := by decide +kernel
theorem d_Shifts_behind_48 : decode prog_10_method_3_code 48 = .ok (.lshl, 1) := by decide +kernel
theorem d_Shifts_behind_49 : decode prog_10_method_3_code 49 = .ok (.lload_n 0, 1) := by decide +kernel
theorem d_Shifts_behind_50 : decode prog_10_method_3_code 50 = .ok (.invokestatic 25, 3) := by decide +kernel
theorem d_Shifts_behind_53 : decode prog_10_method_3_code 53 = .ok (.lstore 7, 2) := by decide +kernel
theorem d_Shifts_behind_55 : decode prog_10_method_3_code 55 = .ok (.iinc 11 1, 3) := by decide +kernel
theorem d_Shifts_behind_58 : decode prog_10_method_3_code 58 = .ok (.goto (-35), 3) := by decide +kernel
theorem d_Shifts_behind_61 : decode prog_10_method_3_code 61 = .ok (.lload 9, 2) := by decide +kernel
theorem d_Shifts_behind_63 : decode prog_10_method_3_code 63 = .ok (.lreturn, 1) := by decide +kernel
def cf_Shifts_behind_B23  (K23 : Int64 → Int64 → Int32 → Int64 → Int64 → Int32 → Prop) (P : Int64 → Prop) (x0 : Int64) (x2 : Int64) (x6 : Int32) (x7 : Int64) (x9 : Int64) (x11 : Int32)  : Prop :=
  ((x6 ≤ x11 → P x9) ∧ (¬ x6 ≤ x11 → cf_Shifts_sumOf (x7 &&& x2) (fun r3 => ∀ v4, v4 = x9 ||| (lshl r3 x11) → cf_Polys_remainder (lshl x7 (1 : Int32)) x0 (fun r5 => ∀ v6, v6 = x11 + (1 : Int32) → K23 x0 x2 x6 r5 v4 v6))))
def cf_Shifts_behind_L23   (P : Int64 → Prop) : Nat → Int64 → Int64 → Int32 → Int64 → Int64 → Int32 → Prop
  | 0 => fun x0 x2 x6 x7 x9 x11 => False
  | n + 1 => fun x0 x2 x6 x7 x9 x11 => cf_Shifts_behind_B23 (cf_Shifts_behind_L23 P n) P x0 x2 x6 x7 x9 x11
def cf_Shifts_behind (a0 : Int64) (a1 : Int64) (a2 : Int64) (P : Int64 → Prop) : Prop :=
  cf_Polys_degree a0 (fun r1 => cf_Polys_powerBy (2 : Int64) a2 a0 (fun r2 => ∃ n, cf_Shifts_behind_L23 P n a0 a1 r1 r2 (0 : Int64) (0 : Int32)))
theorem cf_Shifts_behind_B23_ok {g : ayG} {d : Nat} (hd : 4 ≤ d)   (w : Wd) (K23 : Int64 → Int64 → Int32 → Int64 → Int64 → Int32 → Prop) (P : Int64 → Prop) (Q : Option Value → Wd → Prop) (hQ : ∀ x, P x → Q (some (.long x)) w) (hK23 : ∀ (x0 : Int64) (x2 : Int64) (x6 : Int32) (x7 : Int64) (x9 : Int64) (x11 : Int32), (K23 x0 x2 x6 x7 x9 x11 → wp g (fun _ => True) y_Shifts_behind prog_10_method_3_code 12 (some FieldType.long) d 23 [(0, .long x0), (2, .long x2), (6, .int x6), (7, .long x7), (9, .long x9), (11, .int x11)] [] w Q)) (x0 : Int64) (x2 : Int64) (x6 : Int32) (x7 : Int64) (x9 : Int64) (x11 : Int32) (h : cf_Shifts_behind_B23 K23 P x0 x2 x6 x7 x9 x11) : wp g (fun _ => True) y_Shifts_behind prog_10_method_3_code 12 (some FieldType.long) d 23 [(0, .long x0), (2, .long x2), (6, .int x6), (7, .long x7), (9, .long x9), (11, .int x11)] [] w Q := by
  unfold cf_Shifts_behind_B23 at h
  refine am_iload d_Shifts_behind_23 5 rfl ?_
  refine am_iload d_Shifts_behind_25 2 rfl ?_
  refine am_icmp_ge (tgt := 61) d_Shifts_behind_27 (by decide) (fun c27 => ?_) (fun c27 => ?_)
  · have h := h.1 c27
    refine am_lload d_Shifts_behind_61 4 rfl ?_
    exact am_lreturn d_Shifts_behind_63 rfl (hQ x9 h)
  · have h := h.2 c27
    refine am_lload d_Shifts_behind_30 4 rfl ?_
    refine am_lload d_Shifts_behind_32 3 rfl ?_
    refine am_lload_n d_Shifts_behind_34 1 rfl ?_
    refine am_land d_Shifts_behind_35 ?_
    refine am_callS (d2 := d - 1) [.long (x7 &&& x2)] d_Shifts_behind_36 mi_Shifts_sumOf wd_578 wd_579 (by omega) rfl rfl (Nat.le_of_ble_eq_true rfl) ?_
    refine Call.post ?_ (cf_Shifts_sumOf_ok (by omega) (x7 &&& x2)  w _ h)
    rintro _ _ ⟨r3, rfl, rfl, h⟩
    show wp g (fun _ => True) y_Shifts_behind prog_10_method_3_code 12 (some FieldType.long) d 39 [(0, .long x0), (2, .long x2), (6, .int x6), (7, .long x7), (9, .long x9), (11, .int x11)] [.long r3, .long x9] w Q
    refine am_iload d_Shifts_behind_39 5 rfl ?_
    refine am_lshl d_Shifts_behind_41 ?_
    refine am_lor d_Shifts_behind_42 ?_
    refine am_topl (fun v4 ev4 => ?_)
    have h := h v4 ev4
    refine am_lstore (l' := [(9, .long v4), (0, .long x0), (2, .long x2), (6, .int x6), (7, .long x7), (11, .int x11)]) d_Shifts_behind_43 (by decide) rfl ?_
    refine am_lload d_Shifts_behind_45 4 rfl ?_
    refine am_iconst (v := 1) d_Shifts_behind_47 rfl ?_
    refine am_lshl d_Shifts_behind_48 ?_
    refine am_lload_n d_Shifts_behind_49 1 rfl ?_
    refine am_callS (d2 := d - 1) [.long (lshl x7 (1 : Int32)), .long x0] d_Shifts_behind_50 mi_Polys_remainder wd_601 wd_486 (by omega) rfl rfl (Nat.le_of_ble_eq_true rfl) ?_
    refine Call.post ?_ (cf_Polys_remainder_ok (by omega) (lshl x7 (1 : Int32)) x0  w _ h)
    rintro _ _ ⟨r5, rfl, rfl, h⟩
    show wp g (fun _ => True) y_Shifts_behind prog_10_method_3_code 12 (some FieldType.long) d 53 [(9, .long v4), (0, .long x0), (2, .long x2), (6, .int x6), (7, .long x7), (11, .int x11)] [.long r5] w Q
    refine am_lstore (l' := [(7, .long r5), (9, .long v4), (0, .long x0), (2, .long x2), (6, .int x6), (11, .int x11)]) d_Shifts_behind_53 (by decide) rfl ?_
    obtain ⟨v6, ev6⟩ : ∃ z : Int32, z = x11 + (1 : Int32) := ⟨_, rfl⟩
    have h := h v6 ev6
    refine am_iinc (v := v6) (l' := [(11, .int v6), (7, .long r5), (9, .long v4), (0, .long x0), (2, .long x2), (6, .int x6)]) d_Shifts_behind_55 5 rfl (by rw [ev6]; rfl) (by decide) rfl ?_
    refine am_goto (tgt := 23) d_Shifts_behind_58 (by decide) ?_
    refine am_sub [3, 4, 5, 1, 2, 0] rfl ?_
    exact hK23 x0 x2 x6 r5 v4 v6 h
theorem cf_Shifts_behind_L23_ok {g : ayG} {d : Nat} (hd : 4 ≤ d)   (w : Wd)  (P : Int64 → Prop) (Q : Option Value → Wd → Prop) (hQ : ∀ x, P x → Q (some (.long x)) w)  : ∀ (n : Nat) (x0 : Int64) (x2 : Int64) (x6 : Int32) (x7 : Int64) (x9 : Int64) (x11 : Int32) (h : cf_Shifts_behind_L23 P n x0 x2 x6 x7 x9 x11), wp g (fun _ => True) y_Shifts_behind prog_10_method_3_code 12 (some FieldType.long) d 23 [(0, .long x0), (2, .long x2), (6, .int x6), (7, .long x7), (9, .long x9), (11, .int x11)] [] w Q
  | 0, x0, x2, x6, x7, x9, x11, h => False.elim h
  | n + 1, x0, x2, x6, x7, x9, x11, h => cf_Shifts_behind_B23_ok hd   w (cf_Shifts_behind_L23 P n) P Q hQ (fun x0 x2 x6 x7 x9 x11 h => cf_Shifts_behind_L23_ok hd   w  P Q hQ  n x0 x2 x6 x7 x9 x11 h) x0 x2 x6 x7 x9 x11 h
theorem cf_Shifts_behind_ok {g : ayG} {d : Nat} (hd : 4 ≤ d) (a0 : Int64) (a1 : Int64) (a2 : Int64)  (w : Wd) (P : Int64 → Prop) (h : cf_Shifts_behind a0 a1 a2 P) : Call g y_Shifts_behind prog_10_method_3_code 12 (some FieldType.long) d [.long a0, .long a1, .long a2] w (fun (r : Option Value) (w2 : Wd) => ∃ x, r = some (.long x) ∧ w = w2 ∧ P x) := by
  unfold cf_Shifts_behind at h
  refine am_enter mi_Shifts_behind (Nat.le_of_ble_eq_true rfl) ?_
  have hQ : ∀ x, P x → (fun (r : Option Value) (w2 : Wd) => ∃ x, r = some (.long x) ∧ w = w2 ∧ P x) (some (.long x)) w := fun x h => ⟨x, rfl, rfl, h⟩
  generalize (fun (r : Option Value) (w2 : Wd) => ∃ x, r = some (.long x) ∧ w = w2 ∧ P x) = Q at hQ ⊢
  show wp g (fun _ => True) y_Shifts_behind prog_10_method_3_code 12 (some FieldType.long) d 0 [(0, .long a0), (2, .long a1), (4, .long a2)] [] w Q
  refine am_lload_n d_Shifts_behind_0 0 rfl ?_
  refine am_callS (d2 := d - 1) [.long a0] d_Shifts_behind_1 mi_Polys_degree wd_577 wd_391 (by omega) rfl rfl (Nat.le_of_ble_eq_true rfl) ?_
  refine Call.post ?_ (cf_Polys_degree_ok (by omega) a0  w _ h)
  rintro _ _ ⟨r1, rfl, rfl, h⟩
  show wp g (fun _ => True) y_Shifts_behind prog_10_method_3_code 12 (some FieldType.long) d 4 [(0, .long a0), (2, .long a1), (4, .long a2)] [.int r1] w Q
  refine am_istore (l' := [(6, .int r1), (0, .long a0), (2, .long a1), (4, .long a2)]) d_Shifts_behind_4 (by decide) rfl ?_
  refine am_ldc2 (v := 2) d_Shifts_behind_6 wd_599 ?_
  refine am_lload d_Shifts_behind_9 3 rfl ?_
  refine am_lload_n d_Shifts_behind_11 1 rfl ?_
  refine am_callS (d2 := d - 1) [.long (2 : Int64), .long a2, .long a0] d_Shifts_behind_12 mi_Polys_powerBy wd_600 wd_505 (by omega) rfl rfl (Nat.le_of_ble_eq_true rfl) ?_
  refine Call.post ?_ (cf_Polys_powerBy_ok (by omega) (2 : Int64) a2 a0  w _ h)
  rintro _ _ ⟨r2, rfl, rfl, h⟩
  show wp g (fun _ => True) y_Shifts_behind prog_10_method_3_code 12 (some FieldType.long) d 15 [(6, .int r1), (0, .long a0), (2, .long a1), (4, .long a2)] [.long r2] w Q
  refine am_lstore (l' := [(7, .long r2), (6, .int r1), (0, .long a0), (2, .long a1), (4, .long a2)]) d_Shifts_behind_15 (by decide) rfl ?_
  refine am_lconst (v := 0) d_Shifts_behind_17 rfl ?_
  refine am_lstore (l' := [(9, .long (0 : Int64)), (7, .long r2), (6, .int r1), (0, .long a0), (2, .long a1), (4, .long a2)]) d_Shifts_behind_18 (by decide) rfl ?_
  refine am_iconst (v := 0) d_Shifts_behind_20 rfl ?_
  refine am_istore (l' := [(11, .int (0 : Int32)), (9, .long (0 : Int64)), (7, .long r2), (6, .int r1), (0, .long a0), (2, .long a1), (4, .long a2)]) d_Shifts_behind_21 (by decide) rfl ?_
  refine am_sub [4, 5, 3, 2, 1, 0] rfl ?_
  obtain ⟨n, h⟩ := h
  exact cf_Shifts_behind_L23_ok (by omega)   w  P Q hQ  n a0 a1 r1 r2 (0 : Int64) (0 : Int32) h
theorem d_Shifts_breaks_0 : decode prog_10_method_6_code 0 = .ok (.lconst 0, 1) := by decide +kernel
theorem d_Shifts_breaks_1 : decode prog_10_method_6_code 1 = .ok (.lstore 6, 2) := by decide +kernel
theorem d_Shifts_breaks_3 : decode prog_10_method_6_code 3 = .ok (.iconst 0, 1) := by decide +kernel
theorem d_Shifts_breaks_4 : decode prog_10_method_6_code 4 = .ok (.istore 8, 2) := by decide +kernel
theorem d_Shifts_breaks_6 : decode prog_10_method_6_code 6 = .ok (.iload 8, 2) := by decide +kernel
theorem d_Shifts_breaks_8 : decode prog_10_method_6_code 8 = .ok (.iload 5, 2) := by decide +kernel
theorem d_Shifts_breaks_10 : decode prog_10_method_6_code 10 = .ok (.if_icmp .gt 33, 3) := by decide +kernel
theorem d_Shifts_breaks_13 : decode prog_10_method_6_code 13 = .ok (.iload 8, 2) := by decide +kernel
theorem d_Shifts_breaks_15 : decode prog_10_method_6_code 15 = .ok (.iload_n 2, 1) := by decide +kernel
theorem d_Shifts_breaks_16 : decode prog_10_method_6_code 16 = .ok (.if_icmp .gt 27, 3) := by decide +kernel
theorem d_Shifts_breaks_19 : decode prog_10_method_6_code 19 = .ok (.lload 6, 2) := by decide +kernel
theorem d_Shifts_breaks_21 : decode prog_10_method_6_code 21 = .ok (.lload_n 3, 1) := by decide +kernel
theorem d_Shifts_breaks_22 : decode prog_10_method_6_code 22 = .ok (.iload 8, 2) := by decide +kernel
theorem d_Shifts_breaks_24 : decode prog_10_method_6_code 24 = .ok (.lshr, 1) := by decide +kernel
theorem d_Shifts_breaks_25 : decode prog_10_method_6_code 25 = .ok (.lload_n 0, 1) := by decide +kernel
theorem d_Shifts_breaks_26 : decode prog_10_method_6_code 26 = .ok (.iload_n 2, 1) := by decide +kernel
theorem d_Shifts_breaks_27 : decode prog_10_method_6_code 27 = .ok (.iload 8, 2) := by decide +kernel
theorem d_Shifts_breaks_29 : decode prog_10_method_6_code 29 = .ok (.isub, 1) := by decide +kernel
theorem d_Shifts_breaks_30 : decode prog_10_method_6_code 30 = .ok (.lshr, 1) := by decide +kernel
theorem d_Shifts_breaks_31 : decode prog_10_method_6_code 31 = .ok (.land, 1) := by decide +kernel
theorem d_Shifts_breaks_32 : decode prog_10_method_6_code 32 = .ok (.lconst 1, 1) := by decide +kernel
theorem d_Shifts_breaks_33 : decode prog_10_method_6_code 33 = .ok (.land, 1) := by decide +kernel
theorem d_Shifts_breaks_34 : decode prog_10_method_6_code 34 = .ok (.lxor, 1) := by decide +kernel
theorem d_Shifts_breaks_35 : decode prog_10_method_6_code 35 = .ok (.lstore 6, 2) := by decide +kernel
theorem d_Shifts_breaks_37 : decode prog_10_method_6_code 37 = .ok (.iinc 8 1, 3) := by decide +kernel
theorem d_Shifts_breaks_40 : decode prog_10_method_6_code 40 = .ok (.goto (-34), 3) := by decide +kernel
theorem d_Shifts_breaks_43 : decode prog_10_method_6_code 43 = .ok (.lload 6, 2) := by decide +kernel
theorem d_Shifts_breaks_45 : decode prog_10_method_6_code 45 = .ok (.lconst 0, 1) := by decide +kernel
theorem d_Shifts_breaks_46 : decode prog_10_method_6_code 46 = .ok (.lcmp, 1) := by decide +kernel
theorem d_Shifts_breaks_47 : decode prog_10_method_6_code 47 = .ok (.ifCond .eq 7, 3) := by decide +kernel
theorem d_Shifts_breaks_50 : decode prog_10_method_6_code 50 = .ok (.iconst 1, 1) := by decide +kernel
theorem d_Shifts_breaks_51 : decode prog_10_method_6_code 51 = .ok (.goto 4, 3) := by decide +kernel
theorem d_Shifts_breaks_54 : decode prog_10_method_6_code 54 = .ok (.iconst 0, 1) := by decide +kernel
theorem d_Shifts_breaks_55 : decode prog_10_method_6_code 55 = .ok (.ireturn, 1) := by decide +kernel
def cf_Shifts_breaks_B6  (K6 : Int64 → Int32 → Int64 → Int32 → Int64 → Int32 → Prop) (P : Int32 → Prop) (x0 : Int64) (x2 : Int32) (x3 : Int64) (x5 : Int32) (x6 : Int64) (x8 : Int32)  : Prop :=
  ((x5 < x8 → ((x6 = (0 : Int64) → P (0 : Int32)) ∧ (¬ x6 = (0 : Int64) → P (1 : Int32)))) ∧ (¬ x5 < x8 → ((x2 < x8 → ((x6 = (0 : Int64) → P (0 : Int32)) ∧ (¬ x6 = (0 : Int64) → P (1 : Int32)))) ∧ (¬ x2 < x8 → ∀ v1, v1 = x6 ^^^ (((lshr x3 x8) &&& (lshr x0 (x2 - x8))) &&& (1 : Int64)) → ∀ v2, v2 = x8 + (1 : Int32) → K6 x0 x2 x3 x5 v1 v2))))
def cf_Shifts_breaks_L6   (P : Int32 → Prop) : Nat → Int64 → Int32 → Int64 → Int32 → Int64 → Int32 → Prop
  | 0 => fun x0 x2 x3 x5 x6 x8 => False
  | n + 1 => fun x0 x2 x3 x5 x6 x8 => cf_Shifts_breaks_B6 (cf_Shifts_breaks_L6 P n) P x0 x2 x3 x5 x6 x8
def cf_Shifts_breaks (a0 : Int64) (a1 : Int32) (a2 : Int64) (a3 : Int32) (P : Int32 → Prop) : Prop :=
  ∃ n, cf_Shifts_breaks_L6 P n a0 a1 a2 a3 (0 : Int64) (0 : Int32)
theorem cf_Shifts_breaks_B6_ok {g : ayG} {d : Nat} (hd : 0 ≤ d)   (w : Wd) (K6 : Int64 → Int32 → Int64 → Int32 → Int64 → Int32 → Prop) (P : Int32 → Prop) (Q : Option Value → Wd → Prop) (hQ : ∀ x, P x → Q (some (.int x)) w) (hK6 : ∀ (x0 : Int64) (x2 : Int32) (x3 : Int64) (x5 : Int32) (x6 : Int64) (x8 : Int32), (K6 x0 x2 x3 x5 x6 x8 → wp g (fun _ => True) y_Shifts_breaks prog_10_method_6_code 9 (some FieldType.boolean) d 6 [(0, .long x0), (2, .int x2), (3, .long x3), (5, .int x5), (6, .long x6), (8, .int x8)] [] w Q)) (x0 : Int64) (x2 : Int32) (x3 : Int64) (x5 : Int32) (x6 : Int64) (x8 : Int32) (h : cf_Shifts_breaks_B6 K6 P x0 x2 x3 x5 x6 x8) : wp g (fun _ => True) y_Shifts_breaks prog_10_method_6_code 9 (some FieldType.boolean) d 6 [(0, .long x0), (2, .int x2), (3, .long x3), (5, .int x5), (6, .long x6), (8, .int x8)] [] w Q := by
  unfold cf_Shifts_breaks_B6 at h
  refine am_iload d_Shifts_breaks_6 5 rfl ?_
  refine am_iload d_Shifts_breaks_8 3 rfl ?_
  refine am_icmp_gt (tgt := 43) d_Shifts_breaks_10 (by decide) (fun c10 => ?_) (fun c10 => ?_)
  · have h := h.1 c10
    refine am_lload d_Shifts_breaks_43 4 rfl ?_
    refine am_lconst (v := 0) d_Shifts_breaks_45 rfl ?_
    refine am_lif_eq (tgt := 54) d_Shifts_breaks_46 d_Shifts_breaks_47 (by decide) (fun c46 => ?_) (fun c46 => ?_)
    · have h := h.1 c46
      refine am_iconst (v := 0) d_Shifts_breaks_54 rfl ?_
      exact am_ireturn d_Shifts_breaks_55 rfl rfl (hQ (0 : Int32) h)
    · have h := h.2 c46
      refine am_iconst (v := 1) d_Shifts_breaks_50 rfl ?_
      refine am_goto (tgt := 55) d_Shifts_breaks_51 (by decide) ?_
      exact am_ireturn d_Shifts_breaks_55 rfl rfl (hQ (1 : Int32) h)
  · have h := h.2 c10
    refine am_iload d_Shifts_breaks_13 5 rfl ?_
    refine am_iload_n d_Shifts_breaks_15 1 rfl ?_
    refine am_icmp_gt (tgt := 43) d_Shifts_breaks_16 (by decide) (fun c16 => ?_) (fun c16 => ?_)
    · have h := h.1 c16
      refine am_lload d_Shifts_breaks_43 4 rfl ?_
      refine am_lconst (v := 0) d_Shifts_breaks_45 rfl ?_
      refine am_lif_eq (tgt := 54) d_Shifts_breaks_46 d_Shifts_breaks_47 (by decide) (fun c46 => ?_) (fun c46 => ?_)
      · have h := h.1 c46
        refine am_iconst (v := 0) d_Shifts_breaks_54 rfl ?_
        exact am_ireturn d_Shifts_breaks_55 rfl rfl (hQ (0 : Int32) h)
      · have h := h.2 c46
        refine am_iconst (v := 1) d_Shifts_breaks_50 rfl ?_
        refine am_goto (tgt := 55) d_Shifts_breaks_51 (by decide) ?_
        exact am_ireturn d_Shifts_breaks_55 rfl rfl (hQ (1 : Int32) h)
    · have h := h.2 c16
      refine am_lload d_Shifts_breaks_19 4 rfl ?_
      refine am_lload_n d_Shifts_breaks_21 2 rfl ?_
      refine am_iload d_Shifts_breaks_22 5 rfl ?_
      refine am_lshr d_Shifts_breaks_24 ?_
      refine am_lload_n d_Shifts_breaks_25 0 rfl ?_
      refine am_iload_n d_Shifts_breaks_26 1 rfl ?_
      refine am_iload d_Shifts_breaks_27 5 rfl ?_
      refine am_isub d_Shifts_breaks_29 ?_
      refine am_lshr d_Shifts_breaks_30 ?_
      refine am_land d_Shifts_breaks_31 ?_
      refine am_lconst (v := 1) d_Shifts_breaks_32 rfl ?_
      refine am_land d_Shifts_breaks_33 ?_
      refine am_lxor d_Shifts_breaks_34 ?_
      refine am_topl (fun v1 ev1 => ?_)
      have h := h v1 ev1
      refine am_lstore (l' := [(6, .long v1), (0, .long x0), (2, .int x2), (3, .long x3), (5, .int x5), (8, .int x8)]) d_Shifts_breaks_35 (by decide) rfl ?_
      obtain ⟨v2, ev2⟩ : ∃ z : Int32, z = x8 + (1 : Int32) := ⟨_, rfl⟩
      have h := h v2 ev2
      refine am_iinc (v := v2) (l' := [(8, .int v2), (6, .long v1), (0, .long x0), (2, .int x2), (3, .long x3), (5, .int x5)]) d_Shifts_breaks_37 5 rfl (by rw [ev2]; rfl) (by decide) rfl ?_
      refine am_goto (tgt := 6) d_Shifts_breaks_40 (by decide) ?_
      refine am_sub [2, 3, 4, 5, 1, 0] rfl ?_
      exact hK6 x0 x2 x3 x5 v1 v2 h
theorem cf_Shifts_breaks_L6_ok {g : ayG} {d : Nat} (hd : 0 ≤ d)   (w : Wd)  (P : Int32 → Prop) (Q : Option Value → Wd → Prop) (hQ : ∀ x, P x → Q (some (.int x)) w)  : ∀ (n : Nat) (x0 : Int64) (x2 : Int32) (x3 : Int64) (x5 : Int32) (x6 : Int64) (x8 : Int32) (h : cf_Shifts_breaks_L6 P n x0 x2 x3 x5 x6 x8), wp g (fun _ => True) y_Shifts_breaks prog_10_method_6_code 9 (some FieldType.boolean) d 6 [(0, .long x0), (2, .int x2), (3, .long x3), (5, .int x5), (6, .long x6), (8, .int x8)] [] w Q
  | 0, x0, x2, x3, x5, x6, x8, h => False.elim h
  | n + 1, x0, x2, x3, x5, x6, x8, h => cf_Shifts_breaks_B6_ok hd   w (cf_Shifts_breaks_L6 P n) P Q hQ (fun x0 x2 x3 x5 x6 x8 h => cf_Shifts_breaks_L6_ok hd   w  P Q hQ  n x0 x2 x3 x5 x6 x8 h) x0 x2 x3 x5 x6 x8 h
theorem cf_Shifts_breaks_ok {g : ayG} {d : Nat} (hd : 0 ≤ d) (a0 : Int64) (a1 : Int32) (a2 : Int64) (a3 : Int32)  (w : Wd) (P : Int32 → Prop) (h : cf_Shifts_breaks a0 a1 a2 a3 P) : Call g y_Shifts_breaks prog_10_method_6_code 9 (some FieldType.boolean) d [.long a0, .int a1, .long a2, .int a3] w (fun (r : Option Value) (w2 : Wd) => ∃ x, r = some (.int x) ∧ w = w2 ∧ P x) := by
  unfold cf_Shifts_breaks at h
  refine am_enter mi_Shifts_breaks (Nat.le_of_ble_eq_true rfl) ?_
  have hQ : ∀ x, P x → (fun (r : Option Value) (w2 : Wd) => ∃ x, r = some (.int x) ∧ w = w2 ∧ P x) (some (.int x)) w := fun x h => ⟨x, rfl, rfl, h⟩
  generalize (fun (r : Option Value) (w2 : Wd) => ∃ x, r = some (.int x) ∧ w = w2 ∧ P x) = Q at hQ ⊢
  show wp g (fun _ => True) y_Shifts_breaks prog_10_method_6_code 9 (some FieldType.boolean) d 0 [(0, .long a0), (2, .int a1), (3, .long a2), (5, .int a3)] [] w Q
  refine am_lconst (v := 0) d_Shifts_breaks_0 rfl ?_
  refine am_lstore (l' := [(6, .long (0 : Int64)), (0, .long a0), (2, .int a1), (3, .long a2), (5, .int a3)]) d_Shifts_breaks_1 (by decide) rfl ?_
  refine am_iconst (v := 0) d_Shifts_breaks_3 rfl ?_
  refine am_istore (l' := [(8, .int (0 : Int32)), (6, .long (0 : Int64)), (0, .long a0), (2, .int a1), (3, .long a2), (5, .int a3)]) d_Shifts_breaks_4 (by decide) rfl ?_
  refine am_sub [2, 3, 4, 5, 1, 0] rfl ?_
  obtain ⟨n, h⟩ := h
  exact cf_Shifts_breaks_L6_ok (by omega)   w  P Q hQ  n a0 a1 a2 a3 (0 : Int64) (0 : Int32) h
theorem d_Shifts_shortestRule_0 : decode prog_10_method_5_code 0 = .ok (.lconst 1, 1) := by decide +kernel
theorem d_Shifts_shortestRule_1 : decode prog_10_method_5_code 1 = .ok (.lstore_n 3, 1) := by decide +kernel
theorem d_Shifts_shortestRule_2 : decode prog_10_method_5_code 2 = .ok (.lconst 1, 1) := by decide +kernel
theorem d_Shifts_shortestRule_3 : decode prog_10_method_5_code 3 = .ok (.lstore 5, 2) := by decide +kernel
theorem d_Shifts_shortestRule_5 : decode prog_10_method_5_code 5 = .ok (.iconst 0, 1) := by decide +kernel
theorem d_Shifts_shortestRule_6 : decode prog_10_method_5_code 6 = .ok (.istore 7, 2) := by decide +kernel
theorem d_Shifts_shortestRule_8 : decode prog_10_method_5_code 8 = .ok (.iconst 1, 1) := by decide +kernel
theorem d_Shifts_shortestRule_9 : decode prog_10_method_5_code 9 = .ok (.istore 8, 2) := by decide +kernel
theorem d_Shifts_shortestRule_11 : decode prog_10_method_5_code 11 = .ok (.iconst 0, 1) := by decide +kernel
theorem d_Shifts_shortestRule_12 : decode prog_10_method_5_code 12 = .ok (.istore 9, 2) := by decide +kernel
theorem d_Shifts_shortestRule_14 : decode prog_10_method_5_code 14 = .ok (.iload 9, 2) := by decide +kernel
theorem d_Shifts_shortestRule_16 : decode prog_10_method_5_code 16 = .ok (.iload_n 2, 1) := by decide +kernel
theorem d_Shifts_shortestRule_17 : decode prog_10_method_5_code 17 = .ok (.if_icmp .ge 69, 3) := by decide +kernel
theorem d_Shifts_shortestRule_20 : decode prog_10_method_5_code 20 = .ok (.lload_n 0, 1) := by decide +kernel
theorem d_Shifts_shortestRule_21 : decode prog_10_method_5_code 21 = .ok (.iload 9, 2) := by decide +kernel
theorem d_Shifts_shortestRule_23 : decode prog_10_method_5_code 23 = .ok (.lload_n 3, 1) := by decide +kernel
theorem d_Shifts_shortestRule_24 : decode prog_10_method_5_code 24 = .ok (.iload 7, 2) := by decide +kernel
theorem d_Shifts_shortestRule_26 : decode prog_10_method_5_code 26 = .ok (.invokestatic 34, 3) := by decide +kernel
theorem d_Shifts_shortestRule_29 : decode prog_10_method_5_code 29 = .ok (.ifCond .ne 9, 3) := by decide +kernel
theorem d_Shifts_shortestRule_32 : decode prog_10_method_5_code 32 = .ok (.iinc 8 1, 3) := by decide +kernel
theorem d_Shifts_shortestRule_35 : decode prog_10_method_5_code 35 = .ok (.goto 45, 3) := by decide +kernel
theorem d_Shifts_shortestRule_38 : decode prog_10_method_5_code 38 = .ok (.lload_n 3, 1) := by decide +kernel
theorem d_Shifts_shortestRule_39 : decode prog_10_method_5_code 39 = .ok (.lload 5, 2) := by decide +kernel
theorem d_Shifts_shortestRule_41 : decode prog_10_method_5_code 41 = .ok (.iload 8, 2) := by decide +kernel
theorem d_Shifts_shortestRule_43 : decode prog_10_method_5_code 43 = .ok (.lshl, 1) := by decide +kernel
theorem d_Shifts_shortestRule_44 : decode prog_10_method_5_code 44 = .ok (.lxor, 1) := by decide +kernel
theorem d_Shifts_shortestRule_45 : decode prog_10_method_5_code 45 = .ok (.lstore 10, 2) := by decide +kernel
theorem d_Shifts_shortestRule_47 : decode prog_10_method_5_code 47 = .ok (.iconst 2, 1) := by decide +kernel
theorem d_Shifts_shortestRule_48 : decode prog_10_method_5_code 48 = .ok (.iload 7, 2) := by decide +kernel
theorem d_Shifts_shortestRule_50 : decode prog_10_method_5_code 50 = .ok (.imul, 1) := by decide +kernel
theorem d_Shifts_shortestRule_51 : decode prog_10_method_5_code 51 = .ok (.iload 9, 2) := by decide +kernel
theorem d_Shifts_shortestRule_53 : decode prog_10_method_5_code 53 = .ok (.if_icmp .gt 21, 3) := by decide +kernel
theorem d_Shifts_shortestRule_56 : decode prog_10_method_5_code 56 = .ok (.lload_n 3, 1) := by decide +kernel
theorem d_Shifts_shortestRule_57 : decode prog_10_method_5_code 57 = .ok (.lstore 5, 2) := by decide +kernel
theorem d_Shifts_shortestRule_59 : decode prog_10_method_5_code 59 = .ok (.iload 9, 2) := by decide +kernel
theorem d_Shifts_shortestRule_61 : decode prog_10_method_5_code 61 = .ok (.iconst 1, 1) := by decide +kernel
theorem d_Shifts_shortestRule_62 : decode prog_10_method_5_code 62 = .ok (.iadd, 1) := by decide +kernel
theorem d_Shifts_shortestRule_63 : decode prog_10_method_5_code 63 = .ok (.iload 7, 2) := by decide +kernel
theorem d_Shifts_shortestRule_65 : decode prog_10_method_5_code 65 = .ok (.isub, 1) := by decide +kernel
theorem d_Shifts_shortestRule_66 : decode prog_10_method_5_code 66 = .ok (.istore 7, 2) := by decide +kernel
theorem d_Shifts_shortestRule_68 : decode prog_10_method_5_code 68 = .ok (.iconst 1, 1) := by decide +kernel
theorem d_Shifts_shortestRule_69 : decode prog_10_method_5_code 69 = .ok (.istore 8, 2) := by decide +kernel
theorem d_Shifts_shortestRule_71 : decode prog_10_method_5_code 71 = .ok (.goto 6, 3) := by decide +kernel
theorem d_Shifts_shortestRule_74 : decode prog_10_method_5_code 74 = .ok (.iinc 8 1, 3) := by decide +kernel
theorem d_Shifts_shortestRule_77 : decode prog_10_method_5_code 77 = .ok (.lload 10, 2) := by decide +kernel
theorem d_Shifts_shortestRule_79 : decode prog_10_method_5_code 79 = .ok (.lstore_n 3, 1) := by decide +kernel
theorem d_Shifts_shortestRule_80 : decode prog_10_method_5_code 80 = .ok (.iinc 9 1, 3) := by decide +kernel
theorem d_Shifts_shortestRule_83 : decode prog_10_method_5_code 83 = .ok (.goto (-69), 3) := by decide +kernel
theorem d_Shifts_shortestRule_86 : decode prog_10_method_5_code 86 = .ok (.lconst 0, 1) := by decide +kernel
theorem d_Shifts_shortestRule_87 : decode prog_10_method_5_code 87 = .ok (.lstore 9, 2) := by decide +kernel
theorem d_Shifts_shortestRule_89 : decode prog_10_method_5_code 89 = .ok (.iconst 0, 1) := by decide +kernel
theorem d_Shifts_shortestRule_90 : decode prog_10_method_5_code 90 = .ok (.istore 11, 2) := by decide +kernel
theorem d_Shifts_shortestRule_92 : decode prog_10_method_5_code 92 = .ok (.iload 11, 2) := by decide +kernel
theorem d_Shifts_shortestRule_94 : decode prog_10_method_5_code 94 = .ok (.iload 7, 2) := by decide +kernel
theorem d_Shifts_shortestRule_96 : decode prog_10_method_5_code 96 = .ok (.if_icmp .gt 26, 3) := by decide +kernel
theorem d_Shifts_shortestRule_99 : decode prog_10_method_5_code 99 = .ok (.lload 9, 2) := by decide +kernel
theorem d_Shifts_shortestRule_101 : decode prog_10_method_5_code 101 = .ok (.lload_n 3, 1) := by decide +kernel
theorem d_Shifts_shortestRule_102 : decode prog_10_method_5_code 102 = .ok (.iload 7, 2) := by decide +kernel
theorem d_Shifts_shortestRule_104 : decode prog_10_method_5_code 104 = .ok (.iload 11, 2) := by decide +kernel
theorem d_Shifts_shortestRule_106 : decode prog_10_method_5_code 106 = .ok (.isub, 1) := by decide +kernel
theorem d_Shifts_shortestRule_107 : decode prog_10_method_5_code 107 = .ok (.lshr, 1) := by decide +kernel
theorem d_Shifts_shortestRule_108 : decode prog_10_method_5_code 108 = .ok (.lconst 1, 1) := by decide +kernel
theorem d_Shifts_shortestRule_109 : decode prog_10_method_5_code 109 = .ok (.land, 1) := by decide +kernel
theorem d_Shifts_shortestRule_110 : decode prog_10_method_5_code 110 = .ok (.iload 11, 2) := by decide +kernel
theorem d_Shifts_shortestRule_112 : decode prog_10_method_5_code 112 = .ok (.lshl, 1) := by decide +kernel
theorem d_Shifts_shortestRule_113 : decode prog_10_method_5_code 113 = .ok (.lor, 1) := by decide +kernel
theorem d_Shifts_shortestRule_114 : decode prog_10_method_5_code 114 = .ok (.lstore 9, 2) := by decide +kernel
theorem d_Shifts_shortestRule_116 : decode prog_10_method_5_code 116 = .ok (.iinc 11 1, 3) := by decide +kernel
theorem d_Shifts_shortestRule_119 : decode prog_10_method_5_code 119 = .ok (.goto (-27), 3) := by decide +kernel
theorem d_Shifts_shortestRule_122 : decode prog_10_method_5_code 122 = .ok (.lload 9, 2) := by decide +kernel
theorem d_Shifts_shortestRule_124 : decode prog_10_method_5_code 124 = .ok (.lreturn, 1) := by decide +kernel
def cf_Shifts_shortestRule_B92  (K92 : Int64 → Int32 → Int64 → Int32 → Prop) (P : Int64 → Prop) (x3 : Int64) (x7 : Int32) (x9 : Int64) (x11 : Int32)  : Prop :=
  ((x7 < x11 → P x9) ∧ (¬ x7 < x11 → ∀ v1, v1 = x9 ||| (lshl ((lshr x3 (x7 - x11)) &&& (1 : Int64)) x11) → ∀ v2, v2 = x11 + (1 : Int32) → K92 x3 x7 v1 v2))
def cf_Shifts_shortestRule_L92   (P : Int64 → Prop) : Nat → Int64 → Int32 → Int64 → Int32 → Prop
  | 0 => fun x3 x7 x9 x11 => False
  | n + 1 => fun x3 x7 x9 x11 => cf_Shifts_shortestRule_B92 (cf_Shifts_shortestRule_L92 P n) P x3 x7 x9 x11
def cf_Shifts_shortestRule_B14  (K14 : Int64 → Int32 → Int64 → Int64 → Int32 → Int32 → Int32 → Prop) (P : Int64 → Prop) (x0 : Int64) (x2 : Int32) (x3 : Int64) (x5 : Int64) (x7 : Int32) (x8 : Int32) (x9 : Int32)  : Prop :=
  ((x2 ≤ x9 → ∃ n, cf_Shifts_shortestRule_L92 P n x3 x7 (0 : Int64) (0 : Int32)) ∧ (¬ x2 ≤ x9 → cf_Shifts_breaks x0 x9 x3 x7 (fun r3 => ((¬ r3 = 0 → ∀ v4, v4 = x3 ^^^ (lshl x5 x8) → ((x9 < ((2 : Int32) * x7) → ∀ v5, v5 = x8 + (1 : Int32) → ∀ v6, v6 = x9 + (1 : Int32) → K14 x0 x2 v4 x5 x7 v5 v6) ∧ (¬ x9 < ((2 : Int32) * x7) → ∀ v7, v7 = (x9 + (1 : Int32)) - x7 → ∀ v8, v8 = x9 + (1 : Int32) → K14 x0 x2 v4 x3 v7 (1 : Int32) v8))) ∧ (r3 = 0 → ∀ v9, v9 = x8 + (1 : Int32) → ∀ v10, v10 = x9 + (1 : Int32) → K14 x0 x2 x3 x5 x7 v9 v10)))))
def cf_Shifts_shortestRule_L14   (P : Int64 → Prop) : Nat → Int64 → Int32 → Int64 → Int64 → Int32 → Int32 → Int32 → Prop
  | 0 => fun x0 x2 x3 x5 x7 x8 x9 => False
  | n + 1 => fun x0 x2 x3 x5 x7 x8 x9 => cf_Shifts_shortestRule_B14 (cf_Shifts_shortestRule_L14 P n) P x0 x2 x3 x5 x7 x8 x9
def cf_Shifts_shortestRule (a0 : Int64) (a1 : Int32) (P : Int64 → Prop) : Prop :=
  ∃ n, cf_Shifts_shortestRule_L14 P n a0 a1 (1 : Int64) (1 : Int64) (0 : Int32) (1 : Int32) (0 : Int32)
theorem cf_Shifts_shortestRule_B92_ok {g : ayG} {d : Nat} (hd : 1 ≤ d)   (w : Wd) (K92 : Int64 → Int32 → Int64 → Int32 → Prop) (P : Int64 → Prop) (Q : Option Value → Wd → Prop) (hQ : ∀ x, P x → Q (some (.long x)) w) (hK92 : ∀ (x3 : Int64) (x7 : Int32) (x9 : Int64) (x11 : Int32), (K92 x3 x7 x9 x11 → wp g (fun _ => True) y_Shifts_shortestRule prog_10_method_5_code 12 (some FieldType.long) d 92 [(3, .long x3), (7, .int x7), (9, .long x9), (11, .int x11)] [] w Q)) (x3 : Int64) (x7 : Int32) (x9 : Int64) (x11 : Int32) (h : cf_Shifts_shortestRule_B92 K92 P x3 x7 x9 x11) : wp g (fun _ => True) y_Shifts_shortestRule prog_10_method_5_code 12 (some FieldType.long) d 92 [(3, .long x3), (7, .int x7), (9, .long x9), (11, .int x11)] [] w Q := by
  unfold cf_Shifts_shortestRule_B92 at h
  refine am_iload d_Shifts_shortestRule_92 3 rfl ?_
  refine am_iload d_Shifts_shortestRule_94 1 rfl ?_
  refine am_icmp_gt (tgt := 122) d_Shifts_shortestRule_96 (by decide) (fun c96 => ?_) (fun c96 => ?_)
  · have h := h.1 c96
    refine am_lload d_Shifts_shortestRule_122 2 rfl ?_
    exact am_lreturn d_Shifts_shortestRule_124 rfl (hQ x9 h)
  · have h := h.2 c96
    refine am_lload d_Shifts_shortestRule_99 2 rfl ?_
    refine am_lload_n d_Shifts_shortestRule_101 0 rfl ?_
    refine am_iload d_Shifts_shortestRule_102 1 rfl ?_
    refine am_iload d_Shifts_shortestRule_104 3 rfl ?_
    refine am_isub d_Shifts_shortestRule_106 ?_
    refine am_lshr d_Shifts_shortestRule_107 ?_
    refine am_lconst (v := 1) d_Shifts_shortestRule_108 rfl ?_
    refine am_land d_Shifts_shortestRule_109 ?_
    refine am_iload d_Shifts_shortestRule_110 3 rfl ?_
    refine am_lshl d_Shifts_shortestRule_112 ?_
    refine am_lor d_Shifts_shortestRule_113 ?_
    refine am_topl (fun v1 ev1 => ?_)
    have h := h v1 ev1
    refine am_lstore (l' := [(9, .long v1), (3, .long x3), (7, .int x7), (11, .int x11)]) d_Shifts_shortestRule_114 (by decide) rfl ?_
    obtain ⟨v2, ev2⟩ : ∃ z : Int32, z = x11 + (1 : Int32) := ⟨_, rfl⟩
    have h := h v2 ev2
    refine am_iinc (v := v2) (l' := [(11, .int v2), (9, .long v1), (3, .long x3), (7, .int x7)]) d_Shifts_shortestRule_116 3 rfl (by rw [ev2]; rfl) (by decide) rfl ?_
    refine am_goto (tgt := 92) d_Shifts_shortestRule_119 (by decide) ?_
    refine am_sub [2, 3, 1, 0] rfl ?_
    exact hK92 x3 x7 v1 v2 h
theorem cf_Shifts_shortestRule_L92_ok {g : ayG} {d : Nat} (hd : 1 ≤ d)   (w : Wd)  (P : Int64 → Prop) (Q : Option Value → Wd → Prop) (hQ : ∀ x, P x → Q (some (.long x)) w)  : ∀ (n : Nat) (x3 : Int64) (x7 : Int32) (x9 : Int64) (x11 : Int32) (h : cf_Shifts_shortestRule_L92 P n x3 x7 x9 x11), wp g (fun _ => True) y_Shifts_shortestRule prog_10_method_5_code 12 (some FieldType.long) d 92 [(3, .long x3), (7, .int x7), (9, .long x9), (11, .int x11)] [] w Q
  | 0, x3, x7, x9, x11, h => False.elim h
  | n + 1, x3, x7, x9, x11, h => cf_Shifts_shortestRule_B92_ok hd   w (cf_Shifts_shortestRule_L92 P n) P Q hQ (fun x3 x7 x9 x11 h => cf_Shifts_shortestRule_L92_ok hd   w  P Q hQ  n x3 x7 x9 x11 h) x3 x7 x9 x11 h
theorem cf_Shifts_shortestRule_B14_ok {g : ayG} {d : Nat} (hd : 1 ≤ d)   (w : Wd) (K14 : Int64 → Int32 → Int64 → Int64 → Int32 → Int32 → Int32 → Prop) (P : Int64 → Prop) (Q : Option Value → Wd → Prop) (hQ : ∀ x, P x → Q (some (.long x)) w) (hK14 : ∀ (x0 : Int64) (x2 : Int32) (x3 : Int64) (x5 : Int64) (x7 : Int32) (x8 : Int32) (x9 : Int32), (K14 x0 x2 x3 x5 x7 x8 x9 → wp g (fun _ => True) y_Shifts_shortestRule prog_10_method_5_code 12 (some FieldType.long) d 14 [(0, .long x0), (2, .int x2), (3, .long x3), (5, .long x5), (7, .int x7), (8, .int x8), (9, .int x9)] [] w Q)) (x0 : Int64) (x2 : Int32) (x3 : Int64) (x5 : Int64) (x7 : Int32) (x8 : Int32) (x9 : Int32) (h : cf_Shifts_shortestRule_B14 K14 P x0 x2 x3 x5 x7 x8 x9) : wp g (fun _ => True) y_Shifts_shortestRule prog_10_method_5_code 12 (some FieldType.long) d 14 [(0, .long x0), (2, .int x2), (3, .long x3), (5, .long x5), (7, .int x7), (8, .int x8), (9, .int x9)] [] w Q := by
  unfold cf_Shifts_shortestRule_B14 at h
  refine am_iload d_Shifts_shortestRule_14 6 rfl ?_
  refine am_iload_n d_Shifts_shortestRule_16 1 rfl ?_
  refine am_icmp_ge (tgt := 86) d_Shifts_shortestRule_17 (by decide) (fun c17 => ?_) (fun c17 => ?_)
  · have h := h.1 c17
    refine am_lconst (v := 0) d_Shifts_shortestRule_86 rfl ?_
    refine am_lstore (l' := [(9, .long (0 : Int64)), (0, .long x0), (2, .int x2), (3, .long x3), (5, .long x5), (7, .int x7), (8, .int x8)]) d_Shifts_shortestRule_87 (by decide) rfl ?_
    refine am_iconst (v := 0) d_Shifts_shortestRule_89 rfl ?_
    refine am_istore (l' := [(11, .int (0 : Int32)), (9, .long (0 : Int64)), (0, .long x0), (2, .int x2), (3, .long x3), (5, .long x5), (7, .int x7), (8, .int x8)]) d_Shifts_shortestRule_90 (by decide) rfl ?_
    refine am_sub [4, 6, 1, 0] rfl ?_
    obtain ⟨n, h⟩ := h
    exact cf_Shifts_shortestRule_L92_ok (by omega)   w  P Q hQ  n x3 x7 (0 : Int64) (0 : Int32) h
  · have h := h.2 c17
    refine am_lload_n d_Shifts_shortestRule_20 0 rfl ?_
    refine am_iload d_Shifts_shortestRule_21 6 rfl ?_
    refine am_lload_n d_Shifts_shortestRule_23 2 rfl ?_
    refine am_iload d_Shifts_shortestRule_24 4 rfl ?_
    refine am_callS (d2 := d - 1) [.long x0, .int x9, .long x3, .int x7] d_Shifts_shortestRule_26 mi_Shifts_breaks wd_904 wd_905 (by omega) rfl rfl (Nat.le_of_ble_eq_true rfl) ?_
    refine Call.post ?_ (cf_Shifts_breaks_ok (by omega) x0 x9 x3 x7  w _ h)
    rintro _ _ ⟨r3, rfl, rfl, h⟩
    show wp g (fun _ => True) y_Shifts_shortestRule prog_10_method_5_code 12 (some FieldType.long) d 29 [(0, .long x0), (2, .int x2), (3, .long x3), (5, .long x5), (7, .int x7), (8, .int x8), (9, .int x9)] [.int r3] w Q
    refine am_if_ne (tgt := 38) d_Shifts_shortestRule_29 (by decide) (fun c29 => ?_) (fun c29 => ?_)
    · have h := h.1 c29
      refine am_lload_n d_Shifts_shortestRule_38 2 rfl ?_
      refine am_lload d_Shifts_shortestRule_39 3 rfl ?_
      refine am_iload d_Shifts_shortestRule_41 5 rfl ?_
      refine am_lshl d_Shifts_shortestRule_43 ?_
      refine am_lxor d_Shifts_shortestRule_44 ?_
      refine am_topl (fun v4 ev4 => ?_)
      have h := h v4 ev4
      refine am_lstore (l' := [(10, .long v4), (0, .long x0), (2, .int x2), (3, .long x3), (5, .long x5), (7, .int x7), (8, .int x8), (9, .int x9)]) d_Shifts_shortestRule_45 (by decide) rfl ?_
      refine am_iconst (v := 2) d_Shifts_shortestRule_47 rfl ?_
      refine am_iload d_Shifts_shortestRule_48 5 rfl ?_
      refine am_imul d_Shifts_shortestRule_50 ?_
      refine am_iload d_Shifts_shortestRule_51 7 rfl ?_
      refine am_icmp_gt (tgt := 74) d_Shifts_shortestRule_53 (by decide) (fun c53 => ?_) (fun c53 => ?_)
      · have h := h.1 c53
        obtain ⟨v5, ev5⟩ : ∃ z : Int32, z = x8 + (1 : Int32) := ⟨_, rfl⟩
        have h := h v5 ev5
        refine am_iinc (v := v5) (l' := [(8, .int v5), (10, .long v4), (0, .long x0), (2, .int x2), (3, .long x3), (5, .long x5), (7, .int x7), (9, .int x9)]) d_Shifts_shortestRule_74 6 rfl (by rw [ev5]; rfl) (by decide) rfl ?_
        refine am_lload d_Shifts_shortestRule_77 1 rfl ?_
        refine am_lstore_n (l' := [(3, .long v4), (8, .int v5), (10, .long v4), (0, .long x0), (2, .int x2), (5, .long x5), (7, .int x7), (9, .int x9)]) d_Shifts_shortestRule_79 (by decide) rfl ?_
        obtain ⟨v6, ev6⟩ : ∃ z : Int32, z = x9 + (1 : Int32) := ⟨_, rfl⟩
        have h := h v6 ev6
        refine am_iinc (v := v6) (l' := [(9, .int v6), (3, .long v4), (8, .int v5), (10, .long v4), (0, .long x0), (2, .int x2), (5, .long x5), (7, .int x7)]) d_Shifts_shortestRule_80 7 rfl (by rw [ev6]; rfl) (by decide) rfl ?_
        refine am_goto (tgt := 14) d_Shifts_shortestRule_83 (by decide) ?_
        refine am_sub [4, 5, 1, 6, 7, 2, 0] rfl ?_
        exact hK14 x0 x2 v4 x5 x7 v5 v6 h
      · have h := h.2 c53
        refine am_lload_n d_Shifts_shortestRule_56 3 rfl ?_
        refine am_lstore (l' := [(5, .long x3), (10, .long v4), (0, .long x0), (2, .int x2), (3, .long x3), (7, .int x7), (8, .int x8), (9, .int x9)]) d_Shifts_shortestRule_57 (by decide) rfl ?_
        refine am_iload d_Shifts_shortestRule_59 7 rfl ?_
        refine am_iconst (v := 1) d_Shifts_shortestRule_61 rfl ?_
        refine am_iadd d_Shifts_shortestRule_62 ?_
        refine am_iload d_Shifts_shortestRule_63 5 rfl ?_
        refine am_isub d_Shifts_shortestRule_65 ?_
        refine am_topi (fun v7 ev7 => ?_)
        have h := h v7 ev7
        refine am_istore (l' := [(7, .int v7), (5, .long x3), (10, .long v4), (0, .long x0), (2, .int x2), (3, .long x3), (8, .int x8), (9, .int x9)]) d_Shifts_shortestRule_66 (by decide) rfl ?_
        refine am_iconst (v := 1) d_Shifts_shortestRule_68 rfl ?_
        refine am_istore (l' := [(8, .int (1 : Int32)), (7, .int v7), (5, .long x3), (10, .long v4), (0, .long x0), (2, .int x2), (3, .long x3), (9, .int x9)]) d_Shifts_shortestRule_69 (by decide) rfl ?_
        refine am_goto (tgt := 77) d_Shifts_shortestRule_71 (by decide) ?_
        refine am_lload d_Shifts_shortestRule_77 3 rfl ?_
        refine am_lstore_n (l' := [(3, .long v4), (8, .int (1 : Int32)), (7, .int v7), (5, .long x3), (10, .long v4), (0, .long x0), (2, .int x2), (9, .int x9)]) d_Shifts_shortestRule_79 (by decide) rfl ?_
        obtain ⟨v8, ev8⟩ : ∃ z : Int32, z = x9 + (1 : Int32) := ⟨_, rfl⟩
        have h := h v8 ev8
        refine am_iinc (v := v8) (l' := [(9, .int v8), (3, .long v4), (8, .int (1 : Int32)), (7, .int v7), (5, .long x3), (10, .long v4), (0, .long x0), (2, .int x2)]) d_Shifts_shortestRule_80 7 rfl (by rw [ev8]; rfl) (by decide) rfl ?_
        refine am_goto (tgt := 14) d_Shifts_shortestRule_83 (by decide) ?_
        refine am_sub [6, 7, 1, 4, 3, 2, 0] rfl ?_
        exact hK14 x0 x2 v4 x3 v7 (1 : Int32) v8 h
    · have h := h.2 c29
      obtain ⟨v9, ev9⟩ : ∃ z : Int32, z = x8 + (1 : Int32) := ⟨_, rfl⟩
      have h := h v9 ev9
      refine am_iinc (v := v9) (l' := [(8, .int v9), (0, .long x0), (2, .int x2), (3, .long x3), (5, .long x5), (7, .int x7), (9, .int x9)]) d_Shifts_shortestRule_32 5 rfl (by rw [ev9]; rfl) (by decide) rfl ?_
      refine am_goto (tgt := 80) d_Shifts_shortestRule_35 (by decide) ?_
      obtain ⟨v10, ev10⟩ : ∃ z : Int32, z = x9 + (1 : Int32) := ⟨_, rfl⟩
      have h := h v10 ev10
      refine am_iinc (v := v10) (l' := [(9, .int v10), (8, .int v9), (0, .long x0), (2, .int x2), (3, .long x3), (5, .long x5), (7, .int x7)]) d_Shifts_shortestRule_80 6 rfl (by rw [ev10]; rfl) (by decide) rfl ?_
      refine am_goto (tgt := 14) d_Shifts_shortestRule_83 (by decide) ?_
      refine am_sub [2, 3, 4, 5, 6, 1, 0] rfl ?_
      exact hK14 x0 x2 x3 x5 x7 v9 v10 h
theorem cf_Shifts_shortestRule_L14_ok {g : ayG} {d : Nat} (hd : 1 ≤ d)   (w : Wd)  (P : Int64 → Prop) (Q : Option Value → Wd → Prop) (hQ : ∀ x, P x → Q (some (.long x)) w)  : ∀ (n : Nat) (x0 : Int64) (x2 : Int32) (x3 : Int64) (x5 : Int64) (x7 : Int32) (x8 : Int32) (x9 : Int32) (h : cf_Shifts_shortestRule_L14 P n x0 x2 x3 x5 x7 x8 x9), wp g (fun _ => True) y_Shifts_shortestRule prog_10_method_5_code 12 (some FieldType.long) d 14 [(0, .long x0), (2, .int x2), (3, .long x3), (5, .long x5), (7, .int x7), (8, .int x8), (9, .int x9)] [] w Q
  | 0, x0, x2, x3, x5, x7, x8, x9, h => False.elim h
  | n + 1, x0, x2, x3, x5, x7, x8, x9, h => cf_Shifts_shortestRule_B14_ok hd   w (cf_Shifts_shortestRule_L14 P n) P Q hQ (fun x0 x2 x3 x5 x7 x8 x9 h => cf_Shifts_shortestRule_L14_ok hd   w  P Q hQ  n x0 x2 x3 x5 x7 x8 x9 h) x0 x2 x3 x5 x7 x8 x9 h
theorem cf_Shifts_shortestRule_ok {g : ayG} {d : Nat} (hd : 1 ≤ d) (a0 : Int64) (a1 : Int32)  (w : Wd) (P : Int64 → Prop) (h : cf_Shifts_shortestRule a0 a1 P) : Call g y_Shifts_shortestRule prog_10_method_5_code 12 (some FieldType.long) d [.long a0, .int a1] w (fun (r : Option Value) (w2 : Wd) => ∃ x, r = some (.long x) ∧ w = w2 ∧ P x) := by
  unfold cf_Shifts_shortestRule at h
  refine am_enter mi_Shifts_shortestRule (Nat.le_of_ble_eq_true rfl) ?_
  have hQ : ∀ x, P x → (fun (r : Option Value) (w2 : Wd) => ∃ x, r = some (.long x) ∧ w = w2 ∧ P x) (some (.long x)) w := fun x h => ⟨x, rfl, rfl, h⟩
  generalize (fun (r : Option Value) (w2 : Wd) => ∃ x, r = some (.long x) ∧ w = w2 ∧ P x) = Q at hQ ⊢
  show wp g (fun _ => True) y_Shifts_shortestRule prog_10_method_5_code 12 (some FieldType.long) d 0 [(0, .long a0), (2, .int a1)] [] w Q
  refine am_lconst (v := 1) d_Shifts_shortestRule_0 rfl ?_
  refine am_lstore_n (l' := [(3, .long (1 : Int64)), (0, .long a0), (2, .int a1)]) d_Shifts_shortestRule_1 (by decide) rfl ?_
  refine am_lconst (v := 1) d_Shifts_shortestRule_2 rfl ?_
  refine am_lstore (l' := [(5, .long (1 : Int64)), (3, .long (1 : Int64)), (0, .long a0), (2, .int a1)]) d_Shifts_shortestRule_3 (by decide) rfl ?_
  refine am_iconst (v := 0) d_Shifts_shortestRule_5 rfl ?_
  refine am_istore (l' := [(7, .int (0 : Int32)), (5, .long (1 : Int64)), (3, .long (1 : Int64)), (0, .long a0), (2, .int a1)]) d_Shifts_shortestRule_6 (by decide) rfl ?_
  refine am_iconst (v := 1) d_Shifts_shortestRule_8 rfl ?_
  refine am_istore (l' := [(8, .int (1 : Int32)), (7, .int (0 : Int32)), (5, .long (1 : Int64)), (3, .long (1 : Int64)), (0, .long a0), (2, .int a1)]) d_Shifts_shortestRule_9 (by decide) rfl ?_
  refine am_iconst (v := 0) d_Shifts_shortestRule_11 rfl ?_
  refine am_istore (l' := [(9, .int (0 : Int32)), (8, .int (1 : Int32)), (7, .int (0 : Int32)), (5, .long (1 : Int64)), (3, .long (1 : Int64)), (0, .long a0), (2, .int a1)]) d_Shifts_shortestRule_12 (by decide) rfl ?_
  refine am_sub [5, 6, 4, 3, 2, 1, 0] rfl ?_
  obtain ⟨n, h⟩ := h
  exact cf_Shifts_shortestRule_L14_ok (by omega)   w  P Q hQ  n a0 a1 (1 : Int64) (1 : Int64) (0 : Int32) (1 : Int32) (0 : Int32) h
