-- bytecode as predicates, by program (wip/whole/gen/extract.py)
theorem mi_Polys_degree : ay_MI y_Polys_degree prog_7_method_2_code 2 (some FieldType.int) 1 := ⟨wd_392, wd_17, by decide +kernel, by decide +kernel, by decide⟩
theorem mi_Polys_tri : ay_MI y_Polys_tri prog_7_method_3_code 2 (some FieldType.long) 2 := ⟨wd_385, wd_17, by decide +kernel, by decide +kernel, by decide⟩
theorem mi_Polys_product : ay_MI y_Polys_product prog_7_method_4_code 7 (some FieldType.long) 2 := ⟨wd_408, wd_17, by decide +kernel, by decide +kernel, by decide⟩
theorem mi_Polys_square : ay_MI y_Polys_square prog_7_method_5_code 4 (some FieldType.long) 1 := ⟨wd_509, wd_17, by decide +kernel, by decide +kernel, by decide⟩
theorem mi_Polys_quotient : ay_MI y_Polys_quotient prog_7_method_6_code 11 (some FieldType.long) 2 := ⟨wd_480, wd_17, by decide +kernel, by decide +kernel, by decide⟩
theorem mi_Polys_remainder : ay_MI y_Polys_remainder prog_7_method_7_code 9 (some FieldType.long) 2 := ⟨wd_487, wd_17, by decide +kernel, by decide +kernel, by decide⟩
theorem mi_Polys_gcd : ay_MI y_Polys_gcd prog_7_method_8_code 11 (some FieldType.long) 2 := ⟨wd_494, wd_17, by decide +kernel, by decide +kernel, by decide⟩
theorem mi_Polys_productBy : ay_MI y_Polys_productBy prog_7_method_9_code 6 (some FieldType.long) 3 := ⟨wd_531, wd_17, by decide +kernel, by decide +kernel, by decide⟩
theorem mi_Polys_squareBy : ay_MI y_Polys_squareBy prog_7_method_10_code 4 (some FieldType.long) 2 := ⟨wd_650, wd_17, by decide +kernel, by decide +kernel, by decide⟩
theorem mi_Polys_powerBy : ay_MI y_Polys_powerBy prog_7_method_11_code 11 (some FieldType.long) 3 := ⟨wd_506, wd_17, by decide +kernel, by decide +kernel, by decide⟩
theorem mi_Polys_inverseBy : ay_MI y_Polys_inverseBy prog_7_method_12_code 19 (some FieldType.long) 2 := ⟨wd_538, wd_17, by decide +kernel, by decide +kernel, by decide⟩
theorem mi_Polys_composed : ay_MI y_Polys_composed prog_7_method_13_code 9 (some FieldType.long) 3 := ⟨wd_528, wd_17, by decide +kernel, by decide +kernel, by decide⟩
theorem mi_Polys_shifted : ay_MI y_Polys_shifted prog_7_method_14_code 5 (some FieldType.long) 1 := ⟨wd_521, wd_17, by decide +kernel, by decide +kernel, by decide⟩
theorem mi_Polys_risen : ay_MI y_Polys_risen prog_7_method_15_code 6 (some FieldType.long) 2 := ⟨wd_546, wd_17, by decide +kernel, by decide +kernel, by decide⟩
theorem mi_Polys_reversed : ay_MI y_Polys_reversed prog_7_method_16_code 6 (some FieldType.long) 1 := ⟨wd_389, wd_17, by decide +kernel, by decide +kernel, by decide⟩
theorem mi_Polys_derived : ay_MI y_Polys_derived prog_7_method_17_code 2 (some FieldType.long) 1 := ⟨wd_403, wd_17, by decide +kernel, by decide +kernel, by decide⟩
theorem mi_Polys_isIrreducible : ay_MI y_Polys_isIrreducible prog_7_method_18_code 6 (some FieldType.boolean) 1 := ⟨wd_645, wd_17, by decide +kernel, by decide +kernel, by decide⟩
theorem d_Polys_degree_0 : decode prog_7_method_2_code 0 = .ok (.bipush 63, 2) := by decide +kernel
theorem d_Polys_degree_2 : decode prog_7_method_2_code 2 = .ok (.lload_n 0, 1) := by decide +kernel
theorem d_Polys_degree_3 : decode prog_7_method_2_code 3 = .ok (.invokestatic 7, 3) := by decide +kernel
theorem d_Polys_degree_6 : decode prog_7_method_2_code 6 = .ok (.isub, 1) := by decide +kernel
theorem d_Polys_degree_7 : decode prog_7_method_2_code 7 = .ok (.ireturn, 1) := by decide +kernel
def cf_Polys_degree (a0 : Int64) (P : Int32 → Prop) : Prop :=
  cf_Long_numberOfLeadingZeros a0 (fun r1 => P ((63 : Int32) - r1))
theorem cf_Polys_degree_ok {g : ayG} {d : Nat} (hd : 2 ≤ d) (a0 : Int64)  (w : Wd) (P : Int32 → Prop) (h : cf_Polys_degree a0 P) : Call g y_Polys_degree prog_7_method_2_code 2 (some FieldType.int) d [.long a0] w (fun (r : Option Value) (w2 : Wd) => ∃ x, r = some (.int x) ∧ w = w2 ∧ P x) := by
  unfold cf_Polys_degree at h
  refine am_enter mi_Polys_degree (Nat.le_of_ble_eq_true rfl) ?_
  have hQ : ∀ x, P x → (fun (r : Option Value) (w2 : Wd) => ∃ x, r = some (.int x) ∧ w = w2 ∧ P x) (some (.int x)) w := fun x h => ⟨x, rfl, rfl, h⟩
  generalize (fun (r : Option Value) (w2 : Wd) => ∃ x, r = some (.int x) ∧ w = w2 ∧ P x) = Q at hQ ⊢
  show wp g (fun _ => True) y_Polys_degree prog_7_method_2_code 2 (some FieldType.int) d 0 [(0, .long a0)] [] w Q
  refine am_bipush (v := 63) d_Polys_degree_0 rfl ?_
  refine am_lload_n d_Polys_degree_2 0 rfl ?_
  refine am_callS (d2 := d - 1) [.long a0] d_Polys_degree_3 mi_Long_numberOfLeadingZeros wd_393 wd_394 (by omega) rfl rfl (Nat.le_of_ble_eq_true rfl) ?_
  refine Call.post ?_ (cf_Long_numberOfLeadingZeros_ok (by omega) a0  w _ h)
  rintro _ _ ⟨r1, rfl, rfl, h⟩
  show wp g (fun _ => True) y_Polys_degree prog_7_method_2_code 2 (some FieldType.int) d 6 [(0, .long a0)] [.int r1, .int (63 : Int32)] w Q
  refine am_isub d_Polys_degree_6 ?_
  exact am_ireturn d_Polys_degree_7 rfl rfl (hQ ((63 : Int32) - r1) h)
theorem d_Polys_tri_0 : decode prog_7_method_3_code 0 = .ok (.lconst 1, 1) := by decide +kernel
theorem d_Polys_tri_1 : decode prog_7_method_3_code 1 = .ok (.iload_n 0, 1) := by decide +kernel
theorem d_Polys_tri_2 : decode prog_7_method_3_code 2 = .ok (.lshl, 1) := by decide +kernel
theorem d_Polys_tri_3 : decode prog_7_method_3_code 3 = .ok (.lconst 1, 1) := by decide +kernel
theorem d_Polys_tri_4 : decode prog_7_method_3_code 4 = .ok (.iload_n 1, 1) := by decide +kernel
theorem d_Polys_tri_5 : decode prog_7_method_3_code 5 = .ok (.lshl, 1) := by decide +kernel
theorem d_Polys_tri_6 : decode prog_7_method_3_code 6 = .ok (.lor, 1) := by decide +kernel
theorem d_Polys_tri_7 : decode prog_7_method_3_code 7 = .ok (.lconst 1, 1) := by decide +kernel
theorem d_Polys_tri_8 : decode prog_7_method_3_code 8 = .ok (.lor, 1) := by decide +kernel
theorem d_Polys_tri_9 : decode prog_7_method_3_code 9 = .ok (.lreturn, 1) := by decide +kernel
def cf_Polys_tri (a0 : Int32) (a1 : Int32) (P : Int64 → Prop) : Prop :=
  P (((lshl (1 : Int64) a0) ||| (lshl (1 : Int64) a1)) ||| (1 : Int64))
theorem cf_Polys_tri_ok {g : ayG} {d : Nat} (hd : 0 ≤ d) (a0 : Int32) (a1 : Int32)  (w : Wd) (P : Int64 → Prop) (h : cf_Polys_tri a0 a1 P) : Call g y_Polys_tri prog_7_method_3_code 2 (some FieldType.long) d [.int a0, .int a1] w (fun (r : Option Value) (w2 : Wd) => ∃ x, r = some (.long x) ∧ w = w2 ∧ P x) := by
  unfold cf_Polys_tri at h
  refine am_enter mi_Polys_tri (Nat.le_of_ble_eq_true rfl) ?_
  have hQ : ∀ x, P x → (fun (r : Option Value) (w2 : Wd) => ∃ x, r = some (.long x) ∧ w = w2 ∧ P x) (some (.long x)) w := fun x h => ⟨x, rfl, rfl, h⟩
  generalize (fun (r : Option Value) (w2 : Wd) => ∃ x, r = some (.long x) ∧ w = w2 ∧ P x) = Q at hQ ⊢
  show wp g (fun _ => True) y_Polys_tri prog_7_method_3_code 2 (some FieldType.long) d 0 [(0, .int a0), (1, .int a1)] [] w Q
  refine am_lconst (v := 1) d_Polys_tri_0 rfl ?_
  refine am_iload_n d_Polys_tri_1 0 rfl ?_
  refine am_lshl d_Polys_tri_2 ?_
  refine am_lconst (v := 1) d_Polys_tri_3 rfl ?_
  refine am_iload_n d_Polys_tri_4 1 rfl ?_
  refine am_lshl d_Polys_tri_5 ?_
  refine am_lor d_Polys_tri_6 ?_
  refine am_lconst (v := 1) d_Polys_tri_7 rfl ?_
  refine am_lor d_Polys_tri_8 ?_
  exact am_lreturn d_Polys_tri_9 rfl (hQ (((lshl (1 : Int64) a0) ||| (lshl (1 : Int64) a1)) ||| (1 : Int64)) h)
theorem d_Polys_product_0 : decode prog_7_method_4_code 0 = .ok (.lconst 0, 1) := by decide +kernel
theorem d_Polys_product_1 : decode prog_7_method_4_code 1 = .ok (.lstore 4, 2) := by decide +kernel
theorem d_Polys_product_3 : decode prog_7_method_4_code 3 = .ok (.bipush 63, 2) := by decide +kernel
theorem d_Polys_product_5 : decode prog_7_method_4_code 5 = .ok (.lload_n 2, 1) := by decide +kernel
theorem d_Polys_product_6 : decode prog_7_method_4_code 6 = .ok (.invokestatic 7, 3) := by decide +kernel
theorem d_Polys_product_9 : decode prog_7_method_4_code 9 = .ok (.isub, 1) := by decide +kernel
theorem d_Polys_product_10 : decode prog_7_method_4_code 10 = .ok (.istore 6, 2) := by decide +kernel
theorem d_Polys_product_12 : decode prog_7_method_4_code 12 = .ok (.iload 6, 2) := by decide +kernel
theorem d_Polys_product_14 : decode prog_7_method_4_code 14 = .ok (.ifCond .lt 29, 3) := by decide +kernel
theorem d_Polys_product_17 : decode prog_7_method_4_code 17 = .ok (.lload_n 2, 1) := by decide +kernel
theorem d_Polys_product_18 : decode prog_7_method_4_code 18 = .ok (.iload 6, 2) := by decide +kernel
theorem d_Polys_product_20 : decode prog_7_method_4_code 20 = .ok (.lshr, 1) := by decide +kernel
theorem d_Polys_product_21 : decode prog_7_method_4_code 21 = .ok (.lconst 1, 1) := by decide +kernel
theorem d_Polys_product_22 : decode prog_7_method_4_code 22 = .ok (.land, 1) := by decide +kernel
theorem d_Polys_product_23 : decode prog_7_method_4_code 23 = .ok (.lconst 0, 1) := by decide +kernel
theorem d_Polys_product_24 : decode prog_7_method_4_code 24 = .ok (.lcmp, 1) := by decide +kernel
theorem d_Polys_product_25 : decode prog_7_method_4_code 25 = .ok (.ifCond .eq 12, 3) := by decide +kernel
theorem d_Polys_product_28 : decode prog_7_method_4_code 28 = .ok (.lload 4, 2) := by decide +kernel
theorem d_Polys_product_30 : decode prog_7_method_4_code 30 = .ok (.lload_n 0, 1) := by decide +kernel
theorem d_Polys_product_31 : decode prog_7_method_4_code 31 = .ok (.iload 6, 2) := by decide +kernel
theorem d_Polys_product_33 : decode prog_7_method_4_code 33 = .ok (.lshl, 1) := by decide +kernel
theorem d_Polys_product_34 : decode prog_7_method_4_code 34 = .ok (.lxor, 1) := by decide +kernel
theorem d_Polys_product_35 : decode prog_7_method_4_code 35 = .ok (.lstore 4, 2) := by decide +kernel
theorem d_Polys_product_37 : decode prog_7_method_4_code 37 = .ok (.iinc 6 (-1), 3) := by decide +kernel
theorem d_Polys_product_40 : decode prog_7_method_4_code 40 = .ok (.goto (-28), 3) := by decide +kernel
theorem d_Polys_product_43 : decode prog_7_method_4_code 43 = .ok (.lload 4, 2) := by decide +kernel
theorem d_Polys_product_45 : decode prog_7_method_4_code 45 = .ok (.lreturn, 1) := by decide +kernel
def cf_Polys_product_B12  (K12 : Int64 → Int64 → Int64 → Int32 → Prop) (P : Int64 → Prop) (x0 : Int64) (x2 : Int64) (x4 : Int64) (x6 : Int32)  : Prop :=
  ((x6 < 0 → P x4) ∧ (¬ x6 < 0 → ((((lshr x2 x6) &&& (1 : Int64)) = (0 : Int64) → ∀ v3, v3 = x6 + (-1 : Int32) → K12 x0 x2 x4 v3) ∧ (¬ ((lshr x2 x6) &&& (1 : Int64)) = (0 : Int64) → ∀ v4, v4 = x4 ^^^ (lshl x0 x6) → ∀ v5, v5 = x6 + (-1 : Int32) → K12 x0 x2 v4 v5))))
def cf_Polys_product_L12   (P : Int64 → Prop) : Nat → Int64 → Int64 → Int64 → Int32 → Prop
  | 0 => fun x0 x2 x4 x6 => False
  | n + 1 => fun x0 x2 x4 x6 => cf_Polys_product_B12 (cf_Polys_product_L12 P n) P x0 x2 x4 x6
def cf_Polys_product (a0 : Int64) (a1 : Int64) (P : Int64 → Prop) : Prop :=
  cf_Long_numberOfLeadingZeros a1 (fun r1 => ∀ v2, v2 = (63 : Int32) - r1 → ∃ n, cf_Polys_product_L12 P n a0 a1 (0 : Int64) v2)
theorem cf_Polys_product_B12_ok {g : ayG} {d : Nat} (hd : 2 ≤ d)   (w : Wd) (K12 : Int64 → Int64 → Int64 → Int32 → Prop) (P : Int64 → Prop) (Q : Option Value → Wd → Prop) (hQ : ∀ x, P x → Q (some (.long x)) w) (hK12 : ∀ (x0 : Int64) (x2 : Int64) (x4 : Int64) (x6 : Int32), (K12 x0 x2 x4 x6 → wp g (fun _ => True) y_Polys_product prog_7_method_4_code 7 (some FieldType.long) d 12 [(0, .long x0), (2, .long x2), (4, .long x4), (6, .int x6)] [] w Q)) (x0 : Int64) (x2 : Int64) (x4 : Int64) (x6 : Int32) (h : cf_Polys_product_B12 K12 P x0 x2 x4 x6) : wp g (fun _ => True) y_Polys_product prog_7_method_4_code 7 (some FieldType.long) d 12 [(0, .long x0), (2, .long x2), (4, .long x4), (6, .int x6)] [] w Q := by
  unfold cf_Polys_product_B12 at h
  refine am_iload d_Polys_product_12 3 rfl ?_
  refine am_if_lt (tgt := 43) d_Polys_product_14 (by decide) (fun c14 => ?_) (fun c14 => ?_)
  · have h := h.1 c14
    refine am_lload d_Polys_product_43 2 rfl ?_
    exact am_lreturn d_Polys_product_45 rfl (hQ x4 h)
  · have h := h.2 c14
    refine am_lload_n d_Polys_product_17 1 rfl ?_
    refine am_iload d_Polys_product_18 3 rfl ?_
    refine am_lshr d_Polys_product_20 ?_
    refine am_lconst (v := 1) d_Polys_product_21 rfl ?_
    refine am_land d_Polys_product_22 ?_
    refine am_lconst (v := 0) d_Polys_product_23 rfl ?_
    refine am_lif_eq (tgt := 37) d_Polys_product_24 d_Polys_product_25 (by decide) (fun c24 => ?_) (fun c24 => ?_)
    · have h := h.1 c24
      obtain ⟨v3, ev3⟩ : ∃ z : Int32, z = x6 + (-1 : Int32) := ⟨_, rfl⟩
      have h := h v3 ev3
      refine am_iinc (v := v3) (l' := [(6, .int v3), (0, .long x0), (2, .long x2), (4, .long x4)]) d_Polys_product_37 3 rfl (by rw [ev3]; rfl) (by decide) rfl ?_
      refine am_goto (tgt := 12) d_Polys_product_40 (by decide) ?_
      refine am_sub [1, 2, 3, 0] rfl ?_
      exact hK12 x0 x2 x4 v3 h
    · have h := h.2 c24
      refine am_lload d_Polys_product_28 2 rfl ?_
      refine am_lload_n d_Polys_product_30 0 rfl ?_
      refine am_iload d_Polys_product_31 3 rfl ?_
      refine am_lshl d_Polys_product_33 ?_
      refine am_lxor d_Polys_product_34 ?_
      refine am_topl (fun v4 ev4 => ?_)
      have h := h v4 ev4
      refine am_lstore (l' := [(4, .long v4), (0, .long x0), (2, .long x2), (6, .int x6)]) d_Polys_product_35 (by decide) rfl ?_
      obtain ⟨v5, ev5⟩ : ∃ z : Int32, z = x6 + (-1 : Int32) := ⟨_, rfl⟩
      have h := h v5 ev5
      refine am_iinc (v := v5) (l' := [(6, .int v5), (4, .long v4), (0, .long x0), (2, .long x2)]) d_Polys_product_37 3 rfl (by rw [ev5]; rfl) (by decide) rfl ?_
      refine am_goto (tgt := 12) d_Polys_product_40 (by decide) ?_
      refine am_sub [2, 3, 1, 0] rfl ?_
      exact hK12 x0 x2 v4 v5 h
theorem cf_Polys_product_L12_ok {g : ayG} {d : Nat} (hd : 2 ≤ d)   (w : Wd)  (P : Int64 → Prop) (Q : Option Value → Wd → Prop) (hQ : ∀ x, P x → Q (some (.long x)) w)  : ∀ (n : Nat) (x0 : Int64) (x2 : Int64) (x4 : Int64) (x6 : Int32) (h : cf_Polys_product_L12 P n x0 x2 x4 x6), wp g (fun _ => True) y_Polys_product prog_7_method_4_code 7 (some FieldType.long) d 12 [(0, .long x0), (2, .long x2), (4, .long x4), (6, .int x6)] [] w Q
  | 0, x0, x2, x4, x6, h => False.elim h
  | n + 1, x0, x2, x4, x6, h => cf_Polys_product_B12_ok hd   w (cf_Polys_product_L12 P n) P Q hQ (fun x0 x2 x4 x6 h => cf_Polys_product_L12_ok hd   w  P Q hQ  n x0 x2 x4 x6 h) x0 x2 x4 x6 h
theorem cf_Polys_product_ok {g : ayG} {d : Nat} (hd : 2 ≤ d) (a0 : Int64) (a1 : Int64)  (w : Wd) (P : Int64 → Prop) (h : cf_Polys_product a0 a1 P) : Call g y_Polys_product prog_7_method_4_code 7 (some FieldType.long) d [.long a0, .long a1] w (fun (r : Option Value) (w2 : Wd) => ∃ x, r = some (.long x) ∧ w = w2 ∧ P x) := by
  unfold cf_Polys_product at h
  refine am_enter mi_Polys_product (Nat.le_of_ble_eq_true rfl) ?_
  have hQ : ∀ x, P x → (fun (r : Option Value) (w2 : Wd) => ∃ x, r = some (.long x) ∧ w = w2 ∧ P x) (some (.long x)) w := fun x h => ⟨x, rfl, rfl, h⟩
  generalize (fun (r : Option Value) (w2 : Wd) => ∃ x, r = some (.long x) ∧ w = w2 ∧ P x) = Q at hQ ⊢
  show wp g (fun _ => True) y_Polys_product prog_7_method_4_code 7 (some FieldType.long) d 0 [(0, .long a0), (2, .long a1)] [] w Q
  refine am_lconst (v := 0) d_Polys_product_0 rfl ?_
  refine am_lstore (l' := [(4, .long (0 : Int64)), (0, .long a0), (2, .long a1)]) d_Polys_product_1 (by decide) rfl ?_
  refine am_bipush (v := 63) d_Polys_product_3 rfl ?_
  refine am_lload_n d_Polys_product_5 2 rfl ?_
  refine am_callS (d2 := d - 1) [.long a1] d_Polys_product_6 mi_Long_numberOfLeadingZeros wd_393 wd_394 (by omega) rfl rfl (Nat.le_of_ble_eq_true rfl) ?_
  refine Call.post ?_ (cf_Long_numberOfLeadingZeros_ok (by omega) a1  w _ h)
  rintro _ _ ⟨r1, rfl, rfl, h⟩
  show wp g (fun _ => True) y_Polys_product prog_7_method_4_code 7 (some FieldType.long) d 9 [(4, .long (0 : Int64)), (0, .long a0), (2, .long a1)] [.int r1, .int (63 : Int32)] w Q
  refine am_isub d_Polys_product_9 ?_
  refine am_topi (fun v2 ev2 => ?_)
  have h := h v2 ev2
  refine am_istore (l' := [(6, .int v2), (4, .long (0 : Int64)), (0, .long a0), (2, .long a1)]) d_Polys_product_10 (by decide) rfl ?_
  refine am_sub [2, 3, 1, 0] rfl ?_
  obtain ⟨n, h⟩ := h
  exact cf_Polys_product_L12_ok (by omega)   w  P Q hQ  n a0 a1 (0 : Int64) v2 h
theorem d_Polys_square_0 : decode prog_7_method_5_code 0 = .ok (.lload_n 0, 1) := by decide +kernel
theorem d_Polys_square_1 : decode prog_7_method_5_code 1 = .ok (.lload_n 0, 1) := by decide +kernel
theorem d_Polys_square_2 : decode prog_7_method_5_code 2 = .ok (.bipush 16, 2) := by decide +kernel
theorem d_Polys_square_4 : decode prog_7_method_5_code 4 = .ok (.lshl, 1) := by decide +kernel
theorem d_Polys_square_5 : decode prog_7_method_5_code 5 = .ok (.lor, 1) := by decide +kernel
theorem d_Polys_square_6 : decode prog_7_method_5_code 6 = .ok (.ldc2_w 13, 3) := by decide +kernel
theorem d_Polys_square_9 : decode prog_7_method_5_code 9 = .ok (.land, 1) := by decide +kernel
theorem d_Polys_square_10 : decode prog_7_method_5_code 10 = .ok (.lstore_n 2, 1) := by decide +kernel
theorem d_Polys_square_11 : decode prog_7_method_5_code 11 = .ok (.lload_n 2, 1) := by decide +kernel
theorem d_Polys_square_12 : decode prog_7_method_5_code 12 = .ok (.lload_n 2, 1) := by decide +kernel
theorem d_Polys_square_13 : decode prog_7_method_5_code 13 = .ok (.bipush 8, 2) := by decide +kernel
theorem d_Polys_square_15 : decode prog_7_method_5_code 15 = .ok (.lshl, 1) := by decide +kernel
theorem d_Polys_square_16 : decode prog_7_method_5_code 16 = .ok (.lor, 1) := by decide +kernel
theorem d_Polys_square_17 : decode prog_7_method_5_code 17 = .ok (.ldc2_w 15, 3) := by decide +kernel
theorem d_Polys_square_20 : decode prog_7_method_5_code 20 = .ok (.land, 1) := by decide +kernel
theorem d_Polys_square_21 : decode prog_7_method_5_code 21 = .ok (.lstore_n 2, 1) := by decide +kernel
theorem d_Polys_square_22 : decode prog_7_method_5_code 22 = .ok (.lload_n 2, 1) := by decide +kernel
theorem d_Polys_square_23 : decode prog_7_method_5_code 23 = .ok (.lload_n 2, 1) := by decide +kernel
theorem d_Polys_square_24 : decode prog_7_method_5_code 24 = .ok (.iconst 4, 1) := by decide +kernel
theorem d_Polys_square_25 : decode prog_7_method_5_code 25 = .ok (.lshl, 1) := by decide +kernel
theorem d_Polys_square_26 : decode prog_7_method_5_code 26 = .ok (.lor, 1) := by decide +kernel
theorem d_Polys_square_27 : decode prog_7_method_5_code 27 = .ok (.ldc2_w 17, 3) := by decide +kernel
theorem d_Polys_square_30 : decode prog_7_method_5_code 30 = .ok (.land, 1) := by decide +kernel
theorem d_Polys_square_31 : decode prog_7_method_5_code 31 = .ok (.lstore_n 2, 1) := by decide +kernel
theorem d_Polys_square_32 : decode prog_7_method_5_code 32 = .ok (.lload_n 2, 1) := by decide +kernel
theorem d_Polys_square_33 : decode prog_7_method_5_code 33 = .ok (.lload_n 2, 1) := by decide +kernel
theorem d_Polys_square_34 : decode prog_7_method_5_code 34 = .ok (.iconst 2, 1) := by decide +kernel
theorem d_Polys_square_35 : decode prog_7_method_5_code 35 = .ok (.lshl, 1) := by decide +kernel
theorem d_Polys_square_36 : decode prog_7_method_5_code 36 = .ok (.lor, 1) := by decide +kernel
theorem d_Polys_square_37 : decode prog_7_method_5_code 37 = .ok (.ldc2_w 19, 3) := by decide +kernel
theorem d_Polys_square_40 : decode prog_7_method_5_code 40 = .ok (.land, 1) := by decide +kernel
theorem d_Polys_square_41 : decode prog_7_method_5_code 41 = .ok (.lstore_n 2, 1) := by decide +kernel
theorem d_Polys_square_42 : decode prog_7_method_5_code 42 = .ok (.lload_n 2, 1) := by decide +kernel
theorem d_Polys_square_43 : decode prog_7_method_5_code 43 = .ok (.lload_n 2, 1) := by decide +kernel
theorem d_Polys_square_44 : decode prog_7_method_5_code 44 = .ok (.iconst 1, 1) := by decide +kernel
theorem d_Polys_square_45 : decode prog_7_method_5_code 45 = .ok (.lshl, 1) := by decide +kernel
theorem d_Polys_square_46 : decode prog_7_method_5_code 46 = .ok (.lor, 1) := by decide +kernel
theorem d_Polys_square_47 : decode prog_7_method_5_code 47 = .ok (.ldc2_w 21, 3) := by decide +kernel
theorem d_Polys_square_50 : decode prog_7_method_5_code 50 = .ok (.land, 1) := by decide +kernel
theorem d_Polys_square_51 : decode prog_7_method_5_code 51 = .ok (.lreturn, 1) := by decide +kernel
def cf_Polys_square (a0 : Int64) (P : Int64 → Prop) : Prop :=
  ∀ v1, v1 = (a0 ||| (lshl a0 (16 : Int32))) &&& (281470681808895 : Int64) → ∀ v2, v2 = (v1 ||| (lshl v1 (8 : Int32))) &&& (71777214294589695 : Int64) → ∀ v3, v3 = (v2 ||| (lshl v2 (4 : Int32))) &&& (1085102592571150095 : Int64) → ∀ v4, v4 = (v3 ||| (lshl v3 (2 : Int32))) &&& (3689348814741910323 : Int64) → P ((v4 ||| (lshl v4 (1 : Int32))) &&& (6148914691236517205 : Int64))
theorem cf_Polys_square_ok {g : ayG} {d : Nat} (hd : 0 ≤ d) (a0 : Int64)  (w : Wd) (P : Int64 → Prop) (h : cf_Polys_square a0 P) : Call g y_Polys_square prog_7_method_5_code 4 (some FieldType.long) d [.long a0] w (fun (r : Option Value) (w2 : Wd) => ∃ x, r = some (.long x) ∧ w = w2 ∧ P x) := by
  unfold cf_Polys_square at h
  refine am_enter mi_Polys_square (Nat.le_of_ble_eq_true rfl) ?_
  have hQ : ∀ x, P x → (fun (r : Option Value) (w2 : Wd) => ∃ x, r = some (.long x) ∧ w = w2 ∧ P x) (some (.long x)) w := fun x h => ⟨x, rfl, rfl, h⟩
  generalize (fun (r : Option Value) (w2 : Wd) => ∃ x, r = some (.long x) ∧ w = w2 ∧ P x) = Q at hQ ⊢
  show wp g (fun _ => True) y_Polys_square prog_7_method_5_code 4 (some FieldType.long) d 0 [(0, .long a0)] [] w Q
  refine am_lload_n d_Polys_square_0 0 rfl ?_
  refine am_lload_n d_Polys_square_1 0 rfl ?_
  refine am_bipush (v := 16) d_Polys_square_2 rfl ?_
  refine am_lshl d_Polys_square_4 ?_
  refine am_lor d_Polys_square_5 ?_
  refine am_ldc2 (v := 281470681808895) d_Polys_square_6 wd_510 ?_
  refine am_land d_Polys_square_9 ?_
  refine am_topl (fun v1 ev1 => ?_)
  have h := h v1 ev1
  refine am_lstore_n (l' := [(2, .long v1), (0, .long a0)]) d_Polys_square_10 (by decide) rfl ?_
  refine am_lload_n d_Polys_square_11 0 rfl ?_
  refine am_lload_n d_Polys_square_12 0 rfl ?_
  refine am_bipush (v := 8) d_Polys_square_13 rfl ?_
  refine am_lshl d_Polys_square_15 ?_
  refine am_lor d_Polys_square_16 ?_
  refine am_ldc2 (v := 71777214294589695) d_Polys_square_17 wd_511 ?_
  refine am_land d_Polys_square_20 ?_
  refine am_topl (fun v2 ev2 => ?_)
  have h := h v2 ev2
  refine am_lstore_n (l' := [(2, .long v2), (0, .long a0)]) d_Polys_square_21 (by decide) rfl ?_
  refine am_lload_n d_Polys_square_22 0 rfl ?_
  refine am_lload_n d_Polys_square_23 0 rfl ?_
  refine am_iconst (v := 4) d_Polys_square_24 rfl ?_
  refine am_lshl d_Polys_square_25 ?_
  refine am_lor d_Polys_square_26 ?_
  refine am_ldc2 (v := 1085102592571150095) d_Polys_square_27 wd_512 ?_
  refine am_land d_Polys_square_30 ?_
  refine am_topl (fun v3 ev3 => ?_)
  have h := h v3 ev3
  refine am_lstore_n (l' := [(2, .long v3), (0, .long a0)]) d_Polys_square_31 (by decide) rfl ?_
  refine am_lload_n d_Polys_square_32 0 rfl ?_
  refine am_lload_n d_Polys_square_33 0 rfl ?_
  refine am_iconst (v := 2) d_Polys_square_34 rfl ?_
  refine am_lshl d_Polys_square_35 ?_
  refine am_lor d_Polys_square_36 ?_
  refine am_ldc2 (v := 3689348814741910323) d_Polys_square_37 wd_513 ?_
  refine am_land d_Polys_square_40 ?_
  refine am_topl (fun v4 ev4 => ?_)
  have h := h v4 ev4
  refine am_lstore_n (l' := [(2, .long v4), (0, .long a0)]) d_Polys_square_41 (by decide) rfl ?_
  refine am_lload_n d_Polys_square_42 0 rfl ?_
  refine am_lload_n d_Polys_square_43 0 rfl ?_
  refine am_iconst (v := 1) d_Polys_square_44 rfl ?_
  refine am_lshl d_Polys_square_45 ?_
  refine am_lor d_Polys_square_46 ?_
  refine am_ldc2 (v := 6148914691236517205) d_Polys_square_47 wd_404 ?_
  refine am_land d_Polys_square_50 ?_
  exact am_lreturn d_Polys_square_51 rfl (hQ ((v4 ||| (lshl v4 (1 : Int32))) &&& (6148914691236517205 : Int64)) h)
theorem d_Polys_quotient_0 : decode prog_7_method_6_code 0 = .ok (.lload_n 2, 1) := by decide +kernel
theorem d_Polys_quotient_1 : decode prog_7_method_6_code 1 = .ok (.invokestatic 23, 3) := by decide +kernel
theorem d_Polys_quotient_4 : decode prog_7_method_6_code 4 = .ok (.istore 4, 2) := by decide +kernel
theorem d_Polys_quotient_6 : decode prog_7_method_6_code 6 = .ok (.lconst 0, 1) := by decide +kernel
theorem d_Polys_quotient_7 : decode prog_7_method_6_code 7 = .ok (.lstore 5, 2) := by decide +kernel
theorem d_Polys_quotient_9 : decode prog_7_method_6_code 9 = .ok (.lload_n 0, 1) := by decide +kernel
theorem d_Polys_quotient_10 : decode prog_7_method_6_code 10 = .ok (.lstore 7, 2) := by decide +kernel
theorem d_Polys_quotient_12 : decode prog_7_method_6_code 12 = .ok (.iconst 0, 1) := by decide +kernel
theorem d_Polys_quotient_13 : decode prog_7_method_6_code 13 = .ok (.istore 9, 2) := by decide +kernel
theorem d_Polys_quotient_15 : decode prog_7_method_6_code 15 = .ok (.iload 9, 2) := by decide +kernel
theorem d_Polys_quotient_17 : decode prog_7_method_6_code 17 = .ok (.bipush 64, 2) := by decide +kernel
theorem d_Polys_quotient_19 : decode prog_7_method_6_code 19 = .ok (.if_icmp .ge 52, 3) := by decide +kernel
theorem d_Polys_quotient_22 : decode prog_7_method_6_code 22 = .ok (.iload 4, 2) := by decide +kernel
theorem d_Polys_quotient_24 : decode prog_7_method_6_code 24 = .ok (.ifCond .lt 47, 3) := by decide +kernel
theorem d_Polys_quotient_27 : decode prog_7_method_6_code 27 = .ok (.lload 7, 2) := by decide +kernel
theorem d_Polys_quotient_29 : decode prog_7_method_6_code 29 = .ok (.invokestatic 23, 3) := by decide +kernel
theorem d_Polys_quotient_32 : decode prog_7_method_6_code 32 = .ok (.iload 4, 2) := by decide +kernel
theorem d_Polys_quotient_34 : decode prog_7_method_6_code 34 = .ok (.if_icmp .lt 37, 3) := by decide +kernel
theorem d_Polys_quotient_37 : decode prog_7_method_6_code 37 = .ok (.lload 7, 2) := by decide +kernel
theorem d_Polys_quotient_39 : decode prog_7_method_6_code 39 = .ok (.invokestatic 23, 3) := by decide +kernel
theorem d_Polys_quotient_42 : decode prog_7_method_6_code 42 = .ok (.iload 4, 2) := by decide +kernel
theorem d_Polys_quotient_44 : decode prog_7_method_6_code 44 = .ok (.isub, 1) := by decide +kernel
theorem d_Polys_quotient_45 : decode prog_7_method_6_code 45 = .ok (.istore 10, 2) := by decide +kernel
theorem d_Polys_quotient_47 : decode prog_7_method_6_code 47 = .ok (.lload 5, 2) := by decide +kernel
theorem d_Polys_quotient_49 : decode prog_7_method_6_code 49 = .ok (.lconst 1, 1) := by decide +kernel
theorem d_Polys_quotient_50 : decode prog_7_method_6_code 50 = .ok (.iload 10, 2) := by decide +kernel
theorem d_Polys_quotient_52 : decode prog_7_method_6_code 52 = .ok (.lshl, 1) := by decide +kernel
theorem d_Polys_quotient_53 : decode prog_7_method_6_code 53 = .ok (.lor, 1) := by decide +kernel
theorem d_Polys_quotient_54 : decode prog_7_method_6_code 54 = .ok (.lstore 5, 2) := by decide +kernel
theorem d_Polys_quotient_56 : decode prog_7_method_6_code 56 = .ok (.lload 7, 2) := by decide +kernel
theorem d_Polys_quotient_58 : decode prog_7_method_6_code 58 = .ok (.lload_n 2, 1) := by decide +kernel
theorem d_Polys_quotient_59 : decode prog_7_method_6_code 59 = .ok (.iload 10, 2) := by decide +kernel
theorem d_Polys_quotient_61 : decode prog_7_method_6_code 61 = .ok (.lshl, 1) := by decide +kernel
theorem d_Polys_quotient_62 : decode prog_7_method_6_code 62 = .ok (.lxor, 1) := by decide +kernel
theorem d_Polys_quotient_63 : decode prog_7_method_6_code 63 = .ok (.lstore 7, 2) := by decide +kernel
theorem d_Polys_quotient_65 : decode prog_7_method_6_code 65 = .ok (.iinc 9 1, 3) := by decide +kernel
theorem d_Polys_quotient_68 : decode prog_7_method_6_code 68 = .ok (.goto (-53), 3) := by decide +kernel
theorem d_Polys_quotient_71 : decode prog_7_method_6_code 71 = .ok (.lload 5, 2) := by decide +kernel
theorem d_Polys_quotient_73 : decode prog_7_method_6_code 73 = .ok (.lreturn, 1) := by decide +kernel
def cf_Polys_quotient_B15  (K15 : Int64 → Int32 → Int64 → Int64 → Int32 → Prop) (P : Int64 → Prop) (x2 : Int64) (x4 : Int32) (x5 : Int64) (x7 : Int64) (x9 : Int32)  : Prop :=
  (((64 : Int32) ≤ x9 → P x5) ∧ (¬ (64 : Int32) ≤ x9 → ((x4 < 0 → P x5) ∧ (¬ x4 < 0 → cf_Polys_degree x7 (fun r2 => ((r2 < x4 → P x5) ∧ (¬ r2 < x4 → cf_Polys_degree x7 (fun r3 => ∀ v4, v4 = r3 - x4 → ∀ v5, v5 = x5 ||| (lshl (1 : Int64) v4) → ∀ v6, v6 = x7 ^^^ (lshl x2 v4) → ∀ v7, v7 = x9 + (1 : Int32) → K15 x2 x4 v5 v6 v7))))))))
def cf_Polys_quotient_L15   (P : Int64 → Prop) : Nat → Int64 → Int32 → Int64 → Int64 → Int32 → Prop
  | 0 => fun x2 x4 x5 x7 x9 => False
  | n + 1 => fun x2 x4 x5 x7 x9 => cf_Polys_quotient_B15 (cf_Polys_quotient_L15 P n) P x2 x4 x5 x7 x9
def cf_Polys_quotient (a0 : Int64) (a1 : Int64) (P : Int64 → Prop) : Prop :=
  cf_Polys_degree a1 (fun r1 => ∃ n, cf_Polys_quotient_L15 P n a1 r1 (0 : Int64) a0 (0 : Int32))
theorem cf_Polys_quotient_B15_ok {g : ayG} {d : Nat} (hd : 3 ≤ d)   (w : Wd) (K15 : Int64 → Int32 → Int64 → Int64 → Int32 → Prop) (P : Int64 → Prop) (Q : Option Value → Wd → Prop) (hQ : ∀ x, P x → Q (some (.long x)) w) (hK15 : ∀ (x2 : Int64) (x4 : Int32) (x5 : Int64) (x7 : Int64) (x9 : Int32), (K15 x2 x4 x5 x7 x9 → wp g (fun _ => True) y_Polys_quotient prog_7_method_6_code 11 (some FieldType.long) d 15 [(2, .long x2), (4, .int x4), (5, .long x5), (7, .long x7), (9, .int x9)] [] w Q)) (x2 : Int64) (x4 : Int32) (x5 : Int64) (x7 : Int64) (x9 : Int32) (h : cf_Polys_quotient_B15 K15 P x2 x4 x5 x7 x9) : wp g (fun _ => True) y_Polys_quotient prog_7_method_6_code 11 (some FieldType.long) d 15 [(2, .long x2), (4, .int x4), (5, .long x5), (7, .long x7), (9, .int x9)] [] w Q := by
  unfold cf_Polys_quotient_B15 at h
  refine am_iload d_Polys_quotient_15 4 rfl ?_
  refine am_bipush (v := 64) d_Polys_quotient_17 rfl ?_
  refine am_icmp_ge (tgt := 71) d_Polys_quotient_19 (by decide) (fun c19 => ?_) (fun c19 => ?_)
  · have h := h.1 c19
    refine am_lload d_Polys_quotient_71 2 rfl ?_
    exact am_lreturn d_Polys_quotient_73 rfl (hQ x5 h)
  · have h := h.2 c19
    refine am_iload d_Polys_quotient_22 1 rfl ?_
    refine am_if_lt (tgt := 71) d_Polys_quotient_24 (by decide) (fun c24 => ?_) (fun c24 => ?_)
    · have h := h.1 c24
      refine am_lload d_Polys_quotient_71 2 rfl ?_
      exact am_lreturn d_Polys_quotient_73 rfl (hQ x5 h)
    · have h := h.2 c24
      refine am_lload d_Polys_quotient_27 3 rfl ?_
      refine am_callS (d2 := d - 1) [.long x7] d_Polys_quotient_29 mi_Polys_degree wd_390 wd_391 (by omega) rfl rfl (Nat.le_of_ble_eq_true rfl) ?_
      refine Call.post ?_ (cf_Polys_degree_ok (by omega) x7  w _ h)
      rintro _ _ ⟨r2, rfl, rfl, h⟩
      show wp g (fun _ => True) y_Polys_quotient prog_7_method_6_code 11 (some FieldType.long) d 32 [(2, .long x2), (4, .int x4), (5, .long x5), (7, .long x7), (9, .int x9)] [.int r2] w Q
      refine am_iload d_Polys_quotient_32 1 rfl ?_
      refine am_icmp_lt (tgt := 71) d_Polys_quotient_34 (by decide) (fun c34 => ?_) (fun c34 => ?_)
      · have h := h.1 c34
        refine am_lload d_Polys_quotient_71 2 rfl ?_
        exact am_lreturn d_Polys_quotient_73 rfl (hQ x5 h)
      · have h := h.2 c34
        refine am_lload d_Polys_quotient_37 3 rfl ?_
        refine am_callS (d2 := d - 1) [.long x7] d_Polys_quotient_39 mi_Polys_degree wd_390 wd_391 (by omega) rfl rfl (Nat.le_of_ble_eq_true rfl) ?_
        refine Call.post ?_ (cf_Polys_degree_ok (by omega) x7  w _ h)
        rintro _ _ ⟨r3, rfl, rfl, h⟩
        show wp g (fun _ => True) y_Polys_quotient prog_7_method_6_code 11 (some FieldType.long) d 42 [(2, .long x2), (4, .int x4), (5, .long x5), (7, .long x7), (9, .int x9)] [.int r3] w Q
        refine am_iload d_Polys_quotient_42 1 rfl ?_
        refine am_isub d_Polys_quotient_44 ?_
        refine am_topi (fun v4 ev4 => ?_)
        have h := h v4 ev4
        refine am_istore (l' := [(10, .int v4), (2, .long x2), (4, .int x4), (5, .long x5), (7, .long x7), (9, .int x9)]) d_Polys_quotient_45 (by decide) rfl ?_
        refine am_lload d_Polys_quotient_47 3 rfl ?_
        refine am_lconst (v := 1) d_Polys_quotient_49 rfl ?_
        refine am_iload d_Polys_quotient_50 0 rfl ?_
        refine am_lshl d_Polys_quotient_52 ?_
        refine am_lor d_Polys_quotient_53 ?_
        refine am_topl (fun v5 ev5 => ?_)
        have h := h v5 ev5
        refine am_lstore (l' := [(5, .long v5), (10, .int v4), (2, .long x2), (4, .int x4), (7, .long x7), (9, .int x9)]) d_Polys_quotient_54 (by decide) rfl ?_
        refine am_lload d_Polys_quotient_56 4 rfl ?_
        refine am_lload_n d_Polys_quotient_58 2 rfl ?_
        refine am_iload d_Polys_quotient_59 1 rfl ?_
        refine am_lshl d_Polys_quotient_61 ?_
        refine am_lxor d_Polys_quotient_62 ?_
        refine am_topl (fun v6 ev6 => ?_)
        have h := h v6 ev6
        refine am_lstore (l' := [(7, .long v6), (5, .long v5), (10, .int v4), (2, .long x2), (4, .int x4), (9, .int x9)]) d_Polys_quotient_63 (by decide) rfl ?_
        obtain ⟨v7, ev7⟩ : ∃ z : Int32, z = x9 + (1 : Int32) := ⟨_, rfl⟩
        have h := h v7 ev7
        refine am_iinc (v := v7) (l' := [(9, .int v7), (7, .long v6), (5, .long v5), (10, .int v4), (2, .long x2), (4, .int x4)]) d_Polys_quotient_65 5 rfl (by rw [ev7]; rfl) (by decide) rfl ?_
        refine am_goto (tgt := 15) d_Polys_quotient_68 (by decide) ?_
        refine am_sub [4, 5, 2, 1, 0] rfl ?_
        exact hK15 x2 x4 v5 v6 v7 h
theorem cf_Polys_quotient_L15_ok {g : ayG} {d : Nat} (hd : 3 ≤ d)   (w : Wd)  (P : Int64 → Prop) (Q : Option Value → Wd → Prop) (hQ : ∀ x, P x → Q (some (.long x)) w)  : ∀ (n : Nat) (x2 : Int64) (x4 : Int32) (x5 : Int64) (x7 : Int64) (x9 : Int32) (h : cf_Polys_quotient_L15 P n x2 x4 x5 x7 x9), wp g (fun _ => True) y_Polys_quotient prog_7_method_6_code 11 (some FieldType.long) d 15 [(2, .long x2), (4, .int x4), (5, .long x5), (7, .long x7), (9, .int x9)] [] w Q
  | 0, x2, x4, x5, x7, x9, h => False.elim h
  | n + 1, x2, x4, x5, x7, x9, h => cf_Polys_quotient_B15_ok hd   w (cf_Polys_quotient_L15 P n) P Q hQ (fun x2 x4 x5 x7 x9 h => cf_Polys_quotient_L15_ok hd   w  P Q hQ  n x2 x4 x5 x7 x9 h) x2 x4 x5 x7 x9 h
theorem cf_Polys_quotient_ok {g : ayG} {d : Nat} (hd : 3 ≤ d) (a0 : Int64) (a1 : Int64)  (w : Wd) (P : Int64 → Prop) (h : cf_Polys_quotient a0 a1 P) : Call g y_Polys_quotient prog_7_method_6_code 11 (some FieldType.long) d [.long a0, .long a1] w (fun (r : Option Value) (w2 : Wd) => ∃ x, r = some (.long x) ∧ w = w2 ∧ P x) := by
  unfold cf_Polys_quotient at h
  refine am_enter mi_Polys_quotient (Nat.le_of_ble_eq_true rfl) ?_
  have hQ : ∀ x, P x → (fun (r : Option Value) (w2 : Wd) => ∃ x, r = some (.long x) ∧ w = w2 ∧ P x) (some (.long x)) w := fun x h => ⟨x, rfl, rfl, h⟩
  generalize (fun (r : Option Value) (w2 : Wd) => ∃ x, r = some (.long x) ∧ w = w2 ∧ P x) = Q at hQ ⊢
  show wp g (fun _ => True) y_Polys_quotient prog_7_method_6_code 11 (some FieldType.long) d 0 [(0, .long a0), (2, .long a1)] [] w Q
  refine am_lload_n d_Polys_quotient_0 1 rfl ?_
  refine am_callS (d2 := d - 1) [.long a1] d_Polys_quotient_1 mi_Polys_degree wd_390 wd_391 (by omega) rfl rfl (Nat.le_of_ble_eq_true rfl) ?_
  refine Call.post ?_ (cf_Polys_degree_ok (by omega) a1  w _ h)
  rintro _ _ ⟨r1, rfl, rfl, h⟩
  show wp g (fun _ => True) y_Polys_quotient prog_7_method_6_code 11 (some FieldType.long) d 4 [(0, .long a0), (2, .long a1)] [.int r1] w Q
  refine am_istore (l' := [(4, .int r1), (0, .long a0), (2, .long a1)]) d_Polys_quotient_4 (by decide) rfl ?_
  refine am_lconst (v := 0) d_Polys_quotient_6 rfl ?_
  refine am_lstore (l' := [(5, .long (0 : Int64)), (4, .int r1), (0, .long a0), (2, .long a1)]) d_Polys_quotient_7 (by decide) rfl ?_
  refine am_lload_n d_Polys_quotient_9 2 rfl ?_
  refine am_lstore (l' := [(7, .long a0), (5, .long (0 : Int64)), (4, .int r1), (0, .long a0), (2, .long a1)]) d_Polys_quotient_10 (by decide) rfl ?_
  refine am_iconst (v := 0) d_Polys_quotient_12 rfl ?_
  refine am_istore (l' := [(9, .int (0 : Int32)), (7, .long a0), (5, .long (0 : Int64)), (4, .int r1), (0, .long a0), (2, .long a1)]) d_Polys_quotient_13 (by decide) rfl ?_
  refine am_sub [5, 3, 2, 1, 0] rfl ?_
  obtain ⟨n, h⟩ := h
  exact cf_Polys_quotient_L15_ok (by omega)   w  P Q hQ  n a1 r1 (0 : Int64) a0 (0 : Int32) h
theorem d_Polys_remainder_0 : decode prog_7_method_7_code 0 = .ok (.lload_n 2, 1) := by decide +kernel
theorem d_Polys_remainder_1 : decode prog_7_method_7_code 1 = .ok (.invokestatic 7, 3) := by decide +kernel
theorem d_Polys_remainder_4 : decode prog_7_method_7_code 4 = .ok (.istore 4, 2) := by decide +kernel
theorem d_Polys_remainder_6 : decode prog_7_method_7_code 6 = .ok (.lload_n 0, 1) := by decide +kernel
theorem d_Polys_remainder_7 : decode prog_7_method_7_code 7 = .ok (.lstore 5, 2) := by decide +kernel
theorem d_Polys_remainder_9 : decode prog_7_method_7_code 9 = .ok (.iconst 0, 1) := by decide +kernel
theorem d_Polys_remainder_10 : decode prog_7_method_7_code 10 = .ok (.istore 7, 2) := by decide +kernel
theorem d_Polys_remainder_12 : decode prog_7_method_7_code 12 = .ok (.iload 7, 2) := by decide +kernel
theorem d_Polys_remainder_14 : decode prog_7_method_7_code 14 = .ok (.bipush 64, 2) := by decide +kernel
theorem d_Polys_remainder_16 : decode prog_7_method_7_code 16 = .ok (.if_icmp .ge 42, 3) := by decide +kernel
theorem d_Polys_remainder_19 : decode prog_7_method_7_code 19 = .ok (.lload_n 2, 1) := by decide +kernel
theorem d_Polys_remainder_20 : decode prog_7_method_7_code 20 = .ok (.lconst 0, 1) := by decide +kernel
theorem d_Polys_remainder_21 : decode prog_7_method_7_code 21 = .ok (.lcmp, 1) := by decide +kernel
theorem d_Polys_remainder_22 : decode prog_7_method_7_code 22 = .ok (.ifCond .eq 36, 3) := by decide +kernel
theorem d_Polys_remainder_25 : decode prog_7_method_7_code 25 = .ok (.iload 4, 2) := by decide +kernel
theorem d_Polys_remainder_27 : decode prog_7_method_7_code 27 = .ok (.lload 5, 2) := by decide +kernel
theorem d_Polys_remainder_29 : decode prog_7_method_7_code 29 = .ok (.invokestatic 7, 3) := by decide +kernel
theorem d_Polys_remainder_32 : decode prog_7_method_7_code 32 = .ok (.isub, 1) := by decide +kernel
theorem d_Polys_remainder_33 : decode prog_7_method_7_code 33 = .ok (.istore 8, 2) := by decide +kernel
theorem d_Polys_remainder_35 : decode prog_7_method_7_code 35 = .ok (.iload 8, 2) := by decide +kernel
theorem d_Polys_remainder_37 : decode prog_7_method_7_code 37 = .ok (.ifCond .ge 6, 3) := by decide +kernel
theorem d_Polys_remainder_40 : decode prog_7_method_7_code 40 = .ok (.goto 18, 3) := by decide +kernel
theorem d_Polys_remainder_43 : decode prog_7_method_7_code 43 = .ok (.lload 5, 2) := by decide +kernel
theorem d_Polys_remainder_45 : decode prog_7_method_7_code 45 = .ok (.lload_n 2, 1) := by decide +kernel
theorem d_Polys_remainder_46 : decode prog_7_method_7_code 46 = .ok (.iload 8, 2) := by decide +kernel
theorem d_Polys_remainder_48 : decode prog_7_method_7_code 48 = .ok (.lshl, 1) := by decide +kernel
theorem d_Polys_remainder_49 : decode prog_7_method_7_code 49 = .ok (.lxor, 1) := by decide +kernel
theorem d_Polys_remainder_50 : decode prog_7_method_7_code 50 = .ok (.lstore 5, 2) := by decide +kernel
theorem d_Polys_remainder_52 : decode prog_7_method_7_code 52 = .ok (.iinc 7 1, 3) := by decide +kernel
theorem d_Polys_remainder_55 : decode prog_7_method_7_code 55 = .ok (.goto (-43), 3) := by decide +kernel
theorem d_Polys_remainder_58 : decode prog_7_method_7_code 58 = .ok (.lload 5, 2) := by decide +kernel
theorem d_Polys_remainder_60 : decode prog_7_method_7_code 60 = .ok (.lreturn, 1) := by decide +kernel
def cf_Polys_remainder_B12  (K12 : Int64 → Int32 → Int64 → Int32 → Prop) (P : Int64 → Prop) (x2 : Int64) (x4 : Int32) (x5 : Int64) (x7 : Int32)  : Prop :=
  (((64 : Int32) ≤ x7 → P x5) ∧ (¬ (64 : Int32) ≤ x7 → ((x2 = (0 : Int64) → P x5) ∧ (¬ x2 = (0 : Int64) → cf_Long_numberOfLeadingZeros x5 (fun r2 => ∀ v3, v3 = x4 - r2 → ((0 ≤ v3 → ∀ v4, v4 = x5 ^^^ (lshl x2 v3) → ∀ v5, v5 = x7 + (1 : Int32) → K12 x2 x4 v4 v5) ∧ (¬ 0 ≤ v3 → P x5)))))))
def cf_Polys_remainder_L12   (P : Int64 → Prop) : Nat → Int64 → Int32 → Int64 → Int32 → Prop
  | 0 => fun x2 x4 x5 x7 => False
  | n + 1 => fun x2 x4 x5 x7 => cf_Polys_remainder_B12 (cf_Polys_remainder_L12 P n) P x2 x4 x5 x7
def cf_Polys_remainder (a0 : Int64) (a1 : Int64) (P : Int64 → Prop) : Prop :=
  cf_Long_numberOfLeadingZeros a1 (fun r1 => ∃ n, cf_Polys_remainder_L12 P n a1 r1 a0 (0 : Int32))
theorem cf_Polys_remainder_B12_ok {g : ayG} {d : Nat} (hd : 2 ≤ d)   (w : Wd) (K12 : Int64 → Int32 → Int64 → Int32 → Prop) (P : Int64 → Prop) (Q : Option Value → Wd → Prop) (hQ : ∀ x, P x → Q (some (.long x)) w) (hK12 : ∀ (x2 : Int64) (x4 : Int32) (x5 : Int64) (x7 : Int32), (K12 x2 x4 x5 x7 → wp g (fun _ => True) y_Polys_remainder prog_7_method_7_code 9 (some FieldType.long) d 12 [(2, .long x2), (4, .int x4), (5, .long x5), (7, .int x7)] [] w Q)) (x2 : Int64) (x4 : Int32) (x5 : Int64) (x7 : Int32) (h : cf_Polys_remainder_B12 K12 P x2 x4 x5 x7) : wp g (fun _ => True) y_Polys_remainder prog_7_method_7_code 9 (some FieldType.long) d 12 [(2, .long x2), (4, .int x4), (5, .long x5), (7, .int x7)] [] w Q := by
  unfold cf_Polys_remainder_B12 at h
  refine am_iload d_Polys_remainder_12 3 rfl ?_
  refine am_bipush (v := 64) d_Polys_remainder_14 rfl ?_
  refine am_icmp_ge (tgt := 58) d_Polys_remainder_16 (by decide) (fun c16 => ?_) (fun c16 => ?_)
  · have h := h.1 c16
    refine am_lload d_Polys_remainder_58 2 rfl ?_
    exact am_lreturn d_Polys_remainder_60 rfl (hQ x5 h)
  · have h := h.2 c16
    refine am_lload_n d_Polys_remainder_19 0 rfl ?_
    refine am_lconst (v := 0) d_Polys_remainder_20 rfl ?_
    refine am_lif_eq (tgt := 58) d_Polys_remainder_21 d_Polys_remainder_22 (by decide) (fun c21 => ?_) (fun c21 => ?_)
    · have h := h.1 c21
      refine am_lload d_Polys_remainder_58 2 rfl ?_
      exact am_lreturn d_Polys_remainder_60 rfl (hQ x5 h)
    · have h := h.2 c21
      refine am_iload d_Polys_remainder_25 1 rfl ?_
      refine am_lload d_Polys_remainder_27 2 rfl ?_
      refine am_callS (d2 := d - 1) [.long x5] d_Polys_remainder_29 mi_Long_numberOfLeadingZeros wd_393 wd_394 (by omega) rfl rfl (Nat.le_of_ble_eq_true rfl) ?_
      refine Call.post ?_ (cf_Long_numberOfLeadingZeros_ok (by omega) x5  w _ h)
      rintro _ _ ⟨r2, rfl, rfl, h⟩
      show wp g (fun _ => True) y_Polys_remainder prog_7_method_7_code 9 (some FieldType.long) d 32 [(2, .long x2), (4, .int x4), (5, .long x5), (7, .int x7)] [.int r2, .int x4] w Q
      refine am_isub d_Polys_remainder_32 ?_
      refine am_topi (fun v3 ev3 => ?_)
      have h := h v3 ev3
      refine am_istore (l' := [(8, .int v3), (2, .long x2), (4, .int x4), (5, .long x5), (7, .int x7)]) d_Polys_remainder_33 (by decide) rfl ?_
      refine am_iload d_Polys_remainder_35 0 rfl ?_
      refine am_if_ge (tgt := 43) d_Polys_remainder_37 (by decide) (fun c37 => ?_) (fun c37 => ?_)
      · have h := h.1 c37
        refine am_lload d_Polys_remainder_43 3 rfl ?_
        refine am_lload_n d_Polys_remainder_45 1 rfl ?_
        refine am_iload d_Polys_remainder_46 0 rfl ?_
        refine am_lshl d_Polys_remainder_48 ?_
        refine am_lxor d_Polys_remainder_49 ?_
        refine am_topl (fun v4 ev4 => ?_)
        have h := h v4 ev4
        refine am_lstore (l' := [(5, .long v4), (8, .int v3), (2, .long x2), (4, .int x4), (7, .int x7)]) d_Polys_remainder_50 (by decide) rfl ?_
        obtain ⟨v5, ev5⟩ : ∃ z : Int32, z = x7 + (1 : Int32) := ⟨_, rfl⟩
        have h := h v5 ev5
        refine am_iinc (v := v5) (l' := [(7, .int v5), (5, .long v4), (8, .int v3), (2, .long x2), (4, .int x4)]) d_Polys_remainder_52 4 rfl (by rw [ev5]; rfl) (by decide) rfl ?_
        refine am_goto (tgt := 12) d_Polys_remainder_55 (by decide) ?_
        refine am_sub [3, 4, 1, 0] rfl ?_
        exact hK12 x2 x4 v4 v5 h
      · have h := h.2 c37
        refine am_goto (tgt := 58) d_Polys_remainder_40 (by decide) ?_
        refine am_lload d_Polys_remainder_58 3 rfl ?_
        exact am_lreturn d_Polys_remainder_60 rfl (hQ x5 h)
theorem cf_Polys_remainder_L12_ok {g : ayG} {d : Nat} (hd : 2 ≤ d)   (w : Wd)  (P : Int64 → Prop) (Q : Option Value → Wd → Prop) (hQ : ∀ x, P x → Q (some (.long x)) w)  : ∀ (n : Nat) (x2 : Int64) (x4 : Int32) (x5 : Int64) (x7 : Int32) (h : cf_Polys_remainder_L12 P n x2 x4 x5 x7), wp g (fun _ => True) y_Polys_remainder prog_7_method_7_code 9 (some FieldType.long) d 12 [(2, .long x2), (4, .int x4), (5, .long x5), (7, .int x7)] [] w Q
  | 0, x2, x4, x5, x7, h => False.elim h
  | n + 1, x2, x4, x5, x7, h => cf_Polys_remainder_B12_ok hd   w (cf_Polys_remainder_L12 P n) P Q hQ (fun x2 x4 x5 x7 h => cf_Polys_remainder_L12_ok hd   w  P Q hQ  n x2 x4 x5 x7 h) x2 x4 x5 x7 h
theorem cf_Polys_remainder_ok {g : ayG} {d : Nat} (hd : 2 ≤ d) (a0 : Int64) (a1 : Int64)  (w : Wd) (P : Int64 → Prop) (h : cf_Polys_remainder a0 a1 P) : Call g y_Polys_remainder prog_7_method_7_code 9 (some FieldType.long) d [.long a0, .long a1] w (fun (r : Option Value) (w2 : Wd) => ∃ x, r = some (.long x) ∧ w = w2 ∧ P x) := by
  unfold cf_Polys_remainder at h
  refine am_enter mi_Polys_remainder (Nat.le_of_ble_eq_true rfl) ?_
  have hQ : ∀ x, P x → (fun (r : Option Value) (w2 : Wd) => ∃ x, r = some (.long x) ∧ w = w2 ∧ P x) (some (.long x)) w := fun x h => ⟨x, rfl, rfl, h⟩
  generalize (fun (r : Option Value) (w2 : Wd) => ∃ x, r = some (.long x) ∧ w = w2 ∧ P x) = Q at hQ ⊢
  show wp g (fun _ => True) y_Polys_remainder prog_7_method_7_code 9 (some FieldType.long) d 0 [(0, .long a0), (2, .long a1)] [] w Q
  refine am_lload_n d_Polys_remainder_0 1 rfl ?_
  refine am_callS (d2 := d - 1) [.long a1] d_Polys_remainder_1 mi_Long_numberOfLeadingZeros wd_393 wd_394 (by omega) rfl rfl (Nat.le_of_ble_eq_true rfl) ?_
  refine Call.post ?_ (cf_Long_numberOfLeadingZeros_ok (by omega) a1  w _ h)
  rintro _ _ ⟨r1, rfl, rfl, h⟩
  show wp g (fun _ => True) y_Polys_remainder prog_7_method_7_code 9 (some FieldType.long) d 4 [(0, .long a0), (2, .long a1)] [.int r1] w Q
  refine am_istore (l' := [(4, .int r1), (0, .long a0), (2, .long a1)]) d_Polys_remainder_4 (by decide) rfl ?_
  refine am_lload_n d_Polys_remainder_6 1 rfl ?_
  refine am_lstore (l' := [(5, .long a0), (4, .int r1), (0, .long a0), (2, .long a1)]) d_Polys_remainder_7 (by decide) rfl ?_
  refine am_iconst (v := 0) d_Polys_remainder_9 rfl ?_
  refine am_istore (l' := [(7, .int (0 : Int32)), (5, .long a0), (4, .int r1), (0, .long a0), (2, .long a1)]) d_Polys_remainder_10 (by decide) rfl ?_
  refine am_sub [4, 2, 1, 0] rfl ?_
  obtain ⟨n, h⟩ := h
  exact cf_Polys_remainder_L12_ok (by omega)   w  P Q hQ  n a1 r1 a0 (0 : Int32) h
theorem d_Polys_gcd_0 : decode prog_7_method_8_code 0 = .ok (.lload_n 0, 1) := by decide +kernel
theorem d_Polys_gcd_1 : decode prog_7_method_8_code 1 = .ok (.lstore 4, 2) := by decide +kernel
theorem d_Polys_gcd_3 : decode prog_7_method_8_code 3 = .ok (.lload_n 2, 1) := by decide +kernel
theorem d_Polys_gcd_4 : decode prog_7_method_8_code 4 = .ok (.lstore 6, 2) := by decide +kernel
theorem d_Polys_gcd_6 : decode prog_7_method_8_code 6 = .ok (.iconst 0, 1) := by decide +kernel
theorem d_Polys_gcd_7 : decode prog_7_method_8_code 7 = .ok (.istore 8, 2) := by decide +kernel
theorem d_Polys_gcd_9 : decode prog_7_method_8_code 9 = .ok (.iload 8, 2) := by decide +kernel
theorem d_Polys_gcd_11 : decode prog_7_method_8_code 11 = .ok (.bipush 64, 2) := by decide +kernel
theorem d_Polys_gcd_13 : decode prog_7_method_8_code 13 = .ok (.if_icmp .ge 33, 3) := by decide +kernel
theorem d_Polys_gcd_16 : decode prog_7_method_8_code 16 = .ok (.lload 6, 2) := by decide +kernel
theorem d_Polys_gcd_18 : decode prog_7_method_8_code 18 = .ok (.lconst 0, 1) := by decide +kernel
theorem d_Polys_gcd_19 : decode prog_7_method_8_code 19 = .ok (.lcmp, 1) := by decide +kernel
theorem d_Polys_gcd_20 : decode prog_7_method_8_code 20 = .ok (.ifCond .eq 26, 3) := by decide +kernel
theorem d_Polys_gcd_23 : decode prog_7_method_8_code 23 = .ok (.lload 4, 2) := by decide +kernel
theorem d_Polys_gcd_25 : decode prog_7_method_8_code 25 = .ok (.lload 6, 2) := by decide +kernel
theorem d_Polys_gcd_27 : decode prog_7_method_8_code 27 = .ok (.invokestatic 28, 3) := by decide +kernel
theorem d_Polys_gcd_30 : decode prog_7_method_8_code 30 = .ok (.lstore 9, 2) := by decide +kernel
theorem d_Polys_gcd_32 : decode prog_7_method_8_code 32 = .ok (.lload 6, 2) := by decide +kernel
theorem d_Polys_gcd_34 : decode prog_7_method_8_code 34 = .ok (.lstore 4, 2) := by decide +kernel
theorem d_Polys_gcd_36 : decode prog_7_method_8_code 36 = .ok (.lload 9, 2) := by decide +kernel
theorem d_Polys_gcd_38 : decode prog_7_method_8_code 38 = .ok (.lstore 6, 2) := by decide +kernel
theorem d_Polys_gcd_40 : decode prog_7_method_8_code 40 = .ok (.iinc 8 1, 3) := by decide +kernel
theorem d_Polys_gcd_43 : decode prog_7_method_8_code 43 = .ok (.goto (-34), 3) := by decide +kernel
theorem d_Polys_gcd_46 : decode prog_7_method_8_code 46 = .ok (.lload 4, 2) := by decide +kernel
theorem d_Polys_gcd_48 : decode prog_7_method_8_code 48 = .ok (.lreturn, 1) := by decide +kernel
def cf_Polys_gcd_B9  (K9 : Int64 → Int64 → Int32 → Prop) (P : Int64 → Prop) (x4 : Int64) (x6 : Int64) (x8 : Int32)  : Prop :=
  (((64 : Int32) ≤ x8 → P x4) ∧ (¬ (64 : Int32) ≤ x8 → ((x6 = (0 : Int64) → P x4) ∧ (¬ x6 = (0 : Int64) → cf_Polys_remainder x4 x6 (fun r1 => ∀ v2, v2 = x8 + (1 : Int32) → K9 x6 r1 v2)))))
def cf_Polys_gcd_L9   (P : Int64 → Prop) : Nat → Int64 → Int64 → Int32 → Prop
  | 0 => fun x4 x6 x8 => False
  | n + 1 => fun x4 x6 x8 => cf_Polys_gcd_B9 (cf_Polys_gcd_L9 P n) P x4 x6 x8
def cf_Polys_gcd (a0 : Int64) (a1 : Int64) (P : Int64 → Prop) : Prop :=
  ∃ n, cf_Polys_gcd_L9 P n a0 a1 (0 : Int32)
theorem cf_Polys_gcd_B9_ok {g : ayG} {d : Nat} (hd : 3 ≤ d)   (w : Wd) (K9 : Int64 → Int64 → Int32 → Prop) (P : Int64 → Prop) (Q : Option Value → Wd → Prop) (hQ : ∀ x, P x → Q (some (.long x)) w) (hK9 : ∀ (x4 : Int64) (x6 : Int64) (x8 : Int32), (K9 x4 x6 x8 → wp g (fun _ => True) y_Polys_gcd prog_7_method_8_code 11 (some FieldType.long) d 9 [(4, .long x4), (6, .long x6), (8, .int x8)] [] w Q)) (x4 : Int64) (x6 : Int64) (x8 : Int32) (h : cf_Polys_gcd_B9 K9 P x4 x6 x8) : wp g (fun _ => True) y_Polys_gcd prog_7_method_8_code 11 (some FieldType.long) d 9 [(4, .long x4), (6, .long x6), (8, .int x8)] [] w Q := by
  unfold cf_Polys_gcd_B9 at h
  refine am_iload d_Polys_gcd_9 2 rfl ?_
  refine am_bipush (v := 64) d_Polys_gcd_11 rfl ?_
  refine am_icmp_ge (tgt := 46) d_Polys_gcd_13 (by decide) (fun c13 => ?_) (fun c13 => ?_)
  · have h := h.1 c13
    refine am_lload d_Polys_gcd_46 0 rfl ?_
    exact am_lreturn d_Polys_gcd_48 rfl (hQ x4 h)
  · have h := h.2 c13
    refine am_lload d_Polys_gcd_16 1 rfl ?_
    refine am_lconst (v := 0) d_Polys_gcd_18 rfl ?_
    refine am_lif_eq (tgt := 46) d_Polys_gcd_19 d_Polys_gcd_20 (by decide) (fun c19 => ?_) (fun c19 => ?_)
    · have h := h.1 c19
      refine am_lload d_Polys_gcd_46 0 rfl ?_
      exact am_lreturn d_Polys_gcd_48 rfl (hQ x4 h)
    · have h := h.2 c19
      refine am_lload d_Polys_gcd_23 0 rfl ?_
      refine am_lload d_Polys_gcd_25 1 rfl ?_
      refine am_callS (d2 := d - 1) [.long x4, .long x6] d_Polys_gcd_27 mi_Polys_remainder wd_495 wd_486 (by omega) rfl rfl (Nat.le_of_ble_eq_true rfl) ?_
      refine Call.post ?_ (cf_Polys_remainder_ok (by omega) x4 x6  w _ h)
      rintro _ _ ⟨r1, rfl, rfl, h⟩
      show wp g (fun _ => True) y_Polys_gcd prog_7_method_8_code 11 (some FieldType.long) d 30 [(4, .long x4), (6, .long x6), (8, .int x8)] [.long r1] w Q
      refine am_lstore (l' := [(9, .long r1), (4, .long x4), (6, .long x6), (8, .int x8)]) d_Polys_gcd_30 (by decide) rfl ?_
      refine am_lload d_Polys_gcd_32 2 rfl ?_
      refine am_lstore (l' := [(4, .long x6), (9, .long r1), (6, .long x6), (8, .int x8)]) d_Polys_gcd_34 (by decide) rfl ?_
      refine am_lload d_Polys_gcd_36 1 rfl ?_
      refine am_lstore (l' := [(6, .long r1), (4, .long x6), (9, .long r1), (8, .int x8)]) d_Polys_gcd_38 (by decide) rfl ?_
      obtain ⟨v2, ev2⟩ : ∃ z : Int32, z = x8 + (1 : Int32) := ⟨_, rfl⟩
      have h := h v2 ev2
      refine am_iinc (v := v2) (l' := [(8, .int v2), (6, .long r1), (4, .long x6), (9, .long r1)]) d_Polys_gcd_40 3 rfl (by rw [ev2]; rfl) (by decide) rfl ?_
      refine am_goto (tgt := 9) d_Polys_gcd_43 (by decide) ?_
      refine am_sub [2, 1, 0] rfl ?_
      exact hK9 x6 r1 v2 h
theorem cf_Polys_gcd_L9_ok {g : ayG} {d : Nat} (hd : 3 ≤ d)   (w : Wd)  (P : Int64 → Prop) (Q : Option Value → Wd → Prop) (hQ : ∀ x, P x → Q (some (.long x)) w)  : ∀ (n : Nat) (x4 : Int64) (x6 : Int64) (x8 : Int32) (h : cf_Polys_gcd_L9 P n x4 x6 x8), wp g (fun _ => True) y_Polys_gcd prog_7_method_8_code 11 (some FieldType.long) d 9 [(4, .long x4), (6, .long x6), (8, .int x8)] [] w Q
  | 0, x4, x6, x8, h => False.elim h
  | n + 1, x4, x6, x8, h => cf_Polys_gcd_B9_ok hd   w (cf_Polys_gcd_L9 P n) P Q hQ (fun x4 x6 x8 h => cf_Polys_gcd_L9_ok hd   w  P Q hQ  n x4 x6 x8 h) x4 x6 x8 h
theorem cf_Polys_gcd_ok {g : ayG} {d : Nat} (hd : 3 ≤ d) (a0 : Int64) (a1 : Int64)  (w : Wd) (P : Int64 → Prop) (h : cf_Polys_gcd a0 a1 P) : Call g y_Polys_gcd prog_7_method_8_code 11 (some FieldType.long) d [.long a0, .long a1] w (fun (r : Option Value) (w2 : Wd) => ∃ x, r = some (.long x) ∧ w = w2 ∧ P x) := by
  unfold cf_Polys_gcd at h
  refine am_enter mi_Polys_gcd (Nat.le_of_ble_eq_true rfl) ?_
  have hQ : ∀ x, P x → (fun (r : Option Value) (w2 : Wd) => ∃ x, r = some (.long x) ∧ w = w2 ∧ P x) (some (.long x)) w := fun x h => ⟨x, rfl, rfl, h⟩
  generalize (fun (r : Option Value) (w2 : Wd) => ∃ x, r = some (.long x) ∧ w = w2 ∧ P x) = Q at hQ ⊢
  show wp g (fun _ => True) y_Polys_gcd prog_7_method_8_code 11 (some FieldType.long) d 0 [(0, .long a0), (2, .long a1)] [] w Q
  refine am_lload_n d_Polys_gcd_0 0 rfl ?_
  refine am_lstore (l' := [(4, .long a0), (0, .long a0), (2, .long a1)]) d_Polys_gcd_1 (by decide) rfl ?_
  refine am_lload_n d_Polys_gcd_3 2 rfl ?_
  refine am_lstore (l' := [(6, .long a1), (4, .long a0), (0, .long a0), (2, .long a1)]) d_Polys_gcd_4 (by decide) rfl ?_
  refine am_iconst (v := 0) d_Polys_gcd_6 rfl ?_
  refine am_istore (l' := [(8, .int (0 : Int32)), (6, .long a1), (4, .long a0), (0, .long a0), (2, .long a1)]) d_Polys_gcd_7 (by decide) rfl ?_
  refine am_sub [2, 1, 0] rfl ?_
  obtain ⟨n, h⟩ := h
  exact cf_Polys_gcd_L9_ok (by omega)   w  P Q hQ  n a0 a1 (0 : Int32) h
theorem d_Polys_productBy_0 : decode prog_7_method_9_code 0 = .ok (.lload_n 0, 1) := by decide +kernel
theorem d_Polys_productBy_1 : decode prog_7_method_9_code 1 = .ok (.lload_n 2, 1) := by decide +kernel
theorem d_Polys_productBy_2 : decode prog_7_method_9_code 2 = .ok (.invokestatic 32, 3) := by decide +kernel
theorem d_Polys_productBy_5 : decode prog_7_method_9_code 5 = .ok (.lload 4, 2) := by decide +kernel
theorem d_Polys_productBy_7 : decode prog_7_method_9_code 7 = .ok (.invokestatic 28, 3) := by decide +kernel
theorem d_Polys_productBy_10 : decode prog_7_method_9_code 10 = .ok (.lreturn, 1) := by decide +kernel
def cf_Polys_productBy (a0 : Int64) (a1 : Int64) (a2 : Int64) (P : Int64 → Prop) : Prop :=
  cf_Polys_product a0 a1 (fun r1 => cf_Polys_remainder r1 a2 (fun r2 => P r2))
theorem cf_Polys_productBy_ok {g : ayG} {d : Nat} (hd : 3 ≤ d) (a0 : Int64) (a1 : Int64) (a2 : Int64)  (w : Wd) (P : Int64 → Prop) (h : cf_Polys_productBy a0 a1 a2 P) : Call g y_Polys_productBy prog_7_method_9_code 6 (some FieldType.long) d [.long a0, .long a1, .long a2] w (fun (r : Option Value) (w2 : Wd) => ∃ x, r = some (.long x) ∧ w = w2 ∧ P x) := by
  unfold cf_Polys_productBy at h
  refine am_enter mi_Polys_productBy (Nat.le_of_ble_eq_true rfl) ?_
  have hQ : ∀ x, P x → (fun (r : Option Value) (w2 : Wd) => ∃ x, r = some (.long x) ∧ w = w2 ∧ P x) (some (.long x)) w := fun x h => ⟨x, rfl, rfl, h⟩
  generalize (fun (r : Option Value) (w2 : Wd) => ∃ x, r = some (.long x) ∧ w = w2 ∧ P x) = Q at hQ ⊢
  show wp g (fun _ => True) y_Polys_productBy prog_7_method_9_code 6 (some FieldType.long) d 0 [(0, .long a0), (2, .long a1), (4, .long a2)] [] w Q
  refine am_lload_n d_Polys_productBy_0 0 rfl ?_
  refine am_lload_n d_Polys_productBy_1 1 rfl ?_
  refine am_callS (d2 := d - 1) [.long a0, .long a1] d_Polys_productBy_2 mi_Polys_product wd_514 wd_407 (by omega) rfl rfl (Nat.le_of_ble_eq_true rfl) ?_
  refine Call.post ?_ (cf_Polys_product_ok (by omega) a0 a1  w _ h)
  rintro _ _ ⟨r1, rfl, rfl, h⟩
  show wp g (fun _ => True) y_Polys_productBy prog_7_method_9_code 6 (some FieldType.long) d 5 [(0, .long a0), (2, .long a1), (4, .long a2)] [.long r1] w Q
  refine am_lload d_Polys_productBy_5 2 rfl ?_
  refine am_callS (d2 := d - 1) [.long r1, .long a2] d_Polys_productBy_7 mi_Polys_remainder wd_495 wd_486 (by omega) rfl rfl (Nat.le_of_ble_eq_true rfl) ?_
  refine Call.post ?_ (cf_Polys_remainder_ok (by omega) r1 a2  w _ h)
  rintro _ _ ⟨r2, rfl, rfl, h⟩
  show wp g (fun _ => True) y_Polys_productBy prog_7_method_9_code 6 (some FieldType.long) d 10 [(0, .long a0), (2, .long a1), (4, .long a2)] [.long r2] w Q
  exact am_lreturn d_Polys_productBy_10 rfl (hQ r2 h)
theorem d_Polys_squareBy_0 : decode prog_7_method_10_code 0 = .ok (.lload_n 0, 1) := by decide +kernel
theorem d_Polys_squareBy_1 : decode prog_7_method_10_code 1 = .ok (.invokestatic 35, 3) := by decide +kernel
theorem d_Polys_squareBy_4 : decode prog_7_method_10_code 4 = .ok (.lload_n 2, 1) := by decide +kernel
theorem d_Polys_squareBy_5 : decode prog_7_method_10_code 5 = .ok (.invokestatic 28, 3) := by decide +kernel
theorem d_Polys_squareBy_8 : decode prog_7_method_10_code 8 = .ok (.lreturn, 1) := by decide +kernel
def cf_Polys_squareBy (a0 : Int64) (a1 : Int64) (P : Int64 → Prop) : Prop :=
  cf_Polys_square a0 (fun r1 => cf_Polys_remainder r1 a1 (fun r2 => P r2))
theorem cf_Polys_squareBy_ok {g : ayG} {d : Nat} (hd : 3 ≤ d) (a0 : Int64) (a1 : Int64)  (w : Wd) (P : Int64 → Prop) (h : cf_Polys_squareBy a0 a1 P) : Call g y_Polys_squareBy prog_7_method_10_code 4 (some FieldType.long) d [.long a0, .long a1] w (fun (r : Option Value) (w2 : Wd) => ∃ x, r = some (.long x) ∧ w = w2 ∧ P x) := by
  unfold cf_Polys_squareBy at h
  refine am_enter mi_Polys_squareBy (Nat.le_of_ble_eq_true rfl) ?_
  have hQ : ∀ x, P x → (fun (r : Option Value) (w2 : Wd) => ∃ x, r = some (.long x) ∧ w = w2 ∧ P x) (some (.long x)) w := fun x h => ⟨x, rfl, rfl, h⟩
  generalize (fun (r : Option Value) (w2 : Wd) => ∃ x, r = some (.long x) ∧ w = w2 ∧ P x) = Q at hQ ⊢
  show wp g (fun _ => True) y_Polys_squareBy prog_7_method_10_code 4 (some FieldType.long) d 0 [(0, .long a0), (2, .long a1)] [] w Q
  refine am_lload_n d_Polys_squareBy_0 0 rfl ?_
  refine am_callS (d2 := d - 1) [.long a0] d_Polys_squareBy_1 mi_Polys_square wd_507 wd_508 (by omega) rfl rfl (Nat.le_of_ble_eq_true rfl) ?_
  refine Call.post ?_ (cf_Polys_square_ok (by omega) a0  w _ h)
  rintro _ _ ⟨r1, rfl, rfl, h⟩
  show wp g (fun _ => True) y_Polys_squareBy prog_7_method_10_code 4 (some FieldType.long) d 4 [(0, .long a0), (2, .long a1)] [.long r1] w Q
  refine am_lload_n d_Polys_squareBy_4 1 rfl ?_
  refine am_callS (d2 := d - 1) [.long r1, .long a1] d_Polys_squareBy_5 mi_Polys_remainder wd_495 wd_486 (by omega) rfl rfl (Nat.le_of_ble_eq_true rfl) ?_
  refine Call.post ?_ (cf_Polys_remainder_ok (by omega) r1 a1  w _ h)
  rintro _ _ ⟨r2, rfl, rfl, h⟩
  show wp g (fun _ => True) y_Polys_squareBy prog_7_method_10_code 4 (some FieldType.long) d 8 [(0, .long a0), (2, .long a1)] [.long r2] w Q
  exact am_lreturn d_Polys_squareBy_8 rfl (hQ r2 h)
theorem d_Polys_powerBy_0 : decode prog_7_method_11_code 0 = .ok (.lload_n 0, 1) := by decide +kernel
theorem d_Polys_powerBy_1 : decode prog_7_method_11_code 1 = .ok (.lload 4, 2) := by decide +kernel
theorem d_Polys_powerBy_3 : decode prog_7_method_11_code 3 = .ok (.invokestatic 28, 3) := by decide +kernel
theorem d_Polys_powerBy_6 : decode prog_7_method_11_code 6 = .ok (.lstore 6, 2) := by decide +kernel
theorem d_Polys_powerBy_8 : decode prog_7_method_11_code 8 = .ok (.lconst 1, 1) := by decide +kernel
theorem d_Polys_powerBy_9 : decode prog_7_method_11_code 9 = .ok (.lload 4, 2) := by decide +kernel
theorem d_Polys_powerBy_11 : decode prog_7_method_11_code 11 = .ok (.invokestatic 28, 3) := by decide +kernel
theorem d_Polys_powerBy_14 : decode prog_7_method_11_code 14 = .ok (.lstore 8, 2) := by decide +kernel
theorem d_Polys_powerBy_16 : decode prog_7_method_11_code 16 = .ok (.lload_n 2, 1) := by decide +kernel
theorem d_Polys_powerBy_17 : decode prog_7_method_11_code 17 = .ok (.invokestatic 23, 3) := by decide +kernel
theorem d_Polys_powerBy_20 : decode prog_7_method_11_code 20 = .ok (.istore 10, 2) := by decide +kernel
theorem d_Polys_powerBy_22 : decode prog_7_method_11_code 22 = .ok (.iload 10, 2) := by decide +kernel
theorem d_Polys_powerBy_24 : decode prog_7_method_11_code 24 = .ok (.ifCond .lt 46, 3) := by decide +kernel
theorem d_Polys_powerBy_27 : decode prog_7_method_11_code 27 = .ok (.lload 8, 2) := by decide +kernel
theorem d_Polys_powerBy_29 : decode prog_7_method_11_code 29 = .ok (.invokestatic 35, 3) := by decide +kernel
theorem d_Polys_powerBy_32 : decode prog_7_method_11_code 32 = .ok (.lload 4, 2) := by decide +kernel
theorem d_Polys_powerBy_34 : decode prog_7_method_11_code 34 = .ok (.invokestatic 28, 3) := by decide +kernel
theorem d_Polys_powerBy_37 : decode prog_7_method_11_code 37 = .ok (.lstore 8, 2) := by decide +kernel
theorem d_Polys_powerBy_39 : decode prog_7_method_11_code 39 = .ok (.lload_n 2, 1) := by decide +kernel
theorem d_Polys_powerBy_40 : decode prog_7_method_11_code 40 = .ok (.iload 10, 2) := by decide +kernel
theorem d_Polys_powerBy_42 : decode prog_7_method_11_code 42 = .ok (.lshr, 1) := by decide +kernel
theorem d_Polys_powerBy_43 : decode prog_7_method_11_code 43 = .ok (.lconst 1, 1) := by decide +kernel
theorem d_Polys_powerBy_44 : decode prog_7_method_11_code 44 = .ok (.land, 1) := by decide +kernel
theorem d_Polys_powerBy_45 : decode prog_7_method_11_code 45 = .ok (.lconst 0, 1) := by decide +kernel
theorem d_Polys_powerBy_46 : decode prog_7_method_11_code 46 = .ok (.lcmp, 1) := by decide +kernel
theorem d_Polys_powerBy_47 : decode prog_7_method_11_code 47 = .ok (.ifCond .eq 17, 3) := by decide +kernel
theorem d_Polys_powerBy_50 : decode prog_7_method_11_code 50 = .ok (.lload 8, 2) := by decide +kernel
theorem d_Polys_powerBy_52 : decode prog_7_method_11_code 52 = .ok (.lload 6, 2) := by decide +kernel
theorem d_Polys_powerBy_54 : decode prog_7_method_11_code 54 = .ok (.invokestatic 32, 3) := by decide +kernel
theorem d_Polys_powerBy_57 : decode prog_7_method_11_code 57 = .ok (.lload 4, 2) := by decide +kernel
theorem d_Polys_powerBy_59 : decode prog_7_method_11_code 59 = .ok (.invokestatic 28, 3) := by decide +kernel
theorem d_Polys_powerBy_62 : decode prog_7_method_11_code 62 = .ok (.lstore 8, 2) := by decide +kernel
theorem d_Polys_powerBy_64 : decode prog_7_method_11_code 64 = .ok (.iinc 10 (-1), 3) := by decide +kernel
theorem d_Polys_powerBy_67 : decode prog_7_method_11_code 67 = .ok (.goto (-45), 3) := by decide +kernel
theorem d_Polys_powerBy_70 : decode prog_7_method_11_code 70 = .ok (.lload 8, 2) := by decide +kernel
theorem d_Polys_powerBy_72 : decode prog_7_method_11_code 72 = .ok (.lreturn, 1) := by decide +kernel
def cf_Polys_powerBy_B22  (K22 : Int64 → Int64 → Int64 → Int64 → Int32 → Prop) (P : Int64 → Prop) (x2 : Int64) (x4 : Int64) (x6 : Int64) (x8 : Int64) (x10 : Int32)  : Prop :=
  ((x10 < 0 → P x8) ∧ (¬ x10 < 0 → cf_Polys_square x8 (fun r4 => cf_Polys_remainder r4 x4 (fun r5 => ((((lshr x2 x10) &&& (1 : Int64)) = (0 : Int64) → ∀ v6, v6 = x10 + (-1 : Int32) → K22 x2 x4 x6 r5 v6) ∧ (¬ ((lshr x2 x10) &&& (1 : Int64)) = (0 : Int64) → cf_Polys_product r5 x6 (fun r7 => cf_Polys_remainder r7 x4 (fun r8 => ∀ v9, v9 = x10 + (-1 : Int32) → K22 x2 x4 x6 r8 v9))))))))
def cf_Polys_powerBy_L22   (P : Int64 → Prop) : Nat → Int64 → Int64 → Int64 → Int64 → Int32 → Prop
  | 0 => fun x2 x4 x6 x8 x10 => False
  | n + 1 => fun x2 x4 x6 x8 x10 => cf_Polys_powerBy_B22 (cf_Polys_powerBy_L22 P n) P x2 x4 x6 x8 x10
def cf_Polys_powerBy (a0 : Int64) (a1 : Int64) (a2 : Int64) (P : Int64 → Prop) : Prop :=
  cf_Polys_remainder a0 a2 (fun r1 => cf_Polys_remainder (1 : Int64) a2 (fun r2 => cf_Polys_degree a1 (fun r3 => ∃ n, cf_Polys_powerBy_L22 P n a1 a2 r1 r2 r3)))
theorem cf_Polys_powerBy_B22_ok {g : ayG} {d : Nat} (hd : 3 ≤ d)   (w : Wd) (K22 : Int64 → Int64 → Int64 → Int64 → Int32 → Prop) (P : Int64 → Prop) (Q : Option Value → Wd → Prop) (hQ : ∀ x, P x → Q (some (.long x)) w) (hK22 : ∀ (x2 : Int64) (x4 : Int64) (x6 : Int64) (x8 : Int64) (x10 : Int32), (K22 x2 x4 x6 x8 x10 → wp g (fun _ => True) y_Polys_powerBy prog_7_method_11_code 11 (some FieldType.long) d 22 [(2, .long x2), (4, .long x4), (6, .long x6), (8, .long x8), (10, .int x10)] [] w Q)) (x2 : Int64) (x4 : Int64) (x6 : Int64) (x8 : Int64) (x10 : Int32) (h : cf_Polys_powerBy_B22 K22 P x2 x4 x6 x8 x10) : wp g (fun _ => True) y_Polys_powerBy prog_7_method_11_code 11 (some FieldType.long) d 22 [(2, .long x2), (4, .long x4), (6, .long x6), (8, .long x8), (10, .int x10)] [] w Q := by
  unfold cf_Polys_powerBy_B22 at h
  refine am_iload d_Polys_powerBy_22 4 rfl ?_
  refine am_if_lt (tgt := 70) d_Polys_powerBy_24 (by decide) (fun c24 => ?_) (fun c24 => ?_)
  · have h := h.1 c24
    refine am_lload d_Polys_powerBy_70 3 rfl ?_
    exact am_lreturn d_Polys_powerBy_72 rfl (hQ x8 h)
  · have h := h.2 c24
    refine am_lload d_Polys_powerBy_27 3 rfl ?_
    refine am_callS (d2 := d - 1) [.long x8] d_Polys_powerBy_29 mi_Polys_square wd_507 wd_508 (by omega) rfl rfl (Nat.le_of_ble_eq_true rfl) ?_
    refine Call.post ?_ (cf_Polys_square_ok (by omega) x8  w _ h)
    rintro _ _ ⟨r4, rfl, rfl, h⟩
    show wp g (fun _ => True) y_Polys_powerBy prog_7_method_11_code 11 (some FieldType.long) d 32 [(2, .long x2), (4, .long x4), (6, .long x6), (8, .long x8), (10, .int x10)] [.long r4] w Q
    refine am_lload d_Polys_powerBy_32 1 rfl ?_
    refine am_callS (d2 := d - 1) [.long r4, .long x4] d_Polys_powerBy_34 mi_Polys_remainder wd_495 wd_486 (by omega) rfl rfl (Nat.le_of_ble_eq_true rfl) ?_
    refine Call.post ?_ (cf_Polys_remainder_ok (by omega) r4 x4  w _ h)
    rintro _ _ ⟨r5, rfl, rfl, h⟩
    show wp g (fun _ => True) y_Polys_powerBy prog_7_method_11_code 11 (some FieldType.long) d 37 [(2, .long x2), (4, .long x4), (6, .long x6), (8, .long x8), (10, .int x10)] [.long r5] w Q
    refine am_lstore (l' := [(8, .long r5), (2, .long x2), (4, .long x4), (6, .long x6), (10, .int x10)]) d_Polys_powerBy_37 (by decide) rfl ?_
    refine am_lload_n d_Polys_powerBy_39 1 rfl ?_
    refine am_iload d_Polys_powerBy_40 4 rfl ?_
    refine am_lshr d_Polys_powerBy_42 ?_
    refine am_lconst (v := 1) d_Polys_powerBy_43 rfl ?_
    refine am_land d_Polys_powerBy_44 ?_
    refine am_lconst (v := 0) d_Polys_powerBy_45 rfl ?_
    refine am_lif_eq (tgt := 64) d_Polys_powerBy_46 d_Polys_powerBy_47 (by decide) (fun c46 => ?_) (fun c46 => ?_)
    · have h := h.1 c46
      obtain ⟨v6, ev6⟩ : ∃ z : Int32, z = x10 + (-1 : Int32) := ⟨_, rfl⟩
      have h := h v6 ev6
      refine am_iinc (v := v6) (l' := [(10, .int v6), (8, .long r5), (2, .long x2), (4, .long x4), (6, .long x6)]) d_Polys_powerBy_64 4 rfl (by rw [ev6]; rfl) (by decide) rfl ?_
      refine am_goto (tgt := 22) d_Polys_powerBy_67 (by decide) ?_
      refine am_sub [2, 3, 4, 1, 0] rfl ?_
      exact hK22 x2 x4 x6 r5 v6 h
    · have h := h.2 c46
      refine am_lload d_Polys_powerBy_50 0 rfl ?_
      refine am_lload d_Polys_powerBy_52 3 rfl ?_
      refine am_callS (d2 := d - 1) [.long r5, .long x6] d_Polys_powerBy_54 mi_Polys_product wd_514 wd_407 (by omega) rfl rfl (Nat.le_of_ble_eq_true rfl) ?_
      refine Call.post ?_ (cf_Polys_product_ok (by omega) r5 x6  w _ h)
      rintro _ _ ⟨r7, rfl, rfl, h⟩
      show wp g (fun _ => True) y_Polys_powerBy prog_7_method_11_code 11 (some FieldType.long) d 57 [(8, .long r5), (2, .long x2), (4, .long x4), (6, .long x6), (10, .int x10)] [.long r7] w Q
      refine am_lload d_Polys_powerBy_57 2 rfl ?_
      refine am_callS (d2 := d - 1) [.long r7, .long x4] d_Polys_powerBy_59 mi_Polys_remainder wd_495 wd_486 (by omega) rfl rfl (Nat.le_of_ble_eq_true rfl) ?_
      refine Call.post ?_ (cf_Polys_remainder_ok (by omega) r7 x4  w _ h)
      rintro _ _ ⟨r8, rfl, rfl, h⟩
      show wp g (fun _ => True) y_Polys_powerBy prog_7_method_11_code 11 (some FieldType.long) d 62 [(8, .long r5), (2, .long x2), (4, .long x4), (6, .long x6), (10, .int x10)] [.long r8] w Q
      refine am_lstore (l' := [(8, .long r8), (2, .long x2), (4, .long x4), (6, .long x6), (10, .int x10)]) d_Polys_powerBy_62 (by decide) rfl ?_
      obtain ⟨v9, ev9⟩ : ∃ z : Int32, z = x10 + (-1 : Int32) := ⟨_, rfl⟩
      have h := h v9 ev9
      refine am_iinc (v := v9) (l' := [(10, .int v9), (8, .long r8), (2, .long x2), (4, .long x4), (6, .long x6)]) d_Polys_powerBy_64 4 rfl (by rw [ev9]; rfl) (by decide) rfl ?_
      refine am_goto (tgt := 22) d_Polys_powerBy_67 (by decide) ?_
      refine am_sub [2, 3, 4, 1, 0] rfl ?_
      exact hK22 x2 x4 x6 r8 v9 h
theorem cf_Polys_powerBy_L22_ok {g : ayG} {d : Nat} (hd : 3 ≤ d)   (w : Wd)  (P : Int64 → Prop) (Q : Option Value → Wd → Prop) (hQ : ∀ x, P x → Q (some (.long x)) w)  : ∀ (n : Nat) (x2 : Int64) (x4 : Int64) (x6 : Int64) (x8 : Int64) (x10 : Int32) (h : cf_Polys_powerBy_L22 P n x2 x4 x6 x8 x10), wp g (fun _ => True) y_Polys_powerBy prog_7_method_11_code 11 (some FieldType.long) d 22 [(2, .long x2), (4, .long x4), (6, .long x6), (8, .long x8), (10, .int x10)] [] w Q
  | 0, x2, x4, x6, x8, x10, h => False.elim h
  | n + 1, x2, x4, x6, x8, x10, h => cf_Polys_powerBy_B22_ok hd   w (cf_Polys_powerBy_L22 P n) P Q hQ (fun x2 x4 x6 x8 x10 h => cf_Polys_powerBy_L22_ok hd   w  P Q hQ  n x2 x4 x6 x8 x10 h) x2 x4 x6 x8 x10 h
theorem cf_Polys_powerBy_ok {g : ayG} {d : Nat} (hd : 3 ≤ d) (a0 : Int64) (a1 : Int64) (a2 : Int64)  (w : Wd) (P : Int64 → Prop) (h : cf_Polys_powerBy a0 a1 a2 P) : Call g y_Polys_powerBy prog_7_method_11_code 11 (some FieldType.long) d [.long a0, .long a1, .long a2] w (fun (r : Option Value) (w2 : Wd) => ∃ x, r = some (.long x) ∧ w = w2 ∧ P x) := by
  unfold cf_Polys_powerBy at h
  refine am_enter mi_Polys_powerBy (Nat.le_of_ble_eq_true rfl) ?_
  have hQ : ∀ x, P x → (fun (r : Option Value) (w2 : Wd) => ∃ x, r = some (.long x) ∧ w = w2 ∧ P x) (some (.long x)) w := fun x h => ⟨x, rfl, rfl, h⟩
  generalize (fun (r : Option Value) (w2 : Wd) => ∃ x, r = some (.long x) ∧ w = w2 ∧ P x) = Q at hQ ⊢
  show wp g (fun _ => True) y_Polys_powerBy prog_7_method_11_code 11 (some FieldType.long) d 0 [(0, .long a0), (2, .long a1), (4, .long a2)] [] w Q
  refine am_lload_n d_Polys_powerBy_0 0 rfl ?_
  refine am_lload d_Polys_powerBy_1 2 rfl ?_
  refine am_callS (d2 := d - 1) [.long a0, .long a2] d_Polys_powerBy_3 mi_Polys_remainder wd_495 wd_486 (by omega) rfl rfl (Nat.le_of_ble_eq_true rfl) ?_
  refine Call.post ?_ (cf_Polys_remainder_ok (by omega) a0 a2  w _ h)
  rintro _ _ ⟨r1, rfl, rfl, h⟩
  show wp g (fun _ => True) y_Polys_powerBy prog_7_method_11_code 11 (some FieldType.long) d 6 [(0, .long a0), (2, .long a1), (4, .long a2)] [.long r1] w Q
  refine am_lstore (l' := [(6, .long r1), (0, .long a0), (2, .long a1), (4, .long a2)]) d_Polys_powerBy_6 (by decide) rfl ?_
  refine am_lconst (v := 1) d_Polys_powerBy_8 rfl ?_
  refine am_lload d_Polys_powerBy_9 3 rfl ?_
  refine am_callS (d2 := d - 1) [.long (1 : Int64), .long a2] d_Polys_powerBy_11 mi_Polys_remainder wd_495 wd_486 (by omega) rfl rfl (Nat.le_of_ble_eq_true rfl) ?_
  refine Call.post ?_ (cf_Polys_remainder_ok (by omega) (1 : Int64) a2  w _ h)
  rintro _ _ ⟨r2, rfl, rfl, h⟩
  show wp g (fun _ => True) y_Polys_powerBy prog_7_method_11_code 11 (some FieldType.long) d 14 [(6, .long r1), (0, .long a0), (2, .long a1), (4, .long a2)] [.long r2] w Q
  refine am_lstore (l' := [(8, .long r2), (6, .long r1), (0, .long a0), (2, .long a1), (4, .long a2)]) d_Polys_powerBy_14 (by decide) rfl ?_
  refine am_lload_n d_Polys_powerBy_16 3 rfl ?_
  refine am_callS (d2 := d - 1) [.long a1] d_Polys_powerBy_17 mi_Polys_degree wd_390 wd_391 (by omega) rfl rfl (Nat.le_of_ble_eq_true rfl) ?_
  refine Call.post ?_ (cf_Polys_degree_ok (by omega) a1  w _ h)
  rintro _ _ ⟨r3, rfl, rfl, h⟩
  show wp g (fun _ => True) y_Polys_powerBy prog_7_method_11_code 11 (some FieldType.long) d 20 [(8, .long r2), (6, .long r1), (0, .long a0), (2, .long a1), (4, .long a2)] [.int r3] w Q
  refine am_istore (l' := [(10, .int r3), (8, .long r2), (6, .long r1), (0, .long a0), (2, .long a1), (4, .long a2)]) d_Polys_powerBy_20 (by decide) rfl ?_
  refine am_sub [4, 5, 2, 1, 0] rfl ?_
  obtain ⟨n, h⟩ := h
  exact cf_Polys_powerBy_L22_ok (by omega)   w  P Q hQ  n a1 a2 r1 r2 r3 h
theorem d_Polys_inverseBy_0 : decode prog_7_method_12_code 0 = .ok (.lload_n 2, 1) := by decide +kernel
theorem d_Polys_inverseBy_1 : decode prog_7_method_12_code 1 = .ok (.lstore 4, 2) := by decide +kernel
theorem d_Polys_inverseBy_3 : decode prog_7_method_12_code 3 = .ok (.lload_n 0, 1) := by decide +kernel
theorem d_Polys_inverseBy_4 : decode prog_7_method_12_code 4 = .ok (.lload_n 2, 1) := by decide +kernel
theorem d_Polys_inverseBy_5 : decode prog_7_method_12_code 5 = .ok (.invokestatic 28, 3) := by decide +kernel
theorem d_Polys_inverseBy_8 : decode prog_7_method_12_code 8 = .ok (.lstore 6, 2) := by decide +kernel
theorem d_Polys_inverseBy_10 : decode prog_7_method_12_code 10 = .ok (.lconst 0, 1) := by decide +kernel
theorem d_Polys_inverseBy_11 : decode prog_7_method_12_code 11 = .ok (.lstore 8, 2) := by decide +kernel
theorem d_Polys_inverseBy_13 : decode prog_7_method_12_code 13 = .ok (.lconst 1, 1) := by decide +kernel
theorem d_Polys_inverseBy_14 : decode prog_7_method_12_code 14 = .ok (.lstore 10, 2) := by decide +kernel
theorem d_Polys_inverseBy_16 : decode prog_7_method_12_code 16 = .ok (.iconst 0, 1) := by decide +kernel
theorem d_Polys_inverseBy_17 : decode prog_7_method_12_code 17 = .ok (.istore 12, 2) := by decide +kernel
theorem d_Polys_inverseBy_19 : decode prog_7_method_12_code 19 = .ok (.iload 12, 2) := by decide +kernel
theorem d_Polys_inverseBy_21 : decode prog_7_method_12_code 21 = .ok (.bipush 64, 2) := by decide +kernel
theorem d_Polys_inverseBy_23 : decode prog_7_method_12_code 23 = .ok (.if_icmp .ge 65, 3) := by decide +kernel
theorem d_Polys_inverseBy_26 : decode prog_7_method_12_code 26 = .ok (.lload 6, 2) := by decide +kernel
theorem d_Polys_inverseBy_28 : decode prog_7_method_12_code 28 = .ok (.lconst 0, 1) := by decide +kernel
theorem d_Polys_inverseBy_29 : decode prog_7_method_12_code 29 = .ok (.lcmp, 1) := by decide +kernel
theorem d_Polys_inverseBy_30 : decode prog_7_method_12_code 30 = .ok (.ifCond .eq 58, 3) := by decide +kernel
theorem d_Polys_inverseBy_33 : decode prog_7_method_12_code 33 = .ok (.lload 4, 2) := by decide +kernel
theorem d_Polys_inverseBy_35 : decode prog_7_method_12_code 35 = .ok (.lload 6, 2) := by decide +kernel
theorem d_Polys_inverseBy_37 : decode prog_7_method_12_code 37 = .ok (.invokestatic 39, 3) := by decide +kernel
theorem d_Polys_inverseBy_40 : decode prog_7_method_12_code 40 = .ok (.lstore 13, 2) := by decide +kernel
theorem d_Polys_inverseBy_42 : decode prog_7_method_12_code 42 = .ok (.lload 4, 2) := by decide +kernel
theorem d_Polys_inverseBy_44 : decode prog_7_method_12_code 44 = .ok (.lload 13, 2) := by decide +kernel
theorem d_Polys_inverseBy_46 : decode prog_7_method_12_code 46 = .ok (.lload 6, 2) := by decide +kernel
theorem d_Polys_inverseBy_48 : decode prog_7_method_12_code 48 = .ok (.invokestatic 32, 3) := by decide +kernel
theorem d_Polys_inverseBy_51 : decode prog_7_method_12_code 51 = .ok (.lxor, 1) := by decide +kernel
theorem d_Polys_inverseBy_52 : decode prog_7_method_12_code 52 = .ok (.lstore 15, 2) := by decide +kernel
theorem d_Polys_inverseBy_54 : decode prog_7_method_12_code 54 = .ok (.lload 8, 2) := by decide +kernel
theorem d_Polys_inverseBy_56 : decode prog_7_method_12_code 56 = .ok (.lload 13, 2) := by decide +kernel
theorem d_Polys_inverseBy_58 : decode prog_7_method_12_code 58 = .ok (.lload 10, 2) := by decide +kernel
theorem d_Polys_inverseBy_60 : decode prog_7_method_12_code 60 = .ok (.invokestatic 32, 3) := by decide +kernel
theorem d_Polys_inverseBy_63 : decode prog_7_method_12_code 63 = .ok (.lxor, 1) := by decide +kernel
theorem d_Polys_inverseBy_64 : decode prog_7_method_12_code 64 = .ok (.lstore 17, 2) := by decide +kernel
theorem d_Polys_inverseBy_66 : decode prog_7_method_12_code 66 = .ok (.lload 6, 2) := by decide +kernel
theorem d_Polys_inverseBy_68 : decode prog_7_method_12_code 68 = .ok (.lstore 4, 2) := by decide +kernel
theorem d_Polys_inverseBy_70 : decode prog_7_method_12_code 70 = .ok (.lload 15, 2) := by decide +kernel
theorem d_Polys_inverseBy_72 : decode prog_7_method_12_code 72 = .ok (.lstore 6, 2) := by decide +kernel
theorem d_Polys_inverseBy_74 : decode prog_7_method_12_code 74 = .ok (.lload 10, 2) := by decide +kernel
theorem d_Polys_inverseBy_76 : decode prog_7_method_12_code 76 = .ok (.lstore 8, 2) := by decide +kernel
theorem d_Polys_inverseBy_78 : decode prog_7_method_12_code 78 = .ok (.lload 17, 2) := by decide +kernel
theorem d_Polys_inverseBy_80 : decode prog_7_method_12_code 80 = .ok (.lstore 10, 2) := by decide +kernel
theorem d_Polys_inverseBy_82 : decode prog_7_method_12_code 82 = .ok (.iinc 12 1, 3) := by decide +kernel
theorem d_Polys_inverseBy_85 : decode prog_7_method_12_code 85 = .ok (.goto (-66), 3) := by decide +kernel
theorem d_Polys_inverseBy_88 : decode prog_7_method_12_code 88 = .ok (.lload 4, 2) := by decide +kernel
theorem d_Polys_inverseBy_90 : decode prog_7_method_12_code 90 = .ok (.lconst 1, 1) := by decide +kernel
theorem d_Polys_inverseBy_91 : decode prog_7_method_12_code 91 = .ok (.lcmp, 1) := by decide +kernel
theorem d_Polys_inverseBy_92 : decode prog_7_method_12_code 92 = .ok (.ifCond .ne 12, 3) := by decide +kernel
theorem d_Polys_inverseBy_95 : decode prog_7_method_12_code 95 = .ok (.lload 8, 2) := by decide +kernel
theorem d_Polys_inverseBy_97 : decode prog_7_method_12_code 97 = .ok (.lload_n 2, 1) := by decide +kernel
theorem d_Polys_inverseBy_98 : decode prog_7_method_12_code 98 = .ok (.invokestatic 28, 3) := by decide +kernel
theorem d_Polys_inverseBy_101 : decode prog_7_method_12_code 101 = .ok (.goto 4, 3) := by decide +kernel
theorem d_Polys_inverseBy_104 : decode prog_7_method_12_code 104 = .ok (.lconst 0, 1) := by decide +kernel
theorem d_Polys_inverseBy_105 : decode prog_7_method_12_code 105 = .ok (.lreturn, 1) := by decide +kernel
def cf_Polys_inverseBy_B19  (K19 : Int64 → Int64 → Int64 → Int64 → Int64 → Int32 → Prop) (P : Int64 → Prop) (x2 : Int64) (x4 : Int64) (x6 : Int64) (x8 : Int64) (x10 : Int64) (x12 : Int32)  : Prop :=
  (((64 : Int32) ≤ x12 → ((¬ x4 = (1 : Int64) → P (0 : Int64)) ∧ (x4 = (1 : Int64) → cf_Polys_remainder x8 x2 (fun r2 => P r2)))) ∧ (¬ (64 : Int32) ≤ x12 → ((x6 = (0 : Int64) → ((¬ x4 = (1 : Int64) → P (0 : Int64)) ∧ (x4 = (1 : Int64) → cf_Polys_remainder x8 x2 (fun r3 => P r3)))) ∧ (¬ x6 = (0 : Int64) → cf_Polys_quotient x4 x6 (fun r4 => cf_Polys_product r4 x6 (fun r5 => ∀ v6, v6 = x4 ^^^ r5 → cf_Polys_product r4 x10 (fun r7 => ∀ v8, v8 = x8 ^^^ r7 → ∀ v9, v9 = x12 + (1 : Int32) → K19 x2 x6 v6 x10 v8 v9)))))))
def cf_Polys_inverseBy_L19   (P : Int64 → Prop) : Nat → Int64 → Int64 → Int64 → Int64 → Int64 → Int32 → Prop
  | 0 => fun x2 x4 x6 x8 x10 x12 => False
  | n + 1 => fun x2 x4 x6 x8 x10 x12 => cf_Polys_inverseBy_B19 (cf_Polys_inverseBy_L19 P n) P x2 x4 x6 x8 x10 x12
def cf_Polys_inverseBy (a0 : Int64) (a1 : Int64) (P : Int64 → Prop) : Prop :=
  cf_Polys_remainder a0 a1 (fun r1 => ∃ n, cf_Polys_inverseBy_L19 P n a1 a1 r1 (0 : Int64) (1 : Int64) (0 : Int32))
theorem cf_Polys_inverseBy_B19_ok {g : ayG} {d : Nat} (hd : 4 ≤ d)   (w : Wd) (K19 : Int64 → Int64 → Int64 → Int64 → Int64 → Int32 → Prop) (P : Int64 → Prop) (Q : Option Value → Wd → Prop) (hQ : ∀ x, P x → Q (some (.long x)) w) (hK19 : ∀ (x2 : Int64) (x4 : Int64) (x6 : Int64) (x8 : Int64) (x10 : Int64) (x12 : Int32), (K19 x2 x4 x6 x8 x10 x12 → wp g (fun _ => True) y_Polys_inverseBy prog_7_method_12_code 19 (some FieldType.long) d 19 [(2, .long x2), (4, .long x4), (6, .long x6), (8, .long x8), (10, .long x10), (12, .int x12)] [] w Q)) (x2 : Int64) (x4 : Int64) (x6 : Int64) (x8 : Int64) (x10 : Int64) (x12 : Int32) (h : cf_Polys_inverseBy_B19 K19 P x2 x4 x6 x8 x10 x12) : wp g (fun _ => True) y_Polys_inverseBy prog_7_method_12_code 19 (some FieldType.long) d 19 [(2, .long x2), (4, .long x4), (6, .long x6), (8, .long x8), (10, .long x10), (12, .int x12)] [] w Q := by
  unfold cf_Polys_inverseBy_B19 at h
  refine am_iload d_Polys_inverseBy_19 5 rfl ?_
  refine am_bipush (v := 64) d_Polys_inverseBy_21 rfl ?_
  refine am_icmp_ge (tgt := 88) d_Polys_inverseBy_23 (by decide) (fun c23 => ?_) (fun c23 => ?_)
  · have h := h.1 c23
    refine am_lload d_Polys_inverseBy_88 1 rfl ?_
    refine am_lconst (v := 1) d_Polys_inverseBy_90 rfl ?_
    refine am_lif_ne (tgt := 104) d_Polys_inverseBy_91 d_Polys_inverseBy_92 (by decide) (fun c91 => ?_) (fun c91 => ?_)
    · have h := h.1 c91
      refine am_lconst (v := 0) d_Polys_inverseBy_104 rfl ?_
      exact am_lreturn d_Polys_inverseBy_105 rfl (hQ (0 : Int64) h)
    · have h := h.2 c91
      refine am_lload d_Polys_inverseBy_95 3 rfl ?_
      refine am_lload_n d_Polys_inverseBy_97 0 rfl ?_
      refine am_callS (d2 := d - 1) [.long x8, .long x2] d_Polys_inverseBy_98 mi_Polys_remainder wd_495 wd_486 (by omega) rfl rfl (Nat.le_of_ble_eq_true rfl) ?_
      refine Call.post ?_ (cf_Polys_remainder_ok (by omega) x8 x2  w _ h)
      rintro _ _ ⟨r2, rfl, rfl, h⟩
      show wp g (fun _ => True) y_Polys_inverseBy prog_7_method_12_code 19 (some FieldType.long) d 101 [(2, .long x2), (4, .long x4), (6, .long x6), (8, .long x8), (10, .long x10), (12, .int x12)] [.long r2] w Q
      refine am_goto (tgt := 105) d_Polys_inverseBy_101 (by decide) ?_
      exact am_lreturn d_Polys_inverseBy_105 rfl (hQ r2 h)
  · have h := h.2 c23
    refine am_lload d_Polys_inverseBy_26 2 rfl ?_
    refine am_lconst (v := 0) d_Polys_inverseBy_28 rfl ?_
    refine am_lif_eq (tgt := 88) d_Polys_inverseBy_29 d_Polys_inverseBy_30 (by decide) (fun c29 => ?_) (fun c29 => ?_)
    · have h := h.1 c29
      refine am_lload d_Polys_inverseBy_88 1 rfl ?_
      refine am_lconst (v := 1) d_Polys_inverseBy_90 rfl ?_
      refine am_lif_ne (tgt := 104) d_Polys_inverseBy_91 d_Polys_inverseBy_92 (by decide) (fun c91 => ?_) (fun c91 => ?_)
      · have h := h.1 c91
        refine am_lconst (v := 0) d_Polys_inverseBy_104 rfl ?_
        exact am_lreturn d_Polys_inverseBy_105 rfl (hQ (0 : Int64) h)
      · have h := h.2 c91
        refine am_lload d_Polys_inverseBy_95 3 rfl ?_
        refine am_lload_n d_Polys_inverseBy_97 0 rfl ?_
        refine am_callS (d2 := d - 1) [.long x8, .long x2] d_Polys_inverseBy_98 mi_Polys_remainder wd_495 wd_486 (by omega) rfl rfl (Nat.le_of_ble_eq_true rfl) ?_
        refine Call.post ?_ (cf_Polys_remainder_ok (by omega) x8 x2  w _ h)
        rintro _ _ ⟨r3, rfl, rfl, h⟩
        show wp g (fun _ => True) y_Polys_inverseBy prog_7_method_12_code 19 (some FieldType.long) d 101 [(2, .long x2), (4, .long x4), (6, .long x6), (8, .long x8), (10, .long x10), (12, .int x12)] [.long r3] w Q
        refine am_goto (tgt := 105) d_Polys_inverseBy_101 (by decide) ?_
        exact am_lreturn d_Polys_inverseBy_105 rfl (hQ r3 h)
    · have h := h.2 c29
      refine am_lload d_Polys_inverseBy_33 1 rfl ?_
      refine am_lload d_Polys_inverseBy_35 2 rfl ?_
      refine am_callS (d2 := d - 1) [.long x4, .long x6] d_Polys_inverseBy_37 mi_Polys_quotient wd_539 wd_479 (by omega) rfl rfl (Nat.le_of_ble_eq_true rfl) ?_
      refine Call.post ?_ (cf_Polys_quotient_ok (by omega) x4 x6  w _ h)
      rintro _ _ ⟨r4, rfl, rfl, h⟩
      show wp g (fun _ => True) y_Polys_inverseBy prog_7_method_12_code 19 (some FieldType.long) d 40 [(2, .long x2), (4, .long x4), (6, .long x6), (8, .long x8), (10, .long x10), (12, .int x12)] [.long r4] w Q
      refine am_lstore (l' := [(13, .long r4), (2, .long x2), (4, .long x4), (6, .long x6), (8, .long x8), (10, .long x10), (12, .int x12)]) d_Polys_inverseBy_40 (by decide) rfl ?_
      refine am_lload d_Polys_inverseBy_42 2 rfl ?_
      refine am_lload d_Polys_inverseBy_44 0 rfl ?_
      refine am_lload d_Polys_inverseBy_46 3 rfl ?_
      refine am_callS (d2 := d - 1) [.long r4, .long x6] d_Polys_inverseBy_48 mi_Polys_product wd_514 wd_407 (by omega) rfl rfl (Nat.le_of_ble_eq_true rfl) ?_
      refine Call.post ?_ (cf_Polys_product_ok (by omega) r4 x6  w _ h)
      rintro _ _ ⟨r5, rfl, rfl, h⟩
      show wp g (fun _ => True) y_Polys_inverseBy prog_7_method_12_code 19 (some FieldType.long) d 51 [(13, .long r4), (2, .long x2), (4, .long x4), (6, .long x6), (8, .long x8), (10, .long x10), (12, .int x12)] [.long r5, .long x4] w Q
      refine am_lxor d_Polys_inverseBy_51 ?_
      refine am_topl (fun v6 ev6 => ?_)
      have h := h v6 ev6
      refine am_lstore (l' := [(15, .long v6), (13, .long r4), (2, .long x2), (4, .long x4), (6, .long x6), (8, .long x8), (10, .long x10), (12, .int x12)]) d_Polys_inverseBy_52 (by decide) rfl ?_
      refine am_lload d_Polys_inverseBy_54 5 rfl ?_
      refine am_lload d_Polys_inverseBy_56 1 rfl ?_
      refine am_lload d_Polys_inverseBy_58 6 rfl ?_
      refine am_callS (d2 := d - 1) [.long r4, .long x10] d_Polys_inverseBy_60 mi_Polys_product wd_514 wd_407 (by omega) rfl rfl (Nat.le_of_ble_eq_true rfl) ?_
      refine Call.post ?_ (cf_Polys_product_ok (by omega) r4 x10  w _ h)
      rintro _ _ ⟨r7, rfl, rfl, h⟩
      show wp g (fun _ => True) y_Polys_inverseBy prog_7_method_12_code 19 (some FieldType.long) d 63 [(15, .long v6), (13, .long r4), (2, .long x2), (4, .long x4), (6, .long x6), (8, .long x8), (10, .long x10), (12, .int x12)] [.long r7, .long x8] w Q
      refine am_lxor d_Polys_inverseBy_63 ?_
      refine am_topl (fun v8 ev8 => ?_)
      have h := h v8 ev8
      refine am_lstore (l' := [(17, .long v8), (15, .long v6), (13, .long r4), (2, .long x2), (4, .long x4), (6, .long x6), (8, .long x8), (10, .long x10), (12, .int x12)]) d_Polys_inverseBy_64 (by decide) rfl ?_
      refine am_lload d_Polys_inverseBy_66 5 rfl ?_
      refine am_lstore (l' := [(4, .long x6), (17, .long v8), (15, .long v6), (13, .long r4), (2, .long x2), (6, .long x6), (8, .long x8), (10, .long x10), (12, .int x12)]) d_Polys_inverseBy_68 (by decide) rfl ?_
      refine am_lload d_Polys_inverseBy_70 2 rfl ?_
      refine am_lstore (l' := [(6, .long v6), (4, .long x6), (17, .long v8), (15, .long v6), (13, .long r4), (2, .long x2), (8, .long x8), (10, .long x10), (12, .int x12)]) d_Polys_inverseBy_72 (by decide) rfl ?_
      refine am_lload d_Polys_inverseBy_74 7 rfl ?_
      refine am_lstore (l' := [(8, .long x10), (6, .long v6), (4, .long x6), (17, .long v8), (15, .long v6), (13, .long r4), (2, .long x2), (10, .long x10), (12, .int x12)]) d_Polys_inverseBy_76 (by decide) rfl ?_
      refine am_lload d_Polys_inverseBy_78 3 rfl ?_
      refine am_lstore (l' := [(10, .long v8), (8, .long x10), (6, .long v6), (4, .long x6), (17, .long v8), (15, .long v6), (13, .long r4), (2, .long x2), (12, .int x12)]) d_Polys_inverseBy_80 (by decide) rfl ?_
      obtain ⟨v9, ev9⟩ : ∃ z : Int32, z = x12 + (1 : Int32) := ⟨_, rfl⟩
      have h := h v9 ev9
      refine am_iinc (v := v9) (l' := [(12, .int v9), (10, .long v8), (8, .long x10), (6, .long v6), (4, .long x6), (17, .long v8), (15, .long v6), (13, .long r4), (2, .long x2)]) d_Polys_inverseBy_82 8 rfl (by rw [ev9]; rfl) (by decide) rfl ?_
      refine am_goto (tgt := 19) d_Polys_inverseBy_85 (by decide) ?_
      refine am_sub [8, 4, 3, 2, 1, 0] rfl ?_
      exact hK19 x2 x6 v6 x10 v8 v9 h
theorem cf_Polys_inverseBy_L19_ok {g : ayG} {d : Nat} (hd : 4 ≤ d)   (w : Wd)  (P : Int64 → Prop) (Q : Option Value → Wd → Prop) (hQ : ∀ x, P x → Q (some (.long x)) w)  : ∀ (n : Nat) (x2 : Int64) (x4 : Int64) (x6 : Int64) (x8 : Int64) (x10 : Int64) (x12 : Int32) (h : cf_Polys_inverseBy_L19 P n x2 x4 x6 x8 x10 x12), wp g (fun _ => True) y_Polys_inverseBy prog_7_method_12_code 19 (some FieldType.long) d 19 [(2, .long x2), (4, .long x4), (6, .long x6), (8, .long x8), (10, .long x10), (12, .int x12)] [] w Q
  | 0, x2, x4, x6, x8, x10, x12, h => False.elim h
  | n + 1, x2, x4, x6, x8, x10, x12, h => cf_Polys_inverseBy_B19_ok hd   w (cf_Polys_inverseBy_L19 P n) P Q hQ (fun x2 x4 x6 x8 x10 x12 h => cf_Polys_inverseBy_L19_ok hd   w  P Q hQ  n x2 x4 x6 x8 x10 x12 h) x2 x4 x6 x8 x10 x12 h
theorem cf_Polys_inverseBy_ok {g : ayG} {d : Nat} (hd : 4 ≤ d) (a0 : Int64) (a1 : Int64)  (w : Wd) (P : Int64 → Prop) (h : cf_Polys_inverseBy a0 a1 P) : Call g y_Polys_inverseBy prog_7_method_12_code 19 (some FieldType.long) d [.long a0, .long a1] w (fun (r : Option Value) (w2 : Wd) => ∃ x, r = some (.long x) ∧ w = w2 ∧ P x) := by
  unfold cf_Polys_inverseBy at h
  refine am_enter mi_Polys_inverseBy (Nat.le_of_ble_eq_true rfl) ?_
  have hQ : ∀ x, P x → (fun (r : Option Value) (w2 : Wd) => ∃ x, r = some (.long x) ∧ w = w2 ∧ P x) (some (.long x)) w := fun x h => ⟨x, rfl, rfl, h⟩
  generalize (fun (r : Option Value) (w2 : Wd) => ∃ x, r = some (.long x) ∧ w = w2 ∧ P x) = Q at hQ ⊢
  show wp g (fun _ => True) y_Polys_inverseBy prog_7_method_12_code 19 (some FieldType.long) d 0 [(0, .long a0), (2, .long a1)] [] w Q
  refine am_lload_n d_Polys_inverseBy_0 1 rfl ?_
  refine am_lstore (l' := [(4, .long a1), (0, .long a0), (2, .long a1)]) d_Polys_inverseBy_1 (by decide) rfl ?_
  refine am_lload_n d_Polys_inverseBy_3 1 rfl ?_
  refine am_lload_n d_Polys_inverseBy_4 2 rfl ?_
  refine am_callS (d2 := d - 1) [.long a0, .long a1] d_Polys_inverseBy_5 mi_Polys_remainder wd_495 wd_486 (by omega) rfl rfl (Nat.le_of_ble_eq_true rfl) ?_
  refine Call.post ?_ (cf_Polys_remainder_ok (by omega) a0 a1  w _ h)
  rintro _ _ ⟨r1, rfl, rfl, h⟩
  show wp g (fun _ => True) y_Polys_inverseBy prog_7_method_12_code 19 (some FieldType.long) d 8 [(4, .long a1), (0, .long a0), (2, .long a1)] [.long r1] w Q
  refine am_lstore (l' := [(6, .long r1), (4, .long a1), (0, .long a0), (2, .long a1)]) d_Polys_inverseBy_8 (by decide) rfl ?_
  refine am_lconst (v := 0) d_Polys_inverseBy_10 rfl ?_
  refine am_lstore (l' := [(8, .long (0 : Int64)), (6, .long r1), (4, .long a1), (0, .long a0), (2, .long a1)]) d_Polys_inverseBy_11 (by decide) rfl ?_
  refine am_lconst (v := 1) d_Polys_inverseBy_13 rfl ?_
  refine am_lstore (l' := [(10, .long (1 : Int64)), (8, .long (0 : Int64)), (6, .long r1), (4, .long a1), (0, .long a0), (2, .long a1)]) d_Polys_inverseBy_14 (by decide) rfl ?_
  refine am_iconst (v := 0) d_Polys_inverseBy_16 rfl ?_
  refine am_istore (l' := [(12, .int (0 : Int32)), (10, .long (1 : Int64)), (8, .long (0 : Int64)), (6, .long r1), (4, .long a1), (0, .long a0), (2, .long a1)]) d_Polys_inverseBy_17 (by decide) rfl ?_
  refine am_sub [6, 4, 3, 2, 1, 0] rfl ?_
  obtain ⟨n, h⟩ := h
  exact cf_Polys_inverseBy_L19_ok (by omega)   w  P Q hQ  n a1 a1 r1 (0 : Int64) (1 : Int64) (0 : Int32) h
theorem d_Polys_composed_0 : decode prog_7_method_13_code 0 = .ok (.lconst 0, 1) := by decide +kernel
theorem d_Polys_composed_1 : decode prog_7_method_13_code 1 = .ok (.lstore 6, 2) := by decide +kernel
theorem d_Polys_composed_3 : decode prog_7_method_13_code 3 = .ok (.lload_n 0, 1) := by decide +kernel
theorem d_Polys_composed_4 : decode prog_7_method_13_code 4 = .ok (.invokestatic 23, 3) := by decide +kernel
theorem d_Polys_composed_7 : decode prog_7_method_13_code 7 = .ok (.istore 8, 2) := by decide +kernel
theorem d_Polys_composed_9 : decode prog_7_method_13_code 9 = .ok (.iload 8, 2) := by decide +kernel
theorem d_Polys_composed_11 : decode prog_7_method_13_code 11 = .ok (.ifCond .lt 26, 3) := by decide +kernel
theorem d_Polys_composed_14 : decode prog_7_method_13_code 14 = .ok (.lload 6, 2) := by decide +kernel
theorem d_Polys_composed_16 : decode prog_7_method_13_code 16 = .ok (.lload_n 2, 1) := by decide +kernel
theorem d_Polys_composed_17 : decode prog_7_method_13_code 17 = .ok (.lload 4, 2) := by decide +kernel
theorem d_Polys_composed_19 : decode prog_7_method_13_code 19 = .ok (.invokestatic 42, 3) := by decide +kernel
theorem d_Polys_composed_22 : decode prog_7_method_13_code 22 = .ok (.lload_n 0, 1) := by decide +kernel
theorem d_Polys_composed_23 : decode prog_7_method_13_code 23 = .ok (.iload 8, 2) := by decide +kernel
theorem d_Polys_composed_25 : decode prog_7_method_13_code 25 = .ok (.lshr, 1) := by decide +kernel
theorem d_Polys_composed_26 : decode prog_7_method_13_code 26 = .ok (.lconst 1, 1) := by decide +kernel
theorem d_Polys_composed_27 : decode prog_7_method_13_code 27 = .ok (.land, 1) := by decide +kernel
theorem d_Polys_composed_28 : decode prog_7_method_13_code 28 = .ok (.lxor, 1) := by decide +kernel
theorem d_Polys_composed_29 : decode prog_7_method_13_code 29 = .ok (.lstore 6, 2) := by decide +kernel
theorem d_Polys_composed_31 : decode prog_7_method_13_code 31 = .ok (.iinc 8 (-1), 3) := by decide +kernel
theorem d_Polys_composed_34 : decode prog_7_method_13_code 34 = .ok (.goto (-25), 3) := by decide +kernel
theorem d_Polys_composed_37 : decode prog_7_method_13_code 37 = .ok (.lload 6, 2) := by decide +kernel
theorem d_Polys_composed_39 : decode prog_7_method_13_code 39 = .ok (.lreturn, 1) := by decide +kernel
def cf_Polys_composed_B9  (K9 : Int64 → Int64 → Int64 → Int64 → Int32 → Prop) (P : Int64 → Prop) (x0 : Int64) (x2 : Int64) (x4 : Int64) (x6 : Int64) (x8 : Int32)  : Prop :=
  ((x8 < 0 → P x6) ∧ (¬ x8 < 0 → cf_Polys_productBy x6 x2 x4 (fun r2 => ∀ v3, v3 = r2 ^^^ ((lshr x0 x8) &&& (1 : Int64)) → ∀ v4, v4 = x8 + (-1 : Int32) → K9 x0 x2 x4 v3 v4)))
def cf_Polys_composed_L9   (P : Int64 → Prop) : Nat → Int64 → Int64 → Int64 → Int64 → Int32 → Prop
  | 0 => fun x0 x2 x4 x6 x8 => False
  | n + 1 => fun x0 x2 x4 x6 x8 => cf_Polys_composed_B9 (cf_Polys_composed_L9 P n) P x0 x2 x4 x6 x8
def cf_Polys_composed (a0 : Int64) (a1 : Int64) (a2 : Int64) (P : Int64 → Prop) : Prop :=
  cf_Polys_degree a0 (fun r1 => ∃ n, cf_Polys_composed_L9 P n a0 a1 a2 (0 : Int64) r1)
theorem cf_Polys_composed_B9_ok {g : ayG} {d : Nat} (hd : 4 ≤ d)   (w : Wd) (K9 : Int64 → Int64 → Int64 → Int64 → Int32 → Prop) (P : Int64 → Prop) (Q : Option Value → Wd → Prop) (hQ : ∀ x, P x → Q (some (.long x)) w) (hK9 : ∀ (x0 : Int64) (x2 : Int64) (x4 : Int64) (x6 : Int64) (x8 : Int32), (K9 x0 x2 x4 x6 x8 → wp g (fun _ => True) y_Polys_composed prog_7_method_13_code 9 (some FieldType.long) d 9 [(0, .long x0), (2, .long x2), (4, .long x4), (6, .long x6), (8, .int x8)] [] w Q)) (x0 : Int64) (x2 : Int64) (x4 : Int64) (x6 : Int64) (x8 : Int32) (h : cf_Polys_composed_B9 K9 P x0 x2 x4 x6 x8) : wp g (fun _ => True) y_Polys_composed prog_7_method_13_code 9 (some FieldType.long) d 9 [(0, .long x0), (2, .long x2), (4, .long x4), (6, .long x6), (8, .int x8)] [] w Q := by
  unfold cf_Polys_composed_B9 at h
  refine am_iload d_Polys_composed_9 4 rfl ?_
  refine am_if_lt (tgt := 37) d_Polys_composed_11 (by decide) (fun c11 => ?_) (fun c11 => ?_)
  · have h := h.1 c11
    refine am_lload d_Polys_composed_37 3 rfl ?_
    exact am_lreturn d_Polys_composed_39 rfl (hQ x6 h)
  · have h := h.2 c11
    refine am_lload d_Polys_composed_14 3 rfl ?_
    refine am_lload_n d_Polys_composed_16 1 rfl ?_
    refine am_lload d_Polys_composed_17 2 rfl ?_
    refine am_callS (d2 := d - 1) [.long x6, .long x2, .long x4] d_Polys_composed_19 mi_Polys_productBy wd_529 wd_530 (by omega) rfl rfl (Nat.le_of_ble_eq_true rfl) ?_
    refine Call.post ?_ (cf_Polys_productBy_ok (by omega) x6 x2 x4  w _ h)
    rintro _ _ ⟨r2, rfl, rfl, h⟩
    show wp g (fun _ => True) y_Polys_composed prog_7_method_13_code 9 (some FieldType.long) d 22 [(0, .long x0), (2, .long x2), (4, .long x4), (6, .long x6), (8, .int x8)] [.long r2] w Q
    refine am_lload_n d_Polys_composed_22 0 rfl ?_
    refine am_iload d_Polys_composed_23 4 rfl ?_
    refine am_lshr d_Polys_composed_25 ?_
    refine am_lconst (v := 1) d_Polys_composed_26 rfl ?_
    refine am_land d_Polys_composed_27 ?_
    refine am_lxor d_Polys_composed_28 ?_
    refine am_topl (fun v3 ev3 => ?_)
    have h := h v3 ev3
    refine am_lstore (l' := [(6, .long v3), (0, .long x0), (2, .long x2), (4, .long x4), (8, .int x8)]) d_Polys_composed_29 (by decide) rfl ?_
    obtain ⟨v4, ev4⟩ : ∃ z : Int32, z = x8 + (-1 : Int32) := ⟨_, rfl⟩
    have h := h v4 ev4
    refine am_iinc (v := v4) (l' := [(8, .int v4), (6, .long v3), (0, .long x0), (2, .long x2), (4, .long x4)]) d_Polys_composed_31 4 rfl (by rw [ev4]; rfl) (by decide) rfl ?_
    refine am_goto (tgt := 9) d_Polys_composed_34 (by decide) ?_
    refine am_sub [2, 3, 4, 1, 0] rfl ?_
    exact hK9 x0 x2 x4 v3 v4 h
theorem cf_Polys_composed_L9_ok {g : ayG} {d : Nat} (hd : 4 ≤ d)   (w : Wd)  (P : Int64 → Prop) (Q : Option Value → Wd → Prop) (hQ : ∀ x, P x → Q (some (.long x)) w)  : ∀ (n : Nat) (x0 : Int64) (x2 : Int64) (x4 : Int64) (x6 : Int64) (x8 : Int32) (h : cf_Polys_composed_L9 P n x0 x2 x4 x6 x8), wp g (fun _ => True) y_Polys_composed prog_7_method_13_code 9 (some FieldType.long) d 9 [(0, .long x0), (2, .long x2), (4, .long x4), (6, .long x6), (8, .int x8)] [] w Q
  | 0, x0, x2, x4, x6, x8, h => False.elim h
  | n + 1, x0, x2, x4, x6, x8, h => cf_Polys_composed_B9_ok hd   w (cf_Polys_composed_L9 P n) P Q hQ (fun x0 x2 x4 x6 x8 h => cf_Polys_composed_L9_ok hd   w  P Q hQ  n x0 x2 x4 x6 x8 h) x0 x2 x4 x6 x8 h
theorem cf_Polys_composed_ok {g : ayG} {d : Nat} (hd : 4 ≤ d) (a0 : Int64) (a1 : Int64) (a2 : Int64)  (w : Wd) (P : Int64 → Prop) (h : cf_Polys_composed a0 a1 a2 P) : Call g y_Polys_composed prog_7_method_13_code 9 (some FieldType.long) d [.long a0, .long a1, .long a2] w (fun (r : Option Value) (w2 : Wd) => ∃ x, r = some (.long x) ∧ w = w2 ∧ P x) := by
  unfold cf_Polys_composed at h
  refine am_enter mi_Polys_composed (Nat.le_of_ble_eq_true rfl) ?_
  have hQ : ∀ x, P x → (fun (r : Option Value) (w2 : Wd) => ∃ x, r = some (.long x) ∧ w = w2 ∧ P x) (some (.long x)) w := fun x h => ⟨x, rfl, rfl, h⟩
  generalize (fun (r : Option Value) (w2 : Wd) => ∃ x, r = some (.long x) ∧ w = w2 ∧ P x) = Q at hQ ⊢
  show wp g (fun _ => True) y_Polys_composed prog_7_method_13_code 9 (some FieldType.long) d 0 [(0, .long a0), (2, .long a1), (4, .long a2)] [] w Q
  refine am_lconst (v := 0) d_Polys_composed_0 rfl ?_
  refine am_lstore (l' := [(6, .long (0 : Int64)), (0, .long a0), (2, .long a1), (4, .long a2)]) d_Polys_composed_1 (by decide) rfl ?_
  refine am_lload_n d_Polys_composed_3 1 rfl ?_
  refine am_callS (d2 := d - 1) [.long a0] d_Polys_composed_4 mi_Polys_degree wd_390 wd_391 (by omega) rfl rfl (Nat.le_of_ble_eq_true rfl) ?_
  refine Call.post ?_ (cf_Polys_degree_ok (by omega) a0  w _ h)
  rintro _ _ ⟨r1, rfl, rfl, h⟩
  show wp g (fun _ => True) y_Polys_composed prog_7_method_13_code 9 (some FieldType.long) d 7 [(6, .long (0 : Int64)), (0, .long a0), (2, .long a1), (4, .long a2)] [.int r1] w Q
  refine am_istore (l' := [(8, .int r1), (6, .long (0 : Int64)), (0, .long a0), (2, .long a1), (4, .long a2)]) d_Polys_composed_7 (by decide) rfl ?_
  refine am_sub [2, 3, 4, 1, 0] rfl ?_
  obtain ⟨n, h⟩ := h
  exact cf_Polys_composed_L9_ok (by omega)   w  P Q hQ  n a0 a1 a2 (0 : Int64) r1 h
theorem d_Polys_shifted_0 : decode prog_7_method_14_code 0 = .ok (.lconst 0, 1) := by decide +kernel
theorem d_Polys_shifted_1 : decode prog_7_method_14_code 1 = .ok (.lstore_n 2, 1) := by decide +kernel
theorem d_Polys_shifted_2 : decode prog_7_method_14_code 2 = .ok (.lload_n 0, 1) := by decide +kernel
theorem d_Polys_shifted_3 : decode prog_7_method_14_code 3 = .ok (.invokestatic 23, 3) := by decide +kernel
theorem d_Polys_shifted_6 : decode prog_7_method_14_code 6 = .ok (.istore 4, 2) := by decide +kernel
theorem d_Polys_shifted_8 : decode prog_7_method_14_code 8 = .ok (.iload 4, 2) := by decide +kernel
theorem d_Polys_shifted_10 : decode prog_7_method_14_code 10 = .ok (.ifCond .lt 22, 3) := by decide +kernel
theorem d_Polys_shifted_13 : decode prog_7_method_14_code 13 = .ok (.lload_n 2, 1) := by decide +kernel
theorem d_Polys_shifted_14 : decode prog_7_method_14_code 14 = .ok (.iconst 1, 1) := by decide +kernel
theorem d_Polys_shifted_15 : decode prog_7_method_14_code 15 = .ok (.lshl, 1) := by decide +kernel
theorem d_Polys_shifted_16 : decode prog_7_method_14_code 16 = .ok (.lload_n 2, 1) := by decide +kernel
theorem d_Polys_shifted_17 : decode prog_7_method_14_code 17 = .ok (.lxor, 1) := by decide +kernel
theorem d_Polys_shifted_18 : decode prog_7_method_14_code 18 = .ok (.lload_n 0, 1) := by decide +kernel
theorem d_Polys_shifted_19 : decode prog_7_method_14_code 19 = .ok (.iload 4, 2) := by decide +kernel
theorem d_Polys_shifted_21 : decode prog_7_method_14_code 21 = .ok (.lshr, 1) := by decide +kernel
theorem d_Polys_shifted_22 : decode prog_7_method_14_code 22 = .ok (.lconst 1, 1) := by decide +kernel
theorem d_Polys_shifted_23 : decode prog_7_method_14_code 23 = .ok (.land, 1) := by decide +kernel
theorem d_Polys_shifted_24 : decode prog_7_method_14_code 24 = .ok (.lxor, 1) := by decide +kernel
theorem d_Polys_shifted_25 : decode prog_7_method_14_code 25 = .ok (.lstore_n 2, 1) := by decide +kernel
theorem d_Polys_shifted_26 : decode prog_7_method_14_code 26 = .ok (.iinc 4 (-1), 3) := by decide +kernel
theorem d_Polys_shifted_29 : decode prog_7_method_14_code 29 = .ok (.goto (-21), 3) := by decide +kernel
theorem d_Polys_shifted_32 : decode prog_7_method_14_code 32 = .ok (.lload_n 2, 1) := by decide +kernel
theorem d_Polys_shifted_33 : decode prog_7_method_14_code 33 = .ok (.lreturn, 1) := by decide +kernel
def cf_Polys_shifted_B8  (K8 : Int64 → Int64 → Int32 → Prop) (P : Int64 → Prop) (x0 : Int64) (x2 : Int64) (x4 : Int32)  : Prop :=
  ((x4 < 0 → P x2) ∧ (¬ x4 < 0 → ∀ v2, v2 = ((lshl x2 (1 : Int32)) ^^^ x2) ^^^ ((lshr x0 x4) &&& (1 : Int64)) → ∀ v3, v3 = x4 + (-1 : Int32) → K8 x0 v2 v3))
def cf_Polys_shifted_L8   (P : Int64 → Prop) : Nat → Int64 → Int64 → Int32 → Prop
  | 0 => fun x0 x2 x4 => False
  | n + 1 => fun x0 x2 x4 => cf_Polys_shifted_B8 (cf_Polys_shifted_L8 P n) P x0 x2 x4
def cf_Polys_shifted (a0 : Int64) (P : Int64 → Prop) : Prop :=
  cf_Polys_degree a0 (fun r1 => ∃ n, cf_Polys_shifted_L8 P n a0 (0 : Int64) r1)
theorem cf_Polys_shifted_B8_ok {g : ayG} {d : Nat} (hd : 3 ≤ d)   (w : Wd) (K8 : Int64 → Int64 → Int32 → Prop) (P : Int64 → Prop) (Q : Option Value → Wd → Prop) (hQ : ∀ x, P x → Q (some (.long x)) w) (hK8 : ∀ (x0 : Int64) (x2 : Int64) (x4 : Int32), (K8 x0 x2 x4 → wp g (fun _ => True) y_Polys_shifted prog_7_method_14_code 5 (some FieldType.long) d 8 [(0, .long x0), (2, .long x2), (4, .int x4)] [] w Q)) (x0 : Int64) (x2 : Int64) (x4 : Int32) (h : cf_Polys_shifted_B8 K8 P x0 x2 x4) : wp g (fun _ => True) y_Polys_shifted prog_7_method_14_code 5 (some FieldType.long) d 8 [(0, .long x0), (2, .long x2), (4, .int x4)] [] w Q := by
  unfold cf_Polys_shifted_B8 at h
  refine am_iload d_Polys_shifted_8 2 rfl ?_
  refine am_if_lt (tgt := 32) d_Polys_shifted_10 (by decide) (fun c10 => ?_) (fun c10 => ?_)
  · have h := h.1 c10
    refine am_lload_n d_Polys_shifted_32 1 rfl ?_
    exact am_lreturn d_Polys_shifted_33 rfl (hQ x2 h)
  · have h := h.2 c10
    refine am_lload_n d_Polys_shifted_13 1 rfl ?_
    refine am_iconst (v := 1) d_Polys_shifted_14 rfl ?_
    refine am_lshl d_Polys_shifted_15 ?_
    refine am_lload_n d_Polys_shifted_16 1 rfl ?_
    refine am_lxor d_Polys_shifted_17 ?_
    refine am_lload_n d_Polys_shifted_18 0 rfl ?_
    refine am_iload d_Polys_shifted_19 2 rfl ?_
    refine am_lshr d_Polys_shifted_21 ?_
    refine am_lconst (v := 1) d_Polys_shifted_22 rfl ?_
    refine am_land d_Polys_shifted_23 ?_
    refine am_lxor d_Polys_shifted_24 ?_
    refine am_topl (fun v2 ev2 => ?_)
    have h := h v2 ev2
    refine am_lstore_n (l' := [(2, .long v2), (0, .long x0), (4, .int x4)]) d_Polys_shifted_25 (by decide) rfl ?_
    obtain ⟨v3, ev3⟩ : ∃ z : Int32, z = x4 + (-1 : Int32) := ⟨_, rfl⟩
    have h := h v3 ev3
    refine am_iinc (v := v3) (l' := [(4, .int v3), (2, .long v2), (0, .long x0)]) d_Polys_shifted_26 2 rfl (by rw [ev3]; rfl) (by decide) rfl ?_
    refine am_goto (tgt := 8) d_Polys_shifted_29 (by decide) ?_
    refine am_sub [2, 1, 0] rfl ?_
    exact hK8 x0 v2 v3 h
theorem cf_Polys_shifted_L8_ok {g : ayG} {d : Nat} (hd : 3 ≤ d)   (w : Wd)  (P : Int64 → Prop) (Q : Option Value → Wd → Prop) (hQ : ∀ x, P x → Q (some (.long x)) w)  : ∀ (n : Nat) (x0 : Int64) (x2 : Int64) (x4 : Int32) (h : cf_Polys_shifted_L8 P n x0 x2 x4), wp g (fun _ => True) y_Polys_shifted prog_7_method_14_code 5 (some FieldType.long) d 8 [(0, .long x0), (2, .long x2), (4, .int x4)] [] w Q
  | 0, x0, x2, x4, h => False.elim h
  | n + 1, x0, x2, x4, h => cf_Polys_shifted_B8_ok hd   w (cf_Polys_shifted_L8 P n) P Q hQ (fun x0 x2 x4 h => cf_Polys_shifted_L8_ok hd   w  P Q hQ  n x0 x2 x4 h) x0 x2 x4 h
theorem cf_Polys_shifted_ok {g : ayG} {d : Nat} (hd : 3 ≤ d) (a0 : Int64)  (w : Wd) (P : Int64 → Prop) (h : cf_Polys_shifted a0 P) : Call g y_Polys_shifted prog_7_method_14_code 5 (some FieldType.long) d [.long a0] w (fun (r : Option Value) (w2 : Wd) => ∃ x, r = some (.long x) ∧ w = w2 ∧ P x) := by
  unfold cf_Polys_shifted at h
  refine am_enter mi_Polys_shifted (Nat.le_of_ble_eq_true rfl) ?_
  have hQ : ∀ x, P x → (fun (r : Option Value) (w2 : Wd) => ∃ x, r = some (.long x) ∧ w = w2 ∧ P x) (some (.long x)) w := fun x h => ⟨x, rfl, rfl, h⟩
  generalize (fun (r : Option Value) (w2 : Wd) => ∃ x, r = some (.long x) ∧ w = w2 ∧ P x) = Q at hQ ⊢
  show wp g (fun _ => True) y_Polys_shifted prog_7_method_14_code 5 (some FieldType.long) d 0 [(0, .long a0)] [] w Q
  refine am_lconst (v := 0) d_Polys_shifted_0 rfl ?_
  refine am_lstore_n (l' := [(2, .long (0 : Int64)), (0, .long a0)]) d_Polys_shifted_1 (by decide) rfl ?_
  refine am_lload_n d_Polys_shifted_2 1 rfl ?_
  refine am_callS (d2 := d - 1) [.long a0] d_Polys_shifted_3 mi_Polys_degree wd_390 wd_391 (by omega) rfl rfl (Nat.le_of_ble_eq_true rfl) ?_
  refine Call.post ?_ (cf_Polys_degree_ok (by omega) a0  w _ h)
  rintro _ _ ⟨r1, rfl, rfl, h⟩
  show wp g (fun _ => True) y_Polys_shifted prog_7_method_14_code 5 (some FieldType.long) d 6 [(2, .long (0 : Int64)), (0, .long a0)] [.int r1] w Q
  refine am_istore (l' := [(4, .int r1), (2, .long (0 : Int64)), (0, .long a0)]) d_Polys_shifted_6 (by decide) rfl ?_
  refine am_sub [2, 1, 0] rfl ?_
  obtain ⟨n, h⟩ := h
  exact cf_Polys_shifted_L8_ok (by omega)   w  P Q hQ  n a0 (0 : Int64) r1 h
theorem d_Polys_risen_0 : decode prog_7_method_15_code 0 = .ok (.lconst 0, 1) := by decide +kernel
theorem d_Polys_risen_1 : decode prog_7_method_15_code 1 = .ok (.lstore_n 3, 1) := by decide +kernel
theorem d_Polys_risen_2 : decode prog_7_method_15_code 2 = .ok (.lload_n 0, 1) := by decide +kernel
theorem d_Polys_risen_3 : decode prog_7_method_15_code 3 = .ok (.invokestatic 23, 3) := by decide +kernel
theorem d_Polys_risen_6 : decode prog_7_method_15_code 6 = .ok (.istore 5, 2) := by decide +kernel
theorem d_Polys_risen_8 : decode prog_7_method_15_code 8 = .ok (.iload 5, 2) := by decide +kernel
theorem d_Polys_risen_10 : decode prog_7_method_15_code 10 = .ok (.ifCond .lt 38, 3) := by decide +kernel
theorem d_Polys_risen_13 : decode prog_7_method_15_code 13 = .ok (.lload_n 0, 1) := by decide +kernel
theorem d_Polys_risen_14 : decode prog_7_method_15_code 14 = .ok (.iload 5, 2) := by decide +kernel
theorem d_Polys_risen_16 : decode prog_7_method_15_code 16 = .ok (.lshr, 1) := by decide +kernel
theorem d_Polys_risen_17 : decode prog_7_method_15_code 17 = .ok (.lconst 1, 1) := by decide +kernel
theorem d_Polys_risen_18 : decode prog_7_method_15_code 18 = .ok (.land, 1) := by decide +kernel
theorem d_Polys_risen_19 : decode prog_7_method_15_code 19 = .ok (.lconst 0, 1) := by decide +kernel
theorem d_Polys_risen_20 : decode prog_7_method_15_code 20 = .ok (.lcmp, 1) := by decide +kernel
theorem d_Polys_risen_21 : decode prog_7_method_15_code 21 = .ok (.ifCond .eq 21, 3) := by decide +kernel
theorem d_Polys_risen_24 : decode prog_7_method_15_code 24 = .ok (.iload 5, 2) := by decide +kernel
theorem d_Polys_risen_26 : decode prog_7_method_15_code 26 = .ok (.iload_n 2, 1) := by decide +kernel
theorem d_Polys_risen_27 : decode prog_7_method_15_code 27 = .ok (.imul, 1) := by decide +kernel
theorem d_Polys_risen_28 : decode prog_7_method_15_code 28 = .ok (.bipush 64, 2) := by decide +kernel
theorem d_Polys_risen_30 : decode prog_7_method_15_code 30 = .ok (.if_icmp .ge 12, 3) := by decide +kernel
theorem d_Polys_risen_33 : decode prog_7_method_15_code 33 = .ok (.lload_n 3, 1) := by decide +kernel
theorem d_Polys_risen_34 : decode prog_7_method_15_code 34 = .ok (.lconst 1, 1) := by decide +kernel
theorem d_Polys_risen_35 : decode prog_7_method_15_code 35 = .ok (.iload 5, 2) := by decide +kernel
theorem d_Polys_risen_37 : decode prog_7_method_15_code 37 = .ok (.iload_n 2, 1) := by decide +kernel
theorem d_Polys_risen_38 : decode prog_7_method_15_code 38 = .ok (.imul, 1) := by decide +kernel
theorem d_Polys_risen_39 : decode prog_7_method_15_code 39 = .ok (.lshl, 1) := by decide +kernel
theorem d_Polys_risen_40 : decode prog_7_method_15_code 40 = .ok (.lor, 1) := by decide +kernel
theorem d_Polys_risen_41 : decode prog_7_method_15_code 41 = .ok (.lstore_n 3, 1) := by decide +kernel
theorem d_Polys_risen_42 : decode prog_7_method_15_code 42 = .ok (.iinc 5 (-1), 3) := by decide +kernel
theorem d_Polys_risen_45 : decode prog_7_method_15_code 45 = .ok (.goto (-37), 3) := by decide +kernel
theorem d_Polys_risen_48 : decode prog_7_method_15_code 48 = .ok (.lload_n 3, 1) := by decide +kernel
theorem d_Polys_risen_49 : decode prog_7_method_15_code 49 = .ok (.lreturn, 1) := by decide +kernel
def cf_Polys_risen_B8  (K8 : Int64 → Int32 → Int64 → Int32 → Prop) (P : Int64 → Prop) (x0 : Int64) (x2 : Int32) (x3 : Int64) (x5 : Int32)  : Prop :=
  ((x5 < 0 → P x3) ∧ (¬ x5 < 0 → ((((lshr x0 x5) &&& (1 : Int64)) = (0 : Int64) → ∀ v2, v2 = x5 + (-1 : Int32) → K8 x0 x2 x3 v2) ∧ (¬ ((lshr x0 x5) &&& (1 : Int64)) = (0 : Int64) → (((64 : Int32) ≤ (x5 * x2) → ∀ v3, v3 = x5 + (-1 : Int32) → K8 x0 x2 x3 v3) ∧ (¬ (64 : Int32) ≤ (x5 * x2) → ∀ v4, v4 = x3 ||| (lshl (1 : Int64) (x5 * x2)) → ∀ v5, v5 = x5 + (-1 : Int32) → K8 x0 x2 v4 v5))))))
def cf_Polys_risen_L8   (P : Int64 → Prop) : Nat → Int64 → Int32 → Int64 → Int32 → Prop
  | 0 => fun x0 x2 x3 x5 => False
  | n + 1 => fun x0 x2 x3 x5 => cf_Polys_risen_B8 (cf_Polys_risen_L8 P n) P x0 x2 x3 x5
def cf_Polys_risen (a0 : Int64) (a1 : Int32) (P : Int64 → Prop) : Prop :=
  cf_Polys_degree a0 (fun r1 => ∃ n, cf_Polys_risen_L8 P n a0 a1 (0 : Int64) r1)
theorem cf_Polys_risen_B8_ok {g : ayG} {d : Nat} (hd : 3 ≤ d)   (w : Wd) (K8 : Int64 → Int32 → Int64 → Int32 → Prop) (P : Int64 → Prop) (Q : Option Value → Wd → Prop) (hQ : ∀ x, P x → Q (some (.long x)) w) (hK8 : ∀ (x0 : Int64) (x2 : Int32) (x3 : Int64) (x5 : Int32), (K8 x0 x2 x3 x5 → wp g (fun _ => True) y_Polys_risen prog_7_method_15_code 6 (some FieldType.long) d 8 [(0, .long x0), (2, .int x2), (3, .long x3), (5, .int x5)] [] w Q)) (x0 : Int64) (x2 : Int32) (x3 : Int64) (x5 : Int32) (h : cf_Polys_risen_B8 K8 P x0 x2 x3 x5) : wp g (fun _ => True) y_Polys_risen prog_7_method_15_code 6 (some FieldType.long) d 8 [(0, .long x0), (2, .int x2), (3, .long x3), (5, .int x5)] [] w Q := by
  unfold cf_Polys_risen_B8 at h
  refine am_iload d_Polys_risen_8 3 rfl ?_
  refine am_if_lt (tgt := 48) d_Polys_risen_10 (by decide) (fun c10 => ?_) (fun c10 => ?_)
  · have h := h.1 c10
    refine am_lload_n d_Polys_risen_48 2 rfl ?_
    exact am_lreturn d_Polys_risen_49 rfl (hQ x3 h)
  · have h := h.2 c10
    refine am_lload_n d_Polys_risen_13 0 rfl ?_
    refine am_iload d_Polys_risen_14 3 rfl ?_
    refine am_lshr d_Polys_risen_16 ?_
    refine am_lconst (v := 1) d_Polys_risen_17 rfl ?_
    refine am_land d_Polys_risen_18 ?_
    refine am_lconst (v := 0) d_Polys_risen_19 rfl ?_
    refine am_lif_eq (tgt := 42) d_Polys_risen_20 d_Polys_risen_21 (by decide) (fun c20 => ?_) (fun c20 => ?_)
    · have h := h.1 c20
      obtain ⟨v2, ev2⟩ : ∃ z : Int32, z = x5 + (-1 : Int32) := ⟨_, rfl⟩
      have h := h v2 ev2
      refine am_iinc (v := v2) (l' := [(5, .int v2), (0, .long x0), (2, .int x2), (3, .long x3)]) d_Polys_risen_42 3 rfl (by rw [ev2]; rfl) (by decide) rfl ?_
      refine am_goto (tgt := 8) d_Polys_risen_45 (by decide) ?_
      refine am_sub [1, 2, 3, 0] rfl ?_
      exact hK8 x0 x2 x3 v2 h
    · have h := h.2 c20
      refine am_iload d_Polys_risen_24 3 rfl ?_
      refine am_iload_n d_Polys_risen_26 1 rfl ?_
      refine am_imul d_Polys_risen_27 ?_
      refine am_bipush (v := 64) d_Polys_risen_28 rfl ?_
      refine am_icmp_ge (tgt := 42) d_Polys_risen_30 (by decide) (fun c30 => ?_) (fun c30 => ?_)
      · have h := h.1 c30
        obtain ⟨v3, ev3⟩ : ∃ z : Int32, z = x5 + (-1 : Int32) := ⟨_, rfl⟩
        have h := h v3 ev3
        refine am_iinc (v := v3) (l' := [(5, .int v3), (0, .long x0), (2, .int x2), (3, .long x3)]) d_Polys_risen_42 3 rfl (by rw [ev3]; rfl) (by decide) rfl ?_
        refine am_goto (tgt := 8) d_Polys_risen_45 (by decide) ?_
        refine am_sub [1, 2, 3, 0] rfl ?_
        exact hK8 x0 x2 x3 v3 h
      · have h := h.2 c30
        refine am_lload_n d_Polys_risen_33 2 rfl ?_
        refine am_lconst (v := 1) d_Polys_risen_34 rfl ?_
        refine am_iload d_Polys_risen_35 3 rfl ?_
        refine am_iload_n d_Polys_risen_37 1 rfl ?_
        refine am_imul d_Polys_risen_38 ?_
        refine am_lshl d_Polys_risen_39 ?_
        refine am_lor d_Polys_risen_40 ?_
        refine am_topl (fun v4 ev4 => ?_)
        have h := h v4 ev4
        refine am_lstore_n (l' := [(3, .long v4), (0, .long x0), (2, .int x2), (5, .int x5)]) d_Polys_risen_41 (by decide) rfl ?_
        obtain ⟨v5, ev5⟩ : ∃ z : Int32, z = x5 + (-1 : Int32) := ⟨_, rfl⟩
        have h := h v5 ev5
        refine am_iinc (v := v5) (l' := [(5, .int v5), (3, .long v4), (0, .long x0), (2, .int x2)]) d_Polys_risen_42 3 rfl (by rw [ev5]; rfl) (by decide) rfl ?_
        refine am_goto (tgt := 8) d_Polys_risen_45 (by decide) ?_
        refine am_sub [2, 3, 1, 0] rfl ?_
        exact hK8 x0 x2 v4 v5 h
theorem cf_Polys_risen_L8_ok {g : ayG} {d : Nat} (hd : 3 ≤ d)   (w : Wd)  (P : Int64 → Prop) (Q : Option Value → Wd → Prop) (hQ : ∀ x, P x → Q (some (.long x)) w)  : ∀ (n : Nat) (x0 : Int64) (x2 : Int32) (x3 : Int64) (x5 : Int32) (h : cf_Polys_risen_L8 P n x0 x2 x3 x5), wp g (fun _ => True) y_Polys_risen prog_7_method_15_code 6 (some FieldType.long) d 8 [(0, .long x0), (2, .int x2), (3, .long x3), (5, .int x5)] [] w Q
  | 0, x0, x2, x3, x5, h => False.elim h
  | n + 1, x0, x2, x3, x5, h => cf_Polys_risen_B8_ok hd   w (cf_Polys_risen_L8 P n) P Q hQ (fun x0 x2 x3 x5 h => cf_Polys_risen_L8_ok hd   w  P Q hQ  n x0 x2 x3 x5 h) x0 x2 x3 x5 h
theorem cf_Polys_risen_ok {g : ayG} {d : Nat} (hd : 3 ≤ d) (a0 : Int64) (a1 : Int32)  (w : Wd) (P : Int64 → Prop) (h : cf_Polys_risen a0 a1 P) : Call g y_Polys_risen prog_7_method_15_code 6 (some FieldType.long) d [.long a0, .int a1] w (fun (r : Option Value) (w2 : Wd) => ∃ x, r = some (.long x) ∧ w = w2 ∧ P x) := by
  unfold cf_Polys_risen at h
  refine am_enter mi_Polys_risen (Nat.le_of_ble_eq_true rfl) ?_
  have hQ : ∀ x, P x → (fun (r : Option Value) (w2 : Wd) => ∃ x, r = some (.long x) ∧ w = w2 ∧ P x) (some (.long x)) w := fun x h => ⟨x, rfl, rfl, h⟩
  generalize (fun (r : Option Value) (w2 : Wd) => ∃ x, r = some (.long x) ∧ w = w2 ∧ P x) = Q at hQ ⊢
  show wp g (fun _ => True) y_Polys_risen prog_7_method_15_code 6 (some FieldType.long) d 0 [(0, .long a0), (2, .int a1)] [] w Q
  refine am_lconst (v := 0) d_Polys_risen_0 rfl ?_
  refine am_lstore_n (l' := [(3, .long (0 : Int64)), (0, .long a0), (2, .int a1)]) d_Polys_risen_1 (by decide) rfl ?_
  refine am_lload_n d_Polys_risen_2 1 rfl ?_
  refine am_callS (d2 := d - 1) [.long a0] d_Polys_risen_3 mi_Polys_degree wd_390 wd_391 (by omega) rfl rfl (Nat.le_of_ble_eq_true rfl) ?_
  refine Call.post ?_ (cf_Polys_degree_ok (by omega) a0  w _ h)
  rintro _ _ ⟨r1, rfl, rfl, h⟩
  show wp g (fun _ => True) y_Polys_risen prog_7_method_15_code 6 (some FieldType.long) d 6 [(3, .long (0 : Int64)), (0, .long a0), (2, .int a1)] [.int r1] w Q
  refine am_istore (l' := [(5, .int r1), (3, .long (0 : Int64)), (0, .long a0), (2, .int a1)]) d_Polys_risen_6 (by decide) rfl ?_
  refine am_sub [2, 3, 1, 0] rfl ?_
  obtain ⟨n, h⟩ := h
  exact cf_Polys_risen_L8_ok (by omega)   w  P Q hQ  n a0 a1 (0 : Int64) r1 h
theorem d_Polys_reversed_0 : decode prog_7_method_16_code 0 = .ok (.lload_n 0, 1) := by decide +kernel
theorem d_Polys_reversed_1 : decode prog_7_method_16_code 1 = .ok (.invokestatic 23, 3) := by decide +kernel
theorem d_Polys_reversed_4 : decode prog_7_method_16_code 4 = .ok (.istore_n 2, 1) := by decide +kernel
theorem d_Polys_reversed_5 : decode prog_7_method_16_code 5 = .ok (.lconst 0, 1) := by decide +kernel
theorem d_Polys_reversed_6 : decode prog_7_method_16_code 6 = .ok (.lstore_n 3, 1) := by decide +kernel
theorem d_Polys_reversed_7 : decode prog_7_method_16_code 7 = .ok (.iconst 0, 1) := by decide +kernel
theorem d_Polys_reversed_8 : decode prog_7_method_16_code 8 = .ok (.istore 5, 2) := by decide +kernel
theorem d_Polys_reversed_10 : decode prog_7_method_16_code 10 = .ok (.iload 5, 2) := by decide +kernel
theorem d_Polys_reversed_12 : decode prog_7_method_16_code 12 = .ok (.iload_n 2, 1) := by decide +kernel
theorem d_Polys_reversed_13 : decode prog_7_method_16_code 13 = .ok (.if_icmp .gt 23, 3) := by decide +kernel
theorem d_Polys_reversed_16 : decode prog_7_method_16_code 16 = .ok (.lload_n 3, 1) := by decide +kernel
theorem d_Polys_reversed_17 : decode prog_7_method_16_code 17 = .ok (.lload_n 0, 1) := by decide +kernel
theorem d_Polys_reversed_18 : decode prog_7_method_16_code 18 = .ok (.iload 5, 2) := by decide +kernel
theorem d_Polys_reversed_20 : decode prog_7_method_16_code 20 = .ok (.lshr, 1) := by decide +kernel
theorem d_Polys_reversed_21 : decode prog_7_method_16_code 21 = .ok (.lconst 1, 1) := by decide +kernel
theorem d_Polys_reversed_22 : decode prog_7_method_16_code 22 = .ok (.land, 1) := by decide +kernel
theorem d_Polys_reversed_23 : decode prog_7_method_16_code 23 = .ok (.iload_n 2, 1) := by decide +kernel
theorem d_Polys_reversed_24 : decode prog_7_method_16_code 24 = .ok (.iload 5, 2) := by decide +kernel
theorem d_Polys_reversed_26 : decode prog_7_method_16_code 26 = .ok (.isub, 1) := by decide +kernel
theorem d_Polys_reversed_27 : decode prog_7_method_16_code 27 = .ok (.lshl, 1) := by decide +kernel
theorem d_Polys_reversed_28 : decode prog_7_method_16_code 28 = .ok (.lor, 1) := by decide +kernel
theorem d_Polys_reversed_29 : decode prog_7_method_16_code 29 = .ok (.lstore_n 3, 1) := by decide +kernel
theorem d_Polys_reversed_30 : decode prog_7_method_16_code 30 = .ok (.iinc 5 1, 3) := by decide +kernel
theorem d_Polys_reversed_33 : decode prog_7_method_16_code 33 = .ok (.goto (-23), 3) := by decide +kernel
theorem d_Polys_reversed_36 : decode prog_7_method_16_code 36 = .ok (.lload_n 3, 1) := by decide +kernel
theorem d_Polys_reversed_37 : decode prog_7_method_16_code 37 = .ok (.lreturn, 1) := by decide +kernel
def cf_Polys_reversed_B10  (K10 : Int64 → Int32 → Int64 → Int32 → Prop) (P : Int64 → Prop) (x0 : Int64) (x2 : Int32) (x3 : Int64) (x5 : Int32)  : Prop :=
  ((x2 < x5 → P x3) ∧ (¬ x2 < x5 → ∀ v2, v2 = x3 ||| (lshl ((lshr x0 x5) &&& (1 : Int64)) (x2 - x5)) → ∀ v3, v3 = x5 + (1 : Int32) → K10 x0 x2 v2 v3))
def cf_Polys_reversed_L10   (P : Int64 → Prop) : Nat → Int64 → Int32 → Int64 → Int32 → Prop
  | 0 => fun x0 x2 x3 x5 => False
  | n + 1 => fun x0 x2 x3 x5 => cf_Polys_reversed_B10 (cf_Polys_reversed_L10 P n) P x0 x2 x3 x5
def cf_Polys_reversed (a0 : Int64) (P : Int64 → Prop) : Prop :=
  cf_Polys_degree a0 (fun r1 => ∃ n, cf_Polys_reversed_L10 P n a0 r1 (0 : Int64) (0 : Int32))
theorem cf_Polys_reversed_B10_ok {g : ayG} {d : Nat} (hd : 3 ≤ d)   (w : Wd) (K10 : Int64 → Int32 → Int64 → Int32 → Prop) (P : Int64 → Prop) (Q : Option Value → Wd → Prop) (hQ : ∀ x, P x → Q (some (.long x)) w) (hK10 : ∀ (x0 : Int64) (x2 : Int32) (x3 : Int64) (x5 : Int32), (K10 x0 x2 x3 x5 → wp g (fun _ => True) y_Polys_reversed prog_7_method_16_code 6 (some FieldType.long) d 10 [(0, .long x0), (2, .int x2), (3, .long x3), (5, .int x5)] [] w Q)) (x0 : Int64) (x2 : Int32) (x3 : Int64) (x5 : Int32) (h : cf_Polys_reversed_B10 K10 P x0 x2 x3 x5) : wp g (fun _ => True) y_Polys_reversed prog_7_method_16_code 6 (some FieldType.long) d 10 [(0, .long x0), (2, .int x2), (3, .long x3), (5, .int x5)] [] w Q := by
  unfold cf_Polys_reversed_B10 at h
  refine am_iload d_Polys_reversed_10 3 rfl ?_
  refine am_iload_n d_Polys_reversed_12 1 rfl ?_
  refine am_icmp_gt (tgt := 36) d_Polys_reversed_13 (by decide) (fun c13 => ?_) (fun c13 => ?_)
  · have h := h.1 c13
    refine am_lload_n d_Polys_reversed_36 2 rfl ?_
    exact am_lreturn d_Polys_reversed_37 rfl (hQ x3 h)
  · have h := h.2 c13
    refine am_lload_n d_Polys_reversed_16 2 rfl ?_
    refine am_lload_n d_Polys_reversed_17 0 rfl ?_
    refine am_iload d_Polys_reversed_18 3 rfl ?_
    refine am_lshr d_Polys_reversed_20 ?_
    refine am_lconst (v := 1) d_Polys_reversed_21 rfl ?_
    refine am_land d_Polys_reversed_22 ?_
    refine am_iload_n d_Polys_reversed_23 1 rfl ?_
    refine am_iload d_Polys_reversed_24 3 rfl ?_
    refine am_isub d_Polys_reversed_26 ?_
    refine am_lshl d_Polys_reversed_27 ?_
    refine am_lor d_Polys_reversed_28 ?_
    refine am_topl (fun v2 ev2 => ?_)
    have h := h v2 ev2
    refine am_lstore_n (l' := [(3, .long v2), (0, .long x0), (2, .int x2), (5, .int x5)]) d_Polys_reversed_29 (by decide) rfl ?_
    obtain ⟨v3, ev3⟩ : ∃ z : Int32, z = x5 + (1 : Int32) := ⟨_, rfl⟩
    have h := h v3 ev3
    refine am_iinc (v := v3) (l' := [(5, .int v3), (3, .long v2), (0, .long x0), (2, .int x2)]) d_Polys_reversed_30 3 rfl (by rw [ev3]; rfl) (by decide) rfl ?_
    refine am_goto (tgt := 10) d_Polys_reversed_33 (by decide) ?_
    refine am_sub [2, 3, 1, 0] rfl ?_
    exact hK10 x0 x2 v2 v3 h
theorem cf_Polys_reversed_L10_ok {g : ayG} {d : Nat} (hd : 3 ≤ d)   (w : Wd)  (P : Int64 → Prop) (Q : Option Value → Wd → Prop) (hQ : ∀ x, P x → Q (some (.long x)) w)  : ∀ (n : Nat) (x0 : Int64) (x2 : Int32) (x3 : Int64) (x5 : Int32) (h : cf_Polys_reversed_L10 P n x0 x2 x3 x5), wp g (fun _ => True) y_Polys_reversed prog_7_method_16_code 6 (some FieldType.long) d 10 [(0, .long x0), (2, .int x2), (3, .long x3), (5, .int x5)] [] w Q
  | 0, x0, x2, x3, x5, h => False.elim h
  | n + 1, x0, x2, x3, x5, h => cf_Polys_reversed_B10_ok hd   w (cf_Polys_reversed_L10 P n) P Q hQ (fun x0 x2 x3 x5 h => cf_Polys_reversed_L10_ok hd   w  P Q hQ  n x0 x2 x3 x5 h) x0 x2 x3 x5 h
theorem cf_Polys_reversed_ok {g : ayG} {d : Nat} (hd : 3 ≤ d) (a0 : Int64)  (w : Wd) (P : Int64 → Prop) (h : cf_Polys_reversed a0 P) : Call g y_Polys_reversed prog_7_method_16_code 6 (some FieldType.long) d [.long a0] w (fun (r : Option Value) (w2 : Wd) => ∃ x, r = some (.long x) ∧ w = w2 ∧ P x) := by
  unfold cf_Polys_reversed at h
  refine am_enter mi_Polys_reversed (Nat.le_of_ble_eq_true rfl) ?_
  have hQ : ∀ x, P x → (fun (r : Option Value) (w2 : Wd) => ∃ x, r = some (.long x) ∧ w = w2 ∧ P x) (some (.long x)) w := fun x h => ⟨x, rfl, rfl, h⟩
  generalize (fun (r : Option Value) (w2 : Wd) => ∃ x, r = some (.long x) ∧ w = w2 ∧ P x) = Q at hQ ⊢
  show wp g (fun _ => True) y_Polys_reversed prog_7_method_16_code 6 (some FieldType.long) d 0 [(0, .long a0)] [] w Q
  refine am_lload_n d_Polys_reversed_0 0 rfl ?_
  refine am_callS (d2 := d - 1) [.long a0] d_Polys_reversed_1 mi_Polys_degree wd_390 wd_391 (by omega) rfl rfl (Nat.le_of_ble_eq_true rfl) ?_
  refine Call.post ?_ (cf_Polys_degree_ok (by omega) a0  w _ h)
  rintro _ _ ⟨r1, rfl, rfl, h⟩
  show wp g (fun _ => True) y_Polys_reversed prog_7_method_16_code 6 (some FieldType.long) d 4 [(0, .long a0)] [.int r1] w Q
  refine am_istore_n (l' := [(2, .int r1), (0, .long a0)]) d_Polys_reversed_4 (by decide) rfl ?_
  refine am_lconst (v := 0) d_Polys_reversed_5 rfl ?_
  refine am_lstore_n (l' := [(3, .long (0 : Int64)), (2, .int r1), (0, .long a0)]) d_Polys_reversed_6 (by decide) rfl ?_
  refine am_iconst (v := 0) d_Polys_reversed_7 rfl ?_
  refine am_istore (l' := [(5, .int (0 : Int32)), (3, .long (0 : Int64)), (2, .int r1), (0, .long a0)]) d_Polys_reversed_8 (by decide) rfl ?_
  refine am_sub [3, 2, 1, 0] rfl ?_
  obtain ⟨n, h⟩ := h
  exact cf_Polys_reversed_L10_ok (by omega)   w  P Q hQ  n a0 r1 (0 : Int64) (0 : Int32) h
theorem d_Polys_derived_0 : decode prog_7_method_17_code 0 = .ok (.lload_n 0, 1) := by decide +kernel
theorem d_Polys_derived_1 : decode prog_7_method_17_code 1 = .ok (.iconst 1, 1) := by decide +kernel
theorem d_Polys_derived_2 : decode prog_7_method_17_code 2 = .ok (.lshr, 1) := by decide +kernel
theorem d_Polys_derived_3 : decode prog_7_method_17_code 3 = .ok (.ldc2_w 21, 3) := by decide +kernel
theorem d_Polys_derived_6 : decode prog_7_method_17_code 6 = .ok (.land, 1) := by decide +kernel
theorem d_Polys_derived_7 : decode prog_7_method_17_code 7 = .ok (.lreturn, 1) := by decide +kernel
def cf_Polys_derived (a0 : Int64) (P : Int64 → Prop) : Prop :=
  P ((lshr a0 (1 : Int32)) &&& (6148914691236517205 : Int64))
theorem cf_Polys_derived_ok {g : ayG} {d : Nat} (hd : 0 ≤ d) (a0 : Int64)  (w : Wd) (P : Int64 → Prop) (h : cf_Polys_derived a0 P) : Call g y_Polys_derived prog_7_method_17_code 2 (some FieldType.long) d [.long a0] w (fun (r : Option Value) (w2 : Wd) => ∃ x, r = some (.long x) ∧ w = w2 ∧ P x) := by
  unfold cf_Polys_derived at h
  refine am_enter mi_Polys_derived (Nat.le_of_ble_eq_true rfl) ?_
  have hQ : ∀ x, P x → (fun (r : Option Value) (w2 : Wd) => ∃ x, r = some (.long x) ∧ w = w2 ∧ P x) (some (.long x)) w := fun x h => ⟨x, rfl, rfl, h⟩
  generalize (fun (r : Option Value) (w2 : Wd) => ∃ x, r = some (.long x) ∧ w = w2 ∧ P x) = Q at hQ ⊢
  show wp g (fun _ => True) y_Polys_derived prog_7_method_17_code 2 (some FieldType.long) d 0 [(0, .long a0)] [] w Q
  refine am_lload_n d_Polys_derived_0 0 rfl ?_
  refine am_iconst (v := 1) d_Polys_derived_1 rfl ?_
  refine am_lshr d_Polys_derived_2 ?_
  refine am_ldc2 (v := 6148914691236517205) d_Polys_derived_3 wd_404 ?_
  refine am_land d_Polys_derived_6 ?_
  exact am_lreturn d_Polys_derived_7 rfl (hQ ((lshr a0 (1 : Int32)) &&& (6148914691236517205 : Int64)) h)
theorem d_Polys_isIrreducible_0 : decode prog_7_method_18_code 0 = .ok (.lload_n 0, 1) := by decide +kernel
theorem d_Polys_isIrreducible_1 : decode prog_7_method_18_code 1 = .ok (.invokestatic 23, 3) := by decide +kernel
theorem d_Polys_isIrreducible_4 : decode prog_7_method_18_code 4 = .ok (.istore_n 2, 1) := by decide +kernel
theorem d_Polys_isIrreducible_5 : decode prog_7_method_18_code 5 = .ok (.iload_n 2, 1) := by decide +kernel
theorem d_Polys_isIrreducible_6 : decode prog_7_method_18_code 6 = .ok (.iconst 2, 1) := by decide +kernel
theorem d_Polys_isIrreducible_7 : decode prog_7_method_18_code 7 = .ok (.if_icmp .ge 14, 3) := by decide +kernel
theorem d_Polys_isIrreducible_10 : decode prog_7_method_18_code 10 = .ok (.iload_n 2, 1) := by decide +kernel
theorem d_Polys_isIrreducible_11 : decode prog_7_method_18_code 11 = .ok (.iconst 1, 1) := by decide +kernel
theorem d_Polys_isIrreducible_12 : decode prog_7_method_18_code 12 = .ok (.if_icmp .ne 7, 3) := by decide +kernel
theorem d_Polys_isIrreducible_15 : decode prog_7_method_18_code 15 = .ok (.iconst 1, 1) := by decide +kernel
theorem d_Polys_isIrreducible_16 : decode prog_7_method_18_code 16 = .ok (.goto 4, 3) := by decide +kernel
theorem d_Polys_isIrreducible_19 : decode prog_7_method_18_code 19 = .ok (.iconst 0, 1) := by decide +kernel
theorem d_Polys_isIrreducible_20 : decode prog_7_method_18_code 20 = .ok (.ireturn, 1) := by decide +kernel
theorem d_Polys_isIrreducible_21 : decode prog_7_method_18_code 21 = .ok (.lload_n 0, 1) := by decide +kernel
theorem d_Polys_isIrreducible_22 : decode prog_7_method_18_code 22 = .ok (.lconst 1, 1) := by decide +kernel
theorem d_Polys_isIrreducible_23 : decode prog_7_method_18_code 23 = .ok (.land, 1) := by decide +kernel
theorem d_Polys_isIrreducible_24 : decode prog_7_method_18_code 24 = .ok (.lconst 0, 1) := by decide +kernel
theorem d_Polys_isIrreducible_25 : decode prog_7_method_18_code 25 = .ok (.lcmp, 1) := by decide +kernel
theorem d_Polys_isIrreducible_26 : decode prog_7_method_18_code 26 = .ok (.ifCond .eq 12, 3) := by decide +kernel
theorem d_Polys_isIrreducible_29 : decode prog_7_method_18_code 29 = .ok (.lload_n 0, 1) := by decide +kernel
theorem d_Polys_isIrreducible_30 : decode prog_7_method_18_code 30 = .ok (.invokestatic 46, 3) := by decide +kernel
theorem d_Polys_isIrreducible_33 : decode prog_7_method_18_code 33 = .ok (.iconst 1, 1) := by decide +kernel
theorem d_Polys_isIrreducible_34 : decode prog_7_method_18_code 34 = .ok (.iand, 1) := by decide +kernel
theorem d_Polys_isIrreducible_35 : decode prog_7_method_18_code 35 = .ok (.ifCond .ne 5, 3) := by decide +kernel
theorem d_Polys_isIrreducible_38 : decode prog_7_method_18_code 38 = .ok (.iconst 0, 1) := by decide +kernel
theorem d_Polys_isIrreducible_39 : decode prog_7_method_18_code 39 = .ok (.ireturn, 1) := by decide +kernel
theorem d_Polys_isIrreducible_40 : decode prog_7_method_18_code 40 = .ok (.ldc2_w 49, 3) := by decide +kernel
theorem d_Polys_isIrreducible_43 : decode prog_7_method_18_code 43 = .ok (.lstore_n 3, 1) := by decide +kernel
theorem d_Polys_isIrreducible_44 : decode prog_7_method_18_code 44 = .ok (.iconst 1, 1) := by decide +kernel
theorem d_Polys_isIrreducible_45 : decode prog_7_method_18_code 45 = .ok (.istore 5, 2) := by decide +kernel
theorem d_Polys_isIrreducible_47 : decode prog_7_method_18_code 47 = .ok (.iconst 2, 1) := by decide +kernel
theorem d_Polys_isIrreducible_48 : decode prog_7_method_18_code 48 = .ok (.iload 5, 2) := by decide +kernel
theorem d_Polys_isIrreducible_50 : decode prog_7_method_18_code 50 = .ok (.imul, 1) := by decide +kernel
theorem d_Polys_isIrreducible_51 : decode prog_7_method_18_code 51 = .ok (.iload_n 2, 1) := by decide +kernel
theorem d_Polys_isIrreducible_52 : decode prog_7_method_18_code 52 = .ok (.if_icmp .gt 31, 3) := by decide +kernel
theorem d_Polys_isIrreducible_55 : decode prog_7_method_18_code 55 = .ok (.lload_n 3, 1) := by decide +kernel
theorem d_Polys_isIrreducible_56 : decode prog_7_method_18_code 56 = .ok (.lload_n 0, 1) := by decide +kernel
theorem d_Polys_isIrreducible_57 : decode prog_7_method_18_code 57 = .ok (.invokestatic 51, 3) := by decide +kernel
theorem d_Polys_isIrreducible_60 : decode prog_7_method_18_code 60 = .ok (.lstore_n 3, 1) := by decide +kernel
theorem d_Polys_isIrreducible_61 : decode prog_7_method_18_code 61 = .ok (.lload_n 0, 1) := by decide +kernel
theorem d_Polys_isIrreducible_62 : decode prog_7_method_18_code 62 = .ok (.lload_n 3, 1) := by decide +kernel
theorem d_Polys_isIrreducible_63 : decode prog_7_method_18_code 63 = .ok (.ldc2_w 49, 3) := by decide +kernel
theorem d_Polys_isIrreducible_66 : decode prog_7_method_18_code 66 = .ok (.lxor, 1) := by decide +kernel
theorem d_Polys_isIrreducible_67 : decode prog_7_method_18_code 67 = .ok (.invokestatic 54, 3) := by decide +kernel
theorem d_Polys_isIrreducible_70 : decode prog_7_method_18_code 70 = .ok (.lconst 1, 1) := by decide +kernel
theorem d_Polys_isIrreducible_71 : decode prog_7_method_18_code 71 = .ok (.lcmp, 1) := by decide +kernel
theorem d_Polys_isIrreducible_72 : decode prog_7_method_18_code 72 = .ok (.ifCond .eq 5, 3) := by decide +kernel
theorem d_Polys_isIrreducible_75 : decode prog_7_method_18_code 75 = .ok (.iconst 0, 1) := by decide +kernel
theorem d_Polys_isIrreducible_76 : decode prog_7_method_18_code 76 = .ok (.ireturn, 1) := by decide +kernel
theorem d_Polys_isIrreducible_77 : decode prog_7_method_18_code 77 = .ok (.iinc 5 1, 3) := by decide +kernel
theorem d_Polys_isIrreducible_80 : decode prog_7_method_18_code 80 = .ok (.goto (-33), 3) := by decide +kernel
theorem d_Polys_isIrreducible_83 : decode prog_7_method_18_code 83 = .ok (.iconst 1, 1) := by decide +kernel
theorem d_Polys_isIrreducible_84 : decode prog_7_method_18_code 84 = .ok (.ireturn, 1) := by decide +kernel
def cf_Polys_isIrreducible_B47  (K47 : Int64 → Int32 → Int64 → Int32 → Prop) (P : Int32 → Prop) (x0 : Int64) (x2 : Int32) (x3 : Int64) (x5 : Int32)  : Prop :=
  ((x2 < ((2 : Int32) * x5) → P (1 : Int32)) ∧ (¬ x2 < ((2 : Int32) * x5) → cf_Polys_squareBy x3 x0 (fun r3 => cf_Polys_gcd x0 (r3 ^^^ (2 : Int64)) (fun r4 => ((r4 = (1 : Int64) → ∀ v5, v5 = x5 + (1 : Int32) → K47 x0 x2 r3 v5) ∧ (¬ r4 = (1 : Int64) → P (0 : Int32)))))))
def cf_Polys_isIrreducible_L47   (P : Int32 → Prop) : Nat → Int64 → Int32 → Int64 → Int32 → Prop
  | 0 => fun x0 x2 x3 x5 => False
  | n + 1 => fun x0 x2 x3 x5 => cf_Polys_isIrreducible_B47 (cf_Polys_isIrreducible_L47 P n) P x0 x2 x3 x5
def cf_Polys_isIrreducible (a0 : Int64) (P : Int32 → Prop) : Prop :=
  cf_Polys_degree a0 (fun r1 => (((2 : Int32) ≤ r1 → (((a0 &&& (1 : Int64)) = (0 : Int64) → P (0 : Int32)) ∧ (¬ (a0 &&& (1 : Int64)) = (0 : Int64) → cf_Long_bitCount a0 (fun r2 => ((¬ (r2 &&& (1 : Int32)) = 0 → ∃ n, cf_Polys_isIrreducible_L47 P n a0 r1 (2 : Int64) (1 : Int32)) ∧ ((r2 &&& (1 : Int32)) = 0 → P (0 : Int32))))))) ∧ (¬ (2 : Int32) ≤ r1 → ((¬ r1 = (1 : Int32) → P (0 : Int32)) ∧ (r1 = (1 : Int32) → P (1 : Int32))))))
theorem cf_Polys_isIrreducible_B47_ok {g : ayG} {d : Nat} (hd : 4 ≤ d)   (w : Wd) (K47 : Int64 → Int32 → Int64 → Int32 → Prop) (P : Int32 → Prop) (Q : Option Value → Wd → Prop) (hQ : ∀ x, P x → Q (some (.int x)) w) (hK47 : ∀ (x0 : Int64) (x2 : Int32) (x3 : Int64) (x5 : Int32), (K47 x0 x2 x3 x5 → wp g (fun _ => True) y_Polys_isIrreducible prog_7_method_18_code 6 (some FieldType.boolean) d 47 [(0, .long x0), (2, .int x2), (3, .long x3), (5, .int x5)] [] w Q)) (x0 : Int64) (x2 : Int32) (x3 : Int64) (x5 : Int32) (h : cf_Polys_isIrreducible_B47 K47 P x0 x2 x3 x5) : wp g (fun _ => True) y_Polys_isIrreducible prog_7_method_18_code 6 (some FieldType.boolean) d 47 [(0, .long x0), (2, .int x2), (3, .long x3), (5, .int x5)] [] w Q := by
  unfold cf_Polys_isIrreducible_B47 at h
  refine am_iconst (v := 2) d_Polys_isIrreducible_47 rfl ?_
  refine am_iload d_Polys_isIrreducible_48 3 rfl ?_
  refine am_imul d_Polys_isIrreducible_50 ?_
  refine am_iload_n d_Polys_isIrreducible_51 1 rfl ?_
  refine am_icmp_gt (tgt := 83) d_Polys_isIrreducible_52 (by decide) (fun c52 => ?_) (fun c52 => ?_)
  · have h := h.1 c52
    refine am_iconst (v := 1) d_Polys_isIrreducible_83 rfl ?_
    exact am_ireturn d_Polys_isIrreducible_84 rfl rfl (hQ (1 : Int32) h)
  · have h := h.2 c52
    refine am_lload_n d_Polys_isIrreducible_55 2 rfl ?_
    refine am_lload_n d_Polys_isIrreducible_56 0 rfl ?_
    refine am_callS (d2 := d - 1) [.long x3, .long x0] d_Polys_isIrreducible_57 mi_Polys_squareBy wd_648 wd_649 (by omega) rfl rfl (Nat.le_of_ble_eq_true rfl) ?_
    refine Call.post ?_ (cf_Polys_squareBy_ok (by omega) x3 x0  w _ h)
    rintro _ _ ⟨r3, rfl, rfl, h⟩
    show wp g (fun _ => True) y_Polys_isIrreducible prog_7_method_18_code 6 (some FieldType.boolean) d 60 [(0, .long x0), (2, .int x2), (3, .long x3), (5, .int x5)] [.long r3] w Q
    refine am_lstore_n (l' := [(3, .long r3), (0, .long x0), (2, .int x2), (5, .int x5)]) d_Polys_isIrreducible_60 (by decide) rfl ?_
    refine am_lload_n d_Polys_isIrreducible_61 1 rfl ?_
    refine am_lload_n d_Polys_isIrreducible_62 0 rfl ?_
    refine am_ldc2 (v := 2) d_Polys_isIrreducible_63 wd_647 ?_
    refine am_lxor d_Polys_isIrreducible_66 ?_
    refine am_callS (d2 := d - 1) [.long x0, .long (r3 ^^^ (2 : Int64))] d_Polys_isIrreducible_67 mi_Polys_gcd wd_651 wd_493 (by omega) rfl rfl (Nat.le_of_ble_eq_true rfl) ?_
    refine Call.post ?_ (cf_Polys_gcd_ok (by omega) x0 (r3 ^^^ (2 : Int64))  w _ h)
    rintro _ _ ⟨r4, rfl, rfl, h⟩
    show wp g (fun _ => True) y_Polys_isIrreducible prog_7_method_18_code 6 (some FieldType.boolean) d 70 [(3, .long r3), (0, .long x0), (2, .int x2), (5, .int x5)] [.long r4] w Q
    refine am_lconst (v := 1) d_Polys_isIrreducible_70 rfl ?_
    refine am_lif_eq (tgt := 77) d_Polys_isIrreducible_71 d_Polys_isIrreducible_72 (by decide) (fun c71 => ?_) (fun c71 => ?_)
    · have h := h.1 c71
      obtain ⟨v5, ev5⟩ : ∃ z : Int32, z = x5 + (1 : Int32) := ⟨_, rfl⟩
      have h := h v5 ev5
      refine am_iinc (v := v5) (l' := [(5, .int v5), (3, .long r3), (0, .long x0), (2, .int x2)]) d_Polys_isIrreducible_77 3 rfl (by rw [ev5]; rfl) (by decide) rfl ?_
      refine am_goto (tgt := 47) d_Polys_isIrreducible_80 (by decide) ?_
      refine am_sub [2, 3, 1, 0] rfl ?_
      exact hK47 x0 x2 r3 v5 h
    · have h := h.2 c71
      refine am_iconst (v := 0) d_Polys_isIrreducible_75 rfl ?_
      exact am_ireturn d_Polys_isIrreducible_76 rfl rfl (hQ (0 : Int32) h)
theorem cf_Polys_isIrreducible_L47_ok {g : ayG} {d : Nat} (hd : 4 ≤ d)   (w : Wd)  (P : Int32 → Prop) (Q : Option Value → Wd → Prop) (hQ : ∀ x, P x → Q (some (.int x)) w)  : ∀ (n : Nat) (x0 : Int64) (x2 : Int32) (x3 : Int64) (x5 : Int32) (h : cf_Polys_isIrreducible_L47 P n x0 x2 x3 x5), wp g (fun _ => True) y_Polys_isIrreducible prog_7_method_18_code 6 (some FieldType.boolean) d 47 [(0, .long x0), (2, .int x2), (3, .long x3), (5, .int x5)] [] w Q
  | 0, x0, x2, x3, x5, h => False.elim h
  | n + 1, x0, x2, x3, x5, h => cf_Polys_isIrreducible_B47_ok hd   w (cf_Polys_isIrreducible_L47 P n) P Q hQ (fun x0 x2 x3 x5 h => cf_Polys_isIrreducible_L47_ok hd   w  P Q hQ  n x0 x2 x3 x5 h) x0 x2 x3 x5 h
theorem cf_Polys_isIrreducible_ok {g : ayG} {d : Nat} (hd : 4 ≤ d) (a0 : Int64)  (w : Wd) (P : Int32 → Prop) (h : cf_Polys_isIrreducible a0 P) : Call g y_Polys_isIrreducible prog_7_method_18_code 6 (some FieldType.boolean) d [.long a0] w (fun (r : Option Value) (w2 : Wd) => ∃ x, r = some (.int x) ∧ w = w2 ∧ P x) := by
  unfold cf_Polys_isIrreducible at h
  refine am_enter mi_Polys_isIrreducible (Nat.le_of_ble_eq_true rfl) ?_
  have hQ : ∀ x, P x → (fun (r : Option Value) (w2 : Wd) => ∃ x, r = some (.int x) ∧ w = w2 ∧ P x) (some (.int x)) w := fun x h => ⟨x, rfl, rfl, h⟩
  generalize (fun (r : Option Value) (w2 : Wd) => ∃ x, r = some (.int x) ∧ w = w2 ∧ P x) = Q at hQ ⊢
  show wp g (fun _ => True) y_Polys_isIrreducible prog_7_method_18_code 6 (some FieldType.boolean) d 0 [(0, .long a0)] [] w Q
  refine am_lload_n d_Polys_isIrreducible_0 0 rfl ?_
  refine am_callS (d2 := d - 1) [.long a0] d_Polys_isIrreducible_1 mi_Polys_degree wd_390 wd_391 (by omega) rfl rfl (Nat.le_of_ble_eq_true rfl) ?_
  refine Call.post ?_ (cf_Polys_degree_ok (by omega) a0  w _ h)
  rintro _ _ ⟨r1, rfl, rfl, h⟩
  show wp g (fun _ => True) y_Polys_isIrreducible prog_7_method_18_code 6 (some FieldType.boolean) d 4 [(0, .long a0)] [.int r1] w Q
  refine am_istore_n (l' := [(2, .int r1), (0, .long a0)]) d_Polys_isIrreducible_4 (by decide) rfl ?_
  refine am_iload_n d_Polys_isIrreducible_5 0 rfl ?_
  refine am_iconst (v := 2) d_Polys_isIrreducible_6 rfl ?_
  refine am_icmp_ge (tgt := 21) d_Polys_isIrreducible_7 (by decide) (fun c7 => ?_) (fun c7 => ?_)
  · have h := h.1 c7
    refine am_lload_n d_Polys_isIrreducible_21 1 rfl ?_
    refine am_lconst (v := 1) d_Polys_isIrreducible_22 rfl ?_
    refine am_land d_Polys_isIrreducible_23 ?_
    refine am_lconst (v := 0) d_Polys_isIrreducible_24 rfl ?_
    refine am_lif_eq (tgt := 38) d_Polys_isIrreducible_25 d_Polys_isIrreducible_26 (by decide) (fun c25 => ?_) (fun c25 => ?_)
    · have h := h.1 c25
      refine am_iconst (v := 0) d_Polys_isIrreducible_38 rfl ?_
      exact am_ireturn d_Polys_isIrreducible_39 rfl rfl (hQ (0 : Int32) h)
    · have h := h.2 c25
      refine am_lload_n d_Polys_isIrreducible_29 1 rfl ?_
      refine am_callS (d2 := d - 1) [.long a0] d_Polys_isIrreducible_30 mi_Long_bitCount wd_646 wd_582 (by omega) rfl rfl (Nat.le_of_ble_eq_true rfl) ?_
      refine Call.post ?_ (cf_Long_bitCount_ok (by omega) a0  w _ h)
      rintro _ _ ⟨r2, rfl, rfl, h⟩
      show wp g (fun _ => True) y_Polys_isIrreducible prog_7_method_18_code 6 (some FieldType.boolean) d 33 [(2, .int r1), (0, .long a0)] [.int r2] w Q
      refine am_iconst (v := 1) d_Polys_isIrreducible_33 rfl ?_
      refine am_iand d_Polys_isIrreducible_34 ?_
      refine am_if_ne (tgt := 40) d_Polys_isIrreducible_35 (by decide) (fun c35 => ?_) (fun c35 => ?_)
      · have h := h.1 c35
        refine am_ldc2 (v := 2) d_Polys_isIrreducible_40 wd_647 ?_
        refine am_lstore_n (l' := [(3, .long (2 : Int64)), (2, .int r1), (0, .long a0)]) d_Polys_isIrreducible_43 (by decide) rfl ?_
        refine am_iconst (v := 1) d_Polys_isIrreducible_44 rfl ?_
        refine am_istore (l' := [(5, .int (1 : Int32)), (3, .long (2 : Int64)), (2, .int r1), (0, .long a0)]) d_Polys_isIrreducible_45 (by decide) rfl ?_
        refine am_sub [3, 2, 1, 0] rfl ?_
        obtain ⟨n, h⟩ := h
        exact cf_Polys_isIrreducible_L47_ok (by omega)   w  P Q hQ  n a0 r1 (2 : Int64) (1 : Int32) h
      · have h := h.2 c35
        refine am_iconst (v := 0) d_Polys_isIrreducible_38 rfl ?_
        exact am_ireturn d_Polys_isIrreducible_39 rfl rfl (hQ (0 : Int32) h)
  · have h := h.2 c7
    refine am_iload_n d_Polys_isIrreducible_10 0 rfl ?_
    refine am_iconst (v := 1) d_Polys_isIrreducible_11 rfl ?_
    refine am_icmp_ne (tgt := 19) d_Polys_isIrreducible_12 (by decide) (fun c12 => ?_) (fun c12 => ?_)
    · have h := h.1 c12
      refine am_iconst (v := 0) d_Polys_isIrreducible_19 rfl ?_
      exact am_ireturn d_Polys_isIrreducible_20 rfl rfl (hQ (0 : Int32) h)
    · have h := h.2 c12
      refine am_iconst (v := 1) d_Polys_isIrreducible_15 rfl ?_
      refine am_goto (tgt := 20) d_Polys_isIrreducible_16 (by decide) ?_
      exact am_ireturn d_Polys_isIrreducible_20 rfl rfl (hQ (1 : Int32) h)
