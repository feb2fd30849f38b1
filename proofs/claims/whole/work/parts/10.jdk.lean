-- bytecode as predicates, by program (wip/whole/gen/extract.py)
theorem mi_Integer_numberOfLeadingZeros : ay_MI y_Integer_numberOfLeadingZeros prog_15_method_47_code 2 (some FieldType.int) 1 := ⟨wd_398, wd_19, by decide +kernel, by decide +kernel, by decide⟩
theorem mi_Integer_numberOfTrailingZeros : ay_MI y_Integer_numberOfTrailingZeros prog_15_method_48_code 2 (some FieldType.int) 1 := ⟨wd_952, wd_19, by decide +kernel, by decide +kernel, by decide⟩
theorem mi_Long_bitCount : ay_MI y_Long_bitCount prog_16_method_50_code 2 (some FieldType.int) 1 := ⟨wd_583, wd_18, by decide +kernel, by decide +kernel, by decide⟩
theorem mi_Long_numberOfLeadingZeros : ay_MI y_Long_numberOfLeadingZeros prog_16_method_48_code 3 (some FieldType.int) 1 := ⟨wd_395, wd_18, by decide +kernel, by decide +kernel, by decide⟩
theorem mi_Long_numberOfTrailingZeros : ay_MI y_Long_numberOfTrailingZeros prog_16_method_49_code 3 (some FieldType.int) 1 := ⟨wd_949, wd_18, by decide +kernel, by decide +kernel, by decide⟩
theorem d_Integer_numberOfLeadingZeros_0 : decode prog_15_method_47_code 0 = .ok (.iload_n 0, 1) := by decide +kernel
theorem d_Integer_numberOfLeadingZeros_1 : decode prog_15_method_47_code 1 = .ok (.ifCond .gt 14, 3) := by decide +kernel
theorem d_Integer_numberOfLeadingZeros_4 : decode prog_15_method_47_code 4 = .ok (.iload_n 0, 1) := by decide +kernel
theorem d_Integer_numberOfLeadingZeros_5 : decode prog_15_method_47_code 5 = .ok (.ifCond .ne 8, 3) := by decide +kernel
theorem d_Integer_numberOfLeadingZeros_8 : decode prog_15_method_47_code 8 = .ok (.bipush 32, 2) := by decide +kernel
theorem d_Integer_numberOfLeadingZeros_10 : decode prog_15_method_47_code 10 = .ok (.goto 4, 3) := by decide +kernel
theorem d_Integer_numberOfLeadingZeros_13 : decode prog_15_method_47_code 13 = .ok (.iconst 0, 1) := by decide +kernel
theorem d_Integer_numberOfLeadingZeros_14 : decode prog_15_method_47_code 14 = .ok (.ireturn, 1) := by decide +kernel
theorem d_Integer_numberOfLeadingZeros_15 : decode prog_15_method_47_code 15 = .ok (.bipush 31, 2) := by decide +kernel
theorem d_Integer_numberOfLeadingZeros_17 : decode prog_15_method_47_code 17 = .ok (.istore_n 1, 1) := by decide +kernel
theorem d_Integer_numberOfLeadingZeros_18 : decode prog_15_method_47_code 18 = .ok (.iload_n 0, 1) := by decide +kernel
theorem d_Integer_numberOfLeadingZeros_19 : decode prog_15_method_47_code 19 = .ok (.ldc_w 264, 3) := by decide +kernel
theorem d_Integer_numberOfLeadingZeros_22 : decode prog_15_method_47_code 22 = .ok (.if_icmp .lt 11, 3) := by decide +kernel
theorem d_Integer_numberOfLeadingZeros_25 : decode prog_15_method_47_code 25 = .ok (.iinc 1 (-16), 3) := by decide +kernel
theorem d_Integer_numberOfLeadingZeros_28 : decode prog_15_method_47_code 28 = .ok (.iload_n 0, 1) := by decide +kernel
theorem d_Integer_numberOfLeadingZeros_29 : decode prog_15_method_47_code 29 = .ok (.bipush 16, 2) := by decide +kernel
theorem d_Integer_numberOfLeadingZeros_31 : decode prog_15_method_47_code 31 = .ok (.iushr, 1) := by decide +kernel
theorem d_Integer_numberOfLeadingZeros_32 : decode prog_15_method_47_code 32 = .ok (.istore_n 0, 1) := by decide +kernel
theorem d_Integer_numberOfLeadingZeros_33 : decode prog_15_method_47_code 33 = .ok (.iload_n 0, 1) := by decide +kernel
theorem d_Integer_numberOfLeadingZeros_34 : decode prog_15_method_47_code 34 = .ok (.sipush 256, 3) := by decide +kernel
theorem d_Integer_numberOfLeadingZeros_37 : decode prog_15_method_47_code 37 = .ok (.if_icmp .lt 11, 3) := by decide +kernel
theorem d_Integer_numberOfLeadingZeros_40 : decode prog_15_method_47_code 40 = .ok (.iinc 1 (-8), 3) := by decide +kernel
theorem d_Integer_numberOfLeadingZeros_43 : decode prog_15_method_47_code 43 = .ok (.iload_n 0, 1) := by decide +kernel
theorem d_Integer_numberOfLeadingZeros_44 : decode prog_15_method_47_code 44 = .ok (.bipush 8, 2) := by decide +kernel
theorem d_Integer_numberOfLeadingZeros_46 : decode prog_15_method_47_code 46 = .ok (.iushr, 1) := by decide +kernel
theorem d_Integer_numberOfLeadingZeros_47 : decode prog_15_method_47_code 47 = .ok (.istore_n 0, 1) := by decide +kernel
theorem d_Integer_numberOfLeadingZeros_48 : decode prog_15_method_47_code 48 = .ok (.iload_n 0, 1) := by decide +kernel
theorem d_Integer_numberOfLeadingZeros_49 : decode prog_15_method_47_code 49 = .ok (.bipush 16, 2) := by decide +kernel
theorem d_Integer_numberOfLeadingZeros_51 : decode prog_15_method_47_code 51 = .ok (.if_icmp .lt 10, 3) := by decide +kernel
theorem d_Integer_numberOfLeadingZeros_54 : decode prog_15_method_47_code 54 = .ok (.iinc 1 (-4), 3) := by decide +kernel
theorem d_Integer_numberOfLeadingZeros_57 : decode prog_15_method_47_code 57 = .ok (.iload_n 0, 1) := by decide +kernel
theorem d_Integer_numberOfLeadingZeros_58 : decode prog_15_method_47_code 58 = .ok (.iconst 4, 1) := by decide +kernel
theorem d_Integer_numberOfLeadingZeros_59 : decode prog_15_method_47_code 59 = .ok (.iushr, 1) := by decide +kernel
theorem d_Integer_numberOfLeadingZeros_60 : decode prog_15_method_47_code 60 = .ok (.istore_n 0, 1) := by decide +kernel
theorem d_Integer_numberOfLeadingZeros_61 : decode prog_15_method_47_code 61 = .ok (.iload_n 0, 1) := by decide +kernel
theorem d_Integer_numberOfLeadingZeros_62 : decode prog_15_method_47_code 62 = .ok (.iconst 4, 1) := by decide +kernel
theorem d_Integer_numberOfLeadingZeros_63 : decode prog_15_method_47_code 63 = .ok (.if_icmp .lt 10, 3) := by decide +kernel
theorem d_Integer_numberOfLeadingZeros_66 : decode prog_15_method_47_code 66 = .ok (.iinc 1 (-2), 3) := by decide +kernel
theorem d_Integer_numberOfLeadingZeros_69 : decode prog_15_method_47_code 69 = .ok (.iload_n 0, 1) := by decide +kernel
theorem d_Integer_numberOfLeadingZeros_70 : decode prog_15_method_47_code 70 = .ok (.iconst 2, 1) := by decide +kernel
theorem d_Integer_numberOfLeadingZeros_71 : decode prog_15_method_47_code 71 = .ok (.iushr, 1) := by decide +kernel
theorem d_Integer_numberOfLeadingZeros_72 : decode prog_15_method_47_code 72 = .ok (.istore_n 0, 1) := by decide +kernel
theorem d_Integer_numberOfLeadingZeros_73 : decode prog_15_method_47_code 73 = .ok (.iload_n 1, 1) := by decide +kernel
theorem d_Integer_numberOfLeadingZeros_74 : decode prog_15_method_47_code 74 = .ok (.iload_n 0, 1) := by decide +kernel
theorem d_Integer_numberOfLeadingZeros_75 : decode prog_15_method_47_code 75 = .ok (.iconst 1, 1) := by decide +kernel
theorem d_Integer_numberOfLeadingZeros_76 : decode prog_15_method_47_code 76 = .ok (.iushr, 1) := by decide +kernel
theorem d_Integer_numberOfLeadingZeros_77 : decode prog_15_method_47_code 77 = .ok (.isub, 1) := by decide +kernel
theorem d_Integer_numberOfLeadingZeros_78 : decode prog_15_method_47_code 78 = .ok (.ireturn, 1) := by decide +kernel
def cf_Integer_numberOfLeadingZeros_B61   (P : Int32 → Prop) (x0 : Int32) (x1 : Int32)  : Prop :=
  ((x0 < (4 : Int32) → P (x1 - (iushr x0 (1 : Int32)))) ∧ (¬ x0 < (4 : Int32) → ∀ v1, v1 = x1 + (-2 : Int32) → ∀ v2, v2 = iushr x0 (2 : Int32) → P (v1 - (iushr v2 (1 : Int32)))))
def cf_Integer_numberOfLeadingZeros_B33   (P : Int32 → Prop) (x0 : Int32) (x1 : Int32)  : Prop :=
  ((x0 < (256 : Int32) → ((x0 < (16 : Int32) → cf_Integer_numberOfLeadingZeros_B61 P x0 x1) ∧ (¬ x0 < (16 : Int32) → ∀ v3, v3 = x1 + (-4 : Int32) → ∀ v4, v4 = iushr x0 (4 : Int32) → cf_Integer_numberOfLeadingZeros_B61 P v4 v3))) ∧ (¬ x0 < (256 : Int32) → ∀ v5, v5 = x1 + (-8 : Int32) → ∀ v6, v6 = iushr x0 (8 : Int32) → ((v6 < (16 : Int32) → cf_Integer_numberOfLeadingZeros_B61 P v6 v5) ∧ (¬ v6 < (16 : Int32) → ∀ v7, v7 = v5 + (-4 : Int32) → ∀ v8, v8 = iushr v6 (4 : Int32) → cf_Integer_numberOfLeadingZeros_B61 P v8 v7))))
def cf_Integer_numberOfLeadingZeros (a0 : Int32) (P : Int32 → Prop) : Prop :=
  ((0 < a0 → ((a0 < (65536 : Int32) → cf_Integer_numberOfLeadingZeros_B33 P a0 (31 : Int32)) ∧ (¬ a0 < (65536 : Int32) → ∀ v9, v9 = (31 : Int32) + (-16 : Int32) → ∀ v10, v10 = iushr a0 (16 : Int32) → cf_Integer_numberOfLeadingZeros_B33 P v10 v9))) ∧ (¬ 0 < a0 → ((¬ a0 = 0 → P (0 : Int32)) ∧ (a0 = 0 → P (32 : Int32)))))
theorem cf_Integer_numberOfLeadingZeros_B61_ok {g : ayG} {d : Nat} (hd : 0 ≤ d)   (w : Wd)  (P : Int32 → Prop) (Q : Option Value → Wd → Prop) (hQ : ∀ x, P x → Q (some (.int x)) w)  (x0 : Int32) (x1 : Int32) (h : cf_Integer_numberOfLeadingZeros_B61 P x0 x1) : wp g (fun _ => True) y_Integer_numberOfLeadingZeros prog_15_method_47_code 2 (some FieldType.int) d 61 [(0, .int x0), (1, .int x1)] [] w Q := by
  unfold cf_Integer_numberOfLeadingZeros_B61 at h
  refine am_iload_n d_Integer_numberOfLeadingZeros_61 0 rfl ?_
  refine am_iconst (v := 4) d_Integer_numberOfLeadingZeros_62 rfl ?_
  refine am_icmp_lt (tgt := 73) d_Integer_numberOfLeadingZeros_63 (by decide) (fun c63 => ?_) (fun c63 => ?_)
  · have h := h.1 c63
    refine am_iload_n d_Integer_numberOfLeadingZeros_73 1 rfl ?_
    refine am_iload_n d_Integer_numberOfLeadingZeros_74 0 rfl ?_
    refine am_iconst (v := 1) d_Integer_numberOfLeadingZeros_75 rfl ?_
    refine am_iushr d_Integer_numberOfLeadingZeros_76 ?_
    refine am_isub d_Integer_numberOfLeadingZeros_77 ?_
    exact am_ireturn d_Integer_numberOfLeadingZeros_78 rfl rfl (hQ (x1 - (iushr x0 (1 : Int32))) h)
  · have h := h.2 c63
    obtain ⟨v1, ev1⟩ : ∃ z : Int32, z = x1 + (-2 : Int32) := ⟨_, rfl⟩
    have h := h v1 ev1
    refine am_iinc (v := v1) (l' := [(1, .int v1), (0, .int x0)]) d_Integer_numberOfLeadingZeros_66 1 rfl (by rw [ev1]; rfl) (by decide) rfl ?_
    refine am_iload_n d_Integer_numberOfLeadingZeros_69 1 rfl ?_
    refine am_iconst (v := 2) d_Integer_numberOfLeadingZeros_70 rfl ?_
    refine am_iushr d_Integer_numberOfLeadingZeros_71 ?_
    refine am_topi (fun v2 ev2 => ?_)
    have h := h v2 ev2
    refine am_istore_n (l' := [(0, .int v2), (1, .int v1)]) d_Integer_numberOfLeadingZeros_72 (by decide) rfl ?_
    refine am_iload_n d_Integer_numberOfLeadingZeros_73 1 rfl ?_
    refine am_iload_n d_Integer_numberOfLeadingZeros_74 0 rfl ?_
    refine am_iconst (v := 1) d_Integer_numberOfLeadingZeros_75 rfl ?_
    refine am_iushr d_Integer_numberOfLeadingZeros_76 ?_
    refine am_isub d_Integer_numberOfLeadingZeros_77 ?_
    exact am_ireturn d_Integer_numberOfLeadingZeros_78 rfl rfl (hQ (v1 - (iushr v2 (1 : Int32))) h)
theorem cf_Integer_numberOfLeadingZeros_B33_ok {g : ayG} {d : Nat} (hd : 0 ≤ d)   (w : Wd)  (P : Int32 → Prop) (Q : Option Value → Wd → Prop) (hQ : ∀ x, P x → Q (some (.int x)) w)  (x0 : Int32) (x1 : Int32) (h : cf_Integer_numberOfLeadingZeros_B33 P x0 x1) : wp g (fun _ => True) y_Integer_numberOfLeadingZeros prog_15_method_47_code 2 (some FieldType.int) d 33 [(0, .int x0), (1, .int x1)] [] w Q := by
  unfold cf_Integer_numberOfLeadingZeros_B33 at h
  refine am_iload_n d_Integer_numberOfLeadingZeros_33 0 rfl ?_
  refine am_sipush (v := 256) d_Integer_numberOfLeadingZeros_34 rfl ?_
  refine am_icmp_lt (tgt := 48) d_Integer_numberOfLeadingZeros_37 (by decide) (fun c37 => ?_) (fun c37 => ?_)
  · have h := h.1 c37
    refine am_iload_n d_Integer_numberOfLeadingZeros_48 0 rfl ?_
    refine am_bipush (v := 16) d_Integer_numberOfLeadingZeros_49 rfl ?_
    refine am_icmp_lt (tgt := 61) d_Integer_numberOfLeadingZeros_51 (by decide) (fun c51 => ?_) (fun c51 => ?_)
    · have h := h.1 c51
      refine am_sub [0, 1] rfl ?_
      exact cf_Integer_numberOfLeadingZeros_B61_ok (by omega)   w  P Q hQ  x0 x1 h
    · have h := h.2 c51
      obtain ⟨v3, ev3⟩ : ∃ z : Int32, z = x1 + (-4 : Int32) := ⟨_, rfl⟩
      have h := h v3 ev3
      refine am_iinc (v := v3) (l' := [(1, .int v3), (0, .int x0)]) d_Integer_numberOfLeadingZeros_54 1 rfl (by rw [ev3]; rfl) (by decide) rfl ?_
      refine am_iload_n d_Integer_numberOfLeadingZeros_57 1 rfl ?_
      refine am_iconst (v := 4) d_Integer_numberOfLeadingZeros_58 rfl ?_
      refine am_iushr d_Integer_numberOfLeadingZeros_59 ?_
      refine am_topi (fun v4 ev4 => ?_)
      have h := h v4 ev4
      refine am_istore_n (l' := [(0, .int v4), (1, .int v3)]) d_Integer_numberOfLeadingZeros_60 (by decide) rfl ?_
      refine am_sub [0, 1] rfl ?_
      exact cf_Integer_numberOfLeadingZeros_B61_ok (by omega)   w  P Q hQ  v4 v3 h
  · have h := h.2 c37
    obtain ⟨v5, ev5⟩ : ∃ z : Int32, z = x1 + (-8 : Int32) := ⟨_, rfl⟩
    have h := h v5 ev5
    refine am_iinc (v := v5) (l' := [(1, .int v5), (0, .int x0)]) d_Integer_numberOfLeadingZeros_40 1 rfl (by rw [ev5]; rfl) (by decide) rfl ?_
    refine am_iload_n d_Integer_numberOfLeadingZeros_43 1 rfl ?_
    refine am_bipush (v := 8) d_Integer_numberOfLeadingZeros_44 rfl ?_
    refine am_iushr d_Integer_numberOfLeadingZeros_46 ?_
    refine am_topi (fun v6 ev6 => ?_)
    have h := h v6 ev6
    refine am_istore_n (l' := [(0, .int v6), (1, .int v5)]) d_Integer_numberOfLeadingZeros_47 (by decide) rfl ?_
    refine am_iload_n d_Integer_numberOfLeadingZeros_48 0 rfl ?_
    refine am_bipush (v := 16) d_Integer_numberOfLeadingZeros_49 rfl ?_
    refine am_icmp_lt (tgt := 61) d_Integer_numberOfLeadingZeros_51 (by decide) (fun c51 => ?_) (fun c51 => ?_)
    · have h := h.1 c51
      refine am_sub [0, 1] rfl ?_
      exact cf_Integer_numberOfLeadingZeros_B61_ok (by omega)   w  P Q hQ  v6 v5 h
    · have h := h.2 c51
      obtain ⟨v7, ev7⟩ : ∃ z : Int32, z = v5 + (-4 : Int32) := ⟨_, rfl⟩
      have h := h v7 ev7
      refine am_iinc (v := v7) (l' := [(1, .int v7), (0, .int v6)]) d_Integer_numberOfLeadingZeros_54 1 rfl (by rw [ev7]; rfl) (by decide) rfl ?_
      refine am_iload_n d_Integer_numberOfLeadingZeros_57 1 rfl ?_
      refine am_iconst (v := 4) d_Integer_numberOfLeadingZeros_58 rfl ?_
      refine am_iushr d_Integer_numberOfLeadingZeros_59 ?_
      refine am_topi (fun v8 ev8 => ?_)
      have h := h v8 ev8
      refine am_istore_n (l' := [(0, .int v8), (1, .int v7)]) d_Integer_numberOfLeadingZeros_60 (by decide) rfl ?_
      refine am_sub [0, 1] rfl ?_
      exact cf_Integer_numberOfLeadingZeros_B61_ok (by omega)   w  P Q hQ  v8 v7 h
theorem cf_Integer_numberOfLeadingZeros_ok {g : ayG} {d : Nat} (hd : 0 ≤ d) (a0 : Int32)  (w : Wd) (P : Int32 → Prop) (h : cf_Integer_numberOfLeadingZeros a0 P) : Call g y_Integer_numberOfLeadingZeros prog_15_method_47_code 2 (some FieldType.int) d [.int a0] w (fun (r : Option Value) (w2 : Wd) => ∃ x, r = some (.int x) ∧ w = w2 ∧ P x) := by
  unfold cf_Integer_numberOfLeadingZeros at h
  refine am_enter mi_Integer_numberOfLeadingZeros (Nat.le_of_ble_eq_true rfl) ?_
  have hQ : ∀ x, P x → (fun (r : Option Value) (w2 : Wd) => ∃ x, r = some (.int x) ∧ w = w2 ∧ P x) (some (.int x)) w := fun x h => ⟨x, rfl, rfl, h⟩
  generalize (fun (r : Option Value) (w2 : Wd) => ∃ x, r = some (.int x) ∧ w = w2 ∧ P x) = Q at hQ ⊢
  show wp g (fun _ => True) y_Integer_numberOfLeadingZeros prog_15_method_47_code 2 (some FieldType.int) d 0 [(0, .int a0)] [] w Q
  refine am_iload_n d_Integer_numberOfLeadingZeros_0 0 rfl ?_
  refine am_if_gt (tgt := 15) d_Integer_numberOfLeadingZeros_1 (by decide) (fun c1 => ?_) (fun c1 => ?_)
  · have h := h.1 c1
    refine am_bipush (v := 31) d_Integer_numberOfLeadingZeros_15 rfl ?_
    refine am_istore_n (l' := [(1, .int (31 : Int32)), (0, .int a0)]) d_Integer_numberOfLeadingZeros_17 (by decide) rfl ?_
    refine am_iload_n d_Integer_numberOfLeadingZeros_18 1 rfl ?_
    refine am_ldcw (v := 65536) d_Integer_numberOfLeadingZeros_19 wd_399 ?_
    refine am_icmp_lt (tgt := 33) d_Integer_numberOfLeadingZeros_22 (by decide) (fun c22 => ?_) (fun c22 => ?_)
    · have h := h.1 c22
      refine am_sub [1, 0] rfl ?_
      exact cf_Integer_numberOfLeadingZeros_B33_ok (by omega)   w  P Q hQ  a0 (31 : Int32) h
    · have h := h.2 c22
      obtain ⟨v9, ev9⟩ : ∃ z : Int32, z = (31 : Int32) + (-16 : Int32) := ⟨_, rfl⟩
      have h := h v9 ev9
      refine am_iinc (v := v9) (l' := [(1, .int v9), (0, .int a0)]) d_Integer_numberOfLeadingZeros_25 0 rfl (by rw [ev9]; rfl) (by decide) rfl ?_
      refine am_iload_n d_Integer_numberOfLeadingZeros_28 1 rfl ?_
      refine am_bipush (v := 16) d_Integer_numberOfLeadingZeros_29 rfl ?_
      refine am_iushr d_Integer_numberOfLeadingZeros_31 ?_
      refine am_topi (fun v10 ev10 => ?_)
      have h := h v10 ev10
      refine am_istore_n (l' := [(0, .int v10), (1, .int v9)]) d_Integer_numberOfLeadingZeros_32 (by decide) rfl ?_
      refine am_sub [0, 1] rfl ?_
      exact cf_Integer_numberOfLeadingZeros_B33_ok (by omega)   w  P Q hQ  v10 v9 h
  · have h := h.2 c1
    refine am_iload_n d_Integer_numberOfLeadingZeros_4 0 rfl ?_
    refine am_if_ne (tgt := 13) d_Integer_numberOfLeadingZeros_5 (by decide) (fun c5 => ?_) (fun c5 => ?_)
    · have h := h.1 c5
      refine am_iconst (v := 0) d_Integer_numberOfLeadingZeros_13 rfl ?_
      exact am_ireturn d_Integer_numberOfLeadingZeros_14 rfl rfl (hQ (0 : Int32) h)
    · have h := h.2 c5
      refine am_bipush (v := 32) d_Integer_numberOfLeadingZeros_8 rfl ?_
      refine am_goto (tgt := 14) d_Integer_numberOfLeadingZeros_10 (by decide) ?_
      exact am_ireturn d_Integer_numberOfLeadingZeros_14 rfl rfl (hQ (32 : Int32) h)
theorem d_Integer_numberOfTrailingZeros_0 : decode prog_15_method_48_code 0 = .ok (.iload_n 0, 1) := by decide +kernel
theorem d_Integer_numberOfTrailingZeros_1 : decode prog_15_method_48_code 1 = .ok (.iconst (-1), 1) := by decide +kernel
theorem d_Integer_numberOfTrailingZeros_2 : decode prog_15_method_48_code 2 = .ok (.ixor, 1) := by decide +kernel
theorem d_Integer_numberOfTrailingZeros_3 : decode prog_15_method_48_code 3 = .ok (.iload_n 0, 1) := by decide +kernel
theorem d_Integer_numberOfTrailingZeros_4 : decode prog_15_method_48_code 4 = .ok (.iconst 1, 1) := by decide +kernel
theorem d_Integer_numberOfTrailingZeros_5 : decode prog_15_method_48_code 5 = .ok (.isub, 1) := by decide +kernel
theorem d_Integer_numberOfTrailingZeros_6 : decode prog_15_method_48_code 6 = .ok (.iand, 1) := by decide +kernel
theorem d_Integer_numberOfTrailingZeros_7 : decode prog_15_method_48_code 7 = .ok (.istore_n 0, 1) := by decide +kernel
theorem d_Integer_numberOfTrailingZeros_8 : decode prog_15_method_48_code 8 = .ok (.iload_n 0, 1) := by decide +kernel
theorem d_Integer_numberOfTrailingZeros_9 : decode prog_15_method_48_code 9 = .ok (.ifCond .gt 8, 3) := by decide +kernel
theorem d_Integer_numberOfTrailingZeros_12 : decode prog_15_method_48_code 12 = .ok (.iload_n 0, 1) := by decide +kernel
theorem d_Integer_numberOfTrailingZeros_13 : decode prog_15_method_48_code 13 = .ok (.bipush 32, 2) := by decide +kernel
theorem d_Integer_numberOfTrailingZeros_15 : decode prog_15_method_48_code 15 = .ok (.iand, 1) := by decide +kernel
theorem d_Integer_numberOfTrailingZeros_16 : decode prog_15_method_48_code 16 = .ok (.ireturn, 1) := by decide +kernel
theorem d_Integer_numberOfTrailingZeros_17 : decode prog_15_method_48_code 17 = .ok (.iconst 1, 1) := by decide +kernel
theorem d_Integer_numberOfTrailingZeros_18 : decode prog_15_method_48_code 18 = .ok (.istore_n 1, 1) := by decide +kernel
theorem d_Integer_numberOfTrailingZeros_19 : decode prog_15_method_48_code 19 = .ok (.iload_n 0, 1) := by decide +kernel
theorem d_Integer_numberOfTrailingZeros_20 : decode prog_15_method_48_code 20 = .ok (.ldc_w 264, 3) := by decide +kernel
theorem d_Integer_numberOfTrailingZeros_23 : decode prog_15_method_48_code 23 = .ok (.if_icmp .le 11, 3) := by decide +kernel
theorem d_Integer_numberOfTrailingZeros_26 : decode prog_15_method_48_code 26 = .ok (.iinc 1 16, 3) := by decide +kernel
theorem d_Integer_numberOfTrailingZeros_29 : decode prog_15_method_48_code 29 = .ok (.iload_n 0, 1) := by decide +kernel
theorem d_Integer_numberOfTrailingZeros_30 : decode prog_15_method_48_code 30 = .ok (.bipush 16, 2) := by decide +kernel
theorem d_Integer_numberOfTrailingZeros_32 : decode prog_15_method_48_code 32 = .ok (.iushr, 1) := by decide +kernel
theorem d_Integer_numberOfTrailingZeros_33 : decode prog_15_method_48_code 33 = .ok (.istore_n 0, 1) := by decide +kernel
theorem d_Integer_numberOfTrailingZeros_34 : decode prog_15_method_48_code 34 = .ok (.iload_n 0, 1) := by decide +kernel
theorem d_Integer_numberOfTrailingZeros_35 : decode prog_15_method_48_code 35 = .ok (.sipush 256, 3) := by decide +kernel
theorem d_Integer_numberOfTrailingZeros_38 : decode prog_15_method_48_code 38 = .ok (.if_icmp .le 11, 3) := by decide +kernel
theorem d_Integer_numberOfTrailingZeros_41 : decode prog_15_method_48_code 41 = .ok (.iinc 1 8, 3) := by decide +kernel
theorem d_Integer_numberOfTrailingZeros_44 : decode prog_15_method_48_code 44 = .ok (.iload_n 0, 1) := by decide +kernel
theorem d_Integer_numberOfTrailingZeros_45 : decode prog_15_method_48_code 45 = .ok (.bipush 8, 2) := by decide +kernel
theorem d_Integer_numberOfTrailingZeros_47 : decode prog_15_method_48_code 47 = .ok (.iushr, 1) := by decide +kernel
theorem d_Integer_numberOfTrailingZeros_48 : decode prog_15_method_48_code 48 = .ok (.istore_n 0, 1) := by decide +kernel
theorem d_Integer_numberOfTrailingZeros_49 : decode prog_15_method_48_code 49 = .ok (.iload_n 0, 1) := by decide +kernel
theorem d_Integer_numberOfTrailingZeros_50 : decode prog_15_method_48_code 50 = .ok (.bipush 16, 2) := by decide +kernel
theorem d_Integer_numberOfTrailingZeros_52 : decode prog_15_method_48_code 52 = .ok (.if_icmp .le 10, 3) := by decide +kernel
theorem d_Integer_numberOfTrailingZeros_55 : decode prog_15_method_48_code 55 = .ok (.iinc 1 4, 3) := by decide +kernel
theorem d_Integer_numberOfTrailingZeros_58 : decode prog_15_method_48_code 58 = .ok (.iload_n 0, 1) := by decide +kernel
theorem d_Integer_numberOfTrailingZeros_59 : decode prog_15_method_48_code 59 = .ok (.iconst 4, 1) := by decide +kernel
theorem d_Integer_numberOfTrailingZeros_60 : decode prog_15_method_48_code 60 = .ok (.iushr, 1) := by decide +kernel
theorem d_Integer_numberOfTrailingZeros_61 : decode prog_15_method_48_code 61 = .ok (.istore_n 0, 1) := by decide +kernel
theorem d_Integer_numberOfTrailingZeros_62 : decode prog_15_method_48_code 62 = .ok (.iload_n 0, 1) := by decide +kernel
theorem d_Integer_numberOfTrailingZeros_63 : decode prog_15_method_48_code 63 = .ok (.iconst 4, 1) := by decide +kernel
theorem d_Integer_numberOfTrailingZeros_64 : decode prog_15_method_48_code 64 = .ok (.if_icmp .le 10, 3) := by decide +kernel
theorem d_Integer_numberOfTrailingZeros_67 : decode prog_15_method_48_code 67 = .ok (.iinc 1 2, 3) := by decide +kernel
theorem d_Integer_numberOfTrailingZeros_70 : decode prog_15_method_48_code 70 = .ok (.iload_n 0, 1) := by decide +kernel
theorem d_Integer_numberOfTrailingZeros_71 : decode prog_15_method_48_code 71 = .ok (.iconst 2, 1) := by decide +kernel
theorem d_Integer_numberOfTrailingZeros_72 : decode prog_15_method_48_code 72 = .ok (.iushr, 1) := by decide +kernel
theorem d_Integer_numberOfTrailingZeros_73 : decode prog_15_method_48_code 73 = .ok (.istore_n 0, 1) := by decide +kernel
theorem d_Integer_numberOfTrailingZeros_74 : decode prog_15_method_48_code 74 = .ok (.iload_n 1, 1) := by decide +kernel
theorem d_Integer_numberOfTrailingZeros_75 : decode prog_15_method_48_code 75 = .ok (.iload_n 0, 1) := by decide +kernel
theorem d_Integer_numberOfTrailingZeros_76 : decode prog_15_method_48_code 76 = .ok (.iconst 1, 1) := by decide +kernel
theorem d_Integer_numberOfTrailingZeros_77 : decode prog_15_method_48_code 77 = .ok (.iushr, 1) := by decide +kernel
theorem d_Integer_numberOfTrailingZeros_78 : decode prog_15_method_48_code 78 = .ok (.iadd, 1) := by decide +kernel
theorem d_Integer_numberOfTrailingZeros_79 : decode prog_15_method_48_code 79 = .ok (.ireturn, 1) := by decide +kernel
def cf_Integer_numberOfTrailingZeros_B62   (P : Int32 → Prop) (x0 : Int32) (x1 : Int32)  : Prop :=
  ((x0 ≤ (4 : Int32) → P (x1 + (iushr x0 (1 : Int32)))) ∧ (¬ x0 ≤ (4 : Int32) → ∀ v2, v2 = x1 + (2 : Int32) → ∀ v3, v3 = iushr x0 (2 : Int32) → P (v2 + (iushr v3 (1 : Int32)))))
def cf_Integer_numberOfTrailingZeros_B34   (P : Int32 → Prop) (x0 : Int32) (x1 : Int32)  : Prop :=
  ((x0 ≤ (256 : Int32) → ((x0 ≤ (16 : Int32) → cf_Integer_numberOfTrailingZeros_B62 P x0 x1) ∧ (¬ x0 ≤ (16 : Int32) → ∀ v4, v4 = x1 + (4 : Int32) → ∀ v5, v5 = iushr x0 (4 : Int32) → cf_Integer_numberOfTrailingZeros_B62 P v5 v4))) ∧ (¬ x0 ≤ (256 : Int32) → ∀ v6, v6 = x1 + (8 : Int32) → ∀ v7, v7 = iushr x0 (8 : Int32) → ((v7 ≤ (16 : Int32) → cf_Integer_numberOfTrailingZeros_B62 P v7 v6) ∧ (¬ v7 ≤ (16 : Int32) → ∀ v8, v8 = v6 + (4 : Int32) → ∀ v9, v9 = iushr v7 (4 : Int32) → cf_Integer_numberOfTrailingZeros_B62 P v9 v8))))
def cf_Integer_numberOfTrailingZeros (a0 : Int32) (P : Int32 → Prop) : Prop :=
  ∀ v1, v1 = (a0 ^^^ (-1 : Int32)) &&& (a0 - (1 : Int32)) → ((0 < v1 → ((v1 ≤ (65536 : Int32) → cf_Integer_numberOfTrailingZeros_B34 P v1 (1 : Int32)) ∧ (¬ v1 ≤ (65536 : Int32) → ∀ v10, v10 = (1 : Int32) + (16 : Int32) → ∀ v11, v11 = iushr v1 (16 : Int32) → cf_Integer_numberOfTrailingZeros_B34 P v11 v10))) ∧ (¬ 0 < v1 → P (v1 &&& (32 : Int32))))
theorem cf_Integer_numberOfTrailingZeros_B62_ok {g : ayG} {d : Nat} (hd : 0 ≤ d)   (w : Wd)  (P : Int32 → Prop) (Q : Option Value → Wd → Prop) (hQ : ∀ x, P x → Q (some (.int x)) w)  (x0 : Int32) (x1 : Int32) (h : cf_Integer_numberOfTrailingZeros_B62 P x0 x1) : wp g (fun _ => True) y_Integer_numberOfTrailingZeros prog_15_method_48_code 2 (some FieldType.int) d 62 [(0, .int x0), (1, .int x1)] [] w Q := by
  unfold cf_Integer_numberOfTrailingZeros_B62 at h
  refine am_iload_n d_Integer_numberOfTrailingZeros_62 0 rfl ?_
  refine am_iconst (v := 4) d_Integer_numberOfTrailingZeros_63 rfl ?_
  refine am_icmp_le (tgt := 74) d_Integer_numberOfTrailingZeros_64 (by decide) (fun c64 => ?_) (fun c64 => ?_)
  · have h := h.1 c64
    refine am_iload_n d_Integer_numberOfTrailingZeros_74 1 rfl ?_
    refine am_iload_n d_Integer_numberOfTrailingZeros_75 0 rfl ?_
    refine am_iconst (v := 1) d_Integer_numberOfTrailingZeros_76 rfl ?_
    refine am_iushr d_Integer_numberOfTrailingZeros_77 ?_
    refine am_iadd d_Integer_numberOfTrailingZeros_78 ?_
    exact am_ireturn d_Integer_numberOfTrailingZeros_79 rfl rfl (hQ (x1 + (iushr x0 (1 : Int32))) h)
  · have h := h.2 c64
    obtain ⟨v2, ev2⟩ : ∃ z : Int32, z = x1 + (2 : Int32) := ⟨_, rfl⟩
    have h := h v2 ev2
    refine am_iinc (v := v2) (l' := [(1, .int v2), (0, .int x0)]) d_Integer_numberOfTrailingZeros_67 1 rfl (by rw [ev2]; rfl) (by decide) rfl ?_
    refine am_iload_n d_Integer_numberOfTrailingZeros_70 1 rfl ?_
    refine am_iconst (v := 2) d_Integer_numberOfTrailingZeros_71 rfl ?_
    refine am_iushr d_Integer_numberOfTrailingZeros_72 ?_
    refine am_topi (fun v3 ev3 => ?_)
    have h := h v3 ev3
    refine am_istore_n (l' := [(0, .int v3), (1, .int v2)]) d_Integer_numberOfTrailingZeros_73 (by decide) rfl ?_
    refine am_iload_n d_Integer_numberOfTrailingZeros_74 1 rfl ?_
    refine am_iload_n d_Integer_numberOfTrailingZeros_75 0 rfl ?_
    refine am_iconst (v := 1) d_Integer_numberOfTrailingZeros_76 rfl ?_
    refine am_iushr d_Integer_numberOfTrailingZeros_77 ?_
    refine am_iadd d_Integer_numberOfTrailingZeros_78 ?_
    exact am_ireturn d_Integer_numberOfTrailingZeros_79 rfl rfl (hQ (v2 + (iushr v3 (1 : Int32))) h)
theorem cf_Integer_numberOfTrailingZeros_B34_ok {g : ayG} {d : Nat} (hd : 0 ≤ d)   (w : Wd)  (P : Int32 → Prop) (Q : Option Value → Wd → Prop) (hQ : ∀ x, P x → Q (some (.int x)) w)  (x0 : Int32) (x1 : Int32) (h : cf_Integer_numberOfTrailingZeros_B34 P x0 x1) : wp g (fun _ => True) y_Integer_numberOfTrailingZeros prog_15_method_48_code 2 (some FieldType.int) d 34 [(0, .int x0), (1, .int x1)] [] w Q := by
  unfold cf_Integer_numberOfTrailingZeros_B34 at h
  refine am_iload_n d_Integer_numberOfTrailingZeros_34 0 rfl ?_
  refine am_sipush (v := 256) d_Integer_numberOfTrailingZeros_35 rfl ?_
  refine am_icmp_le (tgt := 49) d_Integer_numberOfTrailingZeros_38 (by decide) (fun c38 => ?_) (fun c38 => ?_)
  · have h := h.1 c38
    refine am_iload_n d_Integer_numberOfTrailingZeros_49 0 rfl ?_
    refine am_bipush (v := 16) d_Integer_numberOfTrailingZeros_50 rfl ?_
    refine am_icmp_le (tgt := 62) d_Integer_numberOfTrailingZeros_52 (by decide) (fun c52 => ?_) (fun c52 => ?_)
    · have h := h.1 c52
      refine am_sub [0, 1] rfl ?_
      exact cf_Integer_numberOfTrailingZeros_B62_ok (by omega)   w  P Q hQ  x0 x1 h
    · have h := h.2 c52
      obtain ⟨v4, ev4⟩ : ∃ z : Int32, z = x1 + (4 : Int32) := ⟨_, rfl⟩
      have h := h v4 ev4
      refine am_iinc (v := v4) (l' := [(1, .int v4), (0, .int x0)]) d_Integer_numberOfTrailingZeros_55 1 rfl (by rw [ev4]; rfl) (by decide) rfl ?_
      refine am_iload_n d_Integer_numberOfTrailingZeros_58 1 rfl ?_
      refine am_iconst (v := 4) d_Integer_numberOfTrailingZeros_59 rfl ?_
      refine am_iushr d_Integer_numberOfTrailingZeros_60 ?_
      refine am_topi (fun v5 ev5 => ?_)
      have h := h v5 ev5
      refine am_istore_n (l' := [(0, .int v5), (1, .int v4)]) d_Integer_numberOfTrailingZeros_61 (by decide) rfl ?_
      refine am_sub [0, 1] rfl ?_
      exact cf_Integer_numberOfTrailingZeros_B62_ok (by omega)   w  P Q hQ  v5 v4 h
  · have h := h.2 c38
    obtain ⟨v6, ev6⟩ : ∃ z : Int32, z = x1 + (8 : Int32) := ⟨_, rfl⟩
    have h := h v6 ev6
    refine am_iinc (v := v6) (l' := [(1, .int v6), (0, .int x0)]) d_Integer_numberOfTrailingZeros_41 1 rfl (by rw [ev6]; rfl) (by decide) rfl ?_
    refine am_iload_n d_Integer_numberOfTrailingZeros_44 1 rfl ?_
    refine am_bipush (v := 8) d_Integer_numberOfTrailingZeros_45 rfl ?_
    refine am_iushr d_Integer_numberOfTrailingZeros_47 ?_
    refine am_topi (fun v7 ev7 => ?_)
    have h := h v7 ev7
    refine am_istore_n (l' := [(0, .int v7), (1, .int v6)]) d_Integer_numberOfTrailingZeros_48 (by decide) rfl ?_
    refine am_iload_n d_Integer_numberOfTrailingZeros_49 0 rfl ?_
    refine am_bipush (v := 16) d_Integer_numberOfTrailingZeros_50 rfl ?_
    refine am_icmp_le (tgt := 62) d_Integer_numberOfTrailingZeros_52 (by decide) (fun c52 => ?_) (fun c52 => ?_)
    · have h := h.1 c52
      refine am_sub [0, 1] rfl ?_
      exact cf_Integer_numberOfTrailingZeros_B62_ok (by omega)   w  P Q hQ  v7 v6 h
    · have h := h.2 c52
      obtain ⟨v8, ev8⟩ : ∃ z : Int32, z = v6 + (4 : Int32) := ⟨_, rfl⟩
      have h := h v8 ev8
      refine am_iinc (v := v8) (l' := [(1, .int v8), (0, .int v7)]) d_Integer_numberOfTrailingZeros_55 1 rfl (by rw [ev8]; rfl) (by decide) rfl ?_
      refine am_iload_n d_Integer_numberOfTrailingZeros_58 1 rfl ?_
      refine am_iconst (v := 4) d_Integer_numberOfTrailingZeros_59 rfl ?_
      refine am_iushr d_Integer_numberOfTrailingZeros_60 ?_
      refine am_topi (fun v9 ev9 => ?_)
      have h := h v9 ev9
      refine am_istore_n (l' := [(0, .int v9), (1, .int v8)]) d_Integer_numberOfTrailingZeros_61 (by decide) rfl ?_
      refine am_sub [0, 1] rfl ?_
      exact cf_Integer_numberOfTrailingZeros_B62_ok (by omega)   w  P Q hQ  v9 v8 h
theorem cf_Integer_numberOfTrailingZeros_ok {g : ayG} {d : Nat} (hd : 0 ≤ d) (a0 : Int32)  (w : Wd) (P : Int32 → Prop) (h : cf_Integer_numberOfTrailingZeros a0 P) : Call g y_Integer_numberOfTrailingZeros prog_15_method_48_code 2 (some FieldType.int) d [.int a0] w (fun (r : Option Value) (w2 : Wd) => ∃ x, r = some (.int x) ∧ w = w2 ∧ P x) := by
  unfold cf_Integer_numberOfTrailingZeros at h
  refine am_enter mi_Integer_numberOfTrailingZeros (Nat.le_of_ble_eq_true rfl) ?_
  have hQ : ∀ x, P x → (fun (r : Option Value) (w2 : Wd) => ∃ x, r = some (.int x) ∧ w = w2 ∧ P x) (some (.int x)) w := fun x h => ⟨x, rfl, rfl, h⟩
  generalize (fun (r : Option Value) (w2 : Wd) => ∃ x, r = some (.int x) ∧ w = w2 ∧ P x) = Q at hQ ⊢
  show wp g (fun _ => True) y_Integer_numberOfTrailingZeros prog_15_method_48_code 2 (some FieldType.int) d 0 [(0, .int a0)] [] w Q
  refine am_iload_n d_Integer_numberOfTrailingZeros_0 0 rfl ?_
  refine am_iconst (v := -1) d_Integer_numberOfTrailingZeros_1 rfl ?_
  refine am_ixor d_Integer_numberOfTrailingZeros_2 ?_
  refine am_iload_n d_Integer_numberOfTrailingZeros_3 0 rfl ?_
  refine am_iconst (v := 1) d_Integer_numberOfTrailingZeros_4 rfl ?_
  refine am_isub d_Integer_numberOfTrailingZeros_5 ?_
  refine am_iand d_Integer_numberOfTrailingZeros_6 ?_
  refine am_topi (fun v1 ev1 => ?_)
  have h := h v1 ev1
  refine am_istore_n (l' := [(0, .int v1)]) d_Integer_numberOfTrailingZeros_7 (by decide) rfl ?_
  refine am_iload_n d_Integer_numberOfTrailingZeros_8 0 rfl ?_
  refine am_if_gt (tgt := 17) d_Integer_numberOfTrailingZeros_9 (by decide) (fun c9 => ?_) (fun c9 => ?_)
  · have h := h.1 c9
    refine am_iconst (v := 1) d_Integer_numberOfTrailingZeros_17 rfl ?_
    refine am_istore_n (l' := [(1, .int (1 : Int32)), (0, .int v1)]) d_Integer_numberOfTrailingZeros_18 (by decide) rfl ?_
    refine am_iload_n d_Integer_numberOfTrailingZeros_19 1 rfl ?_
    refine am_ldcw (v := 65536) d_Integer_numberOfTrailingZeros_20 wd_399 ?_
    refine am_icmp_le (tgt := 34) d_Integer_numberOfTrailingZeros_23 (by decide) (fun c23 => ?_) (fun c23 => ?_)
    · have h := h.1 c23
      refine am_sub [1, 0] rfl ?_
      exact cf_Integer_numberOfTrailingZeros_B34_ok (by omega)   w  P Q hQ  v1 (1 : Int32) h
    · have h := h.2 c23
      obtain ⟨v10, ev10⟩ : ∃ z : Int32, z = (1 : Int32) + (16 : Int32) := ⟨_, rfl⟩
      have h := h v10 ev10
      refine am_iinc (v := v10) (l' := [(1, .int v10), (0, .int v1)]) d_Integer_numberOfTrailingZeros_26 0 rfl (by rw [ev10]; rfl) (by decide) rfl ?_
      refine am_iload_n d_Integer_numberOfTrailingZeros_29 1 rfl ?_
      refine am_bipush (v := 16) d_Integer_numberOfTrailingZeros_30 rfl ?_
      refine am_iushr d_Integer_numberOfTrailingZeros_32 ?_
      refine am_topi (fun v11 ev11 => ?_)
      have h := h v11 ev11
      refine am_istore_n (l' := [(0, .int v11), (1, .int v10)]) d_Integer_numberOfTrailingZeros_33 (by decide) rfl ?_
      refine am_sub [0, 1] rfl ?_
      exact cf_Integer_numberOfTrailingZeros_B34_ok (by omega)   w  P Q hQ  v11 v10 h
  · have h := h.2 c9
    refine am_iload_n d_Integer_numberOfTrailingZeros_12 0 rfl ?_
    refine am_bipush (v := 32) d_Integer_numberOfTrailingZeros_13 rfl ?_
    refine am_iand d_Integer_numberOfTrailingZeros_15 ?_
    exact am_ireturn d_Integer_numberOfTrailingZeros_16 rfl rfl (hQ (v1 &&& (32 : Int32)) h)
theorem d_Long_bitCount_0 : decode prog_16_method_50_code 0 = .ok (.lload_n 0, 1) := by decide +kernel
theorem d_Long_bitCount_1 : decode prog_16_method_50_code 1 = .ok (.lload_n 0, 1) := by decide +kernel
theorem d_Long_bitCount_2 : decode prog_16_method_50_code 2 = .ok (.iconst 1, 1) := by decide +kernel
theorem d_Long_bitCount_3 : decode prog_16_method_50_code 3 = .ok (.lushr, 1) := by decide +kernel
theorem d_Long_bitCount_4 : decode prog_16_method_50_code 4 = .ok (.ldc2_w 314, 3) := by decide +kernel
theorem d_Long_bitCount_7 : decode prog_16_method_50_code 7 = .ok (.land, 1) := by decide +kernel
theorem d_Long_bitCount_8 : decode prog_16_method_50_code 8 = .ok (.lsub, 1) := by decide +kernel
theorem d_Long_bitCount_9 : decode prog_16_method_50_code 9 = .ok (.lstore_n 0, 1) := by decide +kernel
theorem d_Long_bitCount_10 : decode prog_16_method_50_code 10 = .ok (.lload_n 0, 1) := by decide +kernel
theorem d_Long_bitCount_11 : decode prog_16_method_50_code 11 = .ok (.ldc2_w 316, 3) := by decide +kernel
theorem d_Long_bitCount_14 : decode prog_16_method_50_code 14 = .ok (.land, 1) := by decide +kernel
theorem d_Long_bitCount_15 : decode prog_16_method_50_code 15 = .ok (.lload_n 0, 1) := by decide +kernel
theorem d_Long_bitCount_16 : decode prog_16_method_50_code 16 = .ok (.iconst 2, 1) := by decide +kernel
theorem d_Long_bitCount_17 : decode prog_16_method_50_code 17 = .ok (.lushr, 1) := by decide +kernel
theorem d_Long_bitCount_18 : decode prog_16_method_50_code 18 = .ok (.ldc2_w 316, 3) := by decide +kernel
theorem d_Long_bitCount_21 : decode prog_16_method_50_code 21 = .ok (.land, 1) := by decide +kernel
theorem d_Long_bitCount_22 : decode prog_16_method_50_code 22 = .ok (.ladd, 1) := by decide +kernel
theorem d_Long_bitCount_23 : decode prog_16_method_50_code 23 = .ok (.lstore_n 0, 1) := by decide +kernel
theorem d_Long_bitCount_24 : decode prog_16_method_50_code 24 = .ok (.lload_n 0, 1) := by decide +kernel
theorem d_Long_bitCount_25 : decode prog_16_method_50_code 25 = .ok (.lload_n 0, 1) := by decide +kernel
theorem d_Long_bitCount_26 : decode prog_16_method_50_code 26 = .ok (.iconst 4, 1) := by decide +kernel
theorem d_Long_bitCount_27 : decode prog_16_method_50_code 27 = .ok (.lushr, 1) := by decide +kernel
theorem d_Long_bitCount_28 : decode prog_16_method_50_code 28 = .ok (.ladd, 1) := by decide +kernel
theorem d_Long_bitCount_29 : decode prog_16_method_50_code 29 = .ok (.ldc2_w 318, 3) := by decide +kernel
theorem d_Long_bitCount_32 : decode prog_16_method_50_code 32 = .ok (.land, 1) := by decide +kernel
theorem d_Long_bitCount_33 : decode prog_16_method_50_code 33 = .ok (.lstore_n 0, 1) := by decide +kernel
theorem d_Long_bitCount_34 : decode prog_16_method_50_code 34 = .ok (.lload_n 0, 1) := by decide +kernel
theorem d_Long_bitCount_35 : decode prog_16_method_50_code 35 = .ok (.lload_n 0, 1) := by decide +kernel
theorem d_Long_bitCount_36 : decode prog_16_method_50_code 36 = .ok (.bipush 8, 2) := by decide +kernel
theorem d_Long_bitCount_38 : decode prog_16_method_50_code 38 = .ok (.lushr, 1) := by decide +kernel
theorem d_Long_bitCount_39 : decode prog_16_method_50_code 39 = .ok (.ladd, 1) := by decide +kernel
theorem d_Long_bitCount_40 : decode prog_16_method_50_code 40 = .ok (.lstore_n 0, 1) := by decide +kernel
theorem d_Long_bitCount_41 : decode prog_16_method_50_code 41 = .ok (.lload_n 0, 1) := by decide +kernel
theorem d_Long_bitCount_42 : decode prog_16_method_50_code 42 = .ok (.lload_n 0, 1) := by decide +kernel
theorem d_Long_bitCount_43 : decode prog_16_method_50_code 43 = .ok (.bipush 16, 2) := by decide +kernel
theorem d_Long_bitCount_45 : decode prog_16_method_50_code 45 = .ok (.lushr, 1) := by decide +kernel
theorem d_Long_bitCount_46 : decode prog_16_method_50_code 46 = .ok (.ladd, 1) := by decide +kernel
theorem d_Long_bitCount_47 : decode prog_16_method_50_code 47 = .ok (.lstore_n 0, 1) := by decide +kernel
theorem d_Long_bitCount_48 : decode prog_16_method_50_code 48 = .ok (.lload_n 0, 1) := by decide +kernel
theorem d_Long_bitCount_49 : decode prog_16_method_50_code 49 = .ok (.lload_n 0, 1) := by decide +kernel
theorem d_Long_bitCount_50 : decode prog_16_method_50_code 50 = .ok (.bipush 32, 2) := by decide +kernel
theorem d_Long_bitCount_52 : decode prog_16_method_50_code 52 = .ok (.lushr, 1) := by decide +kernel
theorem d_Long_bitCount_53 : decode prog_16_method_50_code 53 = .ok (.ladd, 1) := by decide +kernel
theorem d_Long_bitCount_54 : decode prog_16_method_50_code 54 = .ok (.lstore_n 0, 1) := by decide +kernel
theorem d_Long_bitCount_55 : decode prog_16_method_50_code 55 = .ok (.lload_n 0, 1) := by decide +kernel
theorem d_Long_bitCount_56 : decode prog_16_method_50_code 56 = .ok (.l2i, 1) := by decide +kernel
theorem d_Long_bitCount_57 : decode prog_16_method_50_code 57 = .ok (.bipush 127, 2) := by decide +kernel
theorem d_Long_bitCount_59 : decode prog_16_method_50_code 59 = .ok (.iand, 1) := by decide +kernel
theorem d_Long_bitCount_60 : decode prog_16_method_50_code 60 = .ok (.ireturn, 1) := by decide +kernel
def cf_Long_bitCount (a0 : Int64) (P : Int32 → Prop) : Prop :=
  ∀ v1, v1 = a0 - ((lushr a0 (1 : Int32)) &&& (6148914691236517205 : Int64)) → ∀ v2, v2 = (v1 &&& (3689348814741910323 : Int64)) + ((lushr v1 (2 : Int32)) &&& (3689348814741910323 : Int64)) → ∀ v3, v3 = (v2 + (lushr v2 (4 : Int32))) &&& (1085102592571150095 : Int64) → ∀ v4, v4 = v3 + (lushr v3 (8 : Int32)) → ∀ v5, v5 = v4 + (lushr v4 (16 : Int32)) → ∀ v6, v6 = v5 + (lushr v5 (32 : Int32)) → P (v6.toInt32 &&& (127 : Int32))
theorem cf_Long_bitCount_ok {g : ayG} {d : Nat} (hd : 0 ≤ d) (a0 : Int64)  (w : Wd) (P : Int32 → Prop) (h : cf_Long_bitCount a0 P) : Call g y_Long_bitCount prog_16_method_50_code 2 (some FieldType.int) d [.long a0] w (fun (r : Option Value) (w2 : Wd) => ∃ x, r = some (.int x) ∧ w = w2 ∧ P x) := by
  unfold cf_Long_bitCount at h
  refine am_enter mi_Long_bitCount (Nat.le_of_ble_eq_true rfl) ?_
  have hQ : ∀ x, P x → (fun (r : Option Value) (w2 : Wd) => ∃ x, r = some (.int x) ∧ w = w2 ∧ P x) (some (.int x)) w := fun x h => ⟨x, rfl, rfl, h⟩
  generalize (fun (r : Option Value) (w2 : Wd) => ∃ x, r = some (.int x) ∧ w = w2 ∧ P x) = Q at hQ ⊢
  show wp g (fun _ => True) y_Long_bitCount prog_16_method_50_code 2 (some FieldType.int) d 0 [(0, .long a0)] [] w Q
  refine am_lload_n d_Long_bitCount_0 0 rfl ?_
  refine am_lload_n d_Long_bitCount_1 0 rfl ?_
  refine am_iconst (v := 1) d_Long_bitCount_2 rfl ?_
  refine am_lushr d_Long_bitCount_3 ?_
  refine am_ldc2 (v := 6148914691236517205) d_Long_bitCount_4 wd_584 ?_
  refine am_land d_Long_bitCount_7 ?_
  refine am_lsub d_Long_bitCount_8 ?_
  refine am_topl (fun v1 ev1 => ?_)
  have h := h v1 ev1
  refine am_lstore_n (l' := [(0, .long v1)]) d_Long_bitCount_9 (by decide) rfl ?_
  refine am_lload_n d_Long_bitCount_10 0 rfl ?_
  refine am_ldc2 (v := 3689348814741910323) d_Long_bitCount_11 wd_585 ?_
  refine am_land d_Long_bitCount_14 ?_
  refine am_lload_n d_Long_bitCount_15 0 rfl ?_
  refine am_iconst (v := 2) d_Long_bitCount_16 rfl ?_
  refine am_lushr d_Long_bitCount_17 ?_
  refine am_ldc2 (v := 3689348814741910323) d_Long_bitCount_18 wd_585 ?_
  refine am_land d_Long_bitCount_21 ?_
  refine am_ladd d_Long_bitCount_22 ?_
  refine am_topl (fun v2 ev2 => ?_)
  have h := h v2 ev2
  refine am_lstore_n (l' := [(0, .long v2)]) d_Long_bitCount_23 (by decide) rfl ?_
  refine am_lload_n d_Long_bitCount_24 0 rfl ?_
  refine am_lload_n d_Long_bitCount_25 0 rfl ?_
  refine am_iconst (v := 4) d_Long_bitCount_26 rfl ?_
  refine am_lushr d_Long_bitCount_27 ?_
  refine am_ladd d_Long_bitCount_28 ?_
  refine am_ldc2 (v := 1085102592571150095) d_Long_bitCount_29 wd_586 ?_
  refine am_land d_Long_bitCount_32 ?_
  refine am_topl (fun v3 ev3 => ?_)
  have h := h v3 ev3
  refine am_lstore_n (l' := [(0, .long v3)]) d_Long_bitCount_33 (by decide) rfl ?_
  refine am_lload_n d_Long_bitCount_34 0 rfl ?_
  refine am_lload_n d_Long_bitCount_35 0 rfl ?_
  refine am_bipush (v := 8) d_Long_bitCount_36 rfl ?_
  refine am_lushr d_Long_bitCount_38 ?_
  refine am_ladd d_Long_bitCount_39 ?_
  refine am_topl (fun v4 ev4 => ?_)
  have h := h v4 ev4
  refine am_lstore_n (l' := [(0, .long v4)]) d_Long_bitCount_40 (by decide) rfl ?_
  refine am_lload_n d_Long_bitCount_41 0 rfl ?_
  refine am_lload_n d_Long_bitCount_42 0 rfl ?_
  refine am_bipush (v := 16) d_Long_bitCount_43 rfl ?_
  refine am_lushr d_Long_bitCount_45 ?_
  refine am_ladd d_Long_bitCount_46 ?_
  refine am_topl (fun v5 ev5 => ?_)
  have h := h v5 ev5
  refine am_lstore_n (l' := [(0, .long v5)]) d_Long_bitCount_47 (by decide) rfl ?_
  refine am_lload_n d_Long_bitCount_48 0 rfl ?_
  refine am_lload_n d_Long_bitCount_49 0 rfl ?_
  refine am_bipush (v := 32) d_Long_bitCount_50 rfl ?_
  refine am_lushr d_Long_bitCount_52 ?_
  refine am_ladd d_Long_bitCount_53 ?_
  refine am_topl (fun v6 ev6 => ?_)
  have h := h v6 ev6
  refine am_lstore_n (l' := [(0, .long v6)]) d_Long_bitCount_54 (by decide) rfl ?_
  refine am_lload_n d_Long_bitCount_55 0 rfl ?_
  refine am_l2i d_Long_bitCount_56 ?_
  refine am_bipush (v := 127) d_Long_bitCount_57 rfl ?_
  refine am_iand d_Long_bitCount_59 ?_
  exact am_ireturn d_Long_bitCount_60 rfl rfl (hQ (v6.toInt32 &&& (127 : Int32)) h)
theorem d_Long_numberOfLeadingZeros_0 : decode prog_16_method_48_code 0 = .ok (.lload_n 0, 1) := by decide +kernel
theorem d_Long_numberOfLeadingZeros_1 : decode prog_16_method_48_code 1 = .ok (.bipush 32, 2) := by decide +kernel
theorem d_Long_numberOfLeadingZeros_3 : decode prog_16_method_48_code 3 = .ok (.lushr, 1) := by decide +kernel
theorem d_Long_numberOfLeadingZeros_4 : decode prog_16_method_48_code 4 = .ok (.l2i, 1) := by decide +kernel
theorem d_Long_numberOfLeadingZeros_5 : decode prog_16_method_48_code 5 = .ok (.istore_n 2, 1) := by decide +kernel
theorem d_Long_numberOfLeadingZeros_6 : decode prog_16_method_48_code 6 = .ok (.iload_n 2, 1) := by decide +kernel
theorem d_Long_numberOfLeadingZeros_7 : decode prog_16_method_48_code 7 = .ok (.ifCond .ne 14, 3) := by decide +kernel
theorem d_Long_numberOfLeadingZeros_10 : decode prog_16_method_48_code 10 = .ok (.bipush 32, 2) := by decide +kernel
theorem d_Long_numberOfLeadingZeros_12 : decode prog_16_method_48_code 12 = .ok (.lload_n 0, 1) := by decide +kernel
theorem d_Long_numberOfLeadingZeros_13 : decode prog_16_method_48_code 13 = .ok (.l2i, 1) := by decide +kernel
theorem d_Long_numberOfLeadingZeros_14 : decode prog_16_method_48_code 14 = .ok (.invokestatic 308, 3) := by decide +kernel
theorem d_Long_numberOfLeadingZeros_17 : decode prog_16_method_48_code 17 = .ok (.iadd, 1) := by decide +kernel
theorem d_Long_numberOfLeadingZeros_18 : decode prog_16_method_48_code 18 = .ok (.goto 7, 3) := by decide +kernel
theorem d_Long_numberOfLeadingZeros_21 : decode prog_16_method_48_code 21 = .ok (.iload_n 2, 1) := by decide +kernel
theorem d_Long_numberOfLeadingZeros_22 : decode prog_16_method_48_code 22 = .ok (.invokestatic 308, 3) := by decide +kernel
theorem d_Long_numberOfLeadingZeros_25 : decode prog_16_method_48_code 25 = .ok (.ireturn, 1) := by decide +kernel
def cf_Long_numberOfLeadingZeros (a0 : Int64) (P : Int32 → Prop) : Prop :=
  ∀ v1, v1 = (lushr a0 (32 : Int32)).toInt32 → ((¬ v1 = 0 → cf_Integer_numberOfLeadingZeros v1 (fun r2 => P r2)) ∧ (v1 = 0 → cf_Integer_numberOfLeadingZeros a0.toInt32 (fun r3 => P ((32 : Int32) + r3))))
theorem cf_Long_numberOfLeadingZeros_ok {g : ayG} {d : Nat} (hd : 1 ≤ d) (a0 : Int64)  (w : Wd) (P : Int32 → Prop) (h : cf_Long_numberOfLeadingZeros a0 P) : Call g y_Long_numberOfLeadingZeros prog_16_method_48_code 3 (some FieldType.int) d [.long a0] w (fun (r : Option Value) (w2 : Wd) => ∃ x, r = some (.int x) ∧ w = w2 ∧ P x) := by
  unfold cf_Long_numberOfLeadingZeros at h
  refine am_enter mi_Long_numberOfLeadingZeros (Nat.le_of_ble_eq_true rfl) ?_
  have hQ : ∀ x, P x → (fun (r : Option Value) (w2 : Wd) => ∃ x, r = some (.int x) ∧ w = w2 ∧ P x) (some (.int x)) w := fun x h => ⟨x, rfl, rfl, h⟩
  generalize (fun (r : Option Value) (w2 : Wd) => ∃ x, r = some (.int x) ∧ w = w2 ∧ P x) = Q at hQ ⊢
  show wp g (fun _ => True) y_Long_numberOfLeadingZeros prog_16_method_48_code 3 (some FieldType.int) d 0 [(0, .long a0)] [] w Q
  refine am_lload_n d_Long_numberOfLeadingZeros_0 0 rfl ?_
  refine am_bipush (v := 32) d_Long_numberOfLeadingZeros_1 rfl ?_
  refine am_lushr d_Long_numberOfLeadingZeros_3 ?_
  refine am_l2i d_Long_numberOfLeadingZeros_4 ?_
  refine am_topi (fun v1 ev1 => ?_)
  have h := h v1 ev1
  refine am_istore_n (l' := [(2, .int v1), (0, .long a0)]) d_Long_numberOfLeadingZeros_5 (by decide) rfl ?_
  refine am_iload_n d_Long_numberOfLeadingZeros_6 0 rfl ?_
  refine am_if_ne (tgt := 21) d_Long_numberOfLeadingZeros_7 (by decide) (fun c7 => ?_) (fun c7 => ?_)
  · have h := h.1 c7
    refine am_iload_n d_Long_numberOfLeadingZeros_21 0 rfl ?_
    refine am_callS (d2 := d - 1) [.int v1] d_Long_numberOfLeadingZeros_22 mi_Integer_numberOfLeadingZeros wd_396 wd_397 (by omega) rfl rfl (Nat.le_of_ble_eq_true rfl) ?_
    refine Call.post ?_ (cf_Integer_numberOfLeadingZeros_ok (by omega) v1  w _ h)
    rintro _ _ ⟨r2, rfl, rfl, h⟩
    show wp g (fun _ => True) y_Long_numberOfLeadingZeros prog_16_method_48_code 3 (some FieldType.int) d 25 [(2, .int v1), (0, .long a0)] [.int r2] w Q
    exact am_ireturn d_Long_numberOfLeadingZeros_25 rfl rfl (hQ r2 h)
  · have h := h.2 c7
    refine am_bipush (v := 32) d_Long_numberOfLeadingZeros_10 rfl ?_
    refine am_lload_n d_Long_numberOfLeadingZeros_12 1 rfl ?_
    refine am_l2i d_Long_numberOfLeadingZeros_13 ?_
    refine am_callS (d2 := d - 1) [.int a0.toInt32] d_Long_numberOfLeadingZeros_14 mi_Integer_numberOfLeadingZeros wd_396 wd_397 (by omega) rfl rfl (Nat.le_of_ble_eq_true rfl) ?_
    refine Call.post ?_ (cf_Integer_numberOfLeadingZeros_ok (by omega) a0.toInt32  w _ h)
    rintro _ _ ⟨r3, rfl, rfl, h⟩
    show wp g (fun _ => True) y_Long_numberOfLeadingZeros prog_16_method_48_code 3 (some FieldType.int) d 17 [(2, .int v1), (0, .long a0)] [.int r3, .int (32 : Int32)] w Q
    refine am_iadd d_Long_numberOfLeadingZeros_17 ?_
    refine am_goto (tgt := 25) d_Long_numberOfLeadingZeros_18 (by decide) ?_
    exact am_ireturn d_Long_numberOfLeadingZeros_25 rfl rfl (hQ ((32 : Int32) + r3) h)
theorem d_Long_numberOfTrailingZeros_0 : decode prog_16_method_49_code 0 = .ok (.lload_n 0, 1) := by decide +kernel
theorem d_Long_numberOfTrailingZeros_1 : decode prog_16_method_49_code 1 = .ok (.l2i, 1) := by decide +kernel
theorem d_Long_numberOfTrailingZeros_2 : decode prog_16_method_49_code 2 = .ok (.istore_n 2, 1) := by decide +kernel
theorem d_Long_numberOfTrailingZeros_3 : decode prog_16_method_49_code 3 = .ok (.iload_n 2, 1) := by decide +kernel
theorem d_Long_numberOfTrailingZeros_4 : decode prog_16_method_49_code 4 = .ok (.ifCond .ne 17, 3) := by decide +kernel
theorem d_Long_numberOfTrailingZeros_7 : decode prog_16_method_49_code 7 = .ok (.bipush 32, 2) := by decide +kernel
theorem d_Long_numberOfTrailingZeros_9 : decode prog_16_method_49_code 9 = .ok (.lload_n 0, 1) := by decide +kernel
theorem d_Long_numberOfTrailingZeros_10 : decode prog_16_method_49_code 10 = .ok (.bipush 32, 2) := by decide +kernel
theorem d_Long_numberOfTrailingZeros_12 : decode prog_16_method_49_code 12 = .ok (.lushr, 1) := by decide +kernel
theorem d_Long_numberOfTrailingZeros_13 : decode prog_16_method_49_code 13 = .ok (.l2i, 1) := by decide +kernel
theorem d_Long_numberOfTrailingZeros_14 : decode prog_16_method_49_code 14 = .ok (.invokestatic 311, 3) := by decide +kernel
theorem d_Long_numberOfTrailingZeros_17 : decode prog_16_method_49_code 17 = .ok (.iadd, 1) := by decide +kernel
theorem d_Long_numberOfTrailingZeros_18 : decode prog_16_method_49_code 18 = .ok (.goto 7, 3) := by decide +kernel
theorem d_Long_numberOfTrailingZeros_21 : decode prog_16_method_49_code 21 = .ok (.iload_n 2, 1) := by decide +kernel
theorem d_Long_numberOfTrailingZeros_22 : decode prog_16_method_49_code 22 = .ok (.invokestatic 311, 3) := by decide +kernel
theorem d_Long_numberOfTrailingZeros_25 : decode prog_16_method_49_code 25 = .ok (.ireturn, 1) := by decide +kernel
def cf_Long_numberOfTrailingZeros (a0 : Int64) (P : Int32 → Prop) : Prop :=
  ∀ v1, v1 = a0.toInt32 → ((¬ v1 = 0 → cf_Integer_numberOfTrailingZeros v1 (fun r2 => P r2)) ∧ (v1 = 0 → cf_Integer_numberOfTrailingZeros ((lushr a0 (32 : Int32)).toInt32) (fun r3 => P ((32 : Int32) + r3))))
theorem cf_Long_numberOfTrailingZeros_ok {g : ayG} {d : Nat} (hd : 1 ≤ d) (a0 : Int64)  (w : Wd) (P : Int32 → Prop) (h : cf_Long_numberOfTrailingZeros a0 P) : Call g y_Long_numberOfTrailingZeros prog_16_method_49_code 3 (some FieldType.int) d [.long a0] w (fun (r : Option Value) (w2 : Wd) => ∃ x, r = some (.int x) ∧ w = w2 ∧ P x) := by
  unfold cf_Long_numberOfTrailingZeros at h
  refine am_enter mi_Long_numberOfTrailingZeros (Nat.le_of_ble_eq_true rfl) ?_
  have hQ : ∀ x, P x → (fun (r : Option Value) (w2 : Wd) => ∃ x, r = some (.int x) ∧ w = w2 ∧ P x) (some (.int x)) w := fun x h => ⟨x, rfl, rfl, h⟩
  generalize (fun (r : Option Value) (w2 : Wd) => ∃ x, r = some (.int x) ∧ w = w2 ∧ P x) = Q at hQ ⊢
  show wp g (fun _ => True) y_Long_numberOfTrailingZeros prog_16_method_49_code 3 (some FieldType.int) d 0 [(0, .long a0)] [] w Q
  refine am_lload_n d_Long_numberOfTrailingZeros_0 0 rfl ?_
  refine am_l2i d_Long_numberOfTrailingZeros_1 ?_
  refine am_topi (fun v1 ev1 => ?_)
  have h := h v1 ev1
  refine am_istore_n (l' := [(2, .int v1), (0, .long a0)]) d_Long_numberOfTrailingZeros_2 (by decide) rfl ?_
  refine am_iload_n d_Long_numberOfTrailingZeros_3 0 rfl ?_
  refine am_if_ne (tgt := 21) d_Long_numberOfTrailingZeros_4 (by decide) (fun c4 => ?_) (fun c4 => ?_)
  · have h := h.1 c4
    refine am_iload_n d_Long_numberOfTrailingZeros_21 0 rfl ?_
    refine am_callS (d2 := d - 1) [.int v1] d_Long_numberOfTrailingZeros_22 mi_Integer_numberOfTrailingZeros wd_950 wd_951 (by omega) rfl rfl (Nat.le_of_ble_eq_true rfl) ?_
    refine Call.post ?_ (cf_Integer_numberOfTrailingZeros_ok (by omega) v1  w _ h)
    rintro _ _ ⟨r2, rfl, rfl, h⟩
    show wp g (fun _ => True) y_Long_numberOfTrailingZeros prog_16_method_49_code 3 (some FieldType.int) d 25 [(2, .int v1), (0, .long a0)] [.int r2] w Q
    exact am_ireturn d_Long_numberOfTrailingZeros_25 rfl rfl (hQ r2 h)
  · have h := h.2 c4
    refine am_bipush (v := 32) d_Long_numberOfTrailingZeros_7 rfl ?_
    refine am_lload_n d_Long_numberOfTrailingZeros_9 1 rfl ?_
    refine am_bipush (v := 32) d_Long_numberOfTrailingZeros_10 rfl ?_
    refine am_lushr d_Long_numberOfTrailingZeros_12 ?_
    refine am_l2i d_Long_numberOfTrailingZeros_13 ?_
    refine am_callS (d2 := d - 1) [.int ((lushr a0 (32 : Int32)).toInt32)] d_Long_numberOfTrailingZeros_14 mi_Integer_numberOfTrailingZeros wd_950 wd_951 (by omega) rfl rfl (Nat.le_of_ble_eq_true rfl) ?_
    refine Call.post ?_ (cf_Integer_numberOfTrailingZeros_ok (by omega) ((lushr a0 (32 : Int32)).toInt32)  w _ h)
    rintro _ _ ⟨r3, rfl, rfl, h⟩
    show wp g (fun _ => True) y_Long_numberOfTrailingZeros prog_16_method_49_code 3 (some FieldType.int) d 17 [(2, .int v1), (0, .long a0)] [.int r3, .int (32 : Int32)] w Q
    refine am_iadd d_Long_numberOfTrailingZeros_17 ?_
    refine am_goto (tgt := 25) d_Long_numberOfTrailingZeros_18 (by decide) ?_
    exact am_ireturn d_Long_numberOfTrailingZeros_25 rfl rfl (hQ ((32 : Int32) + r3) h)
