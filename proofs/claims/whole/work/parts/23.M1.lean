-- bytecode as predicates, by program (wip/whole/gen/extract.py)
theorem mi_M_in : ay_MI y_M_in prog_14_method_2_code 6 (some FieldType.boolean) 3 := ⟨wd_1194, wd_11, by decide +kernel, by decide +kernel, by decide⟩
theorem mi_M_isPlace : ay_MI y_M_isPlace prog_14_method_3_code 1 (some FieldType.boolean) 1 := ⟨wd_1190, wd_11, by decide +kernel, by decide +kernel, by decide⟩
theorem mi_M_degree : ay_MI y_M_degree prog_14_method_4_code 5 (some FieldType.int) 1 := ⟨wd_1208, wd_11, by decide +kernel, by decide +kernel, by decide⟩
theorem mi_M_has : ay_MI y_M_has prog_14_method_5_code 3 (some FieldType.boolean) 2 := ⟨wd_1214, wd_11, by decide +kernel, by decide +kernel, by decide⟩
theorem mi_M_weight : ay_MI y_M_weight prog_14_method_6_code 4 (some FieldType.int) 1 := ⟨wd_1220, wd_11, by decide +kernel, by decide +kernel, by decide⟩
theorem mi_M_product : ay_MI y_M_product prog_14_method_7_code 7 (some FieldType.long) 2 := ⟨wd_1258, wd_11, by decide +kernel, by decide +kernel, by decide⟩
theorem mi_M_restOf : ay_MI y_M_restOf prog_14_method_8_code 8 (some FieldType.long) 2 := ⟨wd_1211, wd_11, by decide +kernel, by decide +kernel, by decide⟩
theorem mi_M_quotient : ay_MI y_M_quotient prog_14_method_9_code 10 (some FieldType.long) 2 := ⟨wd_1217, wd_11, by decide +kernel, by decide +kernel, by decide⟩
theorem mi_M_commonOf : ay_MI y_M_commonOf prog_14_method_10_code 4 (some FieldType.long) 2 := ⟨wd_1454, wd_11, by decide +kernel, by decide +kernel, by decide⟩
theorem mi_M_timesBy : ay_MI y_M_timesBy prog_14_method_11_code 6 (some FieldType.long) 3 := ⟨wd_1255, wd_11, by decide +kernel, by decide +kernel, by decide⟩
theorem mi_M_powerBy : ay_MI y_M_powerBy prog_14_method_12_code 9 (some FieldType.long) 3 := ⟨wd_1252, wd_11, by decide +kernel, by decide +kernel, by decide⟩
theorem mi_M_insideBy : ay_MI y_M_insideBy prog_14_method_13_code 9 (some FieldType.long) 3 := ⟨wd_1367, wd_11, by decide +kernel, by decide +kernel, by decide⟩
theorem mi_M_movedOf : ay_MI y_M_movedOf prog_14_method_14_code 5 (some FieldType.long) 1 := ⟨wd_1465, wd_11, by decide +kernel, by decide +kernel, by decide⟩
theorem mi_M_risenOf : ay_MI y_M_risenOf prog_14_method_15_code 6 (some FieldType.long) 2 := ⟨wd_1483, wd_11, by decide +kernel, by decide +kernel, by decide⟩
theorem mi_M_reversed : ay_MI y_M_reversed prog_14_method_16_code 6 (some FieldType.long) 1 := ⟨wd_1640, wd_11, by decide +kernel, by decide +kernel, by decide⟩
theorem mi_M_derived : ay_MI y_M_derived prog_14_method_17_code 5 (some FieldType.long) 1 := ⟨wd_1648, wd_11, by decide +kernel, by decide +kernel, by decide⟩
theorem mi_M_tri : ay_MI y_M_tri prog_14_method_18_code 2 (some FieldType.long) 2 := ⟨wd_1308, wd_11, by decide +kernel, by decide +kernel, by decide⟩
theorem mi_M_laysFactors : ay_MI y_M_laysFactors prog_14_method_19_code 7 none 1 := ⟨wd_1204, wd_11, by decide +kernel, by decide +kernel, by decide⟩
theorem mi_M_isIrreducible : ay_MI y_M_isIrreducible prog_14_method_20_code 3 (some FieldType.boolean) 1 := ⟨wd_1235, wd_11, by decide +kernel, by decide +kernel, by decide⟩
theorem mi_M_unlikeFactors : ay_MI y_M_unlikeFactors prog_14_method_21_code 3 (some FieldType.int) 0 := ⟨wd_1262, wd_11, by decide +kernel, by decide +kernel, by decide⟩
theorem mi_M_oftenest : ay_MI y_M_oftenest prog_14_method_22_code 4 (some FieldType.int) 0 := ⟨wd_1224, wd_11, by decide +kernel, by decide +kernel, by decide⟩
theorem mi_M_commonNumber : ay_MI y_M_commonNumber prog_14_method_23_code 4 (some FieldType.long) 2 := ⟨wd_1245, wd_11, by decide +kernel, by decide +kernel, by decide⟩
theorem mi_M_laysPrimes : ay_MI y_M_laysPrimes prog_14_method_24_code 7 none 1 := ⟨wd_1249, wd_11, by decide +kernel, by decide +kernel, by decide⟩
theorem mi_M_allOnes : ay_MI y_M_allOnes prog_14_method_25_code 1 (some FieldType.long) 1 := ⟨wd_1242, wd_11, by decide +kernel, by decide +kernel, by decide⟩
theorem mi_M_orderOf : ay_MI y_M_orderOf prog_14_method_26_code 8 (some FieldType.long) 1 := ⟨wd_1239, wd_11, by decide +kernel, by decide +kernel, by decide⟩
theorem mi_M_hasOrder : ay_MI y_M_hasOrder prog_14_method_27_code 2 (some FieldType.boolean) 1 := ⟨wd_1231, wd_11, by decide +kernel, by decide +kernel, by decide⟩
theorem mi_M_isPrimitive : ay_MI y_M_isPrimitive prog_14_method_28_code 3 (some FieldType.boolean) 1 := ⟨wd_1228, wd_11, by decide +kernel, by decide +kernel, by decide⟩
theorem mi_M_isGood : ay_MI y_M_isGood prog_14_method_29_code 4 (some FieldType.boolean) 2 := ⟨wd_1312, wd_11, by decide +kernel, by decide +kernel, by decide⟩
theorem mi_M_bits : ay_MI y_M_bits prog_14_method_30_code 2 (some FieldType.long) 1 := ⟨wd_1187, wd_11, by decide +kernel, by decide +kernel, by decide⟩
theorem mi_M_poly : ay_MI y_M_poly prog_14_method_31_code 5 (some FieldType.int) 2 := ⟨wd_1198, wd_11, by decide +kernel, by decide +kernel, by decide⟩
theorem mi_M_factor : ay_MI y_M_factor prog_14_method_32_code 3 (some FieldType.long) 2 := ⟨wd_1266, wd_11, by decide +kernel, by decide +kernel, by decide⟩
theorem mi_M_ofDegree : ay_MI y_M_ofDegree prog_14_method_33_code 5 (some FieldType.int) 2 := ⟨wd_1271, wd_11, by decide +kernel, by decide +kernel, by decide⟩
theorem mi_M_order : ay_MI y_M_order prog_14_method_34_code 2 (some FieldType.long) 1 := ⟨wd_1276, wd_11, by decide +kernel, by decide +kernel, by decide⟩
theorem mi_M_radical : ay_MI y_M_radical prog_14_method_36_code 6 (some FieldType.long) 1 := ⟨wd_1284, wd_11, by decide +kernel, by decide +kernel, by decide⟩
theorem mi_M_akin : ay_MI y_M_akin prog_14_method_35_code 3 (some FieldType.int) 2 := ⟨wd_1280, wd_11, by decide +kernel, by decide +kernel, by decide⟩
theorem mi_M_swanOf : ay_MI y_M_swanOf prog_14_method_37_code 4 (some FieldType.int) 2 := ⟨wd_1292, wd_11, by decide +kernel, by decide +kernel, by decide⟩
theorem mi_M_swan : ay_MI y_M_swan prog_14_method_38_code 3 (some FieldType.int) 2 := ⟨wd_1288, wd_11, by decide +kernel, by decide +kernel, by decide⟩
theorem mi_M_evens : ay_MI y_M_evens prog_14_method_39_code 4 (some FieldType.int) 1 := ⟨wd_1296, wd_11, by decide +kernel, by decide +kernel, by decide⟩
theorem mi_M_multiple : ay_MI y_M_multiple prog_14_method_40_code 7 (some FieldType.int) 2 := ⟨wd_1300, wd_11, by decide +kernel, by decide +kernel, by decide⟩
theorem mi_M_trinomial : ay_MI y_M_trinomial prog_14_method_41_code 6 (some FieldType.int) 3 := ⟨wd_1304, wd_11, by decide +kernel, by decide +kernel, by decide⟩
theorem mi_M_least : ay_MI y_M_least prog_14_method_42_code 8 (some FieldType.long) 2 := ⟨wd_1316, wd_11, by decide +kernel, by decide +kernel, by decide⟩
theorem mi_M_moebius : ay_MI y_M_moebius prog_14_method_43_code 4 (some FieldType.int) 1 := ⟨wd_1329, wd_11, by decide +kernel, by decide +kernel, by decide⟩
theorem mi_M_coprimes : ay_MI y_M_coprimes prog_14_method_44_code 6 (some FieldType.long) 1 := ⟨wd_1325, wd_11, by decide +kernel, by decide +kernel, by decide⟩
theorem mi_M_many : ay_MI y_M_many prog_14_method_45_code 6 (some FieldType.long) 2 := ⟨wd_1321, wd_11, by decide +kernel, by decide +kernel, by decide⟩
theorem mi_M_stays : ay_MI y_M_stays prog_14_method_46_code 11 (some FieldType.int) 3 := ⟨wd_1333, wd_11, by decide +kernel, by decide +kernel, by decide⟩
theorem mi_M_bare : ay_MI y_M_bare prog_14_method_47_code 3 (some FieldType.int) 1 := ⟨wd_1338, wd_11, by decide +kernel, by decide +kernel, by decide⟩
theorem mi_M_isIn : ay_MI y_M_isIn prog_14_method_48_code 3 (some FieldType.boolean) 2 := ⟨wd_1347, wd_11, by decide +kernel, by decide +kernel, by decide⟩
theorem mi_M_minimal : ay_MI y_M_minimal prog_14_method_49_code 14 (some FieldType.long) 2 := ⟨wd_1343, wd_11, by decide +kernel, by decide +kernel, by decide⟩
theorem mi_M_trace : ay_MI y_M_trace prog_14_method_50_code 10 (some FieldType.int) 2 := ⟨wd_1351, wd_11, by decide +kernel, by decide +kernel, by decide⟩
theorem mi_M_conjugates : ay_MI y_M_conjugates prog_14_method_51_code 8 (some FieldType.int) 2 := ⟨wd_1355, wd_11, by decide +kernel, by decide +kernel, by decide⟩
theorem mi_M_log : ay_MI y_M_log prog_14_method_52_code 9 (some FieldType.long) 3 := ⟨wd_1359, wd_11, by decide +kernel, by decide +kernel, by decide⟩
theorem mi_M_roots : ay_MI y_M_roots prog_14_method_53_code 8 (some FieldType.int) 2 := ⟨wd_1364, wd_11, by decide +kernel, by decide +kernel, by decide⟩
theorem mi_M_isRule : ay_MI y_M_isRule prog_14_method_54_code 12 (some FieldType.boolean) 3 := ⟨wd_1376, wd_11, by decide +kernel, by decide +kernel, by decide⟩
theorem mi_M_shortest : ay_MI y_M_shortest prog_14_method_55_code 6 (some FieldType.long) 3 := ⟨wd_1371, wd_11, by decide +kernel, by decide +kernel, by decide⟩
theorem mi_M_isRegister : ay_MI y_M_isRegister prog_14_method_56_code 1 (some FieldType.boolean) 0 := ⟨wd_1385, wd_11, by decide +kernel, by decide +kernel, by decide⟩
theorem mi_M_stepped : ay_MI y_M_stepped prog_14_method_57_code 6 (some FieldType.long) 1 := ⟨wd_1397, wd_11, by decide +kernel, by decide +kernel, by decide⟩
theorem mi_M_done : ay_MI y_M_done prog_14_method_58_code 7 (some FieldType.long) 2 := ⟨wd_1401, wd_11, by decide +kernel, by decide +kernel, by decide⟩
theorem mi_M_steppedOn : ay_MI y_M_steppedOn prog_14_method_59_code 11 (some FieldType.long) 2 := ⟨wd_1393, wd_11, by decide +kernel, by decide +kernel, by decide⟩
theorem mi_M_period : ay_MI y_M_period prog_14_method_60_code 4 (some FieldType.long) 0 := ⟨wd_1389, wd_11, by decide +kernel, by decide +kernel, by decide⟩
theorem mi_M_shift : ay_MI y_M_shift prog_14_method_61_code 2 (some FieldType.long) 1 := ⟨wd_1381, wd_11, by decide +kernel, by decide +kernel, by decide⟩
theorem mi_M_keepsAct : ay_MI y_M_keepsAct prog_14_method_65_code 2 none 0 := ⟨wd_1410, wd_11, by decide +kernel, by decide +kernel, by decide⟩
theorem d_M_in_0 : decode prog_14_method_2_code 0 = .ok (.lload_n 0, 1) := by decide +kernel
theorem d_M_in_1 : decode prog_14_method_2_code 1 = .ok (.lload_n 2, 1) := by decide +kernel
theorem d_M_in_2 : decode prog_14_method_2_code 2 = .ok (.lcmp, 1) := by decide +kernel
theorem d_M_in_3 : decode prog_14_method_2_code 3 = .ok (.ifCond .lt 14, 3) := by decide +kernel
theorem d_M_in_6 : decode prog_14_method_2_code 6 = .ok (.lload_n 0, 1) := by decide +kernel
theorem d_M_in_7 : decode prog_14_method_2_code 7 = .ok (.lload 4, 2) := by decide +kernel
theorem d_M_in_9 : decode prog_14_method_2_code 9 = .ok (.lcmp, 1) := by decide +kernel
theorem d_M_in_10 : decode prog_14_method_2_code 10 = .ok (.ifCond .gt 7, 3) := by decide +kernel
theorem d_M_in_13 : decode prog_14_method_2_code 13 = .ok (.iconst 1, 1) := by decide +kernel
theorem d_M_in_14 : decode prog_14_method_2_code 14 = .ok (.goto 4, 3) := by decide +kernel
theorem d_M_in_17 : decode prog_14_method_2_code 17 = .ok (.iconst 0, 1) := by decide +kernel
theorem d_M_in_18 : decode prog_14_method_2_code 18 = .ok (.ireturn, 1) := by decide +kernel
def cf_M_in (a0 : Int64) (a1 : Int64) (a2 : Int64) (P : Int32 → Prop) : Prop :=
  ((a0 < a1 → P (0 : Int32)) ∧ (¬ a0 < a1 → ((a2 < a0 → P (0 : Int32)) ∧ (¬ a2 < a0 → P (1 : Int32)))))
theorem cf_M_in_ok {g : ayG} {d : Nat} (hd : 0 ≤ d) (a0 : Int64) (a1 : Int64) (a2 : Int64)  (w : Wd) (P : Int32 → Prop) (h : cf_M_in a0 a1 a2 P) : Call g y_M_in prog_14_method_2_code 6 (some FieldType.boolean) d [.long a0, .long a1, .long a2] w (fun (r : Option Value) (w2 : Wd) => ∃ x, r = some (.int x) ∧ w = w2 ∧ P x) := by
  unfold cf_M_in at h
  refine am_enter mi_M_in (Nat.le_of_ble_eq_true rfl) ?_
  have hQ : ∀ x, P x → (fun (r : Option Value) (w2 : Wd) => ∃ x, r = some (.int x) ∧ w = w2 ∧ P x) (some (.int x)) w := fun x h => ⟨x, rfl, rfl, h⟩
  generalize (fun (r : Option Value) (w2 : Wd) => ∃ x, r = some (.int x) ∧ w = w2 ∧ P x) = Q at hQ ⊢
  show wp g (fun _ => True) y_M_in prog_14_method_2_code 6 (some FieldType.boolean) d 0 [(0, .long a0), (2, .long a1), (4, .long a2)] [] w Q
  refine am_lload_n d_M_in_0 0 rfl ?_
  refine am_lload_n d_M_in_1 1 rfl ?_
  refine am_lif_lt (tgt := 17) d_M_in_2 d_M_in_3 (by decide) (fun c2 => ?_) (fun c2 => ?_)
  · have h := h.1 c2
    refine am_iconst (v := 0) d_M_in_17 rfl ?_
    exact am_ireturn d_M_in_18 rfl rfl (hQ (0 : Int32) h)
  · have h := h.2 c2
    refine am_lload_n d_M_in_6 0 rfl ?_
    refine am_lload d_M_in_7 2 rfl ?_
    refine am_lif_gt (tgt := 17) d_M_in_9 d_M_in_10 (by decide) (fun c9 => ?_) (fun c9 => ?_)
    · have h := h.1 c9
      refine am_iconst (v := 0) d_M_in_17 rfl ?_
      exact am_ireturn d_M_in_18 rfl rfl (hQ (0 : Int32) h)
    · have h := h.2 c9
      refine am_iconst (v := 1) d_M_in_13 rfl ?_
      refine am_goto (tgt := 18) d_M_in_14 (by decide) ?_
      exact am_ireturn d_M_in_18 rfl rfl (hQ (1 : Int32) h)
theorem d_M_isPlace_0 : decode prog_14_method_3_code 0 = .ok (.iload_n 0, 1) := by decide +kernel
theorem d_M_isPlace_1 : decode prog_14_method_3_code 1 = .ok (.i2l, 1) := by decide +kernel
theorem d_M_isPlace_2 : decode prog_14_method_3_code 2 = .ok (.lconst 0, 1) := by decide +kernel
theorem d_M_isPlace_3 : decode prog_14_method_3_code 3 = .ok (.ldc2_w 74, 3) := by decide +kernel
theorem d_M_isPlace_6 : decode prog_14_method_3_code 6 = .ok (.invokestatic 76, 3) := by decide +kernel
theorem d_M_isPlace_9 : decode prog_14_method_3_code 9 = .ok (.ireturn, 1) := by decide +kernel
def cf_M_isPlace (a0 : Int32) (P : Int32 → Prop) : Prop :=
  cf_M_in a0.toInt64 (0 : Int64) (9 : Int64) (fun r1 => (r1 = 0 ∨ r1 = 1) ∧ P r1)
theorem cf_M_isPlace_ok {g : ayG} {d : Nat} (hd : 1 ≤ d) (a0 : Int32)  (w : Wd) (P : Int32 → Prop) (h : cf_M_isPlace a0 P) : Call g y_M_isPlace prog_14_method_3_code 1 (some FieldType.boolean) d [.int a0] w (fun (r : Option Value) (w2 : Wd) => ∃ x, r = some (.int x) ∧ w = w2 ∧ P x) := by
  unfold cf_M_isPlace at h
  refine am_enter mi_M_isPlace (Nat.le_of_ble_eq_true rfl) ?_
  have hQ : ∀ x, P x → (fun (r : Option Value) (w2 : Wd) => ∃ x, r = some (.int x) ∧ w = w2 ∧ P x) (some (.int x)) w := fun x h => ⟨x, rfl, rfl, h⟩
  generalize (fun (r : Option Value) (w2 : Wd) => ∃ x, r = some (.int x) ∧ w = w2 ∧ P x) = Q at hQ ⊢
  show wp g (fun _ => True) y_M_isPlace prog_14_method_3_code 1 (some FieldType.boolean) d 0 [(0, .int a0)] [] w Q
  refine am_iload_n d_M_isPlace_0 0 rfl ?_
  refine am_i2l d_M_isPlace_1 ?_
  refine am_lconst (v := 0) d_M_isPlace_2 rfl ?_
  refine am_ldc2 (v := 9) d_M_isPlace_3 wd_1191 ?_
  refine am_callS (d2 := d - 1) [.long a0.toInt64, .long (0 : Int64), .long (9 : Int64)] d_M_isPlace_6 mi_M_in wd_1192 wd_1193 (by omega) rfl rfl (Nat.le_of_ble_eq_true rfl) ?_
  refine Call.post ?_ (cf_M_in_ok (by omega) a0.toInt64 (0 : Int64) (9 : Int64)  w _ h)
  rintro _ _ ⟨r1, rfl, rfl, h⟩
  show wp g (fun _ => True) y_M_isPlace prog_14_method_3_code 1 (some FieldType.boolean) d 9 [(0, .int a0)] [.int r1] w Q
  exact am_ireturn d_M_isPlace_9 rfl (ay_nb h.1) (hQ r1 h.2)
theorem d_M_degree_0 : decode prog_14_method_4_code 0 = .ok (.iconst (-1), 1) := by decide +kernel
theorem d_M_degree_1 : decode prog_14_method_4_code 1 = .ok (.istore_n 2, 1) := by decide +kernel
theorem d_M_degree_2 : decode prog_14_method_4_code 2 = .ok (.lload_n 0, 1) := by decide +kernel
theorem d_M_degree_3 : decode prog_14_method_4_code 3 = .ok (.lstore_n 3, 1) := by decide +kernel
theorem d_M_degree_4 : decode prog_14_method_4_code 4 = .ok (.lload_n 3, 1) := by decide +kernel
theorem d_M_degree_5 : decode prog_14_method_4_code 5 = .ok (.lconst 0, 1) := by decide +kernel
theorem d_M_degree_6 : decode prog_14_method_4_code 6 = .ok (.lcmp, 1) := by decide +kernel
theorem d_M_degree_7 : decode prog_14_method_4_code 7 = .ok (.ifCond .eq 13, 3) := by decide +kernel
theorem d_M_degree_10 : decode prog_14_method_4_code 10 = .ok (.iinc 2 1, 3) := by decide +kernel
theorem d_M_degree_13 : decode prog_14_method_4_code 13 = .ok (.lload_n 3, 1) := by decide +kernel
theorem d_M_degree_14 : decode prog_14_method_4_code 14 = .ok (.iconst 1, 1) := by decide +kernel
theorem d_M_degree_15 : decode prog_14_method_4_code 15 = .ok (.lushr, 1) := by decide +kernel
theorem d_M_degree_16 : decode prog_14_method_4_code 16 = .ok (.lstore_n 3, 1) := by decide +kernel
theorem d_M_degree_17 : decode prog_14_method_4_code 17 = .ok (.goto (-13), 3) := by decide +kernel
theorem d_M_degree_20 : decode prog_14_method_4_code 20 = .ok (.iload_n 2, 1) := by decide +kernel
theorem d_M_degree_21 : decode prog_14_method_4_code 21 = .ok (.ireturn, 1) := by decide +kernel
def cf_M_degree_B4  (K4 : Int32 → Int64 → Prop) (P : Int32 → Prop) (x2 : Int32) (x3 : Int64)  : Prop :=
  ((x3 = (0 : Int64) → P x2) ∧ (¬ x3 = (0 : Int64) → ∀ v1, v1 = x2 + (1 : Int32) → ∀ v2, v2 = lushr x3 (1 : Int32) → K4 v1 v2))
def cf_M_degree_L4   (P : Int32 → Prop) : Nat → Int32 → Int64 → Prop
  | 0 => fun x2 x3 => False
  | n + 1 => fun x2 x3 => cf_M_degree_B4 (cf_M_degree_L4 P n) P x2 x3
def cf_M_degree (a0 : Int64) (P : Int32 → Prop) : Prop :=
  ∃ n, cf_M_degree_L4 P n (-1 : Int32) a0
theorem cf_M_degree_B4_ok {g : ayG} {d : Nat} (hd : 0 ≤ d)   (w : Wd) (K4 : Int32 → Int64 → Prop) (P : Int32 → Prop) (Q : Option Value → Wd → Prop) (hQ : ∀ x, P x → Q (some (.int x)) w) (hK4 : ∀ (x2 : Int32) (x3 : Int64), (K4 x2 x3 → wp g (fun _ => True) y_M_degree prog_14_method_4_code 5 (some FieldType.int) d 4 [(2, .int x2), (3, .long x3)] [] w Q)) (x2 : Int32) (x3 : Int64) (h : cf_M_degree_B4 K4 P x2 x3) : wp g (fun _ => True) y_M_degree prog_14_method_4_code 5 (some FieldType.int) d 4 [(2, .int x2), (3, .long x3)] [] w Q := by
  unfold cf_M_degree_B4 at h
  refine am_lload_n d_M_degree_4 1 rfl ?_
  refine am_lconst (v := 0) d_M_degree_5 rfl ?_
  refine am_lif_eq (tgt := 20) d_M_degree_6 d_M_degree_7 (by decide) (fun c6 => ?_) (fun c6 => ?_)
  · have h := h.1 c6
    refine am_iload_n d_M_degree_20 0 rfl ?_
    exact am_ireturn d_M_degree_21 rfl rfl (hQ x2 h)
  · have h := h.2 c6
    obtain ⟨v1, ev1⟩ : ∃ z : Int32, z = x2 + (1 : Int32) := ⟨_, rfl⟩
    have h := h v1 ev1
    refine am_iinc (v := v1) (l' := [(2, .int v1), (3, .long x3)]) d_M_degree_10 0 rfl (by rw [ev1]; rfl) (by decide) rfl ?_
    refine am_lload_n d_M_degree_13 1 rfl ?_
    refine am_iconst (v := 1) d_M_degree_14 rfl ?_
    refine am_lushr d_M_degree_15 ?_
    refine am_topl (fun v2 ev2 => ?_)
    have h := h v2 ev2
    refine am_lstore_n (l' := [(3, .long v2), (2, .int v1)]) d_M_degree_16 (by decide) rfl ?_
    refine am_goto (tgt := 4) d_M_degree_17 (by decide) ?_
    refine am_sub [1, 0] rfl ?_
    exact hK4 v1 v2 h
theorem cf_M_degree_L4_ok {g : ayG} {d : Nat} (hd : 0 ≤ d)   (w : Wd)  (P : Int32 → Prop) (Q : Option Value → Wd → Prop) (hQ : ∀ x, P x → Q (some (.int x)) w)  : ∀ (n : Nat) (x2 : Int32) (x3 : Int64) (h : cf_M_degree_L4 P n x2 x3), wp g (fun _ => True) y_M_degree prog_14_method_4_code 5 (some FieldType.int) d 4 [(2, .int x2), (3, .long x3)] [] w Q
  | 0, x2, x3, h => False.elim h
  | n + 1, x2, x3, h => cf_M_degree_B4_ok hd   w (cf_M_degree_L4 P n) P Q hQ (fun x2 x3 h => cf_M_degree_L4_ok hd   w  P Q hQ  n x2 x3 h) x2 x3 h
theorem cf_M_degree_ok {g : ayG} {d : Nat} (hd : 0 ≤ d) (a0 : Int64)  (w : Wd) (P : Int32 → Prop) (h : cf_M_degree a0 P) : Call g y_M_degree prog_14_method_4_code 5 (some FieldType.int) d [.long a0] w (fun (r : Option Value) (w2 : Wd) => ∃ x, r = some (.int x) ∧ w = w2 ∧ P x) := by
  unfold cf_M_degree at h
  refine am_enter mi_M_degree (Nat.le_of_ble_eq_true rfl) ?_
  have hQ : ∀ x, P x → (fun (r : Option Value) (w2 : Wd) => ∃ x, r = some (.int x) ∧ w = w2 ∧ P x) (some (.int x)) w := fun x h => ⟨x, rfl, rfl, h⟩
  generalize (fun (r : Option Value) (w2 : Wd) => ∃ x, r = some (.int x) ∧ w = w2 ∧ P x) = Q at hQ ⊢
  show wp g (fun _ => True) y_M_degree prog_14_method_4_code 5 (some FieldType.int) d 0 [(0, .long a0)] [] w Q
  refine am_iconst (v := -1) d_M_degree_0 rfl ?_
  refine am_istore_n (l' := [(2, .int (-1 : Int32)), (0, .long a0)]) d_M_degree_1 (by decide) rfl ?_
  refine am_lload_n d_M_degree_2 1 rfl ?_
  refine am_lstore_n (l' := [(3, .long a0), (2, .int (-1 : Int32)), (0, .long a0)]) d_M_degree_3 (by decide) rfl ?_
  refine am_sub [1, 0] rfl ?_
  obtain ⟨n, h⟩ := h
  exact cf_M_degree_L4_ok (by omega)   w  P Q hQ  n (-1 : Int32) a0 h
theorem d_M_has_0 : decode prog_14_method_5_code 0 = .ok (.lload_n 0, 1) := by decide +kernel
theorem d_M_has_1 : decode prog_14_method_5_code 1 = .ok (.iload_n 2, 1) := by decide +kernel
theorem d_M_has_2 : decode prog_14_method_5_code 2 = .ok (.lushr, 1) := by decide +kernel
theorem d_M_has_3 : decode prog_14_method_5_code 3 = .ok (.lconst 1, 1) := by decide +kernel
theorem d_M_has_4 : decode prog_14_method_5_code 4 = .ok (.land, 1) := by decide +kernel
theorem d_M_has_5 : decode prog_14_method_5_code 5 = .ok (.lconst 1, 1) := by decide +kernel
theorem d_M_has_6 : decode prog_14_method_5_code 6 = .ok (.lcmp, 1) := by decide +kernel
theorem d_M_has_7 : decode prog_14_method_5_code 7 = .ok (.ifCond .ne 7, 3) := by decide +kernel
theorem d_M_has_10 : decode prog_14_method_5_code 10 = .ok (.iconst 1, 1) := by decide +kernel
theorem d_M_has_11 : decode prog_14_method_5_code 11 = .ok (.goto 4, 3) := by decide +kernel
theorem d_M_has_14 : decode prog_14_method_5_code 14 = .ok (.iconst 0, 1) := by decide +kernel
theorem d_M_has_15 : decode prog_14_method_5_code 15 = .ok (.ireturn, 1) := by decide +kernel
def cf_M_has (a0 : Int64) (a1 : Int32) (P : Int32 → Prop) : Prop :=
  ((¬ ((lushr a0 a1) &&& (1 : Int64)) = (1 : Int64) → P (0 : Int32)) ∧ (((lushr a0 a1) &&& (1 : Int64)) = (1 : Int64) → P (1 : Int32)))
theorem cf_M_has_ok {g : ayG} {d : Nat} (hd : 0 ≤ d) (a0 : Int64) (a1 : Int32)  (w : Wd) (P : Int32 → Prop) (h : cf_M_has a0 a1 P) : Call g y_M_has prog_14_method_5_code 3 (some FieldType.boolean) d [.long a0, .int a1] w (fun (r : Option Value) (w2 : Wd) => ∃ x, r = some (.int x) ∧ w = w2 ∧ P x) := by
  unfold cf_M_has at h
  refine am_enter mi_M_has (Nat.le_of_ble_eq_true rfl) ?_
  have hQ : ∀ x, P x → (fun (r : Option Value) (w2 : Wd) => ∃ x, r = some (.int x) ∧ w = w2 ∧ P x) (some (.int x)) w := fun x h => ⟨x, rfl, rfl, h⟩
  generalize (fun (r : Option Value) (w2 : Wd) => ∃ x, r = some (.int x) ∧ w = w2 ∧ P x) = Q at hQ ⊢
  show wp g (fun _ => True) y_M_has prog_14_method_5_code 3 (some FieldType.boolean) d 0 [(0, .long a0), (2, .int a1)] [] w Q
  refine am_lload_n d_M_has_0 0 rfl ?_
  refine am_iload_n d_M_has_1 1 rfl ?_
  refine am_lushr d_M_has_2 ?_
  refine am_lconst (v := 1) d_M_has_3 rfl ?_
  refine am_land d_M_has_4 ?_
  refine am_lconst (v := 1) d_M_has_5 rfl ?_
  refine am_lif_ne (tgt := 14) d_M_has_6 d_M_has_7 (by decide) (fun c6 => ?_) (fun c6 => ?_)
  · have h := h.1 c6
    refine am_iconst (v := 0) d_M_has_14 rfl ?_
    exact am_ireturn d_M_has_15 rfl rfl (hQ (0 : Int32) h)
  · have h := h.2 c6
    refine am_iconst (v := 1) d_M_has_10 rfl ?_
    refine am_goto (tgt := 15) d_M_has_11 (by decide) ?_
    exact am_ireturn d_M_has_15 rfl rfl (hQ (1 : Int32) h)
theorem d_M_weight_0 : decode prog_14_method_6_code 0 = .ok (.iconst 0, 1) := by decide +kernel
theorem d_M_weight_1 : decode prog_14_method_6_code 1 = .ok (.istore_n 2, 1) := by decide +kernel
theorem d_M_weight_2 : decode prog_14_method_6_code 2 = .ok (.iconst 0, 1) := by decide +kernel
theorem d_M_weight_3 : decode prog_14_method_6_code 3 = .ok (.istore_n 3, 1) := by decide +kernel
theorem d_M_weight_4 : decode prog_14_method_6_code 4 = .ok (.iload_n 3, 1) := by decide +kernel
theorem d_M_weight_5 : decode prog_14_method_6_code 5 = .ok (.bipush 64, 2) := by decide +kernel
theorem d_M_weight_7 : decode prog_14_method_6_code 7 = .ok (.if_icmp .ge 25, 3) := by decide +kernel
theorem d_M_weight_10 : decode prog_14_method_6_code 10 = .ok (.iload_n 2, 1) := by decide +kernel
theorem d_M_weight_11 : decode prog_14_method_6_code 11 = .ok (.lload_n 0, 1) := by decide +kernel
theorem d_M_weight_12 : decode prog_14_method_6_code 12 = .ok (.iload_n 3, 1) := by decide +kernel
theorem d_M_weight_13 : decode prog_14_method_6_code 13 = .ok (.invokestatic 80, 3) := by decide +kernel
theorem d_M_weight_16 : decode prog_14_method_6_code 16 = .ok (.ifCond .eq 7, 3) := by decide +kernel
theorem d_M_weight_19 : decode prog_14_method_6_code 19 = .ok (.iconst 1, 1) := by decide +kernel
theorem d_M_weight_20 : decode prog_14_method_6_code 20 = .ok (.goto 4, 3) := by decide +kernel
theorem d_M_weight_23 : decode prog_14_method_6_code 23 = .ok (.iconst 0, 1) := by decide +kernel
theorem d_M_weight_24 : decode prog_14_method_6_code 24 = .ok (.iadd, 1) := by decide +kernel
theorem d_M_weight_25 : decode prog_14_method_6_code 25 = .ok (.istore_n 2, 1) := by decide +kernel
theorem d_M_weight_26 : decode prog_14_method_6_code 26 = .ok (.iinc 3 1, 3) := by decide +kernel
theorem d_M_weight_29 : decode prog_14_method_6_code 29 = .ok (.goto (-25), 3) := by decide +kernel
theorem d_M_weight_32 : decode prog_14_method_6_code 32 = .ok (.iload_n 2, 1) := by decide +kernel
theorem d_M_weight_33 : decode prog_14_method_6_code 33 = .ok (.ireturn, 1) := by decide +kernel
def cf_M_weight_B4  (K4 : Int64 → Int32 → Int32 → Prop) (P : Int32 → Prop) (x0 : Int64) (x2 : Int32) (x3 : Int32)  : Prop :=
  (((64 : Int32) ≤ x3 → P x2) ∧ (¬ (64 : Int32) ≤ x3 → cf_M_has x0 x3 (fun r1 => ((r1 = 0 → ∀ v2, v2 = x2 + (0 : Int32) → ∀ v3, v3 = x3 + (1 : Int32) → K4 x0 v2 v3) ∧ (¬ r1 = 0 → ∀ v4, v4 = x2 + (1 : Int32) → ∀ v5, v5 = x3 + (1 : Int32) → K4 x0 v4 v5)))))
def cf_M_weight_L4   (P : Int32 → Prop) : Nat → Int64 → Int32 → Int32 → Prop
  | 0 => fun x0 x2 x3 => False
  | n + 1 => fun x0 x2 x3 => cf_M_weight_B4 (cf_M_weight_L4 P n) P x0 x2 x3
def cf_M_weight (a0 : Int64) (P : Int32 → Prop) : Prop :=
  ∃ n, cf_M_weight_L4 P n a0 (0 : Int32) (0 : Int32)
theorem cf_M_weight_B4_ok {g : ayG} {d : Nat} (hd : 1 ≤ d)   (w : Wd) (K4 : Int64 → Int32 → Int32 → Prop) (P : Int32 → Prop) (Q : Option Value → Wd → Prop) (hQ : ∀ x, P x → Q (some (.int x)) w) (hK4 : ∀ (x0 : Int64) (x2 : Int32) (x3 : Int32), (K4 x0 x2 x3 → wp g (fun _ => True) y_M_weight prog_14_method_6_code 4 (some FieldType.int) d 4 [(0, .long x0), (2, .int x2), (3, .int x3)] [] w Q)) (x0 : Int64) (x2 : Int32) (x3 : Int32) (h : cf_M_weight_B4 K4 P x0 x2 x3) : wp g (fun _ => True) y_M_weight prog_14_method_6_code 4 (some FieldType.int) d 4 [(0, .long x0), (2, .int x2), (3, .int x3)] [] w Q := by
  unfold cf_M_weight_B4 at h
  refine am_iload_n d_M_weight_4 2 rfl ?_
  refine am_bipush (v := 64) d_M_weight_5 rfl ?_
  refine am_icmp_ge (tgt := 32) d_M_weight_7 (by decide) (fun c7 => ?_) (fun c7 => ?_)
  · have h := h.1 c7
    refine am_iload_n d_M_weight_32 1 rfl ?_
    exact am_ireturn d_M_weight_33 rfl rfl (hQ x2 h)
  · have h := h.2 c7
    refine am_iload_n d_M_weight_10 1 rfl ?_
    refine am_lload_n d_M_weight_11 0 rfl ?_
    refine am_iload_n d_M_weight_12 2 rfl ?_
    refine am_callS (d2 := d - 1) [.long x0, .int x3] d_M_weight_13 mi_M_has wd_1212 wd_1213 (by omega) rfl rfl (Nat.le_of_ble_eq_true rfl) ?_
    refine Call.post ?_ (cf_M_has_ok (by omega) x0 x3  w _ h)
    rintro _ _ ⟨r1, rfl, rfl, h⟩
    show wp g (fun _ => True) y_M_weight prog_14_method_6_code 4 (some FieldType.int) d 16 [(0, .long x0), (2, .int x2), (3, .int x3)] [.int r1, .int x2] w Q
    refine am_if_eq (tgt := 23) d_M_weight_16 (by decide) (fun c16 => ?_) (fun c16 => ?_)
    · have h := h.1 c16
      refine am_iconst (v := 0) d_M_weight_23 rfl ?_
      refine am_iadd d_M_weight_24 ?_
      refine am_topi (fun v2 ev2 => ?_)
      have h := h v2 ev2
      refine am_istore_n (l' := [(2, .int v2), (0, .long x0), (3, .int x3)]) d_M_weight_25 (by decide) rfl ?_
      obtain ⟨v3, ev3⟩ : ∃ z : Int32, z = x3 + (1 : Int32) := ⟨_, rfl⟩
      have h := h v3 ev3
      refine am_iinc (v := v3) (l' := [(3, .int v3), (2, .int v2), (0, .long x0)]) d_M_weight_26 2 rfl (by rw [ev3]; rfl) (by decide) rfl ?_
      refine am_goto (tgt := 4) d_M_weight_29 (by decide) ?_
      refine am_sub [2, 1, 0] rfl ?_
      exact hK4 x0 v2 v3 h
    · have h := h.2 c16
      refine am_iconst (v := 1) d_M_weight_19 rfl ?_
      refine am_goto (tgt := 24) d_M_weight_20 (by decide) ?_
      refine am_iadd d_M_weight_24 ?_
      refine am_topi (fun v4 ev4 => ?_)
      have h := h v4 ev4
      refine am_istore_n (l' := [(2, .int v4), (0, .long x0), (3, .int x3)]) d_M_weight_25 (by decide) rfl ?_
      obtain ⟨v5, ev5⟩ : ∃ z : Int32, z = x3 + (1 : Int32) := ⟨_, rfl⟩
      have h := h v5 ev5
      refine am_iinc (v := v5) (l' := [(3, .int v5), (2, .int v4), (0, .long x0)]) d_M_weight_26 2 rfl (by rw [ev5]; rfl) (by decide) rfl ?_
      refine am_goto (tgt := 4) d_M_weight_29 (by decide) ?_
      refine am_sub [2, 1, 0] rfl ?_
      exact hK4 x0 v4 v5 h
theorem cf_M_weight_L4_ok {g : ayG} {d : Nat} (hd : 1 ≤ d)   (w : Wd)  (P : Int32 → Prop) (Q : Option Value → Wd → Prop) (hQ : ∀ x, P x → Q (some (.int x)) w)  : ∀ (n : Nat) (x0 : Int64) (x2 : Int32) (x3 : Int32) (h : cf_M_weight_L4 P n x0 x2 x3), wp g (fun _ => True) y_M_weight prog_14_method_6_code 4 (some FieldType.int) d 4 [(0, .long x0), (2, .int x2), (3, .int x3)] [] w Q
  | 0, x0, x2, x3, h => False.elim h
  | n + 1, x0, x2, x3, h => cf_M_weight_B4_ok hd   w (cf_M_weight_L4 P n) P Q hQ (fun x0 x2 x3 h => cf_M_weight_L4_ok hd   w  P Q hQ  n x0 x2 x3 h) x0 x2 x3 h
theorem cf_M_weight_ok {g : ayG} {d : Nat} (hd : 1 ≤ d) (a0 : Int64)  (w : Wd) (P : Int32 → Prop) (h : cf_M_weight a0 P) : Call g y_M_weight prog_14_method_6_code 4 (some FieldType.int) d [.long a0] w (fun (r : Option Value) (w2 : Wd) => ∃ x, r = some (.int x) ∧ w = w2 ∧ P x) := by
  unfold cf_M_weight at h
  refine am_enter mi_M_weight (Nat.le_of_ble_eq_true rfl) ?_
  have hQ : ∀ x, P x → (fun (r : Option Value) (w2 : Wd) => ∃ x, r = some (.int x) ∧ w = w2 ∧ P x) (some (.int x)) w := fun x h => ⟨x, rfl, rfl, h⟩
  generalize (fun (r : Option Value) (w2 : Wd) => ∃ x, r = some (.int x) ∧ w = w2 ∧ P x) = Q at hQ ⊢
  show wp g (fun _ => True) y_M_weight prog_14_method_6_code 4 (some FieldType.int) d 0 [(0, .long a0)] [] w Q
  refine am_iconst (v := 0) d_M_weight_0 rfl ?_
  refine am_istore_n (l' := [(2, .int (0 : Int32)), (0, .long a0)]) d_M_weight_1 (by decide) rfl ?_
  refine am_iconst (v := 0) d_M_weight_2 rfl ?_
  refine am_istore_n (l' := [(3, .int (0 : Int32)), (2, .int (0 : Int32)), (0, .long a0)]) d_M_weight_3 (by decide) rfl ?_
  refine am_sub [2, 1, 0] rfl ?_
  obtain ⟨n, h⟩ := h
  exact cf_M_weight_L4_ok (by omega)   w  P Q hQ  n a0 (0 : Int32) (0 : Int32) h
theorem d_M_product_0 : decode prog_14_method_7_code 0 = .ok (.lconst 0, 1) := by decide +kernel
theorem d_M_product_1 : decode prog_14_method_7_code 1 = .ok (.lstore 4, 2) := by decide +kernel
theorem d_M_product_3 : decode prog_14_method_7_code 3 = .ok (.iconst 0, 1) := by decide +kernel
theorem d_M_product_4 : decode prog_14_method_7_code 4 = .ok (.istore 6, 2) := by decide +kernel
theorem d_M_product_6 : decode prog_14_method_7_code 6 = .ok (.iload 6, 2) := by decide +kernel
theorem d_M_product_8 : decode prog_14_method_7_code 8 = .ok (.lload_n 2, 1) := by decide +kernel
theorem d_M_product_9 : decode prog_14_method_7_code 9 = .ok (.invokestatic 84, 3) := by decide +kernel
theorem d_M_product_12 : decode prog_14_method_7_code 12 = .ok (.if_icmp .gt 27, 3) := by decide +kernel
theorem d_M_product_15 : decode prog_14_method_7_code 15 = .ok (.lload_n 2, 1) := by decide +kernel
theorem d_M_product_16 : decode prog_14_method_7_code 16 = .ok (.iload 6, 2) := by decide +kernel
theorem d_M_product_18 : decode prog_14_method_7_code 18 = .ok (.invokestatic 80, 3) := by decide +kernel
theorem d_M_product_21 : decode prog_14_method_7_code 21 = .ok (.ifCond .eq 12, 3) := by decide +kernel
theorem d_M_product_24 : decode prog_14_method_7_code 24 = .ok (.lload 4, 2) := by decide +kernel
theorem d_M_product_26 : decode prog_14_method_7_code 26 = .ok (.lload_n 0, 1) := by decide +kernel
theorem d_M_product_27 : decode prog_14_method_7_code 27 = .ok (.iload 6, 2) := by decide +kernel
theorem d_M_product_29 : decode prog_14_method_7_code 29 = .ok (.lshl, 1) := by decide +kernel
theorem d_M_product_30 : decode prog_14_method_7_code 30 = .ok (.lxor, 1) := by decide +kernel
theorem d_M_product_31 : decode prog_14_method_7_code 31 = .ok (.lstore 4, 2) := by decide +kernel
theorem d_M_product_33 : decode prog_14_method_7_code 33 = .ok (.iinc 6 1, 3) := by decide +kernel
theorem d_M_product_36 : decode prog_14_method_7_code 36 = .ok (.goto (-30), 3) := by decide +kernel
theorem d_M_product_39 : decode prog_14_method_7_code 39 = .ok (.lload 4, 2) := by decide +kernel
theorem d_M_product_41 : decode prog_14_method_7_code 41 = .ok (.lreturn, 1) := by decide +kernel
def cf_M_product_B6  (K6 : Int64 → Int64 → Int64 → Int32 → Prop) (P : Int64 → Prop) (x0 : Int64) (x2 : Int64) (x4 : Int64) (x6 : Int32)  : Prop :=
  cf_M_degree x2 (fun r1 => ((r1 < x6 → P x4) ∧ (¬ r1 < x6 → cf_M_has x2 x6 (fun r2 => ((r2 = 0 → ∀ v3, v3 = x6 + (1 : Int32) → K6 x0 x2 x4 v3) ∧ (¬ r2 = 0 → ∀ v4, v4 = x4 ^^^ (lshl x0 x6) → ∀ v5, v5 = x6 + (1 : Int32) → K6 x0 x2 v4 v5))))))
def cf_M_product_L6   (P : Int64 → Prop) : Nat → Int64 → Int64 → Int64 → Int32 → Prop
  | 0 => fun x0 x2 x4 x6 => False
  | n + 1 => fun x0 x2 x4 x6 => cf_M_product_B6 (cf_M_product_L6 P n) P x0 x2 x4 x6
def cf_M_product (a0 : Int64) (a1 : Int64) (P : Int64 → Prop) : Prop :=
  ∃ n, cf_M_product_L6 P n a0 a1 (0 : Int64) (0 : Int32)
theorem cf_M_product_B6_ok {g : ayG} {d : Nat} (hd : 1 ≤ d)   (w : Wd) (K6 : Int64 → Int64 → Int64 → Int32 → Prop) (P : Int64 → Prop) (Q : Option Value → Wd → Prop) (hQ : ∀ x, P x → Q (some (.long x)) w) (hK6 : ∀ (x0 : Int64) (x2 : Int64) (x4 : Int64) (x6 : Int32), (K6 x0 x2 x4 x6 → wp g (fun _ => True) y_M_product prog_14_method_7_code 7 (some FieldType.long) d 6 [(0, .long x0), (2, .long x2), (4, .long x4), (6, .int x6)] [] w Q)) (x0 : Int64) (x2 : Int64) (x4 : Int64) (x6 : Int32) (h : cf_M_product_B6 K6 P x0 x2 x4 x6) : wp g (fun _ => True) y_M_product prog_14_method_7_code 7 (some FieldType.long) d 6 [(0, .long x0), (2, .long x2), (4, .long x4), (6, .int x6)] [] w Q := by
  unfold cf_M_product_B6 at h
  refine am_iload d_M_product_6 3 rfl ?_
  refine am_lload_n d_M_product_8 1 rfl ?_
  refine am_callS (d2 := d - 1) [.long x2] d_M_product_9 mi_M_degree wd_1206 wd_1207 (by omega) rfl rfl (Nat.le_of_ble_eq_true rfl) ?_
  refine Call.post ?_ (cf_M_degree_ok (by omega) x2  w _ h)
  rintro _ _ ⟨r1, rfl, rfl, h⟩
  show wp g (fun _ => True) y_M_product prog_14_method_7_code 7 (some FieldType.long) d 12 [(0, .long x0), (2, .long x2), (4, .long x4), (6, .int x6)] [.int r1, .int x6] w Q
  refine am_icmp_gt (tgt := 39) d_M_product_12 (by decide) (fun c12 => ?_) (fun c12 => ?_)
  · have h := h.1 c12
    refine am_lload d_M_product_39 2 rfl ?_
    exact am_lreturn d_M_product_41 rfl (hQ x4 h)
  · have h := h.2 c12
    refine am_lload_n d_M_product_15 1 rfl ?_
    refine am_iload d_M_product_16 3 rfl ?_
    refine am_callS (d2 := d - 1) [.long x2, .int x6] d_M_product_18 mi_M_has wd_1212 wd_1213 (by omega) rfl rfl (Nat.le_of_ble_eq_true rfl) ?_
    refine Call.post ?_ (cf_M_has_ok (by omega) x2 x6  w _ h)
    rintro _ _ ⟨r2, rfl, rfl, h⟩
    show wp g (fun _ => True) y_M_product prog_14_method_7_code 7 (some FieldType.long) d 21 [(0, .long x0), (2, .long x2), (4, .long x4), (6, .int x6)] [.int r2] w Q
    refine am_if_eq (tgt := 33) d_M_product_21 (by decide) (fun c21 => ?_) (fun c21 => ?_)
    · have h := h.1 c21
      obtain ⟨v3, ev3⟩ : ∃ z : Int32, z = x6 + (1 : Int32) := ⟨_, rfl⟩
      have h := h v3 ev3
      refine am_iinc (v := v3) (l' := [(6, .int v3), (0, .long x0), (2, .long x2), (4, .long x4)]) d_M_product_33 3 rfl (by rw [ev3]; rfl) (by decide) rfl ?_
      refine am_goto (tgt := 6) d_M_product_36 (by decide) ?_
      refine am_sub [1, 2, 3, 0] rfl ?_
      exact hK6 x0 x2 x4 v3 h
    · have h := h.2 c21
      refine am_lload d_M_product_24 2 rfl ?_
      refine am_lload_n d_M_product_26 0 rfl ?_
      refine am_iload d_M_product_27 3 rfl ?_
      refine am_lshl d_M_product_29 ?_
      refine am_lxor d_M_product_30 ?_
      refine am_topl (fun v4 ev4 => ?_)
      have h := h v4 ev4
      refine am_lstore (l' := [(4, .long v4), (0, .long x0), (2, .long x2), (6, .int x6)]) d_M_product_31 (by decide) rfl ?_
      obtain ⟨v5, ev5⟩ : ∃ z : Int32, z = x6 + (1 : Int32) := ⟨_, rfl⟩
      have h := h v5 ev5
      refine am_iinc (v := v5) (l' := [(6, .int v5), (4, .long v4), (0, .long x0), (2, .long x2)]) d_M_product_33 3 rfl (by rw [ev5]; rfl) (by decide) rfl ?_
      refine am_goto (tgt := 6) d_M_product_36 (by decide) ?_
      refine am_sub [2, 3, 1, 0] rfl ?_
      exact hK6 x0 x2 v4 v5 h
theorem cf_M_product_L6_ok {g : ayG} {d : Nat} (hd : 1 ≤ d)   (w : Wd)  (P : Int64 → Prop) (Q : Option Value → Wd → Prop) (hQ : ∀ x, P x → Q (some (.long x)) w)  : ∀ (n : Nat) (x0 : Int64) (x2 : Int64) (x4 : Int64) (x6 : Int32) (h : cf_M_product_L6 P n x0 x2 x4 x6), wp g (fun _ => True) y_M_product prog_14_method_7_code 7 (some FieldType.long) d 6 [(0, .long x0), (2, .long x2), (4, .long x4), (6, .int x6)] [] w Q
  | 0, x0, x2, x4, x6, h => False.elim h
  | n + 1, x0, x2, x4, x6, h => cf_M_product_B6_ok hd   w (cf_M_product_L6 P n) P Q hQ (fun x0 x2 x4 x6 h => cf_M_product_L6_ok hd   w  P Q hQ  n x0 x2 x4 x6 h) x0 x2 x4 x6 h
theorem cf_M_product_ok {g : ayG} {d : Nat} (hd : 1 ≤ d) (a0 : Int64) (a1 : Int64)  (w : Wd) (P : Int64 → Prop) (h : cf_M_product a0 a1 P) : Call g y_M_product prog_14_method_7_code 7 (some FieldType.long) d [.long a0, .long a1] w (fun (r : Option Value) (w2 : Wd) => ∃ x, r = some (.long x) ∧ w = w2 ∧ P x) := by
  unfold cf_M_product at h
  refine am_enter mi_M_product (Nat.le_of_ble_eq_true rfl) ?_
  have hQ : ∀ x, P x → (fun (r : Option Value) (w2 : Wd) => ∃ x, r = some (.long x) ∧ w = w2 ∧ P x) (some (.long x)) w := fun x h => ⟨x, rfl, rfl, h⟩
  generalize (fun (r : Option Value) (w2 : Wd) => ∃ x, r = some (.long x) ∧ w = w2 ∧ P x) = Q at hQ ⊢
  show wp g (fun _ => True) y_M_product prog_14_method_7_code 7 (some FieldType.long) d 0 [(0, .long a0), (2, .long a1)] [] w Q
  refine am_lconst (v := 0) d_M_product_0 rfl ?_
  refine am_lstore (l' := [(4, .long (0 : Int64)), (0, .long a0), (2, .long a1)]) d_M_product_1 (by decide) rfl ?_
  refine am_iconst (v := 0) d_M_product_3 rfl ?_
  refine am_istore (l' := [(6, .int (0 : Int32)), (4, .long (0 : Int64)), (0, .long a0), (2, .long a1)]) d_M_product_4 (by decide) rfl ?_
  refine am_sub [2, 3, 1, 0] rfl ?_
  obtain ⟨n, h⟩ := h
  exact cf_M_product_L6_ok (by omega)   w  P Q hQ  n a0 a1 (0 : Int64) (0 : Int32) h
theorem d_M_restOf_0 : decode prog_14_method_8_code 0 = .ok (.lload_n 2, 1) := by decide +kernel
theorem d_M_restOf_1 : decode prog_14_method_8_code 1 = .ok (.invokestatic 84, 3) := by decide +kernel
theorem d_M_restOf_4 : decode prog_14_method_8_code 4 = .ok (.istore 4, 2) := by decide +kernel
theorem d_M_restOf_6 : decode prog_14_method_8_code 6 = .ok (.lload_n 0, 1) := by decide +kernel
theorem d_M_restOf_7 : decode prog_14_method_8_code 7 = .ok (.lstore 5, 2) := by decide +kernel
theorem d_M_restOf_9 : decode prog_14_method_8_code 9 = .ok (.lload 5, 2) := by decide +kernel
theorem d_M_restOf_11 : decode prog_14_method_8_code 11 = .ok (.invokestatic 84, 3) := by decide +kernel
theorem d_M_restOf_14 : decode prog_14_method_8_code 14 = .ok (.istore 7, 2) := by decide +kernel
theorem d_M_restOf_16 : decode prog_14_method_8_code 16 = .ok (.iload 7, 2) := by decide +kernel
theorem d_M_restOf_18 : decode prog_14_method_8_code 18 = .ok (.iload 4, 2) := by decide +kernel
theorem d_M_restOf_20 : decode prog_14_method_8_code 20 = .ok (.if_icmp .lt 31, 3) := by decide +kernel
theorem d_M_restOf_23 : decode prog_14_method_8_code 23 = .ok (.lload 5, 2) := by decide +kernel
theorem d_M_restOf_25 : decode prog_14_method_8_code 25 = .ok (.iload 7, 2) := by decide +kernel
theorem d_M_restOf_27 : decode prog_14_method_8_code 27 = .ok (.invokestatic 80, 3) := by decide +kernel
theorem d_M_restOf_30 : decode prog_14_method_8_code 30 = .ok (.ifCond .eq 15, 3) := by decide +kernel
theorem d_M_restOf_33 : decode prog_14_method_8_code 33 = .ok (.lload 5, 2) := by decide +kernel
theorem d_M_restOf_35 : decode prog_14_method_8_code 35 = .ok (.lload_n 2, 1) := by decide +kernel
theorem d_M_restOf_36 : decode prog_14_method_8_code 36 = .ok (.iload 7, 2) := by decide +kernel
theorem d_M_restOf_38 : decode prog_14_method_8_code 38 = .ok (.iload 4, 2) := by decide +kernel
theorem d_M_restOf_40 : decode prog_14_method_8_code 40 = .ok (.isub, 1) := by decide +kernel
theorem d_M_restOf_41 : decode prog_14_method_8_code 41 = .ok (.lshl, 1) := by decide +kernel
theorem d_M_restOf_42 : decode prog_14_method_8_code 42 = .ok (.lxor, 1) := by decide +kernel
theorem d_M_restOf_43 : decode prog_14_method_8_code 43 = .ok (.lstore 5, 2) := by decide +kernel
theorem d_M_restOf_45 : decode prog_14_method_8_code 45 = .ok (.iinc 7 (-1), 3) := by decide +kernel
theorem d_M_restOf_48 : decode prog_14_method_8_code 48 = .ok (.goto (-32), 3) := by decide +kernel
theorem d_M_restOf_51 : decode prog_14_method_8_code 51 = .ok (.lload 5, 2) := by decide +kernel
theorem d_M_restOf_53 : decode prog_14_method_8_code 53 = .ok (.lreturn, 1) := by decide +kernel
def cf_M_restOf_B16  (K16 : Int64 → Int32 → Int64 → Int32 → Prop) (P : Int64 → Prop) (x2 : Int64) (x4 : Int32) (x5 : Int64) (x7 : Int32)  : Prop :=
  ((x7 < x4 → P x5) ∧ (¬ x7 < x4 → cf_M_has x5 x7 (fun r3 => ((r3 = 0 → ∀ v4, v4 = x7 + (-1 : Int32) → K16 x2 x4 x5 v4) ∧ (¬ r3 = 0 → ∀ v5, v5 = x5 ^^^ (lshl x2 (x7 - x4)) → ∀ v6, v6 = x7 + (-1 : Int32) → K16 x2 x4 v5 v6)))))
def cf_M_restOf_L16   (P : Int64 → Prop) : Nat → Int64 → Int32 → Int64 → Int32 → Prop
  | 0 => fun x2 x4 x5 x7 => False
  | n + 1 => fun x2 x4 x5 x7 => cf_M_restOf_B16 (cf_M_restOf_L16 P n) P x2 x4 x5 x7
def cf_M_restOf (a0 : Int64) (a1 : Int64) (P : Int64 → Prop) : Prop :=
  cf_M_degree a1 (fun r1 => cf_M_degree a0 (fun r2 => ∃ n, cf_M_restOf_L16 P n a1 r1 a0 r2))
theorem cf_M_restOf_B16_ok {g : ayG} {d : Nat} (hd : 1 ≤ d)   (w : Wd) (K16 : Int64 → Int32 → Int64 → Int32 → Prop) (P : Int64 → Prop) (Q : Option Value → Wd → Prop) (hQ : ∀ x, P x → Q (some (.long x)) w) (hK16 : ∀ (x2 : Int64) (x4 : Int32) (x5 : Int64) (x7 : Int32), (K16 x2 x4 x5 x7 → wp g (fun _ => True) y_M_restOf prog_14_method_8_code 8 (some FieldType.long) d 16 [(2, .long x2), (4, .int x4), (5, .long x5), (7, .int x7)] [] w Q)) (x2 : Int64) (x4 : Int32) (x5 : Int64) (x7 : Int32) (h : cf_M_restOf_B16 K16 P x2 x4 x5 x7) : wp g (fun _ => True) y_M_restOf prog_14_method_8_code 8 (some FieldType.long) d 16 [(2, .long x2), (4, .int x4), (5, .long x5), (7, .int x7)] [] w Q := by
  unfold cf_M_restOf_B16 at h
  refine am_iload d_M_restOf_16 3 rfl ?_
  refine am_iload d_M_restOf_18 1 rfl ?_
  refine am_icmp_lt (tgt := 51) d_M_restOf_20 (by decide) (fun c20 => ?_) (fun c20 => ?_)
  · have h := h.1 c20
    refine am_lload d_M_restOf_51 2 rfl ?_
    exact am_lreturn d_M_restOf_53 rfl (hQ x5 h)
  · have h := h.2 c20
    refine am_lload d_M_restOf_23 2 rfl ?_
    refine am_iload d_M_restOf_25 3 rfl ?_
    refine am_callS (d2 := d - 1) [.long x5, .int x7] d_M_restOf_27 mi_M_has wd_1212 wd_1213 (by omega) rfl rfl (Nat.le_of_ble_eq_true rfl) ?_
    refine Call.post ?_ (cf_M_has_ok (by omega) x5 x7  w _ h)
    rintro _ _ ⟨r3, rfl, rfl, h⟩
    show wp g (fun _ => True) y_M_restOf prog_14_method_8_code 8 (some FieldType.long) d 30 [(2, .long x2), (4, .int x4), (5, .long x5), (7, .int x7)] [.int r3] w Q
    refine am_if_eq (tgt := 45) d_M_restOf_30 (by decide) (fun c30 => ?_) (fun c30 => ?_)
    · have h := h.1 c30
      obtain ⟨v4, ev4⟩ : ∃ z : Int32, z = x7 + (-1 : Int32) := ⟨_, rfl⟩
      have h := h v4 ev4
      refine am_iinc (v := v4) (l' := [(7, .int v4), (2, .long x2), (4, .int x4), (5, .long x5)]) d_M_restOf_45 3 rfl (by rw [ev4]; rfl) (by decide) rfl ?_
      refine am_goto (tgt := 16) d_M_restOf_48 (by decide) ?_
      refine am_sub [1, 2, 3, 0] rfl ?_
      exact hK16 x2 x4 x5 v4 h
    · have h := h.2 c30
      refine am_lload d_M_restOf_33 2 rfl ?_
      refine am_lload_n d_M_restOf_35 0 rfl ?_
      refine am_iload d_M_restOf_36 3 rfl ?_
      refine am_iload d_M_restOf_38 1 rfl ?_
      refine am_isub d_M_restOf_40 ?_
      refine am_lshl d_M_restOf_41 ?_
      refine am_lxor d_M_restOf_42 ?_
      refine am_topl (fun v5 ev5 => ?_)
      have h := h v5 ev5
      refine am_lstore (l' := [(5, .long v5), (2, .long x2), (4, .int x4), (7, .int x7)]) d_M_restOf_43 (by decide) rfl ?_
      obtain ⟨v6, ev6⟩ : ∃ z : Int32, z = x7 + (-1 : Int32) := ⟨_, rfl⟩
      have h := h v6 ev6
      refine am_iinc (v := v6) (l' := [(7, .int v6), (5, .long v5), (2, .long x2), (4, .int x4)]) d_M_restOf_45 3 rfl (by rw [ev6]; rfl) (by decide) rfl ?_
      refine am_goto (tgt := 16) d_M_restOf_48 (by decide) ?_
      refine am_sub [2, 3, 1, 0] rfl ?_
      exact hK16 x2 x4 v5 v6 h
theorem cf_M_restOf_L16_ok {g : ayG} {d : Nat} (hd : 1 ≤ d)   (w : Wd)  (P : Int64 → Prop) (Q : Option Value → Wd → Prop) (hQ : ∀ x, P x → Q (some (.long x)) w)  : ∀ (n : Nat) (x2 : Int64) (x4 : Int32) (x5 : Int64) (x7 : Int32) (h : cf_M_restOf_L16 P n x2 x4 x5 x7), wp g (fun _ => True) y_M_restOf prog_14_method_8_code 8 (some FieldType.long) d 16 [(2, .long x2), (4, .int x4), (5, .long x5), (7, .int x7)] [] w Q
  | 0, x2, x4, x5, x7, h => False.elim h
  | n + 1, x2, x4, x5, x7, h => cf_M_restOf_B16_ok hd   w (cf_M_restOf_L16 P n) P Q hQ (fun x2 x4 x5 x7 h => cf_M_restOf_L16_ok hd   w  P Q hQ  n x2 x4 x5 x7 h) x2 x4 x5 x7 h
theorem cf_M_restOf_ok {g : ayG} {d : Nat} (hd : 1 ≤ d) (a0 : Int64) (a1 : Int64)  (w : Wd) (P : Int64 → Prop) (h : cf_M_restOf a0 a1 P) : Call g y_M_restOf prog_14_method_8_code 8 (some FieldType.long) d [.long a0, .long a1] w (fun (r : Option Value) (w2 : Wd) => ∃ x, r = some (.long x) ∧ w = w2 ∧ P x) := by
  unfold cf_M_restOf at h
  refine am_enter mi_M_restOf (Nat.le_of_ble_eq_true rfl) ?_
  have hQ : ∀ x, P x → (fun (r : Option Value) (w2 : Wd) => ∃ x, r = some (.long x) ∧ w = w2 ∧ P x) (some (.long x)) w := fun x h => ⟨x, rfl, rfl, h⟩
  generalize (fun (r : Option Value) (w2 : Wd) => ∃ x, r = some (.long x) ∧ w = w2 ∧ P x) = Q at hQ ⊢
  show wp g (fun _ => True) y_M_restOf prog_14_method_8_code 8 (some FieldType.long) d 0 [(0, .long a0), (2, .long a1)] [] w Q
  refine am_lload_n d_M_restOf_0 1 rfl ?_
  refine am_callS (d2 := d - 1) [.long a1] d_M_restOf_1 mi_M_degree wd_1206 wd_1207 (by omega) rfl rfl (Nat.le_of_ble_eq_true rfl) ?_
  refine Call.post ?_ (cf_M_degree_ok (by omega) a1  w _ h)
  rintro _ _ ⟨r1, rfl, rfl, h⟩
  show wp g (fun _ => True) y_M_restOf prog_14_method_8_code 8 (some FieldType.long) d 4 [(0, .long a0), (2, .long a1)] [.int r1] w Q
  refine am_istore (l' := [(4, .int r1), (0, .long a0), (2, .long a1)]) d_M_restOf_4 (by decide) rfl ?_
  refine am_lload_n d_M_restOf_6 1 rfl ?_
  refine am_lstore (l' := [(5, .long a0), (4, .int r1), (0, .long a0), (2, .long a1)]) d_M_restOf_7 (by decide) rfl ?_
  refine am_lload d_M_restOf_9 0 rfl ?_
  refine am_callS (d2 := d - 1) [.long a0] d_M_restOf_11 mi_M_degree wd_1206 wd_1207 (by omega) rfl rfl (Nat.le_of_ble_eq_true rfl) ?_
  refine Call.post ?_ (cf_M_degree_ok (by omega) a0  w _ h)
  rintro _ _ ⟨r2, rfl, rfl, h⟩
  show wp g (fun _ => True) y_M_restOf prog_14_method_8_code 8 (some FieldType.long) d 14 [(5, .long a0), (4, .int r1), (0, .long a0), (2, .long a1)] [.int r2] w Q
  refine am_istore (l' := [(7, .int r2), (5, .long a0), (4, .int r1), (0, .long a0), (2, .long a1)]) d_M_restOf_14 (by decide) rfl ?_
  refine am_sub [4, 2, 1, 0] rfl ?_
  obtain ⟨n, h⟩ := h
  exact cf_M_restOf_L16_ok (by omega)   w  P Q hQ  n a1 r1 a0 r2 h
theorem d_M_quotient_0 : decode prog_14_method_9_code 0 = .ok (.lload_n 2, 1) := by decide +kernel
theorem d_M_quotient_1 : decode prog_14_method_9_code 1 = .ok (.invokestatic 84, 3) := by decide +kernel
theorem d_M_quotient_4 : decode prog_14_method_9_code 4 = .ok (.istore 4, 2) := by decide +kernel
theorem d_M_quotient_6 : decode prog_14_method_9_code 6 = .ok (.lload_n 0, 1) := by decide +kernel
theorem d_M_quotient_7 : decode prog_14_method_9_code 7 = .ok (.lstore 5, 2) := by decide +kernel
theorem d_M_quotient_9 : decode prog_14_method_9_code 9 = .ok (.lconst 0, 1) := by decide +kernel
theorem d_M_quotient_10 : decode prog_14_method_9_code 10 = .ok (.lstore 7, 2) := by decide +kernel
theorem d_M_quotient_12 : decode prog_14_method_9_code 12 = .ok (.lload 5, 2) := by decide +kernel
theorem d_M_quotient_14 : decode prog_14_method_9_code 14 = .ok (.invokestatic 84, 3) := by decide +kernel
theorem d_M_quotient_17 : decode prog_14_method_9_code 17 = .ok (.istore 9, 2) := by decide +kernel
theorem d_M_quotient_19 : decode prog_14_method_9_code 19 = .ok (.iload 9, 2) := by decide +kernel
theorem d_M_quotient_21 : decode prog_14_method_9_code 21 = .ok (.iload 4, 2) := by decide +kernel
theorem d_M_quotient_23 : decode prog_14_method_9_code 23 = .ok (.if_icmp .lt 46, 3) := by decide +kernel
theorem d_M_quotient_26 : decode prog_14_method_9_code 26 = .ok (.lload 5, 2) := by decide +kernel
theorem d_M_quotient_28 : decode prog_14_method_9_code 28 = .ok (.iload 9, 2) := by decide +kernel
theorem d_M_quotient_30 : decode prog_14_method_9_code 30 = .ok (.invokestatic 80, 3) := by decide +kernel
theorem d_M_quotient_33 : decode prog_14_method_9_code 33 = .ok (.ifCond .ne 6, 3) := by decide +kernel
theorem d_M_quotient_36 : decode prog_14_method_9_code 36 = .ok (.goto 27, 3) := by decide +kernel
theorem d_M_quotient_39 : decode prog_14_method_9_code 39 = .ok (.lload 5, 2) := by decide +kernel
theorem d_M_quotient_41 : decode prog_14_method_9_code 41 = .ok (.lload_n 2, 1) := by decide +kernel
theorem d_M_quotient_42 : decode prog_14_method_9_code 42 = .ok (.iload 9, 2) := by decide +kernel
theorem d_M_quotient_44 : decode prog_14_method_9_code 44 = .ok (.iload 4, 2) := by decide +kernel
theorem d_M_quotient_46 : decode prog_14_method_9_code 46 = .ok (.isub, 1) := by decide +kernel
theorem d_M_quotient_47 : decode prog_14_method_9_code 47 = .ok (.lshl, 1) := by decide +kernel
theorem d_M_quotient_48 : decode prog_14_method_9_code 48 = .ok (.lxor, 1) := by decide +kernel
theorem d_M_quotient_49 : decode prog_14_method_9_code 49 = .ok (.lstore 5, 2) := by decide +kernel
theorem d_M_quotient_51 : decode prog_14_method_9_code 51 = .ok (.lload 7, 2) := by decide +kernel
theorem d_M_quotient_53 : decode prog_14_method_9_code 53 = .ok (.lconst 1, 1) := by decide +kernel
theorem d_M_quotient_54 : decode prog_14_method_9_code 54 = .ok (.iload 9, 2) := by decide +kernel
theorem d_M_quotient_56 : decode prog_14_method_9_code 56 = .ok (.iload 4, 2) := by decide +kernel
theorem d_M_quotient_58 : decode prog_14_method_9_code 58 = .ok (.isub, 1) := by decide +kernel
theorem d_M_quotient_59 : decode prog_14_method_9_code 59 = .ok (.lshl, 1) := by decide +kernel
theorem d_M_quotient_60 : decode prog_14_method_9_code 60 = .ok (.lor, 1) := by decide +kernel
theorem d_M_quotient_61 : decode prog_14_method_9_code 61 = .ok (.lstore 7, 2) := by decide +kernel
theorem d_M_quotient_63 : decode prog_14_method_9_code 63 = .ok (.iinc 9 (-1), 3) := by decide +kernel
theorem d_M_quotient_66 : decode prog_14_method_9_code 66 = .ok (.goto (-47), 3) := by decide +kernel
theorem d_M_quotient_69 : decode prog_14_method_9_code 69 = .ok (.lload 7, 2) := by decide +kernel
theorem d_M_quotient_71 : decode prog_14_method_9_code 71 = .ok (.lreturn, 1) := by decide +kernel
def cf_M_quotient_B19  (K19 : Int64 → Int32 → Int64 → Int64 → Int32 → Prop) (P : Int64 → Prop) (x2 : Int64) (x4 : Int32) (x5 : Int64) (x7 : Int64) (x9 : Int32)  : Prop :=
  ((x9 < x4 → P x7) ∧ (¬ x9 < x4 → cf_M_has x5 x9 (fun r3 => ((¬ r3 = 0 → ∀ v4, v4 = x5 ^^^ (lshl x2 (x9 - x4)) → ∀ v5, v5 = x7 ||| (lshl (1 : Int64) (x9 - x4)) → ∀ v6, v6 = x9 + (-1 : Int32) → K19 x2 x4 v4 v5 v6) ∧ (r3 = 0 → ∀ v7, v7 = x9 + (-1 : Int32) → K19 x2 x4 x5 x7 v7)))))
def cf_M_quotient_L19   (P : Int64 → Prop) : Nat → Int64 → Int32 → Int64 → Int64 → Int32 → Prop
  | 0 => fun x2 x4 x5 x7 x9 => False
  | n + 1 => fun x2 x4 x5 x7 x9 => cf_M_quotient_B19 (cf_M_quotient_L19 P n) P x2 x4 x5 x7 x9
def cf_M_quotient (a0 : Int64) (a1 : Int64) (P : Int64 → Prop) : Prop :=
  cf_M_degree a1 (fun r1 => cf_M_degree a0 (fun r2 => ∃ n, cf_M_quotient_L19 P n a1 r1 a0 (0 : Int64) r2))
theorem cf_M_quotient_B19_ok {g : ayG} {d : Nat} (hd : 1 ≤ d)   (w : Wd) (K19 : Int64 → Int32 → Int64 → Int64 → Int32 → Prop) (P : Int64 → Prop) (Q : Option Value → Wd → Prop) (hQ : ∀ x, P x → Q (some (.long x)) w) (hK19 : ∀ (x2 : Int64) (x4 : Int32) (x5 : Int64) (x7 : Int64) (x9 : Int32), (K19 x2 x4 x5 x7 x9 → wp g (fun _ => True) y_M_quotient prog_14_method_9_code 10 (some FieldType.long) d 19 [(2, .long x2), (4, .int x4), (5, .long x5), (7, .long x7), (9, .int x9)] [] w Q)) (x2 : Int64) (x4 : Int32) (x5 : Int64) (x7 : Int64) (x9 : Int32) (h : cf_M_quotient_B19 K19 P x2 x4 x5 x7 x9) : wp g (fun _ => True) y_M_quotient prog_14_method_9_code 10 (some FieldType.long) d 19 [(2, .long x2), (4, .int x4), (5, .long x5), (7, .long x7), (9, .int x9)] [] w Q := by
  unfold cf_M_quotient_B19 at h
  refine am_iload d_M_quotient_19 4 rfl ?_
  refine am_iload d_M_quotient_21 1 rfl ?_
  refine am_icmp_lt (tgt := 69) d_M_quotient_23 (by decide) (fun c23 => ?_) (fun c23 => ?_)
  · have h := h.1 c23
    refine am_lload d_M_quotient_69 3 rfl ?_
    exact am_lreturn d_M_quotient_71 rfl (hQ x7 h)
  · have h := h.2 c23
    refine am_lload d_M_quotient_26 2 rfl ?_
    refine am_iload d_M_quotient_28 4 rfl ?_
    refine am_callS (d2 := d - 1) [.long x5, .int x9] d_M_quotient_30 mi_M_has wd_1212 wd_1213 (by omega) rfl rfl (Nat.le_of_ble_eq_true rfl) ?_
    refine Call.post ?_ (cf_M_has_ok (by omega) x5 x9  w _ h)
    rintro _ _ ⟨r3, rfl, rfl, h⟩
    show wp g (fun _ => True) y_M_quotient prog_14_method_9_code 10 (some FieldType.long) d 33 [(2, .long x2), (4, .int x4), (5, .long x5), (7, .long x7), (9, .int x9)] [.int r3] w Q
    refine am_if_ne (tgt := 39) d_M_quotient_33 (by decide) (fun c33 => ?_) (fun c33 => ?_)
    · have h := h.1 c33
      refine am_lload d_M_quotient_39 2 rfl ?_
      refine am_lload_n d_M_quotient_41 0 rfl ?_
      refine am_iload d_M_quotient_42 4 rfl ?_
      refine am_iload d_M_quotient_44 1 rfl ?_
      refine am_isub d_M_quotient_46 ?_
      refine am_lshl d_M_quotient_47 ?_
      refine am_lxor d_M_quotient_48 ?_
      refine am_topl (fun v4 ev4 => ?_)
      have h := h v4 ev4
      refine am_lstore (l' := [(5, .long v4), (2, .long x2), (4, .int x4), (7, .long x7), (9, .int x9)]) d_M_quotient_49 (by decide) rfl ?_
      refine am_lload d_M_quotient_51 3 rfl ?_
      refine am_lconst (v := 1) d_M_quotient_53 rfl ?_
      refine am_iload d_M_quotient_54 4 rfl ?_
      refine am_iload d_M_quotient_56 2 rfl ?_
      refine am_isub d_M_quotient_58 ?_
      refine am_lshl d_M_quotient_59 ?_
      refine am_lor d_M_quotient_60 ?_
      refine am_topl (fun v5 ev5 => ?_)
      have h := h v5 ev5
      refine am_lstore (l' := [(7, .long v5), (5, .long v4), (2, .long x2), (4, .int x4), (9, .int x9)]) d_M_quotient_61 (by decide) rfl ?_
      obtain ⟨v6, ev6⟩ : ∃ z : Int32, z = x9 + (-1 : Int32) := ⟨_, rfl⟩
      have h := h v6 ev6
      refine am_iinc (v := v6) (l' := [(9, .int v6), (7, .long v5), (5, .long v4), (2, .long x2), (4, .int x4)]) d_M_quotient_63 4 rfl (by rw [ev6]; rfl) (by decide) rfl ?_
      refine am_goto (tgt := 19) d_M_quotient_66 (by decide) ?_
      refine am_sub [3, 4, 2, 1, 0] rfl ?_
      exact hK19 x2 x4 v4 v5 v6 h
    · have h := h.2 c33
      refine am_goto (tgt := 63) d_M_quotient_36 (by decide) ?_
      obtain ⟨v7, ev7⟩ : ∃ z : Int32, z = x9 + (-1 : Int32) := ⟨_, rfl⟩
      have h := h v7 ev7
      refine am_iinc (v := v7) (l' := [(9, .int v7), (2, .long x2), (4, .int x4), (5, .long x5), (7, .long x7)]) d_M_quotient_63 4 rfl (by rw [ev7]; rfl) (by decide) rfl ?_
      refine am_goto (tgt := 19) d_M_quotient_66 (by decide) ?_
      refine am_sub [1, 2, 3, 4, 0] rfl ?_
      exact hK19 x2 x4 x5 x7 v7 h
theorem cf_M_quotient_L19_ok {g : ayG} {d : Nat} (hd : 1 ≤ d)   (w : Wd)  (P : Int64 → Prop) (Q : Option Value → Wd → Prop) (hQ : ∀ x, P x → Q (some (.long x)) w)  : ∀ (n : Nat) (x2 : Int64) (x4 : Int32) (x5 : Int64) (x7 : Int64) (x9 : Int32) (h : cf_M_quotient_L19 P n x2 x4 x5 x7 x9), wp g (fun _ => True) y_M_quotient prog_14_method_9_code 10 (some FieldType.long) d 19 [(2, .long x2), (4, .int x4), (5, .long x5), (7, .long x7), (9, .int x9)] [] w Q
  | 0, x2, x4, x5, x7, x9, h => False.elim h
  | n + 1, x2, x4, x5, x7, x9, h => cf_M_quotient_B19_ok hd   w (cf_M_quotient_L19 P n) P Q hQ (fun x2 x4 x5 x7 x9 h => cf_M_quotient_L19_ok hd   w  P Q hQ  n x2 x4 x5 x7 x9 h) x2 x4 x5 x7 x9 h
theorem cf_M_quotient_ok {g : ayG} {d : Nat} (hd : 1 ≤ d) (a0 : Int64) (a1 : Int64)  (w : Wd) (P : Int64 → Prop) (h : cf_M_quotient a0 a1 P) : Call g y_M_quotient prog_14_method_9_code 10 (some FieldType.long) d [.long a0, .long a1] w (fun (r : Option Value) (w2 : Wd) => ∃ x, r = some (.long x) ∧ w = w2 ∧ P x) := by
  unfold cf_M_quotient at h
  refine am_enter mi_M_quotient (Nat.le_of_ble_eq_true rfl) ?_
  have hQ : ∀ x, P x → (fun (r : Option Value) (w2 : Wd) => ∃ x, r = some (.long x) ∧ w = w2 ∧ P x) (some (.long x)) w := fun x h => ⟨x, rfl, rfl, h⟩
  generalize (fun (r : Option Value) (w2 : Wd) => ∃ x, r = some (.long x) ∧ w = w2 ∧ P x) = Q at hQ ⊢
  show wp g (fun _ => True) y_M_quotient prog_14_method_9_code 10 (some FieldType.long) d 0 [(0, .long a0), (2, .long a1)] [] w Q
  refine am_lload_n d_M_quotient_0 1 rfl ?_
  refine am_callS (d2 := d - 1) [.long a1] d_M_quotient_1 mi_M_degree wd_1206 wd_1207 (by omega) rfl rfl (Nat.le_of_ble_eq_true rfl) ?_
  refine Call.post ?_ (cf_M_degree_ok (by omega) a1  w _ h)
  rintro _ _ ⟨r1, rfl, rfl, h⟩
  show wp g (fun _ => True) y_M_quotient prog_14_method_9_code 10 (some FieldType.long) d 4 [(0, .long a0), (2, .long a1)] [.int r1] w Q
  refine am_istore (l' := [(4, .int r1), (0, .long a0), (2, .long a1)]) d_M_quotient_4 (by decide) rfl ?_
  refine am_lload_n d_M_quotient_6 1 rfl ?_
  refine am_lstore (l' := [(5, .long a0), (4, .int r1), (0, .long a0), (2, .long a1)]) d_M_quotient_7 (by decide) rfl ?_
  refine am_lconst (v := 0) d_M_quotient_9 rfl ?_
  refine am_lstore (l' := [(7, .long (0 : Int64)), (5, .long a0), (4, .int r1), (0, .long a0), (2, .long a1)]) d_M_quotient_10 (by decide) rfl ?_
  refine am_lload d_M_quotient_12 1 rfl ?_
  refine am_callS (d2 := d - 1) [.long a0] d_M_quotient_14 mi_M_degree wd_1206 wd_1207 (by omega) rfl rfl (Nat.le_of_ble_eq_true rfl) ?_
  refine Call.post ?_ (cf_M_degree_ok (by omega) a0  w _ h)
  rintro _ _ ⟨r2, rfl, rfl, h⟩
  show wp g (fun _ => True) y_M_quotient prog_14_method_9_code 10 (some FieldType.long) d 17 [(7, .long (0 : Int64)), (5, .long a0), (4, .int r1), (0, .long a0), (2, .long a1)] [.int r2] w Q
  refine am_istore (l' := [(9, .int r2), (7, .long (0 : Int64)), (5, .long a0), (4, .int r1), (0, .long a0), (2, .long a1)]) d_M_quotient_17 (by decide) rfl ?_
  refine am_sub [5, 3, 2, 1, 0] rfl ?_
  obtain ⟨n, h⟩ := h
  exact cf_M_quotient_L19_ok (by omega)   w  P Q hQ  n a1 r1 a0 (0 : Int64) r2 h
theorem d_M_commonOf_0 : decode prog_14_method_10_code 0 = .ok (.lload_n 2, 1) := by decide +kernel
theorem d_M_commonOf_1 : decode prog_14_method_10_code 1 = .ok (.lconst 0, 1) := by decide +kernel
theorem d_M_commonOf_2 : decode prog_14_method_10_code 2 = .ok (.lcmp, 1) := by decide +kernel
theorem d_M_commonOf_3 : decode prog_14_method_10_code 3 = .ok (.ifCond .ne 7, 3) := by decide +kernel
theorem d_M_commonOf_6 : decode prog_14_method_10_code 6 = .ok (.lload_n 0, 1) := by decide +kernel
theorem d_M_commonOf_7 : decode prog_14_method_10_code 7 = .ok (.goto 12, 3) := by decide +kernel
theorem d_M_commonOf_10 : decode prog_14_method_10_code 10 = .ok (.lload_n 2, 1) := by decide +kernel
theorem d_M_commonOf_11 : decode prog_14_method_10_code 11 = .ok (.lload_n 0, 1) := by decide +kernel
theorem d_M_commonOf_12 : decode prog_14_method_10_code 12 = .ok (.lload_n 2, 1) := by decide +kernel
theorem d_M_commonOf_13 : decode prog_14_method_10_code 13 = .ok (.invokestatic 88, 3) := by decide +kernel
theorem d_M_commonOf_16 : decode prog_14_method_10_code 16 = .ok (.invokestatic 92, 3) := by decide +kernel
theorem d_M_commonOf_19 : decode prog_14_method_10_code 19 = .ok (.lreturn, 1) := by decide +kernel
def cf_M_commonOf_E (NR : Int64 → Int64 → (Int64 → Prop) → Prop) (a0 : Int64) (a1 : Int64) (P : Int64 → Prop) : Prop :=
  ((¬ a1 = (0 : Int64) → cf_M_restOf a0 a1 (fun r1 => NR a1 r1 (fun r2 => P r2))) ∧ (a1 = (0 : Int64) → P a0))
def cf_M_commonOf : Nat → Int64 → Int64 → (Int64 → Prop) → Prop
  | 0 => fun a0 a1 P => False
  | n + 1 => fun a0 a1 P => cf_M_commonOf_E (cf_M_commonOf n) a0 a1 P
theorem cf_M_commonOf_ok {g : ayG} : ∀ (n d : Nat) (hd : 2 * n + 2 ≤ d) (a0 : Int64) (a1 : Int64)  (w : Wd) (P : Int64 → Prop) (h : cf_M_commonOf n a0 a1 P), Call g y_M_commonOf prog_14_method_10_code 4 (some FieldType.long) d [.long a0, .long a1] w (fun (r : Option Value) (w2 : Wd) => ∃ x, r = some (.long x) ∧ w = w2 ∧ P x)
  | 0, d, hd, a0, a1, w, P, h => False.elim h
  | n + 1, d, hd, a0, a1, w, P, h => by
    have h : cf_M_commonOf_E (cf_M_commonOf n) a0 a1 P := h
    have hNR : ∀ (d2 : Nat) (hd2 : 2 * n + 2 ≤ d2) (a0 : Int64) (a1 : Int64)  (w : Wd) (P : Int64 → Prop) (h : (cf_M_commonOf n) a0 a1 P), Call g y_M_commonOf prog_14_method_10_code 4 (some FieldType.long) d2 [.long a0, .long a1] w (fun (r : Option Value) (w2 : Wd) => ∃ x, r = some (.long x) ∧ w = w2 ∧ P x) := fun  d2 hd2 => cf_M_commonOf_ok n d2 hd2 
    generalize cf_M_commonOf n = NR at h hNR
    unfold cf_M_commonOf_E at h
    refine am_enter mi_M_commonOf (Nat.le_of_ble_eq_true rfl) ?_
    have hQ : ∀ x, P x → (fun (r : Option Value) (w2 : Wd) => ∃ x, r = some (.long x) ∧ w = w2 ∧ P x) (some (.long x)) w := fun x h => ⟨x, rfl, rfl, h⟩
    generalize (fun (r : Option Value) (w2 : Wd) => ∃ x, r = some (.long x) ∧ w = w2 ∧ P x) = Q at hQ ⊢
    show wp g (fun _ => True) y_M_commonOf prog_14_method_10_code 4 (some FieldType.long) d 0 [(0, .long a0), (2, .long a1)] [] w Q
    refine am_lload_n d_M_commonOf_0 1 rfl ?_
    refine am_lconst (v := 0) d_M_commonOf_1 rfl ?_
    refine am_lif_ne (tgt := 10) d_M_commonOf_2 d_M_commonOf_3 (by decide) (fun c2 => ?_) (fun c2 => ?_)
    · have h := h.1 c2
      refine am_lload_n d_M_commonOf_10 1 rfl ?_
      refine am_lload_n d_M_commonOf_11 0 rfl ?_
      refine am_lload_n d_M_commonOf_12 1 rfl ?_
      refine am_callS (d2 := d - 1) [.long a0, .long a1] d_M_commonOf_13 mi_M_restOf wd_1209 wd_1210 (by omega) rfl rfl (Nat.le_of_ble_eq_true rfl) ?_
      refine Call.post ?_ (cf_M_restOf_ok (by omega) a0 a1  w _ h)
      rintro _ _ ⟨r1, rfl, rfl, h⟩
      show wp g (fun _ => True) y_M_commonOf prog_14_method_10_code 4 (some FieldType.long) d 16 [(0, .long a0), (2, .long a1)] [.long r1, .long a1] w Q
      refine am_callS (d2 := d - 1) [.long a1, .long r1] d_M_commonOf_16 mi_M_commonOf wd_1452 wd_1453 (by omega) rfl rfl (Nat.le_of_ble_eq_true rfl) ?_
      refine Call.post ?_ (hNR (d - 1) (by omega) a1 r1  w _ h)
      rintro _ _ ⟨r2, rfl, rfl, h⟩
      show wp g (fun _ => True) y_M_commonOf prog_14_method_10_code 4 (some FieldType.long) d 19 [(0, .long a0), (2, .long a1)] [.long r2] w Q
      exact am_lreturn d_M_commonOf_19 rfl (hQ r2 h)
    · have h := h.2 c2
      refine am_lload_n d_M_commonOf_6 0 rfl ?_
      refine am_goto (tgt := 19) d_M_commonOf_7 (by decide) ?_
      exact am_lreturn d_M_commonOf_19 rfl (hQ a0 h)
def cf_M_commonOf_W (a0 : Int64) (a1 : Int64) (P : Int64 → Prop) : Prop := ∃ n, n ≤ 80 ∧ cf_M_commonOf n a0 a1 P
theorem cf_M_commonOf_W_ok {g : ayG} {d : Nat} (hd : 162 ≤ d) (a0 : Int64) (a1 : Int64)  (w : Wd) (P : Int64 → Prop) (h : cf_M_commonOf_W a0 a1 P) : Call g y_M_commonOf prog_14_method_10_code 4 (some FieldType.long) d [.long a0, .long a1] w (fun (r : Option Value) (w2 : Wd) => ∃ x, r = some (.long x) ∧ w = w2 ∧ P x) := by
  obtain ⟨n, hn, h⟩ := h
  exact cf_M_commonOf_ok n d (by omega) a0 a1  w P h
theorem d_M_timesBy_0 : decode prog_14_method_11_code 0 = .ok (.lload_n 0, 1) := by decide +kernel
theorem d_M_timesBy_1 : decode prog_14_method_11_code 1 = .ok (.lload 4, 2) := by decide +kernel
theorem d_M_timesBy_3 : decode prog_14_method_11_code 3 = .ok (.invokestatic 88, 3) := by decide +kernel
theorem d_M_timesBy_6 : decode prog_14_method_11_code 6 = .ok (.lload_n 2, 1) := by decide +kernel
theorem d_M_timesBy_7 : decode prog_14_method_11_code 7 = .ok (.lload 4, 2) := by decide +kernel
theorem d_M_timesBy_9 : decode prog_14_method_11_code 9 = .ok (.invokestatic 88, 3) := by decide +kernel
theorem d_M_timesBy_12 : decode prog_14_method_11_code 12 = .ok (.invokestatic 95, 3) := by decide +kernel
theorem d_M_timesBy_15 : decode prog_14_method_11_code 15 = .ok (.lload 4, 2) := by decide +kernel
theorem d_M_timesBy_17 : decode prog_14_method_11_code 17 = .ok (.invokestatic 88, 3) := by decide +kernel
theorem d_M_timesBy_20 : decode prog_14_method_11_code 20 = .ok (.lreturn, 1) := by decide +kernel
def cf_M_timesBy (a0 : Int64) (a1 : Int64) (a2 : Int64) (P : Int64 → Prop) : Prop :=
  cf_M_restOf a0 a2 (fun r1 => cf_M_restOf a1 a2 (fun r2 => cf_M_product r1 r2 (fun r3 => cf_M_restOf r3 a2 (fun r4 => P r4))))
theorem cf_M_timesBy_ok {g : ayG} {d : Nat} (hd : 2 ≤ d) (a0 : Int64) (a1 : Int64) (a2 : Int64)  (w : Wd) (P : Int64 → Prop) (h : cf_M_timesBy a0 a1 a2 P) : Call g y_M_timesBy prog_14_method_11_code 6 (some FieldType.long) d [.long a0, .long a1, .long a2] w (fun (r : Option Value) (w2 : Wd) => ∃ x, r = some (.long x) ∧ w = w2 ∧ P x) := by
  unfold cf_M_timesBy at h
  refine am_enter mi_M_timesBy (Nat.le_of_ble_eq_true rfl) ?_
  have hQ : ∀ x, P x → (fun (r : Option Value) (w2 : Wd) => ∃ x, r = some (.long x) ∧ w = w2 ∧ P x) (some (.long x)) w := fun x h => ⟨x, rfl, rfl, h⟩
  generalize (fun (r : Option Value) (w2 : Wd) => ∃ x, r = some (.long x) ∧ w = w2 ∧ P x) = Q at hQ ⊢
  show wp g (fun _ => True) y_M_timesBy prog_14_method_11_code 6 (some FieldType.long) d 0 [(0, .long a0), (2, .long a1), (4, .long a2)] [] w Q
  refine am_lload_n d_M_timesBy_0 0 rfl ?_
  refine am_lload d_M_timesBy_1 2 rfl ?_
  refine am_callS (d2 := d - 1) [.long a0, .long a2] d_M_timesBy_3 mi_M_restOf wd_1209 wd_1210 (by omega) rfl rfl (Nat.le_of_ble_eq_true rfl) ?_
  refine Call.post ?_ (cf_M_restOf_ok (by omega) a0 a2  w _ h)
  rintro _ _ ⟨r1, rfl, rfl, h⟩
  show wp g (fun _ => True) y_M_timesBy prog_14_method_11_code 6 (some FieldType.long) d 6 [(0, .long a0), (2, .long a1), (4, .long a2)] [.long r1] w Q
  refine am_lload_n d_M_timesBy_6 1 rfl ?_
  refine am_lload d_M_timesBy_7 2 rfl ?_
  refine am_callS (d2 := d - 1) [.long a1, .long a2] d_M_timesBy_9 mi_M_restOf wd_1209 wd_1210 (by omega) rfl rfl (Nat.le_of_ble_eq_true rfl) ?_
  refine Call.post ?_ (cf_M_restOf_ok (by omega) a1 a2  w _ h)
  rintro _ _ ⟨r2, rfl, rfl, h⟩
  show wp g (fun _ => True) y_M_timesBy prog_14_method_11_code 6 (some FieldType.long) d 12 [(0, .long a0), (2, .long a1), (4, .long a2)] [.long r2, .long r1] w Q
  refine am_callS (d2 := d - 1) [.long r1, .long r2] d_M_timesBy_12 mi_M_product wd_1256 wd_1257 (by omega) rfl rfl (Nat.le_of_ble_eq_true rfl) ?_
  refine Call.post ?_ (cf_M_product_ok (by omega) r1 r2  w _ h)
  rintro _ _ ⟨r3, rfl, rfl, h⟩
  show wp g (fun _ => True) y_M_timesBy prog_14_method_11_code 6 (some FieldType.long) d 15 [(0, .long a0), (2, .long a1), (4, .long a2)] [.long r3] w Q
  refine am_lload d_M_timesBy_15 2 rfl ?_
  refine am_callS (d2 := d - 1) [.long r3, .long a2] d_M_timesBy_17 mi_M_restOf wd_1209 wd_1210 (by omega) rfl rfl (Nat.le_of_ble_eq_true rfl) ?_
  refine Call.post ?_ (cf_M_restOf_ok (by omega) r3 a2  w _ h)
  rintro _ _ ⟨r4, rfl, rfl, h⟩
  show wp g (fun _ => True) y_M_timesBy prog_14_method_11_code 6 (some FieldType.long) d 20 [(0, .long a0), (2, .long a1), (4, .long a2)] [.long r4] w Q
  exact am_lreturn d_M_timesBy_20 rfl (hQ r4 h)
theorem d_M_powerBy_0 : decode prog_14_method_12_code 0 = .ok (.lconst 1, 1) := by decide +kernel
theorem d_M_powerBy_1 : decode prog_14_method_12_code 1 = .ok (.lload 4, 2) := by decide +kernel
theorem d_M_powerBy_3 : decode prog_14_method_12_code 3 = .ok (.invokestatic 88, 3) := by decide +kernel
theorem d_M_powerBy_6 : decode prog_14_method_12_code 6 = .ok (.lstore 6, 2) := by decide +kernel
theorem d_M_powerBy_8 : decode prog_14_method_12_code 8 = .ok (.lload_n 2, 1) := by decide +kernel
theorem d_M_powerBy_9 : decode prog_14_method_12_code 9 = .ok (.invokestatic 84, 3) := by decide +kernel
theorem d_M_powerBy_12 : decode prog_14_method_12_code 12 = .ok (.istore 8, 2) := by decide +kernel
theorem d_M_powerBy_14 : decode prog_14_method_12_code 14 = .ok (.iload 8, 2) := by decide +kernel
theorem d_M_powerBy_16 : decode prog_14_method_12_code 16 = .ok (.ifCond .lt 39, 3) := by decide +kernel
theorem d_M_powerBy_19 : decode prog_14_method_12_code 19 = .ok (.lload 6, 2) := by decide +kernel
theorem d_M_powerBy_21 : decode prog_14_method_12_code 21 = .ok (.lload 6, 2) := by decide +kernel
theorem d_M_powerBy_23 : decode prog_14_method_12_code 23 = .ok (.lload 4, 2) := by decide +kernel
theorem d_M_powerBy_25 : decode prog_14_method_12_code 25 = .ok (.invokestatic 98, 3) := by decide +kernel
theorem d_M_powerBy_28 : decode prog_14_method_12_code 28 = .ok (.lstore 6, 2) := by decide +kernel
theorem d_M_powerBy_30 : decode prog_14_method_12_code 30 = .ok (.lload_n 2, 1) := by decide +kernel
theorem d_M_powerBy_31 : decode prog_14_method_12_code 31 = .ok (.iload 8, 2) := by decide +kernel
theorem d_M_powerBy_33 : decode prog_14_method_12_code 33 = .ok (.invokestatic 80, 3) := by decide +kernel
theorem d_M_powerBy_36 : decode prog_14_method_12_code 36 = .ok (.ifCond .eq 13, 3) := by decide +kernel
theorem d_M_powerBy_39 : decode prog_14_method_12_code 39 = .ok (.lload 6, 2) := by decide +kernel
theorem d_M_powerBy_41 : decode prog_14_method_12_code 41 = .ok (.lload_n 0, 1) := by decide +kernel
theorem d_M_powerBy_42 : decode prog_14_method_12_code 42 = .ok (.lload 4, 2) := by decide +kernel
theorem d_M_powerBy_44 : decode prog_14_method_12_code 44 = .ok (.invokestatic 98, 3) := by decide +kernel
theorem d_M_powerBy_47 : decode prog_14_method_12_code 47 = .ok (.lstore 6, 2) := by decide +kernel
theorem d_M_powerBy_49 : decode prog_14_method_12_code 49 = .ok (.iinc 8 (-1), 3) := by decide +kernel
theorem d_M_powerBy_52 : decode prog_14_method_12_code 52 = .ok (.goto (-38), 3) := by decide +kernel
theorem d_M_powerBy_55 : decode prog_14_method_12_code 55 = .ok (.lload 6, 2) := by decide +kernel
theorem d_M_powerBy_57 : decode prog_14_method_12_code 57 = .ok (.lreturn, 1) := by decide +kernel
def cf_M_powerBy_B14  (K14 : Int64 → Int64 → Int64 → Int64 → Int32 → Prop) (P : Int64 → Prop) (x0 : Int64) (x2 : Int64) (x4 : Int64) (x6 : Int64) (x8 : Int32)  : Prop :=
  ((x8 < 0 → P x6) ∧ (¬ x8 < 0 → cf_M_timesBy x6 x6 x4 (fun r3 => cf_M_has x2 x8 (fun r4 => ((r4 = 0 → ∀ v5, v5 = x8 + (-1 : Int32) → K14 x0 x2 x4 r3 v5) ∧ (¬ r4 = 0 → cf_M_timesBy r3 x0 x4 (fun r6 => ∀ v7, v7 = x8 + (-1 : Int32) → K14 x0 x2 x4 r6 v7)))))))
def cf_M_powerBy_L14   (P : Int64 → Prop) : Nat → Int64 → Int64 → Int64 → Int64 → Int32 → Prop
  | 0 => fun x0 x2 x4 x6 x8 => False
  | n + 1 => fun x0 x2 x4 x6 x8 => cf_M_powerBy_B14 (cf_M_powerBy_L14 P n) P x0 x2 x4 x6 x8
def cf_M_powerBy (a0 : Int64) (a1 : Int64) (a2 : Int64) (P : Int64 → Prop) : Prop :=
  cf_M_restOf (1 : Int64) a2 (fun r1 => cf_M_degree a1 (fun r2 => ∃ n, cf_M_powerBy_L14 P n a0 a1 a2 r1 r2))
theorem cf_M_powerBy_B14_ok {g : ayG} {d : Nat} (hd : 3 ≤ d)   (w : Wd) (K14 : Int64 → Int64 → Int64 → Int64 → Int32 → Prop) (P : Int64 → Prop) (Q : Option Value → Wd → Prop) (hQ : ∀ x, P x → Q (some (.long x)) w) (hK14 : ∀ (x0 : Int64) (x2 : Int64) (x4 : Int64) (x6 : Int64) (x8 : Int32), (K14 x0 x2 x4 x6 x8 → wp g (fun _ => True) y_M_powerBy prog_14_method_12_code 9 (some FieldType.long) d 14 [(0, .long x0), (2, .long x2), (4, .long x4), (6, .long x6), (8, .int x8)] [] w Q)) (x0 : Int64) (x2 : Int64) (x4 : Int64) (x6 : Int64) (x8 : Int32) (h : cf_M_powerBy_B14 K14 P x0 x2 x4 x6 x8) : wp g (fun _ => True) y_M_powerBy prog_14_method_12_code 9 (some FieldType.long) d 14 [(0, .long x0), (2, .long x2), (4, .long x4), (6, .long x6), (8, .int x8)] [] w Q := by
  unfold cf_M_powerBy_B14 at h
  refine am_iload d_M_powerBy_14 4 rfl ?_
  refine am_if_lt (tgt := 55) d_M_powerBy_16 (by decide) (fun c16 => ?_) (fun c16 => ?_)
  · have h := h.1 c16
    refine am_lload d_M_powerBy_55 3 rfl ?_
    exact am_lreturn d_M_powerBy_57 rfl (hQ x6 h)
  · have h := h.2 c16
    refine am_lload d_M_powerBy_19 3 rfl ?_
    refine am_lload d_M_powerBy_21 3 rfl ?_
    refine am_lload d_M_powerBy_23 2 rfl ?_
    refine am_callS (d2 := d - 1) [.long x6, .long x6, .long x4] d_M_powerBy_25 mi_M_timesBy wd_1253 wd_1254 (by omega) rfl rfl (Nat.le_of_ble_eq_true rfl) ?_
    refine Call.post ?_ (cf_M_timesBy_ok (by omega) x6 x6 x4  w _ h)
    rintro _ _ ⟨r3, rfl, rfl, h⟩
    show wp g (fun _ => True) y_M_powerBy prog_14_method_12_code 9 (some FieldType.long) d 28 [(0, .long x0), (2, .long x2), (4, .long x4), (6, .long x6), (8, .int x8)] [.long r3] w Q
    refine am_lstore (l' := [(6, .long r3), (0, .long x0), (2, .long x2), (4, .long x4), (8, .int x8)]) d_M_powerBy_28 (by decide) rfl ?_
    refine am_lload_n d_M_powerBy_30 2 rfl ?_
    refine am_iload d_M_powerBy_31 4 rfl ?_
    refine am_callS (d2 := d - 1) [.long x2, .int x8] d_M_powerBy_33 mi_M_has wd_1212 wd_1213 (by omega) rfl rfl (Nat.le_of_ble_eq_true rfl) ?_
    refine Call.post ?_ (cf_M_has_ok (by omega) x2 x8  w _ h)
    rintro _ _ ⟨r4, rfl, rfl, h⟩
    show wp g (fun _ => True) y_M_powerBy prog_14_method_12_code 9 (some FieldType.long) d 36 [(6, .long r3), (0, .long x0), (2, .long x2), (4, .long x4), (8, .int x8)] [.int r4] w Q
    refine am_if_eq (tgt := 49) d_M_powerBy_36 (by decide) (fun c36 => ?_) (fun c36 => ?_)
    · have h := h.1 c36
      obtain ⟨v5, ev5⟩ : ∃ z : Int32, z = x8 + (-1 : Int32) := ⟨_, rfl⟩
      have h := h v5 ev5
      refine am_iinc (v := v5) (l' := [(8, .int v5), (6, .long r3), (0, .long x0), (2, .long x2), (4, .long x4)]) d_M_powerBy_49 4 rfl (by rw [ev5]; rfl) (by decide) rfl ?_
      refine am_goto (tgt := 14) d_M_powerBy_52 (by decide) ?_
      refine am_sub [2, 3, 4, 1, 0] rfl ?_
      exact hK14 x0 x2 x4 r3 v5 h
    · have h := h.2 c36
      refine am_lload d_M_powerBy_39 0 rfl ?_
      refine am_lload_n d_M_powerBy_41 1 rfl ?_
      refine am_lload d_M_powerBy_42 3 rfl ?_
      refine am_callS (d2 := d - 1) [.long r3, .long x0, .long x4] d_M_powerBy_44 mi_M_timesBy wd_1253 wd_1254 (by omega) rfl rfl (Nat.le_of_ble_eq_true rfl) ?_
      refine Call.post ?_ (cf_M_timesBy_ok (by omega) r3 x0 x4  w _ h)
      rintro _ _ ⟨r6, rfl, rfl, h⟩
      show wp g (fun _ => True) y_M_powerBy prog_14_method_12_code 9 (some FieldType.long) d 47 [(6, .long r3), (0, .long x0), (2, .long x2), (4, .long x4), (8, .int x8)] [.long r6] w Q
      refine am_lstore (l' := [(6, .long r6), (0, .long x0), (2, .long x2), (4, .long x4), (8, .int x8)]) d_M_powerBy_47 (by decide) rfl ?_
      obtain ⟨v7, ev7⟩ : ∃ z : Int32, z = x8 + (-1 : Int32) := ⟨_, rfl⟩
      have h := h v7 ev7
      refine am_iinc (v := v7) (l' := [(8, .int v7), (6, .long r6), (0, .long x0), (2, .long x2), (4, .long x4)]) d_M_powerBy_49 4 rfl (by rw [ev7]; rfl) (by decide) rfl ?_
      refine am_goto (tgt := 14) d_M_powerBy_52 (by decide) ?_
      refine am_sub [2, 3, 4, 1, 0] rfl ?_
      exact hK14 x0 x2 x4 r6 v7 h
theorem cf_M_powerBy_L14_ok {g : ayG} {d : Nat} (hd : 3 ≤ d)   (w : Wd)  (P : Int64 → Prop) (Q : Option Value → Wd → Prop) (hQ : ∀ x, P x → Q (some (.long x)) w)  : ∀ (n : Nat) (x0 : Int64) (x2 : Int64) (x4 : Int64) (x6 : Int64) (x8 : Int32) (h : cf_M_powerBy_L14 P n x0 x2 x4 x6 x8), wp g (fun _ => True) y_M_powerBy prog_14_method_12_code 9 (some FieldType.long) d 14 [(0, .long x0), (2, .long x2), (4, .long x4), (6, .long x6), (8, .int x8)] [] w Q
  | 0, x0, x2, x4, x6, x8, h => False.elim h
  | n + 1, x0, x2, x4, x6, x8, h => cf_M_powerBy_B14_ok hd   w (cf_M_powerBy_L14 P n) P Q hQ (fun x0 x2 x4 x6 x8 h => cf_M_powerBy_L14_ok hd   w  P Q hQ  n x0 x2 x4 x6 x8 h) x0 x2 x4 x6 x8 h
theorem cf_M_powerBy_ok {g : ayG} {d : Nat} (hd : 3 ≤ d) (a0 : Int64) (a1 : Int64) (a2 : Int64)  (w : Wd) (P : Int64 → Prop) (h : cf_M_powerBy a0 a1 a2 P) : Call g y_M_powerBy prog_14_method_12_code 9 (some FieldType.long) d [.long a0, .long a1, .long a2] w (fun (r : Option Value) (w2 : Wd) => ∃ x, r = some (.long x) ∧ w = w2 ∧ P x) := by
  unfold cf_M_powerBy at h
  refine am_enter mi_M_powerBy (Nat.le_of_ble_eq_true rfl) ?_
  have hQ : ∀ x, P x → (fun (r : Option Value) (w2 : Wd) => ∃ x, r = some (.long x) ∧ w = w2 ∧ P x) (some (.long x)) w := fun x h => ⟨x, rfl, rfl, h⟩
  generalize (fun (r : Option Value) (w2 : Wd) => ∃ x, r = some (.long x) ∧ w = w2 ∧ P x) = Q at hQ ⊢
  show wp g (fun _ => True) y_M_powerBy prog_14_method_12_code 9 (some FieldType.long) d 0 [(0, .long a0), (2, .long a1), (4, .long a2)] [] w Q
  refine am_lconst (v := 1) d_M_powerBy_0 rfl ?_
  refine am_lload d_M_powerBy_1 2 rfl ?_
  refine am_callS (d2 := d - 1) [.long (1 : Int64), .long a2] d_M_powerBy_3 mi_M_restOf wd_1209 wd_1210 (by omega) rfl rfl (Nat.le_of_ble_eq_true rfl) ?_
  refine Call.post ?_ (cf_M_restOf_ok (by omega) (1 : Int64) a2  w _ h)
  rintro _ _ ⟨r1, rfl, rfl, h⟩
  show wp g (fun _ => True) y_M_powerBy prog_14_method_12_code 9 (some FieldType.long) d 6 [(0, .long a0), (2, .long a1), (4, .long a2)] [.long r1] w Q
  refine am_lstore (l' := [(6, .long r1), (0, .long a0), (2, .long a1), (4, .long a2)]) d_M_powerBy_6 (by decide) rfl ?_
  refine am_lload_n d_M_powerBy_8 2 rfl ?_
  refine am_callS (d2 := d - 1) [.long a1] d_M_powerBy_9 mi_M_degree wd_1206 wd_1207 (by omega) rfl rfl (Nat.le_of_ble_eq_true rfl) ?_
  refine Call.post ?_ (cf_M_degree_ok (by omega) a1  w _ h)
  rintro _ _ ⟨r2, rfl, rfl, h⟩
  show wp g (fun _ => True) y_M_powerBy prog_14_method_12_code 9 (some FieldType.long) d 12 [(6, .long r1), (0, .long a0), (2, .long a1), (4, .long a2)] [.int r2] w Q
  refine am_istore (l' := [(8, .int r2), (6, .long r1), (0, .long a0), (2, .long a1), (4, .long a2)]) d_M_powerBy_12 (by decide) rfl ?_
  refine am_sub [2, 3, 4, 1, 0] rfl ?_
  obtain ⟨n, h⟩ := h
  exact cf_M_powerBy_L14_ok (by omega)   w  P Q hQ  n a0 a1 a2 r1 r2 h
theorem d_M_insideBy_0 : decode prog_14_method_13_code 0 = .ok (.lconst 0, 1) := by decide +kernel
theorem d_M_insideBy_1 : decode prog_14_method_13_code 1 = .ok (.lstore 6, 2) := by decide +kernel
theorem d_M_insideBy_3 : decode prog_14_method_13_code 3 = .ok (.lload_n 0, 1) := by decide +kernel
theorem d_M_insideBy_4 : decode prog_14_method_13_code 4 = .ok (.invokestatic 84, 3) := by decide +kernel
theorem d_M_insideBy_7 : decode prog_14_method_13_code 7 = .ok (.istore 8, 2) := by decide +kernel
theorem d_M_insideBy_9 : decode prog_14_method_13_code 9 = .ok (.iload 8, 2) := by decide +kernel
theorem d_M_insideBy_11 : decode prog_14_method_13_code 11 = .ok (.ifCond .lt 39, 3) := by decide +kernel
theorem d_M_insideBy_14 : decode prog_14_method_13_code 14 = .ok (.lload 6, 2) := by decide +kernel
theorem d_M_insideBy_16 : decode prog_14_method_13_code 16 = .ok (.lload_n 2, 1) := by decide +kernel
theorem d_M_insideBy_17 : decode prog_14_method_13_code 17 = .ok (.lload 4, 2) := by decide +kernel
theorem d_M_insideBy_19 : decode prog_14_method_13_code 19 = .ok (.invokestatic 98, 3) := by decide +kernel
theorem d_M_insideBy_22 : decode prog_14_method_13_code 22 = .ok (.lload_n 0, 1) := by decide +kernel
theorem d_M_insideBy_23 : decode prog_14_method_13_code 23 = .ok (.iload 8, 2) := by decide +kernel
theorem d_M_insideBy_25 : decode prog_14_method_13_code 25 = .ok (.invokestatic 80, 3) := by decide +kernel
theorem d_M_insideBy_28 : decode prog_14_method_13_code 28 = .ok (.ifCond .eq 12, 3) := by decide +kernel
theorem d_M_insideBy_31 : decode prog_14_method_13_code 31 = .ok (.lconst 1, 1) := by decide +kernel
theorem d_M_insideBy_32 : decode prog_14_method_13_code 32 = .ok (.lload 4, 2) := by decide +kernel
theorem d_M_insideBy_34 : decode prog_14_method_13_code 34 = .ok (.invokestatic 88, 3) := by decide +kernel
theorem d_M_insideBy_37 : decode prog_14_method_13_code 37 = .ok (.goto 4, 3) := by decide +kernel
theorem d_M_insideBy_40 : decode prog_14_method_13_code 40 = .ok (.lconst 0, 1) := by decide +kernel
theorem d_M_insideBy_41 : decode prog_14_method_13_code 41 = .ok (.lxor, 1) := by decide +kernel
theorem d_M_insideBy_42 : decode prog_14_method_13_code 42 = .ok (.lstore 6, 2) := by decide +kernel
theorem d_M_insideBy_44 : decode prog_14_method_13_code 44 = .ok (.iinc 8 (-1), 3) := by decide +kernel
theorem d_M_insideBy_47 : decode prog_14_method_13_code 47 = .ok (.goto (-38), 3) := by decide +kernel
theorem d_M_insideBy_50 : decode prog_14_method_13_code 50 = .ok (.lload 6, 2) := by decide +kernel
theorem d_M_insideBy_52 : decode prog_14_method_13_code 52 = .ok (.lreturn, 1) := by decide +kernel
def cf_M_insideBy_B9  (K9 : Int64 → Int64 → Int64 → Int64 → Int32 → Prop) (P : Int64 → Prop) (x0 : Int64) (x2 : Int64) (x4 : Int64) (x6 : Int64) (x8 : Int32)  : Prop :=
  ((x8 < 0 → P x6) ∧ (¬ x8 < 0 → cf_M_timesBy x6 x2 x4 (fun r2 => cf_M_has x0 x8 (fun r3 => ((r3 = 0 → ∀ v4, v4 = r2 ^^^ (0 : Int64) → ∀ v5, v5 = x8 + (-1 : Int32) → K9 x0 x2 x4 v4 v5) ∧ (¬ r3 = 0 → cf_M_restOf (1 : Int64) x4 (fun r6 => ∀ v7, v7 = r2 ^^^ r6 → ∀ v8, v8 = x8 + (-1 : Int32) → K9 x0 x2 x4 v7 v8)))))))
def cf_M_insideBy_L9   (P : Int64 → Prop) : Nat → Int64 → Int64 → Int64 → Int64 → Int32 → Prop
  | 0 => fun x0 x2 x4 x6 x8 => False
  | n + 1 => fun x0 x2 x4 x6 x8 => cf_M_insideBy_B9 (cf_M_insideBy_L9 P n) P x0 x2 x4 x6 x8
def cf_M_insideBy (a0 : Int64) (a1 : Int64) (a2 : Int64) (P : Int64 → Prop) : Prop :=
  cf_M_degree a0 (fun r1 => ∃ n, cf_M_insideBy_L9 P n a0 a1 a2 (0 : Int64) r1)
theorem cf_M_insideBy_B9_ok {g : ayG} {d : Nat} (hd : 3 ≤ d)   (w : Wd) (K9 : Int64 → Int64 → Int64 → Int64 → Int32 → Prop) (P : Int64 → Prop) (Q : Option Value → Wd → Prop) (hQ : ∀ x, P x → Q (some (.long x)) w) (hK9 : ∀ (x0 : Int64) (x2 : Int64) (x4 : Int64) (x6 : Int64) (x8 : Int32), (K9 x0 x2 x4 x6 x8 → wp g (fun _ => True) y_M_insideBy prog_14_method_13_code 9 (some FieldType.long) d 9 [(0, .long x0), (2, .long x2), (4, .long x4), (6, .long x6), (8, .int x8)] [] w Q)) (x0 : Int64) (x2 : Int64) (x4 : Int64) (x6 : Int64) (x8 : Int32) (h : cf_M_insideBy_B9 K9 P x0 x2 x4 x6 x8) : wp g (fun _ => True) y_M_insideBy prog_14_method_13_code 9 (some FieldType.long) d 9 [(0, .long x0), (2, .long x2), (4, .long x4), (6, .long x6), (8, .int x8)] [] w Q := by
  unfold cf_M_insideBy_B9 at h
  refine am_iload d_M_insideBy_9 4 rfl ?_
  refine am_if_lt (tgt := 50) d_M_insideBy_11 (by decide) (fun c11 => ?_) (fun c11 => ?_)
  · have h := h.1 c11
    refine am_lload d_M_insideBy_50 3 rfl ?_
    exact am_lreturn d_M_insideBy_52 rfl (hQ x6 h)
  · have h := h.2 c11
    refine am_lload d_M_insideBy_14 3 rfl ?_
    refine am_lload_n d_M_insideBy_16 1 rfl ?_
    refine am_lload d_M_insideBy_17 2 rfl ?_
    refine am_callS (d2 := d - 1) [.long x6, .long x2, .long x4] d_M_insideBy_19 mi_M_timesBy wd_1253 wd_1254 (by omega) rfl rfl (Nat.le_of_ble_eq_true rfl) ?_
    refine Call.post ?_ (cf_M_timesBy_ok (by omega) x6 x2 x4  w _ h)
    rintro _ _ ⟨r2, rfl, rfl, h⟩
    show wp g (fun _ => True) y_M_insideBy prog_14_method_13_code 9 (some FieldType.long) d 22 [(0, .long x0), (2, .long x2), (4, .long x4), (6, .long x6), (8, .int x8)] [.long r2] w Q
    refine am_lload_n d_M_insideBy_22 0 rfl ?_
    refine am_iload d_M_insideBy_23 4 rfl ?_
    refine am_callS (d2 := d - 1) [.long x0, .int x8] d_M_insideBy_25 mi_M_has wd_1212 wd_1213 (by omega) rfl rfl (Nat.le_of_ble_eq_true rfl) ?_
    refine Call.post ?_ (cf_M_has_ok (by omega) x0 x8  w _ h)
    rintro _ _ ⟨r3, rfl, rfl, h⟩
    show wp g (fun _ => True) y_M_insideBy prog_14_method_13_code 9 (some FieldType.long) d 28 [(0, .long x0), (2, .long x2), (4, .long x4), (6, .long x6), (8, .int x8)] [.int r3, .long r2] w Q
    refine am_if_eq (tgt := 40) d_M_insideBy_28 (by decide) (fun c28 => ?_) (fun c28 => ?_)
    · have h := h.1 c28
      refine am_lconst (v := 0) d_M_insideBy_40 rfl ?_
      refine am_lxor d_M_insideBy_41 ?_
      refine am_topl (fun v4 ev4 => ?_)
      have h := h v4 ev4
      refine am_lstore (l' := [(6, .long v4), (0, .long x0), (2, .long x2), (4, .long x4), (8, .int x8)]) d_M_insideBy_42 (by decide) rfl ?_
      obtain ⟨v5, ev5⟩ : ∃ z : Int32, z = x8 + (-1 : Int32) := ⟨_, rfl⟩
      have h := h v5 ev5
      refine am_iinc (v := v5) (l' := [(8, .int v5), (6, .long v4), (0, .long x0), (2, .long x2), (4, .long x4)]) d_M_insideBy_44 4 rfl (by rw [ev5]; rfl) (by decide) rfl ?_
      refine am_goto (tgt := 9) d_M_insideBy_47 (by decide) ?_
      refine am_sub [2, 3, 4, 1, 0] rfl ?_
      exact hK9 x0 x2 x4 v4 v5 h
    · have h := h.2 c28
      refine am_lconst (v := 1) d_M_insideBy_31 rfl ?_
      refine am_lload d_M_insideBy_32 2 rfl ?_
      refine am_callS (d2 := d - 1) [.long (1 : Int64), .long x4] d_M_insideBy_34 mi_M_restOf wd_1209 wd_1210 (by omega) rfl rfl (Nat.le_of_ble_eq_true rfl) ?_
      refine Call.post ?_ (cf_M_restOf_ok (by omega) (1 : Int64) x4  w _ h)
      rintro _ _ ⟨r6, rfl, rfl, h⟩
      show wp g (fun _ => True) y_M_insideBy prog_14_method_13_code 9 (some FieldType.long) d 37 [(0, .long x0), (2, .long x2), (4, .long x4), (6, .long x6), (8, .int x8)] [.long r6, .long r2] w Q
      refine am_goto (tgt := 41) d_M_insideBy_37 (by decide) ?_
      refine am_lxor d_M_insideBy_41 ?_
      refine am_topl (fun v7 ev7 => ?_)
      have h := h v7 ev7
      refine am_lstore (l' := [(6, .long v7), (0, .long x0), (2, .long x2), (4, .long x4), (8, .int x8)]) d_M_insideBy_42 (by decide) rfl ?_
      obtain ⟨v8, ev8⟩ : ∃ z : Int32, z = x8 + (-1 : Int32) := ⟨_, rfl⟩
      have h := h v8 ev8
      refine am_iinc (v := v8) (l' := [(8, .int v8), (6, .long v7), (0, .long x0), (2, .long x2), (4, .long x4)]) d_M_insideBy_44 4 rfl (by rw [ev8]; rfl) (by decide) rfl ?_
      refine am_goto (tgt := 9) d_M_insideBy_47 (by decide) ?_
      refine am_sub [2, 3, 4, 1, 0] rfl ?_
      exact hK9 x0 x2 x4 v7 v8 h
theorem cf_M_insideBy_L9_ok {g : ayG} {d : Nat} (hd : 3 ≤ d)   (w : Wd)  (P : Int64 → Prop) (Q : Option Value → Wd → Prop) (hQ : ∀ x, P x → Q (some (.long x)) w)  : ∀ (n : Nat) (x0 : Int64) (x2 : Int64) (x4 : Int64) (x6 : Int64) (x8 : Int32) (h : cf_M_insideBy_L9 P n x0 x2 x4 x6 x8), wp g (fun _ => True) y_M_insideBy prog_14_method_13_code 9 (some FieldType.long) d 9 [(0, .long x0), (2, .long x2), (4, .long x4), (6, .long x6), (8, .int x8)] [] w Q
  | 0, x0, x2, x4, x6, x8, h => False.elim h
  | n + 1, x0, x2, x4, x6, x8, h => cf_M_insideBy_B9_ok hd   w (cf_M_insideBy_L9 P n) P Q hQ (fun x0 x2 x4 x6 x8 h => cf_M_insideBy_L9_ok hd   w  P Q hQ  n x0 x2 x4 x6 x8 h) x0 x2 x4 x6 x8 h
theorem cf_M_insideBy_ok {g : ayG} {d : Nat} (hd : 3 ≤ d) (a0 : Int64) (a1 : Int64) (a2 : Int64)  (w : Wd) (P : Int64 → Prop) (h : cf_M_insideBy a0 a1 a2 P) : Call g y_M_insideBy prog_14_method_13_code 9 (some FieldType.long) d [.long a0, .long a1, .long a2] w (fun (r : Option Value) (w2 : Wd) => ∃ x, r = some (.long x) ∧ w = w2 ∧ P x) := by
  unfold cf_M_insideBy at h
  refine am_enter mi_M_insideBy (Nat.le_of_ble_eq_true rfl) ?_
  have hQ : ∀ x, P x → (fun (r : Option Value) (w2 : Wd) => ∃ x, r = some (.long x) ∧ w = w2 ∧ P x) (some (.long x)) w := fun x h => ⟨x, rfl, rfl, h⟩
  generalize (fun (r : Option Value) (w2 : Wd) => ∃ x, r = some (.long x) ∧ w = w2 ∧ P x) = Q at hQ ⊢
  show wp g (fun _ => True) y_M_insideBy prog_14_method_13_code 9 (some FieldType.long) d 0 [(0, .long a0), (2, .long a1), (4, .long a2)] [] w Q
  refine am_lconst (v := 0) d_M_insideBy_0 rfl ?_
  refine am_lstore (l' := [(6, .long (0 : Int64)), (0, .long a0), (2, .long a1), (4, .long a2)]) d_M_insideBy_1 (by decide) rfl ?_
  refine am_lload_n d_M_insideBy_3 1 rfl ?_
  refine am_callS (d2 := d - 1) [.long a0] d_M_insideBy_4 mi_M_degree wd_1206 wd_1207 (by omega) rfl rfl (Nat.le_of_ble_eq_true rfl) ?_
  refine Call.post ?_ (cf_M_degree_ok (by omega) a0  w _ h)
  rintro _ _ ⟨r1, rfl, rfl, h⟩
  show wp g (fun _ => True) y_M_insideBy prog_14_method_13_code 9 (some FieldType.long) d 7 [(6, .long (0 : Int64)), (0, .long a0), (2, .long a1), (4, .long a2)] [.int r1] w Q
  refine am_istore (l' := [(8, .int r1), (6, .long (0 : Int64)), (0, .long a0), (2, .long a1), (4, .long a2)]) d_M_insideBy_7 (by decide) rfl ?_
  refine am_sub [2, 3, 4, 1, 0] rfl ?_
  obtain ⟨n, h⟩ := h
  exact cf_M_insideBy_L9_ok (by omega)   w  P Q hQ  n a0 a1 a2 (0 : Int64) r1 h
theorem d_M_movedOf_0 : decode prog_14_method_14_code 0 = .ok (.lconst 0, 1) := by decide +kernel
theorem d_M_movedOf_1 : decode prog_14_method_14_code 1 = .ok (.lstore_n 2, 1) := by decide +kernel
theorem d_M_movedOf_2 : decode prog_14_method_14_code 2 = .ok (.lload_n 0, 1) := by decide +kernel
theorem d_M_movedOf_3 : decode prog_14_method_14_code 3 = .ok (.invokestatic 84, 3) := by decide +kernel
theorem d_M_movedOf_6 : decode prog_14_method_14_code 6 = .ok (.istore 4, 2) := by decide +kernel
theorem d_M_movedOf_8 : decode prog_14_method_14_code 8 = .ok (.iload 4, 2) := by decide +kernel
theorem d_M_movedOf_10 : decode prog_14_method_14_code 10 = .ok (.ifCond .lt 32, 3) := by decide +kernel
theorem d_M_movedOf_13 : decode prog_14_method_14_code 13 = .ok (.lload_n 2, 1) := by decide +kernel
theorem d_M_movedOf_14 : decode prog_14_method_14_code 14 = .ok (.ldc2_w 102, 3) := by decide +kernel
theorem d_M_movedOf_17 : decode prog_14_method_14_code 17 = .ok (.invokestatic 95, 3) := by decide +kernel
theorem d_M_movedOf_20 : decode prog_14_method_14_code 20 = .ok (.lload_n 0, 1) := by decide +kernel
theorem d_M_movedOf_21 : decode prog_14_method_14_code 21 = .ok (.iload 4, 2) := by decide +kernel
theorem d_M_movedOf_23 : decode prog_14_method_14_code 23 = .ok (.invokestatic 80, 3) := by decide +kernel
theorem d_M_movedOf_26 : decode prog_14_method_14_code 26 = .ok (.ifCond .eq 7, 3) := by decide +kernel
theorem d_M_movedOf_29 : decode prog_14_method_14_code 29 = .ok (.lconst 1, 1) := by decide +kernel
theorem d_M_movedOf_30 : decode prog_14_method_14_code 30 = .ok (.goto 4, 3) := by decide +kernel
theorem d_M_movedOf_33 : decode prog_14_method_14_code 33 = .ok (.lconst 0, 1) := by decide +kernel
theorem d_M_movedOf_34 : decode prog_14_method_14_code 34 = .ok (.lxor, 1) := by decide +kernel
theorem d_M_movedOf_35 : decode prog_14_method_14_code 35 = .ok (.lstore_n 2, 1) := by decide +kernel
theorem d_M_movedOf_36 : decode prog_14_method_14_code 36 = .ok (.iinc 4 (-1), 3) := by decide +kernel
theorem d_M_movedOf_39 : decode prog_14_method_14_code 39 = .ok (.goto (-31), 3) := by decide +kernel
theorem d_M_movedOf_42 : decode prog_14_method_14_code 42 = .ok (.lload_n 2, 1) := by decide +kernel
theorem d_M_movedOf_43 : decode prog_14_method_14_code 43 = .ok (.lreturn, 1) := by decide +kernel
def cf_M_movedOf_B8  (K8 : Int64 → Int64 → Int32 → Prop) (P : Int64 → Prop) (x0 : Int64) (x2 : Int64) (x4 : Int32)  : Prop :=
  ((x4 < 0 → P x2) ∧ (¬ x4 < 0 → cf_M_product x2 (3 : Int64) (fun r2 => cf_M_has x0 x4 (fun r3 => ((r3 = 0 → ∀ v4, v4 = r2 ^^^ (0 : Int64) → ∀ v5, v5 = x4 + (-1 : Int32) → K8 x0 v4 v5) ∧ (¬ r3 = 0 → ∀ v6, v6 = r2 ^^^ (1 : Int64) → ∀ v7, v7 = x4 + (-1 : Int32) → K8 x0 v6 v7))))))
def cf_M_movedOf_L8   (P : Int64 → Prop) : Nat → Int64 → Int64 → Int32 → Prop
  | 0 => fun x0 x2 x4 => False
  | n + 1 => fun x0 x2 x4 => cf_M_movedOf_B8 (cf_M_movedOf_L8 P n) P x0 x2 x4
def cf_M_movedOf (a0 : Int64) (P : Int64 → Prop) : Prop :=
  cf_M_degree a0 (fun r1 => ∃ n, cf_M_movedOf_L8 P n a0 (0 : Int64) r1)
theorem cf_M_movedOf_B8_ok {g : ayG} {d : Nat} (hd : 2 ≤ d)   (w : Wd) (K8 : Int64 → Int64 → Int32 → Prop) (P : Int64 → Prop) (Q : Option Value → Wd → Prop) (hQ : ∀ x, P x → Q (some (.long x)) w) (hK8 : ∀ (x0 : Int64) (x2 : Int64) (x4 : Int32), (K8 x0 x2 x4 → wp g (fun _ => True) y_M_movedOf prog_14_method_14_code 5 (some FieldType.long) d 8 [(0, .long x0), (2, .long x2), (4, .int x4)] [] w Q)) (x0 : Int64) (x2 : Int64) (x4 : Int32) (h : cf_M_movedOf_B8 K8 P x0 x2 x4) : wp g (fun _ => True) y_M_movedOf prog_14_method_14_code 5 (some FieldType.long) d 8 [(0, .long x0), (2, .long x2), (4, .int x4)] [] w Q := by
  unfold cf_M_movedOf_B8 at h
  refine am_iload d_M_movedOf_8 2 rfl ?_
  refine am_if_lt (tgt := 42) d_M_movedOf_10 (by decide) (fun c10 => ?_) (fun c10 => ?_)
  · have h := h.1 c10
    refine am_lload_n d_M_movedOf_42 1 rfl ?_
    exact am_lreturn d_M_movedOf_43 rfl (hQ x2 h)
  · have h := h.2 c10
    refine am_lload_n d_M_movedOf_13 1 rfl ?_
    refine am_ldc2 (v := 3) d_M_movedOf_14 wd_1199 ?_
    refine am_callS (d2 := d - 1) [.long x2, .long (3 : Int64)] d_M_movedOf_17 mi_M_product wd_1256 wd_1257 (by omega) rfl rfl (Nat.le_of_ble_eq_true rfl) ?_
    refine Call.post ?_ (cf_M_product_ok (by omega) x2 (3 : Int64)  w _ h)
    rintro _ _ ⟨r2, rfl, rfl, h⟩
    show wp g (fun _ => True) y_M_movedOf prog_14_method_14_code 5 (some FieldType.long) d 20 [(0, .long x0), (2, .long x2), (4, .int x4)] [.long r2] w Q
    refine am_lload_n d_M_movedOf_20 0 rfl ?_
    refine am_iload d_M_movedOf_21 2 rfl ?_
    refine am_callS (d2 := d - 1) [.long x0, .int x4] d_M_movedOf_23 mi_M_has wd_1212 wd_1213 (by omega) rfl rfl (Nat.le_of_ble_eq_true rfl) ?_
    refine Call.post ?_ (cf_M_has_ok (by omega) x0 x4  w _ h)
    rintro _ _ ⟨r3, rfl, rfl, h⟩
    show wp g (fun _ => True) y_M_movedOf prog_14_method_14_code 5 (some FieldType.long) d 26 [(0, .long x0), (2, .long x2), (4, .int x4)] [.int r3, .long r2] w Q
    refine am_if_eq (tgt := 33) d_M_movedOf_26 (by decide) (fun c26 => ?_) (fun c26 => ?_)
    · have h := h.1 c26
      refine am_lconst (v := 0) d_M_movedOf_33 rfl ?_
      refine am_lxor d_M_movedOf_34 ?_
      refine am_topl (fun v4 ev4 => ?_)
      have h := h v4 ev4
      refine am_lstore_n (l' := [(2, .long v4), (0, .long x0), (4, .int x4)]) d_M_movedOf_35 (by decide) rfl ?_
      obtain ⟨v5, ev5⟩ : ∃ z : Int32, z = x4 + (-1 : Int32) := ⟨_, rfl⟩
      have h := h v5 ev5
      refine am_iinc (v := v5) (l' := [(4, .int v5), (2, .long v4), (0, .long x0)]) d_M_movedOf_36 2 rfl (by rw [ev5]; rfl) (by decide) rfl ?_
      refine am_goto (tgt := 8) d_M_movedOf_39 (by decide) ?_
      refine am_sub [2, 1, 0] rfl ?_
      exact hK8 x0 v4 v5 h
    · have h := h.2 c26
      refine am_lconst (v := 1) d_M_movedOf_29 rfl ?_
      refine am_goto (tgt := 34) d_M_movedOf_30 (by decide) ?_
      refine am_lxor d_M_movedOf_34 ?_
      refine am_topl (fun v6 ev6 => ?_)
      have h := h v6 ev6
      refine am_lstore_n (l' := [(2, .long v6), (0, .long x0), (4, .int x4)]) d_M_movedOf_35 (by decide) rfl ?_
      obtain ⟨v7, ev7⟩ : ∃ z : Int32, z = x4 + (-1 : Int32) := ⟨_, rfl⟩
      have h := h v7 ev7
      refine am_iinc (v := v7) (l' := [(4, .int v7), (2, .long v6), (0, .long x0)]) d_M_movedOf_36 2 rfl (by rw [ev7]; rfl) (by decide) rfl ?_
      refine am_goto (tgt := 8) d_M_movedOf_39 (by decide) ?_
      refine am_sub [2, 1, 0] rfl ?_
      exact hK8 x0 v6 v7 h
theorem cf_M_movedOf_L8_ok {g : ayG} {d : Nat} (hd : 2 ≤ d)   (w : Wd)  (P : Int64 → Prop) (Q : Option Value → Wd → Prop) (hQ : ∀ x, P x → Q (some (.long x)) w)  : ∀ (n : Nat) (x0 : Int64) (x2 : Int64) (x4 : Int32) (h : cf_M_movedOf_L8 P n x0 x2 x4), wp g (fun _ => True) y_M_movedOf prog_14_method_14_code 5 (some FieldType.long) d 8 [(0, .long x0), (2, .long x2), (4, .int x4)] [] w Q
  | 0, x0, x2, x4, h => False.elim h
  | n + 1, x0, x2, x4, h => cf_M_movedOf_B8_ok hd   w (cf_M_movedOf_L8 P n) P Q hQ (fun x0 x2 x4 h => cf_M_movedOf_L8_ok hd   w  P Q hQ  n x0 x2 x4 h) x0 x2 x4 h
theorem cf_M_movedOf_ok {g : ayG} {d : Nat} (hd : 2 ≤ d) (a0 : Int64)  (w : Wd) (P : Int64 → Prop) (h : cf_M_movedOf a0 P) : Call g y_M_movedOf prog_14_method_14_code 5 (some FieldType.long) d [.long a0] w (fun (r : Option Value) (w2 : Wd) => ∃ x, r = some (.long x) ∧ w = w2 ∧ P x) := by
  unfold cf_M_movedOf at h
  refine am_enter mi_M_movedOf (Nat.le_of_ble_eq_true rfl) ?_
  have hQ : ∀ x, P x → (fun (r : Option Value) (w2 : Wd) => ∃ x, r = some (.long x) ∧ w = w2 ∧ P x) (some (.long x)) w := fun x h => ⟨x, rfl, rfl, h⟩
  generalize (fun (r : Option Value) (w2 : Wd) => ∃ x, r = some (.long x) ∧ w = w2 ∧ P x) = Q at hQ ⊢
  show wp g (fun _ => True) y_M_movedOf prog_14_method_14_code 5 (some FieldType.long) d 0 [(0, .long a0)] [] w Q
  refine am_lconst (v := 0) d_M_movedOf_0 rfl ?_
  refine am_lstore_n (l' := [(2, .long (0 : Int64)), (0, .long a0)]) d_M_movedOf_1 (by decide) rfl ?_
  refine am_lload_n d_M_movedOf_2 1 rfl ?_
  refine am_callS (d2 := d - 1) [.long a0] d_M_movedOf_3 mi_M_degree wd_1206 wd_1207 (by omega) rfl rfl (Nat.le_of_ble_eq_true rfl) ?_
  refine Call.post ?_ (cf_M_degree_ok (by omega) a0  w _ h)
  rintro _ _ ⟨r1, rfl, rfl, h⟩
  show wp g (fun _ => True) y_M_movedOf prog_14_method_14_code 5 (some FieldType.long) d 6 [(2, .long (0 : Int64)), (0, .long a0)] [.int r1] w Q
  refine am_istore (l' := [(4, .int r1), (2, .long (0 : Int64)), (0, .long a0)]) d_M_movedOf_6 (by decide) rfl ?_
  refine am_sub [2, 1, 0] rfl ?_
  obtain ⟨n, h⟩ := h
  exact cf_M_movedOf_L8_ok (by omega)   w  P Q hQ  n a0 (0 : Int64) r1 h
theorem d_M_risenOf_0 : decode prog_14_method_15_code 0 = .ok (.lconst 0, 1) := by decide +kernel
theorem d_M_risenOf_1 : decode prog_14_method_15_code 1 = .ok (.lstore_n 3, 1) := by decide +kernel
theorem d_M_risenOf_2 : decode prog_14_method_15_code 2 = .ok (.iconst 0, 1) := by decide +kernel
theorem d_M_risenOf_3 : decode prog_14_method_15_code 3 = .ok (.istore 5, 2) := by decide +kernel
theorem d_M_risenOf_5 : decode prog_14_method_15_code 5 = .ok (.iload 5, 2) := by decide +kernel
theorem d_M_risenOf_7 : decode prog_14_method_15_code 7 = .ok (.lload_n 0, 1) := by decide +kernel
theorem d_M_risenOf_8 : decode prog_14_method_15_code 8 = .ok (.invokestatic 84, 3) := by decide +kernel
theorem d_M_risenOf_11 : decode prog_14_method_15_code 11 = .ok (.if_icmp .gt 27, 3) := by decide +kernel
theorem d_M_risenOf_14 : decode prog_14_method_15_code 14 = .ok (.lload_n 0, 1) := by decide +kernel
theorem d_M_risenOf_15 : decode prog_14_method_15_code 15 = .ok (.iload 5, 2) := by decide +kernel
theorem d_M_risenOf_17 : decode prog_14_method_15_code 17 = .ok (.invokestatic 80, 3) := by decide +kernel
theorem d_M_risenOf_20 : decode prog_14_method_15_code 20 = .ok (.ifCond .eq 12, 3) := by decide +kernel
theorem d_M_risenOf_23 : decode prog_14_method_15_code 23 = .ok (.lload_n 3, 1) := by decide +kernel
theorem d_M_risenOf_24 : decode prog_14_method_15_code 24 = .ok (.lconst 1, 1) := by decide +kernel
theorem d_M_risenOf_25 : decode prog_14_method_15_code 25 = .ok (.iload 5, 2) := by decide +kernel
theorem d_M_risenOf_27 : decode prog_14_method_15_code 27 = .ok (.iload_n 2, 1) := by decide +kernel
theorem d_M_risenOf_28 : decode prog_14_method_15_code 28 = .ok (.imul, 1) := by decide +kernel
theorem d_M_risenOf_29 : decode prog_14_method_15_code 29 = .ok (.lshl, 1) := by decide +kernel
theorem d_M_risenOf_30 : decode prog_14_method_15_code 30 = .ok (.lor, 1) := by decide +kernel
theorem d_M_risenOf_31 : decode prog_14_method_15_code 31 = .ok (.lstore_n 3, 1) := by decide +kernel
theorem d_M_risenOf_32 : decode prog_14_method_15_code 32 = .ok (.iinc 5 1, 3) := by decide +kernel
theorem d_M_risenOf_35 : decode prog_14_method_15_code 35 = .ok (.goto (-30), 3) := by decide +kernel
theorem d_M_risenOf_38 : decode prog_14_method_15_code 38 = .ok (.lload_n 3, 1) := by decide +kernel
theorem d_M_risenOf_39 : decode prog_14_method_15_code 39 = .ok (.lreturn, 1) := by decide +kernel
def cf_M_risenOf_B5  (K5 : Int64 → Int32 → Int64 → Int32 → Prop) (P : Int64 → Prop) (x0 : Int64) (x2 : Int32) (x3 : Int64) (x5 : Int32)  : Prop :=
  cf_M_degree x0 (fun r1 => ((r1 < x5 → P x3) ∧ (¬ r1 < x5 → cf_M_has x0 x5 (fun r2 => ((r2 = 0 → ∀ v3, v3 = x5 + (1 : Int32) → K5 x0 x2 x3 v3) ∧ (¬ r2 = 0 → ∀ v4, v4 = x3 ||| (lshl (1 : Int64) (x5 * x2)) → ∀ v5, v5 = x5 + (1 : Int32) → K5 x0 x2 v4 v5))))))
def cf_M_risenOf_L5   (P : Int64 → Prop) : Nat → Int64 → Int32 → Int64 → Int32 → Prop
  | 0 => fun x0 x2 x3 x5 => False
  | n + 1 => fun x0 x2 x3 x5 => cf_M_risenOf_B5 (cf_M_risenOf_L5 P n) P x0 x2 x3 x5
def cf_M_risenOf (a0 : Int64) (a1 : Int32) (P : Int64 → Prop) : Prop :=
  ∃ n, cf_M_risenOf_L5 P n a0 a1 (0 : Int64) (0 : Int32)
theorem cf_M_risenOf_B5_ok {g : ayG} {d : Nat} (hd : 1 ≤ d)   (w : Wd) (K5 : Int64 → Int32 → Int64 → Int32 → Prop) (P : Int64 → Prop) (Q : Option Value → Wd → Prop) (hQ : ∀ x, P x → Q (some (.long x)) w) (hK5 : ∀ (x0 : Int64) (x2 : Int32) (x3 : Int64) (x5 : Int32), (K5 x0 x2 x3 x5 → wp g (fun _ => True) y_M_risenOf prog_14_method_15_code 6 (some FieldType.long) d 5 [(0, .long x0), (2, .int x2), (3, .long x3), (5, .int x5)] [] w Q)) (x0 : Int64) (x2 : Int32) (x3 : Int64) (x5 : Int32) (h : cf_M_risenOf_B5 K5 P x0 x2 x3 x5) : wp g (fun _ => True) y_M_risenOf prog_14_method_15_code 6 (some FieldType.long) d 5 [(0, .long x0), (2, .int x2), (3, .long x3), (5, .int x5)] [] w Q := by
  unfold cf_M_risenOf_B5 at h
  refine am_iload d_M_risenOf_5 3 rfl ?_
  refine am_lload_n d_M_risenOf_7 0 rfl ?_
  refine am_callS (d2 := d - 1) [.long x0] d_M_risenOf_8 mi_M_degree wd_1206 wd_1207 (by omega) rfl rfl (Nat.le_of_ble_eq_true rfl) ?_
  refine Call.post ?_ (cf_M_degree_ok (by omega) x0  w _ h)
  rintro _ _ ⟨r1, rfl, rfl, h⟩
  show wp g (fun _ => True) y_M_risenOf prog_14_method_15_code 6 (some FieldType.long) d 11 [(0, .long x0), (2, .int x2), (3, .long x3), (5, .int x5)] [.int r1, .int x5] w Q
  refine am_icmp_gt (tgt := 38) d_M_risenOf_11 (by decide) (fun c11 => ?_) (fun c11 => ?_)
  · have h := h.1 c11
    refine am_lload_n d_M_risenOf_38 2 rfl ?_
    exact am_lreturn d_M_risenOf_39 rfl (hQ x3 h)
  · have h := h.2 c11
    refine am_lload_n d_M_risenOf_14 0 rfl ?_
    refine am_iload d_M_risenOf_15 3 rfl ?_
    refine am_callS (d2 := d - 1) [.long x0, .int x5] d_M_risenOf_17 mi_M_has wd_1212 wd_1213 (by omega) rfl rfl (Nat.le_of_ble_eq_true rfl) ?_
    refine Call.post ?_ (cf_M_has_ok (by omega) x0 x5  w _ h)
    rintro _ _ ⟨r2, rfl, rfl, h⟩
    show wp g (fun _ => True) y_M_risenOf prog_14_method_15_code 6 (some FieldType.long) d 20 [(0, .long x0), (2, .int x2), (3, .long x3), (5, .int x5)] [.int r2] w Q
    refine am_if_eq (tgt := 32) d_M_risenOf_20 (by decide) (fun c20 => ?_) (fun c20 => ?_)
    · have h := h.1 c20
      obtain ⟨v3, ev3⟩ : ∃ z : Int32, z = x5 + (1 : Int32) := ⟨_, rfl⟩
      have h := h v3 ev3
      refine am_iinc (v := v3) (l' := [(5, .int v3), (0, .long x0), (2, .int x2), (3, .long x3)]) d_M_risenOf_32 3 rfl (by rw [ev3]; rfl) (by decide) rfl ?_
      refine am_goto (tgt := 5) d_M_risenOf_35 (by decide) ?_
      refine am_sub [1, 2, 3, 0] rfl ?_
      exact hK5 x0 x2 x3 v3 h
    · have h := h.2 c20
      refine am_lload_n d_M_risenOf_23 2 rfl ?_
      refine am_lconst (v := 1) d_M_risenOf_24 rfl ?_
      refine am_iload d_M_risenOf_25 3 rfl ?_
      refine am_iload_n d_M_risenOf_27 1 rfl ?_
      refine am_imul d_M_risenOf_28 ?_
      refine am_lshl d_M_risenOf_29 ?_
      refine am_lor d_M_risenOf_30 ?_
      refine am_topl (fun v4 ev4 => ?_)
      have h := h v4 ev4
      refine am_lstore_n (l' := [(3, .long v4), (0, .long x0), (2, .int x2), (5, .int x5)]) d_M_risenOf_31 (by decide) rfl ?_
      obtain ⟨v5, ev5⟩ : ∃ z : Int32, z = x5 + (1 : Int32) := ⟨_, rfl⟩
      have h := h v5 ev5
      refine am_iinc (v := v5) (l' := [(5, .int v5), (3, .long v4), (0, .long x0), (2, .int x2)]) d_M_risenOf_32 3 rfl (by rw [ev5]; rfl) (by decide) rfl ?_
      refine am_goto (tgt := 5) d_M_risenOf_35 (by decide) ?_
      refine am_sub [2, 3, 1, 0] rfl ?_
      exact hK5 x0 x2 v4 v5 h
theorem cf_M_risenOf_L5_ok {g : ayG} {d : Nat} (hd : 1 ≤ d)   (w : Wd)  (P : Int64 → Prop) (Q : Option Value → Wd → Prop) (hQ : ∀ x, P x → Q (some (.long x)) w)  : ∀ (n : Nat) (x0 : Int64) (x2 : Int32) (x3 : Int64) (x5 : Int32) (h : cf_M_risenOf_L5 P n x0 x2 x3 x5), wp g (fun _ => True) y_M_risenOf prog_14_method_15_code 6 (some FieldType.long) d 5 [(0, .long x0), (2, .int x2), (3, .long x3), (5, .int x5)] [] w Q
  | 0, x0, x2, x3, x5, h => False.elim h
  | n + 1, x0, x2, x3, x5, h => cf_M_risenOf_B5_ok hd   w (cf_M_risenOf_L5 P n) P Q hQ (fun x0 x2 x3 x5 h => cf_M_risenOf_L5_ok hd   w  P Q hQ  n x0 x2 x3 x5 h) x0 x2 x3 x5 h
theorem cf_M_risenOf_ok {g : ayG} {d : Nat} (hd : 1 ≤ d) (a0 : Int64) (a1 : Int32)  (w : Wd) (P : Int64 → Prop) (h : cf_M_risenOf a0 a1 P) : Call g y_M_risenOf prog_14_method_15_code 6 (some FieldType.long) d [.long a0, .int a1] w (fun (r : Option Value) (w2 : Wd) => ∃ x, r = some (.long x) ∧ w = w2 ∧ P x) := by
  unfold cf_M_risenOf at h
  refine am_enter mi_M_risenOf (Nat.le_of_ble_eq_true rfl) ?_
  have hQ : ∀ x, P x → (fun (r : Option Value) (w2 : Wd) => ∃ x, r = some (.long x) ∧ w = w2 ∧ P x) (some (.long x)) w := fun x h => ⟨x, rfl, rfl, h⟩
  generalize (fun (r : Option Value) (w2 : Wd) => ∃ x, r = some (.long x) ∧ w = w2 ∧ P x) = Q at hQ ⊢
  show wp g (fun _ => True) y_M_risenOf prog_14_method_15_code 6 (some FieldType.long) d 0 [(0, .long a0), (2, .int a1)] [] w Q
  refine am_lconst (v := 0) d_M_risenOf_0 rfl ?_
  refine am_lstore_n (l' := [(3, .long (0 : Int64)), (0, .long a0), (2, .int a1)]) d_M_risenOf_1 (by decide) rfl ?_
  refine am_iconst (v := 0) d_M_risenOf_2 rfl ?_
  refine am_istore (l' := [(5, .int (0 : Int32)), (3, .long (0 : Int64)), (0, .long a0), (2, .int a1)]) d_M_risenOf_3 (by decide) rfl ?_
  refine am_sub [2, 3, 1, 0] rfl ?_
  obtain ⟨n, h⟩ := h
  exact cf_M_risenOf_L5_ok (by omega)   w  P Q hQ  n a0 a1 (0 : Int64) (0 : Int32) h
theorem d_M_reversed_0 : decode prog_14_method_16_code 0 = .ok (.lconst 0, 1) := by decide +kernel
theorem d_M_reversed_1 : decode prog_14_method_16_code 1 = .ok (.lstore_n 2, 1) := by decide +kernel
theorem d_M_reversed_2 : decode prog_14_method_16_code 2 = .ok (.lload_n 0, 1) := by decide +kernel
theorem d_M_reversed_3 : decode prog_14_method_16_code 3 = .ok (.invokestatic 84, 3) := by decide +kernel
theorem d_M_reversed_6 : decode prog_14_method_16_code 6 = .ok (.istore 4, 2) := by decide +kernel
theorem d_M_reversed_8 : decode prog_14_method_16_code 8 = .ok (.iconst 0, 1) := by decide +kernel
theorem d_M_reversed_9 : decode prog_14_method_16_code 9 = .ok (.istore 5, 2) := by decide +kernel
theorem d_M_reversed_11 : decode prog_14_method_16_code 11 = .ok (.iload 5, 2) := by decide +kernel
theorem d_M_reversed_13 : decode prog_14_method_16_code 13 = .ok (.iload 4, 2) := by decide +kernel
theorem d_M_reversed_15 : decode prog_14_method_16_code 15 = .ok (.if_icmp .gt 28, 3) := by decide +kernel
theorem d_M_reversed_18 : decode prog_14_method_16_code 18 = .ok (.lload_n 0, 1) := by decide +kernel
theorem d_M_reversed_19 : decode prog_14_method_16_code 19 = .ok (.iload 5, 2) := by decide +kernel
theorem d_M_reversed_21 : decode prog_14_method_16_code 21 = .ok (.invokestatic 80, 3) := by decide +kernel
theorem d_M_reversed_24 : decode prog_14_method_16_code 24 = .ok (.ifCond .eq 13, 3) := by decide +kernel
theorem d_M_reversed_27 : decode prog_14_method_16_code 27 = .ok (.lload_n 2, 1) := by decide +kernel
theorem d_M_reversed_28 : decode prog_14_method_16_code 28 = .ok (.lconst 1, 1) := by decide +kernel
theorem d_M_reversed_29 : decode prog_14_method_16_code 29 = .ok (.iload 4, 2) := by decide +kernel
theorem d_M_reversed_31 : decode prog_14_method_16_code 31 = .ok (.iload 5, 2) := by decide +kernel
theorem d_M_reversed_33 : decode prog_14_method_16_code 33 = .ok (.isub, 1) := by decide +kernel
theorem d_M_reversed_34 : decode prog_14_method_16_code 34 = .ok (.lshl, 1) := by decide +kernel
theorem d_M_reversed_35 : decode prog_14_method_16_code 35 = .ok (.lor, 1) := by decide +kernel
theorem d_M_reversed_36 : decode prog_14_method_16_code 36 = .ok (.lstore_n 2, 1) := by decide +kernel
theorem d_M_reversed_37 : decode prog_14_method_16_code 37 = .ok (.iinc 5 1, 3) := by decide +kernel
theorem d_M_reversed_40 : decode prog_14_method_16_code 40 = .ok (.goto (-29), 3) := by decide +kernel
theorem d_M_reversed_43 : decode prog_14_method_16_code 43 = .ok (.lload_n 2, 1) := by decide +kernel
theorem d_M_reversed_44 : decode prog_14_method_16_code 44 = .ok (.lreturn, 1) := by decide +kernel
def cf_M_reversed_B11  (K11 : Int64 → Int64 → Int32 → Int32 → Prop) (P : Int64 → Prop) (x0 : Int64) (x2 : Int64) (x4 : Int32) (x5 : Int32)  : Prop :=
  ((x4 < x5 → P x2) ∧ (¬ x4 < x5 → cf_M_has x0 x5 (fun r2 => ((r2 = 0 → ∀ v3, v3 = x5 + (1 : Int32) → K11 x0 x2 x4 v3) ∧ (¬ r2 = 0 → ∀ v4, v4 = x2 ||| (lshl (1 : Int64) (x4 - x5)) → ∀ v5, v5 = x5 + (1 : Int32) → K11 x0 v4 x4 v5)))))
def cf_M_reversed_L11   (P : Int64 → Prop) : Nat → Int64 → Int64 → Int32 → Int32 → Prop
  | 0 => fun x0 x2 x4 x5 => False
  | n + 1 => fun x0 x2 x4 x5 => cf_M_reversed_B11 (cf_M_reversed_L11 P n) P x0 x2 x4 x5
def cf_M_reversed (a0 : Int64) (P : Int64 → Prop) : Prop :=
  cf_M_degree a0 (fun r1 => ∃ n, cf_M_reversed_L11 P n a0 (0 : Int64) r1 (0 : Int32))
theorem cf_M_reversed_B11_ok {g : ayG} {d : Nat} (hd : 1 ≤ d)   (w : Wd) (K11 : Int64 → Int64 → Int32 → Int32 → Prop) (P : Int64 → Prop) (Q : Option Value → Wd → Prop) (hQ : ∀ x, P x → Q (some (.long x)) w) (hK11 : ∀ (x0 : Int64) (x2 : Int64) (x4 : Int32) (x5 : Int32), (K11 x0 x2 x4 x5 → wp g (fun _ => True) y_M_reversed prog_14_method_16_code 6 (some FieldType.long) d 11 [(0, .long x0), (2, .long x2), (4, .int x4), (5, .int x5)] [] w Q)) (x0 : Int64) (x2 : Int64) (x4 : Int32) (x5 : Int32) (h : cf_M_reversed_B11 K11 P x0 x2 x4 x5) : wp g (fun _ => True) y_M_reversed prog_14_method_16_code 6 (some FieldType.long) d 11 [(0, .long x0), (2, .long x2), (4, .int x4), (5, .int x5)] [] w Q := by
  unfold cf_M_reversed_B11 at h
  refine am_iload d_M_reversed_11 3 rfl ?_
  refine am_iload d_M_reversed_13 2 rfl ?_
  refine am_icmp_gt (tgt := 43) d_M_reversed_15 (by decide) (fun c15 => ?_) (fun c15 => ?_)
  · have h := h.1 c15
    refine am_lload_n d_M_reversed_43 1 rfl ?_
    exact am_lreturn d_M_reversed_44 rfl (hQ x2 h)
  · have h := h.2 c15
    refine am_lload_n d_M_reversed_18 0 rfl ?_
    refine am_iload d_M_reversed_19 3 rfl ?_
    refine am_callS (d2 := d - 1) [.long x0, .int x5] d_M_reversed_21 mi_M_has wd_1212 wd_1213 (by omega) rfl rfl (Nat.le_of_ble_eq_true rfl) ?_
    refine Call.post ?_ (cf_M_has_ok (by omega) x0 x5  w _ h)
    rintro _ _ ⟨r2, rfl, rfl, h⟩
    show wp g (fun _ => True) y_M_reversed prog_14_method_16_code 6 (some FieldType.long) d 24 [(0, .long x0), (2, .long x2), (4, .int x4), (5, .int x5)] [.int r2] w Q
    refine am_if_eq (tgt := 37) d_M_reversed_24 (by decide) (fun c24 => ?_) (fun c24 => ?_)
    · have h := h.1 c24
      obtain ⟨v3, ev3⟩ : ∃ z : Int32, z = x5 + (1 : Int32) := ⟨_, rfl⟩
      have h := h v3 ev3
      refine am_iinc (v := v3) (l' := [(5, .int v3), (0, .long x0), (2, .long x2), (4, .int x4)]) d_M_reversed_37 3 rfl (by rw [ev3]; rfl) (by decide) rfl ?_
      refine am_goto (tgt := 11) d_M_reversed_40 (by decide) ?_
      refine am_sub [1, 2, 3, 0] rfl ?_
      exact hK11 x0 x2 x4 v3 h
    · have h := h.2 c24
      refine am_lload_n d_M_reversed_27 1 rfl ?_
      refine am_lconst (v := 1) d_M_reversed_28 rfl ?_
      refine am_iload d_M_reversed_29 2 rfl ?_
      refine am_iload d_M_reversed_31 3 rfl ?_
      refine am_isub d_M_reversed_33 ?_
      refine am_lshl d_M_reversed_34 ?_
      refine am_lor d_M_reversed_35 ?_
      refine am_topl (fun v4 ev4 => ?_)
      have h := h v4 ev4
      refine am_lstore_n (l' := [(2, .long v4), (0, .long x0), (4, .int x4), (5, .int x5)]) d_M_reversed_36 (by decide) rfl ?_
      obtain ⟨v5, ev5⟩ : ∃ z : Int32, z = x5 + (1 : Int32) := ⟨_, rfl⟩
      have h := h v5 ev5
      refine am_iinc (v := v5) (l' := [(5, .int v5), (2, .long v4), (0, .long x0), (4, .int x4)]) d_M_reversed_37 3 rfl (by rw [ev5]; rfl) (by decide) rfl ?_
      refine am_goto (tgt := 11) d_M_reversed_40 (by decide) ?_
      refine am_sub [2, 1, 3, 0] rfl ?_
      exact hK11 x0 v4 x4 v5 h
theorem cf_M_reversed_L11_ok {g : ayG} {d : Nat} (hd : 1 ≤ d)   (w : Wd)  (P : Int64 → Prop) (Q : Option Value → Wd → Prop) (hQ : ∀ x, P x → Q (some (.long x)) w)  : ∀ (n : Nat) (x0 : Int64) (x2 : Int64) (x4 : Int32) (x5 : Int32) (h : cf_M_reversed_L11 P n x0 x2 x4 x5), wp g (fun _ => True) y_M_reversed prog_14_method_16_code 6 (some FieldType.long) d 11 [(0, .long x0), (2, .long x2), (4, .int x4), (5, .int x5)] [] w Q
  | 0, x0, x2, x4, x5, h => False.elim h
  | n + 1, x0, x2, x4, x5, h => cf_M_reversed_B11_ok hd   w (cf_M_reversed_L11 P n) P Q hQ (fun x0 x2 x4 x5 h => cf_M_reversed_L11_ok hd   w  P Q hQ  n x0 x2 x4 x5 h) x0 x2 x4 x5 h
theorem cf_M_reversed_ok {g : ayG} {d : Nat} (hd : 1 ≤ d) (a0 : Int64)  (w : Wd) (P : Int64 → Prop) (h : cf_M_reversed a0 P) : Call g y_M_reversed prog_14_method_16_code 6 (some FieldType.long) d [.long a0] w (fun (r : Option Value) (w2 : Wd) => ∃ x, r = some (.long x) ∧ w = w2 ∧ P x) := by
  unfold cf_M_reversed at h
  refine am_enter mi_M_reversed (Nat.le_of_ble_eq_true rfl) ?_
  have hQ : ∀ x, P x → (fun (r : Option Value) (w2 : Wd) => ∃ x, r = some (.long x) ∧ w = w2 ∧ P x) (some (.long x)) w := fun x h => ⟨x, rfl, rfl, h⟩
  generalize (fun (r : Option Value) (w2 : Wd) => ∃ x, r = some (.long x) ∧ w = w2 ∧ P x) = Q at hQ ⊢
  show wp g (fun _ => True) y_M_reversed prog_14_method_16_code 6 (some FieldType.long) d 0 [(0, .long a0)] [] w Q
  refine am_lconst (v := 0) d_M_reversed_0 rfl ?_
  refine am_lstore_n (l' := [(2, .long (0 : Int64)), (0, .long a0)]) d_M_reversed_1 (by decide) rfl ?_
  refine am_lload_n d_M_reversed_2 1 rfl ?_
  refine am_callS (d2 := d - 1) [.long a0] d_M_reversed_3 mi_M_degree wd_1206 wd_1207 (by omega) rfl rfl (Nat.le_of_ble_eq_true rfl) ?_
  refine Call.post ?_ (cf_M_degree_ok (by omega) a0  w _ h)
  rintro _ _ ⟨r1, rfl, rfl, h⟩
  show wp g (fun _ => True) y_M_reversed prog_14_method_16_code 6 (some FieldType.long) d 6 [(2, .long (0 : Int64)), (0, .long a0)] [.int r1] w Q
  refine am_istore (l' := [(4, .int r1), (2, .long (0 : Int64)), (0, .long a0)]) d_M_reversed_6 (by decide) rfl ?_
  refine am_iconst (v := 0) d_M_reversed_8 rfl ?_
  refine am_istore (l' := [(5, .int (0 : Int32)), (4, .int r1), (2, .long (0 : Int64)), (0, .long a0)]) d_M_reversed_9 (by decide) rfl ?_
  refine am_sub [3, 2, 1, 0] rfl ?_
  obtain ⟨n, h⟩ := h
  exact cf_M_reversed_L11_ok (by omega)   w  P Q hQ  n a0 (0 : Int64) r1 (0 : Int32) h
theorem d_M_derived_0 : decode prog_14_method_17_code 0 = .ok (.lconst 0, 1) := by decide +kernel
theorem d_M_derived_1 : decode prog_14_method_17_code 1 = .ok (.lstore_n 2, 1) := by decide +kernel
theorem d_M_derived_2 : decode prog_14_method_17_code 2 = .ok (.iconst 1, 1) := by decide +kernel
theorem d_M_derived_3 : decode prog_14_method_17_code 3 = .ok (.istore 4, 2) := by decide +kernel
theorem d_M_derived_5 : decode prog_14_method_17_code 5 = .ok (.iload 4, 2) := by decide +kernel
theorem d_M_derived_7 : decode prog_14_method_17_code 7 = .ok (.lload_n 0, 1) := by decide +kernel
theorem d_M_derived_8 : decode prog_14_method_17_code 8 = .ok (.invokestatic 84, 3) := by decide +kernel
theorem d_M_derived_11 : decode prog_14_method_17_code 11 = .ok (.if_icmp .gt 27, 3) := by decide +kernel
theorem d_M_derived_14 : decode prog_14_method_17_code 14 = .ok (.lload_n 0, 1) := by decide +kernel
theorem d_M_derived_15 : decode prog_14_method_17_code 15 = .ok (.iload 4, 2) := by decide +kernel
theorem d_M_derived_17 : decode prog_14_method_17_code 17 = .ok (.invokestatic 80, 3) := by decide +kernel
theorem d_M_derived_20 : decode prog_14_method_17_code 20 = .ok (.ifCond .eq 12, 3) := by decide +kernel
theorem d_M_derived_23 : decode prog_14_method_17_code 23 = .ok (.lload_n 2, 1) := by decide +kernel
theorem d_M_derived_24 : decode prog_14_method_17_code 24 = .ok (.lconst 1, 1) := by decide +kernel
theorem d_M_derived_25 : decode prog_14_method_17_code 25 = .ok (.iload 4, 2) := by decide +kernel
theorem d_M_derived_27 : decode prog_14_method_17_code 27 = .ok (.iconst 1, 1) := by decide +kernel
theorem d_M_derived_28 : decode prog_14_method_17_code 28 = .ok (.isub, 1) := by decide +kernel
theorem d_M_derived_29 : decode prog_14_method_17_code 29 = .ok (.lshl, 1) := by decide +kernel
theorem d_M_derived_30 : decode prog_14_method_17_code 30 = .ok (.lor, 1) := by decide +kernel
theorem d_M_derived_31 : decode prog_14_method_17_code 31 = .ok (.lstore_n 2, 1) := by decide +kernel
theorem d_M_derived_32 : decode prog_14_method_17_code 32 = .ok (.iinc 4 2, 3) := by decide +kernel
theorem d_M_derived_35 : decode prog_14_method_17_code 35 = .ok (.goto (-30), 3) := by decide +kernel
theorem d_M_derived_38 : decode prog_14_method_17_code 38 = .ok (.lload_n 2, 1) := by decide +kernel
theorem d_M_derived_39 : decode prog_14_method_17_code 39 = .ok (.lreturn, 1) := by decide +kernel
def cf_M_derived_B5  (K5 : Int64 → Int64 → Int32 → Prop) (P : Int64 → Prop) (x0 : Int64) (x2 : Int64) (x4 : Int32)  : Prop :=
  cf_M_degree x0 (fun r1 => ((r1 < x4 → P x2) ∧ (¬ r1 < x4 → cf_M_has x0 x4 (fun r2 => ((r2 = 0 → ∀ v3, v3 = x4 + (2 : Int32) → K5 x0 x2 v3) ∧ (¬ r2 = 0 → ∀ v4, v4 = x2 ||| (lshl (1 : Int64) (x4 - (1 : Int32))) → ∀ v5, v5 = x4 + (2 : Int32) → K5 x0 v4 v5))))))
def cf_M_derived_L5   (P : Int64 → Prop) : Nat → Int64 → Int64 → Int32 → Prop
  | 0 => fun x0 x2 x4 => False
  | n + 1 => fun x0 x2 x4 => cf_M_derived_B5 (cf_M_derived_L5 P n) P x0 x2 x4
def cf_M_derived (a0 : Int64) (P : Int64 → Prop) : Prop :=
  ∃ n, cf_M_derived_L5 P n a0 (0 : Int64) (1 : Int32)
theorem cf_M_derived_B5_ok {g : ayG} {d : Nat} (hd : 1 ≤ d)   (w : Wd) (K5 : Int64 → Int64 → Int32 → Prop) (P : Int64 → Prop) (Q : Option Value → Wd → Prop) (hQ : ∀ x, P x → Q (some (.long x)) w) (hK5 : ∀ (x0 : Int64) (x2 : Int64) (x4 : Int32), (K5 x0 x2 x4 → wp g (fun _ => True) y_M_derived prog_14_method_17_code 5 (some FieldType.long) d 5 [(0, .long x0), (2, .long x2), (4, .int x4)] [] w Q)) (x0 : Int64) (x2 : Int64) (x4 : Int32) (h : cf_M_derived_B5 K5 P x0 x2 x4) : wp g (fun _ => True) y_M_derived prog_14_method_17_code 5 (some FieldType.long) d 5 [(0, .long x0), (2, .long x2), (4, .int x4)] [] w Q := by
  unfold cf_M_derived_B5 at h
  refine am_iload d_M_derived_5 2 rfl ?_
  refine am_lload_n d_M_derived_7 0 rfl ?_
  refine am_callS (d2 := d - 1) [.long x0] d_M_derived_8 mi_M_degree wd_1206 wd_1207 (by omega) rfl rfl (Nat.le_of_ble_eq_true rfl) ?_
  refine Call.post ?_ (cf_M_degree_ok (by omega) x0  w _ h)
  rintro _ _ ⟨r1, rfl, rfl, h⟩
  show wp g (fun _ => True) y_M_derived prog_14_method_17_code 5 (some FieldType.long) d 11 [(0, .long x0), (2, .long x2), (4, .int x4)] [.int r1, .int x4] w Q
  refine am_icmp_gt (tgt := 38) d_M_derived_11 (by decide) (fun c11 => ?_) (fun c11 => ?_)
  · have h := h.1 c11
    refine am_lload_n d_M_derived_38 1 rfl ?_
    exact am_lreturn d_M_derived_39 rfl (hQ x2 h)
  · have h := h.2 c11
    refine am_lload_n d_M_derived_14 0 rfl ?_
    refine am_iload d_M_derived_15 2 rfl ?_
    refine am_callS (d2 := d - 1) [.long x0, .int x4] d_M_derived_17 mi_M_has wd_1212 wd_1213 (by omega) rfl rfl (Nat.le_of_ble_eq_true rfl) ?_
    refine Call.post ?_ (cf_M_has_ok (by omega) x0 x4  w _ h)
    rintro _ _ ⟨r2, rfl, rfl, h⟩
    show wp g (fun _ => True) y_M_derived prog_14_method_17_code 5 (some FieldType.long) d 20 [(0, .long x0), (2, .long x2), (4, .int x4)] [.int r2] w Q
    refine am_if_eq (tgt := 32) d_M_derived_20 (by decide) (fun c20 => ?_) (fun c20 => ?_)
    · have h := h.1 c20
      obtain ⟨v3, ev3⟩ : ∃ z : Int32, z = x4 + (2 : Int32) := ⟨_, rfl⟩
      have h := h v3 ev3
      refine am_iinc (v := v3) (l' := [(4, .int v3), (0, .long x0), (2, .long x2)]) d_M_derived_32 2 rfl (by rw [ev3]; rfl) (by decide) rfl ?_
      refine am_goto (tgt := 5) d_M_derived_35 (by decide) ?_
      refine am_sub [1, 2, 0] rfl ?_
      exact hK5 x0 x2 v3 h
    · have h := h.2 c20
      refine am_lload_n d_M_derived_23 1 rfl ?_
      refine am_lconst (v := 1) d_M_derived_24 rfl ?_
      refine am_iload d_M_derived_25 2 rfl ?_
      refine am_iconst (v := 1) d_M_derived_27 rfl ?_
      refine am_isub d_M_derived_28 ?_
      refine am_lshl d_M_derived_29 ?_
      refine am_lor d_M_derived_30 ?_
      refine am_topl (fun v4 ev4 => ?_)
      have h := h v4 ev4
      refine am_lstore_n (l' := [(2, .long v4), (0, .long x0), (4, .int x4)]) d_M_derived_31 (by decide) rfl ?_
      obtain ⟨v5, ev5⟩ : ∃ z : Int32, z = x4 + (2 : Int32) := ⟨_, rfl⟩
      have h := h v5 ev5
      refine am_iinc (v := v5) (l' := [(4, .int v5), (2, .long v4), (0, .long x0)]) d_M_derived_32 2 rfl (by rw [ev5]; rfl) (by decide) rfl ?_
      refine am_goto (tgt := 5) d_M_derived_35 (by decide) ?_
      refine am_sub [2, 1, 0] rfl ?_
      exact hK5 x0 v4 v5 h
theorem cf_M_derived_L5_ok {g : ayG} {d : Nat} (hd : 1 ≤ d)   (w : Wd)  (P : Int64 → Prop) (Q : Option Value → Wd → Prop) (hQ : ∀ x, P x → Q (some (.long x)) w)  : ∀ (n : Nat) (x0 : Int64) (x2 : Int64) (x4 : Int32) (h : cf_M_derived_L5 P n x0 x2 x4), wp g (fun _ => True) y_M_derived prog_14_method_17_code 5 (some FieldType.long) d 5 [(0, .long x0), (2, .long x2), (4, .int x4)] [] w Q
  | 0, x0, x2, x4, h => False.elim h
  | n + 1, x0, x2, x4, h => cf_M_derived_B5_ok hd   w (cf_M_derived_L5 P n) P Q hQ (fun x0 x2 x4 h => cf_M_derived_L5_ok hd   w  P Q hQ  n x0 x2 x4 h) x0 x2 x4 h
theorem cf_M_derived_ok {g : ayG} {d : Nat} (hd : 1 ≤ d) (a0 : Int64)  (w : Wd) (P : Int64 → Prop) (h : cf_M_derived a0 P) : Call g y_M_derived prog_14_method_17_code 5 (some FieldType.long) d [.long a0] w (fun (r : Option Value) (w2 : Wd) => ∃ x, r = some (.long x) ∧ w = w2 ∧ P x) := by
  unfold cf_M_derived at h
  refine am_enter mi_M_derived (Nat.le_of_ble_eq_true rfl) ?_
  have hQ : ∀ x, P x → (fun (r : Option Value) (w2 : Wd) => ∃ x, r = some (.long x) ∧ w = w2 ∧ P x) (some (.long x)) w := fun x h => ⟨x, rfl, rfl, h⟩
  generalize (fun (r : Option Value) (w2 : Wd) => ∃ x, r = some (.long x) ∧ w = w2 ∧ P x) = Q at hQ ⊢
  show wp g (fun _ => True) y_M_derived prog_14_method_17_code 5 (some FieldType.long) d 0 [(0, .long a0)] [] w Q
  refine am_lconst (v := 0) d_M_derived_0 rfl ?_
  refine am_lstore_n (l' := [(2, .long (0 : Int64)), (0, .long a0)]) d_M_derived_1 (by decide) rfl ?_
  refine am_iconst (v := 1) d_M_derived_2 rfl ?_
  refine am_istore (l' := [(4, .int (1 : Int32)), (2, .long (0 : Int64)), (0, .long a0)]) d_M_derived_3 (by decide) rfl ?_
  refine am_sub [2, 1, 0] rfl ?_
  obtain ⟨n, h⟩ := h
  exact cf_M_derived_L5_ok (by omega)   w  P Q hQ  n a0 (0 : Int64) (1 : Int32) h
theorem d_M_tri_0 : decode prog_14_method_18_code 0 = .ok (.lconst 1, 1) := by decide +kernel
theorem d_M_tri_1 : decode prog_14_method_18_code 1 = .ok (.iload_n 0, 1) := by decide +kernel
theorem d_M_tri_2 : decode prog_14_method_18_code 2 = .ok (.lshl, 1) := by decide +kernel
theorem d_M_tri_3 : decode prog_14_method_18_code 3 = .ok (.lconst 1, 1) := by decide +kernel
theorem d_M_tri_4 : decode prog_14_method_18_code 4 = .ok (.iload_n 1, 1) := by decide +kernel
theorem d_M_tri_5 : decode prog_14_method_18_code 5 = .ok (.lshl, 1) := by decide +kernel
theorem d_M_tri_6 : decode prog_14_method_18_code 6 = .ok (.lor, 1) := by decide +kernel
theorem d_M_tri_7 : decode prog_14_method_18_code 7 = .ok (.lconst 1, 1) := by decide +kernel
theorem d_M_tri_8 : decode prog_14_method_18_code 8 = .ok (.lor, 1) := by decide +kernel
theorem d_M_tri_9 : decode prog_14_method_18_code 9 = .ok (.lreturn, 1) := by decide +kernel
def cf_M_tri (a0 : Int32) (a1 : Int32) (P : Int64 → Prop) : Prop :=
  P (((lshl (1 : Int64) a0) ||| (lshl (1 : Int64) a1)) ||| (1 : Int64))
theorem cf_M_tri_ok {g : ayG} {d : Nat} (hd : 0 ≤ d) (a0 : Int32) (a1 : Int32)  (w : Wd) (P : Int64 → Prop) (h : cf_M_tri a0 a1 P) : Call g y_M_tri prog_14_method_18_code 2 (some FieldType.long) d [.int a0, .int a1] w (fun (r : Option Value) (w2 : Wd) => ∃ x, r = some (.long x) ∧ w = w2 ∧ P x) := by
  unfold cf_M_tri at h
  refine am_enter mi_M_tri (Nat.le_of_ble_eq_true rfl) ?_
  have hQ : ∀ x, P x → (fun (r : Option Value) (w2 : Wd) => ∃ x, r = some (.long x) ∧ w = w2 ∧ P x) (some (.long x)) w := fun x h => ⟨x, rfl, rfl, h⟩
  generalize (fun (r : Option Value) (w2 : Wd) => ∃ x, r = some (.long x) ∧ w = w2 ∧ P x) = Q at hQ ⊢
  show wp g (fun _ => True) y_M_tri prog_14_method_18_code 2 (some FieldType.long) d 0 [(0, .int a0), (1, .int a1)] [] w Q
  refine am_lconst (v := 1) d_M_tri_0 rfl ?_
  refine am_iload_n d_M_tri_1 0 rfl ?_
  refine am_lshl d_M_tri_2 ?_
  refine am_lconst (v := 1) d_M_tri_3 rfl ?_
  refine am_iload_n d_M_tri_4 1 rfl ?_
  refine am_lshl d_M_tri_5 ?_
  refine am_lor d_M_tri_6 ?_
  refine am_lconst (v := 1) d_M_tri_7 rfl ?_
  refine am_lor d_M_tri_8 ?_
  exact am_lreturn d_M_tri_9 rfl (hQ (((lshl (1 : Int64) a0) ||| (lshl (1 : Int64) a1)) ||| (1 : Int64)) h)
theorem d_M_laysFactors_0 : decode prog_14_method_19_code 0 = .ok (.aload_n 0, 1) := by decide +kernel
theorem d_M_laysFactors_1 : decode prog_14_method_19_code 1 = .ok (.getfield 28, 3) := by decide +kernel
theorem d_M_laysFactors_4 : decode prog_14_method_19_code 4 = .ok (.lload_n 1, 1) := by decide +kernel
theorem d_M_laysFactors_5 : decode prog_14_method_19_code 5 = .ok (.lcmp, 1) := by decide +kernel
theorem d_M_laysFactors_6 : decode prog_14_method_19_code 6 = .ok (.ifCond .ne 4, 3) := by decide +kernel
theorem d_M_laysFactors_9 : decode prog_14_method_19_code 9 = .ok (.return_, 1) := by decide +kernel
theorem d_M_laysFactors_10 : decode prog_14_method_19_code 10 = .ok (.aload_n 0, 1) := by decide +kernel
theorem d_M_laysFactors_11 : decode prog_14_method_19_code 11 = .ok (.lload_n 1, 1) := by decide +kernel
theorem d_M_laysFactors_12 : decode prog_14_method_19_code 12 = .ok (.putfield 28, 3) := by decide +kernel
theorem d_M_laysFactors_15 : decode prog_14_method_19_code 15 = .ok (.aload_n 0, 1) := by decide +kernel
theorem d_M_laysFactors_16 : decode prog_14_method_19_code 16 = .ok (.iconst 0, 1) := by decide +kernel
theorem d_M_laysFactors_17 : decode prog_14_method_19_code 17 = .ok (.putfield 104, 3) := by decide +kernel
theorem d_M_laysFactors_20 : decode prog_14_method_19_code 20 = .ok (.lload_n 1, 1) := by decide +kernel
theorem d_M_laysFactors_21 : decode prog_14_method_19_code 21 = .ok (.lstore_n 3, 1) := by decide +kernel
theorem d_M_laysFactors_22 : decode prog_14_method_19_code 22 = .ok (.ldc2_w 107, 3) := by decide +kernel
theorem d_M_laysFactors_25 : decode prog_14_method_19_code 25 = .ok (.lstore 5, 2) := by decide +kernel
theorem d_M_laysFactors_27 : decode prog_14_method_19_code 27 = .ok (.lload_n 3, 1) := by decide +kernel
theorem d_M_laysFactors_28 : decode prog_14_method_19_code 28 = .ok (.invokestatic 84, 3) := by decide +kernel
theorem d_M_laysFactors_31 : decode prog_14_method_19_code 31 = .ok (.iconst 1, 1) := by decide +kernel
theorem d_M_laysFactors_32 : decode prog_14_method_19_code 32 = .ok (.if_icmp .lt 83, 3) := by decide +kernel
theorem d_M_laysFactors_35 : decode prog_14_method_19_code 35 = .ok (.iconst 2, 1) := by decide +kernel
theorem d_M_laysFactors_36 : decode prog_14_method_19_code 36 = .ok (.lload 5, 2) := by decide +kernel
theorem d_M_laysFactors_38 : decode prog_14_method_19_code 38 = .ok (.invokestatic 84, 3) := by decide +kernel
theorem d_M_laysFactors_41 : decode prog_14_method_19_code 41 = .ok (.imul, 1) := by decide +kernel
theorem d_M_laysFactors_42 : decode prog_14_method_19_code 42 = .ok (.lload_n 3, 1) := by decide +kernel
theorem d_M_laysFactors_43 : decode prog_14_method_19_code 43 = .ok (.invokestatic 84, 3) := by decide +kernel
theorem d_M_laysFactors_46 : decode prog_14_method_19_code 46 = .ok (.if_icmp .le 6, 3) := by decide +kernel
theorem d_M_laysFactors_49 : decode prog_14_method_19_code 49 = .ok (.lload_n 3, 1) := by decide +kernel
theorem d_M_laysFactors_50 : decode prog_14_method_19_code 50 = .ok (.lstore 5, 2) := by decide +kernel
theorem d_M_laysFactors_52 : decode prog_14_method_19_code 52 = .ok (.lload_n 3, 1) := by decide +kernel
theorem d_M_laysFactors_53 : decode prog_14_method_19_code 53 = .ok (.invokestatic 84, 3) := by decide +kernel
theorem d_M_laysFactors_56 : decode prog_14_method_19_code 56 = .ok (.lload 5, 2) := by decide +kernel
theorem d_M_laysFactors_58 : decode prog_14_method_19_code 58 = .ok (.invokestatic 84, 3) := by decide +kernel
theorem d_M_laysFactors_61 : decode prog_14_method_19_code 61 = .ok (.if_icmp .lt 45, 3) := by decide +kernel
theorem d_M_laysFactors_64 : decode prog_14_method_19_code 64 = .ok (.lload_n 3, 1) := by decide +kernel
theorem d_M_laysFactors_65 : decode prog_14_method_19_code 65 = .ok (.lload 5, 2) := by decide +kernel
theorem d_M_laysFactors_67 : decode prog_14_method_19_code 67 = .ok (.invokestatic 88, 3) := by decide +kernel
theorem d_M_laysFactors_70 : decode prog_14_method_19_code 70 = .ok (.lconst 0, 1) := by decide +kernel
theorem d_M_laysFactors_71 : decode prog_14_method_19_code 71 = .ok (.lcmp, 1) := by decide +kernel
theorem d_M_laysFactors_72 : decode prog_14_method_19_code 72 = .ok (.ifCond .ne 34, 3) := by decide +kernel
theorem d_M_laysFactors_75 : decode prog_14_method_19_code 75 = .ok (.aload_n 0, 1) := by decide +kernel
theorem d_M_laysFactors_76 : decode prog_14_method_19_code 76 = .ok (.getfield 23, 3) := by decide +kernel
theorem d_M_laysFactors_79 : decode prog_14_method_19_code 79 = .ok (.aload_n 0, 1) := by decide +kernel
theorem d_M_laysFactors_80 : decode prog_14_method_19_code 80 = .ok (.getfield 104, 3) := by decide +kernel
theorem d_M_laysFactors_83 : decode prog_14_method_19_code 83 = .ok (.lload 5, 2) := by decide +kernel
theorem d_M_laysFactors_85 : decode prog_14_method_19_code 85 = .ok (.lastore, 1) := by decide +kernel
theorem d_M_laysFactors_86 : decode prog_14_method_19_code 86 = .ok (.aload_n 0, 1) := by decide +kernel
theorem d_M_laysFactors_87 : decode prog_14_method_19_code 87 = .ok (.dup, 1) := by decide +kernel
theorem d_M_laysFactors_88 : decode prog_14_method_19_code 88 = .ok (.getfield 104, 3) := by decide +kernel
theorem d_M_laysFactors_91 : decode prog_14_method_19_code 91 = .ok (.iconst 1, 1) := by decide +kernel
theorem d_M_laysFactors_92 : decode prog_14_method_19_code 92 = .ok (.iadd, 1) := by decide +kernel
theorem d_M_laysFactors_93 : decode prog_14_method_19_code 93 = .ok (.putfield 104, 3) := by decide +kernel
theorem d_M_laysFactors_96 : decode prog_14_method_19_code 96 = .ok (.lload_n 3, 1) := by decide +kernel
theorem d_M_laysFactors_97 : decode prog_14_method_19_code 97 = .ok (.lload 5, 2) := by decide +kernel
theorem d_M_laysFactors_99 : decode prog_14_method_19_code 99 = .ok (.invokestatic 109, 3) := by decide +kernel
theorem d_M_laysFactors_102 : decode prog_14_method_19_code 102 = .ok (.lstore_n 3, 1) := by decide +kernel
theorem d_M_laysFactors_103 : decode prog_14_method_19_code 103 = .ok (.goto (-51), 3) := by decide +kernel
theorem d_M_laysFactors_106 : decode prog_14_method_19_code 106 = .ok (.lload 5, 2) := by decide +kernel
theorem d_M_laysFactors_108 : decode prog_14_method_19_code 108 = .ok (.lconst 1, 1) := by decide +kernel
theorem d_M_laysFactors_109 : decode prog_14_method_19_code 109 = .ok (.ladd, 1) := by decide +kernel
theorem d_M_laysFactors_110 : decode prog_14_method_19_code 110 = .ok (.lstore 5, 2) := by decide +kernel
theorem d_M_laysFactors_112 : decode prog_14_method_19_code 112 = .ok (.goto (-85), 3) := by decide +kernel
theorem d_M_laysFactors_115 : decode prog_14_method_19_code 115 = .ok (.return_, 1) := by decide +kernel
def cf_M_laysFactors_B52  (K27 : Int64 → Int64 → Wd → Prop) (K52 : Int64 → Int64 → Wd → Prop) (P : Wd → Prop) (x3 : Int64) (x5 : Int64) (w : Wd) : Prop :=
  cf_M_degree x3 (fun r6 => cf_M_degree x5 (fun r7 => ((r6 < r7 → ∀ v8, v8 = x5 + (1 : Int64) → K27 x3 v8 w) ∧ (¬ r6 < r7 → cf_M_restOf x3 x5 (fun r9 => ((¬ r9 = (0 : Int64) → ∀ v10, v10 = x5 + (1 : Int64) → K27 x3 v10 w) ∧ (r9 = (0 : Int64) → vp_in (w.1 30 6) 32 ∧ ∀ w11, w11 = wL w 35 (w.1 30 6).toNatClampNeg x5 → ∀ w12, w12 = wI w11 30 6 ((w11.1 30 6) + (1 : Int32)) → cf_M_quotient x3 x5 (fun r13 => K52 r13 x5 w12))))))))
def cf_M_laysFactors_L52  (K27 : Int64 → Int64 → Wd → Prop) (P : Wd → Prop) : Nat → Int64 → Int64 → Wd → Prop
  | 0 => fun x3 x5 w => False
  | n + 1 => fun x3 x5 w => cf_M_laysFactors_B52 K27 (cf_M_laysFactors_L52 K27 P n) P x3 x5 w
def cf_M_laysFactors_B27  (K27 : Int64 → Int64 → Wd → Prop) (P : Wd → Prop) (x3 : Int64) (x5 : Int64) (w : Wd) : Prop :=
  cf_M_degree x3 (fun r3 => ((r3 < (1 : Int32) → P w) ∧ (¬ r3 < (1 : Int32) → cf_M_degree x5 (fun r4 => cf_M_degree x3 (fun r5 => ((((2 : Int32) * r4) ≤ r5 → ∃ n, cf_M_laysFactors_L52 K27 P n x3 x5 w) ∧ (¬ ((2 : Int32) * r4) ≤ r5 → ∃ n, cf_M_laysFactors_L52 K27 P n x3 x3 w)))))))
def cf_M_laysFactors_L27   (P : Wd → Prop) : Nat → Int64 → Int64 → Wd → Prop
  | 0 => fun x3 x5 w => False
  | n + 1 => fun x3 x5 w => cf_M_laysFactors_B27 (cf_M_laysFactors_L27 P n) P x3 x5 w
def cf_M_laysFactors (a0 : Int64) (w : Wd) (P : Wd → Prop) : Prop :=
  ((¬ (w.2 30 7) = a0 → ∀ w1, w1 = wL w 30 7 a0 → ∀ w2, w2 = wI w1 30 6 (0 : Int32) → ∃ n, cf_M_laysFactors_L27 P n a0 (2 : Int64) w2) ∧ ((w.2 30 7) = a0 → P w))
theorem cf_M_laysFactors_B52_ok {g : ayG} {d : Nat} (hd : 2 ≤ d)   (w : Wd) (K27 : Int64 → Int64 → Wd → Prop) (K52 : Int64 → Int64 → Wd → Prop) (P : Wd → Prop) (Q : Option Value → Wd → Prop) (hQ : ∀ w2, P w2 → Q none w2) (hK27 : ∀ (x3 : Int64) (x5 : Int64) (w : Wd), (K27 x3 x5 w → wp g (fun _ => True) y_M_laysFactors prog_14_method_19_code 7 none d 27 [(0, .ref (g.1 + 30)), (3, .long x3), (5, .long x5)] [] w Q)) (hK52 : ∀ (x3 : Int64) (x5 : Int64) (w : Wd), (K52 x3 x5 w → wp g (fun _ => True) y_M_laysFactors prog_14_method_19_code 7 none d 52 [(0, .ref (g.1 + 30)), (3, .long x3), (5, .long x5)] [] w Q)) (x3 : Int64) (x5 : Int64) (h : cf_M_laysFactors_B52 K27 K52 P x3 x5 w) : wp g (fun _ => True) y_M_laysFactors prog_14_method_19_code 7 none d 52 [(0, .ref (g.1 + 30)), (3, .long x3), (5, .long x5)] [] w Q := by
  unfold cf_M_laysFactors_B52 at h
  refine am_lload_n d_M_laysFactors_52 1 rfl ?_
  refine am_callS (d2 := d - 1) [.long x3] d_M_laysFactors_53 mi_M_degree wd_1206 wd_1207 (by omega) rfl rfl (Nat.le_of_ble_eq_true rfl) ?_
  refine Call.post ?_ (cf_M_degree_ok (by omega) x3  w _ h)
  rintro _ _ ⟨r6, rfl, rfl, h⟩
  show wp g (fun _ => True) y_M_laysFactors prog_14_method_19_code 7 none d 56 [(0, .ref (g.1 + 30)), (3, .long x3), (5, .long x5)] [.int r6] w Q
  refine am_lload d_M_laysFactors_56 2 rfl ?_
  refine am_callS (d2 := d - 1) [.long x5] d_M_laysFactors_58 mi_M_degree wd_1206 wd_1207 (by omega) rfl rfl (Nat.le_of_ble_eq_true rfl) ?_
  refine Call.post ?_ (cf_M_degree_ok (by omega) x5  w _ h)
  rintro _ _ ⟨r7, rfl, rfl, h⟩
  show wp g (fun _ => True) y_M_laysFactors prog_14_method_19_code 7 none d 61 [(0, .ref (g.1 + 30)), (3, .long x3), (5, .long x5)] [.int r7, .int r6] w Q
  refine am_icmp_lt (tgt := 106) d_M_laysFactors_61 (by decide) (fun c61 => ?_) (fun c61 => ?_)
  · have h := h.1 c61
    refine am_lload d_M_laysFactors_106 2 rfl ?_
    refine am_lconst (v := 1) d_M_laysFactors_108 rfl ?_
    refine am_ladd d_M_laysFactors_109 ?_
    refine am_topl (fun v8 ev8 => ?_)
    have h := h v8 ev8
    refine am_lstore (l' := [(5, .long v8), (0, .ref (g.1 + 30)), (3, .long x3)]) d_M_laysFactors_110 (by decide) rfl ?_
    refine am_goto (tgt := 27) d_M_laysFactors_112 (by decide) ?_
    refine am_sub [1, 2, 0] rfl ?_
    exact hK27 x3 v8 w h
  · have h := h.2 c61
    refine am_lload_n d_M_laysFactors_64 1 rfl ?_
    refine am_lload d_M_laysFactors_65 2 rfl ?_
    refine am_callS (d2 := d - 1) [.long x3, .long x5] d_M_laysFactors_67 mi_M_restOf wd_1209 wd_1210 (by omega) rfl rfl (Nat.le_of_ble_eq_true rfl) ?_
    refine Call.post ?_ (cf_M_restOf_ok (by omega) x3 x5  w _ h)
    rintro _ _ ⟨r9, rfl, rfl, h⟩
    show wp g (fun _ => True) y_M_laysFactors prog_14_method_19_code 7 none d 70 [(0, .ref (g.1 + 30)), (3, .long x3), (5, .long x5)] [.long r9] w Q
    refine am_lconst (v := 0) d_M_laysFactors_70 rfl ?_
    refine am_lif_ne (tgt := 106) d_M_laysFactors_71 d_M_laysFactors_72 (by decide) (fun c71 => ?_) (fun c71 => ?_)
    · have h := h.1 c71
      refine am_lload d_M_laysFactors_106 2 rfl ?_
      refine am_lconst (v := 1) d_M_laysFactors_108 rfl ?_
      refine am_ladd d_M_laysFactors_109 ?_
      refine am_topl (fun v10 ev10 => ?_)
      have h := h v10 ev10
      refine am_lstore (l' := [(5, .long v10), (0, .ref (g.1 + 30)), (3, .long x3)]) d_M_laysFactors_110 (by decide) rfl ?_
      refine am_goto (tgt := 27) d_M_laysFactors_112 (by decide) ?_
      refine am_sub [1, 2, 0] rfl ?_
      exact hK27 x3 v10 w h
    · have h := h.2 c71
      refine am_aload_n d_M_laysFactors_75 0 rfl ?_
      refine am_getf (T := F_M) (fs := ob_M g w 30) (C := R_M) (N := 35) (ci := 10) 5 d_M_laysFactors_76 wd_1082 rfl (by decide) (el_M (show ay_sh 30 = _ from rfl)) rfl i_M (by decide) rfl ?_
      refine am_aload_n d_M_laysFactors_79 0 rfl ?_
      refine am_getf (T := F_M) (fs := ob_M g w 30) (C := R_M) (N := 35) (ci := 10) 6 d_M_laysFactors_80 wd_1083 rfl (by decide) (el_M (show ay_sh 30 = _ from rfl)) rfl i_M (by decide) rfl ?_
      refine am_lload d_M_laysFactors_83 2 rfl ?_
      have hi85 := h.1
      have h := h.2
      refine am_lastore d_M_laysFactors_85 (show ay_sh 35 = _ from rfl) hi85 ?_
      obtain ⟨w11, ew11⟩ : ∃ z, z = wL w 35 (w.1 30 6).toNatClampNeg x5 := ⟨_, rfl⟩
      rw [← ew11]
      have h := h w11 ew11
      refine am_aload_n d_M_laysFactors_86 0 rfl ?_
      refine am_dup d_M_laysFactors_87 rfl ?_
      refine am_getf (T := F_M) (fs := ob_M g w11 30) (C := R_M) (N := 35) (ci := 10) 6 d_M_laysFactors_88 wd_1083 rfl (by decide) (el_M (show ay_sh 30 = _ from rfl)) rfl i_M (by decide) rfl ?_
      refine am_iconst (v := 1) d_M_laysFactors_91 rfl ?_
      refine am_iadd d_M_laysFactors_92 ?_
      refine am_putf (w' := wI w11 30 6 ((w11.1 30 6) + (1 : Int32))) (ty := .int) (T := F_M) (fs := ob_M g w11 30) (C := R_M) (N := 35) (ci := 10) 6 d_M_laysFactors_93 wd_1083 rfl (by decide) (el_M (show ay_sh 30 = _ from rfl)) rfl i_M (by decide) G_M ty_M n_M rfl (ty_M 6 (by decide)) rfl rfl (Nat.le_of_ble_eq_true rfl) ((el_M (show ay_sh 30 = _ from rfl)).trans (by rw [pf_M_factors])) wI_o ?_
      obtain ⟨w12, ew12⟩ : ∃ z, z = wI w11 30 6 ((w11.1 30 6) + (1 : Int32)) := ⟨_, rfl⟩
      rw [← ew12]
      have h := h w12 ew12
      refine am_lload_n d_M_laysFactors_96 1 rfl ?_
      refine am_lload d_M_laysFactors_97 2 rfl ?_
      refine am_callS (d2 := d - 1) [.long x3, .long x5] d_M_laysFactors_99 mi_M_quotient wd_1215 wd_1216 (by omega) rfl rfl (Nat.le_of_ble_eq_true rfl) ?_
      refine Call.post ?_ (cf_M_quotient_ok (by omega) x3 x5  w12 _ h)
      rintro _ _ ⟨r13, rfl, rfl, h⟩
      show wp g (fun _ => True) y_M_laysFactors prog_14_method_19_code 7 none d 102 [(0, .ref (g.1 + 30)), (3, .long x3), (5, .long x5)] [.long r13] w12 Q
      refine am_lstore_n (l' := [(3, .long r13), (0, .ref (g.1 + 30)), (5, .long x5)]) d_M_laysFactors_102 (by decide) rfl ?_
      refine am_goto (tgt := 52) d_M_laysFactors_103 (by decide) ?_
      refine am_sub [1, 0, 2] rfl ?_
      exact hK52 r13 x5 w12 h
theorem cf_M_laysFactors_L52_ok {g : ayG} {d : Nat} (hd : 2 ≤ d)   (K27 : Int64 → Int64 → Wd → Prop) (P : Wd → Prop) (Q : Option Value → Wd → Prop) (hQ : ∀ w2, P w2 → Q none w2) (hK27 : ∀ (x3 : Int64) (x5 : Int64) (w : Wd), (K27 x3 x5 w → wp g (fun _ => True) y_M_laysFactors prog_14_method_19_code 7 none d 27 [(0, .ref (g.1 + 30)), (3, .long x3), (5, .long x5)] [] w Q)) : ∀ (n : Nat) (x3 : Int64) (x5 : Int64) (w : Wd) (h : cf_M_laysFactors_L52 K27 P n x3 x5 w), wp g (fun _ => True) y_M_laysFactors prog_14_method_19_code 7 none d 52 [(0, .ref (g.1 + 30)), (3, .long x3), (5, .long x5)] [] w Q
  | 0, x3, x5, w, h => False.elim h
  | n + 1, x3, x5, w, h => cf_M_laysFactors_B52_ok hd   w K27 (cf_M_laysFactors_L52 K27 P n) P Q hQ hK27 (fun x3 x5 w h => cf_M_laysFactors_L52_ok hd   K27 P Q hQ hK27 n x3 x5 w h) x3 x5 h
theorem cf_M_laysFactors_B27_ok {g : ayG} {d : Nat} (hd : 2 ≤ d)   (w : Wd) (K27 : Int64 → Int64 → Wd → Prop) (P : Wd → Prop) (Q : Option Value → Wd → Prop) (hQ : ∀ w2, P w2 → Q none w2) (hK27 : ∀ (x3 : Int64) (x5 : Int64) (w : Wd), (K27 x3 x5 w → wp g (fun _ => True) y_M_laysFactors prog_14_method_19_code 7 none d 27 [(0, .ref (g.1 + 30)), (3, .long x3), (5, .long x5)] [] w Q)) (x3 : Int64) (x5 : Int64) (h : cf_M_laysFactors_B27 K27 P x3 x5 w) : wp g (fun _ => True) y_M_laysFactors prog_14_method_19_code 7 none d 27 [(0, .ref (g.1 + 30)), (3, .long x3), (5, .long x5)] [] w Q := by
  unfold cf_M_laysFactors_B27 at h
  refine am_lload_n d_M_laysFactors_27 1 rfl ?_
  refine am_callS (d2 := d - 1) [.long x3] d_M_laysFactors_28 mi_M_degree wd_1206 wd_1207 (by omega) rfl rfl (Nat.le_of_ble_eq_true rfl) ?_
  refine Call.post ?_ (cf_M_degree_ok (by omega) x3  w _ h)
  rintro _ _ ⟨r3, rfl, rfl, h⟩
  show wp g (fun _ => True) y_M_laysFactors prog_14_method_19_code 7 none d 31 [(0, .ref (g.1 + 30)), (3, .long x3), (5, .long x5)] [.int r3] w Q
  refine am_iconst (v := 1) d_M_laysFactors_31 rfl ?_
  refine am_icmp_lt (tgt := 115) d_M_laysFactors_32 (by decide) (fun c32 => ?_) (fun c32 => ?_)
  · have h := h.1 c32
    exact am_return d_M_laysFactors_115 rfl (hQ w h)
  · have h := h.2 c32
    refine am_iconst (v := 2) d_M_laysFactors_35 rfl ?_
    refine am_lload d_M_laysFactors_36 2 rfl ?_
    refine am_callS (d2 := d - 1) [.long x5] d_M_laysFactors_38 mi_M_degree wd_1206 wd_1207 (by omega) rfl rfl (Nat.le_of_ble_eq_true rfl) ?_
    refine Call.post ?_ (cf_M_degree_ok (by omega) x5  w _ h)
    rintro _ _ ⟨r4, rfl, rfl, h⟩
    show wp g (fun _ => True) y_M_laysFactors prog_14_method_19_code 7 none d 41 [(0, .ref (g.1 + 30)), (3, .long x3), (5, .long x5)] [.int r4, .int (2 : Int32)] w Q
    refine am_imul d_M_laysFactors_41 ?_
    refine am_lload_n d_M_laysFactors_42 1 rfl ?_
    refine am_callS (d2 := d - 1) [.long x3] d_M_laysFactors_43 mi_M_degree wd_1206 wd_1207 (by omega) rfl rfl (Nat.le_of_ble_eq_true rfl) ?_
    refine Call.post ?_ (cf_M_degree_ok (by omega) x3  w _ h)
    rintro _ _ ⟨r5, rfl, rfl, h⟩
    show wp g (fun _ => True) y_M_laysFactors prog_14_method_19_code 7 none d 46 [(0, .ref (g.1 + 30)), (3, .long x3), (5, .long x5)] [.int r5, .int ((2 : Int32) * r4)] w Q
    refine am_icmp_le (tgt := 52) d_M_laysFactors_46 (by decide) (fun c46 => ?_) (fun c46 => ?_)
    · have h := h.1 c46
      refine am_sub [0, 1, 2] rfl ?_
      obtain ⟨n, h⟩ := h
      exact cf_M_laysFactors_L52_ok (by omega)   K27 P Q hQ hK27 n x3 x5 w h
    · have h := h.2 c46
      refine am_lload_n d_M_laysFactors_49 1 rfl ?_
      refine am_lstore (l' := [(5, .long x3), (0, .ref (g.1 + 30)), (3, .long x3)]) d_M_laysFactors_50 (by decide) rfl ?_
      refine am_sub [1, 2, 0] rfl ?_
      obtain ⟨n, h⟩ := h
      exact cf_M_laysFactors_L52_ok (by omega)   K27 P Q hQ hK27 n x3 x3 w h
theorem cf_M_laysFactors_L27_ok {g : ayG} {d : Nat} (hd : 2 ≤ d)    (P : Wd → Prop) (Q : Option Value → Wd → Prop) (hQ : ∀ w2, P w2 → Q none w2)  : ∀ (n : Nat) (x3 : Int64) (x5 : Int64) (w : Wd) (h : cf_M_laysFactors_L27 P n x3 x5 w), wp g (fun _ => True) y_M_laysFactors prog_14_method_19_code 7 none d 27 [(0, .ref (g.1 + 30)), (3, .long x3), (5, .long x5)] [] w Q
  | 0, x3, x5, w, h => False.elim h
  | n + 1, x3, x5, w, h => cf_M_laysFactors_B27_ok hd   w (cf_M_laysFactors_L27 P n) P Q hQ (fun x3 x5 w h => cf_M_laysFactors_L27_ok hd    P Q hQ  n x3 x5 w h) x3 x5 h
theorem cf_M_laysFactors_ok {g : ayG} {d : Nat} (hd : 2 ≤ d) (a0 : Int64)  (w : Wd) (P : Wd → Prop) (h : cf_M_laysFactors a0 w P) : Call g y_M_laysFactors prog_14_method_19_code 7 none d [.ref (g.1 + 30), .long a0] w (fun (r : Option Value) (w2 : Wd) => r = none ∧ P w2) := by
  unfold cf_M_laysFactors at h
  refine am_enter mi_M_laysFactors (Nat.le_of_ble_eq_true rfl) ?_
  have hQ : ∀ w2, P w2 → (fun (r : Option Value) (w2 : Wd) => r = none ∧ P w2) none w2 := fun w2 h => ⟨rfl, h⟩
  generalize (fun (r : Option Value) (w2 : Wd) => r = none ∧ P w2) = Q at hQ ⊢
  show wp g (fun _ => True) y_M_laysFactors prog_14_method_19_code 7 none d 0 [(0, .ref (g.1 + 30)), (1, .long a0)] [] w Q
  refine am_aload_n d_M_laysFactors_0 0 rfl ?_
  refine am_getf (T := F_M) (fs := ob_M g w 30) (C := R_M) (N := 35) (ci := 10) 7 d_M_laysFactors_1 wd_1084 rfl (by decide) (el_M (show ay_sh 30 = _ from rfl)) rfl i_M (by decide) rfl ?_
  refine am_lload_n d_M_laysFactors_4 1 rfl ?_
  refine am_lif_ne (tgt := 10) d_M_laysFactors_5 d_M_laysFactors_6 (by decide) (fun c5 => ?_) (fun c5 => ?_)
  · have h := h.1 c5
    refine am_aload_n d_M_laysFactors_10 0 rfl ?_
    refine am_lload_n d_M_laysFactors_11 1 rfl ?_
    refine am_putf (w' := wL w 30 7 a0) (ty := .long) (T := F_M) (fs := ob_M g w 30) (C := R_M) (N := 35) (ci := 10) 7 d_M_laysFactors_12 wd_1084 rfl (by decide) (el_M (show ay_sh 30 = _ from rfl)) rfl i_M (by decide) G_M ty_M n_M rfl (ty_M 7 (by decide)) rfl rfl (Nat.le_of_ble_eq_true rfl) ((el_M (show ay_sh 30 = _ from rfl)).trans (by rw [pf_M_factored])) wL_o ?_
    obtain ⟨w1, ew1⟩ : ∃ z, z = wL w 30 7 a0 := ⟨_, rfl⟩
    rw [← ew1]
    have h := h w1 ew1
    refine am_aload_n d_M_laysFactors_15 0 rfl ?_
    refine am_iconst (v := 0) d_M_laysFactors_16 rfl ?_
    refine am_putf (w' := wI w1 30 6 (0 : Int32)) (ty := .int) (T := F_M) (fs := ob_M g w1 30) (C := R_M) (N := 35) (ci := 10) 6 d_M_laysFactors_17 wd_1083 rfl (by decide) (el_M (show ay_sh 30 = _ from rfl)) rfl i_M (by decide) G_M ty_M n_M rfl (ty_M 6 (by decide)) rfl rfl (Nat.le_of_ble_eq_true rfl) ((el_M (show ay_sh 30 = _ from rfl)).trans (by rw [pf_M_factors])) wI_o ?_
    obtain ⟨w2, ew2⟩ : ∃ z, z = wI w1 30 6 (0 : Int32) := ⟨_, rfl⟩
    rw [← ew2]
    have h := h w2 ew2
    refine am_lload_n d_M_laysFactors_20 1 rfl ?_
    refine am_lstore_n (l' := [(3, .long a0), (0, .ref (g.1 + 30)), (1, .long a0)]) d_M_laysFactors_21 (by decide) rfl ?_
    refine am_ldc2 (v := 2) d_M_laysFactors_22 wd_1205 ?_
    refine am_lstore (l' := [(5, .long (2 : Int64)), (3, .long a0), (0, .ref (g.1 + 30)), (1, .long a0)]) d_M_laysFactors_25 (by decide) rfl ?_
    refine am_sub [2, 1, 0] rfl ?_
    obtain ⟨n, h⟩ := h
    exact cf_M_laysFactors_L27_ok (by omega)    P Q hQ  n a0 (2 : Int64) w2 h
  · have h := h.2 c5
    exact am_return d_M_laysFactors_9 rfl (hQ w h)
theorem d_M_isIrreducible_0 : decode prog_14_method_20_code 0 = .ok (.aload_n 0, 1) := by decide +kernel
theorem d_M_isIrreducible_1 : decode prog_14_method_20_code 1 = .ok (.lload_n 1, 1) := by decide +kernel
theorem d_M_isIrreducible_2 : decode prog_14_method_20_code 2 = .ok (.invokevirtual 112, 3) := by decide +kernel
theorem d_M_isIrreducible_5 : decode prog_14_method_20_code 5 = .ok (.aload_n 0, 1) := by decide +kernel
theorem d_M_isIrreducible_6 : decode prog_14_method_20_code 6 = .ok (.getfield 104, 3) := by decide +kernel
theorem d_M_isIrreducible_9 : decode prog_14_method_20_code 9 = .ok (.iconst 1, 1) := by decide +kernel
theorem d_M_isIrreducible_10 : decode prog_14_method_20_code 10 = .ok (.if_icmp .ne 7, 3) := by decide +kernel
theorem d_M_isIrreducible_13 : decode prog_14_method_20_code 13 = .ok (.iconst 1, 1) := by decide +kernel
theorem d_M_isIrreducible_14 : decode prog_14_method_20_code 14 = .ok (.goto 4, 3) := by decide +kernel
theorem d_M_isIrreducible_17 : decode prog_14_method_20_code 17 = .ok (.iconst 0, 1) := by decide +kernel
theorem d_M_isIrreducible_18 : decode prog_14_method_20_code 18 = .ok (.ireturn, 1) := by decide +kernel
def cf_M_isIrreducible (a0 : Int64) (w : Wd) (P : Int32 → Wd → Prop) : Prop :=
  cf_M_laysFactors a0 w (fun w1 => ((¬ (w1.1 30 6) = (1 : Int32) → P (0 : Int32) w1) ∧ ((w1.1 30 6) = (1 : Int32) → P (1 : Int32) w1)))
theorem cf_M_isIrreducible_ok {g : ayG} {d : Nat} (hd : 3 ≤ d) (a0 : Int64)  (w : Wd) (P : Int32 → Wd → Prop) (h : cf_M_isIrreducible a0 w P) : Call g y_M_isIrreducible prog_14_method_20_code 3 (some FieldType.boolean) d [.ref (g.1 + 30), .long a0] w (fun (r : Option Value) (w2 : Wd) => ∃ x, r = some (.int x) ∧ P x w2) := by
  unfold cf_M_isIrreducible at h
  refine am_enter mi_M_isIrreducible (Nat.le_of_ble_eq_true rfl) ?_
  have hQ : ∀ x w2, P x w2 → (fun (r : Option Value) (w2 : Wd) => ∃ x, r = some (.int x) ∧ P x w2) (some (.int x)) w2 := fun x w2 h => ⟨x, rfl, h⟩
  generalize (fun (r : Option Value) (w2 : Wd) => ∃ x, r = some (.int x) ∧ P x w2) = Q at hQ ⊢
  show wp g (fun _ => True) y_M_isIrreducible prog_14_method_20_code 3 (some FieldType.boolean) d 0 [(0, .ref (g.1 + 30)), (1, .long a0)] [] w Q
  refine am_aload_n d_M_isIrreducible_0 0 rfl ?_
  refine am_lload_n d_M_isIrreducible_1 1 rfl ?_
  refine am_callV (C := y_M_laysFactors.cls) (d2 := d - 1) [.long a0] d_M_isIrreducible_2 mi_M_laysFactors wd_1201 wd_1203 ws_M_laysFactors (by decide) (el_M (show ay_sh 30 = _ from rfl)) rfl rfl (by omega) rfl rfl (Nat.le_of_ble_eq_true rfl) ?_
  refine Call.post ?_ (cf_M_laysFactors_ok (by omega) a0  w _ h)
  rintro _ w1 ⟨rfl, h⟩
  show wp g (fun _ => True) y_M_isIrreducible prog_14_method_20_code 3 (some FieldType.boolean) d 5 [(0, .ref (g.1 + 30)), (1, .long a0)] [] w1 Q
  refine am_aload_n d_M_isIrreducible_5 0 rfl ?_
  refine am_getf (T := F_M) (fs := ob_M g w1 30) (C := R_M) (N := 35) (ci := 10) 6 d_M_isIrreducible_6 wd_1083 rfl (by decide) (el_M (show ay_sh 30 = _ from rfl)) rfl i_M (by decide) rfl ?_
  refine am_iconst (v := 1) d_M_isIrreducible_9 rfl ?_
  refine am_icmp_ne (tgt := 17) d_M_isIrreducible_10 (by decide) (fun c10 => ?_) (fun c10 => ?_)
  · have h := h.1 c10
    refine am_iconst (v := 0) d_M_isIrreducible_17 rfl ?_
    exact am_ireturn d_M_isIrreducible_18 rfl rfl (hQ (0 : Int32) w1 h)
  · have h := h.2 c10
    refine am_iconst (v := 1) d_M_isIrreducible_13 rfl ?_
    refine am_goto (tgt := 18) d_M_isIrreducible_14 (by decide) ?_
    exact am_ireturn d_M_isIrreducible_18 rfl rfl (hQ (1 : Int32) w1 h)
theorem d_M_unlikeFactors_0 : decode prog_14_method_21_code 0 = .ok (.iconst 0, 1) := by decide +kernel
theorem d_M_unlikeFactors_1 : decode prog_14_method_21_code 1 = .ok (.istore_n 1, 1) := by decide +kernel
theorem d_M_unlikeFactors_2 : decode prog_14_method_21_code 2 = .ok (.iconst 0, 1) := by decide +kernel
theorem d_M_unlikeFactors_3 : decode prog_14_method_21_code 3 = .ok (.istore_n 2, 1) := by decide +kernel
theorem d_M_unlikeFactors_4 : decode prog_14_method_21_code 4 = .ok (.iload_n 2, 1) := by decide +kernel
theorem d_M_unlikeFactors_5 : decode prog_14_method_21_code 5 = .ok (.aload_n 0, 1) := by decide +kernel
theorem d_M_unlikeFactors_6 : decode prog_14_method_21_code 6 = .ok (.getfield 104, 3) := by decide +kernel
theorem d_M_unlikeFactors_9 : decode prog_14_method_21_code 9 = .ok (.if_icmp .ge 39, 3) := by decide +kernel
theorem d_M_unlikeFactors_12 : decode prog_14_method_21_code 12 = .ok (.iload_n 1, 1) := by decide +kernel
theorem d_M_unlikeFactors_13 : decode prog_14_method_21_code 13 = .ok (.iload_n 2, 1) := by decide +kernel
theorem d_M_unlikeFactors_14 : decode prog_14_method_21_code 14 = .ok (.ifCond .eq 21, 3) := by decide +kernel
theorem d_M_unlikeFactors_17 : decode prog_14_method_21_code 17 = .ok (.aload_n 0, 1) := by decide +kernel
theorem d_M_unlikeFactors_18 : decode prog_14_method_21_code 18 = .ok (.getfield 23, 3) := by decide +kernel
theorem d_M_unlikeFactors_21 : decode prog_14_method_21_code 21 = .ok (.iload_n 2, 1) := by decide +kernel
theorem d_M_unlikeFactors_22 : decode prog_14_method_21_code 22 = .ok (.laload, 1) := by decide +kernel
theorem d_M_unlikeFactors_23 : decode prog_14_method_21_code 23 = .ok (.aload_n 0, 1) := by decide +kernel
theorem d_M_unlikeFactors_24 : decode prog_14_method_21_code 24 = .ok (.getfield 23, 3) := by decide +kernel
theorem d_M_unlikeFactors_27 : decode prog_14_method_21_code 27 = .ok (.iload_n 2, 1) := by decide +kernel
theorem d_M_unlikeFactors_28 : decode prog_14_method_21_code 28 = .ok (.iconst 1, 1) := by decide +kernel
theorem d_M_unlikeFactors_29 : decode prog_14_method_21_code 29 = .ok (.isub, 1) := by decide +kernel
theorem d_M_unlikeFactors_30 : decode prog_14_method_21_code 30 = .ok (.laload, 1) := by decide +kernel
theorem d_M_unlikeFactors_31 : decode prog_14_method_21_code 31 = .ok (.lcmp, 1) := by decide +kernel
theorem d_M_unlikeFactors_32 : decode prog_14_method_21_code 32 = .ok (.ifCond .eq 7, 3) := by decide +kernel
theorem d_M_unlikeFactors_35 : decode prog_14_method_21_code 35 = .ok (.iconst 1, 1) := by decide +kernel
theorem d_M_unlikeFactors_36 : decode prog_14_method_21_code 36 = .ok (.goto 4, 3) := by decide +kernel
theorem d_M_unlikeFactors_39 : decode prog_14_method_21_code 39 = .ok (.iconst 0, 1) := by decide +kernel
theorem d_M_unlikeFactors_40 : decode prog_14_method_21_code 40 = .ok (.iadd, 1) := by decide +kernel
theorem d_M_unlikeFactors_41 : decode prog_14_method_21_code 41 = .ok (.istore_n 1, 1) := by decide +kernel
theorem d_M_unlikeFactors_42 : decode prog_14_method_21_code 42 = .ok (.iinc 2 1, 3) := by decide +kernel
theorem d_M_unlikeFactors_45 : decode prog_14_method_21_code 45 = .ok (.goto (-41), 3) := by decide +kernel
theorem d_M_unlikeFactors_48 : decode prog_14_method_21_code 48 = .ok (.iload_n 1, 1) := by decide +kernel
theorem d_M_unlikeFactors_49 : decode prog_14_method_21_code 49 = .ok (.ireturn, 1) := by decide +kernel
def cf_M_unlikeFactors_B4  (w : Wd) (K4 : Int32 → Int32 → Prop) (P : Int32 → Prop) (x1 : Int32) (x2 : Int32)  : Prop :=
  (((w.1 30 6) ≤ x2 → P x1) ∧ (¬ (w.1 30 6) ≤ x2 → ((x2 = 0 → ∀ v1, v1 = x1 + (1 : Int32) → ∀ v2, v2 = x2 + (1 : Int32) → K4 v1 v2) ∧ (¬ x2 = 0 → vp_in x2 32 ∧ vp_in (x2 - (1 : Int32)) 32 ∧ (((w.2 35 x2.toNatClampNeg) = (w.2 35 (x2 - (1 : Int32)).toNatClampNeg) → ∀ v3, v3 = x1 + (0 : Int32) → ∀ v4, v4 = x2 + (1 : Int32) → K4 v3 v4) ∧ (¬ (w.2 35 x2.toNatClampNeg) = (w.2 35 (x2 - (1 : Int32)).toNatClampNeg) → ∀ v5, v5 = x1 + (1 : Int32) → ∀ v6, v6 = x2 + (1 : Int32) → K4 v5 v6))))))
def cf_M_unlikeFactors_L4  (w : Wd)  (P : Int32 → Prop) : Nat → Int32 → Int32 → Prop
  | 0 => fun x1 x2 => False
  | n + 1 => fun x1 x2 => cf_M_unlikeFactors_B4 w (cf_M_unlikeFactors_L4 w P n) P x1 x2
def cf_M_unlikeFactors  (w : Wd) (P : Int32 → Prop) : Prop :=
  ∃ n, cf_M_unlikeFactors_L4 w P n (0 : Int32) (0 : Int32)
theorem cf_M_unlikeFactors_B4_ok {g : ayG} {d : Nat} (hd : 0 ≤ d)   (w : Wd) (K4 : Int32 → Int32 → Prop) (P : Int32 → Prop) (Q : Option Value → Wd → Prop) (hQ : ∀ x, P x → Q (some (.int x)) w) (hK4 : ∀ (x1 : Int32) (x2 : Int32), (K4 x1 x2 → wp g (fun _ => True) y_M_unlikeFactors prog_14_method_21_code 3 (some FieldType.int) d 4 [(0, .ref (g.1 + 30)), (1, .int x1), (2, .int x2)] [] w Q)) (x1 : Int32) (x2 : Int32) (h : cf_M_unlikeFactors_B4 w K4 P x1 x2) : wp g (fun _ => True) y_M_unlikeFactors prog_14_method_21_code 3 (some FieldType.int) d 4 [(0, .ref (g.1 + 30)), (1, .int x1), (2, .int x2)] [] w Q := by
  unfold cf_M_unlikeFactors_B4 at h
  refine am_iload_n d_M_unlikeFactors_4 2 rfl ?_
  refine am_aload_n d_M_unlikeFactors_5 0 rfl ?_
  refine am_getf (T := F_M) (fs := ob_M g w 30) (C := R_M) (N := 35) (ci := 10) 6 d_M_unlikeFactors_6 wd_1083 rfl (by decide) (el_M (show ay_sh 30 = _ from rfl)) rfl i_M (by decide) rfl ?_
  refine am_icmp_ge (tgt := 48) d_M_unlikeFactors_9 (by decide) (fun c9 => ?_) (fun c9 => ?_)
  · have h := h.1 c9
    refine am_iload_n d_M_unlikeFactors_48 1 rfl ?_
    exact am_ireturn d_M_unlikeFactors_49 rfl rfl (hQ x1 h)
  · have h := h.2 c9
    refine am_iload_n d_M_unlikeFactors_12 1 rfl ?_
    refine am_iload_n d_M_unlikeFactors_13 2 rfl ?_
    refine am_if_eq (tgt := 35) d_M_unlikeFactors_14 (by decide) (fun c14 => ?_) (fun c14 => ?_)
    · have h := h.1 c14
      refine am_iconst (v := 1) d_M_unlikeFactors_35 rfl ?_
      refine am_goto (tgt := 40) d_M_unlikeFactors_36 (by decide) ?_
      refine am_iadd d_M_unlikeFactors_40 ?_
      refine am_topi (fun v1 ev1 => ?_)
      have h := h v1 ev1
      refine am_istore_n (l' := [(1, .int v1), (0, .ref (g.1 + 30)), (2, .int x2)]) d_M_unlikeFactors_41 (by decide) rfl ?_
      obtain ⟨v2, ev2⟩ : ∃ z : Int32, z = x2 + (1 : Int32) := ⟨_, rfl⟩
      have h := h v2 ev2
      refine am_iinc (v := v2) (l' := [(2, .int v2), (1, .int v1), (0, .ref (g.1 + 30))]) d_M_unlikeFactors_42 2 rfl (by rw [ev2]; rfl) (by decide) rfl ?_
      refine am_goto (tgt := 4) d_M_unlikeFactors_45 (by decide) ?_
      refine am_sub [2, 1, 0] rfl ?_
      exact hK4 v1 v2 h
    · have h := h.2 c14
      refine am_aload_n d_M_unlikeFactors_17 0 rfl ?_
      refine am_getf (T := F_M) (fs := ob_M g w 30) (C := R_M) (N := 35) (ci := 10) 5 d_M_unlikeFactors_18 wd_1082 rfl (by decide) (el_M (show ay_sh 30 = _ from rfl)) rfl i_M (by decide) rfl ?_
      refine am_iload_n d_M_unlikeFactors_21 2 rfl ?_
      have hi22 := h.1
      have h := h.2
      refine am_laload d_M_unlikeFactors_22 (show ay_sh 35 = _ from rfl) hi22 ?_
      refine am_aload_n d_M_unlikeFactors_23 0 rfl ?_
      refine am_getf (T := F_M) (fs := ob_M g w 30) (C := R_M) (N := 35) (ci := 10) 5 d_M_unlikeFactors_24 wd_1082 rfl (by decide) (el_M (show ay_sh 30 = _ from rfl)) rfl i_M (by decide) rfl ?_
      refine am_iload_n d_M_unlikeFactors_27 2 rfl ?_
      refine am_iconst (v := 1) d_M_unlikeFactors_28 rfl ?_
      refine am_isub d_M_unlikeFactors_29 ?_
      have hi30 := h.1
      have h := h.2
      refine am_laload d_M_unlikeFactors_30 (show ay_sh 35 = _ from rfl) hi30 ?_
      refine am_lif_eq (tgt := 39) d_M_unlikeFactors_31 d_M_unlikeFactors_32 (by decide) (fun c31 => ?_) (fun c31 => ?_)
      · have h := h.1 c31
        refine am_iconst (v := 0) d_M_unlikeFactors_39 rfl ?_
        refine am_iadd d_M_unlikeFactors_40 ?_
        refine am_topi (fun v3 ev3 => ?_)
        have h := h v3 ev3
        refine am_istore_n (l' := [(1, .int v3), (0, .ref (g.1 + 30)), (2, .int x2)]) d_M_unlikeFactors_41 (by decide) rfl ?_
        obtain ⟨v4, ev4⟩ : ∃ z : Int32, z = x2 + (1 : Int32) := ⟨_, rfl⟩
        have h := h v4 ev4
        refine am_iinc (v := v4) (l' := [(2, .int v4), (1, .int v3), (0, .ref (g.1 + 30))]) d_M_unlikeFactors_42 2 rfl (by rw [ev4]; rfl) (by decide) rfl ?_
        refine am_goto (tgt := 4) d_M_unlikeFactors_45 (by decide) ?_
        refine am_sub [2, 1, 0] rfl ?_
        exact hK4 v3 v4 h
      · have h := h.2 c31
        refine am_iconst (v := 1) d_M_unlikeFactors_35 rfl ?_
        refine am_goto (tgt := 40) d_M_unlikeFactors_36 (by decide) ?_
        refine am_iadd d_M_unlikeFactors_40 ?_
        refine am_topi (fun v5 ev5 => ?_)
        have h := h v5 ev5
        refine am_istore_n (l' := [(1, .int v5), (0, .ref (g.1 + 30)), (2, .int x2)]) d_M_unlikeFactors_41 (by decide) rfl ?_
        obtain ⟨v6, ev6⟩ : ∃ z : Int32, z = x2 + (1 : Int32) := ⟨_, rfl⟩
        have h := h v6 ev6
        refine am_iinc (v := v6) (l' := [(2, .int v6), (1, .int v5), (0, .ref (g.1 + 30))]) d_M_unlikeFactors_42 2 rfl (by rw [ev6]; rfl) (by decide) rfl ?_
        refine am_goto (tgt := 4) d_M_unlikeFactors_45 (by decide) ?_
        refine am_sub [2, 1, 0] rfl ?_
        exact hK4 v5 v6 h
theorem cf_M_unlikeFactors_L4_ok {g : ayG} {d : Nat} (hd : 0 ≤ d)   (w : Wd)  (P : Int32 → Prop) (Q : Option Value → Wd → Prop) (hQ : ∀ x, P x → Q (some (.int x)) w)  : ∀ (n : Nat) (x1 : Int32) (x2 : Int32) (h : cf_M_unlikeFactors_L4 w P n x1 x2), wp g (fun _ => True) y_M_unlikeFactors prog_14_method_21_code 3 (some FieldType.int) d 4 [(0, .ref (g.1 + 30)), (1, .int x1), (2, .int x2)] [] w Q
  | 0, x1, x2, h => False.elim h
  | n + 1, x1, x2, h => cf_M_unlikeFactors_B4_ok hd   w (cf_M_unlikeFactors_L4 w P n) P Q hQ (fun x1 x2 h => cf_M_unlikeFactors_L4_ok hd   w  P Q hQ  n x1 x2 h) x1 x2 h
theorem cf_M_unlikeFactors_ok {g : ayG} {d : Nat} (hd : 0 ≤ d)   (w : Wd) (P : Int32 → Prop) (h : cf_M_unlikeFactors w P) : Call g y_M_unlikeFactors prog_14_method_21_code 3 (some FieldType.int) d [.ref (g.1 + 30)] w (fun (r : Option Value) (w2 : Wd) => ∃ x, r = some (.int x) ∧ w = w2 ∧ P x) := by
  unfold cf_M_unlikeFactors at h
  refine am_enter mi_M_unlikeFactors (Nat.le_of_ble_eq_true rfl) ?_
  have hQ : ∀ x, P x → (fun (r : Option Value) (w2 : Wd) => ∃ x, r = some (.int x) ∧ w = w2 ∧ P x) (some (.int x)) w := fun x h => ⟨x, rfl, rfl, h⟩
  generalize (fun (r : Option Value) (w2 : Wd) => ∃ x, r = some (.int x) ∧ w = w2 ∧ P x) = Q at hQ ⊢
  show wp g (fun _ => True) y_M_unlikeFactors prog_14_method_21_code 3 (some FieldType.int) d 0 [(0, .ref (g.1 + 30))] [] w Q
  refine am_iconst (v := 0) d_M_unlikeFactors_0 rfl ?_
  refine am_istore_n (l' := [(1, .int (0 : Int32)), (0, .ref (g.1 + 30))]) d_M_unlikeFactors_1 (by decide) rfl ?_
  refine am_iconst (v := 0) d_M_unlikeFactors_2 rfl ?_
  refine am_istore_n (l' := [(2, .int (0 : Int32)), (1, .int (0 : Int32)), (0, .ref (g.1 + 30))]) d_M_unlikeFactors_3 (by decide) rfl ?_
  refine am_sub [2, 1, 0] rfl ?_
  obtain ⟨n, h⟩ := h
  exact cf_M_unlikeFactors_L4_ok (by omega)   w  P Q hQ  n (0 : Int32) (0 : Int32) h
theorem d_M_oftenest_0 : decode prog_14_method_22_code 0 = .ok (.iconst 0, 1) := by decide +kernel
theorem d_M_oftenest_1 : decode prog_14_method_22_code 1 = .ok (.istore_n 1, 1) := by decide +kernel
theorem d_M_oftenest_2 : decode prog_14_method_22_code 2 = .ok (.iconst 0, 1) := by decide +kernel
theorem d_M_oftenest_3 : decode prog_14_method_22_code 3 = .ok (.istore_n 2, 1) := by decide +kernel
theorem d_M_oftenest_4 : decode prog_14_method_22_code 4 = .ok (.iconst 0, 1) := by decide +kernel
theorem d_M_oftenest_5 : decode prog_14_method_22_code 5 = .ok (.istore_n 3, 1) := by decide +kernel
theorem d_M_oftenest_6 : decode prog_14_method_22_code 6 = .ok (.iload_n 3, 1) := by decide +kernel
theorem d_M_oftenest_7 : decode prog_14_method_22_code 7 = .ok (.aload_n 0, 1) := by decide +kernel
theorem d_M_oftenest_8 : decode prog_14_method_22_code 8 = .ok (.getfield 104, 3) := by decide +kernel
theorem d_M_oftenest_11 : decode prog_14_method_22_code 11 = .ok (.if_icmp .ge 50, 3) := by decide +kernel
theorem d_M_oftenest_14 : decode prog_14_method_22_code 14 = .ok (.iload_n 3, 1) := by decide +kernel
theorem d_M_oftenest_15 : decode prog_14_method_22_code 15 = .ok (.ifCond .le 27, 3) := by decide +kernel
theorem d_M_oftenest_18 : decode prog_14_method_22_code 18 = .ok (.aload_n 0, 1) := by decide +kernel
theorem d_M_oftenest_19 : decode prog_14_method_22_code 19 = .ok (.getfield 23, 3) := by decide +kernel
theorem d_M_oftenest_22 : decode prog_14_method_22_code 22 = .ok (.iload_n 3, 1) := by decide +kernel
theorem d_M_oftenest_23 : decode prog_14_method_22_code 23 = .ok (.laload, 1) := by decide +kernel
theorem d_M_oftenest_24 : decode prog_14_method_22_code 24 = .ok (.aload_n 0, 1) := by decide +kernel
theorem d_M_oftenest_25 : decode prog_14_method_22_code 25 = .ok (.getfield 23, 3) := by decide +kernel
theorem d_M_oftenest_28 : decode prog_14_method_22_code 28 = .ok (.iload_n 3, 1) := by decide +kernel
theorem d_M_oftenest_29 : decode prog_14_method_22_code 29 = .ok (.iconst 1, 1) := by decide +kernel
theorem d_M_oftenest_30 : decode prog_14_method_22_code 30 = .ok (.isub, 1) := by decide +kernel
theorem d_M_oftenest_31 : decode prog_14_method_22_code 31 = .ok (.laload, 1) := by decide +kernel
theorem d_M_oftenest_32 : decode prog_14_method_22_code 32 = .ok (.lcmp, 1) := by decide +kernel
theorem d_M_oftenest_33 : decode prog_14_method_22_code 33 = .ok (.ifCond .ne 9, 3) := by decide +kernel
theorem d_M_oftenest_36 : decode prog_14_method_22_code 36 = .ok (.iload_n 2, 1) := by decide +kernel
theorem d_M_oftenest_37 : decode prog_14_method_22_code 37 = .ok (.iconst 1, 1) := by decide +kernel
theorem d_M_oftenest_38 : decode prog_14_method_22_code 38 = .ok (.iadd, 1) := by decide +kernel
theorem d_M_oftenest_39 : decode prog_14_method_22_code 39 = .ok (.goto 4, 3) := by decide +kernel
theorem d_M_oftenest_42 : decode prog_14_method_22_code 42 = .ok (.iconst 1, 1) := by decide +kernel
theorem d_M_oftenest_43 : decode prog_14_method_22_code 43 = .ok (.istore_n 2, 1) := by decide +kernel
theorem d_M_oftenest_44 : decode prog_14_method_22_code 44 = .ok (.iload_n 2, 1) := by decide +kernel
theorem d_M_oftenest_45 : decode prog_14_method_22_code 45 = .ok (.iload_n 1, 1) := by decide +kernel
theorem d_M_oftenest_46 : decode prog_14_method_22_code 46 = .ok (.if_icmp .le 7, 3) := by decide +kernel
theorem d_M_oftenest_49 : decode prog_14_method_22_code 49 = .ok (.iload_n 2, 1) := by decide +kernel
theorem d_M_oftenest_50 : decode prog_14_method_22_code 50 = .ok (.goto 4, 3) := by decide +kernel
theorem d_M_oftenest_53 : decode prog_14_method_22_code 53 = .ok (.iload_n 1, 1) := by decide +kernel
theorem d_M_oftenest_54 : decode prog_14_method_22_code 54 = .ok (.istore_n 1, 1) := by decide +kernel
theorem d_M_oftenest_55 : decode prog_14_method_22_code 55 = .ok (.iinc 3 1, 3) := by decide +kernel
theorem d_M_oftenest_58 : decode prog_14_method_22_code 58 = .ok (.goto (-52), 3) := by decide +kernel
theorem d_M_oftenest_61 : decode prog_14_method_22_code 61 = .ok (.iload_n 1, 1) := by decide +kernel
theorem d_M_oftenest_62 : decode prog_14_method_22_code 62 = .ok (.ireturn, 1) := by decide +kernel
def cf_M_oftenest_B43  (w : Wd) (K6 : Int32 → Int32 → Int32 → Prop) (P : Int32 → Prop) (x1 : Int32) (x3 : Int32) (s0 : Int32)  : Prop :=
  ((s0 ≤ x1 → ∀ v1, v1 = x3 + (1 : Int32) → K6 x1 s0 v1) ∧ (¬ s0 ≤ x1 → ∀ v2, v2 = x3 + (1 : Int32) → K6 s0 s0 v2))
def cf_M_oftenest_B6  (w : Wd) (K6 : Int32 → Int32 → Int32 → Prop) (P : Int32 → Prop) (x1 : Int32) (x2 : Int32) (x3 : Int32)  : Prop :=
  (((w.1 30 6) ≤ x3 → P x1) ∧ (¬ (w.1 30 6) ≤ x3 → ((x3 ≤ 0 → cf_M_oftenest_B43 w K6 P x1 x3 (1 : Int32)) ∧ (¬ x3 ≤ 0 → vp_in x3 32 ∧ vp_in (x3 - (1 : Int32)) 32 ∧ ((¬ (w.2 35 x3.toNatClampNeg) = (w.2 35 (x3 - (1 : Int32)).toNatClampNeg) → cf_M_oftenest_B43 w K6 P x1 x3 (1 : Int32)) ∧ ((w.2 35 x3.toNatClampNeg) = (w.2 35 (x3 - (1 : Int32)).toNatClampNeg) → cf_M_oftenest_B43 w K6 P x1 x3 (x2 + (1 : Int32))))))))
def cf_M_oftenest_L6  (w : Wd)  (P : Int32 → Prop) : Nat → Int32 → Int32 → Int32 → Prop
  | 0 => fun x1 x2 x3 => False
  | n + 1 => fun x1 x2 x3 => cf_M_oftenest_B6 w (cf_M_oftenest_L6 w P n) P x1 x2 x3
def cf_M_oftenest  (w : Wd) (P : Int32 → Prop) : Prop :=
  ∃ n, cf_M_oftenest_L6 w P n (0 : Int32) (0 : Int32) (0 : Int32)
theorem cf_M_oftenest_B43_ok {g : ayG} {d : Nat} (hd : 0 ≤ d)   (w : Wd) (K6 : Int32 → Int32 → Int32 → Prop) (P : Int32 → Prop) (Q : Option Value → Wd → Prop) (hQ : ∀ x, P x → Q (some (.int x)) w) (hK6 : ∀ (x1 : Int32) (x2 : Int32) (x3 : Int32), (K6 x1 x2 x3 → wp g (fun _ => True) y_M_oftenest prog_14_method_22_code 4 (some FieldType.int) d 6 [(0, .ref (g.1 + 30)), (1, .int x1), (2, .int x2), (3, .int x3)] [] w Q)) (x1 : Int32) (x3 : Int32) (s0 : Int32) (h : cf_M_oftenest_B43 w K6 P x1 x3 s0) : wp g (fun _ => True) y_M_oftenest prog_14_method_22_code 4 (some FieldType.int) d 43 [(0, .ref (g.1 + 30)), (1, .int x1), (3, .int x3)] [.int s0] w Q := by
  unfold cf_M_oftenest_B43 at h
  refine am_istore_n (l' := [(2, .int s0), (0, .ref (g.1 + 30)), (1, .int x1), (3, .int x3)]) d_M_oftenest_43 (by decide) rfl ?_
  refine am_iload_n d_M_oftenest_44 0 rfl ?_
  refine am_iload_n d_M_oftenest_45 2 rfl ?_
  refine am_icmp_le (tgt := 53) d_M_oftenest_46 (by decide) (fun c46 => ?_) (fun c46 => ?_)
  · have h := h.1 c46
    refine am_iload_n d_M_oftenest_53 2 rfl ?_
    refine am_istore_n (l' := [(1, .int x1), (2, .int s0), (0, .ref (g.1 + 30)), (3, .int x3)]) d_M_oftenest_54 (by decide) rfl ?_
    obtain ⟨v1, ev1⟩ : ∃ z : Int32, z = x3 + (1 : Int32) := ⟨_, rfl⟩
    have h := h v1 ev1
    refine am_iinc (v := v1) (l' := [(3, .int v1), (1, .int x1), (2, .int s0), (0, .ref (g.1 + 30))]) d_M_oftenest_55 3 rfl (by rw [ev1]; rfl) (by decide) rfl ?_
    refine am_goto (tgt := 6) d_M_oftenest_58 (by decide) ?_
    refine am_sub [3, 1, 2, 0] rfl ?_
    exact hK6 x1 s0 v1 h
  · have h := h.2 c46
    refine am_iload_n d_M_oftenest_49 0 rfl ?_
    refine am_goto (tgt := 54) d_M_oftenest_50 (by decide) ?_
    refine am_istore_n (l' := [(1, .int s0), (2, .int s0), (0, .ref (g.1 + 30)), (3, .int x3)]) d_M_oftenest_54 (by decide) rfl ?_
    obtain ⟨v2, ev2⟩ : ∃ z : Int32, z = x3 + (1 : Int32) := ⟨_, rfl⟩
    have h := h v2 ev2
    refine am_iinc (v := v2) (l' := [(3, .int v2), (1, .int s0), (2, .int s0), (0, .ref (g.1 + 30))]) d_M_oftenest_55 3 rfl (by rw [ev2]; rfl) (by decide) rfl ?_
    refine am_goto (tgt := 6) d_M_oftenest_58 (by decide) ?_
    refine am_sub [3, 1, 2, 0] rfl ?_
    exact hK6 s0 s0 v2 h
theorem cf_M_oftenest_B6_ok {g : ayG} {d : Nat} (hd : 0 ≤ d)   (w : Wd) (K6 : Int32 → Int32 → Int32 → Prop) (P : Int32 → Prop) (Q : Option Value → Wd → Prop) (hQ : ∀ x, P x → Q (some (.int x)) w) (hK6 : ∀ (x1 : Int32) (x2 : Int32) (x3 : Int32), (K6 x1 x2 x3 → wp g (fun _ => True) y_M_oftenest prog_14_method_22_code 4 (some FieldType.int) d 6 [(0, .ref (g.1 + 30)), (1, .int x1), (2, .int x2), (3, .int x3)] [] w Q)) (x1 : Int32) (x2 : Int32) (x3 : Int32) (h : cf_M_oftenest_B6 w K6 P x1 x2 x3) : wp g (fun _ => True) y_M_oftenest prog_14_method_22_code 4 (some FieldType.int) d 6 [(0, .ref (g.1 + 30)), (1, .int x1), (2, .int x2), (3, .int x3)] [] w Q := by
  unfold cf_M_oftenest_B6 at h
  refine am_iload_n d_M_oftenest_6 3 rfl ?_
  refine am_aload_n d_M_oftenest_7 0 rfl ?_
  refine am_getf (T := F_M) (fs := ob_M g w 30) (C := R_M) (N := 35) (ci := 10) 6 d_M_oftenest_8 wd_1083 rfl (by decide) (el_M (show ay_sh 30 = _ from rfl)) rfl i_M (by decide) rfl ?_
  refine am_icmp_ge (tgt := 61) d_M_oftenest_11 (by decide) (fun c11 => ?_) (fun c11 => ?_)
  · have h := h.1 c11
    refine am_iload_n d_M_oftenest_61 1 rfl ?_
    exact am_ireturn d_M_oftenest_62 rfl rfl (hQ x1 h)
  · have h := h.2 c11
    refine am_iload_n d_M_oftenest_14 3 rfl ?_
    refine am_if_le (tgt := 42) d_M_oftenest_15 (by decide) (fun c15 => ?_) (fun c15 => ?_)
    · have h := h.1 c15
      refine am_iconst (v := 1) d_M_oftenest_42 rfl ?_
      refine am_sub [0, 1, 3] rfl ?_
      exact cf_M_oftenest_B43_ok (by omega)   w K6 P Q hQ hK6 x1 x3 (1 : Int32) h
    · have h := h.2 c15
      refine am_aload_n d_M_oftenest_18 0 rfl ?_
      refine am_getf (T := F_M) (fs := ob_M g w 30) (C := R_M) (N := 35) (ci := 10) 5 d_M_oftenest_19 wd_1082 rfl (by decide) (el_M (show ay_sh 30 = _ from rfl)) rfl i_M (by decide) rfl ?_
      refine am_iload_n d_M_oftenest_22 3 rfl ?_
      have hi23 := h.1
      have h := h.2
      refine am_laload d_M_oftenest_23 (show ay_sh 35 = _ from rfl) hi23 ?_
      refine am_aload_n d_M_oftenest_24 0 rfl ?_
      refine am_getf (T := F_M) (fs := ob_M g w 30) (C := R_M) (N := 35) (ci := 10) 5 d_M_oftenest_25 wd_1082 rfl (by decide) (el_M (show ay_sh 30 = _ from rfl)) rfl i_M (by decide) rfl ?_
      refine am_iload_n d_M_oftenest_28 3 rfl ?_
      refine am_iconst (v := 1) d_M_oftenest_29 rfl ?_
      refine am_isub d_M_oftenest_30 ?_
      have hi31 := h.1
      have h := h.2
      refine am_laload d_M_oftenest_31 (show ay_sh 35 = _ from rfl) hi31 ?_
      refine am_lif_ne (tgt := 42) d_M_oftenest_32 d_M_oftenest_33 (by decide) (fun c32 => ?_) (fun c32 => ?_)
      · have h := h.1 c32
        refine am_iconst (v := 1) d_M_oftenest_42 rfl ?_
        refine am_sub [0, 1, 3] rfl ?_
        exact cf_M_oftenest_B43_ok (by omega)   w K6 P Q hQ hK6 x1 x3 (1 : Int32) h
      · have h := h.2 c32
        refine am_iload_n d_M_oftenest_36 2 rfl ?_
        refine am_iconst (v := 1) d_M_oftenest_37 rfl ?_
        refine am_iadd d_M_oftenest_38 ?_
        refine am_goto (tgt := 43) d_M_oftenest_39 (by decide) ?_
        refine am_sub [0, 1, 3] rfl ?_
        exact cf_M_oftenest_B43_ok (by omega)   w K6 P Q hQ hK6 x1 x3 (x2 + (1 : Int32)) h
theorem cf_M_oftenest_L6_ok {g : ayG} {d : Nat} (hd : 0 ≤ d)   (w : Wd)  (P : Int32 → Prop) (Q : Option Value → Wd → Prop) (hQ : ∀ x, P x → Q (some (.int x)) w)  : ∀ (n : Nat) (x1 : Int32) (x2 : Int32) (x3 : Int32) (h : cf_M_oftenest_L6 w P n x1 x2 x3), wp g (fun _ => True) y_M_oftenest prog_14_method_22_code 4 (some FieldType.int) d 6 [(0, .ref (g.1 + 30)), (1, .int x1), (2, .int x2), (3, .int x3)] [] w Q
  | 0, x1, x2, x3, h => False.elim h
  | n + 1, x1, x2, x3, h => cf_M_oftenest_B6_ok hd   w (cf_M_oftenest_L6 w P n) P Q hQ (fun x1 x2 x3 h => cf_M_oftenest_L6_ok hd   w  P Q hQ  n x1 x2 x3 h) x1 x2 x3 h
theorem cf_M_oftenest_ok {g : ayG} {d : Nat} (hd : 0 ≤ d)   (w : Wd) (P : Int32 → Prop) (h : cf_M_oftenest w P) : Call g y_M_oftenest prog_14_method_22_code 4 (some FieldType.int) d [.ref (g.1 + 30)] w (fun (r : Option Value) (w2 : Wd) => ∃ x, r = some (.int x) ∧ w = w2 ∧ P x) := by
  unfold cf_M_oftenest at h
  refine am_enter mi_M_oftenest (Nat.le_of_ble_eq_true rfl) ?_
  have hQ : ∀ x, P x → (fun (r : Option Value) (w2 : Wd) => ∃ x, r = some (.int x) ∧ w = w2 ∧ P x) (some (.int x)) w := fun x h => ⟨x, rfl, rfl, h⟩
  generalize (fun (r : Option Value) (w2 : Wd) => ∃ x, r = some (.int x) ∧ w = w2 ∧ P x) = Q at hQ ⊢
  show wp g (fun _ => True) y_M_oftenest prog_14_method_22_code 4 (some FieldType.int) d 0 [(0, .ref (g.1 + 30))] [] w Q
  refine am_iconst (v := 0) d_M_oftenest_0 rfl ?_
  refine am_istore_n (l' := [(1, .int (0 : Int32)), (0, .ref (g.1 + 30))]) d_M_oftenest_1 (by decide) rfl ?_
  refine am_iconst (v := 0) d_M_oftenest_2 rfl ?_
  refine am_istore_n (l' := [(2, .int (0 : Int32)), (1, .int (0 : Int32)), (0, .ref (g.1 + 30))]) d_M_oftenest_3 (by decide) rfl ?_
  refine am_iconst (v := 0) d_M_oftenest_4 rfl ?_
  refine am_istore_n (l' := [(3, .int (0 : Int32)), (2, .int (0 : Int32)), (1, .int (0 : Int32)), (0, .ref (g.1 + 30))]) d_M_oftenest_5 (by decide) rfl ?_
  refine am_sub [3, 2, 1, 0] rfl ?_
  obtain ⟨n, h⟩ := h
  exact cf_M_oftenest_L6_ok (by omega)   w  P Q hQ  n (0 : Int32) (0 : Int32) (0 : Int32) h
theorem d_M_commonNumber_0 : decode prog_14_method_23_code 0 = .ok (.lload_n 2, 1) := by decide +kernel
theorem d_M_commonNumber_1 : decode prog_14_method_23_code 1 = .ok (.lconst 0, 1) := by decide +kernel
theorem d_M_commonNumber_2 : decode prog_14_method_23_code 2 = .ok (.lcmp, 1) := by decide +kernel
theorem d_M_commonNumber_3 : decode prog_14_method_23_code 3 = .ok (.ifCond .ne 7, 3) := by decide +kernel
theorem d_M_commonNumber_6 : decode prog_14_method_23_code 6 = .ok (.lload_n 0, 1) := by decide +kernel
theorem d_M_commonNumber_7 : decode prog_14_method_23_code 7 = .ok (.goto 10, 3) := by decide +kernel
theorem d_M_commonNumber_10 : decode prog_14_method_23_code 10 = .ok (.lload_n 2, 1) := by decide +kernel
theorem d_M_commonNumber_11 : decode prog_14_method_23_code 11 = .ok (.lload_n 0, 1) := by decide +kernel
theorem d_M_commonNumber_12 : decode prog_14_method_23_code 12 = .ok (.lload_n 2, 1) := by decide +kernel
theorem d_M_commonNumber_13 : decode prog_14_method_23_code 13 = .ok (.lrem, 1) := by decide +kernel
theorem d_M_commonNumber_14 : decode prog_14_method_23_code 14 = .ok (.invokestatic 116, 3) := by decide +kernel
theorem d_M_commonNumber_17 : decode prog_14_method_23_code 17 = .ok (.lreturn, 1) := by decide +kernel
def cf_M_commonNumber_E (NR : Int64 → Int64 → (Int64 → Prop) → Prop) (a0 : Int64) (a1 : Int64) (P : Int64 → Prop) : Prop :=
  ((¬ a1 = (0 : Int64) → ¬ a1 = 0 ∧ NR a1 (lrem a0 a1) (fun r1 => P r1)) ∧ (a1 = (0 : Int64) → P a0))
def cf_M_commonNumber : Nat → Int64 → Int64 → (Int64 → Prop) → Prop
  | 0 => fun a0 a1 P => False
  | n + 1 => fun a0 a1 P => cf_M_commonNumber_E (cf_M_commonNumber n) a0 a1 P
theorem cf_M_commonNumber_ok {g : ayG} : ∀ (n d : Nat) (hd : 1 * n + 0 ≤ d) (a0 : Int64) (a1 : Int64)  (w : Wd) (P : Int64 → Prop) (h : cf_M_commonNumber n a0 a1 P), Call g y_M_commonNumber prog_14_method_23_code 4 (some FieldType.long) d [.long a0, .long a1] w (fun (r : Option Value) (w2 : Wd) => ∃ x, r = some (.long x) ∧ w = w2 ∧ P x)
  | 0, d, hd, a0, a1, w, P, h => False.elim h
  | n + 1, d, hd, a0, a1, w, P, h => by
    have h : cf_M_commonNumber_E (cf_M_commonNumber n) a0 a1 P := h
    have hNR : ∀ (d2 : Nat) (hd2 : 1 * n + 0 ≤ d2) (a0 : Int64) (a1 : Int64)  (w : Wd) (P : Int64 → Prop) (h : (cf_M_commonNumber n) a0 a1 P), Call g y_M_commonNumber prog_14_method_23_code 4 (some FieldType.long) d2 [.long a0, .long a1] w (fun (r : Option Value) (w2 : Wd) => ∃ x, r = some (.long x) ∧ w = w2 ∧ P x) := fun  d2 hd2 => cf_M_commonNumber_ok n d2 hd2 
    generalize cf_M_commonNumber n = NR at h hNR
    unfold cf_M_commonNumber_E at h
    refine am_enter mi_M_commonNumber (Nat.le_of_ble_eq_true rfl) ?_
    have hQ : ∀ x, P x → (fun (r : Option Value) (w2 : Wd) => ∃ x, r = some (.long x) ∧ w = w2 ∧ P x) (some (.long x)) w := fun x h => ⟨x, rfl, rfl, h⟩
    generalize (fun (r : Option Value) (w2 : Wd) => ∃ x, r = some (.long x) ∧ w = w2 ∧ P x) = Q at hQ ⊢
    show wp g (fun _ => True) y_M_commonNumber prog_14_method_23_code 4 (some FieldType.long) d 0 [(0, .long a0), (2, .long a1)] [] w Q
    refine am_lload_n d_M_commonNumber_0 1 rfl ?_
    refine am_lconst (v := 0) d_M_commonNumber_1 rfl ?_
    refine am_lif_ne (tgt := 10) d_M_commonNumber_2 d_M_commonNumber_3 (by decide) (fun c2 => ?_) (fun c2 => ?_)
    · have h := h.1 c2
      refine am_lload_n d_M_commonNumber_10 1 rfl ?_
      refine am_lload_n d_M_commonNumber_11 0 rfl ?_
      refine am_lload_n d_M_commonNumber_12 1 rfl ?_
      have hz13 := h.1
      have h := h.2
      refine am_lrem d_M_commonNumber_13 hz13 ?_
      refine am_callS (d2 := d - 1) [.long a1, .long (lrem a0 a1)] d_M_commonNumber_14 mi_M_commonNumber wd_1243 wd_1244 (by omega) rfl rfl (Nat.le_of_ble_eq_true rfl) ?_
      refine Call.post ?_ (hNR (d - 1) (by omega) a1 (lrem a0 a1)  w _ h)
      rintro _ _ ⟨r1, rfl, rfl, h⟩
      show wp g (fun _ => True) y_M_commonNumber prog_14_method_23_code 4 (some FieldType.long) d 17 [(0, .long a0), (2, .long a1)] [.long r1] w Q
      exact am_lreturn d_M_commonNumber_17 rfl (hQ r1 h)
    · have h := h.2 c2
      refine am_lload_n d_M_commonNumber_6 0 rfl ?_
      refine am_goto (tgt := 17) d_M_commonNumber_7 (by decide) ?_
      exact am_lreturn d_M_commonNumber_17 rfl (hQ a0 h)
def cf_M_commonNumber_W (a0 : Int64) (a1 : Int64) (P : Int64 → Prop) : Prop := ∃ n, n ≤ 100 ∧ cf_M_commonNumber n a0 a1 P
theorem cf_M_commonNumber_W_ok {g : ayG} {d : Nat} (hd : 100 ≤ d) (a0 : Int64) (a1 : Int64)  (w : Wd) (P : Int64 → Prop) (h : cf_M_commonNumber_W a0 a1 P) : Call g y_M_commonNumber prog_14_method_23_code 4 (some FieldType.long) d [.long a0, .long a1] w (fun (r : Option Value) (w2 : Wd) => ∃ x, r = some (.long x) ∧ w = w2 ∧ P x) := by
  obtain ⟨n, hn, h⟩ := h
  exact cf_M_commonNumber_ok n d (by omega) a0 a1  w P h
theorem d_M_laysPrimes_0 : decode prog_14_method_24_code 0 = .ok (.aload_n 0, 1) := by decide +kernel
theorem d_M_laysPrimes_1 : decode prog_14_method_24_code 1 = .ok (.iconst 0, 1) := by decide +kernel
theorem d_M_laysPrimes_2 : decode prog_14_method_24_code 2 = .ok (.putfield 119, 3) := by decide +kernel
theorem d_M_laysPrimes_5 : decode prog_14_method_24_code 5 = .ok (.lload_n 1, 1) := by decide +kernel
theorem d_M_laysPrimes_6 : decode prog_14_method_24_code 6 = .ok (.lstore_n 3, 1) := by decide +kernel
theorem d_M_laysPrimes_7 : decode prog_14_method_24_code 7 = .ok (.ldc2_w 107, 3) := by decide +kernel
theorem d_M_laysPrimes_10 : decode prog_14_method_24_code 10 = .ok (.lstore 5, 2) := by decide +kernel
theorem d_M_laysPrimes_12 : decode prog_14_method_24_code 12 = .ok (.lload_n 3, 1) := by decide +kernel
theorem d_M_laysPrimes_13 : decode prog_14_method_24_code 13 = .ok (.lconst 1, 1) := by decide +kernel
theorem d_M_laysPrimes_14 : decode prog_14_method_24_code 14 = .ok (.lcmp, 1) := by decide +kernel
theorem d_M_laysPrimes_15 : decode prog_14_method_24_code 15 = .ok (.ifCond .le 75, 3) := by decide +kernel
theorem d_M_laysPrimes_18 : decode prog_14_method_24_code 18 = .ok (.lload 5, 2) := by decide +kernel
theorem d_M_laysPrimes_20 : decode prog_14_method_24_code 20 = .ok (.lload 5, 2) := by decide +kernel
theorem d_M_laysPrimes_22 : decode prog_14_method_24_code 22 = .ok (.lmul, 1) := by decide +kernel
theorem d_M_laysPrimes_23 : decode prog_14_method_24_code 23 = .ok (.lload_n 3, 1) := by decide +kernel
theorem d_M_laysPrimes_24 : decode prog_14_method_24_code 24 = .ok (.lcmp, 1) := by decide +kernel
theorem d_M_laysPrimes_25 : decode prog_14_method_24_code 25 = .ok (.ifCond .le 6, 3) := by decide +kernel
theorem d_M_laysPrimes_28 : decode prog_14_method_24_code 28 = .ok (.lload_n 3, 1) := by decide +kernel
theorem d_M_laysPrimes_29 : decode prog_14_method_24_code 29 = .ok (.lstore 5, 2) := by decide +kernel
theorem d_M_laysPrimes_31 : decode prog_14_method_24_code 31 = .ok (.lload_n 3, 1) := by decide +kernel
theorem d_M_laysPrimes_32 : decode prog_14_method_24_code 32 = .ok (.lload 5, 2) := by decide +kernel
theorem d_M_laysPrimes_34 : decode prog_14_method_24_code 34 = .ok (.lrem, 1) := by decide +kernel
theorem d_M_laysPrimes_35 : decode prog_14_method_24_code 35 = .ok (.lconst 0, 1) := by decide +kernel
theorem d_M_laysPrimes_36 : decode prog_14_method_24_code 36 = .ok (.lcmp, 1) := by decide +kernel
theorem d_M_laysPrimes_37 : decode prog_14_method_24_code 37 = .ok (.ifCond .eq 6, 3) := by decide +kernel
theorem d_M_laysPrimes_40 : decode prog_14_method_24_code 40 = .ok (.goto 41, 3) := by decide +kernel
theorem d_M_laysPrimes_43 : decode prog_14_method_24_code 43 = .ok (.aload_n 0, 1) := by decide +kernel
theorem d_M_laysPrimes_44 : decode prog_14_method_24_code 44 = .ok (.getfield 32, 3) := by decide +kernel
theorem d_M_laysPrimes_47 : decode prog_14_method_24_code 47 = .ok (.aload_n 0, 1) := by decide +kernel
theorem d_M_laysPrimes_48 : decode prog_14_method_24_code 48 = .ok (.getfield 119, 3) := by decide +kernel
theorem d_M_laysPrimes_51 : decode prog_14_method_24_code 51 = .ok (.lload 5, 2) := by decide +kernel
theorem d_M_laysPrimes_53 : decode prog_14_method_24_code 53 = .ok (.lastore, 1) := by decide +kernel
theorem d_M_laysPrimes_54 : decode prog_14_method_24_code 54 = .ok (.aload_n 0, 1) := by decide +kernel
theorem d_M_laysPrimes_55 : decode prog_14_method_24_code 55 = .ok (.dup, 1) := by decide +kernel
theorem d_M_laysPrimes_56 : decode prog_14_method_24_code 56 = .ok (.getfield 119, 3) := by decide +kernel
theorem d_M_laysPrimes_59 : decode prog_14_method_24_code 59 = .ok (.iconst 1, 1) := by decide +kernel
theorem d_M_laysPrimes_60 : decode prog_14_method_24_code 60 = .ok (.iadd, 1) := by decide +kernel
theorem d_M_laysPrimes_61 : decode prog_14_method_24_code 61 = .ok (.putfield 119, 3) := by decide +kernel
theorem d_M_laysPrimes_64 : decode prog_14_method_24_code 64 = .ok (.lload_n 3, 1) := by decide +kernel
theorem d_M_laysPrimes_65 : decode prog_14_method_24_code 65 = .ok (.lload 5, 2) := by decide +kernel
theorem d_M_laysPrimes_67 : decode prog_14_method_24_code 67 = .ok (.lrem, 1) := by decide +kernel
theorem d_M_laysPrimes_68 : decode prog_14_method_24_code 68 = .ok (.lconst 0, 1) := by decide +kernel
theorem d_M_laysPrimes_69 : decode prog_14_method_24_code 69 = .ok (.lcmp, 1) := by decide +kernel
theorem d_M_laysPrimes_70 : decode prog_14_method_24_code 70 = .ok (.ifCond .ne 11, 3) := by decide +kernel
theorem d_M_laysPrimes_73 : decode prog_14_method_24_code 73 = .ok (.lload_n 3, 1) := by decide +kernel
theorem d_M_laysPrimes_74 : decode prog_14_method_24_code 74 = .ok (.lload 5, 2) := by decide +kernel
theorem d_M_laysPrimes_76 : decode prog_14_method_24_code 76 = .ok (.ldiv, 1) := by decide +kernel
theorem d_M_laysPrimes_77 : decode prog_14_method_24_code 77 = .ok (.lstore_n 3, 1) := by decide +kernel
theorem d_M_laysPrimes_78 : decode prog_14_method_24_code 78 = .ok (.goto (-14), 3) := by decide +kernel
theorem d_M_laysPrimes_81 : decode prog_14_method_24_code 81 = .ok (.lload 5, 2) := by decide +kernel
theorem d_M_laysPrimes_83 : decode prog_14_method_24_code 83 = .ok (.lconst 1, 1) := by decide +kernel
theorem d_M_laysPrimes_84 : decode prog_14_method_24_code 84 = .ok (.ladd, 1) := by decide +kernel
theorem d_M_laysPrimes_85 : decode prog_14_method_24_code 85 = .ok (.lstore 5, 2) := by decide +kernel
theorem d_M_laysPrimes_87 : decode prog_14_method_24_code 87 = .ok (.goto (-75), 3) := by decide +kernel
theorem d_M_laysPrimes_90 : decode prog_14_method_24_code 90 = .ok (.return_, 1) := by decide +kernel
def cf_M_laysPrimes_B64  (K12 : Int64 → Int64 → Wd → Prop) (K64 : Int64 → Int64 → Wd → Prop) (P : Wd → Prop) (x3 : Int64) (x5 : Int64) (w : Wd) : Prop :=
  ¬ x5 = 0 ∧ ((¬ (lrem x3 x5) = (0 : Int64) → ∀ v4, v4 = x5 + (1 : Int64) → K12 x3 v4 w) ∧ ((lrem x3 x5) = (0 : Int64) → ¬ x5 = 0 ∧ ∀ v5, v5 = x3 / x5 → K64 v5 x5 w))
def cf_M_laysPrimes_L64  (K12 : Int64 → Int64 → Wd → Prop) (P : Wd → Prop) : Nat → Int64 → Int64 → Wd → Prop
  | 0 => fun x3 x5 w => False
  | n + 1 => fun x3 x5 w => cf_M_laysPrimes_B64 K12 (cf_M_laysPrimes_L64 K12 P n) P x3 x5 w
def cf_M_laysPrimes_B31  (K12 : Int64 → Int64 → Wd → Prop) (P : Wd → Prop) (x3 : Int64) (x5 : Int64) (w : Wd) : Prop :=
  ¬ x5 = 0 ∧ (((lrem x3 x5) = (0 : Int64) → vp_in (w.1 30 9) 20 ∧ ∀ w2, w2 = wL w 36 (w.1 30 9).toNatClampNeg x5 → ∀ w3, w3 = wI w2 30 9 ((w2.1 30 9) + (1 : Int32)) → ∃ n, cf_M_laysPrimes_L64 K12 P n x3 x5 w3) ∧ (¬ (lrem x3 x5) = (0 : Int64) → ∀ v6, v6 = x5 + (1 : Int64) → K12 x3 v6 w))
def cf_M_laysPrimes_B12  (K12 : Int64 → Int64 → Wd → Prop) (P : Wd → Prop) (x3 : Int64) (x5 : Int64) (w : Wd) : Prop :=
  ((x3 ≤ (1 : Int64) → P w) ∧ (¬ x3 ≤ (1 : Int64) → (((x5 * x5) ≤ x3 → cf_M_laysPrimes_B31 K12 P x3 x5 w) ∧ (¬ (x5 * x5) ≤ x3 → cf_M_laysPrimes_B31 K12 P x3 x3 w))))
def cf_M_laysPrimes_L12   (P : Wd → Prop) : Nat → Int64 → Int64 → Wd → Prop
  | 0 => fun x3 x5 w => False
  | n + 1 => fun x3 x5 w => cf_M_laysPrimes_B12 (cf_M_laysPrimes_L12 P n) P x3 x5 w
def cf_M_laysPrimes (a0 : Int64) (w : Wd) (P : Wd → Prop) : Prop :=
  ∀ w1, w1 = wI w 30 9 (0 : Int32) → ∃ n, cf_M_laysPrimes_L12 P n a0 (2 : Int64) w1
theorem cf_M_laysPrimes_B64_ok {g : ayG} {d : Nat} (hd : 0 ≤ d)   (w : Wd) (K12 : Int64 → Int64 → Wd → Prop) (K64 : Int64 → Int64 → Wd → Prop) (P : Wd → Prop) (Q : Option Value → Wd → Prop) (hQ : ∀ w2, P w2 → Q none w2) (hK12 : ∀ (x3 : Int64) (x5 : Int64) (w : Wd), (K12 x3 x5 w → wp g (fun _ => True) y_M_laysPrimes prog_14_method_24_code 7 none d 12 [(0, .ref (g.1 + 30)), (3, .long x3), (5, .long x5)] [] w Q)) (hK64 : ∀ (x3 : Int64) (x5 : Int64) (w : Wd), (K64 x3 x5 w → wp g (fun _ => True) y_M_laysPrimes prog_14_method_24_code 7 none d 64 [(0, .ref (g.1 + 30)), (3, .long x3), (5, .long x5)] [] w Q)) (x3 : Int64) (x5 : Int64) (h : cf_M_laysPrimes_B64 K12 K64 P x3 x5 w) : wp g (fun _ => True) y_M_laysPrimes prog_14_method_24_code 7 none d 64 [(0, .ref (g.1 + 30)), (3, .long x3), (5, .long x5)] [] w Q := by
  unfold cf_M_laysPrimes_B64 at h
  refine am_lload_n d_M_laysPrimes_64 1 rfl ?_
  refine am_lload d_M_laysPrimes_65 2 rfl ?_
  have hz67 := h.1
  have h := h.2
  refine am_lrem d_M_laysPrimes_67 hz67 ?_
  refine am_lconst (v := 0) d_M_laysPrimes_68 rfl ?_
  refine am_lif_ne (tgt := 81) d_M_laysPrimes_69 d_M_laysPrimes_70 (by decide) (fun c69 => ?_) (fun c69 => ?_)
  · have h := h.1 c69
    refine am_lload d_M_laysPrimes_81 2 rfl ?_
    refine am_lconst (v := 1) d_M_laysPrimes_83 rfl ?_
    refine am_ladd d_M_laysPrimes_84 ?_
    refine am_topl (fun v4 ev4 => ?_)
    have h := h v4 ev4
    refine am_lstore (l' := [(5, .long v4), (0, .ref (g.1 + 30)), (3, .long x3)]) d_M_laysPrimes_85 (by decide) rfl ?_
    refine am_goto (tgt := 12) d_M_laysPrimes_87 (by decide) ?_
    refine am_sub [1, 2, 0] rfl ?_
    exact hK12 x3 v4 w h
  · have h := h.2 c69
    refine am_lload_n d_M_laysPrimes_73 1 rfl ?_
    refine am_lload d_M_laysPrimes_74 2 rfl ?_
    have hz76 := h.1
    have h := h.2
    refine am_ldiv d_M_laysPrimes_76 hz76 ?_
    refine am_topl (fun v5 ev5 => ?_)
    have h := h v5 ev5
    refine am_lstore_n (l' := [(3, .long v5), (0, .ref (g.1 + 30)), (5, .long x5)]) d_M_laysPrimes_77 (by decide) rfl ?_
    refine am_goto (tgt := 64) d_M_laysPrimes_78 (by decide) ?_
    refine am_sub [1, 0, 2] rfl ?_
    exact hK64 v5 x5 w h
theorem cf_M_laysPrimes_L64_ok {g : ayG} {d : Nat} (hd : 0 ≤ d)   (K12 : Int64 → Int64 → Wd → Prop) (P : Wd → Prop) (Q : Option Value → Wd → Prop) (hQ : ∀ w2, P w2 → Q none w2) (hK12 : ∀ (x3 : Int64) (x5 : Int64) (w : Wd), (K12 x3 x5 w → wp g (fun _ => True) y_M_laysPrimes prog_14_method_24_code 7 none d 12 [(0, .ref (g.1 + 30)), (3, .long x3), (5, .long x5)] [] w Q)) : ∀ (n : Nat) (x3 : Int64) (x5 : Int64) (w : Wd) (h : cf_M_laysPrimes_L64 K12 P n x3 x5 w), wp g (fun _ => True) y_M_laysPrimes prog_14_method_24_code 7 none d 64 [(0, .ref (g.1 + 30)), (3, .long x3), (5, .long x5)] [] w Q
  | 0, x3, x5, w, h => False.elim h
  | n + 1, x3, x5, w, h => cf_M_laysPrimes_B64_ok hd   w K12 (cf_M_laysPrimes_L64 K12 P n) P Q hQ hK12 (fun x3 x5 w h => cf_M_laysPrimes_L64_ok hd   K12 P Q hQ hK12 n x3 x5 w h) x3 x5 h
theorem cf_M_laysPrimes_B31_ok {g : ayG} {d : Nat} (hd : 0 ≤ d)   (w : Wd) (K12 : Int64 → Int64 → Wd → Prop) (P : Wd → Prop) (Q : Option Value → Wd → Prop) (hQ : ∀ w2, P w2 → Q none w2) (hK12 : ∀ (x3 : Int64) (x5 : Int64) (w : Wd), (K12 x3 x5 w → wp g (fun _ => True) y_M_laysPrimes prog_14_method_24_code 7 none d 12 [(0, .ref (g.1 + 30)), (3, .long x3), (5, .long x5)] [] w Q)) (x3 : Int64) (x5 : Int64) (h : cf_M_laysPrimes_B31 K12 P x3 x5 w) : wp g (fun _ => True) y_M_laysPrimes prog_14_method_24_code 7 none d 31 [(0, .ref (g.1 + 30)), (3, .long x3), (5, .long x5)] [] w Q := by
  unfold cf_M_laysPrimes_B31 at h
  refine am_lload_n d_M_laysPrimes_31 1 rfl ?_
  refine am_lload d_M_laysPrimes_32 2 rfl ?_
  have hz34 := h.1
  have h := h.2
  refine am_lrem d_M_laysPrimes_34 hz34 ?_
  refine am_lconst (v := 0) d_M_laysPrimes_35 rfl ?_
  refine am_lif_eq (tgt := 43) d_M_laysPrimes_36 d_M_laysPrimes_37 (by decide) (fun c36 => ?_) (fun c36 => ?_)
  · have h := h.1 c36
    refine am_aload_n d_M_laysPrimes_43 0 rfl ?_
    refine am_getf (T := F_M) (fs := ob_M g w 30) (C := R_M) (N := 35) (ci := 10) 8 d_M_laysPrimes_44 wd_1085 rfl (by decide) (el_M (show ay_sh 30 = _ from rfl)) rfl i_M (by decide) rfl ?_
    refine am_aload_n d_M_laysPrimes_47 0 rfl ?_
    refine am_getf (T := F_M) (fs := ob_M g w 30) (C := R_M) (N := 35) (ci := 10) 9 d_M_laysPrimes_48 wd_1086 rfl (by decide) (el_M (show ay_sh 30 = _ from rfl)) rfl i_M (by decide) rfl ?_
    refine am_lload d_M_laysPrimes_51 2 rfl ?_
    have hi53 := h.1
    have h := h.2
    refine am_lastore d_M_laysPrimes_53 (show ay_sh 36 = _ from rfl) hi53 ?_
    obtain ⟨w2, ew2⟩ : ∃ z, z = wL w 36 (w.1 30 9).toNatClampNeg x5 := ⟨_, rfl⟩
    rw [← ew2]
    have h := h w2 ew2
    refine am_aload_n d_M_laysPrimes_54 0 rfl ?_
    refine am_dup d_M_laysPrimes_55 rfl ?_
    refine am_getf (T := F_M) (fs := ob_M g w2 30) (C := R_M) (N := 35) (ci := 10) 9 d_M_laysPrimes_56 wd_1086 rfl (by decide) (el_M (show ay_sh 30 = _ from rfl)) rfl i_M (by decide) rfl ?_
    refine am_iconst (v := 1) d_M_laysPrimes_59 rfl ?_
    refine am_iadd d_M_laysPrimes_60 ?_
    refine am_putf (w' := wI w2 30 9 ((w2.1 30 9) + (1 : Int32))) (ty := .int) (T := F_M) (fs := ob_M g w2 30) (C := R_M) (N := 35) (ci := 10) 9 d_M_laysPrimes_61 wd_1086 rfl (by decide) (el_M (show ay_sh 30 = _ from rfl)) rfl i_M (by decide) G_M ty_M n_M rfl (ty_M 9 (by decide)) rfl rfl (Nat.le_of_ble_eq_true rfl) ((el_M (show ay_sh 30 = _ from rfl)).trans (by rw [pf_M_primes])) wI_o ?_
    obtain ⟨w3, ew3⟩ : ∃ z, z = wI w2 30 9 ((w2.1 30 9) + (1 : Int32)) := ⟨_, rfl⟩
    rw [← ew3]
    have h := h w3 ew3
    refine am_sub [0, 1, 2] rfl ?_
    obtain ⟨n, h⟩ := h
    exact cf_M_laysPrimes_L64_ok (by omega)   K12 P Q hQ hK12 n x3 x5 w3 h
  · have h := h.2 c36
    refine am_goto (tgt := 81) d_M_laysPrimes_40 (by decide) ?_
    refine am_lload d_M_laysPrimes_81 2 rfl ?_
    refine am_lconst (v := 1) d_M_laysPrimes_83 rfl ?_
    refine am_ladd d_M_laysPrimes_84 ?_
    refine am_topl (fun v6 ev6 => ?_)
    have h := h v6 ev6
    refine am_lstore (l' := [(5, .long v6), (0, .ref (g.1 + 30)), (3, .long x3)]) d_M_laysPrimes_85 (by decide) rfl ?_
    refine am_goto (tgt := 12) d_M_laysPrimes_87 (by decide) ?_
    refine am_sub [1, 2, 0] rfl ?_
    exact hK12 x3 v6 w h
theorem cf_M_laysPrimes_B12_ok {g : ayG} {d : Nat} (hd : 0 ≤ d)   (w : Wd) (K12 : Int64 → Int64 → Wd → Prop) (P : Wd → Prop) (Q : Option Value → Wd → Prop) (hQ : ∀ w2, P w2 → Q none w2) (hK12 : ∀ (x3 : Int64) (x5 : Int64) (w : Wd), (K12 x3 x5 w → wp g (fun _ => True) y_M_laysPrimes prog_14_method_24_code 7 none d 12 [(0, .ref (g.1 + 30)), (3, .long x3), (5, .long x5)] [] w Q)) (x3 : Int64) (x5 : Int64) (h : cf_M_laysPrimes_B12 K12 P x3 x5 w) : wp g (fun _ => True) y_M_laysPrimes prog_14_method_24_code 7 none d 12 [(0, .ref (g.1 + 30)), (3, .long x3), (5, .long x5)] [] w Q := by
  unfold cf_M_laysPrimes_B12 at h
  refine am_lload_n d_M_laysPrimes_12 1 rfl ?_
  refine am_lconst (v := 1) d_M_laysPrimes_13 rfl ?_
  refine am_lif_le (tgt := 90) d_M_laysPrimes_14 d_M_laysPrimes_15 (by decide) (fun c14 => ?_) (fun c14 => ?_)
  · have h := h.1 c14
    exact am_return d_M_laysPrimes_90 rfl (hQ w h)
  · have h := h.2 c14
    refine am_lload d_M_laysPrimes_18 2 rfl ?_
    refine am_lload d_M_laysPrimes_20 2 rfl ?_
    refine am_lmul d_M_laysPrimes_22 ?_
    refine am_lload_n d_M_laysPrimes_23 1 rfl ?_
    refine am_lif_le (tgt := 31) d_M_laysPrimes_24 d_M_laysPrimes_25 (by decide) (fun c24 => ?_) (fun c24 => ?_)
    · have h := h.1 c24
      refine am_sub [0, 1, 2] rfl ?_
      exact cf_M_laysPrimes_B31_ok (by omega)   w K12 P Q hQ hK12 x3 x5 h
    · have h := h.2 c24
      refine am_lload_n d_M_laysPrimes_28 1 rfl ?_
      refine am_lstore (l' := [(5, .long x3), (0, .ref (g.1 + 30)), (3, .long x3)]) d_M_laysPrimes_29 (by decide) rfl ?_
      refine am_sub [1, 2, 0] rfl ?_
      exact cf_M_laysPrimes_B31_ok (by omega)   w K12 P Q hQ hK12 x3 x3 h
theorem cf_M_laysPrimes_L12_ok {g : ayG} {d : Nat} (hd : 0 ≤ d)    (P : Wd → Prop) (Q : Option Value → Wd → Prop) (hQ : ∀ w2, P w2 → Q none w2)  : ∀ (n : Nat) (x3 : Int64) (x5 : Int64) (w : Wd) (h : cf_M_laysPrimes_L12 P n x3 x5 w), wp g (fun _ => True) y_M_laysPrimes prog_14_method_24_code 7 none d 12 [(0, .ref (g.1 + 30)), (3, .long x3), (5, .long x5)] [] w Q
  | 0, x3, x5, w, h => False.elim h
  | n + 1, x3, x5, w, h => cf_M_laysPrimes_B12_ok hd   w (cf_M_laysPrimes_L12 P n) P Q hQ (fun x3 x5 w h => cf_M_laysPrimes_L12_ok hd    P Q hQ  n x3 x5 w h) x3 x5 h
theorem cf_M_laysPrimes_ok {g : ayG} {d : Nat} (hd : 0 ≤ d) (a0 : Int64)  (w : Wd) (P : Wd → Prop) (h : cf_M_laysPrimes a0 w P) : Call g y_M_laysPrimes prog_14_method_24_code 7 none d [.ref (g.1 + 30), .long a0] w (fun (r : Option Value) (w2 : Wd) => r = none ∧ P w2) := by
  unfold cf_M_laysPrimes at h
  refine am_enter mi_M_laysPrimes (Nat.le_of_ble_eq_true rfl) ?_
  have hQ : ∀ w2, P w2 → (fun (r : Option Value) (w2 : Wd) => r = none ∧ P w2) none w2 := fun w2 h => ⟨rfl, h⟩
  generalize (fun (r : Option Value) (w2 : Wd) => r = none ∧ P w2) = Q at hQ ⊢
  show wp g (fun _ => True) y_M_laysPrimes prog_14_method_24_code 7 none d 0 [(0, .ref (g.1 + 30)), (1, .long a0)] [] w Q
  refine am_aload_n d_M_laysPrimes_0 0 rfl ?_
  refine am_iconst (v := 0) d_M_laysPrimes_1 rfl ?_
  refine am_putf (w' := wI w 30 9 (0 : Int32)) (ty := .int) (T := F_M) (fs := ob_M g w 30) (C := R_M) (N := 35) (ci := 10) 9 d_M_laysPrimes_2 wd_1086 rfl (by decide) (el_M (show ay_sh 30 = _ from rfl)) rfl i_M (by decide) G_M ty_M n_M rfl (ty_M 9 (by decide)) rfl rfl (Nat.le_of_ble_eq_true rfl) ((el_M (show ay_sh 30 = _ from rfl)).trans (by rw [pf_M_primes])) wI_o ?_
  obtain ⟨w1, ew1⟩ : ∃ z, z = wI w 30 9 (0 : Int32) := ⟨_, rfl⟩
  rw [← ew1]
  have h := h w1 ew1
  refine am_lload_n d_M_laysPrimes_5 1 rfl ?_
  refine am_lstore_n (l' := [(3, .long a0), (0, .ref (g.1 + 30)), (1, .long a0)]) d_M_laysPrimes_6 (by decide) rfl ?_
  refine am_ldc2 (v := 2) d_M_laysPrimes_7 wd_1205 ?_
  refine am_lstore (l' := [(5, .long (2 : Int64)), (3, .long a0), (0, .ref (g.1 + 30)), (1, .long a0)]) d_M_laysPrimes_10 (by decide) rfl ?_
  refine am_sub [2, 1, 0] rfl ?_
  obtain ⟨n, h⟩ := h
  exact cf_M_laysPrimes_L12_ok (by omega)    P Q hQ  n a0 (2 : Int64) w1 h
theorem d_M_allOnes_0 : decode prog_14_method_25_code 0 = .ok (.lconst 1, 1) := by decide +kernel
theorem d_M_allOnes_1 : decode prog_14_method_25_code 1 = .ok (.iload_n 0, 1) := by decide +kernel
theorem d_M_allOnes_2 : decode prog_14_method_25_code 2 = .ok (.lshl, 1) := by decide +kernel
theorem d_M_allOnes_3 : decode prog_14_method_25_code 3 = .ok (.lconst 1, 1) := by decide +kernel
theorem d_M_allOnes_4 : decode prog_14_method_25_code 4 = .ok (.lsub, 1) := by decide +kernel
theorem d_M_allOnes_5 : decode prog_14_method_25_code 5 = .ok (.lreturn, 1) := by decide +kernel
def cf_M_allOnes (a0 : Int32) (P : Int64 → Prop) : Prop :=
  P ((lshl (1 : Int64) a0) - (1 : Int64))
theorem cf_M_allOnes_ok {g : ayG} {d : Nat} (hd : 0 ≤ d) (a0 : Int32)  (w : Wd) (P : Int64 → Prop) (h : cf_M_allOnes a0 P) : Call g y_M_allOnes prog_14_method_25_code 1 (some FieldType.long) d [.int a0] w (fun (r : Option Value) (w2 : Wd) => ∃ x, r = some (.long x) ∧ w = w2 ∧ P x) := by
  unfold cf_M_allOnes at h
  refine am_enter mi_M_allOnes (Nat.le_of_ble_eq_true rfl) ?_
  have hQ : ∀ x, P x → (fun (r : Option Value) (w2 : Wd) => ∃ x, r = some (.long x) ∧ w = w2 ∧ P x) (some (.long x)) w := fun x h => ⟨x, rfl, rfl, h⟩
  generalize (fun (r : Option Value) (w2 : Wd) => ∃ x, r = some (.long x) ∧ w = w2 ∧ P x) = Q at hQ ⊢
  show wp g (fun _ => True) y_M_allOnes prog_14_method_25_code 1 (some FieldType.long) d 0 [(0, .int a0)] [] w Q
  refine am_lconst (v := 1) d_M_allOnes_0 rfl ?_
  refine am_iload_n d_M_allOnes_1 0 rfl ?_
  refine am_lshl d_M_allOnes_2 ?_
  refine am_lconst (v := 1) d_M_allOnes_3 rfl ?_
  refine am_lsub d_M_allOnes_4 ?_
  exact am_lreturn d_M_allOnes_5 rfl (hQ ((lshl (1 : Int64) a0) - (1 : Int64)) h)
theorem d_M_orderOf_0 : decode prog_14_method_26_code 0 = .ok (.aload_n 0, 1) := by decide +kernel
theorem d_M_orderOf_1 : decode prog_14_method_26_code 1 = .ok (.lload_n 1, 1) := by decide +kernel
theorem d_M_orderOf_2 : decode prog_14_method_26_code 2 = .ok (.invokevirtual 112, 3) := by decide +kernel
theorem d_M_orderOf_5 : decode prog_14_method_26_code 5 = .ok (.lconst 1, 1) := by decide +kernel
theorem d_M_orderOf_6 : decode prog_14_method_26_code 6 = .ok (.lstore_n 3, 1) := by decide +kernel
theorem d_M_orderOf_7 : decode prog_14_method_26_code 7 = .ok (.iconst 0, 1) := by decide +kernel
theorem d_M_orderOf_8 : decode prog_14_method_26_code 8 = .ok (.istore 5, 2) := by decide +kernel
theorem d_M_orderOf_10 : decode prog_14_method_26_code 10 = .ok (.iload 5, 2) := by decide +kernel
theorem d_M_orderOf_12 : decode prog_14_method_26_code 12 = .ok (.aload_n 0, 1) := by decide +kernel
theorem d_M_orderOf_13 : decode prog_14_method_26_code 13 = .ok (.getfield 104, 3) := by decide +kernel
theorem d_M_orderOf_16 : decode prog_14_method_26_code 16 = .ok (.if_icmp .ge 36, 3) := by decide +kernel
theorem d_M_orderOf_19 : decode prog_14_method_26_code 19 = .ok (.aload_n 0, 1) := by decide +kernel
theorem d_M_orderOf_20 : decode prog_14_method_26_code 20 = .ok (.getfield 23, 3) := by decide +kernel
theorem d_M_orderOf_23 : decode prog_14_method_26_code 23 = .ok (.iload 5, 2) := by decide +kernel
theorem d_M_orderOf_25 : decode prog_14_method_26_code 25 = .ok (.laload, 1) := by decide +kernel
theorem d_M_orderOf_26 : decode prog_14_method_26_code 26 = .ok (.invokestatic 84, 3) := by decide +kernel
theorem d_M_orderOf_29 : decode prog_14_method_26_code 29 = .ok (.invokestatic 122, 3) := by decide +kernel
theorem d_M_orderOf_32 : decode prog_14_method_26_code 32 = .ok (.lstore 6, 2) := by decide +kernel
theorem d_M_orderOf_34 : decode prog_14_method_26_code 34 = .ok (.lload_n 3, 1) := by decide +kernel
theorem d_M_orderOf_35 : decode prog_14_method_26_code 35 = .ok (.lload_n 3, 1) := by decide +kernel
theorem d_M_orderOf_36 : decode prog_14_method_26_code 36 = .ok (.lload 6, 2) := by decide +kernel
theorem d_M_orderOf_38 : decode prog_14_method_26_code 38 = .ok (.invokestatic 116, 3) := by decide +kernel
theorem d_M_orderOf_41 : decode prog_14_method_26_code 41 = .ok (.ldiv, 1) := by decide +kernel
theorem d_M_orderOf_42 : decode prog_14_method_26_code 42 = .ok (.lload 6, 2) := by decide +kernel
theorem d_M_orderOf_44 : decode prog_14_method_26_code 44 = .ok (.lmul, 1) := by decide +kernel
theorem d_M_orderOf_45 : decode prog_14_method_26_code 45 = .ok (.lstore_n 3, 1) := by decide +kernel
theorem d_M_orderOf_46 : decode prog_14_method_26_code 46 = .ok (.iinc 5 1, 3) := by decide +kernel
theorem d_M_orderOf_49 : decode prog_14_method_26_code 49 = .ok (.goto (-39), 3) := by decide +kernel
theorem d_M_orderOf_52 : decode prog_14_method_26_code 52 = .ok (.iconst 1, 1) := by decide +kernel
theorem d_M_orderOf_53 : decode prog_14_method_26_code 53 = .ok (.istore 5, 2) := by decide +kernel
theorem d_M_orderOf_55 : decode prog_14_method_26_code 55 = .ok (.iload 5, 2) := by decide +kernel
theorem d_M_orderOf_57 : decode prog_14_method_26_code 57 = .ok (.aload_n 0, 1) := by decide +kernel
theorem d_M_orderOf_58 : decode prog_14_method_26_code 58 = .ok (.invokevirtual 126, 3) := by decide +kernel
theorem d_M_orderOf_61 : decode prog_14_method_26_code 61 = .ok (.if_icmp .ge 18, 3) := by decide +kernel
theorem d_M_orderOf_64 : decode prog_14_method_26_code 64 = .ok (.lload_n 3, 1) := by decide +kernel
theorem d_M_orderOf_65 : decode prog_14_method_26_code 65 = .ok (.ldc2_w 107, 3) := by decide +kernel
theorem d_M_orderOf_68 : decode prog_14_method_26_code 68 = .ok (.lmul, 1) := by decide +kernel
theorem d_M_orderOf_69 : decode prog_14_method_26_code 69 = .ok (.lstore_n 3, 1) := by decide +kernel
theorem d_M_orderOf_70 : decode prog_14_method_26_code 70 = .ok (.iload 5, 2) := by decide +kernel
theorem d_M_orderOf_72 : decode prog_14_method_26_code 72 = .ok (.iconst 2, 1) := by decide +kernel
theorem d_M_orderOf_73 : decode prog_14_method_26_code 73 = .ok (.imul, 1) := by decide +kernel
theorem d_M_orderOf_74 : decode prog_14_method_26_code 74 = .ok (.istore 5, 2) := by decide +kernel
theorem d_M_orderOf_76 : decode prog_14_method_26_code 76 = .ok (.goto (-21), 3) := by decide +kernel
theorem d_M_orderOf_79 : decode prog_14_method_26_code 79 = .ok (.aload_n 0, 1) := by decide +kernel
theorem d_M_orderOf_80 : decode prog_14_method_26_code 80 = .ok (.lload_n 3, 1) := by decide +kernel
theorem d_M_orderOf_81 : decode prog_14_method_26_code 81 = .ok (.invokevirtual 130, 3) := by decide +kernel
theorem d_M_orderOf_84 : decode prog_14_method_26_code 84 = .ok (.iconst 0, 1) := by decide +kernel
theorem d_M_orderOf_85 : decode prog_14_method_26_code 85 = .ok (.istore 5, 2) := by decide +kernel
theorem d_M_orderOf_87 : decode prog_14_method_26_code 87 = .ok (.iload 5, 2) := by decide +kernel
theorem d_M_orderOf_89 : decode prog_14_method_26_code 89 = .ok (.aload_n 0, 1) := by decide +kernel
theorem d_M_orderOf_90 : decode prog_14_method_26_code 90 = .ok (.getfield 119, 3) := by decide +kernel
theorem d_M_orderOf_93 : decode prog_14_method_26_code 93 = .ok (.if_icmp .ge 61, 3) := by decide +kernel
theorem d_M_orderOf_96 : decode prog_14_method_26_code 96 = .ok (.lload_n 3, 1) := by decide +kernel
theorem d_M_orderOf_97 : decode prog_14_method_26_code 97 = .ok (.aload_n 0, 1) := by decide +kernel
theorem d_M_orderOf_98 : decode prog_14_method_26_code 98 = .ok (.getfield 32, 3) := by decide +kernel
theorem d_M_orderOf_101 : decode prog_14_method_26_code 101 = .ok (.iload 5, 2) := by decide +kernel
theorem d_M_orderOf_103 : decode prog_14_method_26_code 103 = .ok (.laload, 1) := by decide +kernel
theorem d_M_orderOf_104 : decode prog_14_method_26_code 104 = .ok (.lrem, 1) := by decide +kernel
theorem d_M_orderOf_105 : decode prog_14_method_26_code 105 = .ok (.lconst 0, 1) := by decide +kernel
theorem d_M_orderOf_106 : decode prog_14_method_26_code 106 = .ok (.lcmp, 1) := by decide +kernel
theorem d_M_orderOf_107 : decode prog_14_method_26_code 107 = .ok (.ifCond .ne 41, 3) := by decide +kernel
theorem d_M_orderOf_110 : decode prog_14_method_26_code 110 = .ok (.ldc2_w 107, 3) := by decide +kernel
theorem d_M_orderOf_113 : decode prog_14_method_26_code 113 = .ok (.lload_n 3, 1) := by decide +kernel
theorem d_M_orderOf_114 : decode prog_14_method_26_code 114 = .ok (.aload_n 0, 1) := by decide +kernel
theorem d_M_orderOf_115 : decode prog_14_method_26_code 115 = .ok (.getfield 32, 3) := by decide +kernel
theorem d_M_orderOf_118 : decode prog_14_method_26_code 118 = .ok (.iload 5, 2) := by decide +kernel
theorem d_M_orderOf_120 : decode prog_14_method_26_code 120 = .ok (.laload, 1) := by decide +kernel
theorem d_M_orderOf_121 : decode prog_14_method_26_code 121 = .ok (.ldiv, 1) := by decide +kernel
theorem d_M_orderOf_122 : decode prog_14_method_26_code 122 = .ok (.lload_n 1, 1) := by decide +kernel
theorem d_M_orderOf_123 : decode prog_14_method_26_code 123 = .ok (.invokestatic 133, 3) := by decide +kernel
theorem d_M_orderOf_126 : decode prog_14_method_26_code 126 = .ok (.lconst 1, 1) := by decide +kernel
theorem d_M_orderOf_127 : decode prog_14_method_26_code 127 = .ok (.lload_n 1, 1) := by decide +kernel
theorem d_M_orderOf_128 : decode prog_14_method_26_code 128 = .ok (.invokestatic 88, 3) := by decide +kernel
theorem d_M_orderOf_131 : decode prog_14_method_26_code 131 = .ok (.lcmp, 1) := by decide +kernel
theorem d_M_orderOf_132 : decode prog_14_method_26_code 132 = .ok (.ifCond .ne 16, 3) := by decide +kernel
theorem d_M_orderOf_135 : decode prog_14_method_26_code 135 = .ok (.lload_n 3, 1) := by decide +kernel
theorem d_M_orderOf_136 : decode prog_14_method_26_code 136 = .ok (.aload_n 0, 1) := by decide +kernel
theorem d_M_orderOf_137 : decode prog_14_method_26_code 137 = .ok (.getfield 32, 3) := by decide +kernel
theorem d_M_orderOf_140 : decode prog_14_method_26_code 140 = .ok (.iload 5, 2) := by decide +kernel
theorem d_M_orderOf_142 : decode prog_14_method_26_code 142 = .ok (.laload, 1) := by decide +kernel
theorem d_M_orderOf_143 : decode prog_14_method_26_code 143 = .ok (.ldiv, 1) := by decide +kernel
theorem d_M_orderOf_144 : decode prog_14_method_26_code 144 = .ok (.lstore_n 3, 1) := by decide +kernel
theorem d_M_orderOf_145 : decode prog_14_method_26_code 145 = .ok (.goto (-49), 3) := by decide +kernel
theorem d_M_orderOf_148 : decode prog_14_method_26_code 148 = .ok (.iinc 5 1, 3) := by decide +kernel
theorem d_M_orderOf_151 : decode prog_14_method_26_code 151 = .ok (.goto (-64), 3) := by decide +kernel
theorem d_M_orderOf_154 : decode prog_14_method_26_code 154 = .ok (.lload_n 3, 1) := by decide +kernel
theorem d_M_orderOf_155 : decode prog_14_method_26_code 155 = .ok (.lreturn, 1) := by decide +kernel
def cf_M_orderOf_B96  (K87 : Int64 → Int64 → Int32 → Wd → Prop) (K96 : Int64 → Int64 → Int32 → Wd → Prop) (P : Int64 → Wd → Prop) (x1 : Int64) (x3 : Int64) (x5 : Int32) (w : Wd) : Prop :=
  vp_in x5 20 ∧ ¬ (w.2 36 x5.toNatClampNeg) = 0 ∧ ((¬ (lrem x3 (w.2 36 x5.toNatClampNeg)) = (0 : Int64) → ∀ v4, v4 = x5 + (1 : Int32) → K87 x1 x3 v4 w) ∧ ((lrem x3 (w.2 36 x5.toNatClampNeg)) = (0 : Int64) → vp_in x5 20 ∧ ¬ (w.2 36 x5.toNatClampNeg) = 0 ∧ cf_M_powerBy (2 : Int64) (x3 / (w.2 36 x5.toNatClampNeg)) x1 (fun r5 => cf_M_restOf (1 : Int64) x1 (fun r6 => ((¬ r5 = r6 → ∀ v7, v7 = x5 + (1 : Int32) → K87 x1 x3 v7 w) ∧ (r5 = r6 → vp_in x5 20 ∧ ¬ (w.2 36 x5.toNatClampNeg) = 0 ∧ ∀ v8, v8 = x3 / (w.2 36 x5.toNatClampNeg) → K96 x1 v8 x5 w))))))
def cf_M_orderOf_L96  (K87 : Int64 → Int64 → Int32 → Wd → Prop) (P : Int64 → Wd → Prop) : Nat → Int64 → Int64 → Int32 → Wd → Prop
  | 0 => fun x1 x3 x5 w => False
  | n + 1 => fun x1 x3 x5 w => cf_M_orderOf_B96 K87 (cf_M_orderOf_L96 K87 P n) P x1 x3 x5 w
def cf_M_orderOf_B87  (K87 : Int64 → Int64 → Int32 → Wd → Prop) (P : Int64 → Wd → Prop) (x1 : Int64) (x3 : Int64) (x5 : Int32) (w : Wd) : Prop :=
  (((w.1 30 9) ≤ x5 → P x3 w) ∧ (¬ (w.1 30 9) ≤ x5 → ∃ n, cf_M_orderOf_L96 K87 P n x1 x3 x5 w))
def cf_M_orderOf_L87   (P : Int64 → Wd → Prop) : Nat → Int64 → Int64 → Int32 → Wd → Prop
  | 0 => fun x1 x3 x5 w => False
  | n + 1 => fun x1 x3 x5 w => cf_M_orderOf_B87 (cf_M_orderOf_L87 P n) P x1 x3 x5 w
def cf_M_orderOf_B55  (K55 : Int64 → Int64 → Int32 → Wd → Prop) (P : Int64 → Wd → Prop) (x1 : Int64) (x3 : Int64) (x5 : Int32) (w : Wd) : Prop :=
  cf_M_oftenest  w (fun r2 => ((r2 ≤ x5 → cf_M_laysPrimes x3 w (fun w3 => ∃ n, cf_M_orderOf_L87 P n x1 x3 (0 : Int32) w3)) ∧ (¬ r2 ≤ x5 → ∀ v9, v9 = x3 * (2 : Int64) → ∀ v10, v10 = x5 * (2 : Int32) → K55 x1 v9 v10 w)))
def cf_M_orderOf_L55   (P : Int64 → Wd → Prop) : Nat → Int64 → Int64 → Int32 → Wd → Prop
  | 0 => fun x1 x3 x5 w => False
  | n + 1 => fun x1 x3 x5 w => cf_M_orderOf_B55 (cf_M_orderOf_L55 P n) P x1 x3 x5 w
def cf_M_orderOf_B10  (K10 : Int64 → Int64 → Int32 → Wd → Prop) (P : Int64 → Wd → Prop) (x1 : Int64) (x3 : Int64) (x5 : Int32) (w : Wd) : Prop :=
  (((w.1 30 6) ≤ x5 → ∃ n, cf_M_orderOf_L55 P n x1 x3 (1 : Int32) w) ∧ (¬ (w.1 30 6) ≤ x5 → vp_in x5 32 ∧ cf_M_degree (w.2 35 x5.toNatClampNeg) (fun r11 => cf_M_allOnes r11 (fun r12 => cf_M_commonNumber_W x3 r12 (fun r13 => ¬ r13 = 0 ∧ ∀ v14, v14 = (x3 / r13) * r12 → ∀ v15, v15 = x5 + (1 : Int32) → K10 x1 v14 v15 w)))))
def cf_M_orderOf_L10   (P : Int64 → Wd → Prop) : Nat → Int64 → Int64 → Int32 → Wd → Prop
  | 0 => fun x1 x3 x5 w => False
  | n + 1 => fun x1 x3 x5 w => cf_M_orderOf_B10 (cf_M_orderOf_L10 P n) P x1 x3 x5 w
def cf_M_orderOf (a0 : Int64) (w : Wd) (P : Int64 → Wd → Prop) : Prop :=
  cf_M_laysFactors a0 w (fun w1 => ∃ n, cf_M_orderOf_L10 P n a0 (1 : Int64) (0 : Int32) w1)
theorem cf_M_orderOf_B96_ok {g : ayG} {d : Nat} (hd : 101 ≤ d)   (w : Wd) (K87 : Int64 → Int64 → Int32 → Wd → Prop) (K96 : Int64 → Int64 → Int32 → Wd → Prop) (P : Int64 → Wd → Prop) (Q : Option Value → Wd → Prop) (hQ : ∀ x w2, P x w2 → Q (some (.long x)) w2) (hK87 : ∀ (x1 : Int64) (x3 : Int64) (x5 : Int32) (w : Wd), (K87 x1 x3 x5 w → wp g (fun _ => True) y_M_orderOf prog_14_method_26_code 8 (some FieldType.long) d 87 [(0, .ref (g.1 + 30)), (1, .long x1), (3, .long x3), (5, .int x5)] [] w Q)) (hK96 : ∀ (x1 : Int64) (x3 : Int64) (x5 : Int32) (w : Wd), (K96 x1 x3 x5 w → wp g (fun _ => True) y_M_orderOf prog_14_method_26_code 8 (some FieldType.long) d 96 [(0, .ref (g.1 + 30)), (1, .long x1), (3, .long x3), (5, .int x5)] [] w Q)) (x1 : Int64) (x3 : Int64) (x5 : Int32) (h : cf_M_orderOf_B96 K87 K96 P x1 x3 x5 w) : wp g (fun _ => True) y_M_orderOf prog_14_method_26_code 8 (some FieldType.long) d 96 [(0, .ref (g.1 + 30)), (1, .long x1), (3, .long x3), (5, .int x5)] [] w Q := by
  unfold cf_M_orderOf_B96 at h
  refine am_lload_n d_M_orderOf_96 2 rfl ?_
  refine am_aload_n d_M_orderOf_97 0 rfl ?_
  refine am_getf (T := F_M) (fs := ob_M g w 30) (C := R_M) (N := 35) (ci := 10) 8 d_M_orderOf_98 wd_1085 rfl (by decide) (el_M (show ay_sh 30 = _ from rfl)) rfl i_M (by decide) rfl ?_
  refine am_iload d_M_orderOf_101 3 rfl ?_
  have hi103 := h.1
  have h := h.2
  refine am_laload d_M_orderOf_103 (show ay_sh 36 = _ from rfl) hi103 ?_
  have hz104 := h.1
  have h := h.2
  refine am_lrem d_M_orderOf_104 hz104 ?_
  refine am_lconst (v := 0) d_M_orderOf_105 rfl ?_
  refine am_lif_ne (tgt := 148) d_M_orderOf_106 d_M_orderOf_107 (by decide) (fun c106 => ?_) (fun c106 => ?_)
  · have h := h.1 c106
    obtain ⟨v4, ev4⟩ : ∃ z : Int32, z = x5 + (1 : Int32) := ⟨_, rfl⟩
    have h := h v4 ev4
    refine am_iinc (v := v4) (l' := [(5, .int v4), (0, .ref (g.1 + 30)), (1, .long x1), (3, .long x3)]) d_M_orderOf_148 3 rfl (by rw [ev4]; rfl) (by decide) rfl ?_
    refine am_goto (tgt := 87) d_M_orderOf_151 (by decide) ?_
    refine am_sub [1, 2, 3, 0] rfl ?_
    exact hK87 x1 x3 v4 w h
  · have h := h.2 c106
    refine am_ldc2 (v := 2) d_M_orderOf_110 wd_1205 ?_
    refine am_lload_n d_M_orderOf_113 2 rfl ?_
    refine am_aload_n d_M_orderOf_114 0 rfl ?_
    refine am_getf (T := F_M) (fs := ob_M g w 30) (C := R_M) (N := 35) (ci := 10) 8 d_M_orderOf_115 wd_1085 rfl (by decide) (el_M (show ay_sh 30 = _ from rfl)) rfl i_M (by decide) rfl ?_
    refine am_iload d_M_orderOf_118 3 rfl ?_
    have hi120 := h.1
    have h := h.2
    refine am_laload d_M_orderOf_120 (show ay_sh 36 = _ from rfl) hi120 ?_
    have hz121 := h.1
    have h := h.2
    refine am_ldiv d_M_orderOf_121 hz121 ?_
    refine am_lload_n d_M_orderOf_122 1 rfl ?_
    refine am_callS (d2 := d - 1) [.long (2 : Int64), .long (x3 / (w.2 36 x5.toNatClampNeg)), .long x1] d_M_orderOf_123 mi_M_powerBy wd_1250 wd_1251 (by omega) rfl rfl (Nat.le_of_ble_eq_true rfl) ?_
    refine Call.post ?_ (cf_M_powerBy_ok (by omega) (2 : Int64) (x3 / (w.2 36 x5.toNatClampNeg)) x1  w _ h)
    rintro _ _ ⟨r5, rfl, rfl, h⟩
    show wp g (fun _ => True) y_M_orderOf prog_14_method_26_code 8 (some FieldType.long) d 126 [(0, .ref (g.1 + 30)), (1, .long x1), (3, .long x3), (5, .int x5)] [.long r5] w Q
    refine am_lconst (v := 1) d_M_orderOf_126 rfl ?_
    refine am_lload_n d_M_orderOf_127 1 rfl ?_
    refine am_callS (d2 := d - 1) [.long (1 : Int64), .long x1] d_M_orderOf_128 mi_M_restOf wd_1209 wd_1210 (by omega) rfl rfl (Nat.le_of_ble_eq_true rfl) ?_
    refine Call.post ?_ (cf_M_restOf_ok (by omega) (1 : Int64) x1  w _ h)
    rintro _ _ ⟨r6, rfl, rfl, h⟩
    show wp g (fun _ => True) y_M_orderOf prog_14_method_26_code 8 (some FieldType.long) d 131 [(0, .ref (g.1 + 30)), (1, .long x1), (3, .long x3), (5, .int x5)] [.long r6, .long r5] w Q
    refine am_lif_ne (tgt := 148) d_M_orderOf_131 d_M_orderOf_132 (by decide) (fun c131 => ?_) (fun c131 => ?_)
    · have h := h.1 c131
      obtain ⟨v7, ev7⟩ : ∃ z : Int32, z = x5 + (1 : Int32) := ⟨_, rfl⟩
      have h := h v7 ev7
      refine am_iinc (v := v7) (l' := [(5, .int v7), (0, .ref (g.1 + 30)), (1, .long x1), (3, .long x3)]) d_M_orderOf_148 3 rfl (by rw [ev7]; rfl) (by decide) rfl ?_
      refine am_goto (tgt := 87) d_M_orderOf_151 (by decide) ?_
      refine am_sub [1, 2, 3, 0] rfl ?_
      exact hK87 x1 x3 v7 w h
    · have h := h.2 c131
      refine am_lload_n d_M_orderOf_135 2 rfl ?_
      refine am_aload_n d_M_orderOf_136 0 rfl ?_
      refine am_getf (T := F_M) (fs := ob_M g w 30) (C := R_M) (N := 35) (ci := 10) 8 d_M_orderOf_137 wd_1085 rfl (by decide) (el_M (show ay_sh 30 = _ from rfl)) rfl i_M (by decide) rfl ?_
      refine am_iload d_M_orderOf_140 3 rfl ?_
      have hi142 := h.1
      have h := h.2
      refine am_laload d_M_orderOf_142 (show ay_sh 36 = _ from rfl) hi142 ?_
      have hz143 := h.1
      have h := h.2
      refine am_ldiv d_M_orderOf_143 hz143 ?_
      refine am_topl (fun v8 ev8 => ?_)
      have h := h v8 ev8
      refine am_lstore_n (l' := [(3, .long v8), (0, .ref (g.1 + 30)), (1, .long x1), (5, .int x5)]) d_M_orderOf_144 (by decide) rfl ?_
      refine am_goto (tgt := 96) d_M_orderOf_145 (by decide) ?_
      refine am_sub [1, 2, 0, 3] rfl ?_
      exact hK96 x1 v8 x5 w h
theorem cf_M_orderOf_L96_ok {g : ayG} {d : Nat} (hd : 101 ≤ d)   (K87 : Int64 → Int64 → Int32 → Wd → Prop) (P : Int64 → Wd → Prop) (Q : Option Value → Wd → Prop) (hQ : ∀ x w2, P x w2 → Q (some (.long x)) w2) (hK87 : ∀ (x1 : Int64) (x3 : Int64) (x5 : Int32) (w : Wd), (K87 x1 x3 x5 w → wp g (fun _ => True) y_M_orderOf prog_14_method_26_code 8 (some FieldType.long) d 87 [(0, .ref (g.1 + 30)), (1, .long x1), (3, .long x3), (5, .int x5)] [] w Q)) : ∀ (n : Nat) (x1 : Int64) (x3 : Int64) (x5 : Int32) (w : Wd) (h : cf_M_orderOf_L96 K87 P n x1 x3 x5 w), wp g (fun _ => True) y_M_orderOf prog_14_method_26_code 8 (some FieldType.long) d 96 [(0, .ref (g.1 + 30)), (1, .long x1), (3, .long x3), (5, .int x5)] [] w Q
  | 0, x1, x3, x5, w, h => False.elim h
  | n + 1, x1, x3, x5, w, h => cf_M_orderOf_B96_ok hd   w K87 (cf_M_orderOf_L96 K87 P n) P Q hQ hK87 (fun x1 x3 x5 w h => cf_M_orderOf_L96_ok hd   K87 P Q hQ hK87 n x1 x3 x5 w h) x1 x3 x5 h
theorem cf_M_orderOf_B87_ok {g : ayG} {d : Nat} (hd : 101 ≤ d)   (w : Wd) (K87 : Int64 → Int64 → Int32 → Wd → Prop) (P : Int64 → Wd → Prop) (Q : Option Value → Wd → Prop) (hQ : ∀ x w2, P x w2 → Q (some (.long x)) w2) (hK87 : ∀ (x1 : Int64) (x3 : Int64) (x5 : Int32) (w : Wd), (K87 x1 x3 x5 w → wp g (fun _ => True) y_M_orderOf prog_14_method_26_code 8 (some FieldType.long) d 87 [(0, .ref (g.1 + 30)), (1, .long x1), (3, .long x3), (5, .int x5)] [] w Q)) (x1 : Int64) (x3 : Int64) (x5 : Int32) (h : cf_M_orderOf_B87 K87 P x1 x3 x5 w) : wp g (fun _ => True) y_M_orderOf prog_14_method_26_code 8 (some FieldType.long) d 87 [(0, .ref (g.1 + 30)), (1, .long x1), (3, .long x3), (5, .int x5)] [] w Q := by
  unfold cf_M_orderOf_B87 at h
  refine am_iload d_M_orderOf_87 3 rfl ?_
  refine am_aload_n d_M_orderOf_89 0 rfl ?_
  refine am_getf (T := F_M) (fs := ob_M g w 30) (C := R_M) (N := 35) (ci := 10) 9 d_M_orderOf_90 wd_1086 rfl (by decide) (el_M (show ay_sh 30 = _ from rfl)) rfl i_M (by decide) rfl ?_
  refine am_icmp_ge (tgt := 154) d_M_orderOf_93 (by decide) (fun c93 => ?_) (fun c93 => ?_)
  · have h := h.1 c93
    refine am_lload_n d_M_orderOf_154 2 rfl ?_
    exact am_lreturn d_M_orderOf_155 rfl (hQ x3 w h)
  · have h := h.2 c93
    refine am_sub [0, 1, 2, 3] rfl ?_
    obtain ⟨n, h⟩ := h
    exact cf_M_orderOf_L96_ok (by omega)   K87 P Q hQ hK87 n x1 x3 x5 w h
theorem cf_M_orderOf_L87_ok {g : ayG} {d : Nat} (hd : 101 ≤ d)    (P : Int64 → Wd → Prop) (Q : Option Value → Wd → Prop) (hQ : ∀ x w2, P x w2 → Q (some (.long x)) w2)  : ∀ (n : Nat) (x1 : Int64) (x3 : Int64) (x5 : Int32) (w : Wd) (h : cf_M_orderOf_L87 P n x1 x3 x5 w), wp g (fun _ => True) y_M_orderOf prog_14_method_26_code 8 (some FieldType.long) d 87 [(0, .ref (g.1 + 30)), (1, .long x1), (3, .long x3), (5, .int x5)] [] w Q
  | 0, x1, x3, x5, w, h => False.elim h
  | n + 1, x1, x3, x5, w, h => cf_M_orderOf_B87_ok hd   w (cf_M_orderOf_L87 P n) P Q hQ (fun x1 x3 x5 w h => cf_M_orderOf_L87_ok hd    P Q hQ  n x1 x3 x5 w h) x1 x3 x5 h
theorem cf_M_orderOf_B55_ok {g : ayG} {d : Nat} (hd : 101 ≤ d)   (w : Wd) (K55 : Int64 → Int64 → Int32 → Wd → Prop) (P : Int64 → Wd → Prop) (Q : Option Value → Wd → Prop) (hQ : ∀ x w2, P x w2 → Q (some (.long x)) w2) (hK55 : ∀ (x1 : Int64) (x3 : Int64) (x5 : Int32) (w : Wd), (K55 x1 x3 x5 w → wp g (fun _ => True) y_M_orderOf prog_14_method_26_code 8 (some FieldType.long) d 55 [(0, .ref (g.1 + 30)), (1, .long x1), (3, .long x3), (5, .int x5)] [] w Q)) (x1 : Int64) (x3 : Int64) (x5 : Int32) (h : cf_M_orderOf_B55 K55 P x1 x3 x5 w) : wp g (fun _ => True) y_M_orderOf prog_14_method_26_code 8 (some FieldType.long) d 55 [(0, .ref (g.1 + 30)), (1, .long x1), (3, .long x3), (5, .int x5)] [] w Q := by
  unfold cf_M_orderOf_B55 at h
  refine am_iload d_M_orderOf_55 3 rfl ?_
  refine am_aload_n d_M_orderOf_57 0 rfl ?_
  refine am_callV (C := y_M_oftenest.cls) (d2 := d - 1) [] d_M_orderOf_58 mi_M_oftenest wd_1221 wd_1223 ws_M_oftenest (by decide) (el_M (show ay_sh 30 = _ from rfl)) rfl rfl (by omega) rfl rfl (Nat.le_of_ble_eq_true rfl) ?_
  refine Call.post ?_ (cf_M_oftenest_ok (by omega)   w _ h)
  rintro _ _ ⟨r2, rfl, rfl, h⟩
  show wp g (fun _ => True) y_M_orderOf prog_14_method_26_code 8 (some FieldType.long) d 61 [(0, .ref (g.1 + 30)), (1, .long x1), (3, .long x3), (5, .int x5)] [.int r2, .int x5] w Q
  refine am_icmp_ge (tgt := 79) d_M_orderOf_61 (by decide) (fun c61 => ?_) (fun c61 => ?_)
  · have h := h.1 c61
    refine am_aload_n d_M_orderOf_79 0 rfl ?_
    refine am_lload_n d_M_orderOf_80 2 rfl ?_
    refine am_callV (C := y_M_laysPrimes.cls) (d2 := d - 1) [.long x3] d_M_orderOf_81 mi_M_laysPrimes wd_1246 wd_1248 ws_M_laysPrimes (by decide) (el_M (show ay_sh 30 = _ from rfl)) rfl rfl (by omega) rfl rfl (Nat.le_of_ble_eq_true rfl) ?_
    refine Call.post ?_ (cf_M_laysPrimes_ok (by omega) x3  w _ h)
    rintro _ w3 ⟨rfl, h⟩
    show wp g (fun _ => True) y_M_orderOf prog_14_method_26_code 8 (some FieldType.long) d 84 [(0, .ref (g.1 + 30)), (1, .long x1), (3, .long x3), (5, .int x5)] [] w3 Q
    refine am_iconst (v := 0) d_M_orderOf_84 rfl ?_
    refine am_istore (l' := [(5, .int (0 : Int32)), (0, .ref (g.1 + 30)), (1, .long x1), (3, .long x3)]) d_M_orderOf_85 (by decide) rfl ?_
    refine am_sub [1, 2, 3, 0] rfl ?_
    obtain ⟨n, h⟩ := h
    exact cf_M_orderOf_L87_ok (by omega)    P Q hQ  n x1 x3 (0 : Int32) w3 h
  · have h := h.2 c61
    refine am_lload_n d_M_orderOf_64 2 rfl ?_
    refine am_ldc2 (v := 2) d_M_orderOf_65 wd_1205 ?_
    refine am_lmul d_M_orderOf_68 ?_
    refine am_topl (fun v9 ev9 => ?_)
    have h := h v9 ev9
    refine am_lstore_n (l' := [(3, .long v9), (0, .ref (g.1 + 30)), (1, .long x1), (5, .int x5)]) d_M_orderOf_69 (by decide) rfl ?_
    refine am_iload d_M_orderOf_70 3 rfl ?_
    refine am_iconst (v := 2) d_M_orderOf_72 rfl ?_
    refine am_imul d_M_orderOf_73 ?_
    refine am_topi (fun v10 ev10 => ?_)
    have h := h v10 ev10
    refine am_istore (l' := [(5, .int v10), (3, .long v9), (0, .ref (g.1 + 30)), (1, .long x1)]) d_M_orderOf_74 (by decide) rfl ?_
    refine am_goto (tgt := 55) d_M_orderOf_76 (by decide) ?_
    refine am_sub [2, 3, 1, 0] rfl ?_
    exact hK55 x1 v9 v10 w h
theorem cf_M_orderOf_L55_ok {g : ayG} {d : Nat} (hd : 101 ≤ d)    (P : Int64 → Wd → Prop) (Q : Option Value → Wd → Prop) (hQ : ∀ x w2, P x w2 → Q (some (.long x)) w2)  : ∀ (n : Nat) (x1 : Int64) (x3 : Int64) (x5 : Int32) (w : Wd) (h : cf_M_orderOf_L55 P n x1 x3 x5 w), wp g (fun _ => True) y_M_orderOf prog_14_method_26_code 8 (some FieldType.long) d 55 [(0, .ref (g.1 + 30)), (1, .long x1), (3, .long x3), (5, .int x5)] [] w Q
  | 0, x1, x3, x5, w, h => False.elim h
  | n + 1, x1, x3, x5, w, h => cf_M_orderOf_B55_ok hd   w (cf_M_orderOf_L55 P n) P Q hQ (fun x1 x3 x5 w h => cf_M_orderOf_L55_ok hd    P Q hQ  n x1 x3 x5 w h) x1 x3 x5 h
theorem cf_M_orderOf_B10_ok {g : ayG} {d : Nat} (hd : 101 ≤ d)   (w : Wd) (K10 : Int64 → Int64 → Int32 → Wd → Prop) (P : Int64 → Wd → Prop) (Q : Option Value → Wd → Prop) (hQ : ∀ x w2, P x w2 → Q (some (.long x)) w2) (hK10 : ∀ (x1 : Int64) (x3 : Int64) (x5 : Int32) (w : Wd), (K10 x1 x3 x5 w → wp g (fun _ => True) y_M_orderOf prog_14_method_26_code 8 (some FieldType.long) d 10 [(0, .ref (g.1 + 30)), (1, .long x1), (3, .long x3), (5, .int x5)] [] w Q)) (x1 : Int64) (x3 : Int64) (x5 : Int32) (h : cf_M_orderOf_B10 K10 P x1 x3 x5 w) : wp g (fun _ => True) y_M_orderOf prog_14_method_26_code 8 (some FieldType.long) d 10 [(0, .ref (g.1 + 30)), (1, .long x1), (3, .long x3), (5, .int x5)] [] w Q := by
  unfold cf_M_orderOf_B10 at h
  refine am_iload d_M_orderOf_10 3 rfl ?_
  refine am_aload_n d_M_orderOf_12 0 rfl ?_
  refine am_getf (T := F_M) (fs := ob_M g w 30) (C := R_M) (N := 35) (ci := 10) 6 d_M_orderOf_13 wd_1083 rfl (by decide) (el_M (show ay_sh 30 = _ from rfl)) rfl i_M (by decide) rfl ?_
  refine am_icmp_ge (tgt := 52) d_M_orderOf_16 (by decide) (fun c16 => ?_) (fun c16 => ?_)
  · have h := h.1 c16
    refine am_iconst (v := 1) d_M_orderOf_52 rfl ?_
    refine am_istore (l' := [(5, .int (1 : Int32)), (0, .ref (g.1 + 30)), (1, .long x1), (3, .long x3)]) d_M_orderOf_53 (by decide) rfl ?_
    refine am_sub [1, 2, 3, 0] rfl ?_
    obtain ⟨n, h⟩ := h
    exact cf_M_orderOf_L55_ok (by omega)    P Q hQ  n x1 x3 (1 : Int32) w h
  · have h := h.2 c16
    refine am_aload_n d_M_orderOf_19 0 rfl ?_
    refine am_getf (T := F_M) (fs := ob_M g w 30) (C := R_M) (N := 35) (ci := 10) 5 d_M_orderOf_20 wd_1082 rfl (by decide) (el_M (show ay_sh 30 = _ from rfl)) rfl i_M (by decide) rfl ?_
    refine am_iload d_M_orderOf_23 3 rfl ?_
    have hi25 := h.1
    have h := h.2
    refine am_laload d_M_orderOf_25 (show ay_sh 35 = _ from rfl) hi25 ?_
    refine am_callS (d2 := d - 1) [.long (w.2 35 x5.toNatClampNeg)] d_M_orderOf_26 mi_M_degree wd_1206 wd_1207 (by omega) rfl rfl (Nat.le_of_ble_eq_true rfl) ?_
    refine Call.post ?_ (cf_M_degree_ok (by omega) (w.2 35 x5.toNatClampNeg)  w _ h)
    rintro _ _ ⟨r11, rfl, rfl, h⟩
    show wp g (fun _ => True) y_M_orderOf prog_14_method_26_code 8 (some FieldType.long) d 29 [(0, .ref (g.1 + 30)), (1, .long x1), (3, .long x3), (5, .int x5)] [.int r11] w Q
    refine am_callS (d2 := d - 1) [.int r11] d_M_orderOf_29 mi_M_allOnes wd_1240 wd_1241 (by omega) rfl rfl (Nat.le_of_ble_eq_true rfl) ?_
    refine Call.post ?_ (cf_M_allOnes_ok (by omega) r11  w _ h)
    rintro _ _ ⟨r12, rfl, rfl, h⟩
    show wp g (fun _ => True) y_M_orderOf prog_14_method_26_code 8 (some FieldType.long) d 32 [(0, .ref (g.1 + 30)), (1, .long x1), (3, .long x3), (5, .int x5)] [.long r12] w Q
    refine am_lstore (l' := [(6, .long r12), (0, .ref (g.1 + 30)), (1, .long x1), (3, .long x3), (5, .int x5)]) d_M_orderOf_32 (by decide) rfl ?_
    refine am_lload_n d_M_orderOf_34 3 rfl ?_
    refine am_lload_n d_M_orderOf_35 3 rfl ?_
    refine am_lload d_M_orderOf_36 0 rfl ?_
    refine am_callS (d2 := d - 1) [.long x3, .long r12] d_M_orderOf_38 mi_M_commonNumber wd_1243 wd_1244 (by omega) rfl rfl (Nat.le_of_ble_eq_true rfl) ?_
    refine Call.post ?_ (cf_M_commonNumber_W_ok (by omega) x3 r12  w _ h)
    rintro _ _ ⟨r13, rfl, rfl, h⟩
    show wp g (fun _ => True) y_M_orderOf prog_14_method_26_code 8 (some FieldType.long) d 41 [(6, .long r12), (0, .ref (g.1 + 30)), (1, .long x1), (3, .long x3), (5, .int x5)] [.long r13, .long x3] w Q
    have hz41 := h.1
    have h := h.2
    refine am_ldiv d_M_orderOf_41 hz41 ?_
    refine am_lload d_M_orderOf_42 0 rfl ?_
    refine am_lmul d_M_orderOf_44 ?_
    refine am_topl (fun v14 ev14 => ?_)
    have h := h v14 ev14
    refine am_lstore_n (l' := [(3, .long v14), (6, .long r12), (0, .ref (g.1 + 30)), (1, .long x1), (5, .int x5)]) d_M_orderOf_45 (by decide) rfl ?_
    obtain ⟨v15, ev15⟩ : ∃ z : Int32, z = x5 + (1 : Int32) := ⟨_, rfl⟩
    have h := h v15 ev15
    refine am_iinc (v := v15) (l' := [(5, .int v15), (3, .long v14), (6, .long r12), (0, .ref (g.1 + 30)), (1, .long x1)]) d_M_orderOf_46 4 rfl (by rw [ev15]; rfl) (by decide) rfl ?_
    refine am_goto (tgt := 10) d_M_orderOf_49 (by decide) ?_
    refine am_sub [3, 4, 1, 0] rfl ?_
    exact hK10 x1 v14 v15 w h
theorem cf_M_orderOf_L10_ok {g : ayG} {d : Nat} (hd : 101 ≤ d)    (P : Int64 → Wd → Prop) (Q : Option Value → Wd → Prop) (hQ : ∀ x w2, P x w2 → Q (some (.long x)) w2)  : ∀ (n : Nat) (x1 : Int64) (x3 : Int64) (x5 : Int32) (w : Wd) (h : cf_M_orderOf_L10 P n x1 x3 x5 w), wp g (fun _ => True) y_M_orderOf prog_14_method_26_code 8 (some FieldType.long) d 10 [(0, .ref (g.1 + 30)), (1, .long x1), (3, .long x3), (5, .int x5)] [] w Q
  | 0, x1, x3, x5, w, h => False.elim h
  | n + 1, x1, x3, x5, w, h => cf_M_orderOf_B10_ok hd   w (cf_M_orderOf_L10 P n) P Q hQ (fun x1 x3 x5 w h => cf_M_orderOf_L10_ok hd    P Q hQ  n x1 x3 x5 w h) x1 x3 x5 h
theorem cf_M_orderOf_ok {g : ayG} {d : Nat} (hd : 101 ≤ d) (a0 : Int64)  (w : Wd) (P : Int64 → Wd → Prop) (h : cf_M_orderOf a0 w P) : Call g y_M_orderOf prog_14_method_26_code 8 (some FieldType.long) d [.ref (g.1 + 30), .long a0] w (fun (r : Option Value) (w2 : Wd) => ∃ x, r = some (.long x) ∧ P x w2) := by
  unfold cf_M_orderOf at h
  refine am_enter mi_M_orderOf (Nat.le_of_ble_eq_true rfl) ?_
  have hQ : ∀ x w2, P x w2 → (fun (r : Option Value) (w2 : Wd) => ∃ x, r = some (.long x) ∧ P x w2) (some (.long x)) w2 := fun x w2 h => ⟨x, rfl, h⟩
  generalize (fun (r : Option Value) (w2 : Wd) => ∃ x, r = some (.long x) ∧ P x w2) = Q at hQ ⊢
  show wp g (fun _ => True) y_M_orderOf prog_14_method_26_code 8 (some FieldType.long) d 0 [(0, .ref (g.1 + 30)), (1, .long a0)] [] w Q
  refine am_aload_n d_M_orderOf_0 0 rfl ?_
  refine am_lload_n d_M_orderOf_1 1 rfl ?_
  refine am_callV (C := y_M_laysFactors.cls) (d2 := d - 1) [.long a0] d_M_orderOf_2 mi_M_laysFactors wd_1201 wd_1203 ws_M_laysFactors (by decide) (el_M (show ay_sh 30 = _ from rfl)) rfl rfl (by omega) rfl rfl (Nat.le_of_ble_eq_true rfl) ?_
  refine Call.post ?_ (cf_M_laysFactors_ok (by omega) a0  w _ h)
  rintro _ w1 ⟨rfl, h⟩
  show wp g (fun _ => True) y_M_orderOf prog_14_method_26_code 8 (some FieldType.long) d 5 [(0, .ref (g.1 + 30)), (1, .long a0)] [] w1 Q
  refine am_lconst (v := 1) d_M_orderOf_5 rfl ?_
  refine am_lstore_n (l' := [(3, .long (1 : Int64)), (0, .ref (g.1 + 30)), (1, .long a0)]) d_M_orderOf_6 (by decide) rfl ?_
  refine am_iconst (v := 0) d_M_orderOf_7 rfl ?_
  refine am_istore (l' := [(5, .int (0 : Int32)), (3, .long (1 : Int64)), (0, .ref (g.1 + 30)), (1, .long a0)]) d_M_orderOf_8 (by decide) rfl ?_
  refine am_sub [2, 3, 1, 0] rfl ?_
  obtain ⟨n, h⟩ := h
  exact cf_M_orderOf_L10_ok (by omega)    P Q hQ  n a0 (1 : Int64) (0 : Int32) w1 h
theorem d_M_hasOrder_0 : decode prog_14_method_27_code 0 = .ok (.lload_n 0, 1) := by decide +kernel
theorem d_M_hasOrder_1 : decode prog_14_method_27_code 1 = .ok (.invokestatic 84, 3) := by decide +kernel
theorem d_M_hasOrder_4 : decode prog_14_method_27_code 4 = .ok (.iconst 1, 1) := by decide +kernel
theorem d_M_hasOrder_5 : decode prog_14_method_27_code 5 = .ok (.if_icmp .lt 15, 3) := by decide +kernel
theorem d_M_hasOrder_8 : decode prog_14_method_27_code 8 = .ok (.lload_n 0, 1) := by decide +kernel
theorem d_M_hasOrder_9 : decode prog_14_method_27_code 9 = .ok (.iconst 0, 1) := by decide +kernel
theorem d_M_hasOrder_10 : decode prog_14_method_27_code 10 = .ok (.invokestatic 80, 3) := by decide +kernel
theorem d_M_hasOrder_13 : decode prog_14_method_27_code 13 = .ok (.ifCond .eq 7, 3) := by decide +kernel
theorem d_M_hasOrder_16 : decode prog_14_method_27_code 16 = .ok (.iconst 1, 1) := by decide +kernel
theorem d_M_hasOrder_17 : decode prog_14_method_27_code 17 = .ok (.goto 4, 3) := by decide +kernel
theorem d_M_hasOrder_20 : decode prog_14_method_27_code 20 = .ok (.iconst 0, 1) := by decide +kernel
theorem d_M_hasOrder_21 : decode prog_14_method_27_code 21 = .ok (.ireturn, 1) := by decide +kernel
def cf_M_hasOrder (a0 : Int64) (P : Int32 → Prop) : Prop :=
  cf_M_degree a0 (fun r1 => ((r1 < (1 : Int32) → P (0 : Int32)) ∧ (¬ r1 < (1 : Int32) → cf_M_has a0 (0 : Int32) (fun r2 => ((r2 = 0 → P (0 : Int32)) ∧ (¬ r2 = 0 → P (1 : Int32)))))))
theorem cf_M_hasOrder_ok {g : ayG} {d : Nat} (hd : 1 ≤ d) (a0 : Int64)  (w : Wd) (P : Int32 → Prop) (h : cf_M_hasOrder a0 P) : Call g y_M_hasOrder prog_14_method_27_code 2 (some FieldType.boolean) d [.long a0] w (fun (r : Option Value) (w2 : Wd) => ∃ x, r = some (.int x) ∧ w = w2 ∧ P x) := by
  unfold cf_M_hasOrder at h
  refine am_enter mi_M_hasOrder (Nat.le_of_ble_eq_true rfl) ?_
  have hQ : ∀ x, P x → (fun (r : Option Value) (w2 : Wd) => ∃ x, r = some (.int x) ∧ w = w2 ∧ P x) (some (.int x)) w := fun x h => ⟨x, rfl, rfl, h⟩
  generalize (fun (r : Option Value) (w2 : Wd) => ∃ x, r = some (.int x) ∧ w = w2 ∧ P x) = Q at hQ ⊢
  show wp g (fun _ => True) y_M_hasOrder prog_14_method_27_code 2 (some FieldType.boolean) d 0 [(0, .long a0)] [] w Q
  refine am_lload_n d_M_hasOrder_0 0 rfl ?_
  refine am_callS (d2 := d - 1) [.long a0] d_M_hasOrder_1 mi_M_degree wd_1206 wd_1207 (by omega) rfl rfl (Nat.le_of_ble_eq_true rfl) ?_
  refine Call.post ?_ (cf_M_degree_ok (by omega) a0  w _ h)
  rintro _ _ ⟨r1, rfl, rfl, h⟩
  show wp g (fun _ => True) y_M_hasOrder prog_14_method_27_code 2 (some FieldType.boolean) d 4 [(0, .long a0)] [.int r1] w Q
  refine am_iconst (v := 1) d_M_hasOrder_4 rfl ?_
  refine am_icmp_lt (tgt := 20) d_M_hasOrder_5 (by decide) (fun c5 => ?_) (fun c5 => ?_)
  · have h := h.1 c5
    refine am_iconst (v := 0) d_M_hasOrder_20 rfl ?_
    exact am_ireturn d_M_hasOrder_21 rfl rfl (hQ (0 : Int32) h)
  · have h := h.2 c5
    refine am_lload_n d_M_hasOrder_8 0 rfl ?_
    refine am_iconst (v := 0) d_M_hasOrder_9 rfl ?_
    refine am_callS (d2 := d - 1) [.long a0, .int (0 : Int32)] d_M_hasOrder_10 mi_M_has wd_1212 wd_1213 (by omega) rfl rfl (Nat.le_of_ble_eq_true rfl) ?_
    refine Call.post ?_ (cf_M_has_ok (by omega) a0 (0 : Int32)  w _ h)
    rintro _ _ ⟨r2, rfl, rfl, h⟩
    show wp g (fun _ => True) y_M_hasOrder prog_14_method_27_code 2 (some FieldType.boolean) d 13 [(0, .long a0)] [.int r2] w Q
    refine am_if_eq (tgt := 20) d_M_hasOrder_13 (by decide) (fun c13 => ?_) (fun c13 => ?_)
    · have h := h.1 c13
      refine am_iconst (v := 0) d_M_hasOrder_20 rfl ?_
      exact am_ireturn d_M_hasOrder_21 rfl rfl (hQ (0 : Int32) h)
    · have h := h.2 c13
      refine am_iconst (v := 1) d_M_hasOrder_16 rfl ?_
      refine am_goto (tgt := 21) d_M_hasOrder_17 (by decide) ?_
      exact am_ireturn d_M_hasOrder_21 rfl rfl (hQ (1 : Int32) h)
theorem d_M_isPrimitive_0 : decode prog_14_method_28_code 0 = .ok (.lload_n 1, 1) := by decide +kernel
theorem d_M_isPrimitive_1 : decode prog_14_method_28_code 1 = .ok (.invokestatic 136, 3) := by decide +kernel
theorem d_M_isPrimitive_4 : decode prog_14_method_28_code 4 = .ok (.ifCond .eq 31, 3) := by decide +kernel
theorem d_M_isPrimitive_7 : decode prog_14_method_28_code 7 = .ok (.aload_n 0, 1) := by decide +kernel
theorem d_M_isPrimitive_8 : decode prog_14_method_28_code 8 = .ok (.lload_n 1, 1) := by decide +kernel
theorem d_M_isPrimitive_9 : decode prog_14_method_28_code 9 = .ok (.invokevirtual 140, 3) := by decide +kernel
theorem d_M_isPrimitive_12 : decode prog_14_method_28_code 12 = .ok (.ifCond .eq 23, 3) := by decide +kernel
theorem d_M_isPrimitive_15 : decode prog_14_method_28_code 15 = .ok (.aload_n 0, 1) := by decide +kernel
theorem d_M_isPrimitive_16 : decode prog_14_method_28_code 16 = .ok (.lload_n 1, 1) := by decide +kernel
theorem d_M_isPrimitive_17 : decode prog_14_method_28_code 17 = .ok (.invokevirtual 143, 3) := by decide +kernel
theorem d_M_isPrimitive_20 : decode prog_14_method_28_code 20 = .ok (.lload_n 1, 1) := by decide +kernel
theorem d_M_isPrimitive_21 : decode prog_14_method_28_code 21 = .ok (.invokestatic 84, 3) := by decide +kernel
theorem d_M_isPrimitive_24 : decode prog_14_method_28_code 24 = .ok (.invokestatic 122, 3) := by decide +kernel
theorem d_M_isPrimitive_27 : decode prog_14_method_28_code 27 = .ok (.lcmp, 1) := by decide +kernel
theorem d_M_isPrimitive_28 : decode prog_14_method_28_code 28 = .ok (.ifCond .ne 7, 3) := by decide +kernel
theorem d_M_isPrimitive_31 : decode prog_14_method_28_code 31 = .ok (.iconst 1, 1) := by decide +kernel
theorem d_M_isPrimitive_32 : decode prog_14_method_28_code 32 = .ok (.goto 4, 3) := by decide +kernel
theorem d_M_isPrimitive_35 : decode prog_14_method_28_code 35 = .ok (.iconst 0, 1) := by decide +kernel
theorem d_M_isPrimitive_36 : decode prog_14_method_28_code 36 = .ok (.ireturn, 1) := by decide +kernel
def cf_M_isPrimitive (a0 : Int64) (w : Wd) (P : Int32 → Wd → Prop) : Prop :=
  cf_M_hasOrder a0 (fun r1 => ((r1 = 0 → P (0 : Int32) w) ∧ (¬ r1 = 0 → cf_M_isIrreducible a0 w (fun r2 w3 => ((r2 = 0 → P (0 : Int32) w3) ∧ (¬ r2 = 0 → cf_M_orderOf a0 w3 (fun r4 w5 => cf_M_degree a0 (fun r6 => cf_M_allOnes r6 (fun r7 => ((¬ r4 = r7 → P (0 : Int32) w5) ∧ (r4 = r7 → P (1 : Int32) w5)))))))))))
theorem cf_M_isPrimitive_ok {g : ayG} {d : Nat} (hd : 102 ≤ d) (a0 : Int64)  (w : Wd) (P : Int32 → Wd → Prop) (h : cf_M_isPrimitive a0 w P) : Call g y_M_isPrimitive prog_14_method_28_code 3 (some FieldType.boolean) d [.ref (g.1 + 30), .long a0] w (fun (r : Option Value) (w2 : Wd) => ∃ x, r = some (.int x) ∧ P x w2) := by
  unfold cf_M_isPrimitive at h
  refine am_enter mi_M_isPrimitive (Nat.le_of_ble_eq_true rfl) ?_
  have hQ : ∀ x w2, P x w2 → (fun (r : Option Value) (w2 : Wd) => ∃ x, r = some (.int x) ∧ P x w2) (some (.int x)) w2 := fun x w2 h => ⟨x, rfl, h⟩
  generalize (fun (r : Option Value) (w2 : Wd) => ∃ x, r = some (.int x) ∧ P x w2) = Q at hQ ⊢
  show wp g (fun _ => True) y_M_isPrimitive prog_14_method_28_code 3 (some FieldType.boolean) d 0 [(0, .ref (g.1 + 30)), (1, .long a0)] [] w Q
  refine am_lload_n d_M_isPrimitive_0 1 rfl ?_
  refine am_callS (d2 := d - 1) [.long a0] d_M_isPrimitive_1 mi_M_hasOrder wd_1229 wd_1230 (by omega) rfl rfl (Nat.le_of_ble_eq_true rfl) ?_
  refine Call.post ?_ (cf_M_hasOrder_ok (by omega) a0  w _ h)
  rintro _ _ ⟨r1, rfl, rfl, h⟩
  show wp g (fun _ => True) y_M_isPrimitive prog_14_method_28_code 3 (some FieldType.boolean) d 4 [(0, .ref (g.1 + 30)), (1, .long a0)] [.int r1] w Q
  refine am_if_eq (tgt := 35) d_M_isPrimitive_4 (by decide) (fun c4 => ?_) (fun c4 => ?_)
  · have h := h.1 c4
    refine am_iconst (v := 0) d_M_isPrimitive_35 rfl ?_
    exact am_ireturn d_M_isPrimitive_36 rfl rfl (hQ (0 : Int32) w h)
  · have h := h.2 c4
    refine am_aload_n d_M_isPrimitive_7 0 rfl ?_
    refine am_lload_n d_M_isPrimitive_8 1 rfl ?_
    refine am_callV (C := y_M_isIrreducible.cls) (d2 := d - 1) [.long a0] d_M_isPrimitive_9 mi_M_isIrreducible wd_1232 wd_1234 ws_M_isIrreducible (by decide) (el_M (show ay_sh 30 = _ from rfl)) rfl rfl (by omega) rfl rfl (Nat.le_of_ble_eq_true rfl) ?_
    refine Call.post ?_ (cf_M_isIrreducible_ok (by omega) a0  w _ h)
    rintro _ w3 ⟨r2, rfl, h⟩
    show wp g (fun _ => True) y_M_isPrimitive prog_14_method_28_code 3 (some FieldType.boolean) d 12 [(0, .ref (g.1 + 30)), (1, .long a0)] [.int r2] w3 Q
    refine am_if_eq (tgt := 35) d_M_isPrimitive_12 (by decide) (fun c12 => ?_) (fun c12 => ?_)
    · have h := h.1 c12
      refine am_iconst (v := 0) d_M_isPrimitive_35 rfl ?_
      exact am_ireturn d_M_isPrimitive_36 rfl rfl (hQ (0 : Int32) w3 h)
    · have h := h.2 c12
      refine am_aload_n d_M_isPrimitive_15 0 rfl ?_
      refine am_lload_n d_M_isPrimitive_16 1 rfl ?_
      refine am_callV (C := y_M_orderOf.cls) (d2 := d - 1) [.long a0] d_M_isPrimitive_17 mi_M_orderOf wd_1236 wd_1238 ws_M_orderOf (by decide) (el_M (show ay_sh 30 = _ from rfl)) rfl rfl (by omega) rfl rfl (Nat.le_of_ble_eq_true rfl) ?_
      refine Call.post ?_ (cf_M_orderOf_ok (by omega) a0  w3 _ h)
      rintro _ w5 ⟨r4, rfl, h⟩
      show wp g (fun _ => True) y_M_isPrimitive prog_14_method_28_code 3 (some FieldType.boolean) d 20 [(0, .ref (g.1 + 30)), (1, .long a0)] [.long r4] w5 Q
      refine am_lload_n d_M_isPrimitive_20 1 rfl ?_
      refine am_callS (d2 := d - 1) [.long a0] d_M_isPrimitive_21 mi_M_degree wd_1206 wd_1207 (by omega) rfl rfl (Nat.le_of_ble_eq_true rfl) ?_
      refine Call.post ?_ (cf_M_degree_ok (by omega) a0  w5 _ h)
      rintro _ _ ⟨r6, rfl, rfl, h⟩
      show wp g (fun _ => True) y_M_isPrimitive prog_14_method_28_code 3 (some FieldType.boolean) d 24 [(0, .ref (g.1 + 30)), (1, .long a0)] [.int r6, .long r4] w5 Q
      refine am_callS (d2 := d - 1) [.int r6] d_M_isPrimitive_24 mi_M_allOnes wd_1240 wd_1241 (by omega) rfl rfl (Nat.le_of_ble_eq_true rfl) ?_
      refine Call.post ?_ (cf_M_allOnes_ok (by omega) r6  w5 _ h)
      rintro _ _ ⟨r7, rfl, rfl, h⟩
      show wp g (fun _ => True) y_M_isPrimitive prog_14_method_28_code 3 (some FieldType.boolean) d 27 [(0, .ref (g.1 + 30)), (1, .long a0)] [.long r7, .long r4] w5 Q
      refine am_lif_ne (tgt := 35) d_M_isPrimitive_27 d_M_isPrimitive_28 (by decide) (fun c27 => ?_) (fun c27 => ?_)
      · have h := h.1 c27
        refine am_iconst (v := 0) d_M_isPrimitive_35 rfl ?_
        exact am_ireturn d_M_isPrimitive_36 rfl rfl (hQ (0 : Int32) w5 h)
      · have h := h.2 c27
        refine am_iconst (v := 1) d_M_isPrimitive_31 rfl ?_
        refine am_goto (tgt := 36) d_M_isPrimitive_32 (by decide) ?_
        exact am_ireturn d_M_isPrimitive_36 rfl rfl (hQ (1 : Int32) w5 h)
theorem d_M_isGood_0 : decode prog_14_method_29_code 0 = .ok (.iload_n 3, 1) := by decide +kernel
theorem d_M_isGood_1 : decode prog_14_method_29_code 1 = .ok (.ifCond .eq 11, 3) := by decide +kernel
theorem d_M_isGood_4 : decode prog_14_method_29_code 4 = .ok (.aload_n 0, 1) := by decide +kernel
theorem d_M_isGood_5 : decode prog_14_method_29_code 5 = .ok (.lload_n 1, 1) := by decide +kernel
theorem d_M_isGood_6 : decode prog_14_method_29_code 6 = .ok (.invokevirtual 147, 3) := by decide +kernel
theorem d_M_isGood_9 : decode prog_14_method_29_code 9 = .ok (.goto 8, 3) := by decide +kernel
theorem d_M_isGood_12 : decode prog_14_method_29_code 12 = .ok (.aload_n 0, 1) := by decide +kernel
theorem d_M_isGood_13 : decode prog_14_method_29_code 13 = .ok (.lload_n 1, 1) := by decide +kernel
theorem d_M_isGood_14 : decode prog_14_method_29_code 14 = .ok (.invokevirtual 140, 3) := by decide +kernel
theorem d_M_isGood_17 : decode prog_14_method_29_code 17 = .ok (.ireturn, 1) := by decide +kernel
def cf_M_isGood (a0 : Int64) (a1 : Int32) (w : Wd) (P : Int32 → Wd → Prop) : Prop :=
  ((a1 = 0 → cf_M_isIrreducible a0 w (fun r1 w2 => (r1 = 0 ∨ r1 = 1) ∧ P r1 w2)) ∧ (¬ a1 = 0 → cf_M_isPrimitive a0 w (fun r3 w4 => (r3 = 0 ∨ r3 = 1) ∧ P r3 w4)))
theorem cf_M_isGood_ok {g : ayG} {d : Nat} (hd : 103 ≤ d) (a0 : Int64) (a1 : Int32)  (w : Wd) (P : Int32 → Wd → Prop) (h : cf_M_isGood a0 a1 w P) : Call g y_M_isGood prog_14_method_29_code 4 (some FieldType.boolean) d [.ref (g.1 + 30), .long a0, .int a1] w (fun (r : Option Value) (w2 : Wd) => ∃ x, r = some (.int x) ∧ P x w2) := by
  unfold cf_M_isGood at h
  refine am_enter mi_M_isGood (Nat.le_of_ble_eq_true rfl) ?_
  have hQ : ∀ x w2, P x w2 → (fun (r : Option Value) (w2 : Wd) => ∃ x, r = some (.int x) ∧ P x w2) (some (.int x)) w2 := fun x w2 h => ⟨x, rfl, h⟩
  generalize (fun (r : Option Value) (w2 : Wd) => ∃ x, r = some (.int x) ∧ P x w2) = Q at hQ ⊢
  show wp g (fun _ => True) y_M_isGood prog_14_method_29_code 4 (some FieldType.boolean) d 0 [(0, .ref (g.1 + 30)), (1, .long a0), (3, .int a1)] [] w Q
  refine am_iload_n d_M_isGood_0 2 rfl ?_
  refine am_if_eq (tgt := 12) d_M_isGood_1 (by decide) (fun c1 => ?_) (fun c1 => ?_)
  · have h := h.1 c1
    refine am_aload_n d_M_isGood_12 0 rfl ?_
    refine am_lload_n d_M_isGood_13 1 rfl ?_
    refine am_callV (C := y_M_isIrreducible.cls) (d2 := d - 1) [.long a0] d_M_isGood_14 mi_M_isIrreducible wd_1232 wd_1234 ws_M_isIrreducible (by decide) (el_M (show ay_sh 30 = _ from rfl)) rfl rfl (by omega) rfl rfl (Nat.le_of_ble_eq_true rfl) ?_
    refine Call.post ?_ (cf_M_isIrreducible_ok (by omega) a0  w _ h)
    rintro _ w2 ⟨r1, rfl, h⟩
    show wp g (fun _ => True) y_M_isGood prog_14_method_29_code 4 (some FieldType.boolean) d 17 [(0, .ref (g.1 + 30)), (1, .long a0), (3, .int a1)] [.int r1] w2 Q
    exact am_ireturn d_M_isGood_17 rfl (ay_nb h.1) (hQ r1 w2 h.2)
  · have h := h.2 c1
    refine am_aload_n d_M_isGood_4 0 rfl ?_
    refine am_lload_n d_M_isGood_5 1 rfl ?_
    refine am_callV (C := y_M_isPrimitive.cls) (d2 := d - 1) [.long a0] d_M_isGood_6 mi_M_isPrimitive wd_1225 wd_1227 ws_M_isPrimitive (by decide) (el_M (show ay_sh 30 = _ from rfl)) rfl rfl (by omega) rfl rfl (Nat.le_of_ble_eq_true rfl) ?_
    refine Call.post ?_ (cf_M_isPrimitive_ok (by omega) a0  w _ h)
    rintro _ w4 ⟨r3, rfl, h⟩
    show wp g (fun _ => True) y_M_isGood prog_14_method_29_code 4 (some FieldType.boolean) d 9 [(0, .ref (g.1 + 30)), (1, .long a0), (3, .int a1)] [.int r3] w4 Q
    refine am_goto (tgt := 17) d_M_isGood_9 (by decide) ?_
    exact am_ireturn d_M_isGood_17 rfl (ay_nb h.1) (hQ r3 w4 h.2)
theorem d_M_bits_0 : decode prog_14_method_30_code 0 = .ok (.iload_n 1, 1) := by decide +kernel
theorem d_M_bits_1 : decode prog_14_method_30_code 1 = .ok (.invokestatic 150, 3) := by decide +kernel
theorem d_M_bits_4 : decode prog_14_method_30_code 4 = .ok (.ifCond .eq 12, 3) := by decide +kernel
theorem d_M_bits_7 : decode prog_14_method_30_code 7 = .ok (.aload_n 0, 1) := by decide +kernel
theorem d_M_bits_8 : decode prog_14_method_30_code 8 = .ok (.getfield 7, 3) := by decide +kernel
theorem d_M_bits_11 : decode prog_14_method_30_code 11 = .ok (.iload_n 1, 1) := by decide +kernel
theorem d_M_bits_12 : decode prog_14_method_30_code 12 = .ok (.laload, 1) := by decide +kernel
theorem d_M_bits_13 : decode prog_14_method_30_code 13 = .ok (.goto 6, 3) := by decide +kernel
theorem d_M_bits_16 : decode prog_14_method_30_code 16 = .ok (.ldc2_w 26, 3) := by decide +kernel
theorem d_M_bits_19 : decode prog_14_method_30_code 19 = .ok (.lreturn, 1) := by decide +kernel
def cf_M_bits (a0 : Int32) (w : Wd) (P : Int64 → Prop) : Prop :=
  cf_M_isPlace a0 (fun r1 => ((r1 = 0 → P (-1 : Int64)) ∧ (¬ r1 = 0 → vp_in a0 14 ∧ P (w.2 31 a0.toNatClampNeg))))
theorem cf_M_bits_ok {g : ayG} {d : Nat} (hd : 2 ≤ d) (a0 : Int32)  (w : Wd) (P : Int64 → Prop) (h : cf_M_bits a0 w P) : Call g y_M_bits prog_14_method_30_code 2 (some FieldType.long) d [.ref (g.1 + 30), .int a0] w (fun (r : Option Value) (w2 : Wd) => ∃ x, r = some (.long x) ∧ w = w2 ∧ P x) := by
  unfold cf_M_bits at h
  refine am_enter mi_M_bits (Nat.le_of_ble_eq_true rfl) ?_
  have hQ : ∀ x, P x → (fun (r : Option Value) (w2 : Wd) => ∃ x, r = some (.long x) ∧ w = w2 ∧ P x) (some (.long x)) w := fun x h => ⟨x, rfl, rfl, h⟩
  generalize (fun (r : Option Value) (w2 : Wd) => ∃ x, r = some (.long x) ∧ w = w2 ∧ P x) = Q at hQ ⊢
  show wp g (fun _ => True) y_M_bits prog_14_method_30_code 2 (some FieldType.long) d 0 [(0, .ref (g.1 + 30)), (1, .int a0)] [] w Q
  refine am_iload_n d_M_bits_0 1 rfl ?_
  refine am_callS (d2 := d - 1) [.int a0] d_M_bits_1 mi_M_isPlace wd_1188 wd_1189 (by omega) rfl rfl (Nat.le_of_ble_eq_true rfl) ?_
  refine Call.post ?_ (cf_M_isPlace_ok (by omega) a0  w _ h)
  rintro _ _ ⟨r1, rfl, rfl, h⟩
  show wp g (fun _ => True) y_M_bits prog_14_method_30_code 2 (some FieldType.long) d 4 [(0, .ref (g.1 + 30)), (1, .int a0)] [.int r1] w Q
  refine am_if_eq (tgt := 16) d_M_bits_4 (by decide) (fun c4 => ?_) (fun c4 => ?_)
  · have h := h.1 c4
    refine am_ldc2 (v := -1) d_M_bits_16 wd_1076 ?_
    exact am_lreturn d_M_bits_19 rfl (hQ (-1 : Int64) h)
  · have h := h.2 c4
    refine am_aload_n d_M_bits_7 0 rfl ?_
    refine am_getf (T := F_M) (fs := ob_M g w 30) (C := R_M) (N := 35) (ci := 10) 0 d_M_bits_8 wd_1077 rfl (by decide) (el_M (show ay_sh 30 = _ from rfl)) rfl i_M (by decide) rfl ?_
    refine am_iload_n d_M_bits_11 1 rfl ?_
    have hi12 := h.1
    have h := h.2
    refine am_laload d_M_bits_12 (show ay_sh 31 = _ from rfl) hi12 ?_
    refine am_goto (tgt := 19) d_M_bits_13 (by decide) ?_
    exact am_lreturn d_M_bits_19 rfl (hQ (w.2 31 a0.toNatClampNeg) h)
theorem d_M_poly_0 : decode prog_14_method_31_code 0 = .ok (.iload_n 1, 1) := by decide +kernel
theorem d_M_poly_1 : decode prog_14_method_31_code 1 = .ok (.invokestatic 150, 3) := by decide +kernel
theorem d_M_poly_4 : decode prog_14_method_31_code 4 = .ok (.ifCond .ne 6, 3) := by decide +kernel
theorem d_M_poly_7 : decode prog_14_method_31_code 7 = .ok (.bipush (-5), 2) := by decide +kernel
theorem d_M_poly_9 : decode prog_14_method_31_code 9 = .ok (.ireturn, 1) := by decide +kernel
theorem d_M_poly_10 : decode prog_14_method_31_code 10 = .ok (.aload_n 0, 1) := by decide +kernel
theorem d_M_poly_11 : decode prog_14_method_31_code 11 = .ok (.getfield 7, 3) := by decide +kernel
theorem d_M_poly_14 : decode prog_14_method_31_code 14 = .ok (.iload_n 1, 1) := by decide +kernel
theorem d_M_poly_15 : decode prog_14_method_31_code 15 = .ok (.laload, 1) := by decide +kernel
theorem d_M_poly_16 : decode prog_14_method_31_code 16 = .ok (.lstore_n 3, 1) := by decide +kernel
theorem d_M_poly_17 : decode prog_14_method_31_code 17 = .ok (.iload_n 2, 1) := by decide +kernel
theorem d_M_poly_18 : decode prog_14_method_31_code 18 = .ok (.i2l, 1) := by decide +kernel
theorem d_M_poly_19 : decode prog_14_method_31_code 19 = .ok (.ldc2_w 102, 3) := by decide +kernel
theorem d_M_poly_22 : decode prog_14_method_31_code 22 = .ok (.ldc2_w 154, 3) := by decide +kernel
theorem d_M_poly_25 : decode prog_14_method_31_code 25 = .ok (.invokestatic 76, 3) := by decide +kernel
theorem d_M_poly_28 : decode prog_14_method_31_code 28 = .ok (.ifCond .eq 8, 3) := by decide +kernel
theorem d_M_poly_31 : decode prog_14_method_31_code 31 = .ok (.aload_n 0, 1) := by decide +kernel
theorem d_M_poly_32 : decode prog_14_method_31_code 32 = .ok (.lload_n 3, 1) := by decide +kernel
theorem d_M_poly_33 : decode prog_14_method_31_code 33 = .ok (.invokevirtual 112, 3) := by decide +kernel
theorem d_M_poly_36 : decode prog_14_method_31_code 36 = .ok (.iload_n 2, 1) := by decide +kernel
theorem d_M_poly_37 : decode prog_14_method_31_code 37 = .ok (.tableswitch 153 0 8 #[51, 56, 61, 68, 89, 103, 117, 122, 127], 51) := by decide +kernel
theorem d_M_poly_88 : decode prog_14_method_31_code 88 = .ok (.lload_n 3, 1) := by decide +kernel
theorem d_M_poly_89 : decode prog_14_method_31_code 89 = .ok (.invokestatic 84, 3) := by decide +kernel
theorem d_M_poly_92 : decode prog_14_method_31_code 92 = .ok (.ireturn, 1) := by decide +kernel
theorem d_M_poly_93 : decode prog_14_method_31_code 93 = .ok (.lload_n 3, 1) := by decide +kernel
theorem d_M_poly_94 : decode prog_14_method_31_code 94 = .ok (.invokestatic 156, 3) := by decide +kernel
theorem d_M_poly_97 : decode prog_14_method_31_code 97 = .ok (.ireturn, 1) := by decide +kernel
theorem d_M_poly_98 : decode prog_14_method_31_code 98 = .ok (.lload_n 3, 1) := by decide +kernel
theorem d_M_poly_99 : decode prog_14_method_31_code 99 = .ok (.invokestatic 156, 3) := by decide +kernel
theorem d_M_poly_102 : decode prog_14_method_31_code 102 = .ok (.iconst 2, 1) := by decide +kernel
theorem d_M_poly_103 : decode prog_14_method_31_code 103 = .ok (.irem, 1) := by decide +kernel
theorem d_M_poly_104 : decode prog_14_method_31_code 104 = .ok (.ireturn, 1) := by decide +kernel
theorem d_M_poly_105 : decode prog_14_method_31_code 105 = .ok (.aload_n 0, 1) := by decide +kernel
theorem d_M_poly_106 : decode prog_14_method_31_code 106 = .ok (.getfield 104, 3) := by decide +kernel
theorem d_M_poly_109 : decode prog_14_method_31_code 109 = .ok (.ifCond .le 15, 3) := by decide +kernel
theorem d_M_poly_112 : decode prog_14_method_31_code 112 = .ok (.aload_n 0, 1) := by decide +kernel
theorem d_M_poly_113 : decode prog_14_method_31_code 113 = .ok (.invokevirtual 126, 3) := by decide +kernel
theorem d_M_poly_116 : decode prog_14_method_31_code 116 = .ok (.iconst 1, 1) := by decide +kernel
theorem d_M_poly_117 : decode prog_14_method_31_code 117 = .ok (.if_icmp .ne 7, 3) := by decide +kernel
theorem d_M_poly_120 : decode prog_14_method_31_code 120 = .ok (.iconst 1, 1) := by decide +kernel
theorem d_M_poly_121 : decode prog_14_method_31_code 121 = .ok (.goto 4, 3) := by decide +kernel
theorem d_M_poly_124 : decode prog_14_method_31_code 124 = .ok (.iconst 0, 1) := by decide +kernel
theorem d_M_poly_125 : decode prog_14_method_31_code 125 = .ok (.ireturn, 1) := by decide +kernel
theorem d_M_poly_126 : decode prog_14_method_31_code 126 = .ok (.aload_n 0, 1) := by decide +kernel
theorem d_M_poly_127 : decode prog_14_method_31_code 127 = .ok (.getfield 104, 3) := by decide +kernel
theorem d_M_poly_130 : decode prog_14_method_31_code 130 = .ok (.iconst 1, 1) := by decide +kernel
theorem d_M_poly_131 : decode prog_14_method_31_code 131 = .ok (.if_icmp .ne 7, 3) := by decide +kernel
theorem d_M_poly_134 : decode prog_14_method_31_code 134 = .ok (.iconst 1, 1) := by decide +kernel
theorem d_M_poly_135 : decode prog_14_method_31_code 135 = .ok (.goto 4, 3) := by decide +kernel
theorem d_M_poly_138 : decode prog_14_method_31_code 138 = .ok (.iconst 0, 1) := by decide +kernel
theorem d_M_poly_139 : decode prog_14_method_31_code 139 = .ok (.ireturn, 1) := by decide +kernel
theorem d_M_poly_140 : decode prog_14_method_31_code 140 = .ok (.aload_n 0, 1) := by decide +kernel
theorem d_M_poly_141 : decode prog_14_method_31_code 141 = .ok (.lload_n 3, 1) := by decide +kernel
theorem d_M_poly_142 : decode prog_14_method_31_code 142 = .ok (.invokevirtual 147, 3) := by decide +kernel
theorem d_M_poly_145 : decode prog_14_method_31_code 145 = .ok (.ifCond .eq 7, 3) := by decide +kernel
theorem d_M_poly_148 : decode prog_14_method_31_code 148 = .ok (.iconst 1, 1) := by decide +kernel
theorem d_M_poly_149 : decode prog_14_method_31_code 149 = .ok (.goto 4, 3) := by decide +kernel
theorem d_M_poly_152 : decode prog_14_method_31_code 152 = .ok (.iconst 0, 1) := by decide +kernel
theorem d_M_poly_153 : decode prog_14_method_31_code 153 = .ok (.ireturn, 1) := by decide +kernel
theorem d_M_poly_154 : decode prog_14_method_31_code 154 = .ok (.aload_n 0, 1) := by decide +kernel
theorem d_M_poly_155 : decode prog_14_method_31_code 155 = .ok (.getfield 104, 3) := by decide +kernel
theorem d_M_poly_158 : decode prog_14_method_31_code 158 = .ok (.ireturn, 1) := by decide +kernel
theorem d_M_poly_159 : decode prog_14_method_31_code 159 = .ok (.aload_n 0, 1) := by decide +kernel
theorem d_M_poly_160 : decode prog_14_method_31_code 160 = .ok (.invokevirtual 159, 3) := by decide +kernel
theorem d_M_poly_163 : decode prog_14_method_31_code 163 = .ok (.ireturn, 1) := by decide +kernel
theorem d_M_poly_164 : decode prog_14_method_31_code 164 = .ok (.aload_n 0, 1) := by decide +kernel
theorem d_M_poly_165 : decode prog_14_method_31_code 165 = .ok (.getfield 104, 3) := by decide +kernel
theorem d_M_poly_168 : decode prog_14_method_31_code 168 = .ok (.ifCond .ne 7, 3) := by decide +kernel
theorem d_M_poly_171 : decode prog_14_method_31_code 171 = .ok (.iconst 0, 1) := by decide +kernel
theorem d_M_poly_172 : decode prog_14_method_31_code 172 = .ok (.goto 17, 3) := by decide +kernel
theorem d_M_poly_175 : decode prog_14_method_31_code 175 = .ok (.aload_n 0, 1) := by decide +kernel
theorem d_M_poly_176 : decode prog_14_method_31_code 176 = .ok (.getfield 23, 3) := by decide +kernel
theorem d_M_poly_179 : decode prog_14_method_31_code 179 = .ok (.aload_n 0, 1) := by decide +kernel
theorem d_M_poly_180 : decode prog_14_method_31_code 180 = .ok (.getfield 104, 3) := by decide +kernel
theorem d_M_poly_183 : decode prog_14_method_31_code 183 = .ok (.iconst 1, 1) := by decide +kernel
theorem d_M_poly_184 : decode prog_14_method_31_code 184 = .ok (.isub, 1) := by decide +kernel
theorem d_M_poly_185 : decode prog_14_method_31_code 185 = .ok (.laload, 1) := by decide +kernel
theorem d_M_poly_186 : decode prog_14_method_31_code 186 = .ok (.invokestatic 84, 3) := by decide +kernel
theorem d_M_poly_189 : decode prog_14_method_31_code 189 = .ok (.ireturn, 1) := by decide +kernel
theorem d_M_poly_190 : decode prog_14_method_31_code 190 = .ok (.bipush (-5), 2) := by decide +kernel
theorem d_M_poly_192 : decode prog_14_method_31_code 192 = .ok (.ireturn, 1) := by decide +kernel
def cf_M_poly_B36   (P : Int32 → Wd → Prop) (x2 : Int32) (x3 : Int64) (w : Wd) : Prop :=
  ((x2 = 0 → cf_M_degree x3 (fun r4 => P r4 w)) ∧ (x2 = 1 → cf_M_weight x3 (fun r5 => P r5 w)) ∧ (x2 = 2 → cf_M_weight x3 (fun r6 => P (irem r6 (2 : Int32)) w)) ∧ (x2 = 3 → (((w.1 30 6) ≤ 0 → P (0 : Int32) w) ∧ (¬ (w.1 30 6) ≤ 0 → cf_M_oftenest  w (fun r7 => ((¬ r7 = (1 : Int32) → P (0 : Int32) w) ∧ (r7 = (1 : Int32) → P (1 : Int32) w)))))) ∧ (x2 = 4 → ((¬ (w.1 30 6) = (1 : Int32) → P (0 : Int32) w) ∧ ((w.1 30 6) = (1 : Int32) → P (1 : Int32) w))) ∧ (x2 = 5 → cf_M_isPrimitive x3 w (fun r8 w9 => ((r8 = 0 → P (0 : Int32) w9) ∧ (¬ r8 = 0 → P (1 : Int32) w9)))) ∧ (x2 = 6 → P (w.1 30 6) w) ∧ (x2 = 7 → cf_M_unlikeFactors  w (fun r10 => P r10 w)) ∧ (x2 = 8 → ((¬ (w.1 30 6) = 0 → vp_in ((w.1 30 6) - (1 : Int32)) 32 ∧ cf_M_degree (w.2 35 ((w.1 30 6) - (1 : Int32)).toNatClampNeg) (fun r11 => P r11 w)) ∧ ((w.1 30 6) = 0 → P (0 : Int32) w))) ∧ ((x2.toInt < 0 ∨ 8 < x2.toInt) → P (-5 : Int32) w))
def cf_M_poly (a0 : Int32) (a1 : Int32) (w : Wd) (P : Int32 → Wd → Prop) : Prop :=
  cf_M_isPlace a0 (fun r1 => ((¬ r1 = 0 → vp_in a0 14 ∧ ∀ v2, v2 = w.2 31 a0.toNatClampNeg → cf_M_in a1.toInt64 (3 : Int64) (8 : Int64) (fun r3 => ((r3 = 0 → cf_M_poly_B36 P a1 v2 w) ∧ (¬ r3 = 0 → cf_M_laysFactors v2 w (fun w12 => cf_M_poly_B36 P a1 v2 w12))))) ∧ (r1 = 0 → P (-5 : Int32) w)))
theorem cf_M_poly_B36_ok {g : ayG} {d : Nat} (hd : 103 ≤ d)   (w : Wd)  (P : Int32 → Wd → Prop) (Q : Option Value → Wd → Prop) (hQ : ∀ x w2, P x w2 → Q (some (.int x)) w2)  (x2 : Int32) (x3 : Int64) (h : cf_M_poly_B36 P x2 x3 w) : wp g (fun _ => True) y_M_poly prog_14_method_31_code 5 (some FieldType.int) d 36 [(0, .ref (g.1 + 30)), (2, .int x2), (3, .long x3)] [] w Q := by
  unfold cf_M_poly_B36 at h
  refine am_iload_n d_M_poly_36 1 rfl ?_
  refine am_switch d_M_poly_37 (by decide) (fun tgt ht hx => ?_) ⟨190, by decide⟩ (fun i off ho hx => ?_)
  · have h := h.2.2.2.2.2.2.2.2.2 hx
    obtain rfl : tgt = 190 := by omega
    refine am_bipush (v := -5) d_M_poly_190 rfl ?_
    exact am_ireturn d_M_poly_192 rfl rfl (hQ (-5 : Int32) w h)
  · have hi : i < 9 := (Array.getElem?_eq_some_iff.mp ho).1
    match i, hi, ho, hx with
    | 0, _, ho, hx =>
      refine ⟨88, ?_, ?_⟩
      · have e := Option.some.inj ho; rw [← e]; decide
      · have h := h.1 (Int32.toInt_inj.mp (by rw [hx]; decide))
        refine am_lload_n d_M_poly_88 2 rfl ?_
        refine am_callS (d2 := d - 1) [.long x3] d_M_poly_89 mi_M_degree wd_1206 wd_1207 (by omega) rfl rfl (Nat.le_of_ble_eq_true rfl) ?_
        refine Call.post ?_ (cf_M_degree_ok (by omega) x3  w _ h)
        rintro _ _ ⟨r4, rfl, rfl, h⟩
        show wp g (fun _ => True) y_M_poly prog_14_method_31_code 5 (some FieldType.int) d 92 [(0, .ref (g.1 + 30)), (2, .int x2), (3, .long x3)] [.int r4] w Q
        exact am_ireturn d_M_poly_92 rfl rfl (hQ r4 w h)
    | 1, _, ho, hx =>
      refine ⟨93, ?_, ?_⟩
      · have e := Option.some.inj ho; rw [← e]; decide
      · have h := h.2.1 (Int32.toInt_inj.mp (by rw [hx]; decide))
        refine am_lload_n d_M_poly_93 2 rfl ?_
        refine am_callS (d2 := d - 1) [.long x3] d_M_poly_94 mi_M_weight wd_1218 wd_1219 (by omega) rfl rfl (Nat.le_of_ble_eq_true rfl) ?_
        refine Call.post ?_ (cf_M_weight_ok (by omega) x3  w _ h)
        rintro _ _ ⟨r5, rfl, rfl, h⟩
        show wp g (fun _ => True) y_M_poly prog_14_method_31_code 5 (some FieldType.int) d 97 [(0, .ref (g.1 + 30)), (2, .int x2), (3, .long x3)] [.int r5] w Q
        exact am_ireturn d_M_poly_97 rfl rfl (hQ r5 w h)
    | 2, _, ho, hx =>
      refine ⟨98, ?_, ?_⟩
      · have e := Option.some.inj ho; rw [← e]; decide
      · have h := h.2.2.1 (Int32.toInt_inj.mp (by rw [hx]; decide))
        refine am_lload_n d_M_poly_98 2 rfl ?_
        refine am_callS (d2 := d - 1) [.long x3] d_M_poly_99 mi_M_weight wd_1218 wd_1219 (by omega) rfl rfl (Nat.le_of_ble_eq_true rfl) ?_
        refine Call.post ?_ (cf_M_weight_ok (by omega) x3  w _ h)
        rintro _ _ ⟨r6, rfl, rfl, h⟩
        show wp g (fun _ => True) y_M_poly prog_14_method_31_code 5 (some FieldType.int) d 102 [(0, .ref (g.1 + 30)), (2, .int x2), (3, .long x3)] [.int r6] w Q
        refine am_iconst (v := 2) d_M_poly_102 rfl ?_
        refine am_irem d_M_poly_103 (by decide) ?_
        exact am_ireturn d_M_poly_104 rfl rfl (hQ (irem r6 (2 : Int32)) w h)
    | 3, _, ho, hx =>
      refine ⟨105, ?_, ?_⟩
      · have e := Option.some.inj ho; rw [← e]; decide
      · have h := h.2.2.2.1 (Int32.toInt_inj.mp (by rw [hx]; decide))
        refine am_aload_n d_M_poly_105 0 rfl ?_
        refine am_getf (T := F_M) (fs := ob_M g w 30) (C := R_M) (N := 35) (ci := 10) 6 d_M_poly_106 wd_1083 rfl (by decide) (el_M (show ay_sh 30 = _ from rfl)) rfl i_M (by decide) rfl ?_
        refine am_if_le (tgt := 124) d_M_poly_109 (by decide) (fun c109 => ?_) (fun c109 => ?_)
        · have h := h.1 c109
          refine am_iconst (v := 0) d_M_poly_124 rfl ?_
          exact am_ireturn d_M_poly_125 rfl rfl (hQ (0 : Int32) w h)
        · have h := h.2 c109
          refine am_aload_n d_M_poly_112 0 rfl ?_
          refine am_callV (C := y_M_oftenest.cls) (d2 := d - 1) [] d_M_poly_113 mi_M_oftenest wd_1221 wd_1223 ws_M_oftenest (by decide) (el_M (show ay_sh 30 = _ from rfl)) rfl rfl (by omega) rfl rfl (Nat.le_of_ble_eq_true rfl) ?_
          refine Call.post ?_ (cf_M_oftenest_ok (by omega)   w _ h)
          rintro _ _ ⟨r7, rfl, rfl, h⟩
          show wp g (fun _ => True) y_M_poly prog_14_method_31_code 5 (some FieldType.int) d 116 [(0, .ref (g.1 + 30)), (2, .int x2), (3, .long x3)] [.int r7] w Q
          refine am_iconst (v := 1) d_M_poly_116 rfl ?_
          refine am_icmp_ne (tgt := 124) d_M_poly_117 (by decide) (fun c117 => ?_) (fun c117 => ?_)
          · have h := h.1 c117
            refine am_iconst (v := 0) d_M_poly_124 rfl ?_
            exact am_ireturn d_M_poly_125 rfl rfl (hQ (0 : Int32) w h)
          · have h := h.2 c117
            refine am_iconst (v := 1) d_M_poly_120 rfl ?_
            refine am_goto (tgt := 125) d_M_poly_121 (by decide) ?_
            exact am_ireturn d_M_poly_125 rfl rfl (hQ (1 : Int32) w h)
    | 4, _, ho, hx =>
      refine ⟨126, ?_, ?_⟩
      · have e := Option.some.inj ho; rw [← e]; decide
      · have h := h.2.2.2.2.1 (Int32.toInt_inj.mp (by rw [hx]; decide))
        refine am_aload_n d_M_poly_126 0 rfl ?_
        refine am_getf (T := F_M) (fs := ob_M g w 30) (C := R_M) (N := 35) (ci := 10) 6 d_M_poly_127 wd_1083 rfl (by decide) (el_M (show ay_sh 30 = _ from rfl)) rfl i_M (by decide) rfl ?_
        refine am_iconst (v := 1) d_M_poly_130 rfl ?_
        refine am_icmp_ne (tgt := 138) d_M_poly_131 (by decide) (fun c131 => ?_) (fun c131 => ?_)
        · have h := h.1 c131
          refine am_iconst (v := 0) d_M_poly_138 rfl ?_
          exact am_ireturn d_M_poly_139 rfl rfl (hQ (0 : Int32) w h)
        · have h := h.2 c131
          refine am_iconst (v := 1) d_M_poly_134 rfl ?_
          refine am_goto (tgt := 139) d_M_poly_135 (by decide) ?_
          exact am_ireturn d_M_poly_139 rfl rfl (hQ (1 : Int32) w h)
    | 5, _, ho, hx =>
      refine ⟨140, ?_, ?_⟩
      · have e := Option.some.inj ho; rw [← e]; decide
      · have h := h.2.2.2.2.2.1 (Int32.toInt_inj.mp (by rw [hx]; decide))
        refine am_aload_n d_M_poly_140 0 rfl ?_
        refine am_lload_n d_M_poly_141 2 rfl ?_
        refine am_callV (C := y_M_isPrimitive.cls) (d2 := d - 1) [.long x3] d_M_poly_142 mi_M_isPrimitive wd_1225 wd_1227 ws_M_isPrimitive (by decide) (el_M (show ay_sh 30 = _ from rfl)) rfl rfl (by omega) rfl rfl (Nat.le_of_ble_eq_true rfl) ?_
        refine Call.post ?_ (cf_M_isPrimitive_ok (by omega) x3  w _ h)
        rintro _ w9 ⟨r8, rfl, h⟩
        show wp g (fun _ => True) y_M_poly prog_14_method_31_code 5 (some FieldType.int) d 145 [(0, .ref (g.1 + 30)), (2, .int x2), (3, .long x3)] [.int r8] w9 Q
        refine am_if_eq (tgt := 152) d_M_poly_145 (by decide) (fun c145 => ?_) (fun c145 => ?_)
        · have h := h.1 c145
          refine am_iconst (v := 0) d_M_poly_152 rfl ?_
          exact am_ireturn d_M_poly_153 rfl rfl (hQ (0 : Int32) w9 h)
        · have h := h.2 c145
          refine am_iconst (v := 1) d_M_poly_148 rfl ?_
          refine am_goto (tgt := 153) d_M_poly_149 (by decide) ?_
          exact am_ireturn d_M_poly_153 rfl rfl (hQ (1 : Int32) w9 h)
    | 6, _, ho, hx =>
      refine ⟨154, ?_, ?_⟩
      · have e := Option.some.inj ho; rw [← e]; decide
      · have h := h.2.2.2.2.2.2.1 (Int32.toInt_inj.mp (by rw [hx]; decide))
        refine am_aload_n d_M_poly_154 0 rfl ?_
        refine am_getf (T := F_M) (fs := ob_M g w 30) (C := R_M) (N := 35) (ci := 10) 6 d_M_poly_155 wd_1083 rfl (by decide) (el_M (show ay_sh 30 = _ from rfl)) rfl i_M (by decide) rfl ?_
        exact am_ireturn d_M_poly_158 rfl rfl (hQ (w.1 30 6) w h)
    | 7, _, ho, hx =>
      refine ⟨159, ?_, ?_⟩
      · have e := Option.some.inj ho; rw [← e]; decide
      · have h := h.2.2.2.2.2.2.2.1 (Int32.toInt_inj.mp (by rw [hx]; decide))
        refine am_aload_n d_M_poly_159 0 rfl ?_
        refine am_callV (C := y_M_unlikeFactors.cls) (d2 := d - 1) [] d_M_poly_160 mi_M_unlikeFactors wd_1259 wd_1261 ws_M_unlikeFactors (by decide) (el_M (show ay_sh 30 = _ from rfl)) rfl rfl (by omega) rfl rfl (Nat.le_of_ble_eq_true rfl) ?_
        refine Call.post ?_ (cf_M_unlikeFactors_ok (by omega)   w _ h)
        rintro _ _ ⟨r10, rfl, rfl, h⟩
        show wp g (fun _ => True) y_M_poly prog_14_method_31_code 5 (some FieldType.int) d 163 [(0, .ref (g.1 + 30)), (2, .int x2), (3, .long x3)] [.int r10] w Q
        exact am_ireturn d_M_poly_163 rfl rfl (hQ r10 w h)
    | 8, _, ho, hx =>
      refine ⟨164, ?_, ?_⟩
      · have e := Option.some.inj ho; rw [← e]; decide
      · have h := h.2.2.2.2.2.2.2.2.1 (Int32.toInt_inj.mp (by rw [hx]; decide))
        refine am_aload_n d_M_poly_164 0 rfl ?_
        refine am_getf (T := F_M) (fs := ob_M g w 30) (C := R_M) (N := 35) (ci := 10) 6 d_M_poly_165 wd_1083 rfl (by decide) (el_M (show ay_sh 30 = _ from rfl)) rfl i_M (by decide) rfl ?_
        refine am_if_ne (tgt := 175) d_M_poly_168 (by decide) (fun c168 => ?_) (fun c168 => ?_)
        · have h := h.1 c168
          refine am_aload_n d_M_poly_175 0 rfl ?_
          refine am_getf (T := F_M) (fs := ob_M g w 30) (C := R_M) (N := 35) (ci := 10) 5 d_M_poly_176 wd_1082 rfl (by decide) (el_M (show ay_sh 30 = _ from rfl)) rfl i_M (by decide) rfl ?_
          refine am_aload_n d_M_poly_179 0 rfl ?_
          refine am_getf (T := F_M) (fs := ob_M g w 30) (C := R_M) (N := 35) (ci := 10) 6 d_M_poly_180 wd_1083 rfl (by decide) (el_M (show ay_sh 30 = _ from rfl)) rfl i_M (by decide) rfl ?_
          refine am_iconst (v := 1) d_M_poly_183 rfl ?_
          refine am_isub d_M_poly_184 ?_
          have hi185 := h.1
          have h := h.2
          refine am_laload d_M_poly_185 (show ay_sh 35 = _ from rfl) hi185 ?_
          refine am_callS (d2 := d - 1) [.long (w.2 35 ((w.1 30 6) - (1 : Int32)).toNatClampNeg)] d_M_poly_186 mi_M_degree wd_1206 wd_1207 (by omega) rfl rfl (Nat.le_of_ble_eq_true rfl) ?_
          refine Call.post ?_ (cf_M_degree_ok (by omega) (w.2 35 ((w.1 30 6) - (1 : Int32)).toNatClampNeg)  w _ h)
          rintro _ _ ⟨r11, rfl, rfl, h⟩
          show wp g (fun _ => True) y_M_poly prog_14_method_31_code 5 (some FieldType.int) d 189 [(0, .ref (g.1 + 30)), (2, .int x2), (3, .long x3)] [.int r11] w Q
          exact am_ireturn d_M_poly_189 rfl rfl (hQ r11 w h)
        · have h := h.2 c168
          refine am_iconst (v := 0) d_M_poly_171 rfl ?_
          refine am_goto (tgt := 189) d_M_poly_172 (by decide) ?_
          exact am_ireturn d_M_poly_189 rfl rfl (hQ (0 : Int32) w h)
    | n + 9, hi, _, _ => exact absurd hi (by omega)
theorem cf_M_poly_ok {g : ayG} {d : Nat} (hd : 103 ≤ d) (a0 : Int32) (a1 : Int32)  (w : Wd) (P : Int32 → Wd → Prop) (h : cf_M_poly a0 a1 w P) : Call g y_M_poly prog_14_method_31_code 5 (some FieldType.int) d [.ref (g.1 + 30), .int a0, .int a1] w (fun (r : Option Value) (w2 : Wd) => ∃ x, r = some (.int x) ∧ P x w2) := by
  unfold cf_M_poly at h
  refine am_enter mi_M_poly (Nat.le_of_ble_eq_true rfl) ?_
  have hQ : ∀ x w2, P x w2 → (fun (r : Option Value) (w2 : Wd) => ∃ x, r = some (.int x) ∧ P x w2) (some (.int x)) w2 := fun x w2 h => ⟨x, rfl, h⟩
  generalize (fun (r : Option Value) (w2 : Wd) => ∃ x, r = some (.int x) ∧ P x w2) = Q at hQ ⊢
  show wp g (fun _ => True) y_M_poly prog_14_method_31_code 5 (some FieldType.int) d 0 [(0, .ref (g.1 + 30)), (1, .int a0), (2, .int a1)] [] w Q
  refine am_iload_n d_M_poly_0 1 rfl ?_
  refine am_callS (d2 := d - 1) [.int a0] d_M_poly_1 mi_M_isPlace wd_1188 wd_1189 (by omega) rfl rfl (Nat.le_of_ble_eq_true rfl) ?_
  refine Call.post ?_ (cf_M_isPlace_ok (by omega) a0  w _ h)
  rintro _ _ ⟨r1, rfl, rfl, h⟩
  show wp g (fun _ => True) y_M_poly prog_14_method_31_code 5 (some FieldType.int) d 4 [(0, .ref (g.1 + 30)), (1, .int a0), (2, .int a1)] [.int r1] w Q
  refine am_if_ne (tgt := 10) d_M_poly_4 (by decide) (fun c4 => ?_) (fun c4 => ?_)
  · have h := h.1 c4
    refine am_aload_n d_M_poly_10 0 rfl ?_
    refine am_getf (T := F_M) (fs := ob_M g w 30) (C := R_M) (N := 35) (ci := 10) 0 d_M_poly_11 wd_1077 rfl (by decide) (el_M (show ay_sh 30 = _ from rfl)) rfl i_M (by decide) rfl ?_
    refine am_iload_n d_M_poly_14 1 rfl ?_
    have hi15 := h.1
    have h := h.2
    refine am_laload d_M_poly_15 (show ay_sh 31 = _ from rfl) hi15 ?_
    refine am_topl (fun v2 ev2 => ?_)
    have h := h v2 ev2
    refine am_lstore_n (l' := [(3, .long v2), (0, .ref (g.1 + 30)), (1, .int a0), (2, .int a1)]) d_M_poly_16 (by decide) rfl ?_
    refine am_iload_n d_M_poly_17 3 rfl ?_
    refine am_i2l d_M_poly_18 ?_
    refine am_ldc2 (v := 3) d_M_poly_19 wd_1199 ?_
    refine am_ldc2 (v := 8) d_M_poly_22 wd_1200 ?_
    refine am_callS (d2 := d - 1) [.long a1.toInt64, .long (3 : Int64), .long (8 : Int64)] d_M_poly_25 mi_M_in wd_1192 wd_1193 (by omega) rfl rfl (Nat.le_of_ble_eq_true rfl) ?_
    refine Call.post ?_ (cf_M_in_ok (by omega) a1.toInt64 (3 : Int64) (8 : Int64)  w _ h)
    rintro _ _ ⟨r3, rfl, rfl, h⟩
    show wp g (fun _ => True) y_M_poly prog_14_method_31_code 5 (some FieldType.int) d 28 [(3, .long v2), (0, .ref (g.1 + 30)), (1, .int a0), (2, .int a1)] [.int r3] w Q
    refine am_if_eq (tgt := 36) d_M_poly_28 (by decide) (fun c28 => ?_) (fun c28 => ?_)
    · have h := h.1 c28
      refine am_sub [1, 3, 0] rfl ?_
      exact cf_M_poly_B36_ok (by omega)   w  P Q hQ  a1 v2 h
    · have h := h.2 c28
      refine am_aload_n d_M_poly_31 1 rfl ?_
      refine am_lload_n d_M_poly_32 0 rfl ?_
      refine am_callV (C := y_M_laysFactors.cls) (d2 := d - 1) [.long v2] d_M_poly_33 mi_M_laysFactors wd_1201 wd_1203 ws_M_laysFactors (by decide) (el_M (show ay_sh 30 = _ from rfl)) rfl rfl (by omega) rfl rfl (Nat.le_of_ble_eq_true rfl) ?_
      refine Call.post ?_ (cf_M_laysFactors_ok (by omega) v2  w _ h)
      rintro _ w12 ⟨rfl, h⟩
      show wp g (fun _ => True) y_M_poly prog_14_method_31_code 5 (some FieldType.int) d 36 [(3, .long v2), (0, .ref (g.1 + 30)), (1, .int a0), (2, .int a1)] [] w12 Q
      refine am_sub [1, 3, 0] rfl ?_
      exact cf_M_poly_B36_ok (by omega)   w12  P Q hQ  a1 v2 h
  · have h := h.2 c4
    refine am_bipush (v := -5) d_M_poly_7 rfl ?_
    exact am_ireturn d_M_poly_9 rfl rfl (hQ (-5 : Int32) w h)
theorem d_M_factor_0 : decode prog_14_method_32_code 0 = .ok (.iload_n 1, 1) := by decide +kernel
theorem d_M_factor_1 : decode prog_14_method_32_code 1 = .ok (.invokestatic 150, 3) := by decide +kernel
theorem d_M_factor_4 : decode prog_14_method_32_code 4 = .ok (.ifCond .eq 7, 3) := by decide +kernel
theorem d_M_factor_7 : decode prog_14_method_32_code 7 = .ok (.iload_n 2, 1) := by decide +kernel
theorem d_M_factor_8 : decode prog_14_method_32_code 8 = .ok (.ifCond .ge 7, 3) := by decide +kernel
theorem d_M_factor_11 : decode prog_14_method_32_code 11 = .ok (.ldc2_w 26, 3) := by decide +kernel
theorem d_M_factor_14 : decode prog_14_method_32_code 14 = .ok (.lreturn, 1) := by decide +kernel
theorem d_M_factor_15 : decode prog_14_method_32_code 15 = .ok (.aload_n 0, 1) := by decide +kernel
theorem d_M_factor_16 : decode prog_14_method_32_code 16 = .ok (.aload_n 0, 1) := by decide +kernel
theorem d_M_factor_17 : decode prog_14_method_32_code 17 = .ok (.getfield 7, 3) := by decide +kernel
theorem d_M_factor_20 : decode prog_14_method_32_code 20 = .ok (.iload_n 1, 1) := by decide +kernel
theorem d_M_factor_21 : decode prog_14_method_32_code 21 = .ok (.laload, 1) := by decide +kernel
theorem d_M_factor_22 : decode prog_14_method_32_code 22 = .ok (.invokevirtual 112, 3) := by decide +kernel
theorem d_M_factor_25 : decode prog_14_method_32_code 25 = .ok (.iload_n 2, 1) := by decide +kernel
theorem d_M_factor_26 : decode prog_14_method_32_code 26 = .ok (.aload_n 0, 1) := by decide +kernel
theorem d_M_factor_27 : decode prog_14_method_32_code 27 = .ok (.getfield 104, 3) := by decide +kernel
theorem d_M_factor_30 : decode prog_14_method_32_code 30 = .ok (.if_icmp .ge 12, 3) := by decide +kernel
theorem d_M_factor_33 : decode prog_14_method_32_code 33 = .ok (.aload_n 0, 1) := by decide +kernel
theorem d_M_factor_34 : decode prog_14_method_32_code 34 = .ok (.getfield 23, 3) := by decide +kernel
theorem d_M_factor_37 : decode prog_14_method_32_code 37 = .ok (.iload_n 2, 1) := by decide +kernel
theorem d_M_factor_38 : decode prog_14_method_32_code 38 = .ok (.laload, 1) := by decide +kernel
theorem d_M_factor_39 : decode prog_14_method_32_code 39 = .ok (.goto 6, 3) := by decide +kernel
theorem d_M_factor_42 : decode prog_14_method_32_code 42 = .ok (.ldc2_w 162, 3) := by decide +kernel
theorem d_M_factor_45 : decode prog_14_method_32_code 45 = .ok (.lreturn, 1) := by decide +kernel
def cf_M_factor (a0 : Int32) (a1 : Int32) (w : Wd) (P : Int64 → Wd → Prop) : Prop :=
  cf_M_isPlace a0 (fun r1 => ((r1 = 0 → P (-1 : Int64) w) ∧ (¬ r1 = 0 → ((0 ≤ a1 → vp_in a0 14 ∧ cf_M_laysFactors (w.2 31 a0.toNatClampNeg) w (fun w2 => (((w2.1 30 6) ≤ a1 → P (-2 : Int64) w2) ∧ (¬ (w2.1 30 6) ≤ a1 → vp_in a1 32 ∧ P (w2.2 35 a1.toNatClampNeg) w2)))) ∧ (¬ 0 ≤ a1 → P (-1 : Int64) w)))))
theorem cf_M_factor_ok {g : ayG} {d : Nat} (hd : 3 ≤ d) (a0 : Int32) (a1 : Int32)  (w : Wd) (P : Int64 → Wd → Prop) (h : cf_M_factor a0 a1 w P) : Call g y_M_factor prog_14_method_32_code 3 (some FieldType.long) d [.ref (g.1 + 30), .int a0, .int a1] w (fun (r : Option Value) (w2 : Wd) => ∃ x, r = some (.long x) ∧ P x w2) := by
  unfold cf_M_factor at h
  refine am_enter mi_M_factor (Nat.le_of_ble_eq_true rfl) ?_
  have hQ : ∀ x w2, P x w2 → (fun (r : Option Value) (w2 : Wd) => ∃ x, r = some (.long x) ∧ P x w2) (some (.long x)) w2 := fun x w2 h => ⟨x, rfl, h⟩
  generalize (fun (r : Option Value) (w2 : Wd) => ∃ x, r = some (.long x) ∧ P x w2) = Q at hQ ⊢
  show wp g (fun _ => True) y_M_factor prog_14_method_32_code 3 (some FieldType.long) d 0 [(0, .ref (g.1 + 30)), (1, .int a0), (2, .int a1)] [] w Q
  refine am_iload_n d_M_factor_0 1 rfl ?_
  refine am_callS (d2 := d - 1) [.int a0] d_M_factor_1 mi_M_isPlace wd_1188 wd_1189 (by omega) rfl rfl (Nat.le_of_ble_eq_true rfl) ?_
  refine Call.post ?_ (cf_M_isPlace_ok (by omega) a0  w _ h)
  rintro _ _ ⟨r1, rfl, rfl, h⟩
  show wp g (fun _ => True) y_M_factor prog_14_method_32_code 3 (some FieldType.long) d 4 [(0, .ref (g.1 + 30)), (1, .int a0), (2, .int a1)] [.int r1] w Q
  refine am_if_eq (tgt := 11) d_M_factor_4 (by decide) (fun c4 => ?_) (fun c4 => ?_)
  · have h := h.1 c4
    refine am_ldc2 (v := -1) d_M_factor_11 wd_1076 ?_
    exact am_lreturn d_M_factor_14 rfl (hQ (-1 : Int64) w h)
  · have h := h.2 c4
    refine am_iload_n d_M_factor_7 2 rfl ?_
    refine am_if_ge (tgt := 15) d_M_factor_8 (by decide) (fun c8 => ?_) (fun c8 => ?_)
    · have h := h.1 c8
      refine am_aload_n d_M_factor_15 0 rfl ?_
      refine am_aload_n d_M_factor_16 0 rfl ?_
      refine am_getf (T := F_M) (fs := ob_M g w 30) (C := R_M) (N := 35) (ci := 10) 0 d_M_factor_17 wd_1077 rfl (by decide) (el_M (show ay_sh 30 = _ from rfl)) rfl i_M (by decide) rfl ?_
      refine am_iload_n d_M_factor_20 1 rfl ?_
      have hi21 := h.1
      have h := h.2
      refine am_laload d_M_factor_21 (show ay_sh 31 = _ from rfl) hi21 ?_
      refine am_callV (C := y_M_laysFactors.cls) (d2 := d - 1) [.long (w.2 31 a0.toNatClampNeg)] d_M_factor_22 mi_M_laysFactors wd_1201 wd_1203 ws_M_laysFactors (by decide) (el_M (show ay_sh 30 = _ from rfl)) rfl rfl (by omega) rfl rfl (Nat.le_of_ble_eq_true rfl) ?_
      refine Call.post ?_ (cf_M_laysFactors_ok (by omega) (w.2 31 a0.toNatClampNeg)  w _ h)
      rintro _ w2 ⟨rfl, h⟩
      show wp g (fun _ => True) y_M_factor prog_14_method_32_code 3 (some FieldType.long) d 25 [(0, .ref (g.1 + 30)), (1, .int a0), (2, .int a1)] [] w2 Q
      refine am_iload_n d_M_factor_25 2 rfl ?_
      refine am_aload_n d_M_factor_26 0 rfl ?_
      refine am_getf (T := F_M) (fs := ob_M g w2 30) (C := R_M) (N := 35) (ci := 10) 6 d_M_factor_27 wd_1083 rfl (by decide) (el_M (show ay_sh 30 = _ from rfl)) rfl i_M (by decide) rfl ?_
      refine am_icmp_ge (tgt := 42) d_M_factor_30 (by decide) (fun c30 => ?_) (fun c30 => ?_)
      · have h := h.1 c30
        refine am_ldc2 (v := -2) d_M_factor_42 wd_1267 ?_
        exact am_lreturn d_M_factor_45 rfl (hQ (-2 : Int64) w2 h)
      · have h := h.2 c30
        refine am_aload_n d_M_factor_33 0 rfl ?_
        refine am_getf (T := F_M) (fs := ob_M g w2 30) (C := R_M) (N := 35) (ci := 10) 5 d_M_factor_34 wd_1082 rfl (by decide) (el_M (show ay_sh 30 = _ from rfl)) rfl i_M (by decide) rfl ?_
        refine am_iload_n d_M_factor_37 2 rfl ?_
        have hi38 := h.1
        have h := h.2
        refine am_laload d_M_factor_38 (show ay_sh 35 = _ from rfl) hi38 ?_
        refine am_goto (tgt := 45) d_M_factor_39 (by decide) ?_
        exact am_lreturn d_M_factor_45 rfl (hQ (w2.2 35 a1.toNatClampNeg) w2 h)
    · have h := h.2 c8
      refine am_ldc2 (v := -1) d_M_factor_11 wd_1076 ?_
      exact am_lreturn d_M_factor_14 rfl (hQ (-1 : Int64) w h)
theorem d_M_ofDegree_0 : decode prog_14_method_33_code 0 = .ok (.iload_n 1, 1) := by decide +kernel
theorem d_M_ofDegree_1 : decode prog_14_method_33_code 1 = .ok (.invokestatic 150, 3) := by decide +kernel
theorem d_M_ofDegree_4 : decode prog_14_method_33_code 4 = .ok (.ifCond .eq 15, 3) := by decide +kernel
theorem d_M_ofDegree_7 : decode prog_14_method_33_code 7 = .ok (.iload_n 2, 1) := by decide +kernel
theorem d_M_ofDegree_8 : decode prog_14_method_33_code 8 = .ok (.i2l, 1) := by decide +kernel
theorem d_M_ofDegree_9 : decode prog_14_method_33_code 9 = .ok (.lconst 1, 1) := by decide +kernel
theorem d_M_ofDegree_10 : decode prog_14_method_33_code 10 = .ok (.ldc2_w 164, 3) := by decide +kernel
theorem d_M_ofDegree_13 : decode prog_14_method_33_code 13 = .ok (.invokestatic 76, 3) := by decide +kernel
theorem d_M_ofDegree_16 : decode prog_14_method_33_code 16 = .ok (.ifCond .ne 5, 3) := by decide +kernel
theorem d_M_ofDegree_19 : decode prog_14_method_33_code 19 = .ok (.iconst (-1), 1) := by decide +kernel
theorem d_M_ofDegree_20 : decode prog_14_method_33_code 20 = .ok (.ireturn, 1) := by decide +kernel
theorem d_M_ofDegree_21 : decode prog_14_method_33_code 21 = .ok (.aload_n 0, 1) := by decide +kernel
theorem d_M_ofDegree_22 : decode prog_14_method_33_code 22 = .ok (.aload_n 0, 1) := by decide +kernel
theorem d_M_ofDegree_23 : decode prog_14_method_33_code 23 = .ok (.getfield 7, 3) := by decide +kernel
theorem d_M_ofDegree_26 : decode prog_14_method_33_code 26 = .ok (.iload_n 1, 1) := by decide +kernel
theorem d_M_ofDegree_27 : decode prog_14_method_33_code 27 = .ok (.laload, 1) := by decide +kernel
theorem d_M_ofDegree_28 : decode prog_14_method_33_code 28 = .ok (.invokevirtual 112, 3) := by decide +kernel
theorem d_M_ofDegree_31 : decode prog_14_method_33_code 31 = .ok (.iconst 0, 1) := by decide +kernel
theorem d_M_ofDegree_32 : decode prog_14_method_33_code 32 = .ok (.istore_n 3, 1) := by decide +kernel
theorem d_M_ofDegree_33 : decode prog_14_method_33_code 33 = .ok (.iconst 0, 1) := by decide +kernel
theorem d_M_ofDegree_34 : decode prog_14_method_33_code 34 = .ok (.istore 4, 2) := by decide +kernel
theorem d_M_ofDegree_36 : decode prog_14_method_33_code 36 = .ok (.iload 4, 2) := by decide +kernel
theorem d_M_ofDegree_38 : decode prog_14_method_33_code 38 = .ok (.aload_n 0, 1) := by decide +kernel
theorem d_M_ofDegree_39 : decode prog_14_method_33_code 39 = .ok (.getfield 104, 3) := by decide +kernel
theorem d_M_ofDegree_42 : decode prog_14_method_33_code 42 = .ok (.if_icmp .ge 31, 3) := by decide +kernel
theorem d_M_ofDegree_45 : decode prog_14_method_33_code 45 = .ok (.iload_n 3, 1) := by decide +kernel
theorem d_M_ofDegree_46 : decode prog_14_method_33_code 46 = .ok (.aload_n 0, 1) := by decide +kernel
theorem d_M_ofDegree_47 : decode prog_14_method_33_code 47 = .ok (.getfield 23, 3) := by decide +kernel
theorem d_M_ofDegree_50 : decode prog_14_method_33_code 50 = .ok (.iload 4, 2) := by decide +kernel
theorem d_M_ofDegree_52 : decode prog_14_method_33_code 52 = .ok (.laload, 1) := by decide +kernel
theorem d_M_ofDegree_53 : decode prog_14_method_33_code 53 = .ok (.invokestatic 84, 3) := by decide +kernel
theorem d_M_ofDegree_56 : decode prog_14_method_33_code 56 = .ok (.iload_n 2, 1) := by decide +kernel
theorem d_M_ofDegree_57 : decode prog_14_method_33_code 57 = .ok (.if_icmp .ne 7, 3) := by decide +kernel
theorem d_M_ofDegree_60 : decode prog_14_method_33_code 60 = .ok (.iconst 1, 1) := by decide +kernel
theorem d_M_ofDegree_61 : decode prog_14_method_33_code 61 = .ok (.goto 4, 3) := by decide +kernel
theorem d_M_ofDegree_64 : decode prog_14_method_33_code 64 = .ok (.iconst 0, 1) := by decide +kernel
theorem d_M_ofDegree_65 : decode prog_14_method_33_code 65 = .ok (.iadd, 1) := by decide +kernel
theorem d_M_ofDegree_66 : decode prog_14_method_33_code 66 = .ok (.istore_n 3, 1) := by decide +kernel
theorem d_M_ofDegree_67 : decode prog_14_method_33_code 67 = .ok (.iinc 4 1, 3) := by decide +kernel
theorem d_M_ofDegree_70 : decode prog_14_method_33_code 70 = .ok (.goto (-34), 3) := by decide +kernel
theorem d_M_ofDegree_73 : decode prog_14_method_33_code 73 = .ok (.iload_n 3, 1) := by decide +kernel
theorem d_M_ofDegree_74 : decode prog_14_method_33_code 74 = .ok (.ireturn, 1) := by decide +kernel
def cf_M_ofDegree_B36  (K36 : Int32 → Int32 → Int32 → Wd → Prop) (P : Int32 → Wd → Prop) (x2 : Int32) (x3 : Int32) (x4 : Int32) (w : Wd) : Prop :=
  (((w.1 30 6) ≤ x4 → P x3 w) ∧ (¬ (w.1 30 6) ≤ x4 → vp_in x4 32 ∧ cf_M_degree (w.2 35 x4.toNatClampNeg) (fun r4 => ((¬ r4 = x2 → ∀ v5, v5 = x3 + (0 : Int32) → ∀ v6, v6 = x4 + (1 : Int32) → K36 x2 v5 v6 w) ∧ (r4 = x2 → ∀ v7, v7 = x3 + (1 : Int32) → ∀ v8, v8 = x4 + (1 : Int32) → K36 x2 v7 v8 w)))))
def cf_M_ofDegree_L36   (P : Int32 → Wd → Prop) : Nat → Int32 → Int32 → Int32 → Wd → Prop
  | 0 => fun x2 x3 x4 w => False
  | n + 1 => fun x2 x3 x4 w => cf_M_ofDegree_B36 (cf_M_ofDegree_L36 P n) P x2 x3 x4 w
def cf_M_ofDegree (a0 : Int32) (a1 : Int32) (w : Wd) (P : Int32 → Wd → Prop) : Prop :=
  cf_M_isPlace a0 (fun r1 => ((r1 = 0 → P (-1 : Int32) w) ∧ (¬ r1 = 0 → cf_M_in a1.toInt64 (1 : Int64) (31 : Int64) (fun r2 => ((¬ r2 = 0 → vp_in a0 14 ∧ cf_M_laysFactors (w.2 31 a0.toNatClampNeg) w (fun w3 => ∃ n, cf_M_ofDegree_L36 P n a1 (0 : Int32) (0 : Int32) w3)) ∧ (r2 = 0 → P (-1 : Int32) w))))))
theorem cf_M_ofDegree_B36_ok {g : ayG} {d : Nat} (hd : 3 ≤ d)   (w : Wd) (K36 : Int32 → Int32 → Int32 → Wd → Prop) (P : Int32 → Wd → Prop) (Q : Option Value → Wd → Prop) (hQ : ∀ x w2, P x w2 → Q (some (.int x)) w2) (hK36 : ∀ (x2 : Int32) (x3 : Int32) (x4 : Int32) (w : Wd), (K36 x2 x3 x4 w → wp g (fun _ => True) y_M_ofDegree prog_14_method_33_code 5 (some FieldType.int) d 36 [(0, .ref (g.1 + 30)), (2, .int x2), (3, .int x3), (4, .int x4)] [] w Q)) (x2 : Int32) (x3 : Int32) (x4 : Int32) (h : cf_M_ofDegree_B36 K36 P x2 x3 x4 w) : wp g (fun _ => True) y_M_ofDegree prog_14_method_33_code 5 (some FieldType.int) d 36 [(0, .ref (g.1 + 30)), (2, .int x2), (3, .int x3), (4, .int x4)] [] w Q := by
  unfold cf_M_ofDegree_B36 at h
  refine am_iload d_M_ofDegree_36 3 rfl ?_
  refine am_aload_n d_M_ofDegree_38 0 rfl ?_
  refine am_getf (T := F_M) (fs := ob_M g w 30) (C := R_M) (N := 35) (ci := 10) 6 d_M_ofDegree_39 wd_1083 rfl (by decide) (el_M (show ay_sh 30 = _ from rfl)) rfl i_M (by decide) rfl ?_
  refine am_icmp_ge (tgt := 73) d_M_ofDegree_42 (by decide) (fun c42 => ?_) (fun c42 => ?_)
  · have h := h.1 c42
    refine am_iload_n d_M_ofDegree_73 2 rfl ?_
    exact am_ireturn d_M_ofDegree_74 rfl rfl (hQ x3 w h)
  · have h := h.2 c42
    refine am_iload_n d_M_ofDegree_45 2 rfl ?_
    refine am_aload_n d_M_ofDegree_46 0 rfl ?_
    refine am_getf (T := F_M) (fs := ob_M g w 30) (C := R_M) (N := 35) (ci := 10) 5 d_M_ofDegree_47 wd_1082 rfl (by decide) (el_M (show ay_sh 30 = _ from rfl)) rfl i_M (by decide) rfl ?_
    refine am_iload d_M_ofDegree_50 3 rfl ?_
    have hi52 := h.1
    have h := h.2
    refine am_laload d_M_ofDegree_52 (show ay_sh 35 = _ from rfl) hi52 ?_
    refine am_callS (d2 := d - 1) [.long (w.2 35 x4.toNatClampNeg)] d_M_ofDegree_53 mi_M_degree wd_1206 wd_1207 (by omega) rfl rfl (Nat.le_of_ble_eq_true rfl) ?_
    refine Call.post ?_ (cf_M_degree_ok (by omega) (w.2 35 x4.toNatClampNeg)  w _ h)
    rintro _ _ ⟨r4, rfl, rfl, h⟩
    show wp g (fun _ => True) y_M_ofDegree prog_14_method_33_code 5 (some FieldType.int) d 56 [(0, .ref (g.1 + 30)), (2, .int x2), (3, .int x3), (4, .int x4)] [.int r4, .int x3] w Q
    refine am_iload_n d_M_ofDegree_56 1 rfl ?_
    refine am_icmp_ne (tgt := 64) d_M_ofDegree_57 (by decide) (fun c57 => ?_) (fun c57 => ?_)
    · have h := h.1 c57
      refine am_iconst (v := 0) d_M_ofDegree_64 rfl ?_
      refine am_iadd d_M_ofDegree_65 ?_
      refine am_topi (fun v5 ev5 => ?_)
      have h := h v5 ev5
      refine am_istore_n (l' := [(3, .int v5), (0, .ref (g.1 + 30)), (2, .int x2), (4, .int x4)]) d_M_ofDegree_66 (by decide) rfl ?_
      obtain ⟨v6, ev6⟩ : ∃ z : Int32, z = x4 + (1 : Int32) := ⟨_, rfl⟩
      have h := h v6 ev6
      refine am_iinc (v := v6) (l' := [(4, .int v6), (3, .int v5), (0, .ref (g.1 + 30)), (2, .int x2)]) d_M_ofDegree_67 3 rfl (by rw [ev6]; rfl) (by decide) rfl ?_
      refine am_goto (tgt := 36) d_M_ofDegree_70 (by decide) ?_
      refine am_sub [2, 3, 1, 0] rfl ?_
      exact hK36 x2 v5 v6 w h
    · have h := h.2 c57
      refine am_iconst (v := 1) d_M_ofDegree_60 rfl ?_
      refine am_goto (tgt := 65) d_M_ofDegree_61 (by decide) ?_
      refine am_iadd d_M_ofDegree_65 ?_
      refine am_topi (fun v7 ev7 => ?_)
      have h := h v7 ev7
      refine am_istore_n (l' := [(3, .int v7), (0, .ref (g.1 + 30)), (2, .int x2), (4, .int x4)]) d_M_ofDegree_66 (by decide) rfl ?_
      obtain ⟨v8, ev8⟩ : ∃ z : Int32, z = x4 + (1 : Int32) := ⟨_, rfl⟩
      have h := h v8 ev8
      refine am_iinc (v := v8) (l' := [(4, .int v8), (3, .int v7), (0, .ref (g.1 + 30)), (2, .int x2)]) d_M_ofDegree_67 3 rfl (by rw [ev8]; rfl) (by decide) rfl ?_
      refine am_goto (tgt := 36) d_M_ofDegree_70 (by decide) ?_
      refine am_sub [2, 3, 1, 0] rfl ?_
      exact hK36 x2 v7 v8 w h
theorem cf_M_ofDegree_L36_ok {g : ayG} {d : Nat} (hd : 3 ≤ d)    (P : Int32 → Wd → Prop) (Q : Option Value → Wd → Prop) (hQ : ∀ x w2, P x w2 → Q (some (.int x)) w2)  : ∀ (n : Nat) (x2 : Int32) (x3 : Int32) (x4 : Int32) (w : Wd) (h : cf_M_ofDegree_L36 P n x2 x3 x4 w), wp g (fun _ => True) y_M_ofDegree prog_14_method_33_code 5 (some FieldType.int) d 36 [(0, .ref (g.1 + 30)), (2, .int x2), (3, .int x3), (4, .int x4)] [] w Q
  | 0, x2, x3, x4, w, h => False.elim h
  | n + 1, x2, x3, x4, w, h => cf_M_ofDegree_B36_ok hd   w (cf_M_ofDegree_L36 P n) P Q hQ (fun x2 x3 x4 w h => cf_M_ofDegree_L36_ok hd    P Q hQ  n x2 x3 x4 w h) x2 x3 x4 h
theorem cf_M_ofDegree_ok {g : ayG} {d : Nat} (hd : 3 ≤ d) (a0 : Int32) (a1 : Int32)  (w : Wd) (P : Int32 → Wd → Prop) (h : cf_M_ofDegree a0 a1 w P) : Call g y_M_ofDegree prog_14_method_33_code 5 (some FieldType.int) d [.ref (g.1 + 30), .int a0, .int a1] w (fun (r : Option Value) (w2 : Wd) => ∃ x, r = some (.int x) ∧ P x w2) := by
  unfold cf_M_ofDegree at h
  refine am_enter mi_M_ofDegree (Nat.le_of_ble_eq_true rfl) ?_
  have hQ : ∀ x w2, P x w2 → (fun (r : Option Value) (w2 : Wd) => ∃ x, r = some (.int x) ∧ P x w2) (some (.int x)) w2 := fun x w2 h => ⟨x, rfl, h⟩
  generalize (fun (r : Option Value) (w2 : Wd) => ∃ x, r = some (.int x) ∧ P x w2) = Q at hQ ⊢
  show wp g (fun _ => True) y_M_ofDegree prog_14_method_33_code 5 (some FieldType.int) d 0 [(0, .ref (g.1 + 30)), (1, .int a0), (2, .int a1)] [] w Q
  refine am_iload_n d_M_ofDegree_0 1 rfl ?_
  refine am_callS (d2 := d - 1) [.int a0] d_M_ofDegree_1 mi_M_isPlace wd_1188 wd_1189 (by omega) rfl rfl (Nat.le_of_ble_eq_true rfl) ?_
  refine Call.post ?_ (cf_M_isPlace_ok (by omega) a0  w _ h)
  rintro _ _ ⟨r1, rfl, rfl, h⟩
  show wp g (fun _ => True) y_M_ofDegree prog_14_method_33_code 5 (some FieldType.int) d 4 [(0, .ref (g.1 + 30)), (1, .int a0), (2, .int a1)] [.int r1] w Q
  refine am_if_eq (tgt := 19) d_M_ofDegree_4 (by decide) (fun c4 => ?_) (fun c4 => ?_)
  · have h := h.1 c4
    refine am_iconst (v := -1) d_M_ofDegree_19 rfl ?_
    exact am_ireturn d_M_ofDegree_20 rfl rfl (hQ (-1 : Int32) w h)
  · have h := h.2 c4
    refine am_iload_n d_M_ofDegree_7 2 rfl ?_
    refine am_i2l d_M_ofDegree_8 ?_
    refine am_lconst (v := 1) d_M_ofDegree_9 rfl ?_
    refine am_ldc2 (v := 31) d_M_ofDegree_10 wd_1272 ?_
    refine am_callS (d2 := d - 1) [.long a1.toInt64, .long (1 : Int64), .long (31 : Int64)] d_M_ofDegree_13 mi_M_in wd_1192 wd_1193 (by omega) rfl rfl (Nat.le_of_ble_eq_true rfl) ?_
    refine Call.post ?_ (cf_M_in_ok (by omega) a1.toInt64 (1 : Int64) (31 : Int64)  w _ h)
    rintro _ _ ⟨r2, rfl, rfl, h⟩
    show wp g (fun _ => True) y_M_ofDegree prog_14_method_33_code 5 (some FieldType.int) d 16 [(0, .ref (g.1 + 30)), (1, .int a0), (2, .int a1)] [.int r2] w Q
    refine am_if_ne (tgt := 21) d_M_ofDegree_16 (by decide) (fun c16 => ?_) (fun c16 => ?_)
    · have h := h.1 c16
      refine am_aload_n d_M_ofDegree_21 0 rfl ?_
      refine am_aload_n d_M_ofDegree_22 0 rfl ?_
      refine am_getf (T := F_M) (fs := ob_M g w 30) (C := R_M) (N := 35) (ci := 10) 0 d_M_ofDegree_23 wd_1077 rfl (by decide) (el_M (show ay_sh 30 = _ from rfl)) rfl i_M (by decide) rfl ?_
      refine am_iload_n d_M_ofDegree_26 1 rfl ?_
      have hi27 := h.1
      have h := h.2
      refine am_laload d_M_ofDegree_27 (show ay_sh 31 = _ from rfl) hi27 ?_
      refine am_callV (C := y_M_laysFactors.cls) (d2 := d - 1) [.long (w.2 31 a0.toNatClampNeg)] d_M_ofDegree_28 mi_M_laysFactors wd_1201 wd_1203 ws_M_laysFactors (by decide) (el_M (show ay_sh 30 = _ from rfl)) rfl rfl (by omega) rfl rfl (Nat.le_of_ble_eq_true rfl) ?_
      refine Call.post ?_ (cf_M_laysFactors_ok (by omega) (w.2 31 a0.toNatClampNeg)  w _ h)
      rintro _ w3 ⟨rfl, h⟩
      show wp g (fun _ => True) y_M_ofDegree prog_14_method_33_code 5 (some FieldType.int) d 31 [(0, .ref (g.1 + 30)), (1, .int a0), (2, .int a1)] [] w3 Q
      refine am_iconst (v := 0) d_M_ofDegree_31 rfl ?_
      refine am_istore_n (l' := [(3, .int (0 : Int32)), (0, .ref (g.1 + 30)), (1, .int a0), (2, .int a1)]) d_M_ofDegree_32 (by decide) rfl ?_
      refine am_iconst (v := 0) d_M_ofDegree_33 rfl ?_
      refine am_istore (l' := [(4, .int (0 : Int32)), (3, .int (0 : Int32)), (0, .ref (g.1 + 30)), (1, .int a0), (2, .int a1)]) d_M_ofDegree_34 (by decide) rfl ?_
      refine am_sub [2, 4, 1, 0] rfl ?_
      obtain ⟨n, h⟩ := h
      exact cf_M_ofDegree_L36_ok (by omega)    P Q hQ  n a1 (0 : Int32) (0 : Int32) w3 h
    · have h := h.2 c16
      refine am_iconst (v := -1) d_M_ofDegree_19 rfl ?_
      exact am_ireturn d_M_ofDegree_20 rfl rfl (hQ (-1 : Int32) w h)
theorem d_M_order_0 : decode prog_14_method_34_code 0 = .ok (.iload_n 1, 1) := by decide +kernel
theorem d_M_order_1 : decode prog_14_method_34_code 1 = .ok (.invokestatic 150, 3) := by decide +kernel
theorem d_M_order_4 : decode prog_14_method_34_code 4 = .ok (.ifCond .ne 7, 3) := by decide +kernel
theorem d_M_order_7 : decode prog_14_method_34_code 7 = .ok (.ldc2_w 26, 3) := by decide +kernel
theorem d_M_order_10 : decode prog_14_method_34_code 10 = .ok (.lreturn, 1) := by decide +kernel
theorem d_M_order_11 : decode prog_14_method_34_code 11 = .ok (.aload_n 0, 1) := by decide +kernel
theorem d_M_order_12 : decode prog_14_method_34_code 12 = .ok (.getfield 7, 3) := by decide +kernel
theorem d_M_order_15 : decode prog_14_method_34_code 15 = .ok (.iload_n 1, 1) := by decide +kernel
theorem d_M_order_16 : decode prog_14_method_34_code 16 = .ok (.laload, 1) := by decide +kernel
theorem d_M_order_17 : decode prog_14_method_34_code 17 = .ok (.invokestatic 136, 3) := by decide +kernel
theorem d_M_order_20 : decode prog_14_method_34_code 20 = .ok (.ifCond .eq 16, 3) := by decide +kernel
theorem d_M_order_23 : decode prog_14_method_34_code 23 = .ok (.aload_n 0, 1) := by decide +kernel
theorem d_M_order_24 : decode prog_14_method_34_code 24 = .ok (.aload_n 0, 1) := by decide +kernel
theorem d_M_order_25 : decode prog_14_method_34_code 25 = .ok (.getfield 7, 3) := by decide +kernel
theorem d_M_order_28 : decode prog_14_method_34_code 28 = .ok (.iload_n 1, 1) := by decide +kernel
theorem d_M_order_29 : decode prog_14_method_34_code 29 = .ok (.laload, 1) := by decide +kernel
theorem d_M_order_30 : decode prog_14_method_34_code 30 = .ok (.invokevirtual 143, 3) := by decide +kernel
theorem d_M_order_33 : decode prog_14_method_34_code 33 = .ok (.goto 6, 3) := by decide +kernel
theorem d_M_order_36 : decode prog_14_method_34_code 36 = .ok (.ldc2_w 162, 3) := by decide +kernel
theorem d_M_order_39 : decode prog_14_method_34_code 39 = .ok (.lreturn, 1) := by decide +kernel
def cf_M_order (a0 : Int32) (w : Wd) (P : Int64 → Wd → Prop) : Prop :=
  cf_M_isPlace a0 (fun r1 => ((¬ r1 = 0 → vp_in a0 14 ∧ cf_M_hasOrder (w.2 31 a0.toNatClampNeg) (fun r2 => ((r2 = 0 → P (-2 : Int64) w) ∧ (¬ r2 = 0 → vp_in a0 14 ∧ cf_M_orderOf (w.2 31 a0.toNatClampNeg) w (fun r3 w4 => P r3 w4))))) ∧ (r1 = 0 → P (-1 : Int64) w)))
theorem cf_M_order_ok {g : ayG} {d : Nat} (hd : 102 ≤ d) (a0 : Int32)  (w : Wd) (P : Int64 → Wd → Prop) (h : cf_M_order a0 w P) : Call g y_M_order prog_14_method_34_code 2 (some FieldType.long) d [.ref (g.1 + 30), .int a0] w (fun (r : Option Value) (w2 : Wd) => ∃ x, r = some (.long x) ∧ P x w2) := by
  unfold cf_M_order at h
  refine am_enter mi_M_order (Nat.le_of_ble_eq_true rfl) ?_
  have hQ : ∀ x w2, P x w2 → (fun (r : Option Value) (w2 : Wd) => ∃ x, r = some (.long x) ∧ P x w2) (some (.long x)) w2 := fun x w2 h => ⟨x, rfl, h⟩
  generalize (fun (r : Option Value) (w2 : Wd) => ∃ x, r = some (.long x) ∧ P x w2) = Q at hQ ⊢
  show wp g (fun _ => True) y_M_order prog_14_method_34_code 2 (some FieldType.long) d 0 [(0, .ref (g.1 + 30)), (1, .int a0)] [] w Q
  refine am_iload_n d_M_order_0 1 rfl ?_
  refine am_callS (d2 := d - 1) [.int a0] d_M_order_1 mi_M_isPlace wd_1188 wd_1189 (by omega) rfl rfl (Nat.le_of_ble_eq_true rfl) ?_
  refine Call.post ?_ (cf_M_isPlace_ok (by omega) a0  w _ h)
  rintro _ _ ⟨r1, rfl, rfl, h⟩
  show wp g (fun _ => True) y_M_order prog_14_method_34_code 2 (some FieldType.long) d 4 [(0, .ref (g.1 + 30)), (1, .int a0)] [.int r1] w Q
  refine am_if_ne (tgt := 11) d_M_order_4 (by decide) (fun c4 => ?_) (fun c4 => ?_)
  · have h := h.1 c4
    refine am_aload_n d_M_order_11 0 rfl ?_
    refine am_getf (T := F_M) (fs := ob_M g w 30) (C := R_M) (N := 35) (ci := 10) 0 d_M_order_12 wd_1077 rfl (by decide) (el_M (show ay_sh 30 = _ from rfl)) rfl i_M (by decide) rfl ?_
    refine am_iload_n d_M_order_15 1 rfl ?_
    have hi16 := h.1
    have h := h.2
    refine am_laload d_M_order_16 (show ay_sh 31 = _ from rfl) hi16 ?_
    refine am_callS (d2 := d - 1) [.long (w.2 31 a0.toNatClampNeg)] d_M_order_17 mi_M_hasOrder wd_1229 wd_1230 (by omega) rfl rfl (Nat.le_of_ble_eq_true rfl) ?_
    refine Call.post ?_ (cf_M_hasOrder_ok (by omega) (w.2 31 a0.toNatClampNeg)  w _ h)
    rintro _ _ ⟨r2, rfl, rfl, h⟩
    show wp g (fun _ => True) y_M_order prog_14_method_34_code 2 (some FieldType.long) d 20 [(0, .ref (g.1 + 30)), (1, .int a0)] [.int r2] w Q
    refine am_if_eq (tgt := 36) d_M_order_20 (by decide) (fun c20 => ?_) (fun c20 => ?_)
    · have h := h.1 c20
      refine am_ldc2 (v := -2) d_M_order_36 wd_1267 ?_
      exact am_lreturn d_M_order_39 rfl (hQ (-2 : Int64) w h)
    · have h := h.2 c20
      refine am_aload_n d_M_order_23 0 rfl ?_
      refine am_aload_n d_M_order_24 0 rfl ?_
      refine am_getf (T := F_M) (fs := ob_M g w 30) (C := R_M) (N := 35) (ci := 10) 0 d_M_order_25 wd_1077 rfl (by decide) (el_M (show ay_sh 30 = _ from rfl)) rfl i_M (by decide) rfl ?_
      refine am_iload_n d_M_order_28 1 rfl ?_
      have hi29 := h.1
      have h := h.2
      refine am_laload d_M_order_29 (show ay_sh 31 = _ from rfl) hi29 ?_
      refine am_callV (C := y_M_orderOf.cls) (d2 := d - 1) [.long (w.2 31 a0.toNatClampNeg)] d_M_order_30 mi_M_orderOf wd_1236 wd_1238 ws_M_orderOf (by decide) (el_M (show ay_sh 30 = _ from rfl)) rfl rfl (by omega) rfl rfl (Nat.le_of_ble_eq_true rfl) ?_
      refine Call.post ?_ (cf_M_orderOf_ok (by omega) (w.2 31 a0.toNatClampNeg)  w _ h)
      rintro _ w4 ⟨r3, rfl, h⟩
      show wp g (fun _ => True) y_M_order prog_14_method_34_code 2 (some FieldType.long) d 33 [(0, .ref (g.1 + 30)), (1, .int a0)] [.long r3] w4 Q
      refine am_goto (tgt := 39) d_M_order_33 (by decide) ?_
      exact am_lreturn d_M_order_39 rfl (hQ r3 w4 h)
  · have h := h.2 c4
    refine am_ldc2 (v := -1) d_M_order_7 wd_1076 ?_
    exact am_lreturn d_M_order_10 rfl (hQ (-1 : Int64) w h)
theorem d_M_radical_0 : decode prog_14_method_36_code 0 = .ok (.aload_n 0, 1) := by decide +kernel
theorem d_M_radical_1 : decode prog_14_method_36_code 1 = .ok (.lload_n 1, 1) := by decide +kernel
theorem d_M_radical_2 : decode prog_14_method_36_code 2 = .ok (.invokevirtual 112, 3) := by decide +kernel
theorem d_M_radical_5 : decode prog_14_method_36_code 5 = .ok (.lconst 1, 1) := by decide +kernel
theorem d_M_radical_6 : decode prog_14_method_36_code 6 = .ok (.lstore_n 3, 1) := by decide +kernel
theorem d_M_radical_7 : decode prog_14_method_36_code 7 = .ok (.iconst 0, 1) := by decide +kernel
theorem d_M_radical_8 : decode prog_14_method_36_code 8 = .ok (.istore 5, 2) := by decide +kernel
theorem d_M_radical_10 : decode prog_14_method_36_code 10 = .ok (.iload 5, 2) := by decide +kernel
theorem d_M_radical_12 : decode prog_14_method_36_code 12 = .ok (.aload_n 0, 1) := by decide +kernel
theorem d_M_radical_13 : decode prog_14_method_36_code 13 = .ok (.getfield 104, 3) := by decide +kernel
theorem d_M_radical_16 : decode prog_14_method_36_code 16 = .ok (.if_icmp .ge 50, 3) := by decide +kernel
theorem d_M_radical_19 : decode prog_14_method_36_code 19 = .ok (.iload 5, 2) := by decide +kernel
theorem d_M_radical_21 : decode prog_14_method_36_code 21 = .ok (.ifCond .le 27, 3) := by decide +kernel
theorem d_M_radical_24 : decode prog_14_method_36_code 24 = .ok (.aload_n 0, 1) := by decide +kernel
theorem d_M_radical_25 : decode prog_14_method_36_code 25 = .ok (.getfield 23, 3) := by decide +kernel
theorem d_M_radical_28 : decode prog_14_method_36_code 28 = .ok (.iload 5, 2) := by decide +kernel
theorem d_M_radical_30 : decode prog_14_method_36_code 30 = .ok (.laload, 1) := by decide +kernel
theorem d_M_radical_31 : decode prog_14_method_36_code 31 = .ok (.aload_n 0, 1) := by decide +kernel
theorem d_M_radical_32 : decode prog_14_method_36_code 32 = .ok (.getfield 23, 3) := by decide +kernel
theorem d_M_radical_35 : decode prog_14_method_36_code 35 = .ok (.iload 5, 2) := by decide +kernel
theorem d_M_radical_37 : decode prog_14_method_36_code 37 = .ok (.iconst 1, 1) := by decide +kernel
theorem d_M_radical_38 : decode prog_14_method_36_code 38 = .ok (.isub, 1) := by decide +kernel
theorem d_M_radical_39 : decode prog_14_method_36_code 39 = .ok (.laload, 1) := by decide +kernel
theorem d_M_radical_40 : decode prog_14_method_36_code 40 = .ok (.lcmp, 1) := by decide +kernel
theorem d_M_radical_41 : decode prog_14_method_36_code 41 = .ok (.ifCond .ne 7, 3) := by decide +kernel
theorem d_M_radical_44 : decode prog_14_method_36_code 44 = .ok (.lload_n 3, 1) := by decide +kernel
theorem d_M_radical_45 : decode prog_14_method_36_code 45 = .ok (.goto 14, 3) := by decide +kernel
theorem d_M_radical_48 : decode prog_14_method_36_code 48 = .ok (.lload_n 3, 1) := by decide +kernel
theorem d_M_radical_49 : decode prog_14_method_36_code 49 = .ok (.aload_n 0, 1) := by decide +kernel
theorem d_M_radical_50 : decode prog_14_method_36_code 50 = .ok (.getfield 23, 3) := by decide +kernel
theorem d_M_radical_53 : decode prog_14_method_36_code 53 = .ok (.iload 5, 2) := by decide +kernel
theorem d_M_radical_55 : decode prog_14_method_36_code 55 = .ok (.laload, 1) := by decide +kernel
theorem d_M_radical_56 : decode prog_14_method_36_code 56 = .ok (.invokestatic 95, 3) := by decide +kernel
theorem d_M_radical_59 : decode prog_14_method_36_code 59 = .ok (.lstore_n 3, 1) := by decide +kernel
theorem d_M_radical_60 : decode prog_14_method_36_code 60 = .ok (.iinc 5 1, 3) := by decide +kernel
theorem d_M_radical_63 : decode prog_14_method_36_code 63 = .ok (.goto (-53), 3) := by decide +kernel
theorem d_M_radical_66 : decode prog_14_method_36_code 66 = .ok (.lload_n 3, 1) := by decide +kernel
theorem d_M_radical_67 : decode prog_14_method_36_code 67 = .ok (.lreturn, 1) := by decide +kernel
def cf_M_radical_B10  (K10 : Int64 → Int32 → Wd → Prop) (P : Int64 → Wd → Prop) (x3 : Int64) (x5 : Int32) (w : Wd) : Prop :=
  (((w.1 30 6) ≤ x5 → P x3 w) ∧ (¬ (w.1 30 6) ≤ x5 → ((x5 ≤ 0 → vp_in x5 32 ∧ cf_M_product x3 (w.2 35 x5.toNatClampNeg) (fun r2 => ∀ v3, v3 = x5 + (1 : Int32) → K10 r2 v3 w)) ∧ (¬ x5 ≤ 0 → vp_in x5 32 ∧ vp_in (x5 - (1 : Int32)) 32 ∧ ((¬ (w.2 35 x5.toNatClampNeg) = (w.2 35 (x5 - (1 : Int32)).toNatClampNeg) → vp_in x5 32 ∧ cf_M_product x3 (w.2 35 x5.toNatClampNeg) (fun r4 => ∀ v5, v5 = x5 + (1 : Int32) → K10 r4 v5 w)) ∧ ((w.2 35 x5.toNatClampNeg) = (w.2 35 (x5 - (1 : Int32)).toNatClampNeg) → ∀ v6, v6 = x5 + (1 : Int32) → K10 x3 v6 w))))))
def cf_M_radical_L10   (P : Int64 → Wd → Prop) : Nat → Int64 → Int32 → Wd → Prop
  | 0 => fun x3 x5 w => False
  | n + 1 => fun x3 x5 w => cf_M_radical_B10 (cf_M_radical_L10 P n) P x3 x5 w
def cf_M_radical (a0 : Int64) (w : Wd) (P : Int64 → Wd → Prop) : Prop :=
  cf_M_laysFactors a0 w (fun w1 => ∃ n, cf_M_radical_L10 P n (1 : Int64) (0 : Int32) w1)
theorem cf_M_radical_B10_ok {g : ayG} {d : Nat} (hd : 3 ≤ d)   (w : Wd) (K10 : Int64 → Int32 → Wd → Prop) (P : Int64 → Wd → Prop) (Q : Option Value → Wd → Prop) (hQ : ∀ x w2, P x w2 → Q (some (.long x)) w2) (hK10 : ∀ (x3 : Int64) (x5 : Int32) (w : Wd), (K10 x3 x5 w → wp g (fun _ => True) y_M_radical prog_14_method_36_code 6 (some FieldType.long) d 10 [(0, .ref (g.1 + 30)), (3, .long x3), (5, .int x5)] [] w Q)) (x3 : Int64) (x5 : Int32) (h : cf_M_radical_B10 K10 P x3 x5 w) : wp g (fun _ => True) y_M_radical prog_14_method_36_code 6 (some FieldType.long) d 10 [(0, .ref (g.1 + 30)), (3, .long x3), (5, .int x5)] [] w Q := by
  unfold cf_M_radical_B10 at h
  refine am_iload d_M_radical_10 2 rfl ?_
  refine am_aload_n d_M_radical_12 0 rfl ?_
  refine am_getf (T := F_M) (fs := ob_M g w 30) (C := R_M) (N := 35) (ci := 10) 6 d_M_radical_13 wd_1083 rfl (by decide) (el_M (show ay_sh 30 = _ from rfl)) rfl i_M (by decide) rfl ?_
  refine am_icmp_ge (tgt := 66) d_M_radical_16 (by decide) (fun c16 => ?_) (fun c16 => ?_)
  · have h := h.1 c16
    refine am_lload_n d_M_radical_66 1 rfl ?_
    exact am_lreturn d_M_radical_67 rfl (hQ x3 w h)
  · have h := h.2 c16
    refine am_iload d_M_radical_19 2 rfl ?_
    refine am_if_le (tgt := 48) d_M_radical_21 (by decide) (fun c21 => ?_) (fun c21 => ?_)
    · have h := h.1 c21
      refine am_lload_n d_M_radical_48 1 rfl ?_
      refine am_aload_n d_M_radical_49 0 rfl ?_
      refine am_getf (T := F_M) (fs := ob_M g w 30) (C := R_M) (N := 35) (ci := 10) 5 d_M_radical_50 wd_1082 rfl (by decide) (el_M (show ay_sh 30 = _ from rfl)) rfl i_M (by decide) rfl ?_
      refine am_iload d_M_radical_53 2 rfl ?_
      have hi55 := h.1
      have h := h.2
      refine am_laload d_M_radical_55 (show ay_sh 35 = _ from rfl) hi55 ?_
      refine am_callS (d2 := d - 1) [.long x3, .long (w.2 35 x5.toNatClampNeg)] d_M_radical_56 mi_M_product wd_1256 wd_1257 (by omega) rfl rfl (Nat.le_of_ble_eq_true rfl) ?_
      refine Call.post ?_ (cf_M_product_ok (by omega) x3 (w.2 35 x5.toNatClampNeg)  w _ h)
      rintro _ _ ⟨r2, rfl, rfl, h⟩
      show wp g (fun _ => True) y_M_radical prog_14_method_36_code 6 (some FieldType.long) d 59 [(0, .ref (g.1 + 30)), (3, .long x3), (5, .int x5)] [.long r2] w Q
      refine am_lstore_n (l' := [(3, .long r2), (0, .ref (g.1 + 30)), (5, .int x5)]) d_M_radical_59 (by decide) rfl ?_
      obtain ⟨v3, ev3⟩ : ∃ z : Int32, z = x5 + (1 : Int32) := ⟨_, rfl⟩
      have h := h v3 ev3
      refine am_iinc (v := v3) (l' := [(5, .int v3), (3, .long r2), (0, .ref (g.1 + 30))]) d_M_radical_60 2 rfl (by rw [ev3]; rfl) (by decide) rfl ?_
      refine am_goto (tgt := 10) d_M_radical_63 (by decide) ?_
      refine am_sub [2, 1, 0] rfl ?_
      exact hK10 r2 v3 w h
    · have h := h.2 c21
      refine am_aload_n d_M_radical_24 0 rfl ?_
      refine am_getf (T := F_M) (fs := ob_M g w 30) (C := R_M) (N := 35) (ci := 10) 5 d_M_radical_25 wd_1082 rfl (by decide) (el_M (show ay_sh 30 = _ from rfl)) rfl i_M (by decide) rfl ?_
      refine am_iload d_M_radical_28 2 rfl ?_
      have hi30 := h.1
      have h := h.2
      refine am_laload d_M_radical_30 (show ay_sh 35 = _ from rfl) hi30 ?_
      refine am_aload_n d_M_radical_31 0 rfl ?_
      refine am_getf (T := F_M) (fs := ob_M g w 30) (C := R_M) (N := 35) (ci := 10) 5 d_M_radical_32 wd_1082 rfl (by decide) (el_M (show ay_sh 30 = _ from rfl)) rfl i_M (by decide) rfl ?_
      refine am_iload d_M_radical_35 2 rfl ?_
      refine am_iconst (v := 1) d_M_radical_37 rfl ?_
      refine am_isub d_M_radical_38 ?_
      have hi39 := h.1
      have h := h.2
      refine am_laload d_M_radical_39 (show ay_sh 35 = _ from rfl) hi39 ?_
      refine am_lif_ne (tgt := 48) d_M_radical_40 d_M_radical_41 (by decide) (fun c40 => ?_) (fun c40 => ?_)
      · have h := h.1 c40
        refine am_lload_n d_M_radical_48 1 rfl ?_
        refine am_aload_n d_M_radical_49 0 rfl ?_
        refine am_getf (T := F_M) (fs := ob_M g w 30) (C := R_M) (N := 35) (ci := 10) 5 d_M_radical_50 wd_1082 rfl (by decide) (el_M (show ay_sh 30 = _ from rfl)) rfl i_M (by decide) rfl ?_
        refine am_iload d_M_radical_53 2 rfl ?_
        have hi55 := h.1
        have h := h.2
        refine am_laload d_M_radical_55 (show ay_sh 35 = _ from rfl) hi55 ?_
        refine am_callS (d2 := d - 1) [.long x3, .long (w.2 35 x5.toNatClampNeg)] d_M_radical_56 mi_M_product wd_1256 wd_1257 (by omega) rfl rfl (Nat.le_of_ble_eq_true rfl) ?_
        refine Call.post ?_ (cf_M_product_ok (by omega) x3 (w.2 35 x5.toNatClampNeg)  w _ h)
        rintro _ _ ⟨r4, rfl, rfl, h⟩
        show wp g (fun _ => True) y_M_radical prog_14_method_36_code 6 (some FieldType.long) d 59 [(0, .ref (g.1 + 30)), (3, .long x3), (5, .int x5)] [.long r4] w Q
        refine am_lstore_n (l' := [(3, .long r4), (0, .ref (g.1 + 30)), (5, .int x5)]) d_M_radical_59 (by decide) rfl ?_
        obtain ⟨v5, ev5⟩ : ∃ z : Int32, z = x5 + (1 : Int32) := ⟨_, rfl⟩
        have h := h v5 ev5
        refine am_iinc (v := v5) (l' := [(5, .int v5), (3, .long r4), (0, .ref (g.1 + 30))]) d_M_radical_60 2 rfl (by rw [ev5]; rfl) (by decide) rfl ?_
        refine am_goto (tgt := 10) d_M_radical_63 (by decide) ?_
        refine am_sub [2, 1, 0] rfl ?_
        exact hK10 r4 v5 w h
      · have h := h.2 c40
        refine am_lload_n d_M_radical_44 1 rfl ?_
        refine am_goto (tgt := 59) d_M_radical_45 (by decide) ?_
        refine am_lstore_n (l' := [(3, .long x3), (0, .ref (g.1 + 30)), (5, .int x5)]) d_M_radical_59 (by decide) rfl ?_
        obtain ⟨v6, ev6⟩ : ∃ z : Int32, z = x5 + (1 : Int32) := ⟨_, rfl⟩
        have h := h v6 ev6
        refine am_iinc (v := v6) (l' := [(5, .int v6), (3, .long x3), (0, .ref (g.1 + 30))]) d_M_radical_60 2 rfl (by rw [ev6]; rfl) (by decide) rfl ?_
        refine am_goto (tgt := 10) d_M_radical_63 (by decide) ?_
        refine am_sub [2, 1, 0] rfl ?_
        exact hK10 x3 v6 w h
theorem cf_M_radical_L10_ok {g : ayG} {d : Nat} (hd : 3 ≤ d)    (P : Int64 → Wd → Prop) (Q : Option Value → Wd → Prop) (hQ : ∀ x w2, P x w2 → Q (some (.long x)) w2)  : ∀ (n : Nat) (x3 : Int64) (x5 : Int32) (w : Wd) (h : cf_M_radical_L10 P n x3 x5 w), wp g (fun _ => True) y_M_radical prog_14_method_36_code 6 (some FieldType.long) d 10 [(0, .ref (g.1 + 30)), (3, .long x3), (5, .int x5)] [] w Q
  | 0, x3, x5, w, h => False.elim h
  | n + 1, x3, x5, w, h => cf_M_radical_B10_ok hd   w (cf_M_radical_L10 P n) P Q hQ (fun x3 x5 w h => cf_M_radical_L10_ok hd    P Q hQ  n x3 x5 w h) x3 x5 h
theorem cf_M_radical_ok {g : ayG} {d : Nat} (hd : 3 ≤ d) (a0 : Int64)  (w : Wd) (P : Int64 → Wd → Prop) (h : cf_M_radical a0 w P) : Call g y_M_radical prog_14_method_36_code 6 (some FieldType.long) d [.ref (g.1 + 30), .long a0] w (fun (r : Option Value) (w2 : Wd) => ∃ x, r = some (.long x) ∧ P x w2) := by
  unfold cf_M_radical at h
  refine am_enter mi_M_radical (Nat.le_of_ble_eq_true rfl) ?_
  have hQ : ∀ x w2, P x w2 → (fun (r : Option Value) (w2 : Wd) => ∃ x, r = some (.long x) ∧ P x w2) (some (.long x)) w2 := fun x w2 h => ⟨x, rfl, h⟩
  generalize (fun (r : Option Value) (w2 : Wd) => ∃ x, r = some (.long x) ∧ P x w2) = Q at hQ ⊢
  show wp g (fun _ => True) y_M_radical prog_14_method_36_code 6 (some FieldType.long) d 0 [(0, .ref (g.1 + 30)), (1, .long a0)] [] w Q
  refine am_aload_n d_M_radical_0 0 rfl ?_
  refine am_lload_n d_M_radical_1 1 rfl ?_
  refine am_callV (C := y_M_laysFactors.cls) (d2 := d - 1) [.long a0] d_M_radical_2 mi_M_laysFactors wd_1201 wd_1203 ws_M_laysFactors (by decide) (el_M (show ay_sh 30 = _ from rfl)) rfl rfl (by omega) rfl rfl (Nat.le_of_ble_eq_true rfl) ?_
  refine Call.post ?_ (cf_M_laysFactors_ok (by omega) a0  w _ h)
  rintro _ w1 ⟨rfl, h⟩
  show wp g (fun _ => True) y_M_radical prog_14_method_36_code 6 (some FieldType.long) d 5 [(0, .ref (g.1 + 30)), (1, .long a0)] [] w1 Q
  refine am_lconst (v := 1) d_M_radical_5 rfl ?_
  refine am_lstore_n (l' := [(3, .long (1 : Int64)), (0, .ref (g.1 + 30)), (1, .long a0)]) d_M_radical_6 (by decide) rfl ?_
  refine am_iconst (v := 0) d_M_radical_7 rfl ?_
  refine am_istore (l' := [(5, .int (0 : Int32)), (3, .long (1 : Int64)), (0, .ref (g.1 + 30)), (1, .long a0)]) d_M_radical_8 (by decide) rfl ?_
  refine am_sub [2, 1, 0] rfl ?_
  obtain ⟨n, h⟩ := h
  exact cf_M_radical_L10_ok (by omega)    P Q hQ  n (1 : Int64) (0 : Int32) w1 h
theorem d_M_akin_0 : decode prog_14_method_35_code 0 = .ok (.iload_n 1, 1) := by decide +kernel
theorem d_M_akin_1 : decode prog_14_method_35_code 1 = .ok (.invokestatic 150, 3) := by decide +kernel
theorem d_M_akin_4 : decode prog_14_method_35_code 4 = .ok (.ifCond .eq 10, 3) := by decide +kernel
theorem d_M_akin_7 : decode prog_14_method_35_code 7 = .ok (.iload_n 2, 1) := by decide +kernel
theorem d_M_akin_8 : decode prog_14_method_35_code 8 = .ok (.invokestatic 150, 3) := by decide +kernel
theorem d_M_akin_11 : decode prog_14_method_35_code 11 = .ok (.ifCond .ne 5, 3) := by decide +kernel
theorem d_M_akin_14 : decode prog_14_method_35_code 14 = .ok (.iconst (-1), 1) := by decide +kernel
theorem d_M_akin_15 : decode prog_14_method_35_code 15 = .ok (.ireturn, 1) := by decide +kernel
theorem d_M_akin_16 : decode prog_14_method_35_code 16 = .ok (.aload_n 0, 1) := by decide +kernel
theorem d_M_akin_17 : decode prog_14_method_35_code 17 = .ok (.aload_n 0, 1) := by decide +kernel
theorem d_M_akin_18 : decode prog_14_method_35_code 18 = .ok (.getfield 7, 3) := by decide +kernel
theorem d_M_akin_21 : decode prog_14_method_35_code 21 = .ok (.iload_n 1, 1) := by decide +kernel
theorem d_M_akin_22 : decode prog_14_method_35_code 22 = .ok (.laload, 1) := by decide +kernel
theorem d_M_akin_23 : decode prog_14_method_35_code 23 = .ok (.invokevirtual 166, 3) := by decide +kernel
theorem d_M_akin_26 : decode prog_14_method_35_code 26 = .ok (.aload_n 0, 1) := by decide +kernel
theorem d_M_akin_27 : decode prog_14_method_35_code 27 = .ok (.aload_n 0, 1) := by decide +kernel
theorem d_M_akin_28 : decode prog_14_method_35_code 28 = .ok (.getfield 7, 3) := by decide +kernel
theorem d_M_akin_31 : decode prog_14_method_35_code 31 = .ok (.iload_n 2, 1) := by decide +kernel
theorem d_M_akin_32 : decode prog_14_method_35_code 32 = .ok (.laload, 1) := by decide +kernel
theorem d_M_akin_33 : decode prog_14_method_35_code 33 = .ok (.invokevirtual 166, 3) := by decide +kernel
theorem d_M_akin_36 : decode prog_14_method_35_code 36 = .ok (.lcmp, 1) := by decide +kernel
theorem d_M_akin_37 : decode prog_14_method_35_code 37 = .ok (.ifCond .ne 7, 3) := by decide +kernel
theorem d_M_akin_40 : decode prog_14_method_35_code 40 = .ok (.iconst 1, 1) := by decide +kernel
theorem d_M_akin_41 : decode prog_14_method_35_code 41 = .ok (.goto 4, 3) := by decide +kernel
theorem d_M_akin_44 : decode prog_14_method_35_code 44 = .ok (.iconst 0, 1) := by decide +kernel
theorem d_M_akin_45 : decode prog_14_method_35_code 45 = .ok (.ireturn, 1) := by decide +kernel
def cf_M_akin (a0 : Int32) (a1 : Int32) (w : Wd) (P : Int32 → Wd → Prop) : Prop :=
  cf_M_isPlace a0 (fun r1 => ((r1 = 0 → P (-1 : Int32) w) ∧ (¬ r1 = 0 → cf_M_isPlace a1 (fun r2 => ((¬ r2 = 0 → vp_in a0 14 ∧ cf_M_radical (w.2 31 a0.toNatClampNeg) w (fun r3 w4 => vp_in a1 14 ∧ cf_M_radical (w4.2 31 a1.toNatClampNeg) w4 (fun r5 w6 => ((¬ r3 = r5 → P (0 : Int32) w6) ∧ (r3 = r5 → P (1 : Int32) w6))))) ∧ (r2 = 0 → P (-1 : Int32) w))))))
theorem cf_M_akin_ok {g : ayG} {d : Nat} (hd : 4 ≤ d) (a0 : Int32) (a1 : Int32)  (w : Wd) (P : Int32 → Wd → Prop) (h : cf_M_akin a0 a1 w P) : Call g y_M_akin prog_14_method_35_code 3 (some FieldType.int) d [.ref (g.1 + 30), .int a0, .int a1] w (fun (r : Option Value) (w2 : Wd) => ∃ x, r = some (.int x) ∧ P x w2) := by
  unfold cf_M_akin at h
  refine am_enter mi_M_akin (Nat.le_of_ble_eq_true rfl) ?_
  have hQ : ∀ x w2, P x w2 → (fun (r : Option Value) (w2 : Wd) => ∃ x, r = some (.int x) ∧ P x w2) (some (.int x)) w2 := fun x w2 h => ⟨x, rfl, h⟩
  generalize (fun (r : Option Value) (w2 : Wd) => ∃ x, r = some (.int x) ∧ P x w2) = Q at hQ ⊢
  show wp g (fun _ => True) y_M_akin prog_14_method_35_code 3 (some FieldType.int) d 0 [(0, .ref (g.1 + 30)), (1, .int a0), (2, .int a1)] [] w Q
  refine am_iload_n d_M_akin_0 1 rfl ?_
  refine am_callS (d2 := d - 1) [.int a0] d_M_akin_1 mi_M_isPlace wd_1188 wd_1189 (by omega) rfl rfl (Nat.le_of_ble_eq_true rfl) ?_
  refine Call.post ?_ (cf_M_isPlace_ok (by omega) a0  w _ h)
  rintro _ _ ⟨r1, rfl, rfl, h⟩
  show wp g (fun _ => True) y_M_akin prog_14_method_35_code 3 (some FieldType.int) d 4 [(0, .ref (g.1 + 30)), (1, .int a0), (2, .int a1)] [.int r1] w Q
  refine am_if_eq (tgt := 14) d_M_akin_4 (by decide) (fun c4 => ?_) (fun c4 => ?_)
  · have h := h.1 c4
    refine am_iconst (v := -1) d_M_akin_14 rfl ?_
    exact am_ireturn d_M_akin_15 rfl rfl (hQ (-1 : Int32) w h)
  · have h := h.2 c4
    refine am_iload_n d_M_akin_7 2 rfl ?_
    refine am_callS (d2 := d - 1) [.int a1] d_M_akin_8 mi_M_isPlace wd_1188 wd_1189 (by omega) rfl rfl (Nat.le_of_ble_eq_true rfl) ?_
    refine Call.post ?_ (cf_M_isPlace_ok (by omega) a1  w _ h)
    rintro _ _ ⟨r2, rfl, rfl, h⟩
    show wp g (fun _ => True) y_M_akin prog_14_method_35_code 3 (some FieldType.int) d 11 [(0, .ref (g.1 + 30)), (1, .int a0), (2, .int a1)] [.int r2] w Q
    refine am_if_ne (tgt := 16) d_M_akin_11 (by decide) (fun c11 => ?_) (fun c11 => ?_)
    · have h := h.1 c11
      refine am_aload_n d_M_akin_16 0 rfl ?_
      refine am_aload_n d_M_akin_17 0 rfl ?_
      refine am_getf (T := F_M) (fs := ob_M g w 30) (C := R_M) (N := 35) (ci := 10) 0 d_M_akin_18 wd_1077 rfl (by decide) (el_M (show ay_sh 30 = _ from rfl)) rfl i_M (by decide) rfl ?_
      refine am_iload_n d_M_akin_21 1 rfl ?_
      have hi22 := h.1
      have h := h.2
      refine am_laload d_M_akin_22 (show ay_sh 31 = _ from rfl) hi22 ?_
      refine am_callV (C := y_M_radical.cls) (d2 := d - 1) [.long (w.2 31 a0.toNatClampNeg)] d_M_akin_23 mi_M_radical wd_1281 wd_1283 ws_M_radical (by decide) (el_M (show ay_sh 30 = _ from rfl)) rfl rfl (by omega) rfl rfl (Nat.le_of_ble_eq_true rfl) ?_
      refine Call.post ?_ (cf_M_radical_ok (by omega) (w.2 31 a0.toNatClampNeg)  w _ h)
      rintro _ w4 ⟨r3, rfl, h⟩
      show wp g (fun _ => True) y_M_akin prog_14_method_35_code 3 (some FieldType.int) d 26 [(0, .ref (g.1 + 30)), (1, .int a0), (2, .int a1)] [.long r3] w4 Q
      refine am_aload_n d_M_akin_26 0 rfl ?_
      refine am_aload_n d_M_akin_27 0 rfl ?_
      refine am_getf (T := F_M) (fs := ob_M g w4 30) (C := R_M) (N := 35) (ci := 10) 0 d_M_akin_28 wd_1077 rfl (by decide) (el_M (show ay_sh 30 = _ from rfl)) rfl i_M (by decide) rfl ?_
      refine am_iload_n d_M_akin_31 2 rfl ?_
      have hi32 := h.1
      have h := h.2
      refine am_laload d_M_akin_32 (show ay_sh 31 = _ from rfl) hi32 ?_
      refine am_callV (C := y_M_radical.cls) (d2 := d - 1) [.long (w4.2 31 a1.toNatClampNeg)] d_M_akin_33 mi_M_radical wd_1281 wd_1283 ws_M_radical (by decide) (el_M (show ay_sh 30 = _ from rfl)) rfl rfl (by omega) rfl rfl (Nat.le_of_ble_eq_true rfl) ?_
      refine Call.post ?_ (cf_M_radical_ok (by omega) (w4.2 31 a1.toNatClampNeg)  w4 _ h)
      rintro _ w6 ⟨r5, rfl, h⟩
      show wp g (fun _ => True) y_M_akin prog_14_method_35_code 3 (some FieldType.int) d 36 [(0, .ref (g.1 + 30)), (1, .int a0), (2, .int a1)] [.long r5, .long r3] w6 Q
      refine am_lif_ne (tgt := 44) d_M_akin_36 d_M_akin_37 (by decide) (fun c36 => ?_) (fun c36 => ?_)
      · have h := h.1 c36
        refine am_iconst (v := 0) d_M_akin_44 rfl ?_
        exact am_ireturn d_M_akin_45 rfl rfl (hQ (0 : Int32) w6 h)
      · have h := h.2 c36
        refine am_iconst (v := 1) d_M_akin_40 rfl ?_
        refine am_goto (tgt := 45) d_M_akin_41 (by decide) ?_
        exact am_ireturn d_M_akin_45 rfl rfl (hQ (1 : Int32) w6 h)
    · have h := h.2 c11
      refine am_iconst (v := -1) d_M_akin_14 rfl ?_
      exact am_ireturn d_M_akin_15 rfl rfl (hQ (-1 : Int32) w h)
theorem d_M_swanOf_0 : decode prog_14_method_37_code 0 = .ok (.iload_n 0, 1) := by decide +kernel
theorem d_M_swanOf_1 : decode prog_14_method_37_code 1 = .ok (.iconst 2, 1) := by decide +kernel
theorem d_M_swanOf_2 : decode prog_14_method_37_code 2 = .ok (.irem, 1) := by decide +kernel
theorem d_M_swanOf_3 : decode prog_14_method_37_code 3 = .ok (.ifCond .ne 12, 3) := by decide +kernel
theorem d_M_swanOf_6 : decode prog_14_method_37_code 6 = .ok (.iload_n 1, 1) := by decide +kernel
theorem d_M_swanOf_7 : decode prog_14_method_37_code 7 = .ok (.iconst 2, 1) := by decide +kernel
theorem d_M_swanOf_8 : decode prog_14_method_37_code 8 = .ok (.irem, 1) := by decide +kernel
theorem d_M_swanOf_9 : decode prog_14_method_37_code 9 = .ok (.ifCond .ne 6, 3) := by decide +kernel
theorem d_M_swanOf_12 : decode prog_14_method_37_code 12 = .ok (.bipush (-2), 2) := by decide +kernel
theorem d_M_swanOf_14 : decode prog_14_method_37_code 14 = .ok (.ireturn, 1) := by decide +kernel
theorem d_M_swanOf_15 : decode prog_14_method_37_code 15 = .ok (.iload_n 0, 1) := by decide +kernel
theorem d_M_swanOf_16 : decode prog_14_method_37_code 16 = .ok (.iconst 2, 1) := by decide +kernel
theorem d_M_swanOf_17 : decode prog_14_method_37_code 17 = .ok (.irem, 1) := by decide +kernel
theorem d_M_swanOf_18 : decode prog_14_method_37_code 18 = .ok (.iconst 1, 1) := by decide +kernel
theorem d_M_swanOf_19 : decode prog_14_method_37_code 19 = .ok (.if_icmp .ne 18, 3) := by decide +kernel
theorem d_M_swanOf_22 : decode prog_14_method_37_code 22 = .ok (.iload_n 1, 1) := by decide +kernel
theorem d_M_swanOf_23 : decode prog_14_method_37_code 23 = .ok (.iconst 2, 1) := by decide +kernel
theorem d_M_swanOf_24 : decode prog_14_method_37_code 24 = .ok (.irem, 1) := by decide +kernel
theorem d_M_swanOf_25 : decode prog_14_method_37_code 25 = .ok (.iconst 1, 1) := by decide +kernel
theorem d_M_swanOf_26 : decode prog_14_method_37_code 26 = .ok (.if_icmp .ne 11, 3) := by decide +kernel
theorem d_M_swanOf_29 : decode prog_14_method_37_code 29 = .ok (.iload_n 0, 1) := by decide +kernel
theorem d_M_swanOf_30 : decode prog_14_method_37_code 30 = .ok (.iload_n 0, 1) := by decide +kernel
theorem d_M_swanOf_31 : decode prog_14_method_37_code 31 = .ok (.iload_n 1, 1) := by decide +kernel
theorem d_M_swanOf_32 : decode prog_14_method_37_code 32 = .ok (.isub, 1) := by decide +kernel
theorem d_M_swanOf_33 : decode prog_14_method_37_code 33 = .ok (.invokestatic 169, 3) := by decide +kernel
theorem d_M_swanOf_36 : decode prog_14_method_37_code 36 = .ok (.ireturn, 1) := by decide +kernel
theorem d_M_swanOf_37 : decode prog_14_method_37_code 37 = .ok (.iload_n 0, 1) := by decide +kernel
theorem d_M_swanOf_38 : decode prog_14_method_37_code 38 = .ok (.iconst 2, 1) := by decide +kernel
theorem d_M_swanOf_39 : decode prog_14_method_37_code 39 = .ok (.irem, 1) := by decide +kernel
theorem d_M_swanOf_40 : decode prog_14_method_37_code 40 = .ok (.ifCond .ne 29, 3) := by decide +kernel
theorem d_M_swanOf_43 : decode prog_14_method_37_code 43 = .ok (.iload_n 0, 1) := by decide +kernel
theorem d_M_swanOf_44 : decode prog_14_method_37_code 44 = .ok (.iconst 2, 1) := by decide +kernel
theorem d_M_swanOf_45 : decode prog_14_method_37_code 45 = .ok (.idiv, 1) := by decide +kernel
theorem d_M_swanOf_46 : decode prog_14_method_37_code 46 = .ok (.iload_n 1, 1) := by decide +kernel
theorem d_M_swanOf_47 : decode prog_14_method_37_code 47 = .ok (.imul, 1) := by decide +kernel
theorem d_M_swanOf_48 : decode prog_14_method_37_code 48 = .ok (.iconst 4, 1) := by decide +kernel
theorem d_M_swanOf_49 : decode prog_14_method_37_code 49 = .ok (.irem, 1) := by decide +kernel
theorem d_M_swanOf_50 : decode prog_14_method_37_code 50 = .ok (.istore_n 2, 1) := by decide +kernel
theorem d_M_swanOf_51 : decode prog_14_method_37_code 51 = .ok (.iload_n 0, 1) := by decide +kernel
theorem d_M_swanOf_52 : decode prog_14_method_37_code 52 = .ok (.iconst 2, 1) := by decide +kernel
theorem d_M_swanOf_53 : decode prog_14_method_37_code 53 = .ok (.iload_n 1, 1) := by decide +kernel
theorem d_M_swanOf_54 : decode prog_14_method_37_code 54 = .ok (.imul, 1) := by decide +kernel
theorem d_M_swanOf_55 : decode prog_14_method_37_code 55 = .ok (.if_icmp .eq 8, 3) := by decide +kernel
theorem d_M_swanOf_58 : decode prog_14_method_37_code 58 = .ok (.iload_n 2, 1) := by decide +kernel
theorem d_M_swanOf_59 : decode prog_14_method_37_code 59 = .ok (.iconst 1, 1) := by decide +kernel
theorem d_M_swanOf_60 : decode prog_14_method_37_code 60 = .ok (.if_icmp .le 7, 3) := by decide +kernel
theorem d_M_swanOf_63 : decode prog_14_method_37_code 63 = .ok (.iconst 1, 1) := by decide +kernel
theorem d_M_swanOf_64 : decode prog_14_method_37_code 64 = .ok (.goto 4, 3) := by decide +kernel
theorem d_M_swanOf_67 : decode prog_14_method_37_code 67 = .ok (.iconst 0, 1) := by decide +kernel
theorem d_M_swanOf_68 : decode prog_14_method_37_code 68 = .ok (.ireturn, 1) := by decide +kernel
theorem d_M_swanOf_69 : decode prog_14_method_37_code 69 = .ok (.iload_n 0, 1) := by decide +kernel
theorem d_M_swanOf_70 : decode prog_14_method_37_code 70 = .ok (.bipush 8, 2) := by decide +kernel
theorem d_M_swanOf_72 : decode prog_14_method_37_code 72 = .ok (.irem, 1) := by decide +kernel
theorem d_M_swanOf_73 : decode prog_14_method_37_code 73 = .ok (.istore_n 2, 1) := by decide +kernel
theorem d_M_swanOf_74 : decode prog_14_method_37_code 74 = .ok (.iconst 2, 1) := by decide +kernel
theorem d_M_swanOf_75 : decode prog_14_method_37_code 75 = .ok (.iload_n 0, 1) := by decide +kernel
theorem d_M_swanOf_76 : decode prog_14_method_37_code 76 = .ok (.imul, 1) := by decide +kernel
theorem d_M_swanOf_77 : decode prog_14_method_37_code 77 = .ok (.iload_n 1, 1) := by decide +kernel
theorem d_M_swanOf_78 : decode prog_14_method_37_code 78 = .ok (.irem, 1) := by decide +kernel
theorem d_M_swanOf_79 : decode prog_14_method_37_code 79 = .ok (.ifCond .ne 22, 3) := by decide +kernel
theorem d_M_swanOf_82 : decode prog_14_method_37_code 82 = .ok (.iload_n 2, 1) := by decide +kernel
theorem d_M_swanOf_83 : decode prog_14_method_37_code 83 = .ok (.iconst 1, 1) := by decide +kernel
theorem d_M_swanOf_84 : decode prog_14_method_37_code 84 = .ok (.if_icmp .eq 9, 3) := by decide +kernel
theorem d_M_swanOf_87 : decode prog_14_method_37_code 87 = .ok (.iload_n 2, 1) := by decide +kernel
theorem d_M_swanOf_88 : decode prog_14_method_37_code 88 = .ok (.bipush 7, 2) := by decide +kernel
theorem d_M_swanOf_90 : decode prog_14_method_37_code 90 = .ok (.if_icmp .ne 7, 3) := by decide +kernel
theorem d_M_swanOf_93 : decode prog_14_method_37_code 93 = .ok (.iconst 1, 1) := by decide +kernel
theorem d_M_swanOf_94 : decode prog_14_method_37_code 94 = .ok (.goto 22, 3) := by decide +kernel
theorem d_M_swanOf_97 : decode prog_14_method_37_code 97 = .ok (.iconst 0, 1) := by decide +kernel
theorem d_M_swanOf_98 : decode prog_14_method_37_code 98 = .ok (.goto 18, 3) := by decide +kernel
theorem d_M_swanOf_101 : decode prog_14_method_37_code 101 = .ok (.iload_n 2, 1) := by decide +kernel
theorem d_M_swanOf_102 : decode prog_14_method_37_code 102 = .ok (.iconst 3, 1) := by decide +kernel
theorem d_M_swanOf_103 : decode prog_14_method_37_code 103 = .ok (.if_icmp .eq 8, 3) := by decide +kernel
theorem d_M_swanOf_106 : decode prog_14_method_37_code 106 = .ok (.iload_n 2, 1) := by decide +kernel
theorem d_M_swanOf_107 : decode prog_14_method_37_code 107 = .ok (.iconst 5, 1) := by decide +kernel
theorem d_M_swanOf_108 : decode prog_14_method_37_code 108 = .ok (.if_icmp .ne 7, 3) := by decide +kernel
theorem d_M_swanOf_111 : decode prog_14_method_37_code 111 = .ok (.iconst 1, 1) := by decide +kernel
theorem d_M_swanOf_112 : decode prog_14_method_37_code 112 = .ok (.goto 4, 3) := by decide +kernel
theorem d_M_swanOf_115 : decode prog_14_method_37_code 115 = .ok (.iconst 0, 1) := by decide +kernel
theorem d_M_swanOf_116 : decode prog_14_method_37_code 116 = .ok (.istore_n 3, 1) := by decide +kernel
theorem d_M_swanOf_117 : decode prog_14_method_37_code 117 = .ok (.iload_n 3, 1) := by decide +kernel
theorem d_M_swanOf_118 : decode prog_14_method_37_code 118 = .ok (.ifCond .eq 7, 3) := by decide +kernel
theorem d_M_swanOf_121 : decode prog_14_method_37_code 121 = .ok (.iconst 0, 1) := by decide +kernel
theorem d_M_swanOf_122 : decode prog_14_method_37_code 122 = .ok (.goto 4, 3) := by decide +kernel
theorem d_M_swanOf_125 : decode prog_14_method_37_code 125 = .ok (.iconst 1, 1) := by decide +kernel
theorem d_M_swanOf_126 : decode prog_14_method_37_code 126 = .ok (.ireturn, 1) := by decide +kernel
def cf_M_swanOf_B37 (NR : Int32 → Int32 → (Int32 → Prop) → Prop)   (P : Int32 → Prop) (x0 : Int32) (x1 : Int32)  : Prop :=
  ((¬ (irem x0 (2 : Int32)) = 0 → ∀ v1, v1 = irem x0 (8 : Int32) → ¬ x1 = 0 ∧ ((¬ (irem ((2 : Int32) * x0) x1) = 0 → ((v1 = (3 : Int32) → (((1 : Int32) = 0 → P (1 : Int32)) ∧ (¬ (1 : Int32) = 0 → P (0 : Int32)))) ∧ (¬ v1 = (3 : Int32) → ((¬ v1 = (5 : Int32) → (((0 : Int32) = 0 → P (1 : Int32)) ∧ (¬ (0 : Int32) = 0 → P (0 : Int32)))) ∧ (v1 = (5 : Int32) → (((1 : Int32) = 0 → P (1 : Int32)) ∧ (¬ (1 : Int32) = 0 → P (0 : Int32)))))))) ∧ ((irem ((2 : Int32) * x0) x1) = 0 → ((v1 = (1 : Int32) → (((1 : Int32) = 0 → P (1 : Int32)) ∧ (¬ (1 : Int32) = 0 → P (0 : Int32)))) ∧ (¬ v1 = (1 : Int32) → ((¬ v1 = (7 : Int32) → (((0 : Int32) = 0 → P (1 : Int32)) ∧ (¬ (0 : Int32) = 0 → P (0 : Int32)))) ∧ (v1 = (7 : Int32) → (((1 : Int32) = 0 → P (1 : Int32)) ∧ (¬ (1 : Int32) = 0 → P (0 : Int32)))))))))) ∧ ((irem x0 (2 : Int32)) = 0 → ∀ v2, v2 = irem ((x0 / (2 : Int32)) * x1) (4 : Int32) → ((x0 = ((2 : Int32) * x1) → P (1 : Int32)) ∧ (¬ x0 = ((2 : Int32) * x1) → ((v2 ≤ (1 : Int32) → P (0 : Int32)) ∧ (¬ v2 ≤ (1 : Int32) → P (1 : Int32)))))))
def cf_M_swanOf_B15 (NR : Int32 → Int32 → (Int32 → Prop) → Prop)   (P : Int32 → Prop) (x0 : Int32) (x1 : Int32)  : Prop :=
  ((¬ (irem x0 (2 : Int32)) = (1 : Int32) → cf_M_swanOf_B37 NR P x0 x1) ∧ ((irem x0 (2 : Int32)) = (1 : Int32) → ((¬ (irem x1 (2 : Int32)) = (1 : Int32) → cf_M_swanOf_B37 NR P x0 x1) ∧ ((irem x1 (2 : Int32)) = (1 : Int32) → NR x0 (x0 - x1) (fun r3 => P r3)))))
def cf_M_swanOf_E (NR : Int32 → Int32 → (Int32 → Prop) → Prop) (a0 : Int32) (a1 : Int32) (P : Int32 → Prop) : Prop :=
  ((¬ (irem a0 (2 : Int32)) = 0 → cf_M_swanOf_B15 NR P a0 a1) ∧ ((irem a0 (2 : Int32)) = 0 → ((¬ (irem a1 (2 : Int32)) = 0 → cf_M_swanOf_B15 NR P a0 a1) ∧ ((irem a1 (2 : Int32)) = 0 → P (-2 : Int32)))))
def cf_M_swanOf : Nat → Int32 → Int32 → (Int32 → Prop) → Prop
  | 0 => fun a0 a1 P => False
  | n + 1 => fun a0 a1 P => cf_M_swanOf_E (cf_M_swanOf n) a0 a1 P
theorem cf_M_swanOf_B37_ok {g : ayG} {d : Nat} {NR : Int32 → Int32 → (Int32 → Prop) → Prop} (D0 : Nat) (hNR : ∀ (d2 : Nat) (hd2 : D0 ≤ d2) (a0 : Int32) (a1 : Int32)  (w : Wd) (P : Int32 → Prop) (h : NR a0 a1 P), Call g y_M_swanOf prog_14_method_37_code 4 (some FieldType.int) d2 [.int a0, .int a1] w (fun (r : Option Value) (w2 : Wd) => ∃ x, r = some (.int x) ∧ w = w2 ∧ P x)) (hd : D0 + 1 ≤ d)   (w : Wd)  (P : Int32 → Prop) (Q : Option Value → Wd → Prop) (hQ : ∀ x, P x → Q (some (.int x)) w)  (x0 : Int32) (x1 : Int32) (h : cf_M_swanOf_B37 NR P x0 x1) : wp g (fun _ => True) y_M_swanOf prog_14_method_37_code 4 (some FieldType.int) d 37 [(0, .int x0), (1, .int x1)] [] w Q := by
  unfold cf_M_swanOf_B37 at h
  refine am_iload_n d_M_swanOf_37 0 rfl ?_
  refine am_iconst (v := 2) d_M_swanOf_38 rfl ?_
  refine am_irem d_M_swanOf_39 (by decide) ?_
  refine am_if_ne (tgt := 69) d_M_swanOf_40 (by decide) (fun c40 => ?_) (fun c40 => ?_)
  · have h := h.1 c40
    refine am_iload_n d_M_swanOf_69 0 rfl ?_
    refine am_bipush (v := 8) d_M_swanOf_70 rfl ?_
    refine am_irem d_M_swanOf_72 (by decide) ?_
    refine am_topi (fun v1 ev1 => ?_)
    have h := h v1 ev1
    refine am_istore_n (l' := [(2, .int v1), (0, .int x0), (1, .int x1)]) d_M_swanOf_73 (by decide) rfl ?_
    refine am_iconst (v := 2) d_M_swanOf_74 rfl ?_
    refine am_iload_n d_M_swanOf_75 1 rfl ?_
    refine am_imul d_M_swanOf_76 ?_
    refine am_iload_n d_M_swanOf_77 2 rfl ?_
    have hz78 := h.1
    have h := h.2
    refine am_irem d_M_swanOf_78 hz78 ?_
    refine am_if_ne (tgt := 101) d_M_swanOf_79 (by decide) (fun c79 => ?_) (fun c79 => ?_)
    · have h := h.1 c79
      refine am_iload_n d_M_swanOf_101 0 rfl ?_
      refine am_iconst (v := 3) d_M_swanOf_102 rfl ?_
      refine am_icmp_eq (tgt := 111) d_M_swanOf_103 (by decide) (fun c103 => ?_) (fun c103 => ?_)
      · have h := h.1 c103
        refine am_iconst (v := 1) d_M_swanOf_111 rfl ?_
        refine am_goto (tgt := 116) d_M_swanOf_112 (by decide) ?_
        refine am_istore_n (l' := [(3, .int (1 : Int32)), (2, .int v1), (0, .int x0), (1, .int x1)]) d_M_swanOf_116 (by decide) rfl ?_
        refine am_iload_n d_M_swanOf_117 0 rfl ?_
        refine am_if_eq (tgt := 125) d_M_swanOf_118 (by decide) (fun c118 => ?_) (fun c118 => ?_)
        · have h := h.1 c118
          refine am_iconst (v := 1) d_M_swanOf_125 rfl ?_
          exact am_ireturn d_M_swanOf_126 rfl rfl (hQ (1 : Int32) h)
        · have h := h.2 c118
          refine am_iconst (v := 0) d_M_swanOf_121 rfl ?_
          refine am_goto (tgt := 126) d_M_swanOf_122 (by decide) ?_
          exact am_ireturn d_M_swanOf_126 rfl rfl (hQ (0 : Int32) h)
      · have h := h.2 c103
        refine am_iload_n d_M_swanOf_106 0 rfl ?_
        refine am_iconst (v := 5) d_M_swanOf_107 rfl ?_
        refine am_icmp_ne (tgt := 115) d_M_swanOf_108 (by decide) (fun c108 => ?_) (fun c108 => ?_)
        · have h := h.1 c108
          refine am_iconst (v := 0) d_M_swanOf_115 rfl ?_
          refine am_istore_n (l' := [(3, .int (0 : Int32)), (2, .int v1), (0, .int x0), (1, .int x1)]) d_M_swanOf_116 (by decide) rfl ?_
          refine am_iload_n d_M_swanOf_117 0 rfl ?_
          refine am_if_eq (tgt := 125) d_M_swanOf_118 (by decide) (fun c118 => ?_) (fun c118 => ?_)
          · have h := h.1 c118
            refine am_iconst (v := 1) d_M_swanOf_125 rfl ?_
            exact am_ireturn d_M_swanOf_126 rfl rfl (hQ (1 : Int32) h)
          · have h := h.2 c118
            refine am_iconst (v := 0) d_M_swanOf_121 rfl ?_
            refine am_goto (tgt := 126) d_M_swanOf_122 (by decide) ?_
            exact am_ireturn d_M_swanOf_126 rfl rfl (hQ (0 : Int32) h)
        · have h := h.2 c108
          refine am_iconst (v := 1) d_M_swanOf_111 rfl ?_
          refine am_goto (tgt := 116) d_M_swanOf_112 (by decide) ?_
          refine am_istore_n (l' := [(3, .int (1 : Int32)), (2, .int v1), (0, .int x0), (1, .int x1)]) d_M_swanOf_116 (by decide) rfl ?_
          refine am_iload_n d_M_swanOf_117 0 rfl ?_
          refine am_if_eq (tgt := 125) d_M_swanOf_118 (by decide) (fun c118 => ?_) (fun c118 => ?_)
          · have h := h.1 c118
            refine am_iconst (v := 1) d_M_swanOf_125 rfl ?_
            exact am_ireturn d_M_swanOf_126 rfl rfl (hQ (1 : Int32) h)
          · have h := h.2 c118
            refine am_iconst (v := 0) d_M_swanOf_121 rfl ?_
            refine am_goto (tgt := 126) d_M_swanOf_122 (by decide) ?_
            exact am_ireturn d_M_swanOf_126 rfl rfl (hQ (0 : Int32) h)
    · have h := h.2 c79
      refine am_iload_n d_M_swanOf_82 0 rfl ?_
      refine am_iconst (v := 1) d_M_swanOf_83 rfl ?_
      refine am_icmp_eq (tgt := 93) d_M_swanOf_84 (by decide) (fun c84 => ?_) (fun c84 => ?_)
      · have h := h.1 c84
        refine am_iconst (v := 1) d_M_swanOf_93 rfl ?_
        refine am_goto (tgt := 116) d_M_swanOf_94 (by decide) ?_
        refine am_istore_n (l' := [(3, .int (1 : Int32)), (2, .int v1), (0, .int x0), (1, .int x1)]) d_M_swanOf_116 (by decide) rfl ?_
        refine am_iload_n d_M_swanOf_117 0 rfl ?_
        refine am_if_eq (tgt := 125) d_M_swanOf_118 (by decide) (fun c118 => ?_) (fun c118 => ?_)
        · have h := h.1 c118
          refine am_iconst (v := 1) d_M_swanOf_125 rfl ?_
          exact am_ireturn d_M_swanOf_126 rfl rfl (hQ (1 : Int32) h)
        · have h := h.2 c118
          refine am_iconst (v := 0) d_M_swanOf_121 rfl ?_
          refine am_goto (tgt := 126) d_M_swanOf_122 (by decide) ?_
          exact am_ireturn d_M_swanOf_126 rfl rfl (hQ (0 : Int32) h)
      · have h := h.2 c84
        refine am_iload_n d_M_swanOf_87 0 rfl ?_
        refine am_bipush (v := 7) d_M_swanOf_88 rfl ?_
        refine am_icmp_ne (tgt := 97) d_M_swanOf_90 (by decide) (fun c90 => ?_) (fun c90 => ?_)
        · have h := h.1 c90
          refine am_iconst (v := 0) d_M_swanOf_97 rfl ?_
          refine am_goto (tgt := 116) d_M_swanOf_98 (by decide) ?_
          refine am_istore_n (l' := [(3, .int (0 : Int32)), (2, .int v1), (0, .int x0), (1, .int x1)]) d_M_swanOf_116 (by decide) rfl ?_
          refine am_iload_n d_M_swanOf_117 0 rfl ?_
          refine am_if_eq (tgt := 125) d_M_swanOf_118 (by decide) (fun c118 => ?_) (fun c118 => ?_)
          · have h := h.1 c118
            refine am_iconst (v := 1) d_M_swanOf_125 rfl ?_
            exact am_ireturn d_M_swanOf_126 rfl rfl (hQ (1 : Int32) h)
          · have h := h.2 c118
            refine am_iconst (v := 0) d_M_swanOf_121 rfl ?_
            refine am_goto (tgt := 126) d_M_swanOf_122 (by decide) ?_
            exact am_ireturn d_M_swanOf_126 rfl rfl (hQ (0 : Int32) h)
        · have h := h.2 c90
          refine am_iconst (v := 1) d_M_swanOf_93 rfl ?_
          refine am_goto (tgt := 116) d_M_swanOf_94 (by decide) ?_
          refine am_istore_n (l' := [(3, .int (1 : Int32)), (2, .int v1), (0, .int x0), (1, .int x1)]) d_M_swanOf_116 (by decide) rfl ?_
          refine am_iload_n d_M_swanOf_117 0 rfl ?_
          refine am_if_eq (tgt := 125) d_M_swanOf_118 (by decide) (fun c118 => ?_) (fun c118 => ?_)
          · have h := h.1 c118
            refine am_iconst (v := 1) d_M_swanOf_125 rfl ?_
            exact am_ireturn d_M_swanOf_126 rfl rfl (hQ (1 : Int32) h)
          · have h := h.2 c118
            refine am_iconst (v := 0) d_M_swanOf_121 rfl ?_
            refine am_goto (tgt := 126) d_M_swanOf_122 (by decide) ?_
            exact am_ireturn d_M_swanOf_126 rfl rfl (hQ (0 : Int32) h)
  · have h := h.2 c40
    refine am_iload_n d_M_swanOf_43 0 rfl ?_
    refine am_iconst (v := 2) d_M_swanOf_44 rfl ?_
    refine am_idiv d_M_swanOf_45 (by decide) ?_
    refine am_iload_n d_M_swanOf_46 1 rfl ?_
    refine am_imul d_M_swanOf_47 ?_
    refine am_iconst (v := 4) d_M_swanOf_48 rfl ?_
    refine am_irem d_M_swanOf_49 (by decide) ?_
    refine am_topi (fun v2 ev2 => ?_)
    have h := h v2 ev2
    refine am_istore_n (l' := [(2, .int v2), (0, .int x0), (1, .int x1)]) d_M_swanOf_50 (by decide) rfl ?_
    refine am_iload_n d_M_swanOf_51 1 rfl ?_
    refine am_iconst (v := 2) d_M_swanOf_52 rfl ?_
    refine am_iload_n d_M_swanOf_53 2 rfl ?_
    refine am_imul d_M_swanOf_54 ?_
    refine am_icmp_eq (tgt := 63) d_M_swanOf_55 (by decide) (fun c55 => ?_) (fun c55 => ?_)
    · have h := h.1 c55
      refine am_iconst (v := 1) d_M_swanOf_63 rfl ?_
      refine am_goto (tgt := 68) d_M_swanOf_64 (by decide) ?_
      exact am_ireturn d_M_swanOf_68 rfl rfl (hQ (1 : Int32) h)
    · have h := h.2 c55
      refine am_iload_n d_M_swanOf_58 0 rfl ?_
      refine am_iconst (v := 1) d_M_swanOf_59 rfl ?_
      refine am_icmp_le (tgt := 67) d_M_swanOf_60 (by decide) (fun c60 => ?_) (fun c60 => ?_)
      · have h := h.1 c60
        refine am_iconst (v := 0) d_M_swanOf_67 rfl ?_
        exact am_ireturn d_M_swanOf_68 rfl rfl (hQ (0 : Int32) h)
      · have h := h.2 c60
        refine am_iconst (v := 1) d_M_swanOf_63 rfl ?_
        refine am_goto (tgt := 68) d_M_swanOf_64 (by decide) ?_
        exact am_ireturn d_M_swanOf_68 rfl rfl (hQ (1 : Int32) h)
theorem cf_M_swanOf_B15_ok {g : ayG} {d : Nat} {NR : Int32 → Int32 → (Int32 → Prop) → Prop} (D0 : Nat) (hNR : ∀ (d2 : Nat) (hd2 : D0 ≤ d2) (a0 : Int32) (a1 : Int32)  (w : Wd) (P : Int32 → Prop) (h : NR a0 a1 P), Call g y_M_swanOf prog_14_method_37_code 4 (some FieldType.int) d2 [.int a0, .int a1] w (fun (r : Option Value) (w2 : Wd) => ∃ x, r = some (.int x) ∧ w = w2 ∧ P x)) (hd : D0 + 1 ≤ d)   (w : Wd)  (P : Int32 → Prop) (Q : Option Value → Wd → Prop) (hQ : ∀ x, P x → Q (some (.int x)) w)  (x0 : Int32) (x1 : Int32) (h : cf_M_swanOf_B15 NR P x0 x1) : wp g (fun _ => True) y_M_swanOf prog_14_method_37_code 4 (some FieldType.int) d 15 [(0, .int x0), (1, .int x1)] [] w Q := by
  unfold cf_M_swanOf_B15 at h
  refine am_iload_n d_M_swanOf_15 0 rfl ?_
  refine am_iconst (v := 2) d_M_swanOf_16 rfl ?_
  refine am_irem d_M_swanOf_17 (by decide) ?_
  refine am_iconst (v := 1) d_M_swanOf_18 rfl ?_
  refine am_icmp_ne (tgt := 37) d_M_swanOf_19 (by decide) (fun c19 => ?_) (fun c19 => ?_)
  · have h := h.1 c19
    refine am_sub [0, 1] rfl ?_
    exact cf_M_swanOf_B37_ok _ hNR (by omega)   w  P Q hQ  x0 x1 h
  · have h := h.2 c19
    refine am_iload_n d_M_swanOf_22 1 rfl ?_
    refine am_iconst (v := 2) d_M_swanOf_23 rfl ?_
    refine am_irem d_M_swanOf_24 (by decide) ?_
    refine am_iconst (v := 1) d_M_swanOf_25 rfl ?_
    refine am_icmp_ne (tgt := 37) d_M_swanOf_26 (by decide) (fun c26 => ?_) (fun c26 => ?_)
    · have h := h.1 c26
      refine am_sub [0, 1] rfl ?_
      exact cf_M_swanOf_B37_ok _ hNR (by omega)   w  P Q hQ  x0 x1 h
    · have h := h.2 c26
      refine am_iload_n d_M_swanOf_29 0 rfl ?_
      refine am_iload_n d_M_swanOf_30 0 rfl ?_
      refine am_iload_n d_M_swanOf_31 1 rfl ?_
      refine am_isub d_M_swanOf_32 ?_
      refine am_callS (d2 := d - 1) [.int x0, .int (x0 - x1)] d_M_swanOf_33 mi_M_swanOf wd_1290 wd_1291 (by omega) rfl rfl (Nat.le_of_ble_eq_true rfl) ?_
      refine Call.post ?_ (hNR (d - 1) (by omega) x0 (x0 - x1)  w _ h)
      rintro _ _ ⟨r3, rfl, rfl, h⟩
      show wp g (fun _ => True) y_M_swanOf prog_14_method_37_code 4 (some FieldType.int) d 36 [(0, .int x0), (1, .int x1)] [.int r3] w Q
      exact am_ireturn d_M_swanOf_36 rfl rfl (hQ r3 h)
theorem cf_M_swanOf_ok {g : ayG} : ∀ (n d : Nat) (hd : 1 * n + 0 ≤ d) (a0 : Int32) (a1 : Int32)  (w : Wd) (P : Int32 → Prop) (h : cf_M_swanOf n a0 a1 P), Call g y_M_swanOf prog_14_method_37_code 4 (some FieldType.int) d [.int a0, .int a1] w (fun (r : Option Value) (w2 : Wd) => ∃ x, r = some (.int x) ∧ w = w2 ∧ P x)
  | 0, d, hd, a0, a1, w, P, h => False.elim h
  | n + 1, d, hd, a0, a1, w, P, h => by
    have h : cf_M_swanOf_E (cf_M_swanOf n) a0 a1 P := h
    have hNR : ∀ (d2 : Nat) (hd2 : 1 * n + 0 ≤ d2) (a0 : Int32) (a1 : Int32)  (w : Wd) (P : Int32 → Prop) (h : (cf_M_swanOf n) a0 a1 P), Call g y_M_swanOf prog_14_method_37_code 4 (some FieldType.int) d2 [.int a0, .int a1] w (fun (r : Option Value) (w2 : Wd) => ∃ x, r = some (.int x) ∧ w = w2 ∧ P x) := fun  d2 hd2 => cf_M_swanOf_ok n d2 hd2 
    generalize cf_M_swanOf n = NR at h hNR
    unfold cf_M_swanOf_E at h
    refine am_enter mi_M_swanOf (Nat.le_of_ble_eq_true rfl) ?_
    have hQ : ∀ x, P x → (fun (r : Option Value) (w2 : Wd) => ∃ x, r = some (.int x) ∧ w = w2 ∧ P x) (some (.int x)) w := fun x h => ⟨x, rfl, rfl, h⟩
    generalize (fun (r : Option Value) (w2 : Wd) => ∃ x, r = some (.int x) ∧ w = w2 ∧ P x) = Q at hQ ⊢
    show wp g (fun _ => True) y_M_swanOf prog_14_method_37_code 4 (some FieldType.int) d 0 [(0, .int a0), (1, .int a1)] [] w Q
    refine am_iload_n d_M_swanOf_0 0 rfl ?_
    refine am_iconst (v := 2) d_M_swanOf_1 rfl ?_
    refine am_irem d_M_swanOf_2 (by decide) ?_
    refine am_if_ne (tgt := 15) d_M_swanOf_3 (by decide) (fun c3 => ?_) (fun c3 => ?_)
    · have h := h.1 c3
      refine am_sub [0, 1] rfl ?_
      exact cf_M_swanOf_B15_ok _ hNR (by omega)   w  P Q hQ  a0 a1 h
    · have h := h.2 c3
      refine am_iload_n d_M_swanOf_6 1 rfl ?_
      refine am_iconst (v := 2) d_M_swanOf_7 rfl ?_
      refine am_irem d_M_swanOf_8 (by decide) ?_
      refine am_if_ne (tgt := 15) d_M_swanOf_9 (by decide) (fun c9 => ?_) (fun c9 => ?_)
      · have h := h.1 c9
        refine am_sub [0, 1] rfl ?_
        exact cf_M_swanOf_B15_ok _ hNR (by omega)   w  P Q hQ  a0 a1 h
      · have h := h.2 c9
        refine am_bipush (v := -2) d_M_swanOf_12 rfl ?_
        exact am_ireturn d_M_swanOf_14 rfl rfl (hQ (-2 : Int32) h)
def cf_M_swanOf_W (a0 : Int32) (a1 : Int32) (P : Int32 → Prop) : Prop := ∃ n, n ≤ 3 ∧ cf_M_swanOf n a0 a1 P
theorem cf_M_swanOf_W_ok {g : ayG} {d : Nat} (hd : 3 ≤ d) (a0 : Int32) (a1 : Int32)  (w : Wd) (P : Int32 → Prop) (h : cf_M_swanOf_W a0 a1 P) : Call g y_M_swanOf prog_14_method_37_code 4 (some FieldType.int) d [.int a0, .int a1] w (fun (r : Option Value) (w2 : Wd) => ∃ x, r = some (.int x) ∧ w = w2 ∧ P x) := by
  obtain ⟨n, hn, h⟩ := h
  exact cf_M_swanOf_ok n d (by omega) a0 a1  w P h
theorem d_M_swan_0 : decode prog_14_method_38_code 0 = .ok (.iload_n 1, 1) := by decide +kernel
theorem d_M_swan_1 : decode prog_14_method_38_code 1 = .ok (.i2l, 1) := by decide +kernel
theorem d_M_swan_2 : decode prog_14_method_38_code 2 = .ok (.ldc2_w 107, 3) := by decide +kernel
theorem d_M_swan_5 : decode prog_14_method_38_code 5 = .ok (.ldc2_w 173, 3) := by decide +kernel
theorem d_M_swan_8 : decode prog_14_method_38_code 8 = .ok (.invokestatic 76, 3) := by decide +kernel
theorem d_M_swan_11 : decode prog_14_method_38_code 11 = .ok (.ifCond .eq 24, 3) := by decide +kernel
theorem d_M_swan_14 : decode prog_14_method_38_code 14 = .ok (.iload_n 2, 1) := by decide +kernel
theorem d_M_swan_15 : decode prog_14_method_38_code 15 = .ok (.i2l, 1) := by decide +kernel
theorem d_M_swan_16 : decode prog_14_method_38_code 16 = .ok (.lconst 1, 1) := by decide +kernel
theorem d_M_swan_17 : decode prog_14_method_38_code 17 = .ok (.iload_n 1, 1) := by decide +kernel
theorem d_M_swan_18 : decode prog_14_method_38_code 18 = .ok (.iconst 1, 1) := by decide +kernel
theorem d_M_swan_19 : decode prog_14_method_38_code 19 = .ok (.isub, 1) := by decide +kernel
theorem d_M_swan_20 : decode prog_14_method_38_code 20 = .ok (.i2l, 1) := by decide +kernel
theorem d_M_swan_21 : decode prog_14_method_38_code 21 = .ok (.invokestatic 76, 3) := by decide +kernel
theorem d_M_swan_24 : decode prog_14_method_38_code 24 = .ok (.ifCond .eq 11, 3) := by decide +kernel
theorem d_M_swan_27 : decode prog_14_method_38_code 27 = .ok (.iload_n 1, 1) := by decide +kernel
theorem d_M_swan_28 : decode prog_14_method_38_code 28 = .ok (.iload_n 2, 1) := by decide +kernel
theorem d_M_swan_29 : decode prog_14_method_38_code 29 = .ok (.invokestatic 169, 3) := by decide +kernel
theorem d_M_swan_32 : decode prog_14_method_38_code 32 = .ok (.goto 4, 3) := by decide +kernel
theorem d_M_swan_35 : decode prog_14_method_38_code 35 = .ok (.iconst (-1), 1) := by decide +kernel
theorem d_M_swan_36 : decode prog_14_method_38_code 36 = .ok (.ireturn, 1) := by decide +kernel
def cf_M_swan (a0 : Int32) (a1 : Int32) (P : Int32 → Prop) : Prop :=
  cf_M_in a0.toInt64 (2 : Int64) (2000 : Int64) (fun r1 => ((r1 = 0 → P (-1 : Int32)) ∧ (¬ r1 = 0 → cf_M_in a1.toInt64 (1 : Int64) ((a0 - (1 : Int32)).toInt64) (fun r2 => ((r2 = 0 → P (-1 : Int32)) ∧ (¬ r2 = 0 → cf_M_swanOf_W a0 a1 (fun r3 => P r3)))))))
theorem cf_M_swan_ok {g : ayG} {d : Nat} (hd : 4 ≤ d) (a0 : Int32) (a1 : Int32)  (w : Wd) (P : Int32 → Prop) (h : cf_M_swan a0 a1 P) : Call g y_M_swan prog_14_method_38_code 3 (some FieldType.int) d [.ref (g.1 + 30), .int a0, .int a1] w (fun (r : Option Value) (w2 : Wd) => ∃ x, r = some (.int x) ∧ w = w2 ∧ P x) := by
  unfold cf_M_swan at h
  refine am_enter mi_M_swan (Nat.le_of_ble_eq_true rfl) ?_
  have hQ : ∀ x, P x → (fun (r : Option Value) (w2 : Wd) => ∃ x, r = some (.int x) ∧ w = w2 ∧ P x) (some (.int x)) w := fun x h => ⟨x, rfl, rfl, h⟩
  generalize (fun (r : Option Value) (w2 : Wd) => ∃ x, r = some (.int x) ∧ w = w2 ∧ P x) = Q at hQ ⊢
  show wp g (fun _ => True) y_M_swan prog_14_method_38_code 3 (some FieldType.int) d 0 [(0, .ref (g.1 + 30)), (1, .int a0), (2, .int a1)] [] w Q
  refine am_iload_n d_M_swan_0 1 rfl ?_
  refine am_i2l d_M_swan_1 ?_
  refine am_ldc2 (v := 2) d_M_swan_2 wd_1205 ?_
  refine am_ldc2 (v := 2000) d_M_swan_5 wd_1289 ?_
  refine am_callS (d2 := d - 1) [.long a0.toInt64, .long (2 : Int64), .long (2000 : Int64)] d_M_swan_8 mi_M_in wd_1192 wd_1193 (by omega) rfl rfl (Nat.le_of_ble_eq_true rfl) ?_
  refine Call.post ?_ (cf_M_in_ok (by omega) a0.toInt64 (2 : Int64) (2000 : Int64)  w _ h)
  rintro _ _ ⟨r1, rfl, rfl, h⟩
  show wp g (fun _ => True) y_M_swan prog_14_method_38_code 3 (some FieldType.int) d 11 [(0, .ref (g.1 + 30)), (1, .int a0), (2, .int a1)] [.int r1] w Q
  refine am_if_eq (tgt := 35) d_M_swan_11 (by decide) (fun c11 => ?_) (fun c11 => ?_)
  · have h := h.1 c11
    refine am_iconst (v := -1) d_M_swan_35 rfl ?_
    exact am_ireturn d_M_swan_36 rfl rfl (hQ (-1 : Int32) h)
  · have h := h.2 c11
    refine am_iload_n d_M_swan_14 2 rfl ?_
    refine am_i2l d_M_swan_15 ?_
    refine am_lconst (v := 1) d_M_swan_16 rfl ?_
    refine am_iload_n d_M_swan_17 1 rfl ?_
    refine am_iconst (v := 1) d_M_swan_18 rfl ?_
    refine am_isub d_M_swan_19 ?_
    refine am_i2l d_M_swan_20 ?_
    refine am_callS (d2 := d - 1) [.long a1.toInt64, .long (1 : Int64), .long ((a0 - (1 : Int32)).toInt64)] d_M_swan_21 mi_M_in wd_1192 wd_1193 (by omega) rfl rfl (Nat.le_of_ble_eq_true rfl) ?_
    refine Call.post ?_ (cf_M_in_ok (by omega) a1.toInt64 (1 : Int64) ((a0 - (1 : Int32)).toInt64)  w _ h)
    rintro _ _ ⟨r2, rfl, rfl, h⟩
    show wp g (fun _ => True) y_M_swan prog_14_method_38_code 3 (some FieldType.int) d 24 [(0, .ref (g.1 + 30)), (1, .int a0), (2, .int a1)] [.int r2] w Q
    refine am_if_eq (tgt := 35) d_M_swan_24 (by decide) (fun c24 => ?_) (fun c24 => ?_)
    · have h := h.1 c24
      refine am_iconst (v := -1) d_M_swan_35 rfl ?_
      exact am_ireturn d_M_swan_36 rfl rfl (hQ (-1 : Int32) h)
    · have h := h.2 c24
      refine am_iload_n d_M_swan_27 1 rfl ?_
      refine am_iload_n d_M_swan_28 2 rfl ?_
      refine am_callS (d2 := d - 1) [.int a0, .int a1] d_M_swan_29 mi_M_swanOf wd_1290 wd_1291 (by omega) rfl rfl (Nat.le_of_ble_eq_true rfl) ?_
      refine Call.post ?_ (cf_M_swanOf_W_ok (by omega) a0 a1  w _ h)
      rintro _ _ ⟨r3, rfl, rfl, h⟩
      show wp g (fun _ => True) y_M_swan prog_14_method_38_code 3 (some FieldType.int) d 32 [(0, .ref (g.1 + 30)), (1, .int a0), (2, .int a1)] [.int r3] w Q
      refine am_goto (tgt := 36) d_M_swan_32 (by decide) ?_
      exact am_ireturn d_M_swan_36 rfl rfl (hQ r3 h)
theorem d_M_evens_0 : decode prog_14_method_39_code 0 = .ok (.iload_n 1, 1) := by decide +kernel
theorem d_M_evens_1 : decode prog_14_method_39_code 1 = .ok (.i2l, 1) := by decide +kernel
theorem d_M_evens_2 : decode prog_14_method_39_code 2 = .ok (.ldc2_w 107, 3) := by decide +kernel
theorem d_M_evens_5 : decode prog_14_method_39_code 5 = .ok (.ldc2_w 173, 3) := by decide +kernel
theorem d_M_evens_8 : decode prog_14_method_39_code 8 = .ok (.invokestatic 76, 3) := by decide +kernel
theorem d_M_evens_11 : decode prog_14_method_39_code 11 = .ok (.ifCond .ne 5, 3) := by decide +kernel
theorem d_M_evens_14 : decode prog_14_method_39_code 14 = .ok (.iconst (-1), 1) := by decide +kernel
theorem d_M_evens_15 : decode prog_14_method_39_code 15 = .ok (.ireturn, 1) := by decide +kernel
theorem d_M_evens_16 : decode prog_14_method_39_code 16 = .ok (.iconst 0, 1) := by decide +kernel
theorem d_M_evens_17 : decode prog_14_method_39_code 17 = .ok (.istore_n 2, 1) := by decide +kernel
theorem d_M_evens_18 : decode prog_14_method_39_code 18 = .ok (.iconst 1, 1) := by decide +kernel
theorem d_M_evens_19 : decode prog_14_method_39_code 19 = .ok (.istore_n 3, 1) := by decide +kernel
theorem d_M_evens_20 : decode prog_14_method_39_code 20 = .ok (.iload_n 3, 1) := by decide +kernel
theorem d_M_evens_21 : decode prog_14_method_39_code 21 = .ok (.iload_n 1, 1) := by decide +kernel
theorem d_M_evens_22 : decode prog_14_method_39_code 22 = .ok (.if_icmp .ge 25, 3) := by decide +kernel
theorem d_M_evens_25 : decode prog_14_method_39_code 25 = .ok (.iload_n 2, 1) := by decide +kernel
theorem d_M_evens_26 : decode prog_14_method_39_code 26 = .ok (.iload_n 1, 1) := by decide +kernel
theorem d_M_evens_27 : decode prog_14_method_39_code 27 = .ok (.iload_n 3, 1) := by decide +kernel
theorem d_M_evens_28 : decode prog_14_method_39_code 28 = .ok (.invokestatic 169, 3) := by decide +kernel
theorem d_M_evens_31 : decode prog_14_method_39_code 31 = .ok (.ifCond .ne 7, 3) := by decide +kernel
theorem d_M_evens_34 : decode prog_14_method_39_code 34 = .ok (.iconst 1, 1) := by decide +kernel
theorem d_M_evens_35 : decode prog_14_method_39_code 35 = .ok (.goto 4, 3) := by decide +kernel
theorem d_M_evens_38 : decode prog_14_method_39_code 38 = .ok (.iconst 0, 1) := by decide +kernel
theorem d_M_evens_39 : decode prog_14_method_39_code 39 = .ok (.iadd, 1) := by decide +kernel
theorem d_M_evens_40 : decode prog_14_method_39_code 40 = .ok (.istore_n 2, 1) := by decide +kernel
theorem d_M_evens_41 : decode prog_14_method_39_code 41 = .ok (.iinc 3 1, 3) := by decide +kernel
theorem d_M_evens_44 : decode prog_14_method_39_code 44 = .ok (.goto (-24), 3) := by decide +kernel
theorem d_M_evens_47 : decode prog_14_method_39_code 47 = .ok (.iload_n 2, 1) := by decide +kernel
theorem d_M_evens_48 : decode prog_14_method_39_code 48 = .ok (.ireturn, 1) := by decide +kernel
def cf_M_evens_B20  (K20 : Int32 → Int32 → Int32 → Prop) (P : Int32 → Prop) (x1 : Int32) (x2 : Int32) (x3 : Int32)  : Prop :=
  ((x1 ≤ x3 → P x2) ∧ (¬ x1 ≤ x3 → cf_M_swanOf_W x1 x3 (fun r2 => ((¬ r2 = 0 → ∀ v3, v3 = x2 + (0 : Int32) → ∀ v4, v4 = x3 + (1 : Int32) → K20 x1 v3 v4) ∧ (r2 = 0 → ∀ v5, v5 = x2 + (1 : Int32) → ∀ v6, v6 = x3 + (1 : Int32) → K20 x1 v5 v6)))))
def cf_M_evens_L20   (P : Int32 → Prop) : Nat → Int32 → Int32 → Int32 → Prop
  | 0 => fun x1 x2 x3 => False
  | n + 1 => fun x1 x2 x3 => cf_M_evens_B20 (cf_M_evens_L20 P n) P x1 x2 x3
def cf_M_evens (a0 : Int32) (P : Int32 → Prop) : Prop :=
  cf_M_in a0.toInt64 (2 : Int64) (2000 : Int64) (fun r1 => ((¬ r1 = 0 → ∃ n, cf_M_evens_L20 P n a0 (0 : Int32) (1 : Int32)) ∧ (r1 = 0 → P (-1 : Int32))))
theorem cf_M_evens_B20_ok {g : ayG} {d : Nat} (hd : 4 ≤ d)   (w : Wd) (K20 : Int32 → Int32 → Int32 → Prop) (P : Int32 → Prop) (Q : Option Value → Wd → Prop) (hQ : ∀ x, P x → Q (some (.int x)) w) (hK20 : ∀ (x1 : Int32) (x2 : Int32) (x3 : Int32), (K20 x1 x2 x3 → wp g (fun _ => True) y_M_evens prog_14_method_39_code 4 (some FieldType.int) d 20 [(1, .int x1), (2, .int x2), (3, .int x3)] [] w Q)) (x1 : Int32) (x2 : Int32) (x3 : Int32) (h : cf_M_evens_B20 K20 P x1 x2 x3) : wp g (fun _ => True) y_M_evens prog_14_method_39_code 4 (some FieldType.int) d 20 [(1, .int x1), (2, .int x2), (3, .int x3)] [] w Q := by
  unfold cf_M_evens_B20 at h
  refine am_iload_n d_M_evens_20 2 rfl ?_
  refine am_iload_n d_M_evens_21 0 rfl ?_
  refine am_icmp_ge (tgt := 47) d_M_evens_22 (by decide) (fun c22 => ?_) (fun c22 => ?_)
  · have h := h.1 c22
    refine am_iload_n d_M_evens_47 1 rfl ?_
    exact am_ireturn d_M_evens_48 rfl rfl (hQ x2 h)
  · have h := h.2 c22
    refine am_iload_n d_M_evens_25 1 rfl ?_
    refine am_iload_n d_M_evens_26 0 rfl ?_
    refine am_iload_n d_M_evens_27 2 rfl ?_
    refine am_callS (d2 := d - 1) [.int x1, .int x3] d_M_evens_28 mi_M_swanOf wd_1290 wd_1291 (by omega) rfl rfl (Nat.le_of_ble_eq_true rfl) ?_
    refine Call.post ?_ (cf_M_swanOf_W_ok (by omega) x1 x3  w _ h)
    rintro _ _ ⟨r2, rfl, rfl, h⟩
    show wp g (fun _ => True) y_M_evens prog_14_method_39_code 4 (some FieldType.int) d 31 [(1, .int x1), (2, .int x2), (3, .int x3)] [.int r2, .int x2] w Q
    refine am_if_ne (tgt := 38) d_M_evens_31 (by decide) (fun c31 => ?_) (fun c31 => ?_)
    · have h := h.1 c31
      refine am_iconst (v := 0) d_M_evens_38 rfl ?_
      refine am_iadd d_M_evens_39 ?_
      refine am_topi (fun v3 ev3 => ?_)
      have h := h v3 ev3
      refine am_istore_n (l' := [(2, .int v3), (1, .int x1), (3, .int x3)]) d_M_evens_40 (by decide) rfl ?_
      obtain ⟨v4, ev4⟩ : ∃ z : Int32, z = x3 + (1 : Int32) := ⟨_, rfl⟩
      have h := h v4 ev4
      refine am_iinc (v := v4) (l' := [(3, .int v4), (2, .int v3), (1, .int x1)]) d_M_evens_41 2 rfl (by rw [ev4]; rfl) (by decide) rfl ?_
      refine am_goto (tgt := 20) d_M_evens_44 (by decide) ?_
      refine am_sub [2, 1, 0] rfl ?_
      exact hK20 x1 v3 v4 h
    · have h := h.2 c31
      refine am_iconst (v := 1) d_M_evens_34 rfl ?_
      refine am_goto (tgt := 39) d_M_evens_35 (by decide) ?_
      refine am_iadd d_M_evens_39 ?_
      refine am_topi (fun v5 ev5 => ?_)
      have h := h v5 ev5
      refine am_istore_n (l' := [(2, .int v5), (1, .int x1), (3, .int x3)]) d_M_evens_40 (by decide) rfl ?_
      obtain ⟨v6, ev6⟩ : ∃ z : Int32, z = x3 + (1 : Int32) := ⟨_, rfl⟩
      have h := h v6 ev6
      refine am_iinc (v := v6) (l' := [(3, .int v6), (2, .int v5), (1, .int x1)]) d_M_evens_41 2 rfl (by rw [ev6]; rfl) (by decide) rfl ?_
      refine am_goto (tgt := 20) d_M_evens_44 (by decide) ?_
      refine am_sub [2, 1, 0] rfl ?_
      exact hK20 x1 v5 v6 h
theorem cf_M_evens_L20_ok {g : ayG} {d : Nat} (hd : 4 ≤ d)   (w : Wd)  (P : Int32 → Prop) (Q : Option Value → Wd → Prop) (hQ : ∀ x, P x → Q (some (.int x)) w)  : ∀ (n : Nat) (x1 : Int32) (x2 : Int32) (x3 : Int32) (h : cf_M_evens_L20 P n x1 x2 x3), wp g (fun _ => True) y_M_evens prog_14_method_39_code 4 (some FieldType.int) d 20 [(1, .int x1), (2, .int x2), (3, .int x3)] [] w Q
  | 0, x1, x2, x3, h => False.elim h
  | n + 1, x1, x2, x3, h => cf_M_evens_B20_ok hd   w (cf_M_evens_L20 P n) P Q hQ (fun x1 x2 x3 h => cf_M_evens_L20_ok hd   w  P Q hQ  n x1 x2 x3 h) x1 x2 x3 h
theorem cf_M_evens_ok {g : ayG} {d : Nat} (hd : 4 ≤ d) (a0 : Int32)  (w : Wd) (P : Int32 → Prop) (h : cf_M_evens a0 P) : Call g y_M_evens prog_14_method_39_code 4 (some FieldType.int) d [.ref (g.1 + 30), .int a0] w (fun (r : Option Value) (w2 : Wd) => ∃ x, r = some (.int x) ∧ w = w2 ∧ P x) := by
  unfold cf_M_evens at h
  refine am_enter mi_M_evens (Nat.le_of_ble_eq_true rfl) ?_
  have hQ : ∀ x, P x → (fun (r : Option Value) (w2 : Wd) => ∃ x, r = some (.int x) ∧ w = w2 ∧ P x) (some (.int x)) w := fun x h => ⟨x, rfl, rfl, h⟩
  generalize (fun (r : Option Value) (w2 : Wd) => ∃ x, r = some (.int x) ∧ w = w2 ∧ P x) = Q at hQ ⊢
  show wp g (fun _ => True) y_M_evens prog_14_method_39_code 4 (some FieldType.int) d 0 [(0, .ref (g.1 + 30)), (1, .int a0)] [] w Q
  refine am_iload_n d_M_evens_0 1 rfl ?_
  refine am_i2l d_M_evens_1 ?_
  refine am_ldc2 (v := 2) d_M_evens_2 wd_1205 ?_
  refine am_ldc2 (v := 2000) d_M_evens_5 wd_1289 ?_
  refine am_callS (d2 := d - 1) [.long a0.toInt64, .long (2 : Int64), .long (2000 : Int64)] d_M_evens_8 mi_M_in wd_1192 wd_1193 (by omega) rfl rfl (Nat.le_of_ble_eq_true rfl) ?_
  refine Call.post ?_ (cf_M_in_ok (by omega) a0.toInt64 (2 : Int64) (2000 : Int64)  w _ h)
  rintro _ _ ⟨r1, rfl, rfl, h⟩
  show wp g (fun _ => True) y_M_evens prog_14_method_39_code 4 (some FieldType.int) d 11 [(0, .ref (g.1 + 30)), (1, .int a0)] [.int r1] w Q
  refine am_if_ne (tgt := 16) d_M_evens_11 (by decide) (fun c11 => ?_) (fun c11 => ?_)
  · have h := h.1 c11
    refine am_iconst (v := 0) d_M_evens_16 rfl ?_
    refine am_istore_n (l' := [(2, .int (0 : Int32)), (0, .ref (g.1 + 30)), (1, .int a0)]) d_M_evens_17 (by decide) rfl ?_
    refine am_iconst (v := 1) d_M_evens_18 rfl ?_
    refine am_istore_n (l' := [(3, .int (1 : Int32)), (2, .int (0 : Int32)), (0, .ref (g.1 + 30)), (1, .int a0)]) d_M_evens_19 (by decide) rfl ?_
    refine am_sub [3, 1, 0] rfl ?_
    obtain ⟨n, h⟩ := h
    exact cf_M_evens_L20_ok (by omega)   w  P Q hQ  n a0 (0 : Int32) (1 : Int32) h
  · have h := h.2 c11
    refine am_iconst (v := -1) d_M_evens_14 rfl ?_
    exact am_ireturn d_M_evens_15 rfl rfl (hQ (-1 : Int32) h)
theorem d_M_multiple_0 : decode prog_14_method_40_code 0 = .ok (.iload_n 1, 1) := by decide +kernel
theorem d_M_multiple_1 : decode prog_14_method_40_code 1 = .ok (.invokestatic 150, 3) := by decide +kernel
theorem d_M_multiple_4 : decode prog_14_method_40_code 4 = .ok (.ifCond .eq 13, 3) := by decide +kernel
theorem d_M_multiple_7 : decode prog_14_method_40_code 7 = .ok (.iload_n 2, 1) := by decide +kernel
theorem d_M_multiple_8 : decode prog_14_method_40_code 8 = .ok (.i2l, 1) := by decide +kernel
theorem d_M_multiple_9 : decode prog_14_method_40_code 9 = .ok (.lconst 0, 1) := by decide +kernel
theorem d_M_multiple_10 : decode prog_14_method_40_code 10 = .ok (.lconst 1, 1) := by decide +kernel
theorem d_M_multiple_11 : decode prog_14_method_40_code 11 = .ok (.invokestatic 76, 3) := by decide +kernel
theorem d_M_multiple_14 : decode prog_14_method_40_code 14 = .ok (.ifCond .ne 5, 3) := by decide +kernel
theorem d_M_multiple_17 : decode prog_14_method_40_code 17 = .ok (.iconst (-1), 1) := by decide +kernel
theorem d_M_multiple_18 : decode prog_14_method_40_code 18 = .ok (.ireturn, 1) := by decide +kernel
theorem d_M_multiple_19 : decode prog_14_method_40_code 19 = .ok (.aload_n 0, 1) := by decide +kernel
theorem d_M_multiple_20 : decode prog_14_method_40_code 20 = .ok (.getfield 7, 3) := by decide +kernel
theorem d_M_multiple_23 : decode prog_14_method_40_code 23 = .ok (.iload_n 1, 1) := by decide +kernel
theorem d_M_multiple_24 : decode prog_14_method_40_code 24 = .ok (.laload, 1) := by decide +kernel
theorem d_M_multiple_25 : decode prog_14_method_40_code 25 = .ok (.lstore_n 3, 1) := by decide +kernel
theorem d_M_multiple_26 : decode prog_14_method_40_code 26 = .ok (.lload_n 3, 1) := by decide +kernel
theorem d_M_multiple_27 : decode prog_14_method_40_code 27 = .ok (.invokestatic 84, 3) := by decide +kernel
theorem d_M_multiple_30 : decode prog_14_method_40_code 30 = .ok (.iconst 1, 1) := by decide +kernel
theorem d_M_multiple_31 : decode prog_14_method_40_code 31 = .ok (.if_icmp .ge 6, 3) := by decide +kernel
theorem d_M_multiple_34 : decode prog_14_method_40_code 34 = .ok (.bipush (-2), 2) := by decide +kernel
theorem d_M_multiple_36 : decode prog_14_method_40_code 36 = .ok (.ireturn, 1) := by decide +kernel
theorem d_M_multiple_37 : decode prog_14_method_40_code 37 = .ok (.aload_n 0, 1) := by decide +kernel
theorem d_M_multiple_38 : decode prog_14_method_40_code 38 = .ok (.getfield 35, 3) := by decide +kernel
theorem d_M_multiple_41 : decode prog_14_method_40_code 41 = .ok (.iconst 0, 1) := by decide +kernel
theorem d_M_multiple_42 : decode prog_14_method_40_code 42 = .ok (.lconst 1, 1) := by decide +kernel
theorem d_M_multiple_43 : decode prog_14_method_40_code 43 = .ok (.lload_n 3, 1) := by decide +kernel
theorem d_M_multiple_44 : decode prog_14_method_40_code 44 = .ok (.invokestatic 88, 3) := by decide +kernel
theorem d_M_multiple_47 : decode prog_14_method_40_code 47 = .ok (.lastore, 1) := by decide +kernel
theorem d_M_multiple_48 : decode prog_14_method_40_code 48 = .ok (.iconst 1, 1) := by decide +kernel
theorem d_M_multiple_49 : decode prog_14_method_40_code 49 = .ok (.istore 5, 2) := by decide +kernel
theorem d_M_multiple_51 : decode prog_14_method_40_code 51 = .ok (.iload 5, 2) := by decide +kernel
theorem d_M_multiple_53 : decode prog_14_method_40_code 53 = .ok (.sipush 300, 3) := by decide +kernel
theorem d_M_multiple_56 : decode prog_14_method_40_code 56 = .ok (.if_icmp .gt 31, 3) := by decide +kernel
theorem d_M_multiple_59 : decode prog_14_method_40_code 59 = .ok (.aload_n 0, 1) := by decide +kernel
theorem d_M_multiple_60 : decode prog_14_method_40_code 60 = .ok (.getfield 35, 3) := by decide +kernel
theorem d_M_multiple_63 : decode prog_14_method_40_code 63 = .ok (.iload 5, 2) := by decide +kernel
theorem d_M_multiple_65 : decode prog_14_method_40_code 65 = .ok (.aload_n 0, 1) := by decide +kernel
theorem d_M_multiple_66 : decode prog_14_method_40_code 66 = .ok (.getfield 35, 3) := by decide +kernel
theorem d_M_multiple_69 : decode prog_14_method_40_code 69 = .ok (.iload 5, 2) := by decide +kernel
theorem d_M_multiple_71 : decode prog_14_method_40_code 71 = .ok (.iconst 1, 1) := by decide +kernel
theorem d_M_multiple_72 : decode prog_14_method_40_code 72 = .ok (.isub, 1) := by decide +kernel
theorem d_M_multiple_73 : decode prog_14_method_40_code 73 = .ok (.laload, 1) := by decide +kernel
theorem d_M_multiple_74 : decode prog_14_method_40_code 74 = .ok (.iconst 1, 1) := by decide +kernel
theorem d_M_multiple_75 : decode prog_14_method_40_code 75 = .ok (.lshl, 1) := by decide +kernel
theorem d_M_multiple_76 : decode prog_14_method_40_code 76 = .ok (.lload_n 3, 1) := by decide +kernel
theorem d_M_multiple_77 : decode prog_14_method_40_code 77 = .ok (.invokestatic 88, 3) := by decide +kernel
theorem d_M_multiple_80 : decode prog_14_method_40_code 80 = .ok (.lastore, 1) := by decide +kernel
theorem d_M_multiple_81 : decode prog_14_method_40_code 81 = .ok (.iinc 5 1, 3) := by decide +kernel
theorem d_M_multiple_84 : decode prog_14_method_40_code 84 = .ok (.goto (-33), 3) := by decide +kernel
theorem d_M_multiple_87 : decode prog_14_method_40_code 87 = .ok (.iconst 2, 1) := by decide +kernel
theorem d_M_multiple_88 : decode prog_14_method_40_code 88 = .ok (.istore 5, 2) := by decide +kernel
theorem d_M_multiple_90 : decode prog_14_method_40_code 90 = .ok (.iload 5, 2) := by decide +kernel
theorem d_M_multiple_92 : decode prog_14_method_40_code 92 = .ok (.sipush 300, 3) := by decide +kernel
theorem d_M_multiple_95 : decode prog_14_method_40_code 95 = .ok (.if_icmp .gt 64, 3) := by decide +kernel
theorem d_M_multiple_98 : decode prog_14_method_40_code 98 = .ok (.iconst 1, 1) := by decide +kernel
theorem d_M_multiple_99 : decode prog_14_method_40_code 99 = .ok (.istore 6, 2) := by decide +kernel
theorem d_M_multiple_101 : decode prog_14_method_40_code 101 = .ok (.iload 6, 2) := by decide +kernel
theorem d_M_multiple_103 : decode prog_14_method_40_code 103 = .ok (.iload 5, 2) := by decide +kernel
theorem d_M_multiple_105 : decode prog_14_method_40_code 105 = .ok (.if_icmp .ge 48, 3) := by decide +kernel
theorem d_M_multiple_108 : decode prog_14_method_40_code 108 = .ok (.aload_n 0, 1) := by decide +kernel
theorem d_M_multiple_109 : decode prog_14_method_40_code 109 = .ok (.getfield 35, 3) := by decide +kernel
theorem d_M_multiple_112 : decode prog_14_method_40_code 112 = .ok (.iload 5, 2) := by decide +kernel
theorem d_M_multiple_114 : decode prog_14_method_40_code 114 = .ok (.laload, 1) := by decide +kernel
theorem d_M_multiple_115 : decode prog_14_method_40_code 115 = .ok (.aload_n 0, 1) := by decide +kernel
theorem d_M_multiple_116 : decode prog_14_method_40_code 116 = .ok (.getfield 35, 3) := by decide +kernel
theorem d_M_multiple_119 : decode prog_14_method_40_code 119 = .ok (.iload 6, 2) := by decide +kernel
theorem d_M_multiple_121 : decode prog_14_method_40_code 121 = .ok (.laload, 1) := by decide +kernel
theorem d_M_multiple_122 : decode prog_14_method_40_code 122 = .ok (.lxor, 1) := by decide +kernel
theorem d_M_multiple_123 : decode prog_14_method_40_code 123 = .ok (.aload_n 0, 1) := by decide +kernel
theorem d_M_multiple_124 : decode prog_14_method_40_code 124 = .ok (.getfield 35, 3) := by decide +kernel
theorem d_M_multiple_127 : decode prog_14_method_40_code 127 = .ok (.iconst 0, 1) := by decide +kernel
theorem d_M_multiple_128 : decode prog_14_method_40_code 128 = .ok (.laload, 1) := by decide +kernel
theorem d_M_multiple_129 : decode prog_14_method_40_code 129 = .ok (.lxor, 1) := by decide +kernel
theorem d_M_multiple_130 : decode prog_14_method_40_code 130 = .ok (.lconst 0, 1) := by decide +kernel
theorem d_M_multiple_131 : decode prog_14_method_40_code 131 = .ok (.lcmp, 1) := by decide +kernel
theorem d_M_multiple_132 : decode prog_14_method_40_code 132 = .ok (.ifCond .ne 15, 3) := by decide +kernel
theorem d_M_multiple_135 : decode prog_14_method_40_code 135 = .ok (.iload_n 2, 1) := by decide +kernel
theorem d_M_multiple_136 : decode prog_14_method_40_code 136 = .ok (.ifCond .ne 8, 3) := by decide +kernel
theorem d_M_multiple_139 : decode prog_14_method_40_code 139 = .ok (.iload 5, 2) := by decide +kernel
theorem d_M_multiple_141 : decode prog_14_method_40_code 141 = .ok (.goto 5, 3) := by decide +kernel
theorem d_M_multiple_144 : decode prog_14_method_40_code 144 = .ok (.iload 6, 2) := by decide +kernel
theorem d_M_multiple_146 : decode prog_14_method_40_code 146 = .ok (.ireturn, 1) := by decide +kernel
theorem d_M_multiple_147 : decode prog_14_method_40_code 147 = .ok (.iinc 6 1, 3) := by decide +kernel
theorem d_M_multiple_150 : decode prog_14_method_40_code 150 = .ok (.goto (-49), 3) := by decide +kernel
theorem d_M_multiple_153 : decode prog_14_method_40_code 153 = .ok (.iinc 5 1, 3) := by decide +kernel
theorem d_M_multiple_156 : decode prog_14_method_40_code 156 = .ok (.goto (-66), 3) := by decide +kernel
theorem d_M_multiple_159 : decode prog_14_method_40_code 159 = .ok (.bipush (-2), 2) := by decide +kernel
theorem d_M_multiple_161 : decode prog_14_method_40_code 161 = .ok (.ireturn, 1) := by decide +kernel
def cf_M_multiple_B101  (K90 : Int32 → Int32 → Wd → Prop) (K101 : Int32 → Int32 → Int32 → Wd → Prop) (P : Int32 → Wd → Prop) (x2 : Int32) (x5 : Int32) (x6 : Int32) (w : Wd) : Prop :=
  ((x5 ≤ x6 → ∀ v7, v7 = x5 + (1 : Int32) → K90 x2 v7 w) ∧ (¬ x5 ≤ x6 → vp_in x5 301 ∧ vp_in x6 301 ∧ vp_in (0 : Int32) 301 ∧ ((¬ (((w.2 37 x5.toNatClampNeg) ^^^ (w.2 37 x6.toNatClampNeg)) ^^^ (w.2 37 (0 : Int32).toNatClampNeg)) = (0 : Int64) → ∀ v8, v8 = x6 + (1 : Int32) → K101 x2 x5 v8 w) ∧ ((((w.2 37 x5.toNatClampNeg) ^^^ (w.2 37 x6.toNatClampNeg)) ^^^ (w.2 37 (0 : Int32).toNatClampNeg)) = (0 : Int64) → ((¬ x2 = 0 → P x6 w) ∧ (x2 = 0 → P x5 w))))))
def cf_M_multiple_L101  (K90 : Int32 → Int32 → Wd → Prop) (P : Int32 → Wd → Prop) : Nat → Int32 → Int32 → Int32 → Wd → Prop
  | 0 => fun x2 x5 x6 w => False
  | n + 1 => fun x2 x5 x6 w => cf_M_multiple_B101 K90 (cf_M_multiple_L101 K90 P n) P x2 x5 x6 w
def cf_M_multiple_B90  (K90 : Int32 → Int32 → Wd → Prop) (P : Int32 → Wd → Prop) (x2 : Int32) (x5 : Int32) (w : Wd) : Prop :=
  (((300 : Int32) < x5 → P (-2 : Int32) w) ∧ (¬ (300 : Int32) < x5 → ∃ n, cf_M_multiple_L101 K90 P n x2 x5 (1 : Int32) w))
def cf_M_multiple_L90   (P : Int32 → Wd → Prop) : Nat → Int32 → Int32 → Wd → Prop
  | 0 => fun x2 x5 w => False
  | n + 1 => fun x2 x5 w => cf_M_multiple_B90 (cf_M_multiple_L90 P n) P x2 x5 w
def cf_M_multiple_B51  (K51 : Int32 → Int64 → Int32 → Wd → Prop) (P : Int32 → Wd → Prop) (x2 : Int32) (x3 : Int64) (x5 : Int32) (w : Wd) : Prop :=
  (((300 : Int32) < x5 → ∃ n, cf_M_multiple_L90 P n x2 (2 : Int32) w) ∧ (¬ (300 : Int32) < x5 → vp_in (x5 - (1 : Int32)) 301 ∧ cf_M_restOf (lshl (w.2 37 (x5 - (1 : Int32)).toNatClampNeg) (1 : Int32)) x3 (fun r9 => vp_in x5 301 ∧ ∀ w10, w10 = wL w 37 x5.toNatClampNeg r9 → ∀ v11, v11 = x5 + (1 : Int32) → K51 x2 x3 v11 w10)))
def cf_M_multiple_L51   (P : Int32 → Wd → Prop) : Nat → Int32 → Int64 → Int32 → Wd → Prop
  | 0 => fun x2 x3 x5 w => False
  | n + 1 => fun x2 x3 x5 w => cf_M_multiple_B51 (cf_M_multiple_L51 P n) P x2 x3 x5 w
def cf_M_multiple (a0 : Int32) (a1 : Int32) (w : Wd) (P : Int32 → Wd → Prop) : Prop :=
  cf_M_isPlace a0 (fun r1 => ((r1 = 0 → P (-1 : Int32) w) ∧ (¬ r1 = 0 → cf_M_in a1.toInt64 (0 : Int64) (1 : Int64) (fun r2 => ((¬ r2 = 0 → vp_in a0 14 ∧ ∀ v3, v3 = w.2 31 a0.toNatClampNeg → cf_M_degree v3 (fun r4 => (((1 : Int32) ≤ r4 → cf_M_restOf (1 : Int64) v3 (fun r5 => vp_in (0 : Int32) 301 ∧ ∀ w6, w6 = wL w 37 (0 : Int32).toNatClampNeg r5 → ∃ n, cf_M_multiple_L51 P n a1 v3 (1 : Int32) w6)) ∧ (¬ (1 : Int32) ≤ r4 → P (-2 : Int32) w)))) ∧ (r2 = 0 → P (-1 : Int32) w))))))
theorem cf_M_multiple_B101_ok {g : ayG} {d : Nat} (hd : 2 ≤ d)   (w : Wd) (K90 : Int32 → Int32 → Wd → Prop) (K101 : Int32 → Int32 → Int32 → Wd → Prop) (P : Int32 → Wd → Prop) (Q : Option Value → Wd → Prop) (hQ : ∀ x w2, P x w2 → Q (some (.int x)) w2) (hK90 : ∀ (x2 : Int32) (x5 : Int32) (w : Wd), (K90 x2 x5 w → wp g (fun _ => True) y_M_multiple prog_14_method_40_code 7 (some FieldType.int) d 90 [(0, .ref (g.1 + 30)), (2, .int x2), (5, .int x5)] [] w Q)) (hK101 : ∀ (x2 : Int32) (x5 : Int32) (x6 : Int32) (w : Wd), (K101 x2 x5 x6 w → wp g (fun _ => True) y_M_multiple prog_14_method_40_code 7 (some FieldType.int) d 101 [(0, .ref (g.1 + 30)), (2, .int x2), (5, .int x5), (6, .int x6)] [] w Q)) (x2 : Int32) (x5 : Int32) (x6 : Int32) (h : cf_M_multiple_B101 K90 K101 P x2 x5 x6 w) : wp g (fun _ => True) y_M_multiple prog_14_method_40_code 7 (some FieldType.int) d 101 [(0, .ref (g.1 + 30)), (2, .int x2), (5, .int x5), (6, .int x6)] [] w Q := by
  unfold cf_M_multiple_B101 at h
  refine am_iload d_M_multiple_101 3 rfl ?_
  refine am_iload d_M_multiple_103 2 rfl ?_
  refine am_icmp_ge (tgt := 153) d_M_multiple_105 (by decide) (fun c105 => ?_) (fun c105 => ?_)
  · have h := h.1 c105
    obtain ⟨v7, ev7⟩ : ∃ z : Int32, z = x5 + (1 : Int32) := ⟨_, rfl⟩
    have h := h v7 ev7
    refine am_iinc (v := v7) (l' := [(5, .int v7), (0, .ref (g.1 + 30)), (2, .int x2), (6, .int x6)]) d_M_multiple_153 2 rfl (by rw [ev7]; rfl) (by decide) rfl ?_
    refine am_goto (tgt := 90) d_M_multiple_156 (by decide) ?_
    refine am_sub [1, 2, 0] rfl ?_
    exact hK90 x2 v7 w h
  · have h := h.2 c105
    refine am_aload_n d_M_multiple_108 0 rfl ?_
    refine am_getf (T := F_M) (fs := ob_M g w 30) (C := R_M) (N := 35) (ci := 10) 10 d_M_multiple_109 wd_1087 rfl (by decide) (el_M (show ay_sh 30 = _ from rfl)) rfl i_M (by decide) rfl ?_
    refine am_iload d_M_multiple_112 2 rfl ?_
    have hi114 := h.1
    have h := h.2
    refine am_laload d_M_multiple_114 (show ay_sh 37 = _ from rfl) hi114 ?_
    refine am_aload_n d_M_multiple_115 0 rfl ?_
    refine am_getf (T := F_M) (fs := ob_M g w 30) (C := R_M) (N := 35) (ci := 10) 10 d_M_multiple_116 wd_1087 rfl (by decide) (el_M (show ay_sh 30 = _ from rfl)) rfl i_M (by decide) rfl ?_
    refine am_iload d_M_multiple_119 3 rfl ?_
    have hi121 := h.1
    have h := h.2
    refine am_laload d_M_multiple_121 (show ay_sh 37 = _ from rfl) hi121 ?_
    refine am_lxor d_M_multiple_122 ?_
    refine am_aload_n d_M_multiple_123 0 rfl ?_
    refine am_getf (T := F_M) (fs := ob_M g w 30) (C := R_M) (N := 35) (ci := 10) 10 d_M_multiple_124 wd_1087 rfl (by decide) (el_M (show ay_sh 30 = _ from rfl)) rfl i_M (by decide) rfl ?_
    refine am_iconst (v := 0) d_M_multiple_127 rfl ?_
    have hi128 := h.1
    have h := h.2
    refine am_laload d_M_multiple_128 (show ay_sh 37 = _ from rfl) hi128 ?_
    refine am_lxor d_M_multiple_129 ?_
    refine am_lconst (v := 0) d_M_multiple_130 rfl ?_
    refine am_lif_ne (tgt := 147) d_M_multiple_131 d_M_multiple_132 (by decide) (fun c131 => ?_) (fun c131 => ?_)
    · have h := h.1 c131
      obtain ⟨v8, ev8⟩ : ∃ z : Int32, z = x6 + (1 : Int32) := ⟨_, rfl⟩
      have h := h v8 ev8
      refine am_iinc (v := v8) (l' := [(6, .int v8), (0, .ref (g.1 + 30)), (2, .int x2), (5, .int x5)]) d_M_multiple_147 3 rfl (by rw [ev8]; rfl) (by decide) rfl ?_
      refine am_goto (tgt := 101) d_M_multiple_150 (by decide) ?_
      refine am_sub [1, 2, 3, 0] rfl ?_
      exact hK101 x2 x5 v8 w h
    · have h := h.2 c131
      refine am_iload_n d_M_multiple_135 1 rfl ?_
      refine am_if_ne (tgt := 144) d_M_multiple_136 (by decide) (fun c136 => ?_) (fun c136 => ?_)
      · have h := h.1 c136
        refine am_iload d_M_multiple_144 3 rfl ?_
        exact am_ireturn d_M_multiple_146 rfl rfl (hQ x6 w h)
      · have h := h.2 c136
        refine am_iload d_M_multiple_139 2 rfl ?_
        refine am_goto (tgt := 146) d_M_multiple_141 (by decide) ?_
        exact am_ireturn d_M_multiple_146 rfl rfl (hQ x5 w h)
theorem cf_M_multiple_L101_ok {g : ayG} {d : Nat} (hd : 2 ≤ d)   (K90 : Int32 → Int32 → Wd → Prop) (P : Int32 → Wd → Prop) (Q : Option Value → Wd → Prop) (hQ : ∀ x w2, P x w2 → Q (some (.int x)) w2) (hK90 : ∀ (x2 : Int32) (x5 : Int32) (w : Wd), (K90 x2 x5 w → wp g (fun _ => True) y_M_multiple prog_14_method_40_code 7 (some FieldType.int) d 90 [(0, .ref (g.1 + 30)), (2, .int x2), (5, .int x5)] [] w Q)) : ∀ (n : Nat) (x2 : Int32) (x5 : Int32) (x6 : Int32) (w : Wd) (h : cf_M_multiple_L101 K90 P n x2 x5 x6 w), wp g (fun _ => True) y_M_multiple prog_14_method_40_code 7 (some FieldType.int) d 101 [(0, .ref (g.1 + 30)), (2, .int x2), (5, .int x5), (6, .int x6)] [] w Q
  | 0, x2, x5, x6, w, h => False.elim h
  | n + 1, x2, x5, x6, w, h => cf_M_multiple_B101_ok hd   w K90 (cf_M_multiple_L101 K90 P n) P Q hQ hK90 (fun x2 x5 x6 w h => cf_M_multiple_L101_ok hd   K90 P Q hQ hK90 n x2 x5 x6 w h) x2 x5 x6 h
theorem cf_M_multiple_B90_ok {g : ayG} {d : Nat} (hd : 2 ≤ d)   (w : Wd) (K90 : Int32 → Int32 → Wd → Prop) (P : Int32 → Wd → Prop) (Q : Option Value → Wd → Prop) (hQ : ∀ x w2, P x w2 → Q (some (.int x)) w2) (hK90 : ∀ (x2 : Int32) (x5 : Int32) (w : Wd), (K90 x2 x5 w → wp g (fun _ => True) y_M_multiple prog_14_method_40_code 7 (some FieldType.int) d 90 [(0, .ref (g.1 + 30)), (2, .int x2), (5, .int x5)] [] w Q)) (x2 : Int32) (x5 : Int32) (h : cf_M_multiple_B90 K90 P x2 x5 w) : wp g (fun _ => True) y_M_multiple prog_14_method_40_code 7 (some FieldType.int) d 90 [(0, .ref (g.1 + 30)), (2, .int x2), (5, .int x5)] [] w Q := by
  unfold cf_M_multiple_B90 at h
  refine am_iload d_M_multiple_90 2 rfl ?_
  refine am_sipush (v := 300) d_M_multiple_92 rfl ?_
  refine am_icmp_gt (tgt := 159) d_M_multiple_95 (by decide) (fun c95 => ?_) (fun c95 => ?_)
  · have h := h.1 c95
    refine am_bipush (v := -2) d_M_multiple_159 rfl ?_
    exact am_ireturn d_M_multiple_161 rfl rfl (hQ (-2 : Int32) w h)
  · have h := h.2 c95
    refine am_iconst (v := 1) d_M_multiple_98 rfl ?_
    refine am_istore (l' := [(6, .int (1 : Int32)), (0, .ref (g.1 + 30)), (2, .int x2), (5, .int x5)]) d_M_multiple_99 (by decide) rfl ?_
    refine am_sub [1, 2, 3, 0] rfl ?_
    obtain ⟨n, h⟩ := h
    exact cf_M_multiple_L101_ok (by omega)   K90 P Q hQ hK90 n x2 x5 (1 : Int32) w h
theorem cf_M_multiple_L90_ok {g : ayG} {d : Nat} (hd : 2 ≤ d)    (P : Int32 → Wd → Prop) (Q : Option Value → Wd → Prop) (hQ : ∀ x w2, P x w2 → Q (some (.int x)) w2)  : ∀ (n : Nat) (x2 : Int32) (x5 : Int32) (w : Wd) (h : cf_M_multiple_L90 P n x2 x5 w), wp g (fun _ => True) y_M_multiple prog_14_method_40_code 7 (some FieldType.int) d 90 [(0, .ref (g.1 + 30)), (2, .int x2), (5, .int x5)] [] w Q
  | 0, x2, x5, w, h => False.elim h
  | n + 1, x2, x5, w, h => cf_M_multiple_B90_ok hd   w (cf_M_multiple_L90 P n) P Q hQ (fun x2 x5 w h => cf_M_multiple_L90_ok hd    P Q hQ  n x2 x5 w h) x2 x5 h
theorem cf_M_multiple_B51_ok {g : ayG} {d : Nat} (hd : 2 ≤ d)   (w : Wd) (K51 : Int32 → Int64 → Int32 → Wd → Prop) (P : Int32 → Wd → Prop) (Q : Option Value → Wd → Prop) (hQ : ∀ x w2, P x w2 → Q (some (.int x)) w2) (hK51 : ∀ (x2 : Int32) (x3 : Int64) (x5 : Int32) (w : Wd), (K51 x2 x3 x5 w → wp g (fun _ => True) y_M_multiple prog_14_method_40_code 7 (some FieldType.int) d 51 [(0, .ref (g.1 + 30)), (2, .int x2), (3, .long x3), (5, .int x5)] [] w Q)) (x2 : Int32) (x3 : Int64) (x5 : Int32) (h : cf_M_multiple_B51 K51 P x2 x3 x5 w) : wp g (fun _ => True) y_M_multiple prog_14_method_40_code 7 (some FieldType.int) d 51 [(0, .ref (g.1 + 30)), (2, .int x2), (3, .long x3), (5, .int x5)] [] w Q := by
  unfold cf_M_multiple_B51 at h
  refine am_iload d_M_multiple_51 3 rfl ?_
  refine am_sipush (v := 300) d_M_multiple_53 rfl ?_
  refine am_icmp_gt (tgt := 87) d_M_multiple_56 (by decide) (fun c56 => ?_) (fun c56 => ?_)
  · have h := h.1 c56
    refine am_iconst (v := 2) d_M_multiple_87 rfl ?_
    refine am_istore (l' := [(5, .int (2 : Int32)), (0, .ref (g.1 + 30)), (2, .int x2), (3, .long x3)]) d_M_multiple_88 (by decide) rfl ?_
    refine am_sub [1, 2, 0] rfl ?_
    obtain ⟨n, h⟩ := h
    exact cf_M_multiple_L90_ok (by omega)    P Q hQ  n x2 (2 : Int32) w h
  · have h := h.2 c56
    refine am_aload_n d_M_multiple_59 0 rfl ?_
    refine am_getf (T := F_M) (fs := ob_M g w 30) (C := R_M) (N := 35) (ci := 10) 10 d_M_multiple_60 wd_1087 rfl (by decide) (el_M (show ay_sh 30 = _ from rfl)) rfl i_M (by decide) rfl ?_
    refine am_iload d_M_multiple_63 3 rfl ?_
    refine am_aload_n d_M_multiple_65 0 rfl ?_
    refine am_getf (T := F_M) (fs := ob_M g w 30) (C := R_M) (N := 35) (ci := 10) 10 d_M_multiple_66 wd_1087 rfl (by decide) (el_M (show ay_sh 30 = _ from rfl)) rfl i_M (by decide) rfl ?_
    refine am_iload d_M_multiple_69 3 rfl ?_
    refine am_iconst (v := 1) d_M_multiple_71 rfl ?_
    refine am_isub d_M_multiple_72 ?_
    have hi73 := h.1
    have h := h.2
    refine am_laload d_M_multiple_73 (show ay_sh 37 = _ from rfl) hi73 ?_
    refine am_iconst (v := 1) d_M_multiple_74 rfl ?_
    refine am_lshl d_M_multiple_75 ?_
    refine am_lload_n d_M_multiple_76 2 rfl ?_
    refine am_callS (d2 := d - 1) [.long (lshl (w.2 37 (x5 - (1 : Int32)).toNatClampNeg) (1 : Int32)), .long x3] d_M_multiple_77 mi_M_restOf wd_1209 wd_1210 (by omega) rfl rfl (Nat.le_of_ble_eq_true rfl) ?_
    refine Call.post ?_ (cf_M_restOf_ok (by omega) (lshl (w.2 37 (x5 - (1 : Int32)).toNatClampNeg) (1 : Int32)) x3  w _ h)
    rintro _ _ ⟨r9, rfl, rfl, h⟩
    show wp g (fun _ => True) y_M_multiple prog_14_method_40_code 7 (some FieldType.int) d 80 [(0, .ref (g.1 + 30)), (2, .int x2), (3, .long x3), (5, .int x5)] [.long r9, .int x5, .ref (g.1 + 37)] w Q
    have hi80 := h.1
    have h := h.2
    refine am_lastore d_M_multiple_80 (show ay_sh 37 = _ from rfl) hi80 ?_
    obtain ⟨w10, ew10⟩ : ∃ z, z = wL w 37 x5.toNatClampNeg r9 := ⟨_, rfl⟩
    rw [← ew10]
    have h := h w10 ew10
    obtain ⟨v11, ev11⟩ : ∃ z : Int32, z = x5 + (1 : Int32) := ⟨_, rfl⟩
    have h := h v11 ev11
    refine am_iinc (v := v11) (l' := [(5, .int v11), (0, .ref (g.1 + 30)), (2, .int x2), (3, .long x3)]) d_M_multiple_81 3 rfl (by rw [ev11]; rfl) (by decide) rfl ?_
    refine am_goto (tgt := 51) d_M_multiple_84 (by decide) ?_
    refine am_sub [1, 2, 3, 0] rfl ?_
    exact hK51 x2 x3 v11 w10 h
theorem cf_M_multiple_L51_ok {g : ayG} {d : Nat} (hd : 2 ≤ d)    (P : Int32 → Wd → Prop) (Q : Option Value → Wd → Prop) (hQ : ∀ x w2, P x w2 → Q (some (.int x)) w2)  : ∀ (n : Nat) (x2 : Int32) (x3 : Int64) (x5 : Int32) (w : Wd) (h : cf_M_multiple_L51 P n x2 x3 x5 w), wp g (fun _ => True) y_M_multiple prog_14_method_40_code 7 (some FieldType.int) d 51 [(0, .ref (g.1 + 30)), (2, .int x2), (3, .long x3), (5, .int x5)] [] w Q
  | 0, x2, x3, x5, w, h => False.elim h
  | n + 1, x2, x3, x5, w, h => cf_M_multiple_B51_ok hd   w (cf_M_multiple_L51 P n) P Q hQ (fun x2 x3 x5 w h => cf_M_multiple_L51_ok hd    P Q hQ  n x2 x3 x5 w h) x2 x3 x5 h
theorem cf_M_multiple_ok {g : ayG} {d : Nat} (hd : 2 ≤ d) (a0 : Int32) (a1 : Int32)  (w : Wd) (P : Int32 → Wd → Prop) (h : cf_M_multiple a0 a1 w P) : Call g y_M_multiple prog_14_method_40_code 7 (some FieldType.int) d [.ref (g.1 + 30), .int a0, .int a1] w (fun (r : Option Value) (w2 : Wd) => ∃ x, r = some (.int x) ∧ P x w2) := by
  unfold cf_M_multiple at h
  refine am_enter mi_M_multiple (Nat.le_of_ble_eq_true rfl) ?_
  have hQ : ∀ x w2, P x w2 → (fun (r : Option Value) (w2 : Wd) => ∃ x, r = some (.int x) ∧ P x w2) (some (.int x)) w2 := fun x w2 h => ⟨x, rfl, h⟩
  generalize (fun (r : Option Value) (w2 : Wd) => ∃ x, r = some (.int x) ∧ P x w2) = Q at hQ ⊢
  show wp g (fun _ => True) y_M_multiple prog_14_method_40_code 7 (some FieldType.int) d 0 [(0, .ref (g.1 + 30)), (1, .int a0), (2, .int a1)] [] w Q
  refine am_iload_n d_M_multiple_0 1 rfl ?_
  refine am_callS (d2 := d - 1) [.int a0] d_M_multiple_1 mi_M_isPlace wd_1188 wd_1189 (by omega) rfl rfl (Nat.le_of_ble_eq_true rfl) ?_
  refine Call.post ?_ (cf_M_isPlace_ok (by omega) a0  w _ h)
  rintro _ _ ⟨r1, rfl, rfl, h⟩
  show wp g (fun _ => True) y_M_multiple prog_14_method_40_code 7 (some FieldType.int) d 4 [(0, .ref (g.1 + 30)), (1, .int a0), (2, .int a1)] [.int r1] w Q
  refine am_if_eq (tgt := 17) d_M_multiple_4 (by decide) (fun c4 => ?_) (fun c4 => ?_)
  · have h := h.1 c4
    refine am_iconst (v := -1) d_M_multiple_17 rfl ?_
    exact am_ireturn d_M_multiple_18 rfl rfl (hQ (-1 : Int32) w h)
  · have h := h.2 c4
    refine am_iload_n d_M_multiple_7 2 rfl ?_
    refine am_i2l d_M_multiple_8 ?_
    refine am_lconst (v := 0) d_M_multiple_9 rfl ?_
    refine am_lconst (v := 1) d_M_multiple_10 rfl ?_
    refine am_callS (d2 := d - 1) [.long a1.toInt64, .long (0 : Int64), .long (1 : Int64)] d_M_multiple_11 mi_M_in wd_1192 wd_1193 (by omega) rfl rfl (Nat.le_of_ble_eq_true rfl) ?_
    refine Call.post ?_ (cf_M_in_ok (by omega) a1.toInt64 (0 : Int64) (1 : Int64)  w _ h)
    rintro _ _ ⟨r2, rfl, rfl, h⟩
    show wp g (fun _ => True) y_M_multiple prog_14_method_40_code 7 (some FieldType.int) d 14 [(0, .ref (g.1 + 30)), (1, .int a0), (2, .int a1)] [.int r2] w Q
    refine am_if_ne (tgt := 19) d_M_multiple_14 (by decide) (fun c14 => ?_) (fun c14 => ?_)
    · have h := h.1 c14
      refine am_aload_n d_M_multiple_19 0 rfl ?_
      refine am_getf (T := F_M) (fs := ob_M g w 30) (C := R_M) (N := 35) (ci := 10) 0 d_M_multiple_20 wd_1077 rfl (by decide) (el_M (show ay_sh 30 = _ from rfl)) rfl i_M (by decide) rfl ?_
      refine am_iload_n d_M_multiple_23 1 rfl ?_
      have hi24 := h.1
      have h := h.2
      refine am_laload d_M_multiple_24 (show ay_sh 31 = _ from rfl) hi24 ?_
      refine am_topl (fun v3 ev3 => ?_)
      have h := h v3 ev3
      refine am_lstore_n (l' := [(3, .long v3), (0, .ref (g.1 + 30)), (1, .int a0), (2, .int a1)]) d_M_multiple_25 (by decide) rfl ?_
      refine am_lload_n d_M_multiple_26 0 rfl ?_
      refine am_callS (d2 := d - 1) [.long v3] d_M_multiple_27 mi_M_degree wd_1206 wd_1207 (by omega) rfl rfl (Nat.le_of_ble_eq_true rfl) ?_
      refine Call.post ?_ (cf_M_degree_ok (by omega) v3  w _ h)
      rintro _ _ ⟨r4, rfl, rfl, h⟩
      show wp g (fun _ => True) y_M_multiple prog_14_method_40_code 7 (some FieldType.int) d 30 [(3, .long v3), (0, .ref (g.1 + 30)), (1, .int a0), (2, .int a1)] [.int r4] w Q
      refine am_iconst (v := 1) d_M_multiple_30 rfl ?_
      refine am_icmp_ge (tgt := 37) d_M_multiple_31 (by decide) (fun c31 => ?_) (fun c31 => ?_)
      · have h := h.1 c31
        refine am_aload_n d_M_multiple_37 1 rfl ?_
        refine am_getf (T := F_M) (fs := ob_M g w 30) (C := R_M) (N := 35) (ci := 10) 10 d_M_multiple_38 wd_1087 rfl (by decide) (el_M (show ay_sh 30 = _ from rfl)) rfl i_M (by decide) rfl ?_
        refine am_iconst (v := 0) d_M_multiple_41 rfl ?_
        refine am_lconst (v := 1) d_M_multiple_42 rfl ?_
        refine am_lload_n d_M_multiple_43 0 rfl ?_
        refine am_callS (d2 := d - 1) [.long (1 : Int64), .long v3] d_M_multiple_44 mi_M_restOf wd_1209 wd_1210 (by omega) rfl rfl (Nat.le_of_ble_eq_true rfl) ?_
        refine Call.post ?_ (cf_M_restOf_ok (by omega) (1 : Int64) v3  w _ h)
        rintro _ _ ⟨r5, rfl, rfl, h⟩
        show wp g (fun _ => True) y_M_multiple prog_14_method_40_code 7 (some FieldType.int) d 47 [(3, .long v3), (0, .ref (g.1 + 30)), (1, .int a0), (2, .int a1)] [.long r5, .int (0 : Int32), .ref (g.1 + 37)] w Q
        have hi47 := h.1
        have h := h.2
        refine am_lastore d_M_multiple_47 (show ay_sh 37 = _ from rfl) hi47 ?_
        obtain ⟨w6, ew6⟩ : ∃ z, z = wL w 37 (0 : Int32).toNatClampNeg r5 := ⟨_, rfl⟩
        rw [← ew6]
        have h := h w6 ew6
        refine am_iconst (v := 1) d_M_multiple_48 rfl ?_
        refine am_istore (l' := [(5, .int (1 : Int32)), (3, .long v3), (0, .ref (g.1 + 30)), (1, .int a0), (2, .int a1)]) d_M_multiple_49 (by decide) rfl ?_
        refine am_sub [2, 4, 1, 0] rfl ?_
        obtain ⟨n, h⟩ := h
        exact cf_M_multiple_L51_ok (by omega)    P Q hQ  n a1 v3 (1 : Int32) w6 h
      · have h := h.2 c31
        refine am_bipush (v := -2) d_M_multiple_34 rfl ?_
        exact am_ireturn d_M_multiple_36 rfl rfl (hQ (-2 : Int32) w h)
    · have h := h.2 c14
      refine am_iconst (v := -1) d_M_multiple_17 rfl ?_
      exact am_ireturn d_M_multiple_18 rfl rfl (hQ (-1 : Int32) w h)
theorem d_M_trinomial_0 : decode prog_14_method_41_code 0 = .ok (.iload_n 1, 1) := by decide +kernel
theorem d_M_trinomial_1 : decode prog_14_method_41_code 1 = .ok (.i2l, 1) := by decide +kernel
theorem d_M_trinomial_2 : decode prog_14_method_41_code 2 = .ok (.ldc2_w 107, 3) := by decide +kernel
theorem d_M_trinomial_5 : decode prog_14_method_41_code 5 = .ok (.ldc2_w 175, 3) := by decide +kernel
theorem d_M_trinomial_8 : decode prog_14_method_41_code 8 = .ok (.invokestatic 76, 3) := by decide +kernel
theorem d_M_trinomial_11 : decode prog_14_method_41_code 11 = .ok (.ifCond .eq 8, 3) := by decide +kernel
theorem d_M_trinomial_14 : decode prog_14_method_41_code 14 = .ok (.iload_n 3, 1) := by decide +kernel
theorem d_M_trinomial_15 : decode prog_14_method_41_code 15 = .ok (.iconst (-1), 1) := by decide +kernel
theorem d_M_trinomial_16 : decode prog_14_method_41_code 16 = .ok (.if_icmp .ge 5, 3) := by decide +kernel
theorem d_M_trinomial_19 : decode prog_14_method_41_code 19 = .ok (.iconst (-1), 1) := by decide +kernel
theorem d_M_trinomial_20 : decode prog_14_method_41_code 20 = .ok (.ireturn, 1) := by decide +kernel
theorem d_M_trinomial_21 : decode prog_14_method_41_code 21 = .ok (.iconst 0, 1) := by decide +kernel
theorem d_M_trinomial_22 : decode prog_14_method_41_code 22 = .ok (.istore 4, 2) := by decide +kernel
theorem d_M_trinomial_24 : decode prog_14_method_41_code 24 = .ok (.iconst 1, 1) := by decide +kernel
theorem d_M_trinomial_25 : decode prog_14_method_41_code 25 = .ok (.istore 5, 2) := by decide +kernel
theorem d_M_trinomial_27 : decode prog_14_method_41_code 27 = .ok (.iload 5, 2) := by decide +kernel
theorem d_M_trinomial_29 : decode prog_14_method_41_code 29 = .ok (.iload_n 1, 1) := by decide +kernel
theorem d_M_trinomial_30 : decode prog_14_method_41_code 30 = .ok (.if_icmp .ge 38, 3) := by decide +kernel
theorem d_M_trinomial_33 : decode prog_14_method_41_code 33 = .ok (.aload_n 0, 1) := by decide +kernel
theorem d_M_trinomial_34 : decode prog_14_method_41_code 34 = .ok (.iload_n 1, 1) := by decide +kernel
theorem d_M_trinomial_35 : decode prog_14_method_41_code 35 = .ok (.iload 5, 2) := by decide +kernel
theorem d_M_trinomial_37 : decode prog_14_method_41_code 37 = .ok (.invokestatic 177, 3) := by decide +kernel
theorem d_M_trinomial_40 : decode prog_14_method_41_code 40 = .ok (.iload_n 2, 1) := by decide +kernel
theorem d_M_trinomial_41 : decode prog_14_method_41_code 41 = .ok (.invokevirtual 181, 3) := by decide +kernel
theorem d_M_trinomial_44 : decode prog_14_method_41_code 44 = .ok (.ifCond .ne 6, 3) := by decide +kernel
theorem d_M_trinomial_47 : decode prog_14_method_41_code 47 = .ok (.goto 15, 3) := by decide +kernel
theorem d_M_trinomial_50 : decode prog_14_method_41_code 50 = .ok (.iload 4, 2) := by decide +kernel
theorem d_M_trinomial_52 : decode prog_14_method_41_code 52 = .ok (.iload_n 3, 1) := by decide +kernel
theorem d_M_trinomial_53 : decode prog_14_method_41_code 53 = .ok (.if_icmp .ne 6, 3) := by decide +kernel
theorem d_M_trinomial_56 : decode prog_14_method_41_code 56 = .ok (.iload 5, 2) := by decide +kernel
theorem d_M_trinomial_58 : decode prog_14_method_41_code 58 = .ok (.ireturn, 1) := by decide +kernel
theorem d_M_trinomial_59 : decode prog_14_method_41_code 59 = .ok (.iinc 4 1, 3) := by decide +kernel
theorem d_M_trinomial_62 : decode prog_14_method_41_code 62 = .ok (.iinc 5 1, 3) := by decide +kernel
theorem d_M_trinomial_65 : decode prog_14_method_41_code 65 = .ok (.goto (-38), 3) := by decide +kernel
theorem d_M_trinomial_68 : decode prog_14_method_41_code 68 = .ok (.iload_n 3, 1) := by decide +kernel
theorem d_M_trinomial_69 : decode prog_14_method_41_code 69 = .ok (.iconst (-1), 1) := by decide +kernel
theorem d_M_trinomial_70 : decode prog_14_method_41_code 70 = .ok (.if_icmp .ne 8, 3) := by decide +kernel
theorem d_M_trinomial_73 : decode prog_14_method_41_code 73 = .ok (.iload 4, 2) := by decide +kernel
theorem d_M_trinomial_75 : decode prog_14_method_41_code 75 = .ok (.goto 5, 3) := by decide +kernel
theorem d_M_trinomial_78 : decode prog_14_method_41_code 78 = .ok (.bipush (-2), 2) := by decide +kernel
theorem d_M_trinomial_80 : decode prog_14_method_41_code 80 = .ok (.ireturn, 1) := by decide +kernel
def cf_M_trinomial_B27  (K27 : Int32 → Int32 → Int32 → Int32 → Int32 → Wd → Prop) (P : Int32 → Wd → Prop) (x1 : Int32) (x2 : Int32) (x3 : Int32) (x4 : Int32) (x5 : Int32) (w : Wd) : Prop :=
  ((x1 ≤ x5 → ((¬ x3 = (-1 : Int32) → P (-2 : Int32) w) ∧ (x3 = (-1 : Int32) → P x4 w))) ∧ (¬ x1 ≤ x5 → cf_M_tri x1 x5 (fun r2 => cf_M_isGood r2 x2 w (fun r3 w4 => ((¬ r3 = 0 → ((¬ x4 = x3 → ∀ v5, v5 = x4 + (1 : Int32) → ∀ v6, v6 = x5 + (1 : Int32) → K27 x1 x2 x3 v5 v6 w4) ∧ (x4 = x3 → P x5 w4))) ∧ (r3 = 0 → ∀ v7, v7 = x5 + (1 : Int32) → K27 x1 x2 x3 x4 v7 w4))))))
def cf_M_trinomial_L27   (P : Int32 → Wd → Prop) : Nat → Int32 → Int32 → Int32 → Int32 → Int32 → Wd → Prop
  | 0 => fun x1 x2 x3 x4 x5 w => False
  | n + 1 => fun x1 x2 x3 x4 x5 w => cf_M_trinomial_B27 (cf_M_trinomial_L27 P n) P x1 x2 x3 x4 x5 w
def cf_M_trinomial (a0 : Int32) (a1 : Int32) (a2 : Int32) (w : Wd) (P : Int32 → Wd → Prop) : Prop :=
  cf_M_in a0.toInt64 (2 : Int64) (24 : Int64) (fun r1 => ((r1 = 0 → P (-1 : Int32) w) ∧ (¬ r1 = 0 → (((-1 : Int32) ≤ a2 → ∃ n, cf_M_trinomial_L27 P n a0 a1 a2 (0 : Int32) (1 : Int32) w) ∧ (¬ (-1 : Int32) ≤ a2 → P (-1 : Int32) w)))))
theorem cf_M_trinomial_B27_ok {g : ayG} {d : Nat} (hd : 104 ≤ d)   (w : Wd) (K27 : Int32 → Int32 → Int32 → Int32 → Int32 → Wd → Prop) (P : Int32 → Wd → Prop) (Q : Option Value → Wd → Prop) (hQ : ∀ x w2, P x w2 → Q (some (.int x)) w2) (hK27 : ∀ (x1 : Int32) (x2 : Int32) (x3 : Int32) (x4 : Int32) (x5 : Int32) (w : Wd), (K27 x1 x2 x3 x4 x5 w → wp g (fun _ => True) y_M_trinomial prog_14_method_41_code 6 (some FieldType.int) d 27 [(0, .ref (g.1 + 30)), (1, .int x1), (2, .int x2), (3, .int x3), (4, .int x4), (5, .int x5)] [] w Q)) (x1 : Int32) (x2 : Int32) (x3 : Int32) (x4 : Int32) (x5 : Int32) (h : cf_M_trinomial_B27 K27 P x1 x2 x3 x4 x5 w) : wp g (fun _ => True) y_M_trinomial prog_14_method_41_code 6 (some FieldType.int) d 27 [(0, .ref (g.1 + 30)), (1, .int x1), (2, .int x2), (3, .int x3), (4, .int x4), (5, .int x5)] [] w Q := by
  unfold cf_M_trinomial_B27 at h
  refine am_iload d_M_trinomial_27 5 rfl ?_
  refine am_iload_n d_M_trinomial_29 1 rfl ?_
  refine am_icmp_ge (tgt := 68) d_M_trinomial_30 (by decide) (fun c30 => ?_) (fun c30 => ?_)
  · have h := h.1 c30
    refine am_iload_n d_M_trinomial_68 3 rfl ?_
    refine am_iconst (v := -1) d_M_trinomial_69 rfl ?_
    refine am_icmp_ne (tgt := 78) d_M_trinomial_70 (by decide) (fun c70 => ?_) (fun c70 => ?_)
    · have h := h.1 c70
      refine am_bipush (v := -2) d_M_trinomial_78 rfl ?_
      exact am_ireturn d_M_trinomial_80 rfl rfl (hQ (-2 : Int32) w h)
    · have h := h.2 c70
      refine am_iload d_M_trinomial_73 4 rfl ?_
      refine am_goto (tgt := 80) d_M_trinomial_75 (by decide) ?_
      exact am_ireturn d_M_trinomial_80 rfl rfl (hQ x4 w h)
  · have h := h.2 c30
    refine am_aload_n d_M_trinomial_33 0 rfl ?_
    refine am_iload_n d_M_trinomial_34 1 rfl ?_
    refine am_iload d_M_trinomial_35 5 rfl ?_
    refine am_callS (d2 := d - 1) [.int x1, .int x5] d_M_trinomial_37 mi_M_tri wd_1306 wd_1307 (by omega) rfl rfl (Nat.le_of_ble_eq_true rfl) ?_
    refine Call.post ?_ (cf_M_tri_ok (by omega) x1 x5  w _ h)
    rintro _ _ ⟨r2, rfl, rfl, h⟩
    show wp g (fun _ => True) y_M_trinomial prog_14_method_41_code 6 (some FieldType.int) d 40 [(0, .ref (g.1 + 30)), (1, .int x1), (2, .int x2), (3, .int x3), (4, .int x4), (5, .int x5)] [.long r2, .ref (g.1 + 30)] w Q
    refine am_iload_n d_M_trinomial_40 2 rfl ?_
    refine am_callV (C := y_M_isGood.cls) (d2 := d - 1) [.long r2, .int x2] d_M_trinomial_41 mi_M_isGood wd_1309 wd_1311 ws_M_isGood (by decide) (el_M (show ay_sh 30 = _ from rfl)) rfl rfl (by omega) rfl rfl (Nat.le_of_ble_eq_true rfl) ?_
    refine Call.post ?_ (cf_M_isGood_ok (by omega) r2 x2  w _ h)
    rintro _ w4 ⟨r3, rfl, h⟩
    show wp g (fun _ => True) y_M_trinomial prog_14_method_41_code 6 (some FieldType.int) d 44 [(0, .ref (g.1 + 30)), (1, .int x1), (2, .int x2), (3, .int x3), (4, .int x4), (5, .int x5)] [.int r3] w4 Q
    refine am_if_ne (tgt := 50) d_M_trinomial_44 (by decide) (fun c44 => ?_) (fun c44 => ?_)
    · have h := h.1 c44
      refine am_iload d_M_trinomial_50 4 rfl ?_
      refine am_iload_n d_M_trinomial_52 3 rfl ?_
      refine am_icmp_ne (tgt := 59) d_M_trinomial_53 (by decide) (fun c53 => ?_) (fun c53 => ?_)
      · have h := h.1 c53
        obtain ⟨v5, ev5⟩ : ∃ z : Int32, z = x4 + (1 : Int32) := ⟨_, rfl⟩
        have h := h v5 ev5
        refine am_iinc (v := v5) (l' := [(4, .int v5), (0, .ref (g.1 + 30)), (1, .int x1), (2, .int x2), (3, .int x3), (5, .int x5)]) d_M_trinomial_59 4 rfl (by rw [ev5]; rfl) (by decide) rfl ?_
        obtain ⟨v6, ev6⟩ : ∃ z : Int32, z = x5 + (1 : Int32) := ⟨_, rfl⟩
        have h := h v6 ev6
        refine am_iinc (v := v6) (l' := [(5, .int v6), (4, .int v5), (0, .ref (g.1 + 30)), (1, .int x1), (2, .int x2), (3, .int x3)]) d_M_trinomial_62 5 rfl (by rw [ev6]; rfl) (by decide) rfl ?_
        refine am_goto (tgt := 27) d_M_trinomial_65 (by decide) ?_
        refine am_sub [2, 3, 4, 5, 1, 0] rfl ?_
        exact hK27 x1 x2 x3 v5 v6 w4 h
      · have h := h.2 c53
        refine am_iload d_M_trinomial_56 5 rfl ?_
        exact am_ireturn d_M_trinomial_58 rfl rfl (hQ x5 w4 h)
    · have h := h.2 c44
      refine am_goto (tgt := 62) d_M_trinomial_47 (by decide) ?_
      obtain ⟨v7, ev7⟩ : ∃ z : Int32, z = x5 + (1 : Int32) := ⟨_, rfl⟩
      have h := h v7 ev7
      refine am_iinc (v := v7) (l' := [(5, .int v7), (0, .ref (g.1 + 30)), (1, .int x1), (2, .int x2), (3, .int x3), (4, .int x4)]) d_M_trinomial_62 5 rfl (by rw [ev7]; rfl) (by decide) rfl ?_
      refine am_goto (tgt := 27) d_M_trinomial_65 (by decide) ?_
      refine am_sub [1, 2, 3, 4, 5, 0] rfl ?_
      exact hK27 x1 x2 x3 x4 v7 w4 h
theorem cf_M_trinomial_L27_ok {g : ayG} {d : Nat} (hd : 104 ≤ d)    (P : Int32 → Wd → Prop) (Q : Option Value → Wd → Prop) (hQ : ∀ x w2, P x w2 → Q (some (.int x)) w2)  : ∀ (n : Nat) (x1 : Int32) (x2 : Int32) (x3 : Int32) (x4 : Int32) (x5 : Int32) (w : Wd) (h : cf_M_trinomial_L27 P n x1 x2 x3 x4 x5 w), wp g (fun _ => True) y_M_trinomial prog_14_method_41_code 6 (some FieldType.int) d 27 [(0, .ref (g.1 + 30)), (1, .int x1), (2, .int x2), (3, .int x3), (4, .int x4), (5, .int x5)] [] w Q
  | 0, x1, x2, x3, x4, x5, w, h => False.elim h
  | n + 1, x1, x2, x3, x4, x5, w, h => cf_M_trinomial_B27_ok hd   w (cf_M_trinomial_L27 P n) P Q hQ (fun x1 x2 x3 x4 x5 w h => cf_M_trinomial_L27_ok hd    P Q hQ  n x1 x2 x3 x4 x5 w h) x1 x2 x3 x4 x5 h
theorem cf_M_trinomial_ok {g : ayG} {d : Nat} (hd : 104 ≤ d) (a0 : Int32) (a1 : Int32) (a2 : Int32)  (w : Wd) (P : Int32 → Wd → Prop) (h : cf_M_trinomial a0 a1 a2 w P) : Call g y_M_trinomial prog_14_method_41_code 6 (some FieldType.int) d [.ref (g.1 + 30), .int a0, .int a1, .int a2] w (fun (r : Option Value) (w2 : Wd) => ∃ x, r = some (.int x) ∧ P x w2) := by
  unfold cf_M_trinomial at h
  refine am_enter mi_M_trinomial (Nat.le_of_ble_eq_true rfl) ?_
  have hQ : ∀ x w2, P x w2 → (fun (r : Option Value) (w2 : Wd) => ∃ x, r = some (.int x) ∧ P x w2) (some (.int x)) w2 := fun x w2 h => ⟨x, rfl, h⟩
  generalize (fun (r : Option Value) (w2 : Wd) => ∃ x, r = some (.int x) ∧ P x w2) = Q at hQ ⊢
  show wp g (fun _ => True) y_M_trinomial prog_14_method_41_code 6 (some FieldType.int) d 0 [(0, .ref (g.1 + 30)), (1, .int a0), (2, .int a1), (3, .int a2)] [] w Q
  refine am_iload_n d_M_trinomial_0 1 rfl ?_
  refine am_i2l d_M_trinomial_1 ?_
  refine am_ldc2 (v := 2) d_M_trinomial_2 wd_1205 ?_
  refine am_ldc2 (v := 24) d_M_trinomial_5 wd_1305 ?_
  refine am_callS (d2 := d - 1) [.long a0.toInt64, .long (2 : Int64), .long (24 : Int64)] d_M_trinomial_8 mi_M_in wd_1192 wd_1193 (by omega) rfl rfl (Nat.le_of_ble_eq_true rfl) ?_
  refine Call.post ?_ (cf_M_in_ok (by omega) a0.toInt64 (2 : Int64) (24 : Int64)  w _ h)
  rintro _ _ ⟨r1, rfl, rfl, h⟩
  show wp g (fun _ => True) y_M_trinomial prog_14_method_41_code 6 (some FieldType.int) d 11 [(0, .ref (g.1 + 30)), (1, .int a0), (2, .int a1), (3, .int a2)] [.int r1] w Q
  refine am_if_eq (tgt := 19) d_M_trinomial_11 (by decide) (fun c11 => ?_) (fun c11 => ?_)
  · have h := h.1 c11
    refine am_iconst (v := -1) d_M_trinomial_19 rfl ?_
    exact am_ireturn d_M_trinomial_20 rfl rfl (hQ (-1 : Int32) w h)
  · have h := h.2 c11
    refine am_iload_n d_M_trinomial_14 3 rfl ?_
    refine am_iconst (v := -1) d_M_trinomial_15 rfl ?_
    refine am_icmp_ge (tgt := 21) d_M_trinomial_16 (by decide) (fun c16 => ?_) (fun c16 => ?_)
    · have h := h.1 c16
      refine am_iconst (v := 0) d_M_trinomial_21 rfl ?_
      refine am_istore (l' := [(4, .int (0 : Int32)), (0, .ref (g.1 + 30)), (1, .int a0), (2, .int a1), (3, .int a2)]) d_M_trinomial_22 (by decide) rfl ?_
      refine am_iconst (v := 1) d_M_trinomial_24 rfl ?_
      refine am_istore (l' := [(5, .int (1 : Int32)), (4, .int (0 : Int32)), (0, .ref (g.1 + 30)), (1, .int a0), (2, .int a1), (3, .int a2)]) d_M_trinomial_25 (by decide) rfl ?_
      refine am_sub [2, 3, 4, 5, 1, 0] rfl ?_
      obtain ⟨n, h⟩ := h
      exact cf_M_trinomial_L27_ok (by omega)    P Q hQ  n a0 a1 a2 (0 : Int32) (1 : Int32) w h
    · have h := h.2 c16
      refine am_iconst (v := -1) d_M_trinomial_19 rfl ?_
      exact am_ireturn d_M_trinomial_20 rfl rfl (hQ (-1 : Int32) w h)
theorem d_M_least_0 : decode prog_14_method_42_code 0 = .ok (.iload_n 1, 1) := by decide +kernel
theorem d_M_least_1 : decode prog_14_method_42_code 1 = .ok (.i2l, 1) := by decide +kernel
theorem d_M_least_2 : decode prog_14_method_42_code 2 = .ok (.lconst 1, 1) := by decide +kernel
theorem d_M_least_3 : decode prog_14_method_42_code 3 = .ok (.ldc2_w 185, 3) := by decide +kernel
theorem d_M_least_6 : decode prog_14_method_42_code 6 = .ok (.invokestatic 76, 3) := by decide +kernel
theorem d_M_least_9 : decode prog_14_method_42_code 9 = .ok (.ifCond .ne 7, 3) := by decide +kernel
theorem d_M_least_12 : decode prog_14_method_42_code 12 = .ok (.ldc2_w 26, 3) := by decide +kernel
theorem d_M_least_15 : decode prog_14_method_42_code 15 = .ok (.lreturn, 1) := by decide +kernel
theorem d_M_least_16 : decode prog_14_method_42_code 16 = .ok (.iconst 1, 1) := by decide +kernel
theorem d_M_least_17 : decode prog_14_method_42_code 17 = .ok (.istore_n 3, 1) := by decide +kernel
theorem d_M_least_18 : decode prog_14_method_42_code 18 = .ok (.iload_n 3, 1) := by decide +kernel
theorem d_M_least_19 : decode prog_14_method_42_code 19 = .ok (.iload_n 1, 1) := by decide +kernel
theorem d_M_least_20 : decode prog_14_method_42_code 20 = .ok (.iconst 1, 1) := by decide +kernel
theorem d_M_least_21 : decode prog_14_method_42_code 21 = .ok (.iadd, 1) := by decide +kernel
theorem d_M_least_22 : decode prog_14_method_42_code 22 = .ok (.if_icmp .gt 76, 3) := by decide +kernel
theorem d_M_least_25 : decode prog_14_method_42_code 25 = .ok (.lconst 0, 1) := by decide +kernel
theorem d_M_least_26 : decode prog_14_method_42_code 26 = .ok (.lstore 4, 2) := by decide +kernel
theorem d_M_least_28 : decode prog_14_method_42_code 28 = .ok (.lload 4, 2) := by decide +kernel
theorem d_M_least_30 : decode prog_14_method_42_code 30 = .ok (.lconst 1, 1) := by decide +kernel
theorem d_M_least_31 : decode prog_14_method_42_code 31 = .ok (.iload_n 1, 1) := by decide +kernel
theorem d_M_least_32 : decode prog_14_method_42_code 32 = .ok (.lshl, 1) := by decide +kernel
theorem d_M_least_33 : decode prog_14_method_42_code 33 = .ok (.lcmp, 1) := by decide +kernel
theorem d_M_least_34 : decode prog_14_method_42_code 34 = .ok (.ifCond .ge 58, 3) := by decide +kernel
theorem d_M_least_37 : decode prog_14_method_42_code 37 = .ok (.lconst 1, 1) := by decide +kernel
theorem d_M_least_38 : decode prog_14_method_42_code 38 = .ok (.iload_n 1, 1) := by decide +kernel
theorem d_M_least_39 : decode prog_14_method_42_code 39 = .ok (.lshl, 1) := by decide +kernel
theorem d_M_least_40 : decode prog_14_method_42_code 40 = .ok (.lload 4, 2) := by decide +kernel
theorem d_M_least_42 : decode prog_14_method_42_code 42 = .ok (.lor, 1) := by decide +kernel
theorem d_M_least_43 : decode prog_14_method_42_code 43 = .ok (.lstore 6, 2) := by decide +kernel
theorem d_M_least_45 : decode prog_14_method_42_code 45 = .ok (.lload 4, 2) := by decide +kernel
theorem d_M_least_47 : decode prog_14_method_42_code 47 = .ok (.invokestatic 156, 3) := by decide +kernel
theorem d_M_least_50 : decode prog_14_method_42_code 50 = .ok (.iload_n 3, 1) := by decide +kernel
theorem d_M_least_51 : decode prog_14_method_42_code 51 = .ok (.iconst 1, 1) := by decide +kernel
theorem d_M_least_52 : decode prog_14_method_42_code 52 = .ok (.isub, 1) := by decide +kernel
theorem d_M_least_53 : decode prog_14_method_42_code 53 = .ok (.if_icmp .ne 30, 3) := by decide +kernel
theorem d_M_least_56 : decode prog_14_method_42_code 56 = .ok (.iload_n 1, 1) := by decide +kernel
theorem d_M_least_57 : decode prog_14_method_42_code 57 = .ok (.iconst 1, 1) := by decide +kernel
theorem d_M_least_58 : decode prog_14_method_42_code 58 = .ok (.if_icmp .eq 12, 3) := by decide +kernel
theorem d_M_least_61 : decode prog_14_method_42_code 61 = .ok (.lload 6, 2) := by decide +kernel
theorem d_M_least_63 : decode prog_14_method_42_code 63 = .ok (.iconst 0, 1) := by decide +kernel
theorem d_M_least_64 : decode prog_14_method_42_code 64 = .ok (.invokestatic 80, 3) := by decide +kernel
theorem d_M_least_67 : decode prog_14_method_42_code 67 = .ok (.ifCond .eq 16, 3) := by decide +kernel
theorem d_M_least_70 : decode prog_14_method_42_code 70 = .ok (.aload_n 0, 1) := by decide +kernel
theorem d_M_least_71 : decode prog_14_method_42_code 71 = .ok (.lload 6, 2) := by decide +kernel
theorem d_M_least_73 : decode prog_14_method_42_code 73 = .ok (.iload_n 2, 1) := by decide +kernel
theorem d_M_least_74 : decode prog_14_method_42_code 74 = .ok (.invokevirtual 181, 3) := by decide +kernel
theorem d_M_least_77 : decode prog_14_method_42_code 77 = .ok (.ifCond .eq 6, 3) := by decide +kernel
theorem d_M_least_80 : decode prog_14_method_42_code 80 = .ok (.lload 6, 2) := by decide +kernel
theorem d_M_least_82 : decode prog_14_method_42_code 82 = .ok (.lreturn, 1) := by decide +kernel
theorem d_M_least_83 : decode prog_14_method_42_code 83 = .ok (.lload 4, 2) := by decide +kernel
theorem d_M_least_85 : decode prog_14_method_42_code 85 = .ok (.lconst 1, 1) := by decide +kernel
theorem d_M_least_86 : decode prog_14_method_42_code 86 = .ok (.ladd, 1) := by decide +kernel
theorem d_M_least_87 : decode prog_14_method_42_code 87 = .ok (.lstore 4, 2) := by decide +kernel
theorem d_M_least_89 : decode prog_14_method_42_code 89 = .ok (.goto (-61), 3) := by decide +kernel
theorem d_M_least_92 : decode prog_14_method_42_code 92 = .ok (.iinc 3 1, 3) := by decide +kernel
theorem d_M_least_95 : decode prog_14_method_42_code 95 = .ok (.goto (-77), 3) := by decide +kernel
theorem d_M_least_98 : decode prog_14_method_42_code 98 = .ok (.ldc2_w 26, 3) := by decide +kernel
theorem d_M_least_101 : decode prog_14_method_42_code 101 = .ok (.lreturn, 1) := by decide +kernel
def cf_M_least_B28  (K18 : Int32 → Int32 → Int32 → Wd → Prop) (K28 : Int32 → Int32 → Int32 → Int64 → Wd → Prop) (P : Int64 → Wd → Prop) (x1 : Int32) (x2 : Int32) (x3 : Int32) (x4 : Int64) (w : Wd) : Prop :=
  (((lshl (1 : Int64) x1) ≤ x4 → ∀ v2, v2 = x3 + (1 : Int32) → K18 x1 x2 v2 w) ∧ (¬ (lshl (1 : Int64) x1) ≤ x4 → ∀ v3, v3 = (lshl (1 : Int64) x1) ||| x4 → cf_M_weight x4 (fun r4 => ((¬ r4 = (x3 - (1 : Int32)) → ∀ v5, v5 = x4 + (1 : Int64) → K28 x1 x2 x3 v5 w) ∧ (r4 = (x3 - (1 : Int32)) → ((x1 = (1 : Int32) → cf_M_isGood v3 x2 w (fun r6 w7 => ((r6 = 0 → ∀ v8, v8 = x4 + (1 : Int64) → K28 x1 x2 x3 v8 w7) ∧ (¬ r6 = 0 → P v3 w7)))) ∧ (¬ x1 = (1 : Int32) → cf_M_has v3 (0 : Int32) (fun r9 => ((r9 = 0 → ∀ v10, v10 = x4 + (1 : Int64) → K28 x1 x2 x3 v10 w) ∧ (¬ r9 = 0 → cf_M_isGood v3 x2 w (fun r11 w12 => ((r11 = 0 → ∀ v13, v13 = x4 + (1 : Int64) → K28 x1 x2 x3 v13 w12) ∧ (¬ r11 = 0 → P v3 w12)))))))))))))
def cf_M_least_L28  (K18 : Int32 → Int32 → Int32 → Wd → Prop) (P : Int64 → Wd → Prop) : Nat → Int32 → Int32 → Int32 → Int64 → Wd → Prop
  | 0 => fun x1 x2 x3 x4 w => False
  | n + 1 => fun x1 x2 x3 x4 w => cf_M_least_B28 K18 (cf_M_least_L28 K18 P n) P x1 x2 x3 x4 w
def cf_M_least_B18  (K18 : Int32 → Int32 → Int32 → Wd → Prop) (P : Int64 → Wd → Prop) (x1 : Int32) (x2 : Int32) (x3 : Int32) (w : Wd) : Prop :=
  (((x1 + (1 : Int32)) < x3 → P (-1 : Int64) w) ∧ (¬ (x1 + (1 : Int32)) < x3 → ∃ n, cf_M_least_L28 K18 P n x1 x2 x3 (0 : Int64) w))
def cf_M_least_L18   (P : Int64 → Wd → Prop) : Nat → Int32 → Int32 → Int32 → Wd → Prop
  | 0 => fun x1 x2 x3 w => False
  | n + 1 => fun x1 x2 x3 w => cf_M_least_B18 (cf_M_least_L18 P n) P x1 x2 x3 w
def cf_M_least (a0 : Int32) (a1 : Int32) (w : Wd) (P : Int64 → Wd → Prop) : Prop :=
  cf_M_in a0.toInt64 (1 : Int64) (20 : Int64) (fun r1 => ((¬ r1 = 0 → ∃ n, cf_M_least_L18 P n a0 a1 (1 : Int32) w) ∧ (r1 = 0 → P (-1 : Int64) w)))
theorem cf_M_least_B28_ok {g : ayG} {d : Nat} (hd : 104 ≤ d)   (w : Wd) (K18 : Int32 → Int32 → Int32 → Wd → Prop) (K28 : Int32 → Int32 → Int32 → Int64 → Wd → Prop) (P : Int64 → Wd → Prop) (Q : Option Value → Wd → Prop) (hQ : ∀ x w2, P x w2 → Q (some (.long x)) w2) (hK18 : ∀ (x1 : Int32) (x2 : Int32) (x3 : Int32) (w : Wd), (K18 x1 x2 x3 w → wp g (fun _ => True) y_M_least prog_14_method_42_code 8 (some FieldType.long) d 18 [(0, .ref (g.1 + 30)), (1, .int x1), (2, .int x2), (3, .int x3)] [] w Q)) (hK28 : ∀ (x1 : Int32) (x2 : Int32) (x3 : Int32) (x4 : Int64) (w : Wd), (K28 x1 x2 x3 x4 w → wp g (fun _ => True) y_M_least prog_14_method_42_code 8 (some FieldType.long) d 28 [(0, .ref (g.1 + 30)), (1, .int x1), (2, .int x2), (3, .int x3), (4, .long x4)] [] w Q)) (x1 : Int32) (x2 : Int32) (x3 : Int32) (x4 : Int64) (h : cf_M_least_B28 K18 K28 P x1 x2 x3 x4 w) : wp g (fun _ => True) y_M_least prog_14_method_42_code 8 (some FieldType.long) d 28 [(0, .ref (g.1 + 30)), (1, .int x1), (2, .int x2), (3, .int x3), (4, .long x4)] [] w Q := by
  unfold cf_M_least_B28 at h
  refine am_lload d_M_least_28 4 rfl ?_
  refine am_lconst (v := 1) d_M_least_30 rfl ?_
  refine am_iload_n d_M_least_31 1 rfl ?_
  refine am_lshl d_M_least_32 ?_
  refine am_lif_ge (tgt := 92) d_M_least_33 d_M_least_34 (by decide) (fun c33 => ?_) (fun c33 => ?_)
  · have h := h.1 c33
    obtain ⟨v2, ev2⟩ : ∃ z : Int32, z = x3 + (1 : Int32) := ⟨_, rfl⟩
    have h := h v2 ev2
    refine am_iinc (v := v2) (l' := [(3, .int v2), (0, .ref (g.1 + 30)), (1, .int x1), (2, .int x2), (4, .long x4)]) d_M_least_92 3 rfl (by rw [ev2]; rfl) (by decide) rfl ?_
    refine am_goto (tgt := 18) d_M_least_95 (by decide) ?_
    refine am_sub [1, 2, 3, 0] rfl ?_
    exact hK18 x1 x2 v2 w h
  · have h := h.2 c33
    refine am_lconst (v := 1) d_M_least_37 rfl ?_
    refine am_iload_n d_M_least_38 1 rfl ?_
    refine am_lshl d_M_least_39 ?_
    refine am_lload d_M_least_40 4 rfl ?_
    refine am_lor d_M_least_42 ?_
    refine am_topl (fun v3 ev3 => ?_)
    have h := h v3 ev3
    refine am_lstore (l' := [(6, .long v3), (0, .ref (g.1 + 30)), (1, .int x1), (2, .int x2), (3, .int x3), (4, .long x4)]) d_M_least_43 (by decide) rfl ?_
    refine am_lload d_M_least_45 5 rfl ?_
    refine am_callS (d2 := d - 1) [.long x4] d_M_least_47 mi_M_weight wd_1218 wd_1219 (by omega) rfl rfl (Nat.le_of_ble_eq_true rfl) ?_
    refine Call.post ?_ (cf_M_weight_ok (by omega) x4  w _ h)
    rintro _ _ ⟨r4, rfl, rfl, h⟩
    show wp g (fun _ => True) y_M_least prog_14_method_42_code 8 (some FieldType.long) d 50 [(6, .long v3), (0, .ref (g.1 + 30)), (1, .int x1), (2, .int x2), (3, .int x3), (4, .long x4)] [.int r4] w Q
    refine am_iload_n d_M_least_50 4 rfl ?_
    refine am_iconst (v := 1) d_M_least_51 rfl ?_
    refine am_isub d_M_least_52 ?_
    refine am_icmp_ne (tgt := 83) d_M_least_53 (by decide) (fun c53 => ?_) (fun c53 => ?_)
    · have h := h.1 c53
      refine am_lload d_M_least_83 5 rfl ?_
      refine am_lconst (v := 1) d_M_least_85 rfl ?_
      refine am_ladd d_M_least_86 ?_
      refine am_topl (fun v5 ev5 => ?_)
      have h := h v5 ev5
      refine am_lstore (l' := [(4, .long v5), (6, .long v3), (0, .ref (g.1 + 30)), (1, .int x1), (2, .int x2), (3, .int x3)]) d_M_least_87 (by decide) rfl ?_
      refine am_goto (tgt := 28) d_M_least_89 (by decide) ?_
      refine am_sub [2, 3, 4, 5, 0] rfl ?_
      exact hK28 x1 x2 x3 v5 w h
    · have h := h.2 c53
      refine am_iload_n d_M_least_56 2 rfl ?_
      refine am_iconst (v := 1) d_M_least_57 rfl ?_
      refine am_icmp_eq (tgt := 70) d_M_least_58 (by decide) (fun c58 => ?_) (fun c58 => ?_)
      · have h := h.1 c58
        refine am_aload_n d_M_least_70 1 rfl ?_
        refine am_lload d_M_least_71 0 rfl ?_
        refine am_iload_n d_M_least_73 3 rfl ?_
        refine am_callV (C := y_M_isGood.cls) (d2 := d - 1) [.long v3, .int x2] d_M_least_74 mi_M_isGood wd_1309 wd_1311 ws_M_isGood (by decide) (el_M (show ay_sh 30 = _ from rfl)) rfl rfl (by omega) rfl rfl (Nat.le_of_ble_eq_true rfl) ?_
        refine Call.post ?_ (cf_M_isGood_ok (by omega) v3 x2  w _ h)
        rintro _ w7 ⟨r6, rfl, h⟩
        show wp g (fun _ => True) y_M_least prog_14_method_42_code 8 (some FieldType.long) d 77 [(6, .long v3), (0, .ref (g.1 + 30)), (1, .int x1), (2, .int x2), (3, .int x3), (4, .long x4)] [.int r6] w7 Q
        refine am_if_eq (tgt := 83) d_M_least_77 (by decide) (fun c77 => ?_) (fun c77 => ?_)
        · have h := h.1 c77
          refine am_lload d_M_least_83 5 rfl ?_
          refine am_lconst (v := 1) d_M_least_85 rfl ?_
          refine am_ladd d_M_least_86 ?_
          refine am_topl (fun v8 ev8 => ?_)
          have h := h v8 ev8
          refine am_lstore (l' := [(4, .long v8), (6, .long v3), (0, .ref (g.1 + 30)), (1, .int x1), (2, .int x2), (3, .int x3)]) d_M_least_87 (by decide) rfl ?_
          refine am_goto (tgt := 28) d_M_least_89 (by decide) ?_
          refine am_sub [2, 3, 4, 5, 0] rfl ?_
          exact hK28 x1 x2 x3 v8 w7 h
        · have h := h.2 c77
          refine am_lload d_M_least_80 0 rfl ?_
          exact am_lreturn d_M_least_82 rfl (hQ v3 w7 h)
      · have h := h.2 c58
        refine am_lload d_M_least_61 0 rfl ?_
        refine am_iconst (v := 0) d_M_least_63 rfl ?_
        refine am_callS (d2 := d - 1) [.long v3, .int (0 : Int32)] d_M_least_64 mi_M_has wd_1212 wd_1213 (by omega) rfl rfl (Nat.le_of_ble_eq_true rfl) ?_
        refine Call.post ?_ (cf_M_has_ok (by omega) v3 (0 : Int32)  w _ h)
        rintro _ _ ⟨r9, rfl, rfl, h⟩
        show wp g (fun _ => True) y_M_least prog_14_method_42_code 8 (some FieldType.long) d 67 [(6, .long v3), (0, .ref (g.1 + 30)), (1, .int x1), (2, .int x2), (3, .int x3), (4, .long x4)] [.int r9] w Q
        refine am_if_eq (tgt := 83) d_M_least_67 (by decide) (fun c67 => ?_) (fun c67 => ?_)
        · have h := h.1 c67
          refine am_lload d_M_least_83 5 rfl ?_
          refine am_lconst (v := 1) d_M_least_85 rfl ?_
          refine am_ladd d_M_least_86 ?_
          refine am_topl (fun v10 ev10 => ?_)
          have h := h v10 ev10
          refine am_lstore (l' := [(4, .long v10), (6, .long v3), (0, .ref (g.1 + 30)), (1, .int x1), (2, .int x2), (3, .int x3)]) d_M_least_87 (by decide) rfl ?_
          refine am_goto (tgt := 28) d_M_least_89 (by decide) ?_
          refine am_sub [2, 3, 4, 5, 0] rfl ?_
          exact hK28 x1 x2 x3 v10 w h
        · have h := h.2 c67
          refine am_aload_n d_M_least_70 1 rfl ?_
          refine am_lload d_M_least_71 0 rfl ?_
          refine am_iload_n d_M_least_73 3 rfl ?_
          refine am_callV (C := y_M_isGood.cls) (d2 := d - 1) [.long v3, .int x2] d_M_least_74 mi_M_isGood wd_1309 wd_1311 ws_M_isGood (by decide) (el_M (show ay_sh 30 = _ from rfl)) rfl rfl (by omega) rfl rfl (Nat.le_of_ble_eq_true rfl) ?_
          refine Call.post ?_ (cf_M_isGood_ok (by omega) v3 x2  w _ h)
          rintro _ w12 ⟨r11, rfl, h⟩
          show wp g (fun _ => True) y_M_least prog_14_method_42_code 8 (some FieldType.long) d 77 [(6, .long v3), (0, .ref (g.1 + 30)), (1, .int x1), (2, .int x2), (3, .int x3), (4, .long x4)] [.int r11] w12 Q
          refine am_if_eq (tgt := 83) d_M_least_77 (by decide) (fun c77 => ?_) (fun c77 => ?_)
          · have h := h.1 c77
            refine am_lload d_M_least_83 5 rfl ?_
            refine am_lconst (v := 1) d_M_least_85 rfl ?_
            refine am_ladd d_M_least_86 ?_
            refine am_topl (fun v13 ev13 => ?_)
            have h := h v13 ev13
            refine am_lstore (l' := [(4, .long v13), (6, .long v3), (0, .ref (g.1 + 30)), (1, .int x1), (2, .int x2), (3, .int x3)]) d_M_least_87 (by decide) rfl ?_
            refine am_goto (tgt := 28) d_M_least_89 (by decide) ?_
            refine am_sub [2, 3, 4, 5, 0] rfl ?_
            exact hK28 x1 x2 x3 v13 w12 h
          · have h := h.2 c77
            refine am_lload d_M_least_80 0 rfl ?_
            exact am_lreturn d_M_least_82 rfl (hQ v3 w12 h)
theorem cf_M_least_L28_ok {g : ayG} {d : Nat} (hd : 104 ≤ d)   (K18 : Int32 → Int32 → Int32 → Wd → Prop) (P : Int64 → Wd → Prop) (Q : Option Value → Wd → Prop) (hQ : ∀ x w2, P x w2 → Q (some (.long x)) w2) (hK18 : ∀ (x1 : Int32) (x2 : Int32) (x3 : Int32) (w : Wd), (K18 x1 x2 x3 w → wp g (fun _ => True) y_M_least prog_14_method_42_code 8 (some FieldType.long) d 18 [(0, .ref (g.1 + 30)), (1, .int x1), (2, .int x2), (3, .int x3)] [] w Q)) : ∀ (n : Nat) (x1 : Int32) (x2 : Int32) (x3 : Int32) (x4 : Int64) (w : Wd) (h : cf_M_least_L28 K18 P n x1 x2 x3 x4 w), wp g (fun _ => True) y_M_least prog_14_method_42_code 8 (some FieldType.long) d 28 [(0, .ref (g.1 + 30)), (1, .int x1), (2, .int x2), (3, .int x3), (4, .long x4)] [] w Q
  | 0, x1, x2, x3, x4, w, h => False.elim h
  | n + 1, x1, x2, x3, x4, w, h => cf_M_least_B28_ok hd   w K18 (cf_M_least_L28 K18 P n) P Q hQ hK18 (fun x1 x2 x3 x4 w h => cf_M_least_L28_ok hd   K18 P Q hQ hK18 n x1 x2 x3 x4 w h) x1 x2 x3 x4 h
theorem cf_M_least_B18_ok {g : ayG} {d : Nat} (hd : 104 ≤ d)   (w : Wd) (K18 : Int32 → Int32 → Int32 → Wd → Prop) (P : Int64 → Wd → Prop) (Q : Option Value → Wd → Prop) (hQ : ∀ x w2, P x w2 → Q (some (.long x)) w2) (hK18 : ∀ (x1 : Int32) (x2 : Int32) (x3 : Int32) (w : Wd), (K18 x1 x2 x3 w → wp g (fun _ => True) y_M_least prog_14_method_42_code 8 (some FieldType.long) d 18 [(0, .ref (g.1 + 30)), (1, .int x1), (2, .int x2), (3, .int x3)] [] w Q)) (x1 : Int32) (x2 : Int32) (x3 : Int32) (h : cf_M_least_B18 K18 P x1 x2 x3 w) : wp g (fun _ => True) y_M_least prog_14_method_42_code 8 (some FieldType.long) d 18 [(0, .ref (g.1 + 30)), (1, .int x1), (2, .int x2), (3, .int x3)] [] w Q := by
  unfold cf_M_least_B18 at h
  refine am_iload_n d_M_least_18 3 rfl ?_
  refine am_iload_n d_M_least_19 1 rfl ?_
  refine am_iconst (v := 1) d_M_least_20 rfl ?_
  refine am_iadd d_M_least_21 ?_
  refine am_icmp_gt (tgt := 98) d_M_least_22 (by decide) (fun c22 => ?_) (fun c22 => ?_)
  · have h := h.1 c22
    refine am_ldc2 (v := -1) d_M_least_98 wd_1076 ?_
    exact am_lreturn d_M_least_101 rfl (hQ (-1 : Int64) w h)
  · have h := h.2 c22
    refine am_lconst (v := 0) d_M_least_25 rfl ?_
    refine am_lstore (l' := [(4, .long (0 : Int64)), (0, .ref (g.1 + 30)), (1, .int x1), (2, .int x2), (3, .int x3)]) d_M_least_26 (by decide) rfl ?_
    refine am_sub [1, 2, 3, 4, 0] rfl ?_
    obtain ⟨n, h⟩ := h
    exact cf_M_least_L28_ok (by omega)   K18 P Q hQ hK18 n x1 x2 x3 (0 : Int64) w h
theorem cf_M_least_L18_ok {g : ayG} {d : Nat} (hd : 104 ≤ d)    (P : Int64 → Wd → Prop) (Q : Option Value → Wd → Prop) (hQ : ∀ x w2, P x w2 → Q (some (.long x)) w2)  : ∀ (n : Nat) (x1 : Int32) (x2 : Int32) (x3 : Int32) (w : Wd) (h : cf_M_least_L18 P n x1 x2 x3 w), wp g (fun _ => True) y_M_least prog_14_method_42_code 8 (some FieldType.long) d 18 [(0, .ref (g.1 + 30)), (1, .int x1), (2, .int x2), (3, .int x3)] [] w Q
  | 0, x1, x2, x3, w, h => False.elim h
  | n + 1, x1, x2, x3, w, h => cf_M_least_B18_ok hd   w (cf_M_least_L18 P n) P Q hQ (fun x1 x2 x3 w h => cf_M_least_L18_ok hd    P Q hQ  n x1 x2 x3 w h) x1 x2 x3 h
theorem cf_M_least_ok {g : ayG} {d : Nat} (hd : 104 ≤ d) (a0 : Int32) (a1 : Int32)  (w : Wd) (P : Int64 → Wd → Prop) (h : cf_M_least a0 a1 w P) : Call g y_M_least prog_14_method_42_code 8 (some FieldType.long) d [.ref (g.1 + 30), .int a0, .int a1] w (fun (r : Option Value) (w2 : Wd) => ∃ x, r = some (.long x) ∧ P x w2) := by
  unfold cf_M_least at h
  refine am_enter mi_M_least (Nat.le_of_ble_eq_true rfl) ?_
  have hQ : ∀ x w2, P x w2 → (fun (r : Option Value) (w2 : Wd) => ∃ x, r = some (.long x) ∧ P x w2) (some (.long x)) w2 := fun x w2 h => ⟨x, rfl, h⟩
  generalize (fun (r : Option Value) (w2 : Wd) => ∃ x, r = some (.long x) ∧ P x w2) = Q at hQ ⊢
  show wp g (fun _ => True) y_M_least prog_14_method_42_code 8 (some FieldType.long) d 0 [(0, .ref (g.1 + 30)), (1, .int a0), (2, .int a1)] [] w Q
  refine am_iload_n d_M_least_0 1 rfl ?_
  refine am_i2l d_M_least_1 ?_
  refine am_lconst (v := 1) d_M_least_2 rfl ?_
  refine am_ldc2 (v := 20) d_M_least_3 wd_1317 ?_
  refine am_callS (d2 := d - 1) [.long a0.toInt64, .long (1 : Int64), .long (20 : Int64)] d_M_least_6 mi_M_in wd_1192 wd_1193 (by omega) rfl rfl (Nat.le_of_ble_eq_true rfl) ?_
  refine Call.post ?_ (cf_M_in_ok (by omega) a0.toInt64 (1 : Int64) (20 : Int64)  w _ h)
  rintro _ _ ⟨r1, rfl, rfl, h⟩
  show wp g (fun _ => True) y_M_least prog_14_method_42_code 8 (some FieldType.long) d 9 [(0, .ref (g.1 + 30)), (1, .int a0), (2, .int a1)] [.int r1] w Q
  refine am_if_ne (tgt := 16) d_M_least_9 (by decide) (fun c9 => ?_) (fun c9 => ?_)
  · have h := h.1 c9
    refine am_iconst (v := 1) d_M_least_16 rfl ?_
    refine am_istore_n (l' := [(3, .int (1 : Int32)), (0, .ref (g.1 + 30)), (1, .int a0), (2, .int a1)]) d_M_least_17 (by decide) rfl ?_
    refine am_sub [1, 2, 3, 0] rfl ?_
    obtain ⟨n, h⟩ := h
    exact cf_M_least_L18_ok (by omega)    P Q hQ  n a0 a1 (1 : Int32) w h
  · have h := h.2 c9
    refine am_ldc2 (v := -1) d_M_least_12 wd_1076 ?_
    exact am_lreturn d_M_least_15 rfl (hQ (-1 : Int64) w h)
theorem d_M_moebius_0 : decode prog_14_method_43_code 0 = .ok (.aload_n 0, 1) := by decide +kernel
theorem d_M_moebius_1 : decode prog_14_method_43_code 1 = .ok (.iload_n 1, 1) := by decide +kernel
theorem d_M_moebius_2 : decode prog_14_method_43_code 2 = .ok (.i2l, 1) := by decide +kernel
theorem d_M_moebius_3 : decode prog_14_method_43_code 3 = .ok (.invokevirtual 130, 3) := by decide +kernel
theorem d_M_moebius_6 : decode prog_14_method_43_code 6 = .ok (.iconst 1, 1) := by decide +kernel
theorem d_M_moebius_7 : decode prog_14_method_43_code 7 = .ok (.istore_n 2, 1) := by decide +kernel
theorem d_M_moebius_8 : decode prog_14_method_43_code 8 = .ok (.iconst 0, 1) := by decide +kernel
theorem d_M_moebius_9 : decode prog_14_method_43_code 9 = .ok (.istore_n 3, 1) := by decide +kernel
theorem d_M_moebius_10 : decode prog_14_method_43_code 10 = .ok (.iload_n 3, 1) := by decide +kernel
theorem d_M_moebius_11 : decode prog_14_method_43_code 11 = .ok (.aload_n 0, 1) := by decide +kernel
theorem d_M_moebius_12 : decode prog_14_method_43_code 12 = .ok (.getfield 119, 3) := by decide +kernel
theorem d_M_moebius_15 : decode prog_14_method_43_code 15 = .ok (.if_icmp .ge 35, 3) := by decide +kernel
theorem d_M_moebius_18 : decode prog_14_method_43_code 18 = .ok (.iload_n 1, 1) := by decide +kernel
theorem d_M_moebius_19 : decode prog_14_method_43_code 19 = .ok (.i2l, 1) := by decide +kernel
theorem d_M_moebius_20 : decode prog_14_method_43_code 20 = .ok (.aload_n 0, 1) := by decide +kernel
theorem d_M_moebius_21 : decode prog_14_method_43_code 21 = .ok (.getfield 32, 3) := by decide +kernel
theorem d_M_moebius_24 : decode prog_14_method_43_code 24 = .ok (.iload_n 3, 1) := by decide +kernel
theorem d_M_moebius_25 : decode prog_14_method_43_code 25 = .ok (.laload, 1) := by decide +kernel
theorem d_M_moebius_26 : decode prog_14_method_43_code 26 = .ok (.ldiv, 1) := by decide +kernel
theorem d_M_moebius_27 : decode prog_14_method_43_code 27 = .ok (.aload_n 0, 1) := by decide +kernel
theorem d_M_moebius_28 : decode prog_14_method_43_code 28 = .ok (.getfield 32, 3) := by decide +kernel
theorem d_M_moebius_31 : decode prog_14_method_43_code 31 = .ok (.iload_n 3, 1) := by decide +kernel
theorem d_M_moebius_32 : decode prog_14_method_43_code 32 = .ok (.laload, 1) := by decide +kernel
theorem d_M_moebius_33 : decode prog_14_method_43_code 33 = .ok (.lrem, 1) := by decide +kernel
theorem d_M_moebius_34 : decode prog_14_method_43_code 34 = .ok (.lconst 0, 1) := by decide +kernel
theorem d_M_moebius_35 : decode prog_14_method_43_code 35 = .ok (.lcmp, 1) := by decide +kernel
theorem d_M_moebius_36 : decode prog_14_method_43_code 36 = .ok (.ifCond .ne 5, 3) := by decide +kernel
theorem d_M_moebius_39 : decode prog_14_method_43_code 39 = .ok (.iconst 0, 1) := by decide +kernel
theorem d_M_moebius_40 : decode prog_14_method_43_code 40 = .ok (.ireturn, 1) := by decide +kernel
theorem d_M_moebius_41 : decode prog_14_method_43_code 41 = .ok (.iload_n 2, 1) := by decide +kernel
theorem d_M_moebius_42 : decode prog_14_method_43_code 42 = .ok (.ineg, 1) := by decide +kernel
theorem d_M_moebius_43 : decode prog_14_method_43_code 43 = .ok (.istore_n 2, 1) := by decide +kernel
theorem d_M_moebius_44 : decode prog_14_method_43_code 44 = .ok (.iinc 3 1, 3) := by decide +kernel
theorem d_M_moebius_47 : decode prog_14_method_43_code 47 = .ok (.goto (-37), 3) := by decide +kernel
theorem d_M_moebius_50 : decode prog_14_method_43_code 50 = .ok (.iload_n 2, 1) := by decide +kernel
theorem d_M_moebius_51 : decode prog_14_method_43_code 51 = .ok (.ireturn, 1) := by decide +kernel
def cf_M_moebius_B10  (K10 : Int32 → Int32 → Int32 → Wd → Prop) (P : Int32 → Wd → Prop) (x1 : Int32) (x2 : Int32) (x3 : Int32) (w : Wd) : Prop :=
  (((w.1 30 9) ≤ x3 → P x2 w) ∧ (¬ (w.1 30 9) ≤ x3 → vp_in x3 20 ∧ ¬ (w.2 36 x3.toNatClampNeg) = 0 ∧ vp_in x3 20 ∧ ¬ (w.2 36 x3.toNatClampNeg) = 0 ∧ ((¬ (lrem (x1.toInt64 / (w.2 36 x3.toNatClampNeg)) (w.2 36 x3.toNatClampNeg)) = (0 : Int64) → ∀ v2, v2 = -x2 → ∀ v3, v3 = x3 + (1 : Int32) → K10 x1 v2 v3 w) ∧ ((lrem (x1.toInt64 / (w.2 36 x3.toNatClampNeg)) (w.2 36 x3.toNatClampNeg)) = (0 : Int64) → P (0 : Int32) w))))
def cf_M_moebius_L10   (P : Int32 → Wd → Prop) : Nat → Int32 → Int32 → Int32 → Wd → Prop
  | 0 => fun x1 x2 x3 w => False
  | n + 1 => fun x1 x2 x3 w => cf_M_moebius_B10 (cf_M_moebius_L10 P n) P x1 x2 x3 w
def cf_M_moebius (a0 : Int32) (w : Wd) (P : Int32 → Wd → Prop) : Prop :=
  cf_M_laysPrimes a0.toInt64 w (fun w1 => ∃ n, cf_M_moebius_L10 P n a0 (1 : Int32) (0 : Int32) w1)
theorem cf_M_moebius_B10_ok {g : ayG} {d : Nat} (hd : 1 ≤ d)   (w : Wd) (K10 : Int32 → Int32 → Int32 → Wd → Prop) (P : Int32 → Wd → Prop) (Q : Option Value → Wd → Prop) (hQ : ∀ x w2, P x w2 → Q (some (.int x)) w2) (hK10 : ∀ (x1 : Int32) (x2 : Int32) (x3 : Int32) (w : Wd), (K10 x1 x2 x3 w → wp g (fun _ => True) y_M_moebius prog_14_method_43_code 4 (some FieldType.int) d 10 [(0, .ref (g.1 + 30)), (1, .int x1), (2, .int x2), (3, .int x3)] [] w Q)) (x1 : Int32) (x2 : Int32) (x3 : Int32) (h : cf_M_moebius_B10 K10 P x1 x2 x3 w) : wp g (fun _ => True) y_M_moebius prog_14_method_43_code 4 (some FieldType.int) d 10 [(0, .ref (g.1 + 30)), (1, .int x1), (2, .int x2), (3, .int x3)] [] w Q := by
  unfold cf_M_moebius_B10 at h
  refine am_iload_n d_M_moebius_10 3 rfl ?_
  refine am_aload_n d_M_moebius_11 0 rfl ?_
  refine am_getf (T := F_M) (fs := ob_M g w 30) (C := R_M) (N := 35) (ci := 10) 9 d_M_moebius_12 wd_1086 rfl (by decide) (el_M (show ay_sh 30 = _ from rfl)) rfl i_M (by decide) rfl ?_
  refine am_icmp_ge (tgt := 50) d_M_moebius_15 (by decide) (fun c15 => ?_) (fun c15 => ?_)
  · have h := h.1 c15
    refine am_iload_n d_M_moebius_50 2 rfl ?_
    exact am_ireturn d_M_moebius_51 rfl rfl (hQ x2 w h)
  · have h := h.2 c15
    refine am_iload_n d_M_moebius_18 1 rfl ?_
    refine am_i2l d_M_moebius_19 ?_
    refine am_aload_n d_M_moebius_20 0 rfl ?_
    refine am_getf (T := F_M) (fs := ob_M g w 30) (C := R_M) (N := 35) (ci := 10) 8 d_M_moebius_21 wd_1085 rfl (by decide) (el_M (show ay_sh 30 = _ from rfl)) rfl i_M (by decide) rfl ?_
    refine am_iload_n d_M_moebius_24 3 rfl ?_
    have hi25 := h.1
    have h := h.2
    refine am_laload d_M_moebius_25 (show ay_sh 36 = _ from rfl) hi25 ?_
    have hz26 := h.1
    have h := h.2
    refine am_ldiv d_M_moebius_26 hz26 ?_
    refine am_aload_n d_M_moebius_27 0 rfl ?_
    refine am_getf (T := F_M) (fs := ob_M g w 30) (C := R_M) (N := 35) (ci := 10) 8 d_M_moebius_28 wd_1085 rfl (by decide) (el_M (show ay_sh 30 = _ from rfl)) rfl i_M (by decide) rfl ?_
    refine am_iload_n d_M_moebius_31 3 rfl ?_
    have hi32 := h.1
    have h := h.2
    refine am_laload d_M_moebius_32 (show ay_sh 36 = _ from rfl) hi32 ?_
    have hz33 := h.1
    have h := h.2
    refine am_lrem d_M_moebius_33 hz33 ?_
    refine am_lconst (v := 0) d_M_moebius_34 rfl ?_
    refine am_lif_ne (tgt := 41) d_M_moebius_35 d_M_moebius_36 (by decide) (fun c35 => ?_) (fun c35 => ?_)
    · have h := h.1 c35
      refine am_iload_n d_M_moebius_41 2 rfl ?_
      refine am_ineg d_M_moebius_42 ?_
      refine am_topi (fun v2 ev2 => ?_)
      have h := h v2 ev2
      refine am_istore_n (l' := [(2, .int v2), (0, .ref (g.1 + 30)), (1, .int x1), (3, .int x3)]) d_M_moebius_43 (by decide) rfl ?_
      obtain ⟨v3, ev3⟩ : ∃ z : Int32, z = x3 + (1 : Int32) := ⟨_, rfl⟩
      have h := h v3 ev3
      refine am_iinc (v := v3) (l' := [(3, .int v3), (2, .int v2), (0, .ref (g.1 + 30)), (1, .int x1)]) d_M_moebius_44 3 rfl (by rw [ev3]; rfl) (by decide) rfl ?_
      refine am_goto (tgt := 10) d_M_moebius_47 (by decide) ?_
      refine am_sub [2, 3, 1, 0] rfl ?_
      exact hK10 x1 v2 v3 w h
    · have h := h.2 c35
      refine am_iconst (v := 0) d_M_moebius_39 rfl ?_
      exact am_ireturn d_M_moebius_40 rfl rfl (hQ (0 : Int32) w h)
theorem cf_M_moebius_L10_ok {g : ayG} {d : Nat} (hd : 1 ≤ d)    (P : Int32 → Wd → Prop) (Q : Option Value → Wd → Prop) (hQ : ∀ x w2, P x w2 → Q (some (.int x)) w2)  : ∀ (n : Nat) (x1 : Int32) (x2 : Int32) (x3 : Int32) (w : Wd) (h : cf_M_moebius_L10 P n x1 x2 x3 w), wp g (fun _ => True) y_M_moebius prog_14_method_43_code 4 (some FieldType.int) d 10 [(0, .ref (g.1 + 30)), (1, .int x1), (2, .int x2), (3, .int x3)] [] w Q
  | 0, x1, x2, x3, w, h => False.elim h
  | n + 1, x1, x2, x3, w, h => cf_M_moebius_B10_ok hd   w (cf_M_moebius_L10 P n) P Q hQ (fun x1 x2 x3 w h => cf_M_moebius_L10_ok hd    P Q hQ  n x1 x2 x3 w h) x1 x2 x3 h
theorem cf_M_moebius_ok {g : ayG} {d : Nat} (hd : 1 ≤ d) (a0 : Int32)  (w : Wd) (P : Int32 → Wd → Prop) (h : cf_M_moebius a0 w P) : Call g y_M_moebius prog_14_method_43_code 4 (some FieldType.int) d [.ref (g.1 + 30), .int a0] w (fun (r : Option Value) (w2 : Wd) => ∃ x, r = some (.int x) ∧ P x w2) := by
  unfold cf_M_moebius at h
  refine am_enter mi_M_moebius (Nat.le_of_ble_eq_true rfl) ?_
  have hQ : ∀ x w2, P x w2 → (fun (r : Option Value) (w2 : Wd) => ∃ x, r = some (.int x) ∧ P x w2) (some (.int x)) w2 := fun x w2 h => ⟨x, rfl, h⟩
  generalize (fun (r : Option Value) (w2 : Wd) => ∃ x, r = some (.int x) ∧ P x w2) = Q at hQ ⊢
  show wp g (fun _ => True) y_M_moebius prog_14_method_43_code 4 (some FieldType.int) d 0 [(0, .ref (g.1 + 30)), (1, .int a0)] [] w Q
  refine am_aload_n d_M_moebius_0 0 rfl ?_
  refine am_iload_n d_M_moebius_1 1 rfl ?_
  refine am_i2l d_M_moebius_2 ?_
  refine am_callV (C := y_M_laysPrimes.cls) (d2 := d - 1) [.long a0.toInt64] d_M_moebius_3 mi_M_laysPrimes wd_1246 wd_1248 ws_M_laysPrimes (by decide) (el_M (show ay_sh 30 = _ from rfl)) rfl rfl (by omega) rfl rfl (Nat.le_of_ble_eq_true rfl) ?_
  refine Call.post ?_ (cf_M_laysPrimes_ok (by omega) a0.toInt64  w _ h)
  rintro _ w1 ⟨rfl, h⟩
  show wp g (fun _ => True) y_M_moebius prog_14_method_43_code 4 (some FieldType.int) d 6 [(0, .ref (g.1 + 30)), (1, .int a0)] [] w1 Q
  refine am_iconst (v := 1) d_M_moebius_6 rfl ?_
  refine am_istore_n (l' := [(2, .int (1 : Int32)), (0, .ref (g.1 + 30)), (1, .int a0)]) d_M_moebius_7 (by decide) rfl ?_
  refine am_iconst (v := 0) d_M_moebius_8 rfl ?_
  refine am_istore_n (l' := [(3, .int (0 : Int32)), (2, .int (1 : Int32)), (0, .ref (g.1 + 30)), (1, .int a0)]) d_M_moebius_9 (by decide) rfl ?_
  refine am_sub [2, 3, 1, 0] rfl ?_
  obtain ⟨n, h⟩ := h
  exact cf_M_moebius_L10_ok (by omega)    P Q hQ  n a0 (1 : Int32) (0 : Int32) w1 h
theorem d_M_coprimes_0 : decode prog_14_method_44_code 0 = .ok (.aload_n 0, 1) := by decide +kernel
theorem d_M_coprimes_1 : decode prog_14_method_44_code 1 = .ok (.lload_n 1, 1) := by decide +kernel
theorem d_M_coprimes_2 : decode prog_14_method_44_code 2 = .ok (.invokevirtual 130, 3) := by decide +kernel
theorem d_M_coprimes_5 : decode prog_14_method_44_code 5 = .ok (.lload_n 1, 1) := by decide +kernel
theorem d_M_coprimes_6 : decode prog_14_method_44_code 6 = .ok (.lstore_n 3, 1) := by decide +kernel
theorem d_M_coprimes_7 : decode prog_14_method_44_code 7 = .ok (.iconst 0, 1) := by decide +kernel
theorem d_M_coprimes_8 : decode prog_14_method_44_code 8 = .ok (.istore 5, 2) := by decide +kernel
theorem d_M_coprimes_10 : decode prog_14_method_44_code 10 = .ok (.iload 5, 2) := by decide +kernel
theorem d_M_coprimes_12 : decode prog_14_method_44_code 12 = .ok (.aload_n 0, 1) := by decide +kernel
theorem d_M_coprimes_13 : decode prog_14_method_44_code 13 = .ok (.getfield 119, 3) := by decide +kernel
theorem d_M_coprimes_16 : decode prog_14_method_44_code 16 = .ok (.if_icmp .ge 29, 3) := by decide +kernel
theorem d_M_coprimes_19 : decode prog_14_method_44_code 19 = .ok (.lload_n 3, 1) := by decide +kernel
theorem d_M_coprimes_20 : decode prog_14_method_44_code 20 = .ok (.aload_n 0, 1) := by decide +kernel
theorem d_M_coprimes_21 : decode prog_14_method_44_code 21 = .ok (.getfield 32, 3) := by decide +kernel
theorem d_M_coprimes_24 : decode prog_14_method_44_code 24 = .ok (.iload 5, 2) := by decide +kernel
theorem d_M_coprimes_26 : decode prog_14_method_44_code 26 = .ok (.laload, 1) := by decide +kernel
theorem d_M_coprimes_27 : decode prog_14_method_44_code 27 = .ok (.ldiv, 1) := by decide +kernel
theorem d_M_coprimes_28 : decode prog_14_method_44_code 28 = .ok (.aload_n 0, 1) := by decide +kernel
theorem d_M_coprimes_29 : decode prog_14_method_44_code 29 = .ok (.getfield 32, 3) := by decide +kernel
theorem d_M_coprimes_32 : decode prog_14_method_44_code 32 = .ok (.iload 5, 2) := by decide +kernel
theorem d_M_coprimes_34 : decode prog_14_method_44_code 34 = .ok (.laload, 1) := by decide +kernel
theorem d_M_coprimes_35 : decode prog_14_method_44_code 35 = .ok (.lconst 1, 1) := by decide +kernel
theorem d_M_coprimes_36 : decode prog_14_method_44_code 36 = .ok (.lsub, 1) := by decide +kernel
theorem d_M_coprimes_37 : decode prog_14_method_44_code 37 = .ok (.lmul, 1) := by decide +kernel
theorem d_M_coprimes_38 : decode prog_14_method_44_code 38 = .ok (.lstore_n 3, 1) := by decide +kernel
theorem d_M_coprimes_39 : decode prog_14_method_44_code 39 = .ok (.iinc 5 1, 3) := by decide +kernel
theorem d_M_coprimes_42 : decode prog_14_method_44_code 42 = .ok (.goto (-32), 3) := by decide +kernel
theorem d_M_coprimes_45 : decode prog_14_method_44_code 45 = .ok (.lload_n 3, 1) := by decide +kernel
theorem d_M_coprimes_46 : decode prog_14_method_44_code 46 = .ok (.lreturn, 1) := by decide +kernel
def cf_M_coprimes_B10  (K10 : Int64 → Int32 → Wd → Prop) (P : Int64 → Wd → Prop) (x3 : Int64) (x5 : Int32) (w : Wd) : Prop :=
  (((w.1 30 9) ≤ x5 → P x3 w) ∧ (¬ (w.1 30 9) ≤ x5 → vp_in x5 20 ∧ ¬ (w.2 36 x5.toNatClampNeg) = 0 ∧ vp_in x5 20 ∧ ∀ v2, v2 = (x3 / (w.2 36 x5.toNatClampNeg)) * ((w.2 36 x5.toNatClampNeg) - (1 : Int64)) → ∀ v3, v3 = x5 + (1 : Int32) → K10 v2 v3 w))
def cf_M_coprimes_L10   (P : Int64 → Wd → Prop) : Nat → Int64 → Int32 → Wd → Prop
  | 0 => fun x3 x5 w => False
  | n + 1 => fun x3 x5 w => cf_M_coprimes_B10 (cf_M_coprimes_L10 P n) P x3 x5 w
def cf_M_coprimes (a0 : Int64) (w : Wd) (P : Int64 → Wd → Prop) : Prop :=
  cf_M_laysPrimes a0 w (fun w1 => ∃ n, cf_M_coprimes_L10 P n a0 (0 : Int32) w1)
theorem cf_M_coprimes_B10_ok {g : ayG} {d : Nat} (hd : 1 ≤ d)   (w : Wd) (K10 : Int64 → Int32 → Wd → Prop) (P : Int64 → Wd → Prop) (Q : Option Value → Wd → Prop) (hQ : ∀ x w2, P x w2 → Q (some (.long x)) w2) (hK10 : ∀ (x3 : Int64) (x5 : Int32) (w : Wd), (K10 x3 x5 w → wp g (fun _ => True) y_M_coprimes prog_14_method_44_code 6 (some FieldType.long) d 10 [(0, .ref (g.1 + 30)), (3, .long x3), (5, .int x5)] [] w Q)) (x3 : Int64) (x5 : Int32) (h : cf_M_coprimes_B10 K10 P x3 x5 w) : wp g (fun _ => True) y_M_coprimes prog_14_method_44_code 6 (some FieldType.long) d 10 [(0, .ref (g.1 + 30)), (3, .long x3), (5, .int x5)] [] w Q := by
  unfold cf_M_coprimes_B10 at h
  refine am_iload d_M_coprimes_10 2 rfl ?_
  refine am_aload_n d_M_coprimes_12 0 rfl ?_
  refine am_getf (T := F_M) (fs := ob_M g w 30) (C := R_M) (N := 35) (ci := 10) 9 d_M_coprimes_13 wd_1086 rfl (by decide) (el_M (show ay_sh 30 = _ from rfl)) rfl i_M (by decide) rfl ?_
  refine am_icmp_ge (tgt := 45) d_M_coprimes_16 (by decide) (fun c16 => ?_) (fun c16 => ?_)
  · have h := h.1 c16
    refine am_lload_n d_M_coprimes_45 1 rfl ?_
    exact am_lreturn d_M_coprimes_46 rfl (hQ x3 w h)
  · have h := h.2 c16
    refine am_lload_n d_M_coprimes_19 1 rfl ?_
    refine am_aload_n d_M_coprimes_20 0 rfl ?_
    refine am_getf (T := F_M) (fs := ob_M g w 30) (C := R_M) (N := 35) (ci := 10) 8 d_M_coprimes_21 wd_1085 rfl (by decide) (el_M (show ay_sh 30 = _ from rfl)) rfl i_M (by decide) rfl ?_
    refine am_iload d_M_coprimes_24 2 rfl ?_
    have hi26 := h.1
    have h := h.2
    refine am_laload d_M_coprimes_26 (show ay_sh 36 = _ from rfl) hi26 ?_
    have hz27 := h.1
    have h := h.2
    refine am_ldiv d_M_coprimes_27 hz27 ?_
    refine am_aload_n d_M_coprimes_28 0 rfl ?_
    refine am_getf (T := F_M) (fs := ob_M g w 30) (C := R_M) (N := 35) (ci := 10) 8 d_M_coprimes_29 wd_1085 rfl (by decide) (el_M (show ay_sh 30 = _ from rfl)) rfl i_M (by decide) rfl ?_
    refine am_iload d_M_coprimes_32 2 rfl ?_
    have hi34 := h.1
    have h := h.2
    refine am_laload d_M_coprimes_34 (show ay_sh 36 = _ from rfl) hi34 ?_
    refine am_lconst (v := 1) d_M_coprimes_35 rfl ?_
    refine am_lsub d_M_coprimes_36 ?_
    refine am_lmul d_M_coprimes_37 ?_
    refine am_topl (fun v2 ev2 => ?_)
    have h := h v2 ev2
    refine am_lstore_n (l' := [(3, .long v2), (0, .ref (g.1 + 30)), (5, .int x5)]) d_M_coprimes_38 (by decide) rfl ?_
    obtain ⟨v3, ev3⟩ : ∃ z : Int32, z = x5 + (1 : Int32) := ⟨_, rfl⟩
    have h := h v3 ev3
    refine am_iinc (v := v3) (l' := [(5, .int v3), (3, .long v2), (0, .ref (g.1 + 30))]) d_M_coprimes_39 2 rfl (by rw [ev3]; rfl) (by decide) rfl ?_
    refine am_goto (tgt := 10) d_M_coprimes_42 (by decide) ?_
    refine am_sub [2, 1, 0] rfl ?_
    exact hK10 v2 v3 w h
theorem cf_M_coprimes_L10_ok {g : ayG} {d : Nat} (hd : 1 ≤ d)    (P : Int64 → Wd → Prop) (Q : Option Value → Wd → Prop) (hQ : ∀ x w2, P x w2 → Q (some (.long x)) w2)  : ∀ (n : Nat) (x3 : Int64) (x5 : Int32) (w : Wd) (h : cf_M_coprimes_L10 P n x3 x5 w), wp g (fun _ => True) y_M_coprimes prog_14_method_44_code 6 (some FieldType.long) d 10 [(0, .ref (g.1 + 30)), (3, .long x3), (5, .int x5)] [] w Q
  | 0, x3, x5, w, h => False.elim h
  | n + 1, x3, x5, w, h => cf_M_coprimes_B10_ok hd   w (cf_M_coprimes_L10 P n) P Q hQ (fun x3 x5 w h => cf_M_coprimes_L10_ok hd    P Q hQ  n x3 x5 w h) x3 x5 h
theorem cf_M_coprimes_ok {g : ayG} {d : Nat} (hd : 1 ≤ d) (a0 : Int64)  (w : Wd) (P : Int64 → Wd → Prop) (h : cf_M_coprimes a0 w P) : Call g y_M_coprimes prog_14_method_44_code 6 (some FieldType.long) d [.ref (g.1 + 30), .long a0] w (fun (r : Option Value) (w2 : Wd) => ∃ x, r = some (.long x) ∧ P x w2) := by
  unfold cf_M_coprimes at h
  refine am_enter mi_M_coprimes (Nat.le_of_ble_eq_true rfl) ?_
  have hQ : ∀ x w2, P x w2 → (fun (r : Option Value) (w2 : Wd) => ∃ x, r = some (.long x) ∧ P x w2) (some (.long x)) w2 := fun x w2 h => ⟨x, rfl, h⟩
  generalize (fun (r : Option Value) (w2 : Wd) => ∃ x, r = some (.long x) ∧ P x w2) = Q at hQ ⊢
  show wp g (fun _ => True) y_M_coprimes prog_14_method_44_code 6 (some FieldType.long) d 0 [(0, .ref (g.1 + 30)), (1, .long a0)] [] w Q
  refine am_aload_n d_M_coprimes_0 0 rfl ?_
  refine am_lload_n d_M_coprimes_1 1 rfl ?_
  refine am_callV (C := y_M_laysPrimes.cls) (d2 := d - 1) [.long a0] d_M_coprimes_2 mi_M_laysPrimes wd_1246 wd_1248 ws_M_laysPrimes (by decide) (el_M (show ay_sh 30 = _ from rfl)) rfl rfl (by omega) rfl rfl (Nat.le_of_ble_eq_true rfl) ?_
  refine Call.post ?_ (cf_M_laysPrimes_ok (by omega) a0  w _ h)
  rintro _ w1 ⟨rfl, h⟩
  show wp g (fun _ => True) y_M_coprimes prog_14_method_44_code 6 (some FieldType.long) d 5 [(0, .ref (g.1 + 30)), (1, .long a0)] [] w1 Q
  refine am_lload_n d_M_coprimes_5 1 rfl ?_
  refine am_lstore_n (l' := [(3, .long a0), (0, .ref (g.1 + 30)), (1, .long a0)]) d_M_coprimes_6 (by decide) rfl ?_
  refine am_iconst (v := 0) d_M_coprimes_7 rfl ?_
  refine am_istore (l' := [(5, .int (0 : Int32)), (3, .long a0), (0, .ref (g.1 + 30)), (1, .long a0)]) d_M_coprimes_8 (by decide) rfl ?_
  refine am_sub [2, 1, 0] rfl ?_
  obtain ⟨n, h⟩ := h
  exact cf_M_coprimes_L10_ok (by omega)    P Q hQ  n a0 (0 : Int32) w1 h
theorem d_M_many_0 : decode prog_14_method_45_code 0 = .ok (.iload_n 1, 1) := by decide +kernel
theorem d_M_many_1 : decode prog_14_method_45_code 1 = .ok (.i2l, 1) := by decide +kernel
theorem d_M_many_2 : decode prog_14_method_45_code 2 = .ok (.lconst 1, 1) := by decide +kernel
theorem d_M_many_3 : decode prog_14_method_45_code 3 = .ok (.ldc2_w 164, 3) := by decide +kernel
theorem d_M_many_6 : decode prog_14_method_45_code 6 = .ok (.invokestatic 76, 3) := by decide +kernel
theorem d_M_many_9 : decode prog_14_method_45_code 9 = .ok (.ifCond .ne 7, 3) := by decide +kernel
theorem d_M_many_12 : decode prog_14_method_45_code 12 = .ok (.ldc2_w 26, 3) := by decide +kernel
theorem d_M_many_15 : decode prog_14_method_45_code 15 = .ok (.lreturn, 1) := by decide +kernel
theorem d_M_many_16 : decode prog_14_method_45_code 16 = .ok (.iload_n 2, 1) := by decide +kernel
theorem d_M_many_17 : decode prog_14_method_45_code 17 = .ok (.ifCond .eq 15, 3) := by decide +kernel
theorem d_M_many_20 : decode prog_14_method_45_code 20 = .ok (.aload_n 0, 1) := by decide +kernel
theorem d_M_many_21 : decode prog_14_method_45_code 21 = .ok (.iload_n 1, 1) := by decide +kernel
theorem d_M_many_22 : decode prog_14_method_45_code 22 = .ok (.invokestatic 122, 3) := by decide +kernel
theorem d_M_many_25 : decode prog_14_method_45_code 25 = .ok (.invokevirtual 187, 3) := by decide +kernel
theorem d_M_many_28 : decode prog_14_method_45_code 28 = .ok (.iload_n 1, 1) := by decide +kernel
theorem d_M_many_29 : decode prog_14_method_45_code 29 = .ok (.i2l, 1) := by decide +kernel
theorem d_M_many_30 : decode prog_14_method_45_code 30 = .ok (.ldiv, 1) := by decide +kernel
theorem d_M_many_31 : decode prog_14_method_45_code 31 = .ok (.lreturn, 1) := by decide +kernel
theorem d_M_many_32 : decode prog_14_method_45_code 32 = .ok (.lconst 0, 1) := by decide +kernel
theorem d_M_many_33 : decode prog_14_method_45_code 33 = .ok (.lstore_n 3, 1) := by decide +kernel
theorem d_M_many_34 : decode prog_14_method_45_code 34 = .ok (.iconst 1, 1) := by decide +kernel
theorem d_M_many_35 : decode prog_14_method_45_code 35 = .ok (.istore 5, 2) := by decide +kernel
theorem d_M_many_37 : decode prog_14_method_45_code 37 = .ok (.iload 5, 2) := by decide +kernel
theorem d_M_many_39 : decode prog_14_method_45_code 39 = .ok (.iload_n 1, 1) := by decide +kernel
theorem d_M_many_40 : decode prog_14_method_45_code 40 = .ok (.if_icmp .gt 33, 3) := by decide +kernel
theorem d_M_many_43 : decode prog_14_method_45_code 43 = .ok (.iload_n 1, 1) := by decide +kernel
theorem d_M_many_44 : decode prog_14_method_45_code 44 = .ok (.iload 5, 2) := by decide +kernel
theorem d_M_many_46 : decode prog_14_method_45_code 46 = .ok (.irem, 1) := by decide +kernel
theorem d_M_many_47 : decode prog_14_method_45_code 47 = .ok (.ifCond .ne 20, 3) := by decide +kernel
theorem d_M_many_50 : decode prog_14_method_45_code 50 = .ok (.lload_n 3, 1) := by decide +kernel
theorem d_M_many_51 : decode prog_14_method_45_code 51 = .ok (.aload_n 0, 1) := by decide +kernel
theorem d_M_many_52 : decode prog_14_method_45_code 52 = .ok (.iload_n 1, 1) := by decide +kernel
theorem d_M_many_53 : decode prog_14_method_45_code 53 = .ok (.iload 5, 2) := by decide +kernel
theorem d_M_many_55 : decode prog_14_method_45_code 55 = .ok (.idiv, 1) := by decide +kernel
theorem d_M_many_56 : decode prog_14_method_45_code 56 = .ok (.invokevirtual 190, 3) := by decide +kernel
theorem d_M_many_59 : decode prog_14_method_45_code 59 = .ok (.i2l, 1) := by decide +kernel
theorem d_M_many_60 : decode prog_14_method_45_code 60 = .ok (.lconst 1, 1) := by decide +kernel
theorem d_M_many_61 : decode prog_14_method_45_code 61 = .ok (.iload 5, 2) := by decide +kernel
theorem d_M_many_63 : decode prog_14_method_45_code 63 = .ok (.lshl, 1) := by decide +kernel
theorem d_M_many_64 : decode prog_14_method_45_code 64 = .ok (.lmul, 1) := by decide +kernel
theorem d_M_many_65 : decode prog_14_method_45_code 65 = .ok (.ladd, 1) := by decide +kernel
theorem d_M_many_66 : decode prog_14_method_45_code 66 = .ok (.lstore_n 3, 1) := by decide +kernel
theorem d_M_many_67 : decode prog_14_method_45_code 67 = .ok (.iinc 5 1, 3) := by decide +kernel
theorem d_M_many_70 : decode prog_14_method_45_code 70 = .ok (.goto (-33), 3) := by decide +kernel
theorem d_M_many_73 : decode prog_14_method_45_code 73 = .ok (.lload_n 3, 1) := by decide +kernel
theorem d_M_many_74 : decode prog_14_method_45_code 74 = .ok (.iload_n 1, 1) := by decide +kernel
theorem d_M_many_75 : decode prog_14_method_45_code 75 = .ok (.i2l, 1) := by decide +kernel
theorem d_M_many_76 : decode prog_14_method_45_code 76 = .ok (.ldiv, 1) := by decide +kernel
theorem d_M_many_77 : decode prog_14_method_45_code 77 = .ok (.lreturn, 1) := by decide +kernel
def cf_M_many_B37  (K37 : Int32 → Int64 → Int32 → Wd → Prop) (P : Int64 → Wd → Prop) (x1 : Int32) (x3 : Int64) (x5 : Int32) (w : Wd) : Prop :=
  ((x1 < x5 → ¬ x1.toInt64 = 0 ∧ P (x3 / x1.toInt64) w) ∧ (¬ x1 < x5 → ¬ x5 = 0 ∧ ((¬ (irem x1 x5) = 0 → ∀ v2, v2 = x5 + (1 : Int32) → K37 x1 x3 v2 w) ∧ ((irem x1 x5) = 0 → ¬ x5 = 0 ∧ cf_M_moebius (x1 / x5) w (fun r3 w4 => ∀ v5, v5 = x3 + (r3.toInt64 * (lshl (1 : Int64) x5)) → ∀ v6, v6 = x5 + (1 : Int32) → K37 x1 v5 v6 w4)))))
def cf_M_many_L37   (P : Int64 → Wd → Prop) : Nat → Int32 → Int64 → Int32 → Wd → Prop
  | 0 => fun x1 x3 x5 w => False
  | n + 1 => fun x1 x3 x5 w => cf_M_many_B37 (cf_M_many_L37 P n) P x1 x3 x5 w
def cf_M_many (a0 : Int32) (a1 : Int32) (w : Wd) (P : Int64 → Wd → Prop) : Prop :=
  cf_M_in a0.toInt64 (1 : Int64) (31 : Int64) (fun r1 => ((¬ r1 = 0 → ((a1 = 0 → ∃ n, cf_M_many_L37 P n a0 (0 : Int64) (1 : Int32) w) ∧ (¬ a1 = 0 → cf_M_allOnes a0 (fun r7 => cf_M_coprimes r7 w (fun r8 w9 => ¬ a0.toInt64 = 0 ∧ P (r8 / a0.toInt64) w9))))) ∧ (r1 = 0 → P (-1 : Int64) w)))
theorem cf_M_many_B37_ok {g : ayG} {d : Nat} (hd : 2 ≤ d)   (w : Wd) (K37 : Int32 → Int64 → Int32 → Wd → Prop) (P : Int64 → Wd → Prop) (Q : Option Value → Wd → Prop) (hQ : ∀ x w2, P x w2 → Q (some (.long x)) w2) (hK37 : ∀ (x1 : Int32) (x3 : Int64) (x5 : Int32) (w : Wd), (K37 x1 x3 x5 w → wp g (fun _ => True) y_M_many prog_14_method_45_code 6 (some FieldType.long) d 37 [(0, .ref (g.1 + 30)), (1, .int x1), (3, .long x3), (5, .int x5)] [] w Q)) (x1 : Int32) (x3 : Int64) (x5 : Int32) (h : cf_M_many_B37 K37 P x1 x3 x5 w) : wp g (fun _ => True) y_M_many prog_14_method_45_code 6 (some FieldType.long) d 37 [(0, .ref (g.1 + 30)), (1, .int x1), (3, .long x3), (5, .int x5)] [] w Q := by
  unfold cf_M_many_B37 at h
  refine am_iload d_M_many_37 3 rfl ?_
  refine am_iload_n d_M_many_39 1 rfl ?_
  refine am_icmp_gt (tgt := 73) d_M_many_40 (by decide) (fun c40 => ?_) (fun c40 => ?_)
  · have h := h.1 c40
    refine am_lload_n d_M_many_73 2 rfl ?_
    refine am_iload_n d_M_many_74 1 rfl ?_
    refine am_i2l d_M_many_75 ?_
    have hz76 := h.1
    have h := h.2
    refine am_ldiv d_M_many_76 hz76 ?_
    exact am_lreturn d_M_many_77 rfl (hQ (x3 / x1.toInt64) w h)
  · have h := h.2 c40
    refine am_iload_n d_M_many_43 1 rfl ?_
    refine am_iload d_M_many_44 3 rfl ?_
    have hz46 := h.1
    have h := h.2
    refine am_irem d_M_many_46 hz46 ?_
    refine am_if_ne (tgt := 67) d_M_many_47 (by decide) (fun c47 => ?_) (fun c47 => ?_)
    · have h := h.1 c47
      obtain ⟨v2, ev2⟩ : ∃ z : Int32, z = x5 + (1 : Int32) := ⟨_, rfl⟩
      have h := h v2 ev2
      refine am_iinc (v := v2) (l' := [(5, .int v2), (0, .ref (g.1 + 30)), (1, .int x1), (3, .long x3)]) d_M_many_67 3 rfl (by rw [ev2]; rfl) (by decide) rfl ?_
      refine am_goto (tgt := 37) d_M_many_70 (by decide) ?_
      refine am_sub [1, 2, 3, 0] rfl ?_
      exact hK37 x1 x3 v2 w h
    · have h := h.2 c47
      refine am_lload_n d_M_many_50 2 rfl ?_
      refine am_aload_n d_M_many_51 0 rfl ?_
      refine am_iload_n d_M_many_52 1 rfl ?_
      refine am_iload d_M_many_53 3 rfl ?_
      have hz55 := h.1
      have h := h.2
      refine am_idiv d_M_many_55 hz55 ?_
      refine am_callV (C := y_M_moebius.cls) (d2 := d - 1) [.int (x1 / x5)] d_M_many_56 mi_M_moebius wd_1326 wd_1328 ws_M_moebius (by decide) (el_M (show ay_sh 30 = _ from rfl)) rfl rfl (by omega) rfl rfl (Nat.le_of_ble_eq_true rfl) ?_
      refine Call.post ?_ (cf_M_moebius_ok (by omega) (x1 / x5)  w _ h)
      rintro _ w4 ⟨r3, rfl, h⟩
      show wp g (fun _ => True) y_M_many prog_14_method_45_code 6 (some FieldType.long) d 59 [(0, .ref (g.1 + 30)), (1, .int x1), (3, .long x3), (5, .int x5)] [.int r3, .long x3] w4 Q
      refine am_i2l d_M_many_59 ?_
      refine am_lconst (v := 1) d_M_many_60 rfl ?_
      refine am_iload d_M_many_61 3 rfl ?_
      refine am_lshl d_M_many_63 ?_
      refine am_lmul d_M_many_64 ?_
      refine am_ladd d_M_many_65 ?_
      refine am_topl (fun v5 ev5 => ?_)
      have h := h v5 ev5
      refine am_lstore_n (l' := [(3, .long v5), (0, .ref (g.1 + 30)), (1, .int x1), (5, .int x5)]) d_M_many_66 (by decide) rfl ?_
      obtain ⟨v6, ev6⟩ : ∃ z : Int32, z = x5 + (1 : Int32) := ⟨_, rfl⟩
      have h := h v6 ev6
      refine am_iinc (v := v6) (l' := [(5, .int v6), (3, .long v5), (0, .ref (g.1 + 30)), (1, .int x1)]) d_M_many_67 3 rfl (by rw [ev6]; rfl) (by decide) rfl ?_
      refine am_goto (tgt := 37) d_M_many_70 (by decide) ?_
      refine am_sub [2, 3, 1, 0] rfl ?_
      exact hK37 x1 v5 v6 w4 h
theorem cf_M_many_L37_ok {g : ayG} {d : Nat} (hd : 2 ≤ d)    (P : Int64 → Wd → Prop) (Q : Option Value → Wd → Prop) (hQ : ∀ x w2, P x w2 → Q (some (.long x)) w2)  : ∀ (n : Nat) (x1 : Int32) (x3 : Int64) (x5 : Int32) (w : Wd) (h : cf_M_many_L37 P n x1 x3 x5 w), wp g (fun _ => True) y_M_many prog_14_method_45_code 6 (some FieldType.long) d 37 [(0, .ref (g.1 + 30)), (1, .int x1), (3, .long x3), (5, .int x5)] [] w Q
  | 0, x1, x3, x5, w, h => False.elim h
  | n + 1, x1, x3, x5, w, h => cf_M_many_B37_ok hd   w (cf_M_many_L37 P n) P Q hQ (fun x1 x3 x5 w h => cf_M_many_L37_ok hd    P Q hQ  n x1 x3 x5 w h) x1 x3 x5 h
theorem cf_M_many_ok {g : ayG} {d : Nat} (hd : 2 ≤ d) (a0 : Int32) (a1 : Int32)  (w : Wd) (P : Int64 → Wd → Prop) (h : cf_M_many a0 a1 w P) : Call g y_M_many prog_14_method_45_code 6 (some FieldType.long) d [.ref (g.1 + 30), .int a0, .int a1] w (fun (r : Option Value) (w2 : Wd) => ∃ x, r = some (.long x) ∧ P x w2) := by
  unfold cf_M_many at h
  refine am_enter mi_M_many (Nat.le_of_ble_eq_true rfl) ?_
  have hQ : ∀ x w2, P x w2 → (fun (r : Option Value) (w2 : Wd) => ∃ x, r = some (.long x) ∧ P x w2) (some (.long x)) w2 := fun x w2 h => ⟨x, rfl, h⟩
  generalize (fun (r : Option Value) (w2 : Wd) => ∃ x, r = some (.long x) ∧ P x w2) = Q at hQ ⊢
  show wp g (fun _ => True) y_M_many prog_14_method_45_code 6 (some FieldType.long) d 0 [(0, .ref (g.1 + 30)), (1, .int a0), (2, .int a1)] [] w Q
  refine am_iload_n d_M_many_0 1 rfl ?_
  refine am_i2l d_M_many_1 ?_
  refine am_lconst (v := 1) d_M_many_2 rfl ?_
  refine am_ldc2 (v := 31) d_M_many_3 wd_1272 ?_
  refine am_callS (d2 := d - 1) [.long a0.toInt64, .long (1 : Int64), .long (31 : Int64)] d_M_many_6 mi_M_in wd_1192 wd_1193 (by omega) rfl rfl (Nat.le_of_ble_eq_true rfl) ?_
  refine Call.post ?_ (cf_M_in_ok (by omega) a0.toInt64 (1 : Int64) (31 : Int64)  w _ h)
  rintro _ _ ⟨r1, rfl, rfl, h⟩
  show wp g (fun _ => True) y_M_many prog_14_method_45_code 6 (some FieldType.long) d 9 [(0, .ref (g.1 + 30)), (1, .int a0), (2, .int a1)] [.int r1] w Q
  refine am_if_ne (tgt := 16) d_M_many_9 (by decide) (fun c9 => ?_) (fun c9 => ?_)
  · have h := h.1 c9
    refine am_iload_n d_M_many_16 2 rfl ?_
    refine am_if_eq (tgt := 32) d_M_many_17 (by decide) (fun c17 => ?_) (fun c17 => ?_)
    · have h := h.1 c17
      refine am_lconst (v := 0) d_M_many_32 rfl ?_
      refine am_lstore_n (l' := [(3, .long (0 : Int64)), (0, .ref (g.1 + 30)), (1, .int a0), (2, .int a1)]) d_M_many_33 (by decide) rfl ?_
      refine am_iconst (v := 1) d_M_many_34 rfl ?_
      refine am_istore (l' := [(5, .int (1 : Int32)), (3, .long (0 : Int64)), (0, .ref (g.1 + 30)), (1, .int a0), (2, .int a1)]) d_M_many_35 (by decide) rfl ?_
      refine am_sub [2, 3, 1, 0] rfl ?_
      obtain ⟨n, h⟩ := h
      exact cf_M_many_L37_ok (by omega)    P Q hQ  n a0 (0 : Int64) (1 : Int32) w h
    · have h := h.2 c17
      refine am_aload_n d_M_many_20 0 rfl ?_
      refine am_iload_n d_M_many_21 1 rfl ?_
      refine am_callS (d2 := d - 1) [.int a0] d_M_many_22 mi_M_allOnes wd_1240 wd_1241 (by omega) rfl rfl (Nat.le_of_ble_eq_true rfl) ?_
      refine Call.post ?_ (cf_M_allOnes_ok (by omega) a0  w _ h)
      rintro _ _ ⟨r7, rfl, rfl, h⟩
      show wp g (fun _ => True) y_M_many prog_14_method_45_code 6 (some FieldType.long) d 25 [(0, .ref (g.1 + 30)), (1, .int a0), (2, .int a1)] [.long r7, .ref (g.1 + 30)] w Q
      refine am_callV (C := y_M_coprimes.cls) (d2 := d - 1) [.long r7] d_M_many_25 mi_M_coprimes wd_1322 wd_1324 ws_M_coprimes (by decide) (el_M (show ay_sh 30 = _ from rfl)) rfl rfl (by omega) rfl rfl (Nat.le_of_ble_eq_true rfl) ?_
      refine Call.post ?_ (cf_M_coprimes_ok (by omega) r7  w _ h)
      rintro _ w9 ⟨r8, rfl, h⟩
      show wp g (fun _ => True) y_M_many prog_14_method_45_code 6 (some FieldType.long) d 28 [(0, .ref (g.1 + 30)), (1, .int a0), (2, .int a1)] [.long r8] w9 Q
      refine am_iload_n d_M_many_28 1 rfl ?_
      refine am_i2l d_M_many_29 ?_
      have hz30 := h.1
      have h := h.2
      refine am_ldiv d_M_many_30 hz30 ?_
      exact am_lreturn d_M_many_31 rfl (hQ (r8 / a0.toInt64) w9 h)
  · have h := h.2 c9
    refine am_ldc2 (v := -1) d_M_many_12 wd_1076 ?_
    exact am_lreturn d_M_many_15 rfl (hQ (-1 : Int64) w h)
theorem d_M_stays_0 : decode prog_14_method_46_code 0 = .ok (.iload_n 1, 1) := by decide +kernel
theorem d_M_stays_1 : decode prog_14_method_46_code 1 = .ok (.i2l, 1) := by decide +kernel
theorem d_M_stays_2 : decode prog_14_method_46_code 2 = .ok (.ldc2_w 107, 3) := by decide +kernel
theorem d_M_stays_5 : decode prog_14_method_46_code 5 = .ok (.ldc2_w 175, 3) := by decide +kernel
theorem d_M_stays_8 : decode prog_14_method_46_code 8 = .ok (.invokestatic 76, 3) := by decide +kernel
theorem d_M_stays_11 : decode prog_14_method_46_code 11 = .ok (.ifCond .eq 28, 3) := by decide +kernel
theorem d_M_stays_14 : decode prog_14_method_46_code 14 = .ok (.iload_n 2, 1) := by decide +kernel
theorem d_M_stays_15 : decode prog_14_method_46_code 15 = .ok (.i2l, 1) := by decide +kernel
theorem d_M_stays_16 : decode prog_14_method_46_code 16 = .ok (.lconst 1, 1) := by decide +kernel
theorem d_M_stays_17 : decode prog_14_method_46_code 17 = .ok (.iload_n 1, 1) := by decide +kernel
theorem d_M_stays_18 : decode prog_14_method_46_code 18 = .ok (.iconst 1, 1) := by decide +kernel
theorem d_M_stays_19 : decode prog_14_method_46_code 19 = .ok (.isub, 1) := by decide +kernel
theorem d_M_stays_20 : decode prog_14_method_46_code 20 = .ok (.i2l, 1) := by decide +kernel
theorem d_M_stays_21 : decode prog_14_method_46_code 21 = .ok (.invokestatic 76, 3) := by decide +kernel
theorem d_M_stays_24 : decode prog_14_method_46_code 24 = .ok (.ifCond .eq 15, 3) := by decide +kernel
theorem d_M_stays_27 : decode prog_14_method_46_code 27 = .ok (.iload_n 3, 1) := by decide +kernel
theorem d_M_stays_28 : decode prog_14_method_46_code 28 = .ok (.i2l, 1) := by decide +kernel
theorem d_M_stays_29 : decode prog_14_method_46_code 29 = .ok (.lconst 1, 1) := by decide +kernel
theorem d_M_stays_30 : decode prog_14_method_46_code 30 = .ok (.ldc2_w 194, 3) := by decide +kernel
theorem d_M_stays_33 : decode prog_14_method_46_code 33 = .ok (.invokestatic 76, 3) := by decide +kernel
theorem d_M_stays_36 : decode prog_14_method_46_code 36 = .ok (.ifCond .ne 5, 3) := by decide +kernel
theorem d_M_stays_39 : decode prog_14_method_46_code 39 = .ok (.iconst (-1), 1) := by decide +kernel
theorem d_M_stays_40 : decode prog_14_method_46_code 40 = .ok (.ireturn, 1) := by decide +kernel
theorem d_M_stays_41 : decode prog_14_method_46_code 41 = .ok (.iload_n 1, 1) := by decide +kernel
theorem d_M_stays_42 : decode prog_14_method_46_code 42 = .ok (.iload_n 2, 1) := by decide +kernel
theorem d_M_stays_43 : decode prog_14_method_46_code 43 = .ok (.invokestatic 177, 3) := by decide +kernel
theorem d_M_stays_46 : decode prog_14_method_46_code 46 = .ok (.lstore 4, 2) := by decide +kernel
theorem d_M_stays_48 : decode prog_14_method_46_code 48 = .ok (.aload_n 0, 1) := by decide +kernel
theorem d_M_stays_49 : decode prog_14_method_46_code 49 = .ok (.lload 4, 2) := by decide +kernel
theorem d_M_stays_51 : decode prog_14_method_46_code 51 = .ok (.invokevirtual 140, 3) := by decide +kernel
theorem d_M_stays_54 : decode prog_14_method_46_code 54 = .ok (.ifCond .ne 6, 3) := by decide +kernel
theorem d_M_stays_57 : decode prog_14_method_46_code 57 = .ok (.bipush (-2), 2) := by decide +kernel
theorem d_M_stays_59 : decode prog_14_method_46_code 59 = .ok (.ireturn, 1) := by decide +kernel
theorem d_M_stays_60 : decode prog_14_method_46_code 60 = .ok (.aload_n 0, 1) := by decide +kernel
theorem d_M_stays_61 : decode prog_14_method_46_code 61 = .ok (.lload 4, 2) := by decide +kernel
theorem d_M_stays_63 : decode prog_14_method_46_code 63 = .ok (.invokevirtual 143, 3) := by decide +kernel
theorem d_M_stays_66 : decode prog_14_method_46_code 66 = .ok (.lstore 6, 2) := by decide +kernel
theorem d_M_stays_68 : decode prog_14_method_46_code 68 = .ok (.iload_n 1, 1) := by decide +kernel
theorem d_M_stays_69 : decode prog_14_method_46_code 69 = .ok (.invokestatic 122, 3) := by decide +kernel
theorem d_M_stays_72 : decode prog_14_method_46_code 72 = .ok (.lload 6, 2) := by decide +kernel
theorem d_M_stays_74 : decode prog_14_method_46_code 74 = .ok (.ldiv, 1) := by decide +kernel
theorem d_M_stays_75 : decode prog_14_method_46_code 75 = .ok (.lstore 8, 2) := by decide +kernel
theorem d_M_stays_77 : decode prog_14_method_46_code 77 = .ok (.aload_n 0, 1) := by decide +kernel
theorem d_M_stays_78 : decode prog_14_method_46_code 78 = .ok (.iload_n 3, 1) := by decide +kernel
theorem d_M_stays_79 : decode prog_14_method_46_code 79 = .ok (.i2l, 1) := by decide +kernel
theorem d_M_stays_80 : decode prog_14_method_46_code 80 = .ok (.invokevirtual 130, 3) := by decide +kernel
theorem d_M_stays_83 : decode prog_14_method_46_code 83 = .ok (.iconst 0, 1) := by decide +kernel
theorem d_M_stays_84 : decode prog_14_method_46_code 84 = .ok (.istore 10, 2) := by decide +kernel
theorem d_M_stays_86 : decode prog_14_method_46_code 86 = .ok (.iload 10, 2) := by decide +kernel
theorem d_M_stays_88 : decode prog_14_method_46_code 88 = .ok (.aload_n 0, 1) := by decide +kernel
theorem d_M_stays_89 : decode prog_14_method_46_code 89 = .ok (.getfield 119, 3) := by decide +kernel
theorem d_M_stays_92 : decode prog_14_method_46_code 92 = .ok (.if_icmp .ge 41, 3) := by decide +kernel
theorem d_M_stays_95 : decode prog_14_method_46_code 95 = .ok (.lload 6, 2) := by decide +kernel
theorem d_M_stays_97 : decode prog_14_method_46_code 97 = .ok (.aload_n 0, 1) := by decide +kernel
theorem d_M_stays_98 : decode prog_14_method_46_code 98 = .ok (.getfield 32, 3) := by decide +kernel
theorem d_M_stays_101 : decode prog_14_method_46_code 101 = .ok (.iload 10, 2) := by decide +kernel
theorem d_M_stays_103 : decode prog_14_method_46_code 103 = .ok (.laload, 1) := by decide +kernel
theorem d_M_stays_104 : decode prog_14_method_46_code 104 = .ok (.lrem, 1) := by decide +kernel
theorem d_M_stays_105 : decode prog_14_method_46_code 105 = .ok (.lconst 0, 1) := by decide +kernel
theorem d_M_stays_106 : decode prog_14_method_46_code 106 = .ok (.lcmp, 1) := by decide +kernel
theorem d_M_stays_107 : decode prog_14_method_46_code 107 = .ok (.ifCond .ne 18, 3) := by decide +kernel
theorem d_M_stays_110 : decode prog_14_method_46_code 110 = .ok (.lload 8, 2) := by decide +kernel
theorem d_M_stays_112 : decode prog_14_method_46_code 112 = .ok (.aload_n 0, 1) := by decide +kernel
theorem d_M_stays_113 : decode prog_14_method_46_code 113 = .ok (.getfield 32, 3) := by decide +kernel
theorem d_M_stays_116 : decode prog_14_method_46_code 116 = .ok (.iload 10, 2) := by decide +kernel
theorem d_M_stays_118 : decode prog_14_method_46_code 118 = .ok (.laload, 1) := by decide +kernel
theorem d_M_stays_119 : decode prog_14_method_46_code 119 = .ok (.lrem, 1) := by decide +kernel
theorem d_M_stays_120 : decode prog_14_method_46_code 120 = .ok (.lconst 0, 1) := by decide +kernel
theorem d_M_stays_121 : decode prog_14_method_46_code 121 = .ok (.lcmp, 1) := by decide +kernel
theorem d_M_stays_122 : decode prog_14_method_46_code 122 = .ok (.ifCond .ne 5, 3) := by decide +kernel
theorem d_M_stays_125 : decode prog_14_method_46_code 125 = .ok (.iconst 0, 1) := by decide +kernel
theorem d_M_stays_126 : decode prog_14_method_46_code 126 = .ok (.ireturn, 1) := by decide +kernel
theorem d_M_stays_127 : decode prog_14_method_46_code 127 = .ok (.iinc 10 1, 3) := by decide +kernel
theorem d_M_stays_130 : decode prog_14_method_46_code 130 = .ok (.goto (-44), 3) := by decide +kernel
theorem d_M_stays_133 : decode prog_14_method_46_code 133 = .ok (.iconst 1, 1) := by decide +kernel
theorem d_M_stays_134 : decode prog_14_method_46_code 134 = .ok (.ireturn, 1) := by decide +kernel
def cf_M_stays_B86  (K86 : Int64 → Int64 → Int32 → Wd → Prop) (P : Int32 → Wd → Prop) (x6 : Int64) (x8 : Int64) (x10 : Int32) (w : Wd) : Prop :=
  (((w.1 30 9) ≤ x10 → P (1 : Int32) w) ∧ (¬ (w.1 30 9) ≤ x10 → vp_in x10 20 ∧ ¬ (w.2 36 x10.toNatClampNeg) = 0 ∧ ((¬ (lrem x6 (w.2 36 x10.toNatClampNeg)) = (0 : Int64) → P (0 : Int32) w) ∧ ((lrem x6 (w.2 36 x10.toNatClampNeg)) = (0 : Int64) → vp_in x10 20 ∧ ¬ (w.2 36 x10.toNatClampNeg) = 0 ∧ ((¬ (lrem x8 (w.2 36 x10.toNatClampNeg)) = (0 : Int64) → ∀ v12, v12 = x10 + (1 : Int32) → K86 x6 x8 v12 w) ∧ ((lrem x8 (w.2 36 x10.toNatClampNeg)) = (0 : Int64) → P (0 : Int32) w))))))
def cf_M_stays_L86   (P : Int32 → Wd → Prop) : Nat → Int64 → Int64 → Int32 → Wd → Prop
  | 0 => fun x6 x8 x10 w => False
  | n + 1 => fun x6 x8 x10 w => cf_M_stays_B86 (cf_M_stays_L86 P n) P x6 x8 x10 w
def cf_M_stays (a0 : Int32) (a1 : Int32) (a2 : Int32) (w : Wd) (P : Int32 → Wd → Prop) : Prop :=
  cf_M_in a0.toInt64 (2 : Int64) (24 : Int64) (fun r1 => ((r1 = 0 → P (-1 : Int32) w) ∧ (¬ r1 = 0 → cf_M_in a1.toInt64 (1 : Int64) ((a0 - (1 : Int32)).toInt64) (fun r2 => ((r2 = 0 → P (-1 : Int32) w) ∧ (¬ r2 = 0 → cf_M_in a2.toInt64 (1 : Int64) (1000 : Int64) (fun r3 => ((¬ r3 = 0 → cf_M_tri a0 a1 (fun r4 => cf_M_isIrreducible r4 w (fun r5 w6 => ((¬ r5 = 0 → cf_M_orderOf r4 w6 (fun r7 w8 => cf_M_allOnes a0 (fun r9 => ¬ r7 = 0 ∧ ∀ v10, v10 = r9 / r7 → cf_M_laysPrimes a2.toInt64 w8 (fun w11 => ∃ n, cf_M_stays_L86 P n r7 v10 (0 : Int32) w11)))) ∧ (r5 = 0 → P (-2 : Int32) w6))))) ∧ (r3 = 0 → P (-1 : Int32) w)))))))))
theorem cf_M_stays_B86_ok {g : ayG} {d : Nat} (hd : 102 ≤ d)   (w : Wd) (K86 : Int64 → Int64 → Int32 → Wd → Prop) (P : Int32 → Wd → Prop) (Q : Option Value → Wd → Prop) (hQ : ∀ x w2, P x w2 → Q (some (.int x)) w2) (hK86 : ∀ (x6 : Int64) (x8 : Int64) (x10 : Int32) (w : Wd), (K86 x6 x8 x10 w → wp g (fun _ => True) y_M_stays prog_14_method_46_code 11 (some FieldType.int) d 86 [(0, .ref (g.1 + 30)), (6, .long x6), (8, .long x8), (10, .int x10)] [] w Q)) (x6 : Int64) (x8 : Int64) (x10 : Int32) (h : cf_M_stays_B86 K86 P x6 x8 x10 w) : wp g (fun _ => True) y_M_stays prog_14_method_46_code 11 (some FieldType.int) d 86 [(0, .ref (g.1 + 30)), (6, .long x6), (8, .long x8), (10, .int x10)] [] w Q := by
  unfold cf_M_stays_B86 at h
  refine am_iload d_M_stays_86 3 rfl ?_
  refine am_aload_n d_M_stays_88 0 rfl ?_
  refine am_getf (T := F_M) (fs := ob_M g w 30) (C := R_M) (N := 35) (ci := 10) 9 d_M_stays_89 wd_1086 rfl (by decide) (el_M (show ay_sh 30 = _ from rfl)) rfl i_M (by decide) rfl ?_
  refine am_icmp_ge (tgt := 133) d_M_stays_92 (by decide) (fun c92 => ?_) (fun c92 => ?_)
  · have h := h.1 c92
    refine am_iconst (v := 1) d_M_stays_133 rfl ?_
    exact am_ireturn d_M_stays_134 rfl rfl (hQ (1 : Int32) w h)
  · have h := h.2 c92
    refine am_lload d_M_stays_95 1 rfl ?_
    refine am_aload_n d_M_stays_97 0 rfl ?_
    refine am_getf (T := F_M) (fs := ob_M g w 30) (C := R_M) (N := 35) (ci := 10) 8 d_M_stays_98 wd_1085 rfl (by decide) (el_M (show ay_sh 30 = _ from rfl)) rfl i_M (by decide) rfl ?_
    refine am_iload d_M_stays_101 3 rfl ?_
    have hi103 := h.1
    have h := h.2
    refine am_laload d_M_stays_103 (show ay_sh 36 = _ from rfl) hi103 ?_
    have hz104 := h.1
    have h := h.2
    refine am_lrem d_M_stays_104 hz104 ?_
    refine am_lconst (v := 0) d_M_stays_105 rfl ?_
    refine am_lif_ne (tgt := 125) d_M_stays_106 d_M_stays_107 (by decide) (fun c106 => ?_) (fun c106 => ?_)
    · have h := h.1 c106
      refine am_iconst (v := 0) d_M_stays_125 rfl ?_
      exact am_ireturn d_M_stays_126 rfl rfl (hQ (0 : Int32) w h)
    · have h := h.2 c106
      refine am_lload d_M_stays_110 2 rfl ?_
      refine am_aload_n d_M_stays_112 0 rfl ?_
      refine am_getf (T := F_M) (fs := ob_M g w 30) (C := R_M) (N := 35) (ci := 10) 8 d_M_stays_113 wd_1085 rfl (by decide) (el_M (show ay_sh 30 = _ from rfl)) rfl i_M (by decide) rfl ?_
      refine am_iload d_M_stays_116 3 rfl ?_
      have hi118 := h.1
      have h := h.2
      refine am_laload d_M_stays_118 (show ay_sh 36 = _ from rfl) hi118 ?_
      have hz119 := h.1
      have h := h.2
      refine am_lrem d_M_stays_119 hz119 ?_
      refine am_lconst (v := 0) d_M_stays_120 rfl ?_
      refine am_lif_ne (tgt := 127) d_M_stays_121 d_M_stays_122 (by decide) (fun c121 => ?_) (fun c121 => ?_)
      · have h := h.1 c121
        obtain ⟨v12, ev12⟩ : ∃ z : Int32, z = x10 + (1 : Int32) := ⟨_, rfl⟩
        have h := h v12 ev12
        refine am_iinc (v := v12) (l' := [(10, .int v12), (0, .ref (g.1 + 30)), (6, .long x6), (8, .long x8)]) d_M_stays_127 3 rfl (by rw [ev12]; rfl) (by decide) rfl ?_
        refine am_goto (tgt := 86) d_M_stays_130 (by decide) ?_
        refine am_sub [1, 2, 3, 0] rfl ?_
        exact hK86 x6 x8 v12 w h
      · have h := h.2 c121
        refine am_iconst (v := 0) d_M_stays_125 rfl ?_
        exact am_ireturn d_M_stays_126 rfl rfl (hQ (0 : Int32) w h)
theorem cf_M_stays_L86_ok {g : ayG} {d : Nat} (hd : 102 ≤ d)    (P : Int32 → Wd → Prop) (Q : Option Value → Wd → Prop) (hQ : ∀ x w2, P x w2 → Q (some (.int x)) w2)  : ∀ (n : Nat) (x6 : Int64) (x8 : Int64) (x10 : Int32) (w : Wd) (h : cf_M_stays_L86 P n x6 x8 x10 w), wp g (fun _ => True) y_M_stays prog_14_method_46_code 11 (some FieldType.int) d 86 [(0, .ref (g.1 + 30)), (6, .long x6), (8, .long x8), (10, .int x10)] [] w Q
  | 0, x6, x8, x10, w, h => False.elim h
  | n + 1, x6, x8, x10, w, h => cf_M_stays_B86_ok hd   w (cf_M_stays_L86 P n) P Q hQ (fun x6 x8 x10 w h => cf_M_stays_L86_ok hd    P Q hQ  n x6 x8 x10 w h) x6 x8 x10 h
theorem cf_M_stays_ok {g : ayG} {d : Nat} (hd : 102 ≤ d) (a0 : Int32) (a1 : Int32) (a2 : Int32)  (w : Wd) (P : Int32 → Wd → Prop) (h : cf_M_stays a0 a1 a2 w P) : Call g y_M_stays prog_14_method_46_code 11 (some FieldType.int) d [.ref (g.1 + 30), .int a0, .int a1, .int a2] w (fun (r : Option Value) (w2 : Wd) => ∃ x, r = some (.int x) ∧ P x w2) := by
  unfold cf_M_stays at h
  refine am_enter mi_M_stays (Nat.le_of_ble_eq_true rfl) ?_
  have hQ : ∀ x w2, P x w2 → (fun (r : Option Value) (w2 : Wd) => ∃ x, r = some (.int x) ∧ P x w2) (some (.int x)) w2 := fun x w2 h => ⟨x, rfl, h⟩
  generalize (fun (r : Option Value) (w2 : Wd) => ∃ x, r = some (.int x) ∧ P x w2) = Q at hQ ⊢
  show wp g (fun _ => True) y_M_stays prog_14_method_46_code 11 (some FieldType.int) d 0 [(0, .ref (g.1 + 30)), (1, .int a0), (2, .int a1), (3, .int a2)] [] w Q
  refine am_iload_n d_M_stays_0 1 rfl ?_
  refine am_i2l d_M_stays_1 ?_
  refine am_ldc2 (v := 2) d_M_stays_2 wd_1205 ?_
  refine am_ldc2 (v := 24) d_M_stays_5 wd_1305 ?_
  refine am_callS (d2 := d - 1) [.long a0.toInt64, .long (2 : Int64), .long (24 : Int64)] d_M_stays_8 mi_M_in wd_1192 wd_1193 (by omega) rfl rfl (Nat.le_of_ble_eq_true rfl) ?_
  refine Call.post ?_ (cf_M_in_ok (by omega) a0.toInt64 (2 : Int64) (24 : Int64)  w _ h)
  rintro _ _ ⟨r1, rfl, rfl, h⟩
  show wp g (fun _ => True) y_M_stays prog_14_method_46_code 11 (some FieldType.int) d 11 [(0, .ref (g.1 + 30)), (1, .int a0), (2, .int a1), (3, .int a2)] [.int r1] w Q
  refine am_if_eq (tgt := 39) d_M_stays_11 (by decide) (fun c11 => ?_) (fun c11 => ?_)
  · have h := h.1 c11
    refine am_iconst (v := -1) d_M_stays_39 rfl ?_
    exact am_ireturn d_M_stays_40 rfl rfl (hQ (-1 : Int32) w h)
  · have h := h.2 c11
    refine am_iload_n d_M_stays_14 2 rfl ?_
    refine am_i2l d_M_stays_15 ?_
    refine am_lconst (v := 1) d_M_stays_16 rfl ?_
    refine am_iload_n d_M_stays_17 1 rfl ?_
    refine am_iconst (v := 1) d_M_stays_18 rfl ?_
    refine am_isub d_M_stays_19 ?_
    refine am_i2l d_M_stays_20 ?_
    refine am_callS (d2 := d - 1) [.long a1.toInt64, .long (1 : Int64), .long ((a0 - (1 : Int32)).toInt64)] d_M_stays_21 mi_M_in wd_1192 wd_1193 (by omega) rfl rfl (Nat.le_of_ble_eq_true rfl) ?_
    refine Call.post ?_ (cf_M_in_ok (by omega) a1.toInt64 (1 : Int64) ((a0 - (1 : Int32)).toInt64)  w _ h)
    rintro _ _ ⟨r2, rfl, rfl, h⟩
    show wp g (fun _ => True) y_M_stays prog_14_method_46_code 11 (some FieldType.int) d 24 [(0, .ref (g.1 + 30)), (1, .int a0), (2, .int a1), (3, .int a2)] [.int r2] w Q
    refine am_if_eq (tgt := 39) d_M_stays_24 (by decide) (fun c24 => ?_) (fun c24 => ?_)
    · have h := h.1 c24
      refine am_iconst (v := -1) d_M_stays_39 rfl ?_
      exact am_ireturn d_M_stays_40 rfl rfl (hQ (-1 : Int32) w h)
    · have h := h.2 c24
      refine am_iload_n d_M_stays_27 3 rfl ?_
      refine am_i2l d_M_stays_28 ?_
      refine am_lconst (v := 1) d_M_stays_29 rfl ?_
      refine am_ldc2 (v := 1000) d_M_stays_30 wd_1334 ?_
      refine am_callS (d2 := d - 1) [.long a2.toInt64, .long (1 : Int64), .long (1000 : Int64)] d_M_stays_33 mi_M_in wd_1192 wd_1193 (by omega) rfl rfl (Nat.le_of_ble_eq_true rfl) ?_
      refine Call.post ?_ (cf_M_in_ok (by omega) a2.toInt64 (1 : Int64) (1000 : Int64)  w _ h)
      rintro _ _ ⟨r3, rfl, rfl, h⟩
      show wp g (fun _ => True) y_M_stays prog_14_method_46_code 11 (some FieldType.int) d 36 [(0, .ref (g.1 + 30)), (1, .int a0), (2, .int a1), (3, .int a2)] [.int r3] w Q
      refine am_if_ne (tgt := 41) d_M_stays_36 (by decide) (fun c36 => ?_) (fun c36 => ?_)
      · have h := h.1 c36
        refine am_iload_n d_M_stays_41 1 rfl ?_
        refine am_iload_n d_M_stays_42 2 rfl ?_
        refine am_callS (d2 := d - 1) [.int a0, .int a1] d_M_stays_43 mi_M_tri wd_1306 wd_1307 (by omega) rfl rfl (Nat.le_of_ble_eq_true rfl) ?_
        refine Call.post ?_ (cf_M_tri_ok (by omega) a0 a1  w _ h)
        rintro _ _ ⟨r4, rfl, rfl, h⟩
        show wp g (fun _ => True) y_M_stays prog_14_method_46_code 11 (some FieldType.int) d 46 [(0, .ref (g.1 + 30)), (1, .int a0), (2, .int a1), (3, .int a2)] [.long r4] w Q
        refine am_lstore (l' := [(4, .long r4), (0, .ref (g.1 + 30)), (1, .int a0), (2, .int a1), (3, .int a2)]) d_M_stays_46 (by decide) rfl ?_
        refine am_aload_n d_M_stays_48 1 rfl ?_
        refine am_lload d_M_stays_49 0 rfl ?_
        refine am_callV (C := y_M_isIrreducible.cls) (d2 := d - 1) [.long r4] d_M_stays_51 mi_M_isIrreducible wd_1232 wd_1234 ws_M_isIrreducible (by decide) (el_M (show ay_sh 30 = _ from rfl)) rfl rfl (by omega) rfl rfl (Nat.le_of_ble_eq_true rfl) ?_
        refine Call.post ?_ (cf_M_isIrreducible_ok (by omega) r4  w _ h)
        rintro _ w6 ⟨r5, rfl, h⟩
        show wp g (fun _ => True) y_M_stays prog_14_method_46_code 11 (some FieldType.int) d 54 [(4, .long r4), (0, .ref (g.1 + 30)), (1, .int a0), (2, .int a1), (3, .int a2)] [.int r5] w6 Q
        refine am_if_ne (tgt := 60) d_M_stays_54 (by decide) (fun c54 => ?_) (fun c54 => ?_)
        · have h := h.1 c54
          refine am_aload_n d_M_stays_60 1 rfl ?_
          refine am_lload d_M_stays_61 0 rfl ?_
          refine am_callV (C := y_M_orderOf.cls) (d2 := d - 1) [.long r4] d_M_stays_63 mi_M_orderOf wd_1236 wd_1238 ws_M_orderOf (by decide) (el_M (show ay_sh 30 = _ from rfl)) rfl rfl (by omega) rfl rfl (Nat.le_of_ble_eq_true rfl) ?_
          refine Call.post ?_ (cf_M_orderOf_ok (by omega) r4  w6 _ h)
          rintro _ w8 ⟨r7, rfl, h⟩
          show wp g (fun _ => True) y_M_stays prog_14_method_46_code 11 (some FieldType.int) d 66 [(4, .long r4), (0, .ref (g.1 + 30)), (1, .int a0), (2, .int a1), (3, .int a2)] [.long r7] w8 Q
          refine am_lstore (l' := [(6, .long r7), (4, .long r4), (0, .ref (g.1 + 30)), (1, .int a0), (2, .int a1), (3, .int a2)]) d_M_stays_66 (by decide) rfl ?_
          refine am_iload_n d_M_stays_68 3 rfl ?_
          refine am_callS (d2 := d - 1) [.int a0] d_M_stays_69 mi_M_allOnes wd_1240 wd_1241 (by omega) rfl rfl (Nat.le_of_ble_eq_true rfl) ?_
          refine Call.post ?_ (cf_M_allOnes_ok (by omega) a0  w8 _ h)
          rintro _ _ ⟨r9, rfl, rfl, h⟩
          show wp g (fun _ => True) y_M_stays prog_14_method_46_code 11 (some FieldType.int) d 72 [(6, .long r7), (4, .long r4), (0, .ref (g.1 + 30)), (1, .int a0), (2, .int a1), (3, .int a2)] [.long r9] w8 Q
          refine am_lload d_M_stays_72 0 rfl ?_
          have hz74 := h.1
          have h := h.2
          refine am_ldiv d_M_stays_74 hz74 ?_
          refine am_topl (fun v10 ev10 => ?_)
          have h := h v10 ev10
          refine am_lstore (l' := [(8, .long v10), (6, .long r7), (4, .long r4), (0, .ref (g.1 + 30)), (1, .int a0), (2, .int a1), (3, .int a2)]) d_M_stays_75 (by decide) rfl ?_
          refine am_aload_n d_M_stays_77 3 rfl ?_
          refine am_iload_n d_M_stays_78 6 rfl ?_
          refine am_i2l d_M_stays_79 ?_
          refine am_callV (C := y_M_laysPrimes.cls) (d2 := d - 1) [.long a2.toInt64] d_M_stays_80 mi_M_laysPrimes wd_1246 wd_1248 ws_M_laysPrimes (by decide) (el_M (show ay_sh 30 = _ from rfl)) rfl rfl (by omega) rfl rfl (Nat.le_of_ble_eq_true rfl) ?_
          refine Call.post ?_ (cf_M_laysPrimes_ok (by omega) a2.toInt64  w8 _ h)
          rintro _ w11 ⟨rfl, h⟩
          show wp g (fun _ => True) y_M_stays prog_14_method_46_code 11 (some FieldType.int) d 83 [(8, .long v10), (6, .long r7), (4, .long r4), (0, .ref (g.1 + 30)), (1, .int a0), (2, .int a1), (3, .int a2)] [] w11 Q
          refine am_iconst (v := 0) d_M_stays_83 rfl ?_
          refine am_istore (l' := [(10, .int (0 : Int32)), (8, .long v10), (6, .long r7), (4, .long r4), (0, .ref (g.1 + 30)), (1, .int a0), (2, .int a1), (3, .int a2)]) d_M_stays_84 (by decide) rfl ?_
          refine am_sub [4, 2, 1, 0] rfl ?_
          obtain ⟨n, h⟩ := h
          exact cf_M_stays_L86_ok (by omega)    P Q hQ  n r7 v10 (0 : Int32) w11 h
        · have h := h.2 c54
          refine am_bipush (v := -2) d_M_stays_57 rfl ?_
          exact am_ireturn d_M_stays_59 rfl rfl (hQ (-2 : Int32) w6 h)
      · have h := h.2 c36
        refine am_iconst (v := -1) d_M_stays_39 rfl ?_
        exact am_ireturn d_M_stays_40 rfl rfl (hQ (-1 : Int32) w h)
theorem d_M_bare_0 : decode prog_14_method_47_code 0 = .ok (.iload_n 1, 1) := by decide +kernel
theorem d_M_bare_1 : decode prog_14_method_47_code 1 = .ok (.i2l, 1) := by decide +kernel
theorem d_M_bare_2 : decode prog_14_method_47_code 2 = .ok (.ldc2_w 107, 3) := by decide +kernel
theorem d_M_bare_5 : decode prog_14_method_47_code 5 = .ok (.ldc2_w 175, 3) := by decide +kernel
theorem d_M_bare_8 : decode prog_14_method_47_code 8 = .ok (.invokestatic 76, 3) := by decide +kernel
theorem d_M_bare_11 : decode prog_14_method_47_code 11 = .ok (.ifCond .ne 5, 3) := by decide +kernel
theorem d_M_bare_14 : decode prog_14_method_47_code 14 = .ok (.iconst (-1), 1) := by decide +kernel
theorem d_M_bare_15 : decode prog_14_method_47_code 15 = .ok (.ireturn, 1) := by decide +kernel
theorem d_M_bare_16 : decode prog_14_method_47_code 16 = .ok (.iload_n 1, 1) := by decide +kernel
theorem d_M_bare_17 : decode prog_14_method_47_code 17 = .ok (.istore_n 2, 1) := by decide +kernel
theorem d_M_bare_18 : decode prog_14_method_47_code 18 = .ok (.iload_n 2, 1) := by decide +kernel
theorem d_M_bare_19 : decode prog_14_method_47_code 19 = .ok (.bipush 24, 2) := by decide +kernel
theorem d_M_bare_21 : decode prog_14_method_47_code 21 = .ok (.if_icmp .gt 21, 3) := by decide +kernel
theorem d_M_bare_24 : decode prog_14_method_47_code 24 = .ok (.aload_n 0, 1) := by decide +kernel
theorem d_M_bare_25 : decode prog_14_method_47_code 25 = .ok (.iload_n 2, 1) := by decide +kernel
theorem d_M_bare_26 : decode prog_14_method_47_code 26 = .ok (.iconst 0, 1) := by decide +kernel
theorem d_M_bare_27 : decode prog_14_method_47_code 27 = .ok (.iconst (-1), 1) := by decide +kernel
theorem d_M_bare_28 : decode prog_14_method_47_code 28 = .ok (.invokevirtual 196, 3) := by decide +kernel
theorem d_M_bare_31 : decode prog_14_method_47_code 31 = .ok (.ifCond .ne 5, 3) := by decide +kernel
theorem d_M_bare_34 : decode prog_14_method_47_code 34 = .ok (.iload_n 2, 1) := by decide +kernel
theorem d_M_bare_35 : decode prog_14_method_47_code 35 = .ok (.ireturn, 1) := by decide +kernel
theorem d_M_bare_36 : decode prog_14_method_47_code 36 = .ok (.iinc 2 1, 3) := by decide +kernel
theorem d_M_bare_39 : decode prog_14_method_47_code 39 = .ok (.goto (-21), 3) := by decide +kernel
theorem d_M_bare_42 : decode prog_14_method_47_code 42 = .ok (.bipush (-2), 2) := by decide +kernel
theorem d_M_bare_44 : decode prog_14_method_47_code 44 = .ok (.ireturn, 1) := by decide +kernel
def cf_M_bare_B18  (K18 : Int32 → Wd → Prop) (P : Int32 → Wd → Prop) (x2 : Int32) (w : Wd) : Prop :=
  (((24 : Int32) < x2 → P (-2 : Int32) w) ∧ (¬ (24 : Int32) < x2 → cf_M_trinomial x2 (0 : Int32) (-1 : Int32) w (fun r2 w3 => ((¬ r2 = 0 → ∀ v4, v4 = x2 + (1 : Int32) → K18 v4 w3) ∧ (r2 = 0 → P x2 w3)))))
def cf_M_bare_L18   (P : Int32 → Wd → Prop) : Nat → Int32 → Wd → Prop
  | 0 => fun x2 w => False
  | n + 1 => fun x2 w => cf_M_bare_B18 (cf_M_bare_L18 P n) P x2 w
def cf_M_bare (a0 : Int32) (w : Wd) (P : Int32 → Wd → Prop) : Prop :=
  cf_M_in a0.toInt64 (2 : Int64) (24 : Int64) (fun r1 => ((¬ r1 = 0 → ∃ n, cf_M_bare_L18 P n a0 w) ∧ (r1 = 0 → P (-1 : Int32) w)))
theorem cf_M_bare_B18_ok {g : ayG} {d : Nat} (hd : 105 ≤ d)   (w : Wd) (K18 : Int32 → Wd → Prop) (P : Int32 → Wd → Prop) (Q : Option Value → Wd → Prop) (hQ : ∀ x w2, P x w2 → Q (some (.int x)) w2) (hK18 : ∀ (x2 : Int32) (w : Wd), (K18 x2 w → wp g (fun _ => True) y_M_bare prog_14_method_47_code 3 (some FieldType.int) d 18 [(0, .ref (g.1 + 30)), (2, .int x2)] [] w Q)) (x2 : Int32) (h : cf_M_bare_B18 K18 P x2 w) : wp g (fun _ => True) y_M_bare prog_14_method_47_code 3 (some FieldType.int) d 18 [(0, .ref (g.1 + 30)), (2, .int x2)] [] w Q := by
  unfold cf_M_bare_B18 at h
  refine am_iload_n d_M_bare_18 1 rfl ?_
  refine am_bipush (v := 24) d_M_bare_19 rfl ?_
  refine am_icmp_gt (tgt := 42) d_M_bare_21 (by decide) (fun c21 => ?_) (fun c21 => ?_)
  · have h := h.1 c21
    refine am_bipush (v := -2) d_M_bare_42 rfl ?_
    exact am_ireturn d_M_bare_44 rfl rfl (hQ (-2 : Int32) w h)
  · have h := h.2 c21
    refine am_aload_n d_M_bare_24 0 rfl ?_
    refine am_iload_n d_M_bare_25 1 rfl ?_
    refine am_iconst (v := 0) d_M_bare_26 rfl ?_
    refine am_iconst (v := -1) d_M_bare_27 rfl ?_
    refine am_callV (C := "TriSplitsModel") (d2 := d - 1) [.int x2, .int (0 : Int32), .int (-1 : Int32)] d_M_bare_28 mi_M_trinomial wd_1339 wd_1302 wd_1303 (by decide) (el_M (show ay_sh 30 = _ from rfl)) rfl rfl (by omega) rfl rfl (Nat.le_of_ble_eq_true rfl) ?_
    refine Call.post ?_ (cf_M_trinomial_ok (by omega) x2 (0 : Int32) (-1 : Int32)  w _ h)
    rintro _ w3 ⟨r2, rfl, h⟩
    show wp g (fun _ => True) y_M_bare prog_14_method_47_code 3 (some FieldType.int) d 31 [(0, .ref (g.1 + 30)), (2, .int x2)] [.int r2] w3 Q
    refine am_if_ne (tgt := 36) d_M_bare_31 (by decide) (fun c31 => ?_) (fun c31 => ?_)
    · have h := h.1 c31
      obtain ⟨v4, ev4⟩ : ∃ z : Int32, z = x2 + (1 : Int32) := ⟨_, rfl⟩
      have h := h v4 ev4
      refine am_iinc (v := v4) (l' := [(2, .int v4), (0, .ref (g.1 + 30))]) d_M_bare_36 1 rfl (by rw [ev4]; rfl) (by decide) rfl ?_
      refine am_goto (tgt := 18) d_M_bare_39 (by decide) ?_
      refine am_sub [1, 0] rfl ?_
      exact hK18 v4 w3 h
    · have h := h.2 c31
      refine am_iload_n d_M_bare_34 1 rfl ?_
      exact am_ireturn d_M_bare_35 rfl rfl (hQ x2 w3 h)
theorem cf_M_bare_L18_ok {g : ayG} {d : Nat} (hd : 105 ≤ d)    (P : Int32 → Wd → Prop) (Q : Option Value → Wd → Prop) (hQ : ∀ x w2, P x w2 → Q (some (.int x)) w2)  : ∀ (n : Nat) (x2 : Int32) (w : Wd) (h : cf_M_bare_L18 P n x2 w), wp g (fun _ => True) y_M_bare prog_14_method_47_code 3 (some FieldType.int) d 18 [(0, .ref (g.1 + 30)), (2, .int x2)] [] w Q
  | 0, x2, w, h => False.elim h
  | n + 1, x2, w, h => cf_M_bare_B18_ok hd   w (cf_M_bare_L18 P n) P Q hQ (fun x2 w h => cf_M_bare_L18_ok hd    P Q hQ  n x2 w h) x2 h
theorem cf_M_bare_ok {g : ayG} {d : Nat} (hd : 105 ≤ d) (a0 : Int32)  (w : Wd) (P : Int32 → Wd → Prop) (h : cf_M_bare a0 w P) : Call g y_M_bare prog_14_method_47_code 3 (some FieldType.int) d [.ref (g.1 + 30), .int a0] w (fun (r : Option Value) (w2 : Wd) => ∃ x, r = some (.int x) ∧ P x w2) := by
  unfold cf_M_bare at h
  refine am_enter mi_M_bare (Nat.le_of_ble_eq_true rfl) ?_
  have hQ : ∀ x w2, P x w2 → (fun (r : Option Value) (w2 : Wd) => ∃ x, r = some (.int x) ∧ P x w2) (some (.int x)) w2 := fun x w2 h => ⟨x, rfl, h⟩
  generalize (fun (r : Option Value) (w2 : Wd) => ∃ x, r = some (.int x) ∧ P x w2) = Q at hQ ⊢
  show wp g (fun _ => True) y_M_bare prog_14_method_47_code 3 (some FieldType.int) d 0 [(0, .ref (g.1 + 30)), (1, .int a0)] [] w Q
  refine am_iload_n d_M_bare_0 1 rfl ?_
  refine am_i2l d_M_bare_1 ?_
  refine am_ldc2 (v := 2) d_M_bare_2 wd_1205 ?_
  refine am_ldc2 (v := 24) d_M_bare_5 wd_1305 ?_
  refine am_callS (d2 := d - 1) [.long a0.toInt64, .long (2 : Int64), .long (24 : Int64)] d_M_bare_8 mi_M_in wd_1192 wd_1193 (by omega) rfl rfl (Nat.le_of_ble_eq_true rfl) ?_
  refine Call.post ?_ (cf_M_in_ok (by omega) a0.toInt64 (2 : Int64) (24 : Int64)  w _ h)
  rintro _ _ ⟨r1, rfl, rfl, h⟩
  show wp g (fun _ => True) y_M_bare prog_14_method_47_code 3 (some FieldType.int) d 11 [(0, .ref (g.1 + 30)), (1, .int a0)] [.int r1] w Q
  refine am_if_ne (tgt := 16) d_M_bare_11 (by decide) (fun c11 => ?_) (fun c11 => ?_)
  · have h := h.1 c11
    refine am_iload_n d_M_bare_16 1 rfl ?_
    refine am_istore_n (l' := [(2, .int a0), (0, .ref (g.1 + 30)), (1, .int a0)]) d_M_bare_17 (by decide) rfl ?_
    refine am_sub [1, 0] rfl ?_
    obtain ⟨n, h⟩ := h
    exact cf_M_bare_L18_ok (by omega)    P Q hQ  n a0 w h
  · have h := h.2 c11
    refine am_iconst (v := -1) d_M_bare_14 rfl ?_
    exact am_ireturn d_M_bare_15 rfl rfl (hQ (-1 : Int32) w h)
theorem d_M_isIn_0 : decode prog_14_method_48_code 0 = .ok (.aload_n 0, 1) := by decide +kernel
theorem d_M_isIn_1 : decode prog_14_method_48_code 1 = .ok (.aload_n 0, 1) := by decide +kernel
theorem d_M_isIn_2 : decode prog_14_method_48_code 2 = .ok (.getfield 7, 3) := by decide +kernel
theorem d_M_isIn_5 : decode prog_14_method_48_code 5 = .ok (.iload_n 2, 1) := by decide +kernel
theorem d_M_isIn_6 : decode prog_14_method_48_code 6 = .ok (.laload, 1) := by decide +kernel
theorem d_M_isIn_7 : decode prog_14_method_48_code 7 = .ok (.invokevirtual 140, 3) := by decide +kernel
theorem d_M_isIn_10 : decode prog_14_method_48_code 10 = .ok (.ifCond .eq 28, 3) := by decide +kernel
theorem d_M_isIn_13 : decode prog_14_method_48_code 13 = .ok (.aload_n 0, 1) := by decide +kernel
theorem d_M_isIn_14 : decode prog_14_method_48_code 14 = .ok (.getfield 7, 3) := by decide +kernel
theorem d_M_isIn_17 : decode prog_14_method_48_code 17 = .ok (.iload_n 1, 1) := by decide +kernel
theorem d_M_isIn_18 : decode prog_14_method_48_code 18 = .ok (.laload, 1) := by decide +kernel
theorem d_M_isIn_19 : decode prog_14_method_48_code 19 = .ok (.invokestatic 84, 3) := by decide +kernel
theorem d_M_isIn_22 : decode prog_14_method_48_code 22 = .ok (.aload_n 0, 1) := by decide +kernel
theorem d_M_isIn_23 : decode prog_14_method_48_code 23 = .ok (.getfield 7, 3) := by decide +kernel
theorem d_M_isIn_26 : decode prog_14_method_48_code 26 = .ok (.iload_n 2, 1) := by decide +kernel
theorem d_M_isIn_27 : decode prog_14_method_48_code 27 = .ok (.laload, 1) := by decide +kernel
theorem d_M_isIn_28 : decode prog_14_method_48_code 28 = .ok (.invokestatic 84, 3) := by decide +kernel
theorem d_M_isIn_31 : decode prog_14_method_48_code 31 = .ok (.if_icmp .ge 7, 3) := by decide +kernel
theorem d_M_isIn_34 : decode prog_14_method_48_code 34 = .ok (.iconst 1, 1) := by decide +kernel
theorem d_M_isIn_35 : decode prog_14_method_48_code 35 = .ok (.goto 4, 3) := by decide +kernel
theorem d_M_isIn_38 : decode prog_14_method_48_code 38 = .ok (.iconst 0, 1) := by decide +kernel
theorem d_M_isIn_39 : decode prog_14_method_48_code 39 = .ok (.ireturn, 1) := by decide +kernel
def cf_M_isIn (a0 : Int32) (a1 : Int32) (w : Wd) (P : Int32 → Wd → Prop) : Prop :=
  vp_in a1 14 ∧ cf_M_isIrreducible (w.2 31 a1.toNatClampNeg) w (fun r1 w2 => ((r1 = 0 → P (0 : Int32) w2) ∧ (¬ r1 = 0 → vp_in a0 14 ∧ cf_M_degree (w2.2 31 a0.toNatClampNeg) (fun r3 => vp_in a1 14 ∧ cf_M_degree (w2.2 31 a1.toNatClampNeg) (fun r4 => ((r4 ≤ r3 → P (0 : Int32) w2) ∧ (¬ r4 ≤ r3 → P (1 : Int32) w2)))))))
theorem cf_M_isIn_ok {g : ayG} {d : Nat} (hd : 4 ≤ d) (a0 : Int32) (a1 : Int32)  (w : Wd) (P : Int32 → Wd → Prop) (h : cf_M_isIn a0 a1 w P) : Call g y_M_isIn prog_14_method_48_code 3 (some FieldType.boolean) d [.ref (g.1 + 30), .int a0, .int a1] w (fun (r : Option Value) (w2 : Wd) => ∃ x, r = some (.int x) ∧ P x w2) := by
  unfold cf_M_isIn at h
  refine am_enter mi_M_isIn (Nat.le_of_ble_eq_true rfl) ?_
  have hQ : ∀ x w2, P x w2 → (fun (r : Option Value) (w2 : Wd) => ∃ x, r = some (.int x) ∧ P x w2) (some (.int x)) w2 := fun x w2 h => ⟨x, rfl, h⟩
  generalize (fun (r : Option Value) (w2 : Wd) => ∃ x, r = some (.int x) ∧ P x w2) = Q at hQ ⊢
  show wp g (fun _ => True) y_M_isIn prog_14_method_48_code 3 (some FieldType.boolean) d 0 [(0, .ref (g.1 + 30)), (1, .int a0), (2, .int a1)] [] w Q
  refine am_aload_n d_M_isIn_0 0 rfl ?_
  refine am_aload_n d_M_isIn_1 0 rfl ?_
  refine am_getf (T := F_M) (fs := ob_M g w 30) (C := R_M) (N := 35) (ci := 10) 0 d_M_isIn_2 wd_1077 rfl (by decide) (el_M (show ay_sh 30 = _ from rfl)) rfl i_M (by decide) rfl ?_
  refine am_iload_n d_M_isIn_5 2 rfl ?_
  have hi6 := h.1
  have h := h.2
  refine am_laload d_M_isIn_6 (show ay_sh 31 = _ from rfl) hi6 ?_
  refine am_callV (C := y_M_isIrreducible.cls) (d2 := d - 1) [.long (w.2 31 a1.toNatClampNeg)] d_M_isIn_7 mi_M_isIrreducible wd_1232 wd_1234 ws_M_isIrreducible (by decide) (el_M (show ay_sh 30 = _ from rfl)) rfl rfl (by omega) rfl rfl (Nat.le_of_ble_eq_true rfl) ?_
  refine Call.post ?_ (cf_M_isIrreducible_ok (by omega) (w.2 31 a1.toNatClampNeg)  w _ h)
  rintro _ w2 ⟨r1, rfl, h⟩
  show wp g (fun _ => True) y_M_isIn prog_14_method_48_code 3 (some FieldType.boolean) d 10 [(0, .ref (g.1 + 30)), (1, .int a0), (2, .int a1)] [.int r1] w2 Q
  refine am_if_eq (tgt := 38) d_M_isIn_10 (by decide) (fun c10 => ?_) (fun c10 => ?_)
  · have h := h.1 c10
    refine am_iconst (v := 0) d_M_isIn_38 rfl ?_
    exact am_ireturn d_M_isIn_39 rfl rfl (hQ (0 : Int32) w2 h)
  · have h := h.2 c10
    refine am_aload_n d_M_isIn_13 0 rfl ?_
    refine am_getf (T := F_M) (fs := ob_M g w2 30) (C := R_M) (N := 35) (ci := 10) 0 d_M_isIn_14 wd_1077 rfl (by decide) (el_M (show ay_sh 30 = _ from rfl)) rfl i_M (by decide) rfl ?_
    refine am_iload_n d_M_isIn_17 1 rfl ?_
    have hi18 := h.1
    have h := h.2
    refine am_laload d_M_isIn_18 (show ay_sh 31 = _ from rfl) hi18 ?_
    refine am_callS (d2 := d - 1) [.long (w2.2 31 a0.toNatClampNeg)] d_M_isIn_19 mi_M_degree wd_1206 wd_1207 (by omega) rfl rfl (Nat.le_of_ble_eq_true rfl) ?_
    refine Call.post ?_ (cf_M_degree_ok (by omega) (w2.2 31 a0.toNatClampNeg)  w2 _ h)
    rintro _ _ ⟨r3, rfl, rfl, h⟩
    show wp g (fun _ => True) y_M_isIn prog_14_method_48_code 3 (some FieldType.boolean) d 22 [(0, .ref (g.1 + 30)), (1, .int a0), (2, .int a1)] [.int r3] w2 Q
    refine am_aload_n d_M_isIn_22 0 rfl ?_
    refine am_getf (T := F_M) (fs := ob_M g w2 30) (C := R_M) (N := 35) (ci := 10) 0 d_M_isIn_23 wd_1077 rfl (by decide) (el_M (show ay_sh 30 = _ from rfl)) rfl i_M (by decide) rfl ?_
    refine am_iload_n d_M_isIn_26 2 rfl ?_
    have hi27 := h.1
    have h := h.2
    refine am_laload d_M_isIn_27 (show ay_sh 31 = _ from rfl) hi27 ?_
    refine am_callS (d2 := d - 1) [.long (w2.2 31 a1.toNatClampNeg)] d_M_isIn_28 mi_M_degree wd_1206 wd_1207 (by omega) rfl rfl (Nat.le_of_ble_eq_true rfl) ?_
    refine Call.post ?_ (cf_M_degree_ok (by omega) (w2.2 31 a1.toNatClampNeg)  w2 _ h)
    rintro _ _ ⟨r4, rfl, rfl, h⟩
    show wp g (fun _ => True) y_M_isIn prog_14_method_48_code 3 (some FieldType.boolean) d 31 [(0, .ref (g.1 + 30)), (1, .int a0), (2, .int a1)] [.int r4, .int r3] w2 Q
    refine am_icmp_ge (tgt := 38) d_M_isIn_31 (by decide) (fun c31 => ?_) (fun c31 => ?_)
    · have h := h.1 c31
      refine am_iconst (v := 0) d_M_isIn_38 rfl ?_
      exact am_ireturn d_M_isIn_39 rfl rfl (hQ (0 : Int32) w2 h)
    · have h := h.2 c31
      refine am_iconst (v := 1) d_M_isIn_34 rfl ?_
      refine am_goto (tgt := 39) d_M_isIn_35 (by decide) ?_
      exact am_ireturn d_M_isIn_39 rfl rfl (hQ (1 : Int32) w2 h)
theorem d_M_minimal_0 : decode prog_14_method_49_code 0 = .ok (.iload_n 1, 1) := by decide +kernel
theorem d_M_minimal_1 : decode prog_14_method_49_code 1 = .ok (.invokestatic 150, 3) := by decide +kernel
theorem d_M_minimal_4 : decode prog_14_method_49_code 4 = .ok (.ifCond .eq 10, 3) := by decide +kernel
theorem d_M_minimal_7 : decode prog_14_method_49_code 7 = .ok (.iload_n 2, 1) := by decide +kernel
theorem d_M_minimal_8 : decode prog_14_method_49_code 8 = .ok (.invokestatic 150, 3) := by decide +kernel
theorem d_M_minimal_11 : decode prog_14_method_49_code 11 = .ok (.ifCond .ne 7, 3) := by decide +kernel
theorem d_M_minimal_14 : decode prog_14_method_49_code 14 = .ok (.ldc2_w 26, 3) := by decide +kernel
theorem d_M_minimal_17 : decode prog_14_method_49_code 17 = .ok (.lreturn, 1) := by decide +kernel
theorem d_M_minimal_18 : decode prog_14_method_49_code 18 = .ok (.aload_n 0, 1) := by decide +kernel
theorem d_M_minimal_19 : decode prog_14_method_49_code 19 = .ok (.iload_n 1, 1) := by decide +kernel
theorem d_M_minimal_20 : decode prog_14_method_49_code 20 = .ok (.iload_n 2, 1) := by decide +kernel
theorem d_M_minimal_21 : decode prog_14_method_49_code 21 = .ok (.invokevirtual 200, 3) := by decide +kernel
theorem d_M_minimal_24 : decode prog_14_method_49_code 24 = .ok (.ifCond .ne 7, 3) := by decide +kernel
theorem d_M_minimal_27 : decode prog_14_method_49_code 27 = .ok (.ldc2_w 162, 3) := by decide +kernel
theorem d_M_minimal_30 : decode prog_14_method_49_code 30 = .ok (.lreturn, 1) := by decide +kernel
theorem d_M_minimal_31 : decode prog_14_method_49_code 31 = .ok (.aload_n 0, 1) := by decide +kernel
theorem d_M_minimal_32 : decode prog_14_method_49_code 32 = .ok (.getfield 7, 3) := by decide +kernel
theorem d_M_minimal_35 : decode prog_14_method_49_code 35 = .ok (.iload_n 2, 1) := by decide +kernel
theorem d_M_minimal_36 : decode prog_14_method_49_code 36 = .ok (.laload, 1) := by decide +kernel
theorem d_M_minimal_37 : decode prog_14_method_49_code 37 = .ok (.lstore_n 3, 1) := by decide +kernel
theorem d_M_minimal_38 : decode prog_14_method_49_code 38 = .ok (.iconst 0, 1) := by decide +kernel
theorem d_M_minimal_39 : decode prog_14_method_49_code 39 = .ok (.istore 5, 2) := by decide +kernel
theorem d_M_minimal_41 : decode prog_14_method_49_code 41 = .ok (.lconst 1, 1) := by decide +kernel
theorem d_M_minimal_42 : decode prog_14_method_49_code 42 = .ok (.lstore 6, 2) := by decide +kernel
theorem d_M_minimal_44 : decode prog_14_method_49_code 44 = .ok (.iconst 0, 1) := by decide +kernel
theorem d_M_minimal_45 : decode prog_14_method_49_code 45 = .ok (.istore 8, 2) := by decide +kernel
theorem d_M_minimal_47 : decode prog_14_method_49_code 47 = .ok (.iload 8, 2) := by decide +kernel
theorem d_M_minimal_49 : decode prog_14_method_49_code 49 = .ok (.lload_n 3, 1) := by decide +kernel
theorem d_M_minimal_50 : decode prog_14_method_49_code 50 = .ok (.invokestatic 84, 3) := by decide +kernel
theorem d_M_minimal_53 : decode prog_14_method_49_code 53 = .ok (.if_icmp .gt 125, 3) := by decide +kernel
theorem d_M_minimal_56 : decode prog_14_method_49_code 56 = .ok (.lload 6, 2) := by decide +kernel
theorem d_M_minimal_58 : decode prog_14_method_49_code 58 = .ok (.lstore 9, 2) := by decide +kernel
theorem d_M_minimal_60 : decode prog_14_method_49_code 60 = .ok (.lconst 1, 1) := by decide +kernel
theorem d_M_minimal_61 : decode prog_14_method_49_code 61 = .ok (.iload 8, 2) := by decide +kernel
theorem d_M_minimal_63 : decode prog_14_method_49_code 63 = .ok (.lshl, 1) := by decide +kernel
theorem d_M_minimal_64 : decode prog_14_method_49_code 64 = .ok (.lstore 11, 2) := by decide +kernel
theorem d_M_minimal_66 : decode prog_14_method_49_code 66 = .ok (.iconst 0, 1) := by decide +kernel
theorem d_M_minimal_67 : decode prog_14_method_49_code 67 = .ok (.istore 13, 2) := by decide +kernel
theorem d_M_minimal_69 : decode prog_14_method_49_code 69 = .ok (.iload 13, 2) := by decide +kernel
theorem d_M_minimal_71 : decode prog_14_method_49_code 71 = .ok (.iload 5, 2) := by decide +kernel
theorem d_M_minimal_73 : decode prog_14_method_49_code 73 = .ok (.if_icmp .ge 54, 3) := by decide +kernel
theorem d_M_minimal_76 : decode prog_14_method_49_code 76 = .ok (.lload 9, 2) := by decide +kernel
theorem d_M_minimal_78 : decode prog_14_method_49_code 78 = .ok (.aload_n 0, 1) := by decide +kernel
theorem d_M_minimal_79 : decode prog_14_method_49_code 79 = .ok (.getfield 38, 3) := by decide +kernel
theorem d_M_minimal_82 : decode prog_14_method_49_code 82 = .ok (.iload 13, 2) := by decide +kernel
theorem d_M_minimal_84 : decode prog_14_method_49_code 84 = .ok (.laload, 1) := by decide +kernel
theorem d_M_minimal_85 : decode prog_14_method_49_code 85 = .ok (.invokestatic 84, 3) := by decide +kernel
theorem d_M_minimal_88 : decode prog_14_method_49_code 88 = .ok (.invokestatic 80, 3) := by decide +kernel
theorem d_M_minimal_91 : decode prog_14_method_49_code 91 = .ok (.ifCond .ne 6, 3) := by decide +kernel
theorem d_M_minimal_94 : decode prog_14_method_49_code 94 = .ok (.goto 27, 3) := by decide +kernel
theorem d_M_minimal_97 : decode prog_14_method_49_code 97 = .ok (.lload 9, 2) := by decide +kernel
theorem d_M_minimal_99 : decode prog_14_method_49_code 99 = .ok (.aload_n 0, 1) := by decide +kernel
theorem d_M_minimal_100 : decode prog_14_method_49_code 100 = .ok (.getfield 38, 3) := by decide +kernel
theorem d_M_minimal_103 : decode prog_14_method_49_code 103 = .ok (.iload 13, 2) := by decide +kernel
theorem d_M_minimal_105 : decode prog_14_method_49_code 105 = .ok (.laload, 1) := by decide +kernel
theorem d_M_minimal_106 : decode prog_14_method_49_code 106 = .ok (.lxor, 1) := by decide +kernel
theorem d_M_minimal_107 : decode prog_14_method_49_code 107 = .ok (.lstore 9, 2) := by decide +kernel
theorem d_M_minimal_109 : decode prog_14_method_49_code 109 = .ok (.lload 11, 2) := by decide +kernel
theorem d_M_minimal_111 : decode prog_14_method_49_code 111 = .ok (.aload_n 0, 1) := by decide +kernel
theorem d_M_minimal_112 : decode prog_14_method_49_code 112 = .ok (.getfield 41, 3) := by decide +kernel
theorem d_M_minimal_115 : decode prog_14_method_49_code 115 = .ok (.iload 13, 2) := by decide +kernel
theorem d_M_minimal_117 : decode prog_14_method_49_code 117 = .ok (.laload, 1) := by decide +kernel
theorem d_M_minimal_118 : decode prog_14_method_49_code 118 = .ok (.lxor, 1) := by decide +kernel
theorem d_M_minimal_119 : decode prog_14_method_49_code 119 = .ok (.lstore 11, 2) := by decide +kernel
theorem d_M_minimal_121 : decode prog_14_method_49_code 121 = .ok (.iinc 13 1, 3) := by decide +kernel
theorem d_M_minimal_124 : decode prog_14_method_49_code 124 = .ok (.goto (-55), 3) := by decide +kernel
theorem d_M_minimal_127 : decode prog_14_method_49_code 127 = .ok (.lload 9, 2) := by decide +kernel
theorem d_M_minimal_129 : decode prog_14_method_49_code 129 = .ok (.lconst 0, 1) := by decide +kernel
theorem d_M_minimal_130 : decode prog_14_method_49_code 130 = .ok (.lcmp, 1) := by decide +kernel
theorem d_M_minimal_131 : decode prog_14_method_49_code 131 = .ok (.ifCond .ne 6, 3) := by decide +kernel
theorem d_M_minimal_134 : decode prog_14_method_49_code 134 = .ok (.lload 11, 2) := by decide +kernel
theorem d_M_minimal_136 : decode prog_14_method_49_code 136 = .ok (.lreturn, 1) := by decide +kernel
theorem d_M_minimal_137 : decode prog_14_method_49_code 137 = .ok (.aload_n 0, 1) := by decide +kernel
theorem d_M_minimal_138 : decode prog_14_method_49_code 138 = .ok (.getfield 38, 3) := by decide +kernel
theorem d_M_minimal_141 : decode prog_14_method_49_code 141 = .ok (.iload 5, 2) := by decide +kernel
theorem d_M_minimal_143 : decode prog_14_method_49_code 143 = .ok (.lload 9, 2) := by decide +kernel
theorem d_M_minimal_145 : decode prog_14_method_49_code 145 = .ok (.lastore, 1) := by decide +kernel
theorem d_M_minimal_146 : decode prog_14_method_49_code 146 = .ok (.aload_n 0, 1) := by decide +kernel
theorem d_M_minimal_147 : decode prog_14_method_49_code 147 = .ok (.getfield 41, 3) := by decide +kernel
theorem d_M_minimal_150 : decode prog_14_method_49_code 150 = .ok (.iload 5, 2) := by decide +kernel
theorem d_M_minimal_152 : decode prog_14_method_49_code 152 = .ok (.lload 11, 2) := by decide +kernel
theorem d_M_minimal_154 : decode prog_14_method_49_code 154 = .ok (.lastore, 1) := by decide +kernel
theorem d_M_minimal_155 : decode prog_14_method_49_code 155 = .ok (.iinc 5 1, 3) := by decide +kernel
theorem d_M_minimal_158 : decode prog_14_method_49_code 158 = .ok (.lload 6, 2) := by decide +kernel
theorem d_M_minimal_160 : decode prog_14_method_49_code 160 = .ok (.aload_n 0, 1) := by decide +kernel
theorem d_M_minimal_161 : decode prog_14_method_49_code 161 = .ok (.getfield 7, 3) := by decide +kernel
theorem d_M_minimal_164 : decode prog_14_method_49_code 164 = .ok (.iload_n 1, 1) := by decide +kernel
theorem d_M_minimal_165 : decode prog_14_method_49_code 165 = .ok (.laload, 1) := by decide +kernel
theorem d_M_minimal_166 : decode prog_14_method_49_code 166 = .ok (.lload_n 3, 1) := by decide +kernel
theorem d_M_minimal_167 : decode prog_14_method_49_code 167 = .ok (.invokestatic 98, 3) := by decide +kernel
theorem d_M_minimal_170 : decode prog_14_method_49_code 170 = .ok (.lstore 6, 2) := by decide +kernel
theorem d_M_minimal_172 : decode prog_14_method_49_code 172 = .ok (.iinc 8 1, 3) := by decide +kernel
theorem d_M_minimal_175 : decode prog_14_method_49_code 175 = .ok (.goto (-128), 3) := by decide +kernel
theorem d_M_minimal_178 : decode prog_14_method_49_code 178 = .ok (.ldc2_w 26, 3) := by decide +kernel
theorem d_M_minimal_181 : decode prog_14_method_49_code 181 = .ok (.lreturn, 1) := by decide +kernel
def cf_M_minimal_B69  (K47 : Int32 → Int64 → Int32 → Int64 → Int32 → Wd → Prop) (K69 : Int32 → Int64 → Int32 → Int64 → Int32 → Int64 → Int64 → Int32 → Wd → Prop) (P : Int64 → Wd → Prop) (x1 : Int32) (x3 : Int64) (x5 : Int32) (x6 : Int64) (x8 : Int32) (x9 : Int64) (x11 : Int64) (x13 : Int32) (w : Wd) : Prop :=
  ((x5 ≤ x13 → ((¬ x9 = (0 : Int64) → vp_in x5 64 ∧ ∀ w8, w8 = wL w 38 x5.toNatClampNeg x9 → vp_in x5 64 ∧ ∀ w9, w9 = wL w8 39 x5.toNatClampNeg x11 → ∀ v10, v10 = x5 + (1 : Int32) → vp_in x1 14 ∧ cf_M_timesBy x6 (w9.2 31 x1.toNatClampNeg) x3 (fun r11 => ∀ v12, v12 = x8 + (1 : Int32) → K47 x1 x3 v10 r11 v12 w9)) ∧ (x9 = (0 : Int64) → P x11 w))) ∧ (¬ x5 ≤ x13 → vp_in x13 64 ∧ cf_M_degree (w.2 38 x13.toNatClampNeg) (fun r13 => cf_M_has x9 r13 (fun r14 => ((¬ r14 = 0 → vp_in x13 64 ∧ ∀ v15, v15 = x9 ^^^ (w.2 38 x13.toNatClampNeg) → vp_in x13 64 ∧ ∀ v16, v16 = x11 ^^^ (w.2 39 x13.toNatClampNeg) → ∀ v17, v17 = x13 + (1 : Int32) → K69 x1 x3 x5 x6 x8 v15 v16 v17 w) ∧ (r14 = 0 → ∀ v18, v18 = x13 + (1 : Int32) → K69 x1 x3 x5 x6 x8 x9 x11 v18 w))))))
def cf_M_minimal_L69  (K47 : Int32 → Int64 → Int32 → Int64 → Int32 → Wd → Prop) (P : Int64 → Wd → Prop) : Nat → Int32 → Int64 → Int32 → Int64 → Int32 → Int64 → Int64 → Int32 → Wd → Prop
  | 0 => fun x1 x3 x5 x6 x8 x9 x11 x13 w => False
  | n + 1 => fun x1 x3 x5 x6 x8 x9 x11 x13 w => cf_M_minimal_B69 K47 (cf_M_minimal_L69 K47 P n) P x1 x3 x5 x6 x8 x9 x11 x13 w
def cf_M_minimal_B47  (K47 : Int32 → Int64 → Int32 → Int64 → Int32 → Wd → Prop) (P : Int64 → Wd → Prop) (x1 : Int32) (x3 : Int64) (x5 : Int32) (x6 : Int64) (x8 : Int32) (w : Wd) : Prop :=
  cf_M_degree x3 (fun r6 => ((r6 < x8 → P (-1 : Int64) w) ∧ (¬ r6 < x8 → ∀ v7, v7 = lshl (1 : Int64) x8 → ∃ n, cf_M_minimal_L69 K47 P n x1 x3 x5 x6 x8 x6 v7 (0 : Int32) w)))
def cf_M_minimal_L47   (P : Int64 → Wd → Prop) : Nat → Int32 → Int64 → Int32 → Int64 → Int32 → Wd → Prop
  | 0 => fun x1 x3 x5 x6 x8 w => False
  | n + 1 => fun x1 x3 x5 x6 x8 w => cf_M_minimal_B47 (cf_M_minimal_L47 P n) P x1 x3 x5 x6 x8 w
def cf_M_minimal (a0 : Int32) (a1 : Int32) (w : Wd) (P : Int64 → Wd → Prop) : Prop :=
  cf_M_isPlace a0 (fun r1 => ((r1 = 0 → P (-1 : Int64) w) ∧ (¬ r1 = 0 → cf_M_isPlace a1 (fun r2 => ((¬ r2 = 0 → cf_M_isIn a0 a1 w (fun r3 w4 => ((¬ r3 = 0 → vp_in a1 14 ∧ ∀ v5, v5 = w4.2 31 a1.toNatClampNeg → ∃ n, cf_M_minimal_L47 P n a0 v5 (0 : Int32) (1 : Int64) (0 : Int32) w4) ∧ (r3 = 0 → P (-2 : Int64) w4)))) ∧ (r2 = 0 → P (-1 : Int64) w))))))
theorem cf_M_minimal_B69_ok {g : ayG} {d : Nat} (hd : 5 ≤ d)   (w : Wd) (K47 : Int32 → Int64 → Int32 → Int64 → Int32 → Wd → Prop) (K69 : Int32 → Int64 → Int32 → Int64 → Int32 → Int64 → Int64 → Int32 → Wd → Prop) (P : Int64 → Wd → Prop) (Q : Option Value → Wd → Prop) (hQ : ∀ x w2, P x w2 → Q (some (.long x)) w2) (hK47 : ∀ (x1 : Int32) (x3 : Int64) (x5 : Int32) (x6 : Int64) (x8 : Int32) (w : Wd), (K47 x1 x3 x5 x6 x8 w → wp g (fun _ => True) y_M_minimal prog_14_method_49_code 14 (some FieldType.long) d 47 [(0, .ref (g.1 + 30)), (1, .int x1), (3, .long x3), (5, .int x5), (6, .long x6), (8, .int x8)] [] w Q)) (hK69 : ∀ (x1 : Int32) (x3 : Int64) (x5 : Int32) (x6 : Int64) (x8 : Int32) (x9 : Int64) (x11 : Int64) (x13 : Int32) (w : Wd), (K69 x1 x3 x5 x6 x8 x9 x11 x13 w → wp g (fun _ => True) y_M_minimal prog_14_method_49_code 14 (some FieldType.long) d 69 [(0, .ref (g.1 + 30)), (1, .int x1), (3, .long x3), (5, .int x5), (6, .long x6), (8, .int x8), (9, .long x9), (11, .long x11), (13, .int x13)] [] w Q)) (x1 : Int32) (x3 : Int64) (x5 : Int32) (x6 : Int64) (x8 : Int32) (x9 : Int64) (x11 : Int64) (x13 : Int32) (h : cf_M_minimal_B69 K47 K69 P x1 x3 x5 x6 x8 x9 x11 x13 w) : wp g (fun _ => True) y_M_minimal prog_14_method_49_code 14 (some FieldType.long) d 69 [(0, .ref (g.1 + 30)), (1, .int x1), (3, .long x3), (5, .int x5), (6, .long x6), (8, .int x8), (9, .long x9), (11, .long x11), (13, .int x13)] [] w Q := by
  unfold cf_M_minimal_B69 at h
  refine am_iload d_M_minimal_69 8 rfl ?_
  refine am_iload d_M_minimal_71 3 rfl ?_
  refine am_icmp_ge (tgt := 127) d_M_minimal_73 (by decide) (fun c73 => ?_) (fun c73 => ?_)
  · have h := h.1 c73
    refine am_lload d_M_minimal_127 6 rfl ?_
    refine am_lconst (v := 0) d_M_minimal_129 rfl ?_
    refine am_lif_ne (tgt := 137) d_M_minimal_130 d_M_minimal_131 (by decide) (fun c130 => ?_) (fun c130 => ?_)
    · have h := h.1 c130
      refine am_aload_n d_M_minimal_137 0 rfl ?_
      refine am_getf (T := F_M) (fs := ob_M g w 30) (C := R_M) (N := 35) (ci := 10) 11 d_M_minimal_138 wd_1088 rfl (by decide) (el_M (show ay_sh 30 = _ from rfl)) rfl i_M (by decide) rfl ?_
      refine am_iload d_M_minimal_141 3 rfl ?_
      refine am_lload d_M_minimal_143 6 rfl ?_
      have hi145 := h.1
      have h := h.2
      refine am_lastore d_M_minimal_145 (show ay_sh 38 = _ from rfl) hi145 ?_
      obtain ⟨w8, ew8⟩ : ∃ z, z = wL w 38 x5.toNatClampNeg x9 := ⟨_, rfl⟩
      rw [← ew8]
      have h := h w8 ew8
      refine am_aload_n d_M_minimal_146 0 rfl ?_
      refine am_getf (T := F_M) (fs := ob_M g w8 30) (C := R_M) (N := 35) (ci := 10) 12 d_M_minimal_147 wd_1089 rfl (by decide) (el_M (show ay_sh 30 = _ from rfl)) rfl i_M (by decide) rfl ?_
      refine am_iload d_M_minimal_150 3 rfl ?_
      refine am_lload d_M_minimal_152 7 rfl ?_
      have hi154 := h.1
      have h := h.2
      refine am_lastore d_M_minimal_154 (show ay_sh 39 = _ from rfl) hi154 ?_
      obtain ⟨w9, ew9⟩ : ∃ z, z = wL w8 39 x5.toNatClampNeg x11 := ⟨_, rfl⟩
      rw [← ew9]
      have h := h w9 ew9
      obtain ⟨v10, ev10⟩ : ∃ z : Int32, z = x5 + (1 : Int32) := ⟨_, rfl⟩
      have h := h v10 ev10
      refine am_iinc (v := v10) (l' := [(5, .int v10), (0, .ref (g.1 + 30)), (1, .int x1), (3, .long x3), (6, .long x6), (8, .int x8), (9, .long x9), (11, .long x11), (13, .int x13)]) d_M_minimal_155 3 rfl (by rw [ev10]; rfl) (by decide) rfl ?_
      refine am_lload d_M_minimal_158 4 rfl ?_
      refine am_aload_n d_M_minimal_160 1 rfl ?_
      refine am_getf (T := F_M) (fs := ob_M g w9 30) (C := R_M) (N := 35) (ci := 10) 0 d_M_minimal_161 wd_1077 rfl (by decide) (el_M (show ay_sh 30 = _ from rfl)) rfl i_M (by decide) rfl ?_
      refine am_iload_n d_M_minimal_164 2 rfl ?_
      have hi165 := h.1
      have h := h.2
      refine am_laload d_M_minimal_165 (show ay_sh 31 = _ from rfl) hi165 ?_
      refine am_lload_n d_M_minimal_166 3 rfl ?_
      refine am_callS (d2 := d - 1) [.long x6, .long (w9.2 31 x1.toNatClampNeg), .long x3] d_M_minimal_167 mi_M_timesBy wd_1253 wd_1254 (by omega) rfl rfl (Nat.le_of_ble_eq_true rfl) ?_
      refine Call.post ?_ (cf_M_timesBy_ok (by omega) x6 (w9.2 31 x1.toNatClampNeg) x3  w9 _ h)
      rintro _ _ ⟨r11, rfl, rfl, h⟩
      show wp g (fun _ => True) y_M_minimal prog_14_method_49_code 14 (some FieldType.long) d 170 [(5, .int v10), (0, .ref (g.1 + 30)), (1, .int x1), (3, .long x3), (6, .long x6), (8, .int x8), (9, .long x9), (11, .long x11), (13, .int x13)] [.long r11] w9 Q
      refine am_lstore (l' := [(6, .long r11), (5, .int v10), (0, .ref (g.1 + 30)), (1, .int x1), (3, .long x3), (8, .int x8), (9, .long x9), (11, .long x11), (13, .int x13)]) d_M_minimal_170 (by decide) rfl ?_
      obtain ⟨v12, ev12⟩ : ∃ z : Int32, z = x8 + (1 : Int32) := ⟨_, rfl⟩
      have h := h v12 ev12
      refine am_iinc (v := v12) (l' := [(8, .int v12), (6, .long r11), (5, .int v10), (0, .ref (g.1 + 30)), (1, .int x1), (3, .long x3), (9, .long x9), (11, .long x11), (13, .int x13)]) d_M_minimal_172 5 rfl (by rw [ev12]; rfl) (by decide) rfl ?_
      refine am_goto (tgt := 47) d_M_minimal_175 (by decide) ?_
      refine am_sub [3, 4, 5, 2, 1, 0] rfl ?_
      exact hK47 x1 x3 v10 r11 v12 w9 h
    · have h := h.2 c130
      refine am_lload d_M_minimal_134 7 rfl ?_
      exact am_lreturn d_M_minimal_136 rfl (hQ x11 w h)
  · have h := h.2 c73
    refine am_lload d_M_minimal_76 6 rfl ?_
    refine am_aload_n d_M_minimal_78 0 rfl ?_
    refine am_getf (T := F_M) (fs := ob_M g w 30) (C := R_M) (N := 35) (ci := 10) 11 d_M_minimal_79 wd_1088 rfl (by decide) (el_M (show ay_sh 30 = _ from rfl)) rfl i_M (by decide) rfl ?_
    refine am_iload d_M_minimal_82 8 rfl ?_
    have hi84 := h.1
    have h := h.2
    refine am_laload d_M_minimal_84 (show ay_sh 38 = _ from rfl) hi84 ?_
    refine am_callS (d2 := d - 1) [.long (w.2 38 x13.toNatClampNeg)] d_M_minimal_85 mi_M_degree wd_1206 wd_1207 (by omega) rfl rfl (Nat.le_of_ble_eq_true rfl) ?_
    refine Call.post ?_ (cf_M_degree_ok (by omega) (w.2 38 x13.toNatClampNeg)  w _ h)
    rintro _ _ ⟨r13, rfl, rfl, h⟩
    show wp g (fun _ => True) y_M_minimal prog_14_method_49_code 14 (some FieldType.long) d 88 [(0, .ref (g.1 + 30)), (1, .int x1), (3, .long x3), (5, .int x5), (6, .long x6), (8, .int x8), (9, .long x9), (11, .long x11), (13, .int x13)] [.int r13, .long x9] w Q
    refine am_callS (d2 := d - 1) [.long x9, .int r13] d_M_minimal_88 mi_M_has wd_1212 wd_1213 (by omega) rfl rfl (Nat.le_of_ble_eq_true rfl) ?_
    refine Call.post ?_ (cf_M_has_ok (by omega) x9 r13  w _ h)
    rintro _ _ ⟨r14, rfl, rfl, h⟩
    show wp g (fun _ => True) y_M_minimal prog_14_method_49_code 14 (some FieldType.long) d 91 [(0, .ref (g.1 + 30)), (1, .int x1), (3, .long x3), (5, .int x5), (6, .long x6), (8, .int x8), (9, .long x9), (11, .long x11), (13, .int x13)] [.int r14] w Q
    refine am_if_ne (tgt := 97) d_M_minimal_91 (by decide) (fun c91 => ?_) (fun c91 => ?_)
    · have h := h.1 c91
      refine am_lload d_M_minimal_97 6 rfl ?_
      refine am_aload_n d_M_minimal_99 0 rfl ?_
      refine am_getf (T := F_M) (fs := ob_M g w 30) (C := R_M) (N := 35) (ci := 10) 11 d_M_minimal_100 wd_1088 rfl (by decide) (el_M (show ay_sh 30 = _ from rfl)) rfl i_M (by decide) rfl ?_
      refine am_iload d_M_minimal_103 8 rfl ?_
      have hi105 := h.1
      have h := h.2
      refine am_laload d_M_minimal_105 (show ay_sh 38 = _ from rfl) hi105 ?_
      refine am_lxor d_M_minimal_106 ?_
      refine am_topl (fun v15 ev15 => ?_)
      have h := h v15 ev15
      refine am_lstore (l' := [(9, .long v15), (0, .ref (g.1 + 30)), (1, .int x1), (3, .long x3), (5, .int x5), (6, .long x6), (8, .int x8), (11, .long x11), (13, .int x13)]) d_M_minimal_107 (by decide) rfl ?_
      refine am_lload d_M_minimal_109 7 rfl ?_
      refine am_aload_n d_M_minimal_111 1 rfl ?_
      refine am_getf (T := F_M) (fs := ob_M g w 30) (C := R_M) (N := 35) (ci := 10) 12 d_M_minimal_112 wd_1089 rfl (by decide) (el_M (show ay_sh 30 = _ from rfl)) rfl i_M (by decide) rfl ?_
      refine am_iload d_M_minimal_115 8 rfl ?_
      have hi117 := h.1
      have h := h.2
      refine am_laload d_M_minimal_117 (show ay_sh 39 = _ from rfl) hi117 ?_
      refine am_lxor d_M_minimal_118 ?_
      refine am_topl (fun v16 ev16 => ?_)
      have h := h v16 ev16
      refine am_lstore (l' := [(11, .long v16), (9, .long v15), (0, .ref (g.1 + 30)), (1, .int x1), (3, .long x3), (5, .int x5), (6, .long x6), (8, .int x8), (13, .int x13)]) d_M_minimal_119 (by decide) rfl ?_
      obtain ⟨v17, ev17⟩ : ∃ z : Int32, z = x13 + (1 : Int32) := ⟨_, rfl⟩
      have h := h v17 ev17
      refine am_iinc (v := v17) (l' := [(13, .int v17), (11, .long v16), (9, .long v15), (0, .ref (g.1 + 30)), (1, .int x1), (3, .long x3), (5, .int x5), (6, .long x6), (8, .int x8)]) d_M_minimal_121 8 rfl (by rw [ev17]; rfl) (by decide) rfl ?_
      refine am_goto (tgt := 69) d_M_minimal_124 (by decide) ?_
      refine am_sub [3, 4, 5, 6, 7, 8, 2, 1, 0] rfl ?_
      exact hK69 x1 x3 x5 x6 x8 v15 v16 v17 w h
    · have h := h.2 c91
      refine am_goto (tgt := 121) d_M_minimal_94 (by decide) ?_
      obtain ⟨v18, ev18⟩ : ∃ z : Int32, z = x13 + (1 : Int32) := ⟨_, rfl⟩
      have h := h v18 ev18
      refine am_iinc (v := v18) (l' := [(13, .int v18), (0, .ref (g.1 + 30)), (1, .int x1), (3, .long x3), (5, .int x5), (6, .long x6), (8, .int x8), (9, .long x9), (11, .long x11)]) d_M_minimal_121 8 rfl (by rw [ev18]; rfl) (by decide) rfl ?_
      refine am_goto (tgt := 69) d_M_minimal_124 (by decide) ?_
      refine am_sub [1, 2, 3, 4, 5, 6, 7, 8, 0] rfl ?_
      exact hK69 x1 x3 x5 x6 x8 x9 x11 v18 w h
theorem cf_M_minimal_L69_ok {g : ayG} {d : Nat} (hd : 5 ≤ d)   (K47 : Int32 → Int64 → Int32 → Int64 → Int32 → Wd → Prop) (P : Int64 → Wd → Prop) (Q : Option Value → Wd → Prop) (hQ : ∀ x w2, P x w2 → Q (some (.long x)) w2) (hK47 : ∀ (x1 : Int32) (x3 : Int64) (x5 : Int32) (x6 : Int64) (x8 : Int32) (w : Wd), (K47 x1 x3 x5 x6 x8 w → wp g (fun _ => True) y_M_minimal prog_14_method_49_code 14 (some FieldType.long) d 47 [(0, .ref (g.1 + 30)), (1, .int x1), (3, .long x3), (5, .int x5), (6, .long x6), (8, .int x8)] [] w Q)) : ∀ (n : Nat) (x1 : Int32) (x3 : Int64) (x5 : Int32) (x6 : Int64) (x8 : Int32) (x9 : Int64) (x11 : Int64) (x13 : Int32) (w : Wd) (h : cf_M_minimal_L69 K47 P n x1 x3 x5 x6 x8 x9 x11 x13 w), wp g (fun _ => True) y_M_minimal prog_14_method_49_code 14 (some FieldType.long) d 69 [(0, .ref (g.1 + 30)), (1, .int x1), (3, .long x3), (5, .int x5), (6, .long x6), (8, .int x8), (9, .long x9), (11, .long x11), (13, .int x13)] [] w Q
  | 0, x1, x3, x5, x6, x8, x9, x11, x13, w, h => False.elim h
  | n + 1, x1, x3, x5, x6, x8, x9, x11, x13, w, h => cf_M_minimal_B69_ok hd   w K47 (cf_M_minimal_L69 K47 P n) P Q hQ hK47 (fun x1 x3 x5 x6 x8 x9 x11 x13 w h => cf_M_minimal_L69_ok hd   K47 P Q hQ hK47 n x1 x3 x5 x6 x8 x9 x11 x13 w h) x1 x3 x5 x6 x8 x9 x11 x13 h
theorem cf_M_minimal_B47_ok {g : ayG} {d : Nat} (hd : 5 ≤ d)   (w : Wd) (K47 : Int32 → Int64 → Int32 → Int64 → Int32 → Wd → Prop) (P : Int64 → Wd → Prop) (Q : Option Value → Wd → Prop) (hQ : ∀ x w2, P x w2 → Q (some (.long x)) w2) (hK47 : ∀ (x1 : Int32) (x3 : Int64) (x5 : Int32) (x6 : Int64) (x8 : Int32) (w : Wd), (K47 x1 x3 x5 x6 x8 w → wp g (fun _ => True) y_M_minimal prog_14_method_49_code 14 (some FieldType.long) d 47 [(0, .ref (g.1 + 30)), (1, .int x1), (3, .long x3), (5, .int x5), (6, .long x6), (8, .int x8)] [] w Q)) (x1 : Int32) (x3 : Int64) (x5 : Int32) (x6 : Int64) (x8 : Int32) (h : cf_M_minimal_B47 K47 P x1 x3 x5 x6 x8 w) : wp g (fun _ => True) y_M_minimal prog_14_method_49_code 14 (some FieldType.long) d 47 [(0, .ref (g.1 + 30)), (1, .int x1), (3, .long x3), (5, .int x5), (6, .long x6), (8, .int x8)] [] w Q := by
  unfold cf_M_minimal_B47 at h
  refine am_iload d_M_minimal_47 5 rfl ?_
  refine am_lload_n d_M_minimal_49 2 rfl ?_
  refine am_callS (d2 := d - 1) [.long x3] d_M_minimal_50 mi_M_degree wd_1206 wd_1207 (by omega) rfl rfl (Nat.le_of_ble_eq_true rfl) ?_
  refine Call.post ?_ (cf_M_degree_ok (by omega) x3  w _ h)
  rintro _ _ ⟨r6, rfl, rfl, h⟩
  show wp g (fun _ => True) y_M_minimal prog_14_method_49_code 14 (some FieldType.long) d 53 [(0, .ref (g.1 + 30)), (1, .int x1), (3, .long x3), (5, .int x5), (6, .long x6), (8, .int x8)] [.int r6, .int x8] w Q
  refine am_icmp_gt (tgt := 178) d_M_minimal_53 (by decide) (fun c53 => ?_) (fun c53 => ?_)
  · have h := h.1 c53
    refine am_ldc2 (v := -1) d_M_minimal_178 wd_1076 ?_
    exact am_lreturn d_M_minimal_181 rfl (hQ (-1 : Int64) w h)
  · have h := h.2 c53
    refine am_lload d_M_minimal_56 4 rfl ?_
    refine am_lstore (l' := [(9, .long x6), (0, .ref (g.1 + 30)), (1, .int x1), (3, .long x3), (5, .int x5), (6, .long x6), (8, .int x8)]) d_M_minimal_58 (by decide) rfl ?_
    refine am_lconst (v := 1) d_M_minimal_60 rfl ?_
    refine am_iload d_M_minimal_61 6 rfl ?_
    refine am_lshl d_M_minimal_63 ?_
    refine am_topl (fun v7 ev7 => ?_)
    have h := h v7 ev7
    refine am_lstore (l' := [(11, .long v7), (9, .long x6), (0, .ref (g.1 + 30)), (1, .int x1), (3, .long x3), (5, .int x5), (6, .long x6), (8, .int x8)]) d_M_minimal_64 (by decide) rfl ?_
    refine am_iconst (v := 0) d_M_minimal_66 rfl ?_
    refine am_istore (l' := [(13, .int (0 : Int32)), (11, .long v7), (9, .long x6), (0, .ref (g.1 + 30)), (1, .int x1), (3, .long x3), (5, .int x5), (6, .long x6), (8, .int x8)]) d_M_minimal_67 (by decide) rfl ?_
    refine am_sub [3, 4, 5, 6, 7, 8, 2, 1, 0] rfl ?_
    obtain ⟨n, h⟩ := h
    exact cf_M_minimal_L69_ok (by omega)   K47 P Q hQ hK47 n x1 x3 x5 x6 x8 x6 v7 (0 : Int32) w h
theorem cf_M_minimal_L47_ok {g : ayG} {d : Nat} (hd : 5 ≤ d)    (P : Int64 → Wd → Prop) (Q : Option Value → Wd → Prop) (hQ : ∀ x w2, P x w2 → Q (some (.long x)) w2)  : ∀ (n : Nat) (x1 : Int32) (x3 : Int64) (x5 : Int32) (x6 : Int64) (x8 : Int32) (w : Wd) (h : cf_M_minimal_L47 P n x1 x3 x5 x6 x8 w), wp g (fun _ => True) y_M_minimal prog_14_method_49_code 14 (some FieldType.long) d 47 [(0, .ref (g.1 + 30)), (1, .int x1), (3, .long x3), (5, .int x5), (6, .long x6), (8, .int x8)] [] w Q
  | 0, x1, x3, x5, x6, x8, w, h => False.elim h
  | n + 1, x1, x3, x5, x6, x8, w, h => cf_M_minimal_B47_ok hd   w (cf_M_minimal_L47 P n) P Q hQ (fun x1 x3 x5 x6 x8 w h => cf_M_minimal_L47_ok hd    P Q hQ  n x1 x3 x5 x6 x8 w h) x1 x3 x5 x6 x8 h
theorem cf_M_minimal_ok {g : ayG} {d : Nat} (hd : 5 ≤ d) (a0 : Int32) (a1 : Int32)  (w : Wd) (P : Int64 → Wd → Prop) (h : cf_M_minimal a0 a1 w P) : Call g y_M_minimal prog_14_method_49_code 14 (some FieldType.long) d [.ref (g.1 + 30), .int a0, .int a1] w (fun (r : Option Value) (w2 : Wd) => ∃ x, r = some (.long x) ∧ P x w2) := by
  unfold cf_M_minimal at h
  refine am_enter mi_M_minimal (Nat.le_of_ble_eq_true rfl) ?_
  have hQ : ∀ x w2, P x w2 → (fun (r : Option Value) (w2 : Wd) => ∃ x, r = some (.long x) ∧ P x w2) (some (.long x)) w2 := fun x w2 h => ⟨x, rfl, h⟩
  generalize (fun (r : Option Value) (w2 : Wd) => ∃ x, r = some (.long x) ∧ P x w2) = Q at hQ ⊢
  show wp g (fun _ => True) y_M_minimal prog_14_method_49_code 14 (some FieldType.long) d 0 [(0, .ref (g.1 + 30)), (1, .int a0), (2, .int a1)] [] w Q
  refine am_iload_n d_M_minimal_0 1 rfl ?_
  refine am_callS (d2 := d - 1) [.int a0] d_M_minimal_1 mi_M_isPlace wd_1188 wd_1189 (by omega) rfl rfl (Nat.le_of_ble_eq_true rfl) ?_
  refine Call.post ?_ (cf_M_isPlace_ok (by omega) a0  w _ h)
  rintro _ _ ⟨r1, rfl, rfl, h⟩
  show wp g (fun _ => True) y_M_minimal prog_14_method_49_code 14 (some FieldType.long) d 4 [(0, .ref (g.1 + 30)), (1, .int a0), (2, .int a1)] [.int r1] w Q
  refine am_if_eq (tgt := 14) d_M_minimal_4 (by decide) (fun c4 => ?_) (fun c4 => ?_)
  · have h := h.1 c4
    refine am_ldc2 (v := -1) d_M_minimal_14 wd_1076 ?_
    exact am_lreturn d_M_minimal_17 rfl (hQ (-1 : Int64) w h)
  · have h := h.2 c4
    refine am_iload_n d_M_minimal_7 2 rfl ?_
    refine am_callS (d2 := d - 1) [.int a1] d_M_minimal_8 mi_M_isPlace wd_1188 wd_1189 (by omega) rfl rfl (Nat.le_of_ble_eq_true rfl) ?_
    refine Call.post ?_ (cf_M_isPlace_ok (by omega) a1  w _ h)
    rintro _ _ ⟨r2, rfl, rfl, h⟩
    show wp g (fun _ => True) y_M_minimal prog_14_method_49_code 14 (some FieldType.long) d 11 [(0, .ref (g.1 + 30)), (1, .int a0), (2, .int a1)] [.int r2] w Q
    refine am_if_ne (tgt := 18) d_M_minimal_11 (by decide) (fun c11 => ?_) (fun c11 => ?_)
    · have h := h.1 c11
      refine am_aload_n d_M_minimal_18 0 rfl ?_
      refine am_iload_n d_M_minimal_19 1 rfl ?_
      refine am_iload_n d_M_minimal_20 2 rfl ?_
      refine am_callV (C := y_M_isIn.cls) (d2 := d - 1) [.int a0, .int a1] d_M_minimal_21 mi_M_isIn wd_1344 wd_1346 ws_M_isIn (by decide) (el_M (show ay_sh 30 = _ from rfl)) rfl rfl (by omega) rfl rfl (Nat.le_of_ble_eq_true rfl) ?_
      refine Call.post ?_ (cf_M_isIn_ok (by omega) a0 a1  w _ h)
      rintro _ w4 ⟨r3, rfl, h⟩
      show wp g (fun _ => True) y_M_minimal prog_14_method_49_code 14 (some FieldType.long) d 24 [(0, .ref (g.1 + 30)), (1, .int a0), (2, .int a1)] [.int r3] w4 Q
      refine am_if_ne (tgt := 31) d_M_minimal_24 (by decide) (fun c24 => ?_) (fun c24 => ?_)
      · have h := h.1 c24
        refine am_aload_n d_M_minimal_31 0 rfl ?_
        refine am_getf (T := F_M) (fs := ob_M g w4 30) (C := R_M) (N := 35) (ci := 10) 0 d_M_minimal_32 wd_1077 rfl (by decide) (el_M (show ay_sh 30 = _ from rfl)) rfl i_M (by decide) rfl ?_
        refine am_iload_n d_M_minimal_35 2 rfl ?_
        have hi36 := h.1
        have h := h.2
        refine am_laload d_M_minimal_36 (show ay_sh 31 = _ from rfl) hi36 ?_
        refine am_topl (fun v5 ev5 => ?_)
        have h := h v5 ev5
        refine am_lstore_n (l' := [(3, .long v5), (0, .ref (g.1 + 30)), (1, .int a0), (2, .int a1)]) d_M_minimal_37 (by decide) rfl ?_
        refine am_iconst (v := 0) d_M_minimal_38 rfl ?_
        refine am_istore (l' := [(5, .int (0 : Int32)), (3, .long v5), (0, .ref (g.1 + 30)), (1, .int a0), (2, .int a1)]) d_M_minimal_39 (by decide) rfl ?_
        refine am_lconst (v := 1) d_M_minimal_41 rfl ?_
        refine am_lstore (l' := [(6, .long (1 : Int64)), (5, .int (0 : Int32)), (3, .long v5), (0, .ref (g.1 + 30)), (1, .int a0), (2, .int a1)]) d_M_minimal_42 (by decide) rfl ?_
        refine am_iconst (v := 0) d_M_minimal_44 rfl ?_
        refine am_istore (l' := [(8, .int (0 : Int32)), (6, .long (1 : Int64)), (5, .int (0 : Int32)), (3, .long v5), (0, .ref (g.1 + 30)), (1, .int a0), (2, .int a1)]) d_M_minimal_45 (by decide) rfl ?_
        refine am_sub [4, 5, 3, 2, 1, 0] rfl ?_
        obtain ⟨n, h⟩ := h
        exact cf_M_minimal_L47_ok (by omega)    P Q hQ  n a0 v5 (0 : Int32) (1 : Int64) (0 : Int32) w4 h
      · have h := h.2 c24
        refine am_ldc2 (v := -2) d_M_minimal_27 wd_1267 ?_
        exact am_lreturn d_M_minimal_30 rfl (hQ (-2 : Int64) w4 h)
    · have h := h.2 c11
      refine am_ldc2 (v := -1) d_M_minimal_14 wd_1076 ?_
      exact am_lreturn d_M_minimal_17 rfl (hQ (-1 : Int64) w h)
theorem d_M_trace_0 : decode prog_14_method_50_code 0 = .ok (.iload_n 1, 1) := by decide +kernel
theorem d_M_trace_1 : decode prog_14_method_50_code 1 = .ok (.invokestatic 150, 3) := by decide +kernel
theorem d_M_trace_4 : decode prog_14_method_50_code 4 = .ok (.ifCond .eq 10, 3) := by decide +kernel
theorem d_M_trace_7 : decode prog_14_method_50_code 7 = .ok (.iload_n 2, 1) := by decide +kernel
theorem d_M_trace_8 : decode prog_14_method_50_code 8 = .ok (.invokestatic 150, 3) := by decide +kernel
theorem d_M_trace_11 : decode prog_14_method_50_code 11 = .ok (.ifCond .ne 5, 3) := by decide +kernel
theorem d_M_trace_14 : decode prog_14_method_50_code 14 = .ok (.iconst (-1), 1) := by decide +kernel
theorem d_M_trace_15 : decode prog_14_method_50_code 15 = .ok (.ireturn, 1) := by decide +kernel
theorem d_M_trace_16 : decode prog_14_method_50_code 16 = .ok (.aload_n 0, 1) := by decide +kernel
theorem d_M_trace_17 : decode prog_14_method_50_code 17 = .ok (.iload_n 1, 1) := by decide +kernel
theorem d_M_trace_18 : decode prog_14_method_50_code 18 = .ok (.iload_n 2, 1) := by decide +kernel
theorem d_M_trace_19 : decode prog_14_method_50_code 19 = .ok (.invokevirtual 200, 3) := by decide +kernel
theorem d_M_trace_22 : decode prog_14_method_50_code 22 = .ok (.ifCond .ne 6, 3) := by decide +kernel
theorem d_M_trace_25 : decode prog_14_method_50_code 25 = .ok (.bipush (-2), 2) := by decide +kernel
theorem d_M_trace_27 : decode prog_14_method_50_code 27 = .ok (.ireturn, 1) := by decide +kernel
theorem d_M_trace_28 : decode prog_14_method_50_code 28 = .ok (.aload_n 0, 1) := by decide +kernel
theorem d_M_trace_29 : decode prog_14_method_50_code 29 = .ok (.getfield 7, 3) := by decide +kernel
theorem d_M_trace_32 : decode prog_14_method_50_code 32 = .ok (.iload_n 2, 1) := by decide +kernel
theorem d_M_trace_33 : decode prog_14_method_50_code 33 = .ok (.laload, 1) := by decide +kernel
theorem d_M_trace_34 : decode prog_14_method_50_code 34 = .ok (.lstore_n 3, 1) := by decide +kernel
theorem d_M_trace_35 : decode prog_14_method_50_code 35 = .ok (.lconst 0, 1) := by decide +kernel
theorem d_M_trace_36 : decode prog_14_method_50_code 36 = .ok (.lstore 5, 2) := by decide +kernel
theorem d_M_trace_38 : decode prog_14_method_50_code 38 = .ok (.aload_n 0, 1) := by decide +kernel
theorem d_M_trace_39 : decode prog_14_method_50_code 39 = .ok (.getfield 7, 3) := by decide +kernel
theorem d_M_trace_42 : decode prog_14_method_50_code 42 = .ok (.iload_n 1, 1) := by decide +kernel
theorem d_M_trace_43 : decode prog_14_method_50_code 43 = .ok (.laload, 1) := by decide +kernel
theorem d_M_trace_44 : decode prog_14_method_50_code 44 = .ok (.lstore 7, 2) := by decide +kernel
theorem d_M_trace_46 : decode prog_14_method_50_code 46 = .ok (.iconst 0, 1) := by decide +kernel
theorem d_M_trace_47 : decode prog_14_method_50_code 47 = .ok (.istore 9, 2) := by decide +kernel
theorem d_M_trace_49 : decode prog_14_method_50_code 49 = .ok (.iload 9, 2) := by decide +kernel
theorem d_M_trace_51 : decode prog_14_method_50_code 51 = .ok (.lload_n 3, 1) := by decide +kernel
theorem d_M_trace_52 : decode prog_14_method_50_code 52 = .ok (.invokestatic 84, 3) := by decide +kernel
theorem d_M_trace_55 : decode prog_14_method_50_code 55 = .ok (.if_icmp .ge 26, 3) := by decide +kernel
theorem d_M_trace_58 : decode prog_14_method_50_code 58 = .ok (.lload 5, 2) := by decide +kernel
theorem d_M_trace_60 : decode prog_14_method_50_code 60 = .ok (.lload 7, 2) := by decide +kernel
theorem d_M_trace_62 : decode prog_14_method_50_code 62 = .ok (.lxor, 1) := by decide +kernel
theorem d_M_trace_63 : decode prog_14_method_50_code 63 = .ok (.lstore 5, 2) := by decide +kernel
theorem d_M_trace_65 : decode prog_14_method_50_code 65 = .ok (.lload 7, 2) := by decide +kernel
theorem d_M_trace_67 : decode prog_14_method_50_code 67 = .ok (.lload 7, 2) := by decide +kernel
theorem d_M_trace_69 : decode prog_14_method_50_code 69 = .ok (.lload_n 3, 1) := by decide +kernel
theorem d_M_trace_70 : decode prog_14_method_50_code 70 = .ok (.invokestatic 98, 3) := by decide +kernel
theorem d_M_trace_73 : decode prog_14_method_50_code 73 = .ok (.lstore 7, 2) := by decide +kernel
theorem d_M_trace_75 : decode prog_14_method_50_code 75 = .ok (.iinc 9 1, 3) := by decide +kernel
theorem d_M_trace_78 : decode prog_14_method_50_code 78 = .ok (.goto (-29), 3) := by decide +kernel
theorem d_M_trace_81 : decode prog_14_method_50_code 81 = .ok (.lload 5, 2) := by decide +kernel
theorem d_M_trace_83 : decode prog_14_method_50_code 83 = .ok (.l2i, 1) := by decide +kernel
theorem d_M_trace_84 : decode prog_14_method_50_code 84 = .ok (.ireturn, 1) := by decide +kernel
def cf_M_trace_B49  (K49 : Int64 → Int64 → Int64 → Int32 → Wd → Prop) (P : Int32 → Wd → Prop) (x3 : Int64) (x5 : Int64) (x7 : Int64) (x9 : Int32) (w : Wd) : Prop :=
  cf_M_degree x3 (fun r7 => ((r7 ≤ x9 → P x5.toInt32 w) ∧ (¬ r7 ≤ x9 → ∀ v8, v8 = x5 ^^^ x7 → cf_M_timesBy x7 x7 x3 (fun r9 => ∀ v10, v10 = x9 + (1 : Int32) → K49 x3 v8 r9 v10 w))))
def cf_M_trace_L49   (P : Int32 → Wd → Prop) : Nat → Int64 → Int64 → Int64 → Int32 → Wd → Prop
  | 0 => fun x3 x5 x7 x9 w => False
  | n + 1 => fun x3 x5 x7 x9 w => cf_M_trace_B49 (cf_M_trace_L49 P n) P x3 x5 x7 x9 w
def cf_M_trace (a0 : Int32) (a1 : Int32) (w : Wd) (P : Int32 → Wd → Prop) : Prop :=
  cf_M_isPlace a0 (fun r1 => ((r1 = 0 → P (-1 : Int32) w) ∧ (¬ r1 = 0 → cf_M_isPlace a1 (fun r2 => ((¬ r2 = 0 → cf_M_isIn a0 a1 w (fun r3 w4 => ((¬ r3 = 0 → vp_in a1 14 ∧ ∀ v5, v5 = w4.2 31 a1.toNatClampNeg → vp_in a0 14 ∧ ∀ v6, v6 = w4.2 31 a0.toNatClampNeg → ∃ n, cf_M_trace_L49 P n v5 (0 : Int64) v6 (0 : Int32) w4) ∧ (r3 = 0 → P (-2 : Int32) w4)))) ∧ (r2 = 0 → P (-1 : Int32) w))))))
theorem cf_M_trace_B49_ok {g : ayG} {d : Nat} (hd : 5 ≤ d)   (w : Wd) (K49 : Int64 → Int64 → Int64 → Int32 → Wd → Prop) (P : Int32 → Wd → Prop) (Q : Option Value → Wd → Prop) (hQ : ∀ x w2, P x w2 → Q (some (.int x)) w2) (hK49 : ∀ (x3 : Int64) (x5 : Int64) (x7 : Int64) (x9 : Int32) (w : Wd), (K49 x3 x5 x7 x9 w → wp g (fun _ => True) y_M_trace prog_14_method_50_code 10 (some FieldType.int) d 49 [(3, .long x3), (5, .long x5), (7, .long x7), (9, .int x9)] [] w Q)) (x3 : Int64) (x5 : Int64) (x7 : Int64) (x9 : Int32) (h : cf_M_trace_B49 K49 P x3 x5 x7 x9 w) : wp g (fun _ => True) y_M_trace prog_14_method_50_code 10 (some FieldType.int) d 49 [(3, .long x3), (5, .long x5), (7, .long x7), (9, .int x9)] [] w Q := by
  unfold cf_M_trace_B49 at h
  refine am_iload d_M_trace_49 3 rfl ?_
  refine am_lload_n d_M_trace_51 0 rfl ?_
  refine am_callS (d2 := d - 1) [.long x3] d_M_trace_52 mi_M_degree wd_1206 wd_1207 (by omega) rfl rfl (Nat.le_of_ble_eq_true rfl) ?_
  refine Call.post ?_ (cf_M_degree_ok (by omega) x3  w _ h)
  rintro _ _ ⟨r7, rfl, rfl, h⟩
  show wp g (fun _ => True) y_M_trace prog_14_method_50_code 10 (some FieldType.int) d 55 [(3, .long x3), (5, .long x5), (7, .long x7), (9, .int x9)] [.int r7, .int x9] w Q
  refine am_icmp_ge (tgt := 81) d_M_trace_55 (by decide) (fun c55 => ?_) (fun c55 => ?_)
  · have h := h.1 c55
    refine am_lload d_M_trace_81 1 rfl ?_
    refine am_l2i d_M_trace_83 ?_
    exact am_ireturn d_M_trace_84 rfl rfl (hQ x5.toInt32 w h)
  · have h := h.2 c55
    refine am_lload d_M_trace_58 1 rfl ?_
    refine am_lload d_M_trace_60 2 rfl ?_
    refine am_lxor d_M_trace_62 ?_
    refine am_topl (fun v8 ev8 => ?_)
    have h := h v8 ev8
    refine am_lstore (l' := [(5, .long v8), (3, .long x3), (7, .long x7), (9, .int x9)]) d_M_trace_63 (by decide) rfl ?_
    refine am_lload d_M_trace_65 2 rfl ?_
    refine am_lload d_M_trace_67 2 rfl ?_
    refine am_lload_n d_M_trace_69 1 rfl ?_
    refine am_callS (d2 := d - 1) [.long x7, .long x7, .long x3] d_M_trace_70 mi_M_timesBy wd_1253 wd_1254 (by omega) rfl rfl (Nat.le_of_ble_eq_true rfl) ?_
    refine Call.post ?_ (cf_M_timesBy_ok (by omega) x7 x7 x3  w _ h)
    rintro _ _ ⟨r9, rfl, rfl, h⟩
    show wp g (fun _ => True) y_M_trace prog_14_method_50_code 10 (some FieldType.int) d 73 [(5, .long v8), (3, .long x3), (7, .long x7), (9, .int x9)] [.long r9] w Q
    refine am_lstore (l' := [(7, .long r9), (5, .long v8), (3, .long x3), (9, .int x9)]) d_M_trace_73 (by decide) rfl ?_
    obtain ⟨v10, ev10⟩ : ∃ z : Int32, z = x9 + (1 : Int32) := ⟨_, rfl⟩
    have h := h v10 ev10
    refine am_iinc (v := v10) (l' := [(9, .int v10), (7, .long r9), (5, .long v8), (3, .long x3)]) d_M_trace_75 3 rfl (by rw [ev10]; rfl) (by decide) rfl ?_
    refine am_goto (tgt := 49) d_M_trace_78 (by decide) ?_
    refine am_sub [3, 2, 1, 0] rfl ?_
    exact hK49 x3 v8 r9 v10 w h
theorem cf_M_trace_L49_ok {g : ayG} {d : Nat} (hd : 5 ≤ d)    (P : Int32 → Wd → Prop) (Q : Option Value → Wd → Prop) (hQ : ∀ x w2, P x w2 → Q (some (.int x)) w2)  : ∀ (n : Nat) (x3 : Int64) (x5 : Int64) (x7 : Int64) (x9 : Int32) (w : Wd) (h : cf_M_trace_L49 P n x3 x5 x7 x9 w), wp g (fun _ => True) y_M_trace prog_14_method_50_code 10 (some FieldType.int) d 49 [(3, .long x3), (5, .long x5), (7, .long x7), (9, .int x9)] [] w Q
  | 0, x3, x5, x7, x9, w, h => False.elim h
  | n + 1, x3, x5, x7, x9, w, h => cf_M_trace_B49_ok hd   w (cf_M_trace_L49 P n) P Q hQ (fun x3 x5 x7 x9 w h => cf_M_trace_L49_ok hd    P Q hQ  n x3 x5 x7 x9 w h) x3 x5 x7 x9 h
theorem cf_M_trace_ok {g : ayG} {d : Nat} (hd : 5 ≤ d) (a0 : Int32) (a1 : Int32)  (w : Wd) (P : Int32 → Wd → Prop) (h : cf_M_trace a0 a1 w P) : Call g y_M_trace prog_14_method_50_code 10 (some FieldType.int) d [.ref (g.1 + 30), .int a0, .int a1] w (fun (r : Option Value) (w2 : Wd) => ∃ x, r = some (.int x) ∧ P x w2) := by
  unfold cf_M_trace at h
  refine am_enter mi_M_trace (Nat.le_of_ble_eq_true rfl) ?_
  have hQ : ∀ x w2, P x w2 → (fun (r : Option Value) (w2 : Wd) => ∃ x, r = some (.int x) ∧ P x w2) (some (.int x)) w2 := fun x w2 h => ⟨x, rfl, h⟩
  generalize (fun (r : Option Value) (w2 : Wd) => ∃ x, r = some (.int x) ∧ P x w2) = Q at hQ ⊢
  show wp g (fun _ => True) y_M_trace prog_14_method_50_code 10 (some FieldType.int) d 0 [(0, .ref (g.1 + 30)), (1, .int a0), (2, .int a1)] [] w Q
  refine am_iload_n d_M_trace_0 1 rfl ?_
  refine am_callS (d2 := d - 1) [.int a0] d_M_trace_1 mi_M_isPlace wd_1188 wd_1189 (by omega) rfl rfl (Nat.le_of_ble_eq_true rfl) ?_
  refine Call.post ?_ (cf_M_isPlace_ok (by omega) a0  w _ h)
  rintro _ _ ⟨r1, rfl, rfl, h⟩
  show wp g (fun _ => True) y_M_trace prog_14_method_50_code 10 (some FieldType.int) d 4 [(0, .ref (g.1 + 30)), (1, .int a0), (2, .int a1)] [.int r1] w Q
  refine am_if_eq (tgt := 14) d_M_trace_4 (by decide) (fun c4 => ?_) (fun c4 => ?_)
  · have h := h.1 c4
    refine am_iconst (v := -1) d_M_trace_14 rfl ?_
    exact am_ireturn d_M_trace_15 rfl rfl (hQ (-1 : Int32) w h)
  · have h := h.2 c4
    refine am_iload_n d_M_trace_7 2 rfl ?_
    refine am_callS (d2 := d - 1) [.int a1] d_M_trace_8 mi_M_isPlace wd_1188 wd_1189 (by omega) rfl rfl (Nat.le_of_ble_eq_true rfl) ?_
    refine Call.post ?_ (cf_M_isPlace_ok (by omega) a1  w _ h)
    rintro _ _ ⟨r2, rfl, rfl, h⟩
    show wp g (fun _ => True) y_M_trace prog_14_method_50_code 10 (some FieldType.int) d 11 [(0, .ref (g.1 + 30)), (1, .int a0), (2, .int a1)] [.int r2] w Q
    refine am_if_ne (tgt := 16) d_M_trace_11 (by decide) (fun c11 => ?_) (fun c11 => ?_)
    · have h := h.1 c11
      refine am_aload_n d_M_trace_16 0 rfl ?_
      refine am_iload_n d_M_trace_17 1 rfl ?_
      refine am_iload_n d_M_trace_18 2 rfl ?_
      refine am_callV (C := y_M_isIn.cls) (d2 := d - 1) [.int a0, .int a1] d_M_trace_19 mi_M_isIn wd_1344 wd_1346 ws_M_isIn (by decide) (el_M (show ay_sh 30 = _ from rfl)) rfl rfl (by omega) rfl rfl (Nat.le_of_ble_eq_true rfl) ?_
      refine Call.post ?_ (cf_M_isIn_ok (by omega) a0 a1  w _ h)
      rintro _ w4 ⟨r3, rfl, h⟩
      show wp g (fun _ => True) y_M_trace prog_14_method_50_code 10 (some FieldType.int) d 22 [(0, .ref (g.1 + 30)), (1, .int a0), (2, .int a1)] [.int r3] w4 Q
      refine am_if_ne (tgt := 28) d_M_trace_22 (by decide) (fun c22 => ?_) (fun c22 => ?_)
      · have h := h.1 c22
        refine am_aload_n d_M_trace_28 0 rfl ?_
        refine am_getf (T := F_M) (fs := ob_M g w4 30) (C := R_M) (N := 35) (ci := 10) 0 d_M_trace_29 wd_1077 rfl (by decide) (el_M (show ay_sh 30 = _ from rfl)) rfl i_M (by decide) rfl ?_
        refine am_iload_n d_M_trace_32 2 rfl ?_
        have hi33 := h.1
        have h := h.2
        refine am_laload d_M_trace_33 (show ay_sh 31 = _ from rfl) hi33 ?_
        refine am_topl (fun v5 ev5 => ?_)
        have h := h v5 ev5
        refine am_lstore_n (l' := [(3, .long v5), (0, .ref (g.1 + 30)), (1, .int a0), (2, .int a1)]) d_M_trace_34 (by decide) rfl ?_
        refine am_lconst (v := 0) d_M_trace_35 rfl ?_
        refine am_lstore (l' := [(5, .long (0 : Int64)), (3, .long v5), (0, .ref (g.1 + 30)), (1, .int a0), (2, .int a1)]) d_M_trace_36 (by decide) rfl ?_
        refine am_aload_n d_M_trace_38 2 rfl ?_
        refine am_getf (T := F_M) (fs := ob_M g w4 30) (C := R_M) (N := 35) (ci := 10) 0 d_M_trace_39 wd_1077 rfl (by decide) (el_M (show ay_sh 30 = _ from rfl)) rfl i_M (by decide) rfl ?_
        refine am_iload_n d_M_trace_42 3 rfl ?_
        have hi43 := h.1
        have h := h.2
        refine am_laload d_M_trace_43 (show ay_sh 31 = _ from rfl) hi43 ?_
        refine am_topl (fun v6 ev6 => ?_)
        have h := h v6 ev6
        refine am_lstore (l' := [(7, .long v6), (5, .long (0 : Int64)), (3, .long v5), (0, .ref (g.1 + 30)), (1, .int a0), (2, .int a1)]) d_M_trace_44 (by decide) rfl ?_
        refine am_iconst (v := 0) d_M_trace_46 rfl ?_
        refine am_istore (l' := [(9, .int (0 : Int32)), (7, .long v6), (5, .long (0 : Int64)), (3, .long v5), (0, .ref (g.1 + 30)), (1, .int a0), (2, .int a1)]) d_M_trace_47 (by decide) rfl ?_
        refine am_sub [3, 2, 1, 0] rfl ?_
        obtain ⟨n, h⟩ := h
        exact cf_M_trace_L49_ok (by omega)    P Q hQ  n v5 (0 : Int64) v6 (0 : Int32) w4 h
      · have h := h.2 c22
        refine am_bipush (v := -2) d_M_trace_25 rfl ?_
        exact am_ireturn d_M_trace_27 rfl rfl (hQ (-2 : Int32) w4 h)
    · have h := h.2 c11
      refine am_iconst (v := -1) d_M_trace_14 rfl ?_
      exact am_ireturn d_M_trace_15 rfl rfl (hQ (-1 : Int32) w h)
theorem d_M_conjugates_0 : decode prog_14_method_51_code 0 = .ok (.iload_n 1, 1) := by decide +kernel
theorem d_M_conjugates_1 : decode prog_14_method_51_code 1 = .ok (.invokestatic 150, 3) := by decide +kernel
theorem d_M_conjugates_4 : decode prog_14_method_51_code 4 = .ok (.ifCond .eq 10, 3) := by decide +kernel
theorem d_M_conjugates_7 : decode prog_14_method_51_code 7 = .ok (.iload_n 2, 1) := by decide +kernel
theorem d_M_conjugates_8 : decode prog_14_method_51_code 8 = .ok (.invokestatic 150, 3) := by decide +kernel
theorem d_M_conjugates_11 : decode prog_14_method_51_code 11 = .ok (.ifCond .ne 5, 3) := by decide +kernel
theorem d_M_conjugates_14 : decode prog_14_method_51_code 14 = .ok (.iconst (-1), 1) := by decide +kernel
theorem d_M_conjugates_15 : decode prog_14_method_51_code 15 = .ok (.ireturn, 1) := by decide +kernel
theorem d_M_conjugates_16 : decode prog_14_method_51_code 16 = .ok (.aload_n 0, 1) := by decide +kernel
theorem d_M_conjugates_17 : decode prog_14_method_51_code 17 = .ok (.iload_n 1, 1) := by decide +kernel
theorem d_M_conjugates_18 : decode prog_14_method_51_code 18 = .ok (.iload_n 2, 1) := by decide +kernel
theorem d_M_conjugates_19 : decode prog_14_method_51_code 19 = .ok (.invokevirtual 200, 3) := by decide +kernel
theorem d_M_conjugates_22 : decode prog_14_method_51_code 22 = .ok (.ifCond .ne 6, 3) := by decide +kernel
theorem d_M_conjugates_25 : decode prog_14_method_51_code 25 = .ok (.bipush (-2), 2) := by decide +kernel
theorem d_M_conjugates_27 : decode prog_14_method_51_code 27 = .ok (.ireturn, 1) := by decide +kernel
theorem d_M_conjugates_28 : decode prog_14_method_51_code 28 = .ok (.aload_n 0, 1) := by decide +kernel
theorem d_M_conjugates_29 : decode prog_14_method_51_code 29 = .ok (.getfield 7, 3) := by decide +kernel
theorem d_M_conjugates_32 : decode prog_14_method_51_code 32 = .ok (.iload_n 2, 1) := by decide +kernel
theorem d_M_conjugates_33 : decode prog_14_method_51_code 33 = .ok (.laload, 1) := by decide +kernel
theorem d_M_conjugates_34 : decode prog_14_method_51_code 34 = .ok (.lstore_n 3, 1) := by decide +kernel
theorem d_M_conjugates_35 : decode prog_14_method_51_code 35 = .ok (.iconst 1, 1) := by decide +kernel
theorem d_M_conjugates_36 : decode prog_14_method_51_code 36 = .ok (.istore 5, 2) := by decide +kernel
theorem d_M_conjugates_38 : decode prog_14_method_51_code 38 = .ok (.aload_n 0, 1) := by decide +kernel
theorem d_M_conjugates_39 : decode prog_14_method_51_code 39 = .ok (.getfield 7, 3) := by decide +kernel
theorem d_M_conjugates_42 : decode prog_14_method_51_code 42 = .ok (.iload_n 1, 1) := by decide +kernel
theorem d_M_conjugates_43 : decode prog_14_method_51_code 43 = .ok (.laload, 1) := by decide +kernel
theorem d_M_conjugates_44 : decode prog_14_method_51_code 44 = .ok (.aload_n 0, 1) := by decide +kernel
theorem d_M_conjugates_45 : decode prog_14_method_51_code 45 = .ok (.getfield 7, 3) := by decide +kernel
theorem d_M_conjugates_48 : decode prog_14_method_51_code 48 = .ok (.iload_n 1, 1) := by decide +kernel
theorem d_M_conjugates_49 : decode prog_14_method_51_code 49 = .ok (.laload, 1) := by decide +kernel
theorem d_M_conjugates_50 : decode prog_14_method_51_code 50 = .ok (.lload_n 3, 1) := by decide +kernel
theorem d_M_conjugates_51 : decode prog_14_method_51_code 51 = .ok (.invokestatic 98, 3) := by decide +kernel
theorem d_M_conjugates_54 : decode prog_14_method_51_code 54 = .ok (.lstore 6, 2) := by decide +kernel
theorem d_M_conjugates_56 : decode prog_14_method_51_code 56 = .ok (.lload 6, 2) := by decide +kernel
theorem d_M_conjugates_58 : decode prog_14_method_51_code 58 = .ok (.aload_n 0, 1) := by decide +kernel
theorem d_M_conjugates_59 : decode prog_14_method_51_code 59 = .ok (.getfield 7, 3) := by decide +kernel
theorem d_M_conjugates_62 : decode prog_14_method_51_code 62 = .ok (.iload_n 1, 1) := by decide +kernel
theorem d_M_conjugates_63 : decode prog_14_method_51_code 63 = .ok (.laload, 1) := by decide +kernel
theorem d_M_conjugates_64 : decode prog_14_method_51_code 64 = .ok (.lcmp, 1) := by decide +kernel
theorem d_M_conjugates_65 : decode prog_14_method_51_code 65 = .ok (.ifCond .eq 19, 3) := by decide +kernel
theorem d_M_conjugates_68 : decode prog_14_method_51_code 68 = .ok (.iinc 5 1, 3) := by decide +kernel
theorem d_M_conjugates_71 : decode prog_14_method_51_code 71 = .ok (.lload 6, 2) := by decide +kernel
theorem d_M_conjugates_73 : decode prog_14_method_51_code 73 = .ok (.lload 6, 2) := by decide +kernel
theorem d_M_conjugates_75 : decode prog_14_method_51_code 75 = .ok (.lload_n 3, 1) := by decide +kernel
theorem d_M_conjugates_76 : decode prog_14_method_51_code 76 = .ok (.invokestatic 98, 3) := by decide +kernel
theorem d_M_conjugates_79 : decode prog_14_method_51_code 79 = .ok (.lstore 6, 2) := by decide +kernel
theorem d_M_conjugates_81 : decode prog_14_method_51_code 81 = .ok (.goto (-25), 3) := by decide +kernel
theorem d_M_conjugates_84 : decode prog_14_method_51_code 84 = .ok (.iload 5, 2) := by decide +kernel
theorem d_M_conjugates_86 : decode prog_14_method_51_code 86 = .ok (.ireturn, 1) := by decide +kernel
def cf_M_conjugates_B56  (K56 : Int32 → Int64 → Int32 → Int64 → Wd → Prop) (P : Int32 → Wd → Prop) (x1 : Int32) (x3 : Int64) (x5 : Int32) (x6 : Int64) (w : Wd) : Prop :=
  vp_in x1 14 ∧ ((x6 = (w.2 31 x1.toNatClampNeg) → P x5 w) ∧ (¬ x6 = (w.2 31 x1.toNatClampNeg) → ∀ v7, v7 = x5 + (1 : Int32) → cf_M_timesBy x6 x6 x3 (fun r8 => K56 x1 x3 v7 r8 w)))
def cf_M_conjugates_L56   (P : Int32 → Wd → Prop) : Nat → Int32 → Int64 → Int32 → Int64 → Wd → Prop
  | 0 => fun x1 x3 x5 x6 w => False
  | n + 1 => fun x1 x3 x5 x6 w => cf_M_conjugates_B56 (cf_M_conjugates_L56 P n) P x1 x3 x5 x6 w
def cf_M_conjugates (a0 : Int32) (a1 : Int32) (w : Wd) (P : Int32 → Wd → Prop) : Prop :=
  cf_M_isPlace a0 (fun r1 => ((r1 = 0 → P (-1 : Int32) w) ∧ (¬ r1 = 0 → cf_M_isPlace a1 (fun r2 => ((¬ r2 = 0 → cf_M_isIn a0 a1 w (fun r3 w4 => ((¬ r3 = 0 → vp_in a1 14 ∧ ∀ v5, v5 = w4.2 31 a1.toNatClampNeg → vp_in a0 14 ∧ vp_in a0 14 ∧ cf_M_timesBy (w4.2 31 a0.toNatClampNeg) (w4.2 31 a0.toNatClampNeg) v5 (fun r6 => ∃ n, cf_M_conjugates_L56 P n a0 v5 (1 : Int32) r6 w4)) ∧ (r3 = 0 → P (-2 : Int32) w4)))) ∧ (r2 = 0 → P (-1 : Int32) w))))))
theorem cf_M_conjugates_B56_ok {g : ayG} {d : Nat} (hd : 5 ≤ d)   (w : Wd) (K56 : Int32 → Int64 → Int32 → Int64 → Wd → Prop) (P : Int32 → Wd → Prop) (Q : Option Value → Wd → Prop) (hQ : ∀ x w2, P x w2 → Q (some (.int x)) w2) (hK56 : ∀ (x1 : Int32) (x3 : Int64) (x5 : Int32) (x6 : Int64) (w : Wd), (K56 x1 x3 x5 x6 w → wp g (fun _ => True) y_M_conjugates prog_14_method_51_code 8 (some FieldType.int) d 56 [(0, .ref (g.1 + 30)), (1, .int x1), (3, .long x3), (5, .int x5), (6, .long x6)] [] w Q)) (x1 : Int32) (x3 : Int64) (x5 : Int32) (x6 : Int64) (h : cf_M_conjugates_B56 K56 P x1 x3 x5 x6 w) : wp g (fun _ => True) y_M_conjugates prog_14_method_51_code 8 (some FieldType.int) d 56 [(0, .ref (g.1 + 30)), (1, .int x1), (3, .long x3), (5, .int x5), (6, .long x6)] [] w Q := by
  unfold cf_M_conjugates_B56 at h
  refine am_lload d_M_conjugates_56 4 rfl ?_
  refine am_aload_n d_M_conjugates_58 0 rfl ?_
  refine am_getf (T := F_M) (fs := ob_M g w 30) (C := R_M) (N := 35) (ci := 10) 0 d_M_conjugates_59 wd_1077 rfl (by decide) (el_M (show ay_sh 30 = _ from rfl)) rfl i_M (by decide) rfl ?_
  refine am_iload_n d_M_conjugates_62 1 rfl ?_
  have hi63 := h.1
  have h := h.2
  refine am_laload d_M_conjugates_63 (show ay_sh 31 = _ from rfl) hi63 ?_
  refine am_lif_eq (tgt := 84) d_M_conjugates_64 d_M_conjugates_65 (by decide) (fun c64 => ?_) (fun c64 => ?_)
  · have h := h.1 c64
    refine am_iload d_M_conjugates_84 3 rfl ?_
    exact am_ireturn d_M_conjugates_86 rfl rfl (hQ x5 w h)
  · have h := h.2 c64
    obtain ⟨v7, ev7⟩ : ∃ z : Int32, z = x5 + (1 : Int32) := ⟨_, rfl⟩
    have h := h v7 ev7
    refine am_iinc (v := v7) (l' := [(5, .int v7), (0, .ref (g.1 + 30)), (1, .int x1), (3, .long x3), (6, .long x6)]) d_M_conjugates_68 3 rfl (by rw [ev7]; rfl) (by decide) rfl ?_
    refine am_lload d_M_conjugates_71 4 rfl ?_
    refine am_lload d_M_conjugates_73 4 rfl ?_
    refine am_lload_n d_M_conjugates_75 3 rfl ?_
    refine am_callS (d2 := d - 1) [.long x6, .long x6, .long x3] d_M_conjugates_76 mi_M_timesBy wd_1253 wd_1254 (by omega) rfl rfl (Nat.le_of_ble_eq_true rfl) ?_
    refine Call.post ?_ (cf_M_timesBy_ok (by omega) x6 x6 x3  w _ h)
    rintro _ _ ⟨r8, rfl, rfl, h⟩
    show wp g (fun _ => True) y_M_conjugates prog_14_method_51_code 8 (some FieldType.int) d 79 [(5, .int v7), (0, .ref (g.1 + 30)), (1, .int x1), (3, .long x3), (6, .long x6)] [.long r8] w Q
    refine am_lstore (l' := [(6, .long r8), (5, .int v7), (0, .ref (g.1 + 30)), (1, .int x1), (3, .long x3)]) d_M_conjugates_79 (by decide) rfl ?_
    refine am_goto (tgt := 56) d_M_conjugates_81 (by decide) ?_
    refine am_sub [2, 3, 4, 1, 0] rfl ?_
    exact hK56 x1 x3 v7 r8 w h
theorem cf_M_conjugates_L56_ok {g : ayG} {d : Nat} (hd : 5 ≤ d)    (P : Int32 → Wd → Prop) (Q : Option Value → Wd → Prop) (hQ : ∀ x w2, P x w2 → Q (some (.int x)) w2)  : ∀ (n : Nat) (x1 : Int32) (x3 : Int64) (x5 : Int32) (x6 : Int64) (w : Wd) (h : cf_M_conjugates_L56 P n x1 x3 x5 x6 w), wp g (fun _ => True) y_M_conjugates prog_14_method_51_code 8 (some FieldType.int) d 56 [(0, .ref (g.1 + 30)), (1, .int x1), (3, .long x3), (5, .int x5), (6, .long x6)] [] w Q
  | 0, x1, x3, x5, x6, w, h => False.elim h
  | n + 1, x1, x3, x5, x6, w, h => cf_M_conjugates_B56_ok hd   w (cf_M_conjugates_L56 P n) P Q hQ (fun x1 x3 x5 x6 w h => cf_M_conjugates_L56_ok hd    P Q hQ  n x1 x3 x5 x6 w h) x1 x3 x5 x6 h
theorem cf_M_conjugates_ok {g : ayG} {d : Nat} (hd : 5 ≤ d) (a0 : Int32) (a1 : Int32)  (w : Wd) (P : Int32 → Wd → Prop) (h : cf_M_conjugates a0 a1 w P) : Call g y_M_conjugates prog_14_method_51_code 8 (some FieldType.int) d [.ref (g.1 + 30), .int a0, .int a1] w (fun (r : Option Value) (w2 : Wd) => ∃ x, r = some (.int x) ∧ P x w2) := by
  unfold cf_M_conjugates at h
  refine am_enter mi_M_conjugates (Nat.le_of_ble_eq_true rfl) ?_
  have hQ : ∀ x w2, P x w2 → (fun (r : Option Value) (w2 : Wd) => ∃ x, r = some (.int x) ∧ P x w2) (some (.int x)) w2 := fun x w2 h => ⟨x, rfl, h⟩
  generalize (fun (r : Option Value) (w2 : Wd) => ∃ x, r = some (.int x) ∧ P x w2) = Q at hQ ⊢
  show wp g (fun _ => True) y_M_conjugates prog_14_method_51_code 8 (some FieldType.int) d 0 [(0, .ref (g.1 + 30)), (1, .int a0), (2, .int a1)] [] w Q
  refine am_iload_n d_M_conjugates_0 1 rfl ?_
  refine am_callS (d2 := d - 1) [.int a0] d_M_conjugates_1 mi_M_isPlace wd_1188 wd_1189 (by omega) rfl rfl (Nat.le_of_ble_eq_true rfl) ?_
  refine Call.post ?_ (cf_M_isPlace_ok (by omega) a0  w _ h)
  rintro _ _ ⟨r1, rfl, rfl, h⟩
  show wp g (fun _ => True) y_M_conjugates prog_14_method_51_code 8 (some FieldType.int) d 4 [(0, .ref (g.1 + 30)), (1, .int a0), (2, .int a1)] [.int r1] w Q
  refine am_if_eq (tgt := 14) d_M_conjugates_4 (by decide) (fun c4 => ?_) (fun c4 => ?_)
  · have h := h.1 c4
    refine am_iconst (v := -1) d_M_conjugates_14 rfl ?_
    exact am_ireturn d_M_conjugates_15 rfl rfl (hQ (-1 : Int32) w h)
  · have h := h.2 c4
    refine am_iload_n d_M_conjugates_7 2 rfl ?_
    refine am_callS (d2 := d - 1) [.int a1] d_M_conjugates_8 mi_M_isPlace wd_1188 wd_1189 (by omega) rfl rfl (Nat.le_of_ble_eq_true rfl) ?_
    refine Call.post ?_ (cf_M_isPlace_ok (by omega) a1  w _ h)
    rintro _ _ ⟨r2, rfl, rfl, h⟩
    show wp g (fun _ => True) y_M_conjugates prog_14_method_51_code 8 (some FieldType.int) d 11 [(0, .ref (g.1 + 30)), (1, .int a0), (2, .int a1)] [.int r2] w Q
    refine am_if_ne (tgt := 16) d_M_conjugates_11 (by decide) (fun c11 => ?_) (fun c11 => ?_)
    · have h := h.1 c11
      refine am_aload_n d_M_conjugates_16 0 rfl ?_
      refine am_iload_n d_M_conjugates_17 1 rfl ?_
      refine am_iload_n d_M_conjugates_18 2 rfl ?_
      refine am_callV (C := y_M_isIn.cls) (d2 := d - 1) [.int a0, .int a1] d_M_conjugates_19 mi_M_isIn wd_1344 wd_1346 ws_M_isIn (by decide) (el_M (show ay_sh 30 = _ from rfl)) rfl rfl (by omega) rfl rfl (Nat.le_of_ble_eq_true rfl) ?_
      refine Call.post ?_ (cf_M_isIn_ok (by omega) a0 a1  w _ h)
      rintro _ w4 ⟨r3, rfl, h⟩
      show wp g (fun _ => True) y_M_conjugates prog_14_method_51_code 8 (some FieldType.int) d 22 [(0, .ref (g.1 + 30)), (1, .int a0), (2, .int a1)] [.int r3] w4 Q
      refine am_if_ne (tgt := 28) d_M_conjugates_22 (by decide) (fun c22 => ?_) (fun c22 => ?_)
      · have h := h.1 c22
        refine am_aload_n d_M_conjugates_28 0 rfl ?_
        refine am_getf (T := F_M) (fs := ob_M g w4 30) (C := R_M) (N := 35) (ci := 10) 0 d_M_conjugates_29 wd_1077 rfl (by decide) (el_M (show ay_sh 30 = _ from rfl)) rfl i_M (by decide) rfl ?_
        refine am_iload_n d_M_conjugates_32 2 rfl ?_
        have hi33 := h.1
        have h := h.2
        refine am_laload d_M_conjugates_33 (show ay_sh 31 = _ from rfl) hi33 ?_
        refine am_topl (fun v5 ev5 => ?_)
        have h := h v5 ev5
        refine am_lstore_n (l' := [(3, .long v5), (0, .ref (g.1 + 30)), (1, .int a0), (2, .int a1)]) d_M_conjugates_34 (by decide) rfl ?_
        refine am_iconst (v := 1) d_M_conjugates_35 rfl ?_
        refine am_istore (l' := [(5, .int (1 : Int32)), (3, .long v5), (0, .ref (g.1 + 30)), (1, .int a0), (2, .int a1)]) d_M_conjugates_36 (by decide) rfl ?_
        refine am_aload_n d_M_conjugates_38 2 rfl ?_
        refine am_getf (T := F_M) (fs := ob_M g w4 30) (C := R_M) (N := 35) (ci := 10) 0 d_M_conjugates_39 wd_1077 rfl (by decide) (el_M (show ay_sh 30 = _ from rfl)) rfl i_M (by decide) rfl ?_
        refine am_iload_n d_M_conjugates_42 3 rfl ?_
        have hi43 := h.1
        have h := h.2
        refine am_laload d_M_conjugates_43 (show ay_sh 31 = _ from rfl) hi43 ?_
        refine am_aload_n d_M_conjugates_44 2 rfl ?_
        refine am_getf (T := F_M) (fs := ob_M g w4 30) (C := R_M) (N := 35) (ci := 10) 0 d_M_conjugates_45 wd_1077 rfl (by decide) (el_M (show ay_sh 30 = _ from rfl)) rfl i_M (by decide) rfl ?_
        refine am_iload_n d_M_conjugates_48 3 rfl ?_
        have hi49 := h.1
        have h := h.2
        refine am_laload d_M_conjugates_49 (show ay_sh 31 = _ from rfl) hi49 ?_
        refine am_lload_n d_M_conjugates_50 1 rfl ?_
        refine am_callS (d2 := d - 1) [.long (w4.2 31 a0.toNatClampNeg), .long (w4.2 31 a0.toNatClampNeg), .long v5] d_M_conjugates_51 mi_M_timesBy wd_1253 wd_1254 (by omega) rfl rfl (Nat.le_of_ble_eq_true rfl) ?_
        refine Call.post ?_ (cf_M_timesBy_ok (by omega) (w4.2 31 a0.toNatClampNeg) (w4.2 31 a0.toNatClampNeg) v5  w4 _ h)
        rintro _ _ ⟨r6, rfl, rfl, h⟩
        show wp g (fun _ => True) y_M_conjugates prog_14_method_51_code 8 (some FieldType.int) d 54 [(5, .int (1 : Int32)), (3, .long v5), (0, .ref (g.1 + 30)), (1, .int a0), (2, .int a1)] [.long r6] w4 Q
        refine am_lstore (l' := [(6, .long r6), (5, .int (1 : Int32)), (3, .long v5), (0, .ref (g.1 + 30)), (1, .int a0), (2, .int a1)]) d_M_conjugates_54 (by decide) rfl ?_
        refine am_sub [3, 4, 2, 1, 0] rfl ?_
        obtain ⟨n, h⟩ := h
        exact cf_M_conjugates_L56_ok (by omega)    P Q hQ  n a0 v5 (1 : Int32) r6 w4 h
      · have h := h.2 c22
        refine am_bipush (v := -2) d_M_conjugates_25 rfl ?_
        exact am_ireturn d_M_conjugates_27 rfl rfl (hQ (-2 : Int32) w4 h)
    · have h := h.2 c11
      refine am_iconst (v := -1) d_M_conjugates_14 rfl ?_
      exact am_ireturn d_M_conjugates_15 rfl rfl (hQ (-1 : Int32) w h)
theorem d_M_log_0 : decode prog_14_method_52_code 0 = .ok (.iload_n 1, 1) := by decide +kernel
theorem d_M_log_1 : decode prog_14_method_52_code 1 = .ok (.invokestatic 150, 3) := by decide +kernel
theorem d_M_log_4 : decode prog_14_method_52_code 4 = .ok (.ifCond .eq 17, 3) := by decide +kernel
theorem d_M_log_7 : decode prog_14_method_52_code 7 = .ok (.iload_n 2, 1) := by decide +kernel
theorem d_M_log_8 : decode prog_14_method_52_code 8 = .ok (.invokestatic 150, 3) := by decide +kernel
theorem d_M_log_11 : decode prog_14_method_52_code 11 = .ok (.ifCond .eq 10, 3) := by decide +kernel
theorem d_M_log_14 : decode prog_14_method_52_code 14 = .ok (.iload_n 3, 1) := by decide +kernel
theorem d_M_log_15 : decode prog_14_method_52_code 15 = .ok (.invokestatic 150, 3) := by decide +kernel
theorem d_M_log_18 : decode prog_14_method_52_code 18 = .ok (.ifCond .ne 7, 3) := by decide +kernel
theorem d_M_log_21 : decode prog_14_method_52_code 21 = .ok (.ldc2_w 26, 3) := by decide +kernel
theorem d_M_log_24 : decode prog_14_method_52_code 24 = .ok (.lreturn, 1) := by decide +kernel
theorem d_M_log_25 : decode prog_14_method_52_code 25 = .ok (.aload_n 0, 1) := by decide +kernel
theorem d_M_log_26 : decode prog_14_method_52_code 26 = .ok (.iload_n 1, 1) := by decide +kernel
theorem d_M_log_27 : decode prog_14_method_52_code 27 = .ok (.iload_n 3, 1) := by decide +kernel
theorem d_M_log_28 : decode prog_14_method_52_code 28 = .ok (.invokevirtual 200, 3) := by decide +kernel
theorem d_M_log_31 : decode prog_14_method_52_code 31 = .ok (.ifCond .eq 26, 3) := by decide +kernel
theorem d_M_log_34 : decode prog_14_method_52_code 34 = .ok (.aload_n 0, 1) := by decide +kernel
theorem d_M_log_35 : decode prog_14_method_52_code 35 = .ok (.iload_n 2, 1) := by decide +kernel
theorem d_M_log_36 : decode prog_14_method_52_code 36 = .ok (.iload_n 3, 1) := by decide +kernel
theorem d_M_log_37 : decode prog_14_method_52_code 37 = .ok (.invokevirtual 200, 3) := by decide +kernel
theorem d_M_log_40 : decode prog_14_method_52_code 40 = .ok (.ifCond .eq 17, 3) := by decide +kernel
theorem d_M_log_43 : decode prog_14_method_52_code 43 = .ok (.aload_n 0, 1) := by decide +kernel
theorem d_M_log_44 : decode prog_14_method_52_code 44 = .ok (.getfield 7, 3) := by decide +kernel
theorem d_M_log_47 : decode prog_14_method_52_code 47 = .ok (.iload_n 3, 1) := by decide +kernel
theorem d_M_log_48 : decode prog_14_method_52_code 48 = .ok (.laload, 1) := by decide +kernel
theorem d_M_log_49 : decode prog_14_method_52_code 49 = .ok (.invokestatic 84, 3) := by decide +kernel
theorem d_M_log_52 : decode prog_14_method_52_code 52 = .ok (.bipush 16, 2) := by decide +kernel
theorem d_M_log_54 : decode prog_14_method_52_code 54 = .ok (.if_icmp .le 7, 3) := by decide +kernel
theorem d_M_log_57 : decode prog_14_method_52_code 57 = .ok (.ldc2_w 162, 3) := by decide +kernel
theorem d_M_log_60 : decode prog_14_method_52_code 60 = .ok (.lreturn, 1) := by decide +kernel
theorem d_M_log_61 : decode prog_14_method_52_code 61 = .ok (.aload_n 0, 1) := by decide +kernel
theorem d_M_log_62 : decode prog_14_method_52_code 62 = .ok (.getfield 7, 3) := by decide +kernel
theorem d_M_log_65 : decode prog_14_method_52_code 65 = .ok (.iload_n 3, 1) := by decide +kernel
theorem d_M_log_66 : decode prog_14_method_52_code 66 = .ok (.laload, 1) := by decide +kernel
theorem d_M_log_67 : decode prog_14_method_52_code 67 = .ok (.lstore 4, 2) := by decide +kernel
theorem d_M_log_69 : decode prog_14_method_52_code 69 = .ok (.lconst 1, 1) := by decide +kernel
theorem d_M_log_70 : decode prog_14_method_52_code 70 = .ok (.lstore 6, 2) := by decide +kernel
theorem d_M_log_72 : decode prog_14_method_52_code 72 = .ok (.iconst 0, 1) := by decide +kernel
theorem d_M_log_73 : decode prog_14_method_52_code 73 = .ok (.istore 8, 2) := by decide +kernel
theorem d_M_log_75 : decode prog_14_method_52_code 75 = .ok (.iload 8, 2) := by decide +kernel
theorem d_M_log_77 : decode prog_14_method_52_code 77 = .ok (.iconst 1, 1) := by decide +kernel
theorem d_M_log_78 : decode prog_14_method_52_code 78 = .ok (.lload 4, 2) := by decide +kernel
theorem d_M_log_80 : decode prog_14_method_52_code 80 = .ok (.invokestatic 84, 3) := by decide +kernel
theorem d_M_log_83 : decode prog_14_method_52_code 83 = .ok (.ishl, 1) := by decide +kernel
theorem d_M_log_84 : decode prog_14_method_52_code 84 = .ok (.if_icmp .gt 40, 3) := by decide +kernel
theorem d_M_log_87 : decode prog_14_method_52_code 87 = .ok (.lload 6, 2) := by decide +kernel
theorem d_M_log_89 : decode prog_14_method_52_code 89 = .ok (.aload_n 0, 1) := by decide +kernel
theorem d_M_log_90 : decode prog_14_method_52_code 90 = .ok (.getfield 7, 3) := by decide +kernel
theorem d_M_log_93 : decode prog_14_method_52_code 93 = .ok (.iload_n 1, 1) := by decide +kernel
theorem d_M_log_94 : decode prog_14_method_52_code 94 = .ok (.laload, 1) := by decide +kernel
theorem d_M_log_95 : decode prog_14_method_52_code 95 = .ok (.lcmp, 1) := by decide +kernel
theorem d_M_log_96 : decode prog_14_method_52_code 96 = .ok (.ifCond .ne 7, 3) := by decide +kernel
theorem d_M_log_99 : decode prog_14_method_52_code 99 = .ok (.iload 8, 2) := by decide +kernel
theorem d_M_log_101 : decode prog_14_method_52_code 101 = .ok (.i2l, 1) := by decide +kernel
theorem d_M_log_102 : decode prog_14_method_52_code 102 = .ok (.lreturn, 1) := by decide +kernel
theorem d_M_log_103 : decode prog_14_method_52_code 103 = .ok (.lload 6, 2) := by decide +kernel
theorem d_M_log_105 : decode prog_14_method_52_code 105 = .ok (.aload_n 0, 1) := by decide +kernel
theorem d_M_log_106 : decode prog_14_method_52_code 106 = .ok (.getfield 7, 3) := by decide +kernel
theorem d_M_log_109 : decode prog_14_method_52_code 109 = .ok (.iload_n 2, 1) := by decide +kernel
theorem d_M_log_110 : decode prog_14_method_52_code 110 = .ok (.laload, 1) := by decide +kernel
theorem d_M_log_111 : decode prog_14_method_52_code 111 = .ok (.lload 4, 2) := by decide +kernel
theorem d_M_log_113 : decode prog_14_method_52_code 113 = .ok (.invokestatic 98, 3) := by decide +kernel
theorem d_M_log_116 : decode prog_14_method_52_code 116 = .ok (.lstore 6, 2) := by decide +kernel
theorem d_M_log_118 : decode prog_14_method_52_code 118 = .ok (.iinc 8 1, 3) := by decide +kernel
theorem d_M_log_121 : decode prog_14_method_52_code 121 = .ok (.goto (-46), 3) := by decide +kernel
theorem d_M_log_124 : decode prog_14_method_52_code 124 = .ok (.ldc2_w 204, 3) := by decide +kernel
theorem d_M_log_127 : decode prog_14_method_52_code 127 = .ok (.lreturn, 1) := by decide +kernel
def cf_M_log_B75  (K75 : Int32 → Int32 → Int64 → Int64 → Int32 → Wd → Prop) (P : Int64 → Wd → Prop) (x1 : Int32) (x2 : Int32) (x4 : Int64) (x6 : Int64) (x8 : Int32) (w : Wd) : Prop :=
  cf_M_degree x4 (fun r10 => (((ishl (1 : Int32) r10) < x8 → P (-3 : Int64) w) ∧ (¬ (ishl (1 : Int32) r10) < x8 → vp_in x1 14 ∧ ((¬ x6 = (w.2 31 x1.toNatClampNeg) → vp_in x2 14 ∧ cf_M_timesBy x6 (w.2 31 x2.toNatClampNeg) x4 (fun r11 => ∀ v12, v12 = x8 + (1 : Int32) → K75 x1 x2 x4 r11 v12 w)) ∧ (x6 = (w.2 31 x1.toNatClampNeg) → P x8.toInt64 w)))))
def cf_M_log_L75   (P : Int64 → Wd → Prop) : Nat → Int32 → Int32 → Int64 → Int64 → Int32 → Wd → Prop
  | 0 => fun x1 x2 x4 x6 x8 w => False
  | n + 1 => fun x1 x2 x4 x6 x8 w => cf_M_log_B75 (cf_M_log_L75 P n) P x1 x2 x4 x6 x8 w
def cf_M_log (a0 : Int32) (a1 : Int32) (a2 : Int32) (w : Wd) (P : Int64 → Wd → Prop) : Prop :=
  cf_M_isPlace a0 (fun r1 => ((r1 = 0 → P (-1 : Int64) w) ∧ (¬ r1 = 0 → cf_M_isPlace a1 (fun r2 => ((r2 = 0 → P (-1 : Int64) w) ∧ (¬ r2 = 0 → cf_M_isPlace a2 (fun r3 => ((¬ r3 = 0 → cf_M_isIn a0 a2 w (fun r4 w5 => ((r4 = 0 → P (-2 : Int64) w5) ∧ (¬ r4 = 0 → cf_M_isIn a1 a2 w5 (fun r6 w7 => ((r6 = 0 → P (-2 : Int64) w7) ∧ (¬ r6 = 0 → vp_in a2 14 ∧ cf_M_degree (w7.2 31 a2.toNatClampNeg) (fun r8 => ((r8 ≤ (16 : Int32) → vp_in a2 14 ∧ ∀ v9, v9 = w7.2 31 a2.toNatClampNeg → ∃ n, cf_M_log_L75 P n a0 a1 v9 (1 : Int64) (0 : Int32) w7) ∧ (¬ r8 ≤ (16 : Int32) → P (-2 : Int64) w7)))))))))) ∧ (r3 = 0 → P (-1 : Int64) w)))))))))
theorem cf_M_log_B75_ok {g : ayG} {d : Nat} (hd : 5 ≤ d)   (w : Wd) (K75 : Int32 → Int32 → Int64 → Int64 → Int32 → Wd → Prop) (P : Int64 → Wd → Prop) (Q : Option Value → Wd → Prop) (hQ : ∀ x w2, P x w2 → Q (some (.long x)) w2) (hK75 : ∀ (x1 : Int32) (x2 : Int32) (x4 : Int64) (x6 : Int64) (x8 : Int32) (w : Wd), (K75 x1 x2 x4 x6 x8 w → wp g (fun _ => True) y_M_log prog_14_method_52_code 9 (some FieldType.long) d 75 [(0, .ref (g.1 + 30)), (1, .int x1), (2, .int x2), (4, .long x4), (6, .long x6), (8, .int x8)] [] w Q)) (x1 : Int32) (x2 : Int32) (x4 : Int64) (x6 : Int64) (x8 : Int32) (h : cf_M_log_B75 K75 P x1 x2 x4 x6 x8 w) : wp g (fun _ => True) y_M_log prog_14_method_52_code 9 (some FieldType.long) d 75 [(0, .ref (g.1 + 30)), (1, .int x1), (2, .int x2), (4, .long x4), (6, .long x6), (8, .int x8)] [] w Q := by
  unfold cf_M_log_B75 at h
  refine am_iload d_M_log_75 5 rfl ?_
  refine am_iconst (v := 1) d_M_log_77 rfl ?_
  refine am_lload d_M_log_78 3 rfl ?_
  refine am_callS (d2 := d - 1) [.long x4] d_M_log_80 mi_M_degree wd_1206 wd_1207 (by omega) rfl rfl (Nat.le_of_ble_eq_true rfl) ?_
  refine Call.post ?_ (cf_M_degree_ok (by omega) x4  w _ h)
  rintro _ _ ⟨r10, rfl, rfl, h⟩
  show wp g (fun _ => True) y_M_log prog_14_method_52_code 9 (some FieldType.long) d 83 [(0, .ref (g.1 + 30)), (1, .int x1), (2, .int x2), (4, .long x4), (6, .long x6), (8, .int x8)] [.int r10, .int (1 : Int32), .int x8] w Q
  refine am_ishl d_M_log_83 ?_
  refine am_icmp_gt (tgt := 124) d_M_log_84 (by decide) (fun c84 => ?_) (fun c84 => ?_)
  · have h := h.1 c84
    refine am_ldc2 (v := -3) d_M_log_124 wd_1360 ?_
    exact am_lreturn d_M_log_127 rfl (hQ (-3 : Int64) w h)
  · have h := h.2 c84
    refine am_lload d_M_log_87 4 rfl ?_
    refine am_aload_n d_M_log_89 0 rfl ?_
    refine am_getf (T := F_M) (fs := ob_M g w 30) (C := R_M) (N := 35) (ci := 10) 0 d_M_log_90 wd_1077 rfl (by decide) (el_M (show ay_sh 30 = _ from rfl)) rfl i_M (by decide) rfl ?_
    refine am_iload_n d_M_log_93 1 rfl ?_
    have hi94 := h.1
    have h := h.2
    refine am_laload d_M_log_94 (show ay_sh 31 = _ from rfl) hi94 ?_
    refine am_lif_ne (tgt := 103) d_M_log_95 d_M_log_96 (by decide) (fun c95 => ?_) (fun c95 => ?_)
    · have h := h.1 c95
      refine am_lload d_M_log_103 4 rfl ?_
      refine am_aload_n d_M_log_105 0 rfl ?_
      refine am_getf (T := F_M) (fs := ob_M g w 30) (C := R_M) (N := 35) (ci := 10) 0 d_M_log_106 wd_1077 rfl (by decide) (el_M (show ay_sh 30 = _ from rfl)) rfl i_M (by decide) rfl ?_
      refine am_iload_n d_M_log_109 2 rfl ?_
      have hi110 := h.1
      have h := h.2
      refine am_laload d_M_log_110 (show ay_sh 31 = _ from rfl) hi110 ?_
      refine am_lload d_M_log_111 3 rfl ?_
      refine am_callS (d2 := d - 1) [.long x6, .long (w.2 31 x2.toNatClampNeg), .long x4] d_M_log_113 mi_M_timesBy wd_1253 wd_1254 (by omega) rfl rfl (Nat.le_of_ble_eq_true rfl) ?_
      refine Call.post ?_ (cf_M_timesBy_ok (by omega) x6 (w.2 31 x2.toNatClampNeg) x4  w _ h)
      rintro _ _ ⟨r11, rfl, rfl, h⟩
      show wp g (fun _ => True) y_M_log prog_14_method_52_code 9 (some FieldType.long) d 116 [(0, .ref (g.1 + 30)), (1, .int x1), (2, .int x2), (4, .long x4), (6, .long x6), (8, .int x8)] [.long r11] w Q
      refine am_lstore (l' := [(6, .long r11), (0, .ref (g.1 + 30)), (1, .int x1), (2, .int x2), (4, .long x4), (8, .int x8)]) d_M_log_116 (by decide) rfl ?_
      obtain ⟨v12, ev12⟩ : ∃ z : Int32, z = x8 + (1 : Int32) := ⟨_, rfl⟩
      have h := h v12 ev12
      refine am_iinc (v := v12) (l' := [(8, .int v12), (6, .long r11), (0, .ref (g.1 + 30)), (1, .int x1), (2, .int x2), (4, .long x4)]) d_M_log_118 5 rfl (by rw [ev12]; rfl) (by decide) rfl ?_
      refine am_goto (tgt := 75) d_M_log_121 (by decide) ?_
      refine am_sub [2, 3, 4, 5, 1, 0] rfl ?_
      exact hK75 x1 x2 x4 r11 v12 w h
    · have h := h.2 c95
      refine am_iload d_M_log_99 5 rfl ?_
      refine am_i2l d_M_log_101 ?_
      exact am_lreturn d_M_log_102 rfl (hQ x8.toInt64 w h)
theorem cf_M_log_L75_ok {g : ayG} {d : Nat} (hd : 5 ≤ d)    (P : Int64 → Wd → Prop) (Q : Option Value → Wd → Prop) (hQ : ∀ x w2, P x w2 → Q (some (.long x)) w2)  : ∀ (n : Nat) (x1 : Int32) (x2 : Int32) (x4 : Int64) (x6 : Int64) (x8 : Int32) (w : Wd) (h : cf_M_log_L75 P n x1 x2 x4 x6 x8 w), wp g (fun _ => True) y_M_log prog_14_method_52_code 9 (some FieldType.long) d 75 [(0, .ref (g.1 + 30)), (1, .int x1), (2, .int x2), (4, .long x4), (6, .long x6), (8, .int x8)] [] w Q
  | 0, x1, x2, x4, x6, x8, w, h => False.elim h
  | n + 1, x1, x2, x4, x6, x8, w, h => cf_M_log_B75_ok hd   w (cf_M_log_L75 P n) P Q hQ (fun x1 x2 x4 x6 x8 w h => cf_M_log_L75_ok hd    P Q hQ  n x1 x2 x4 x6 x8 w h) x1 x2 x4 x6 x8 h
theorem cf_M_log_ok {g : ayG} {d : Nat} (hd : 5 ≤ d) (a0 : Int32) (a1 : Int32) (a2 : Int32)  (w : Wd) (P : Int64 → Wd → Prop) (h : cf_M_log a0 a1 a2 w P) : Call g y_M_log prog_14_method_52_code 9 (some FieldType.long) d [.ref (g.1 + 30), .int a0, .int a1, .int a2] w (fun (r : Option Value) (w2 : Wd) => ∃ x, r = some (.long x) ∧ P x w2) := by
  unfold cf_M_log at h
  refine am_enter mi_M_log (Nat.le_of_ble_eq_true rfl) ?_
  have hQ : ∀ x w2, P x w2 → (fun (r : Option Value) (w2 : Wd) => ∃ x, r = some (.long x) ∧ P x w2) (some (.long x)) w2 := fun x w2 h => ⟨x, rfl, h⟩
  generalize (fun (r : Option Value) (w2 : Wd) => ∃ x, r = some (.long x) ∧ P x w2) = Q at hQ ⊢
  show wp g (fun _ => True) y_M_log prog_14_method_52_code 9 (some FieldType.long) d 0 [(0, .ref (g.1 + 30)), (1, .int a0), (2, .int a1), (3, .int a2)] [] w Q
  refine am_iload_n d_M_log_0 1 rfl ?_
  refine am_callS (d2 := d - 1) [.int a0] d_M_log_1 mi_M_isPlace wd_1188 wd_1189 (by omega) rfl rfl (Nat.le_of_ble_eq_true rfl) ?_
  refine Call.post ?_ (cf_M_isPlace_ok (by omega) a0  w _ h)
  rintro _ _ ⟨r1, rfl, rfl, h⟩
  show wp g (fun _ => True) y_M_log prog_14_method_52_code 9 (some FieldType.long) d 4 [(0, .ref (g.1 + 30)), (1, .int a0), (2, .int a1), (3, .int a2)] [.int r1] w Q
  refine am_if_eq (tgt := 21) d_M_log_4 (by decide) (fun c4 => ?_) (fun c4 => ?_)
  · have h := h.1 c4
    refine am_ldc2 (v := -1) d_M_log_21 wd_1076 ?_
    exact am_lreturn d_M_log_24 rfl (hQ (-1 : Int64) w h)
  · have h := h.2 c4
    refine am_iload_n d_M_log_7 2 rfl ?_
    refine am_callS (d2 := d - 1) [.int a1] d_M_log_8 mi_M_isPlace wd_1188 wd_1189 (by omega) rfl rfl (Nat.le_of_ble_eq_true rfl) ?_
    refine Call.post ?_ (cf_M_isPlace_ok (by omega) a1  w _ h)
    rintro _ _ ⟨r2, rfl, rfl, h⟩
    show wp g (fun _ => True) y_M_log prog_14_method_52_code 9 (some FieldType.long) d 11 [(0, .ref (g.1 + 30)), (1, .int a0), (2, .int a1), (3, .int a2)] [.int r2] w Q
    refine am_if_eq (tgt := 21) d_M_log_11 (by decide) (fun c11 => ?_) (fun c11 => ?_)
    · have h := h.1 c11
      refine am_ldc2 (v := -1) d_M_log_21 wd_1076 ?_
      exact am_lreturn d_M_log_24 rfl (hQ (-1 : Int64) w h)
    · have h := h.2 c11
      refine am_iload_n d_M_log_14 3 rfl ?_
      refine am_callS (d2 := d - 1) [.int a2] d_M_log_15 mi_M_isPlace wd_1188 wd_1189 (by omega) rfl rfl (Nat.le_of_ble_eq_true rfl) ?_
      refine Call.post ?_ (cf_M_isPlace_ok (by omega) a2  w _ h)
      rintro _ _ ⟨r3, rfl, rfl, h⟩
      show wp g (fun _ => True) y_M_log prog_14_method_52_code 9 (some FieldType.long) d 18 [(0, .ref (g.1 + 30)), (1, .int a0), (2, .int a1), (3, .int a2)] [.int r3] w Q
      refine am_if_ne (tgt := 25) d_M_log_18 (by decide) (fun c18 => ?_) (fun c18 => ?_)
      · have h := h.1 c18
        refine am_aload_n d_M_log_25 0 rfl ?_
        refine am_iload_n d_M_log_26 1 rfl ?_
        refine am_iload_n d_M_log_27 3 rfl ?_
        refine am_callV (C := y_M_isIn.cls) (d2 := d - 1) [.int a0, .int a2] d_M_log_28 mi_M_isIn wd_1344 wd_1346 ws_M_isIn (by decide) (el_M (show ay_sh 30 = _ from rfl)) rfl rfl (by omega) rfl rfl (Nat.le_of_ble_eq_true rfl) ?_
        refine Call.post ?_ (cf_M_isIn_ok (by omega) a0 a2  w _ h)
        rintro _ w5 ⟨r4, rfl, h⟩
        show wp g (fun _ => True) y_M_log prog_14_method_52_code 9 (some FieldType.long) d 31 [(0, .ref (g.1 + 30)), (1, .int a0), (2, .int a1), (3, .int a2)] [.int r4] w5 Q
        refine am_if_eq (tgt := 57) d_M_log_31 (by decide) (fun c31 => ?_) (fun c31 => ?_)
        · have h := h.1 c31
          refine am_ldc2 (v := -2) d_M_log_57 wd_1267 ?_
          exact am_lreturn d_M_log_60 rfl (hQ (-2 : Int64) w5 h)
        · have h := h.2 c31
          refine am_aload_n d_M_log_34 0 rfl ?_
          refine am_iload_n d_M_log_35 2 rfl ?_
          refine am_iload_n d_M_log_36 3 rfl ?_
          refine am_callV (C := y_M_isIn.cls) (d2 := d - 1) [.int a1, .int a2] d_M_log_37 mi_M_isIn wd_1344 wd_1346 ws_M_isIn (by decide) (el_M (show ay_sh 30 = _ from rfl)) rfl rfl (by omega) rfl rfl (Nat.le_of_ble_eq_true rfl) ?_
          refine Call.post ?_ (cf_M_isIn_ok (by omega) a1 a2  w5 _ h)
          rintro _ w7 ⟨r6, rfl, h⟩
          show wp g (fun _ => True) y_M_log prog_14_method_52_code 9 (some FieldType.long) d 40 [(0, .ref (g.1 + 30)), (1, .int a0), (2, .int a1), (3, .int a2)] [.int r6] w7 Q
          refine am_if_eq (tgt := 57) d_M_log_40 (by decide) (fun c40 => ?_) (fun c40 => ?_)
          · have h := h.1 c40
            refine am_ldc2 (v := -2) d_M_log_57 wd_1267 ?_
            exact am_lreturn d_M_log_60 rfl (hQ (-2 : Int64) w7 h)
          · have h := h.2 c40
            refine am_aload_n d_M_log_43 0 rfl ?_
            refine am_getf (T := F_M) (fs := ob_M g w7 30) (C := R_M) (N := 35) (ci := 10) 0 d_M_log_44 wd_1077 rfl (by decide) (el_M (show ay_sh 30 = _ from rfl)) rfl i_M (by decide) rfl ?_
            refine am_iload_n d_M_log_47 3 rfl ?_
            have hi48 := h.1
            have h := h.2
            refine am_laload d_M_log_48 (show ay_sh 31 = _ from rfl) hi48 ?_
            refine am_callS (d2 := d - 1) [.long (w7.2 31 a2.toNatClampNeg)] d_M_log_49 mi_M_degree wd_1206 wd_1207 (by omega) rfl rfl (Nat.le_of_ble_eq_true rfl) ?_
            refine Call.post ?_ (cf_M_degree_ok (by omega) (w7.2 31 a2.toNatClampNeg)  w7 _ h)
            rintro _ _ ⟨r8, rfl, rfl, h⟩
            show wp g (fun _ => True) y_M_log prog_14_method_52_code 9 (some FieldType.long) d 52 [(0, .ref (g.1 + 30)), (1, .int a0), (2, .int a1), (3, .int a2)] [.int r8] w7 Q
            refine am_bipush (v := 16) d_M_log_52 rfl ?_
            refine am_icmp_le (tgt := 61) d_M_log_54 (by decide) (fun c54 => ?_) (fun c54 => ?_)
            · have h := h.1 c54
              refine am_aload_n d_M_log_61 0 rfl ?_
              refine am_getf (T := F_M) (fs := ob_M g w7 30) (C := R_M) (N := 35) (ci := 10) 0 d_M_log_62 wd_1077 rfl (by decide) (el_M (show ay_sh 30 = _ from rfl)) rfl i_M (by decide) rfl ?_
              refine am_iload_n d_M_log_65 3 rfl ?_
              have hi66 := h.1
              have h := h.2
              refine am_laload d_M_log_66 (show ay_sh 31 = _ from rfl) hi66 ?_
              refine am_topl (fun v9 ev9 => ?_)
              have h := h v9 ev9
              refine am_lstore (l' := [(4, .long v9), (0, .ref (g.1 + 30)), (1, .int a0), (2, .int a1), (3, .int a2)]) d_M_log_67 (by decide) rfl ?_
              refine am_lconst (v := 1) d_M_log_69 rfl ?_
              refine am_lstore (l' := [(6, .long (1 : Int64)), (4, .long v9), (0, .ref (g.1 + 30)), (1, .int a0), (2, .int a1), (3, .int a2)]) d_M_log_70 (by decide) rfl ?_
              refine am_iconst (v := 0) d_M_log_72 rfl ?_
              refine am_istore (l' := [(8, .int (0 : Int32)), (6, .long (1 : Int64)), (4, .long v9), (0, .ref (g.1 + 30)), (1, .int a0), (2, .int a1), (3, .int a2)]) d_M_log_73 (by decide) rfl ?_
              refine am_sub [3, 4, 5, 2, 1, 0] rfl ?_
              obtain ⟨n, h⟩ := h
              exact cf_M_log_L75_ok (by omega)    P Q hQ  n a0 a1 v9 (1 : Int64) (0 : Int32) w7 h
            · have h := h.2 c54
              refine am_ldc2 (v := -2) d_M_log_57 wd_1267 ?_
              exact am_lreturn d_M_log_60 rfl (hQ (-2 : Int64) w7 h)
      · have h := h.2 c18
        refine am_ldc2 (v := -1) d_M_log_21 wd_1076 ?_
        exact am_lreturn d_M_log_24 rfl (hQ (-1 : Int64) w h)
theorem d_M_roots_0 : decode prog_14_method_53_code 0 = .ok (.iload_n 1, 1) := by decide +kernel
theorem d_M_roots_1 : decode prog_14_method_53_code 1 = .ok (.invokestatic 150, 3) := by decide +kernel
theorem d_M_roots_4 : decode prog_14_method_53_code 4 = .ok (.ifCond .eq 10, 3) := by decide +kernel
theorem d_M_roots_7 : decode prog_14_method_53_code 7 = .ok (.iload_n 2, 1) := by decide +kernel
theorem d_M_roots_8 : decode prog_14_method_53_code 8 = .ok (.invokestatic 150, 3) := by decide +kernel
theorem d_M_roots_11 : decode prog_14_method_53_code 11 = .ok (.ifCond .ne 5, 3) := by decide +kernel
theorem d_M_roots_14 : decode prog_14_method_53_code 14 = .ok (.iconst (-1), 1) := by decide +kernel
theorem d_M_roots_15 : decode prog_14_method_53_code 15 = .ok (.ireturn, 1) := by decide +kernel
theorem d_M_roots_16 : decode prog_14_method_53_code 16 = .ok (.aload_n 0, 1) := by decide +kernel
theorem d_M_roots_17 : decode prog_14_method_53_code 17 = .ok (.getfield 7, 3) := by decide +kernel
theorem d_M_roots_20 : decode prog_14_method_53_code 20 = .ok (.iload_n 2, 1) := by decide +kernel
theorem d_M_roots_21 : decode prog_14_method_53_code 21 = .ok (.laload, 1) := by decide +kernel
theorem d_M_roots_22 : decode prog_14_method_53_code 22 = .ok (.lstore_n 3, 1) := by decide +kernel
theorem d_M_roots_23 : decode prog_14_method_53_code 23 = .ok (.aload_n 0, 1) := by decide +kernel
theorem d_M_roots_24 : decode prog_14_method_53_code 24 = .ok (.lload_n 3, 1) := by decide +kernel
theorem d_M_roots_25 : decode prog_14_method_53_code 25 = .ok (.invokevirtual 140, 3) := by decide +kernel
theorem d_M_roots_28 : decode prog_14_method_53_code 28 = .ok (.ifCond .eq 12, 3) := by decide +kernel
theorem d_M_roots_31 : decode prog_14_method_53_code 31 = .ok (.lload_n 3, 1) := by decide +kernel
theorem d_M_roots_32 : decode prog_14_method_53_code 32 = .ok (.invokestatic 84, 3) := by decide +kernel
theorem d_M_roots_35 : decode prog_14_method_53_code 35 = .ok (.bipush 12, 2) := by decide +kernel
theorem d_M_roots_37 : decode prog_14_method_53_code 37 = .ok (.if_icmp .le 6, 3) := by decide +kernel
theorem d_M_roots_40 : decode prog_14_method_53_code 40 = .ok (.bipush (-2), 2) := by decide +kernel
theorem d_M_roots_42 : decode prog_14_method_53_code 42 = .ok (.ireturn, 1) := by decide +kernel
theorem d_M_roots_43 : decode prog_14_method_53_code 43 = .ok (.iconst 0, 1) := by decide +kernel
theorem d_M_roots_44 : decode prog_14_method_53_code 44 = .ok (.istore 5, 2) := by decide +kernel
theorem d_M_roots_46 : decode prog_14_method_53_code 46 = .ok (.lconst 0, 1) := by decide +kernel
theorem d_M_roots_47 : decode prog_14_method_53_code 47 = .ok (.lstore 6, 2) := by decide +kernel
theorem d_M_roots_49 : decode prog_14_method_53_code 49 = .ok (.lload 6, 2) := by decide +kernel
theorem d_M_roots_51 : decode prog_14_method_53_code 51 = .ok (.lconst 1, 1) := by decide +kernel
theorem d_M_roots_52 : decode prog_14_method_53_code 52 = .ok (.lload_n 3, 1) := by decide +kernel
theorem d_M_roots_53 : decode prog_14_method_53_code 53 = .ok (.invokestatic 84, 3) := by decide +kernel
theorem d_M_roots_56 : decode prog_14_method_53_code 56 = .ok (.lshl, 1) := by decide +kernel
theorem d_M_roots_57 : decode prog_14_method_53_code 57 = .ok (.lcmp, 1) := by decide +kernel
theorem d_M_roots_58 : decode prog_14_method_53_code 58 = .ok (.ifCond .ge 39, 3) := by decide +kernel
theorem d_M_roots_61 : decode prog_14_method_53_code 61 = .ok (.iload 5, 2) := by decide +kernel
theorem d_M_roots_63 : decode prog_14_method_53_code 63 = .ok (.aload_n 0, 1) := by decide +kernel
theorem d_M_roots_64 : decode prog_14_method_53_code 64 = .ok (.getfield 7, 3) := by decide +kernel
theorem d_M_roots_67 : decode prog_14_method_53_code 67 = .ok (.iload_n 1, 1) := by decide +kernel
theorem d_M_roots_68 : decode prog_14_method_53_code 68 = .ok (.laload, 1) := by decide +kernel
theorem d_M_roots_69 : decode prog_14_method_53_code 69 = .ok (.lload 6, 2) := by decide +kernel
theorem d_M_roots_71 : decode prog_14_method_53_code 71 = .ok (.lload_n 3, 1) := by decide +kernel
theorem d_M_roots_72 : decode prog_14_method_53_code 72 = .ok (.invokestatic 206, 3) := by decide +kernel
theorem d_M_roots_75 : decode prog_14_method_53_code 75 = .ok (.lconst 0, 1) := by decide +kernel
theorem d_M_roots_76 : decode prog_14_method_53_code 76 = .ok (.lcmp, 1) := by decide +kernel
theorem d_M_roots_77 : decode prog_14_method_53_code 77 = .ok (.ifCond .ne 7, 3) := by decide +kernel
theorem d_M_roots_80 : decode prog_14_method_53_code 80 = .ok (.iconst 1, 1) := by decide +kernel
theorem d_M_roots_81 : decode prog_14_method_53_code 81 = .ok (.goto 4, 3) := by decide +kernel
theorem d_M_roots_84 : decode prog_14_method_53_code 84 = .ok (.iconst 0, 1) := by decide +kernel
theorem d_M_roots_85 : decode prog_14_method_53_code 85 = .ok (.iadd, 1) := by decide +kernel
theorem d_M_roots_86 : decode prog_14_method_53_code 86 = .ok (.istore 5, 2) := by decide +kernel
theorem d_M_roots_88 : decode prog_14_method_53_code 88 = .ok (.lload 6, 2) := by decide +kernel
theorem d_M_roots_90 : decode prog_14_method_53_code 90 = .ok (.lconst 1, 1) := by decide +kernel
theorem d_M_roots_91 : decode prog_14_method_53_code 91 = .ok (.ladd, 1) := by decide +kernel
theorem d_M_roots_92 : decode prog_14_method_53_code 92 = .ok (.lstore 6, 2) := by decide +kernel
theorem d_M_roots_94 : decode prog_14_method_53_code 94 = .ok (.goto (-45), 3) := by decide +kernel
theorem d_M_roots_97 : decode prog_14_method_53_code 97 = .ok (.iload 5, 2) := by decide +kernel
theorem d_M_roots_99 : decode prog_14_method_53_code 99 = .ok (.ireturn, 1) := by decide +kernel
def cf_M_roots_B49  (K49 : Int32 → Int64 → Int32 → Int64 → Wd → Prop) (P : Int32 → Wd → Prop) (x1 : Int32) (x3 : Int64) (x5 : Int32) (x6 : Int64) (w : Wd) : Prop :=
  cf_M_degree x3 (fun r7 => (((lshl (1 : Int64) r7) ≤ x6 → P x5 w) ∧ (¬ (lshl (1 : Int64) r7) ≤ x6 → vp_in x1 14 ∧ cf_M_insideBy (w.2 31 x1.toNatClampNeg) x6 x3 (fun r8 => ((¬ r8 = (0 : Int64) → ∀ v9, v9 = x5 + (0 : Int32) → ∀ v10, v10 = x6 + (1 : Int64) → K49 x1 x3 v9 v10 w) ∧ (r8 = (0 : Int64) → ∀ v11, v11 = x5 + (1 : Int32) → ∀ v12, v12 = x6 + (1 : Int64) → K49 x1 x3 v11 v12 w))))))
def cf_M_roots_L49   (P : Int32 → Wd → Prop) : Nat → Int32 → Int64 → Int32 → Int64 → Wd → Prop
  | 0 => fun x1 x3 x5 x6 w => False
  | n + 1 => fun x1 x3 x5 x6 w => cf_M_roots_B49 (cf_M_roots_L49 P n) P x1 x3 x5 x6 w
def cf_M_roots (a0 : Int32) (a1 : Int32) (w : Wd) (P : Int32 → Wd → Prop) : Prop :=
  cf_M_isPlace a0 (fun r1 => ((r1 = 0 → P (-1 : Int32) w) ∧ (¬ r1 = 0 → cf_M_isPlace a1 (fun r2 => ((¬ r2 = 0 → vp_in a1 14 ∧ ∀ v3, v3 = w.2 31 a1.toNatClampNeg → cf_M_isIrreducible v3 w (fun r4 w5 => ((r4 = 0 → P (-2 : Int32) w5) ∧ (¬ r4 = 0 → cf_M_degree v3 (fun r6 => ((r6 ≤ (12 : Int32) → ∃ n, cf_M_roots_L49 P n a0 v3 (0 : Int32) (0 : Int64) w5) ∧ (¬ r6 ≤ (12 : Int32) → P (-2 : Int32) w5))))))) ∧ (r2 = 0 → P (-1 : Int32) w))))))
theorem cf_M_roots_B49_ok {g : ayG} {d : Nat} (hd : 4 ≤ d)   (w : Wd) (K49 : Int32 → Int64 → Int32 → Int64 → Wd → Prop) (P : Int32 → Wd → Prop) (Q : Option Value → Wd → Prop) (hQ : ∀ x w2, P x w2 → Q (some (.int x)) w2) (hK49 : ∀ (x1 : Int32) (x3 : Int64) (x5 : Int32) (x6 : Int64) (w : Wd), (K49 x1 x3 x5 x6 w → wp g (fun _ => True) y_M_roots prog_14_method_53_code 8 (some FieldType.int) d 49 [(0, .ref (g.1 + 30)), (1, .int x1), (3, .long x3), (5, .int x5), (6, .long x6)] [] w Q)) (x1 : Int32) (x3 : Int64) (x5 : Int32) (x6 : Int64) (h : cf_M_roots_B49 K49 P x1 x3 x5 x6 w) : wp g (fun _ => True) y_M_roots prog_14_method_53_code 8 (some FieldType.int) d 49 [(0, .ref (g.1 + 30)), (1, .int x1), (3, .long x3), (5, .int x5), (6, .long x6)] [] w Q := by
  unfold cf_M_roots_B49 at h
  refine am_lload d_M_roots_49 4 rfl ?_
  refine am_lconst (v := 1) d_M_roots_51 rfl ?_
  refine am_lload_n d_M_roots_52 2 rfl ?_
  refine am_callS (d2 := d - 1) [.long x3] d_M_roots_53 mi_M_degree wd_1206 wd_1207 (by omega) rfl rfl (Nat.le_of_ble_eq_true rfl) ?_
  refine Call.post ?_ (cf_M_degree_ok (by omega) x3  w _ h)
  rintro _ _ ⟨r7, rfl, rfl, h⟩
  show wp g (fun _ => True) y_M_roots prog_14_method_53_code 8 (some FieldType.int) d 56 [(0, .ref (g.1 + 30)), (1, .int x1), (3, .long x3), (5, .int x5), (6, .long x6)] [.int r7, .long (1 : Int64), .long x6] w Q
  refine am_lshl d_M_roots_56 ?_
  refine am_lif_ge (tgt := 97) d_M_roots_57 d_M_roots_58 (by decide) (fun c57 => ?_) (fun c57 => ?_)
  · have h := h.1 c57
    refine am_iload d_M_roots_97 3 rfl ?_
    exact am_ireturn d_M_roots_99 rfl rfl (hQ x5 w h)
  · have h := h.2 c57
    refine am_iload d_M_roots_61 3 rfl ?_
    refine am_aload_n d_M_roots_63 0 rfl ?_
    refine am_getf (T := F_M) (fs := ob_M g w 30) (C := R_M) (N := 35) (ci := 10) 0 d_M_roots_64 wd_1077 rfl (by decide) (el_M (show ay_sh 30 = _ from rfl)) rfl i_M (by decide) rfl ?_
    refine am_iload_n d_M_roots_67 1 rfl ?_
    have hi68 := h.1
    have h := h.2
    refine am_laload d_M_roots_68 (show ay_sh 31 = _ from rfl) hi68 ?_
    refine am_lload d_M_roots_69 4 rfl ?_
    refine am_lload_n d_M_roots_71 2 rfl ?_
    refine am_callS (d2 := d - 1) [.long (w.2 31 x1.toNatClampNeg), .long x6, .long x3] d_M_roots_72 mi_M_insideBy wd_1365 wd_1366 (by omega) rfl rfl (Nat.le_of_ble_eq_true rfl) ?_
    refine Call.post ?_ (cf_M_insideBy_ok (by omega) (w.2 31 x1.toNatClampNeg) x6 x3  w _ h)
    rintro _ _ ⟨r8, rfl, rfl, h⟩
    show wp g (fun _ => True) y_M_roots prog_14_method_53_code 8 (some FieldType.int) d 75 [(0, .ref (g.1 + 30)), (1, .int x1), (3, .long x3), (5, .int x5), (6, .long x6)] [.long r8, .int x5] w Q
    refine am_lconst (v := 0) d_M_roots_75 rfl ?_
    refine am_lif_ne (tgt := 84) d_M_roots_76 d_M_roots_77 (by decide) (fun c76 => ?_) (fun c76 => ?_)
    · have h := h.1 c76
      refine am_iconst (v := 0) d_M_roots_84 rfl ?_
      refine am_iadd d_M_roots_85 ?_
      refine am_topi (fun v9 ev9 => ?_)
      have h := h v9 ev9
      refine am_istore (l' := [(5, .int v9), (0, .ref (g.1 + 30)), (1, .int x1), (3, .long x3), (6, .long x6)]) d_M_roots_86 (by decide) rfl ?_
      refine am_lload d_M_roots_88 4 rfl ?_
      refine am_lconst (v := 1) d_M_roots_90 rfl ?_
      refine am_ladd d_M_roots_91 ?_
      refine am_topl (fun v10 ev10 => ?_)
      have h := h v10 ev10
      refine am_lstore (l' := [(6, .long v10), (5, .int v9), (0, .ref (g.1 + 30)), (1, .int x1), (3, .long x3)]) d_M_roots_92 (by decide) rfl ?_
      refine am_goto (tgt := 49) d_M_roots_94 (by decide) ?_
      refine am_sub [2, 3, 4, 1, 0] rfl ?_
      exact hK49 x1 x3 v9 v10 w h
    · have h := h.2 c76
      refine am_iconst (v := 1) d_M_roots_80 rfl ?_
      refine am_goto (tgt := 85) d_M_roots_81 (by decide) ?_
      refine am_iadd d_M_roots_85 ?_
      refine am_topi (fun v11 ev11 => ?_)
      have h := h v11 ev11
      refine am_istore (l' := [(5, .int v11), (0, .ref (g.1 + 30)), (1, .int x1), (3, .long x3), (6, .long x6)]) d_M_roots_86 (by decide) rfl ?_
      refine am_lload d_M_roots_88 4 rfl ?_
      refine am_lconst (v := 1) d_M_roots_90 rfl ?_
      refine am_ladd d_M_roots_91 ?_
      refine am_topl (fun v12 ev12 => ?_)
      have h := h v12 ev12
      refine am_lstore (l' := [(6, .long v12), (5, .int v11), (0, .ref (g.1 + 30)), (1, .int x1), (3, .long x3)]) d_M_roots_92 (by decide) rfl ?_
      refine am_goto (tgt := 49) d_M_roots_94 (by decide) ?_
      refine am_sub [2, 3, 4, 1, 0] rfl ?_
      exact hK49 x1 x3 v11 v12 w h
theorem cf_M_roots_L49_ok {g : ayG} {d : Nat} (hd : 4 ≤ d)    (P : Int32 → Wd → Prop) (Q : Option Value → Wd → Prop) (hQ : ∀ x w2, P x w2 → Q (some (.int x)) w2)  : ∀ (n : Nat) (x1 : Int32) (x3 : Int64) (x5 : Int32) (x6 : Int64) (w : Wd) (h : cf_M_roots_L49 P n x1 x3 x5 x6 w), wp g (fun _ => True) y_M_roots prog_14_method_53_code 8 (some FieldType.int) d 49 [(0, .ref (g.1 + 30)), (1, .int x1), (3, .long x3), (5, .int x5), (6, .long x6)] [] w Q
  | 0, x1, x3, x5, x6, w, h => False.elim h
  | n + 1, x1, x3, x5, x6, w, h => cf_M_roots_B49_ok hd   w (cf_M_roots_L49 P n) P Q hQ (fun x1 x3 x5 x6 w h => cf_M_roots_L49_ok hd    P Q hQ  n x1 x3 x5 x6 w h) x1 x3 x5 x6 h
theorem cf_M_roots_ok {g : ayG} {d : Nat} (hd : 4 ≤ d) (a0 : Int32) (a1 : Int32)  (w : Wd) (P : Int32 → Wd → Prop) (h : cf_M_roots a0 a1 w P) : Call g y_M_roots prog_14_method_53_code 8 (some FieldType.int) d [.ref (g.1 + 30), .int a0, .int a1] w (fun (r : Option Value) (w2 : Wd) => ∃ x, r = some (.int x) ∧ P x w2) := by
  unfold cf_M_roots at h
  refine am_enter mi_M_roots (Nat.le_of_ble_eq_true rfl) ?_
  have hQ : ∀ x w2, P x w2 → (fun (r : Option Value) (w2 : Wd) => ∃ x, r = some (.int x) ∧ P x w2) (some (.int x)) w2 := fun x w2 h => ⟨x, rfl, h⟩
  generalize (fun (r : Option Value) (w2 : Wd) => ∃ x, r = some (.int x) ∧ P x w2) = Q at hQ ⊢
  show wp g (fun _ => True) y_M_roots prog_14_method_53_code 8 (some FieldType.int) d 0 [(0, .ref (g.1 + 30)), (1, .int a0), (2, .int a1)] [] w Q
  refine am_iload_n d_M_roots_0 1 rfl ?_
  refine am_callS (d2 := d - 1) [.int a0] d_M_roots_1 mi_M_isPlace wd_1188 wd_1189 (by omega) rfl rfl (Nat.le_of_ble_eq_true rfl) ?_
  refine Call.post ?_ (cf_M_isPlace_ok (by omega) a0  w _ h)
  rintro _ _ ⟨r1, rfl, rfl, h⟩
  show wp g (fun _ => True) y_M_roots prog_14_method_53_code 8 (some FieldType.int) d 4 [(0, .ref (g.1 + 30)), (1, .int a0), (2, .int a1)] [.int r1] w Q
  refine am_if_eq (tgt := 14) d_M_roots_4 (by decide) (fun c4 => ?_) (fun c4 => ?_)
  · have h := h.1 c4
    refine am_iconst (v := -1) d_M_roots_14 rfl ?_
    exact am_ireturn d_M_roots_15 rfl rfl (hQ (-1 : Int32) w h)
  · have h := h.2 c4
    refine am_iload_n d_M_roots_7 2 rfl ?_
    refine am_callS (d2 := d - 1) [.int a1] d_M_roots_8 mi_M_isPlace wd_1188 wd_1189 (by omega) rfl rfl (Nat.le_of_ble_eq_true rfl) ?_
    refine Call.post ?_ (cf_M_isPlace_ok (by omega) a1  w _ h)
    rintro _ _ ⟨r2, rfl, rfl, h⟩
    show wp g (fun _ => True) y_M_roots prog_14_method_53_code 8 (some FieldType.int) d 11 [(0, .ref (g.1 + 30)), (1, .int a0), (2, .int a1)] [.int r2] w Q
    refine am_if_ne (tgt := 16) d_M_roots_11 (by decide) (fun c11 => ?_) (fun c11 => ?_)
    · have h := h.1 c11
      refine am_aload_n d_M_roots_16 0 rfl ?_
      refine am_getf (T := F_M) (fs := ob_M g w 30) (C := R_M) (N := 35) (ci := 10) 0 d_M_roots_17 wd_1077 rfl (by decide) (el_M (show ay_sh 30 = _ from rfl)) rfl i_M (by decide) rfl ?_
      refine am_iload_n d_M_roots_20 2 rfl ?_
      have hi21 := h.1
      have h := h.2
      refine am_laload d_M_roots_21 (show ay_sh 31 = _ from rfl) hi21 ?_
      refine am_topl (fun v3 ev3 => ?_)
      have h := h v3 ev3
      refine am_lstore_n (l' := [(3, .long v3), (0, .ref (g.1 + 30)), (1, .int a0), (2, .int a1)]) d_M_roots_22 (by decide) rfl ?_
      refine am_aload_n d_M_roots_23 1 rfl ?_
      refine am_lload_n d_M_roots_24 0 rfl ?_
      refine am_callV (C := y_M_isIrreducible.cls) (d2 := d - 1) [.long v3] d_M_roots_25 mi_M_isIrreducible wd_1232 wd_1234 ws_M_isIrreducible (by decide) (el_M (show ay_sh 30 = _ from rfl)) rfl rfl (by omega) rfl rfl (Nat.le_of_ble_eq_true rfl) ?_
      refine Call.post ?_ (cf_M_isIrreducible_ok (by omega) v3  w _ h)
      rintro _ w5 ⟨r4, rfl, h⟩
      show wp g (fun _ => True) y_M_roots prog_14_method_53_code 8 (some FieldType.int) d 28 [(3, .long v3), (0, .ref (g.1 + 30)), (1, .int a0), (2, .int a1)] [.int r4] w5 Q
      refine am_if_eq (tgt := 40) d_M_roots_28 (by decide) (fun c28 => ?_) (fun c28 => ?_)
      · have h := h.1 c28
        refine am_bipush (v := -2) d_M_roots_40 rfl ?_
        exact am_ireturn d_M_roots_42 rfl rfl (hQ (-2 : Int32) w5 h)
      · have h := h.2 c28
        refine am_lload_n d_M_roots_31 0 rfl ?_
        refine am_callS (d2 := d - 1) [.long v3] d_M_roots_32 mi_M_degree wd_1206 wd_1207 (by omega) rfl rfl (Nat.le_of_ble_eq_true rfl) ?_
        refine Call.post ?_ (cf_M_degree_ok (by omega) v3  w5 _ h)
        rintro _ _ ⟨r6, rfl, rfl, h⟩
        show wp g (fun _ => True) y_M_roots prog_14_method_53_code 8 (some FieldType.int) d 35 [(3, .long v3), (0, .ref (g.1 + 30)), (1, .int a0), (2, .int a1)] [.int r6] w5 Q
        refine am_bipush (v := 12) d_M_roots_35 rfl ?_
        refine am_icmp_le (tgt := 43) d_M_roots_37 (by decide) (fun c37 => ?_) (fun c37 => ?_)
        · have h := h.1 c37
          refine am_iconst (v := 0) d_M_roots_43 rfl ?_
          refine am_istore (l' := [(5, .int (0 : Int32)), (3, .long v3), (0, .ref (g.1 + 30)), (1, .int a0), (2, .int a1)]) d_M_roots_44 (by decide) rfl ?_
          refine am_lconst (v := 0) d_M_roots_46 rfl ?_
          refine am_lstore (l' := [(6, .long (0 : Int64)), (5, .int (0 : Int32)), (3, .long v3), (0, .ref (g.1 + 30)), (1, .int a0), (2, .int a1)]) d_M_roots_47 (by decide) rfl ?_
          refine am_sub [3, 4, 2, 1, 0] rfl ?_
          obtain ⟨n, h⟩ := h
          exact cf_M_roots_L49_ok (by omega)    P Q hQ  n a0 v3 (0 : Int32) (0 : Int64) w5 h
        · have h := h.2 c37
          refine am_bipush (v := -2) d_M_roots_40 rfl ?_
          exact am_ireturn d_M_roots_42 rfl rfl (hQ (-2 : Int32) w5 h)
    · have h := h.2 c11
      refine am_iconst (v := -1) d_M_roots_14 rfl ?_
      exact am_ireturn d_M_roots_15 rfl rfl (hQ (-1 : Int32) w h)
theorem d_M_isRule_0 : decode prog_14_method_54_code 0 = .ok (.iconst 0, 1) := by decide +kernel
theorem d_M_isRule_1 : decode prog_14_method_54_code 1 = .ok (.istore 5, 2) := by decide +kernel
theorem d_M_isRule_3 : decode prog_14_method_54_code 3 = .ok (.iconst 0, 1) := by decide +kernel
theorem d_M_isRule_4 : decode prog_14_method_54_code 4 = .ok (.istore 6, 2) := by decide +kernel
theorem d_M_isRule_6 : decode prog_14_method_54_code 6 = .ok (.iload 6, 2) := by decide +kernel
theorem d_M_isRule_8 : decode prog_14_method_54_code 8 = .ok (.iload 4, 2) := by decide +kernel
theorem d_M_isRule_10 : decode prog_14_method_54_code 10 = .ok (.iadd, 1) := by decide +kernel
theorem d_M_isRule_11 : decode prog_14_method_54_code 11 = .ok (.iload_n 3, 1) := by decide +kernel
theorem d_M_isRule_12 : decode prog_14_method_54_code 12 = .ok (.if_icmp .ge 192, 3) := by decide +kernel
theorem d_M_isRule_15 : decode prog_14_method_54_code 15 = .ok (.lload_n 1, 1) := by decide +kernel
theorem d_M_isRule_16 : decode prog_14_method_54_code 16 = .ok (.iload 6, 2) := by decide +kernel
theorem d_M_isRule_18 : decode prog_14_method_54_code 18 = .ok (.lushr, 1) := by decide +kernel
theorem d_M_isRule_19 : decode prog_14_method_54_code 19 = .ok (.iload 4, 2) := by decide +kernel
theorem d_M_isRule_21 : decode prog_14_method_54_code 21 = .ok (.invokestatic 122, 3) := by decide +kernel
theorem d_M_isRule_24 : decode prog_14_method_54_code 24 = .ok (.land, 1) := by decide +kernel
theorem d_M_isRule_25 : decode prog_14_method_54_code 25 = .ok (.lstore 7, 2) := by decide +kernel
theorem d_M_isRule_27 : decode prog_14_method_54_code 27 = .ok (.lload_n 1, 1) := by decide +kernel
theorem d_M_isRule_28 : decode prog_14_method_54_code 28 = .ok (.iload 6, 2) := by decide +kernel
theorem d_M_isRule_30 : decode prog_14_method_54_code 30 = .ok (.iload 4, 2) := by decide +kernel
theorem d_M_isRule_32 : decode prog_14_method_54_code 32 = .ok (.iadd, 1) := by decide +kernel
theorem d_M_isRule_33 : decode prog_14_method_54_code 33 = .ok (.invokestatic 80, 3) := by decide +kernel
theorem d_M_isRule_36 : decode prog_14_method_54_code 36 = .ok (.ifCond .eq 11, 3) := by decide +kernel
theorem d_M_isRule_39 : decode prog_14_method_54_code 39 = .ok (.lload 7, 2) := by decide +kernel
theorem d_M_isRule_41 : decode prog_14_method_54_code 41 = .ok (.ldc2_w 209, 3) := by decide +kernel
theorem d_M_isRule_44 : decode prog_14_method_54_code 44 = .ok (.lor, 1) := by decide +kernel
theorem d_M_isRule_45 : decode prog_14_method_54_code 45 = .ok (.lstore 7, 2) := by decide +kernel
theorem d_M_isRule_47 : decode prog_14_method_54_code 47 = .ok (.iconst 0, 1) := by decide +kernel
theorem d_M_isRule_48 : decode prog_14_method_54_code 48 = .ok (.istore 9, 2) := by decide +kernel
theorem d_M_isRule_50 : decode prog_14_method_54_code 50 = .ok (.iload 9, 2) := by decide +kernel
theorem d_M_isRule_52 : decode prog_14_method_54_code 52 = .ok (.iload 5, 2) := by decide +kernel
theorem d_M_isRule_54 : decode prog_14_method_54_code 54 = .ok (.if_icmp .ge 36, 3) := by decide +kernel
theorem d_M_isRule_57 : decode prog_14_method_54_code 57 = .ok (.lload 7, 2) := by decide +kernel
theorem d_M_isRule_59 : decode prog_14_method_54_code 59 = .ok (.aload_n 0, 1) := by decide +kernel
theorem d_M_isRule_60 : decode prog_14_method_54_code 60 = .ok (.getfield 44, 3) := by decide +kernel
theorem d_M_isRule_63 : decode prog_14_method_54_code 63 = .ok (.iload 9, 2) := by decide +kernel
theorem d_M_isRule_65 : decode prog_14_method_54_code 65 = .ok (.iaload, 1) := by decide +kernel
theorem d_M_isRule_66 : decode prog_14_method_54_code 66 = .ok (.invokestatic 80, 3) := by decide +kernel
theorem d_M_isRule_69 : decode prog_14_method_54_code 69 = .ok (.ifCond .eq 15, 3) := by decide +kernel
theorem d_M_isRule_72 : decode prog_14_method_54_code 72 = .ok (.lload 7, 2) := by decide +kernel
theorem d_M_isRule_74 : decode prog_14_method_54_code 74 = .ok (.aload_n 0, 1) := by decide +kernel
theorem d_M_isRule_75 : decode prog_14_method_54_code 75 = .ok (.getfield 38, 3) := by decide +kernel
theorem d_M_isRule_78 : decode prog_14_method_54_code 78 = .ok (.iload 9, 2) := by decide +kernel
theorem d_M_isRule_80 : decode prog_14_method_54_code 80 = .ok (.laload, 1) := by decide +kernel
theorem d_M_isRule_81 : decode prog_14_method_54_code 81 = .ok (.lxor, 1) := by decide +kernel
theorem d_M_isRule_82 : decode prog_14_method_54_code 82 = .ok (.lstore 7, 2) := by decide +kernel
theorem d_M_isRule_84 : decode prog_14_method_54_code 84 = .ok (.iinc 9 1, 3) := by decide +kernel
theorem d_M_isRule_87 : decode prog_14_method_54_code 87 = .ok (.goto (-37), 3) := by decide +kernel
theorem d_M_isRule_90 : decode prog_14_method_54_code 90 = .ok (.lload 7, 2) := by decide +kernel
theorem d_M_isRule_92 : decode prog_14_method_54_code 92 = .ok (.bipush 62, 2) := by decide +kernel
theorem d_M_isRule_94 : decode prog_14_method_54_code 94 = .ok (.invokestatic 122, 3) := by decide +kernel
theorem d_M_isRule_97 : decode prog_14_method_54_code 97 = .ok (.land, 1) := by decide +kernel
theorem d_M_isRule_98 : decode prog_14_method_54_code 98 = .ok (.lstore 9, 2) := by decide +kernel
theorem d_M_isRule_100 : decode prog_14_method_54_code 100 = .ok (.lload 9, 2) := by decide +kernel
theorem d_M_isRule_102 : decode prog_14_method_54_code 102 = .ok (.lconst 0, 1) := by decide +kernel
theorem d_M_isRule_103 : decode prog_14_method_54_code 103 = .ok (.lcmp, 1) := by decide +kernel
theorem d_M_isRule_104 : decode prog_14_method_54_code 104 = .ok (.ifCond .ne 12, 3) := by decide +kernel
theorem d_M_isRule_107 : decode prog_14_method_54_code 107 = .ok (.lload 7, 2) := by decide +kernel
theorem d_M_isRule_109 : decode prog_14_method_54_code 109 = .ok (.lconst 0, 1) := by decide +kernel
theorem d_M_isRule_110 : decode prog_14_method_54_code 110 = .ok (.lcmp, 1) := by decide +kernel
theorem d_M_isRule_111 : decode prog_14_method_54_code 111 = .ok (.ifCond .eq 5, 3) := by decide +kernel
theorem d_M_isRule_114 : decode prog_14_method_54_code 114 = .ok (.iconst 0, 1) := by decide +kernel
theorem d_M_isRule_115 : decode prog_14_method_54_code 115 = .ok (.ireturn, 1) := by decide +kernel
theorem d_M_isRule_116 : decode prog_14_method_54_code 116 = .ok (.lload 9, 2) := by decide +kernel
theorem d_M_isRule_118 : decode prog_14_method_54_code 118 = .ok (.lconst 0, 1) := by decide +kernel
theorem d_M_isRule_119 : decode prog_14_method_54_code 119 = .ok (.lcmp, 1) := by decide +kernel
theorem d_M_isRule_120 : decode prog_14_method_54_code 120 = .ok (.ifCond .ne 6, 3) := by decide +kernel
theorem d_M_isRule_123 : decode prog_14_method_54_code 123 = .ok (.goto 75, 3) := by decide +kernel
theorem d_M_isRule_126 : decode prog_14_method_54_code 126 = .ok (.aload_n 0, 1) := by decide +kernel
theorem d_M_isRule_127 : decode prog_14_method_54_code 127 = .ok (.getfield 44, 3) := by decide +kernel
theorem d_M_isRule_130 : decode prog_14_method_54_code 130 = .ok (.iload 5, 2) := by decide +kernel
theorem d_M_isRule_132 : decode prog_14_method_54_code 132 = .ok (.lload 9, 2) := by decide +kernel
theorem d_M_isRule_134 : decode prog_14_method_54_code 134 = .ok (.invokestatic 84, 3) := by decide +kernel
theorem d_M_isRule_137 : decode prog_14_method_54_code 137 = .ok (.iastore, 1) := by decide +kernel
theorem d_M_isRule_138 : decode prog_14_method_54_code 138 = .ok (.aload_n 0, 1) := by decide +kernel
theorem d_M_isRule_139 : decode prog_14_method_54_code 139 = .ok (.getfield 38, 3) := by decide +kernel
theorem d_M_isRule_142 : decode prog_14_method_54_code 142 = .ok (.iload 5, 2) := by decide +kernel
theorem d_M_isRule_144 : decode prog_14_method_54_code 144 = .ok (.lload 7, 2) := by decide +kernel
theorem d_M_isRule_146 : decode prog_14_method_54_code 146 = .ok (.lastore, 1) := by decide +kernel
theorem d_M_isRule_147 : decode prog_14_method_54_code 147 = .ok (.iconst 0, 1) := by decide +kernel
theorem d_M_isRule_148 : decode prog_14_method_54_code 148 = .ok (.istore 11, 2) := by decide +kernel
theorem d_M_isRule_150 : decode prog_14_method_54_code 150 = .ok (.iload 11, 2) := by decide +kernel
theorem d_M_isRule_152 : decode prog_14_method_54_code 152 = .ok (.iload 5, 2) := by decide +kernel
theorem d_M_isRule_154 : decode prog_14_method_54_code 154 = .ok (.if_icmp .ge 41, 3) := by decide +kernel
theorem d_M_isRule_157 : decode prog_14_method_54_code 157 = .ok (.aload_n 0, 1) := by decide +kernel
theorem d_M_isRule_158 : decode prog_14_method_54_code 158 = .ok (.getfield 38, 3) := by decide +kernel
theorem d_M_isRule_161 : decode prog_14_method_54_code 161 = .ok (.iload 11, 2) := by decide +kernel
theorem d_M_isRule_163 : decode prog_14_method_54_code 163 = .ok (.laload, 1) := by decide +kernel
theorem d_M_isRule_164 : decode prog_14_method_54_code 164 = .ok (.aload_n 0, 1) := by decide +kernel
theorem d_M_isRule_165 : decode prog_14_method_54_code 165 = .ok (.getfield 44, 3) := by decide +kernel
theorem d_M_isRule_168 : decode prog_14_method_54_code 168 = .ok (.iload 5, 2) := by decide +kernel
theorem d_M_isRule_170 : decode prog_14_method_54_code 170 = .ok (.iaload, 1) := by decide +kernel
theorem d_M_isRule_171 : decode prog_14_method_54_code 171 = .ok (.invokestatic 80, 3) := by decide +kernel
theorem d_M_isRule_174 : decode prog_14_method_54_code 174 = .ok (.ifCond .eq 15, 3) := by decide +kernel
theorem d_M_isRule_177 : decode prog_14_method_54_code 177 = .ok (.aload_n 0, 1) := by decide +kernel
theorem d_M_isRule_178 : decode prog_14_method_54_code 178 = .ok (.getfield 38, 3) := by decide +kernel
theorem d_M_isRule_181 : decode prog_14_method_54_code 181 = .ok (.iload 11, 2) := by decide +kernel
theorem d_M_isRule_183 : decode prog_14_method_54_code 183 = .ok (.dup2, 1) := by decide +kernel
theorem d_M_isRule_184 : decode prog_14_method_54_code 184 = .ok (.laload, 1) := by decide +kernel
theorem d_M_isRule_185 : decode prog_14_method_54_code 185 = .ok (.lload 7, 2) := by decide +kernel
theorem d_M_isRule_187 : decode prog_14_method_54_code 187 = .ok (.lxor, 1) := by decide +kernel
theorem d_M_isRule_188 : decode prog_14_method_54_code 188 = .ok (.lastore, 1) := by decide +kernel
theorem d_M_isRule_189 : decode prog_14_method_54_code 189 = .ok (.iinc 11 1, 3) := by decide +kernel
theorem d_M_isRule_192 : decode prog_14_method_54_code 192 = .ok (.goto (-42), 3) := by decide +kernel
theorem d_M_isRule_195 : decode prog_14_method_54_code 195 = .ok (.iinc 5 1, 3) := by decide +kernel
theorem d_M_isRule_198 : decode prog_14_method_54_code 198 = .ok (.iinc 6 1, 3) := by decide +kernel
theorem d_M_isRule_201 : decode prog_14_method_54_code 201 = .ok (.goto (-195), 3) := by decide +kernel
theorem d_M_isRule_204 : decode prog_14_method_54_code 204 = .ok (.aload_n 0, 1) := by decide +kernel
theorem d_M_isRule_205 : decode prog_14_method_54_code 205 = .ok (.lconst 0, 1) := by decide +kernel
theorem d_M_isRule_206 : decode prog_14_method_54_code 206 = .ok (.putfield 211, 3) := by decide +kernel
theorem d_M_isRule_209 : decode prog_14_method_54_code 209 = .ok (.iconst 0, 1) := by decide +kernel
theorem d_M_isRule_210 : decode prog_14_method_54_code 210 = .ok (.istore 6, 2) := by decide +kernel
theorem d_M_isRule_212 : decode prog_14_method_54_code 212 = .ok (.iload 6, 2) := by decide +kernel
theorem d_M_isRule_214 : decode prog_14_method_54_code 214 = .ok (.iload 5, 2) := by decide +kernel
theorem d_M_isRule_216 : decode prog_14_method_54_code 216 = .ok (.if_icmp .ge 42, 3) := by decide +kernel
theorem d_M_isRule_219 : decode prog_14_method_54_code 219 = .ok (.aload_n 0, 1) := by decide +kernel
theorem d_M_isRule_220 : decode prog_14_method_54_code 220 = .ok (.getfield 38, 3) := by decide +kernel
theorem d_M_isRule_223 : decode prog_14_method_54_code 223 = .ok (.iload 6, 2) := by decide +kernel
theorem d_M_isRule_225 : decode prog_14_method_54_code 225 = .ok (.laload, 1) := by decide +kernel
theorem d_M_isRule_226 : decode prog_14_method_54_code 226 = .ok (.bipush 62, 2) := by decide +kernel
theorem d_M_isRule_228 : decode prog_14_method_54_code 228 = .ok (.invokestatic 80, 3) := by decide +kernel
theorem d_M_isRule_231 : decode prog_14_method_54_code 231 = .ok (.ifCond .eq 21, 3) := by decide +kernel
theorem d_M_isRule_234 : decode prog_14_method_54_code 234 = .ok (.aload_n 0, 1) := by decide +kernel
theorem d_M_isRule_235 : decode prog_14_method_54_code 235 = .ok (.dup, 1) := by decide +kernel
theorem d_M_isRule_236 : decode prog_14_method_54_code 236 = .ok (.getfield 211, 3) := by decide +kernel
theorem d_M_isRule_239 : decode prog_14_method_54_code 239 = .ok (.lconst 1, 1) := by decide +kernel
theorem d_M_isRule_240 : decode prog_14_method_54_code 240 = .ok (.aload_n 0, 1) := by decide +kernel
theorem d_M_isRule_241 : decode prog_14_method_54_code 241 = .ok (.getfield 44, 3) := by decide +kernel
theorem d_M_isRule_244 : decode prog_14_method_54_code 244 = .ok (.iload 6, 2) := by decide +kernel
theorem d_M_isRule_246 : decode prog_14_method_54_code 246 = .ok (.iaload, 1) := by decide +kernel
theorem d_M_isRule_247 : decode prog_14_method_54_code 247 = .ok (.lshl, 1) := by decide +kernel
theorem d_M_isRule_248 : decode prog_14_method_54_code 248 = .ok (.lor, 1) := by decide +kernel
theorem d_M_isRule_249 : decode prog_14_method_54_code 249 = .ok (.putfield 211, 3) := by decide +kernel
theorem d_M_isRule_252 : decode prog_14_method_54_code 252 = .ok (.iinc 6 1, 3) := by decide +kernel
theorem d_M_isRule_255 : decode prog_14_method_54_code 255 = .ok (.goto (-43), 3) := by decide +kernel
theorem d_M_isRule_258 : decode prog_14_method_54_code 258 = .ok (.iconst 1, 1) := by decide +kernel
theorem d_M_isRule_259 : decode prog_14_method_54_code 259 = .ok (.ireturn, 1) := by decide +kernel
def cf_M_isRule_B212  (K212 : Int32 → Int32 → Wd → Prop) (P : Int32 → Wd → Prop) (x5 : Int32) (x6 : Int32) (w : Wd) : Prop :=
  ((x5 ≤ x6 → P (1 : Int32) w) ∧ (¬ x5 ≤ x6 → vp_in x6 64 ∧ cf_M_has (w.2 38 x6.toNatClampNeg) (62 : Int32) (fun r2 => ((r2 = 0 → ∀ v3, v3 = x6 + (1 : Int32) → K212 x5 v3 w) ∧ (¬ r2 = 0 → vp_in x6 64 ∧ ∀ w4, w4 = wL w 30 13 ((w.2 30 13) ||| (lshl (1 : Int64) (w.1 40 x6.toNatClampNeg))) → ∀ v5, v5 = x6 + (1 : Int32) → K212 x5 v5 w4)))))
def cf_M_isRule_L212   (P : Int32 → Wd → Prop) : Nat → Int32 → Int32 → Wd → Prop
  | 0 => fun x5 x6 w => False
  | n + 1 => fun x5 x6 w => cf_M_isRule_B212 (cf_M_isRule_L212 P n) P x5 x6 w
def cf_M_isRule_B150  (K6 : Int64 → Int32 → Int32 → Int32 → Int32 → Wd → Prop) (K150 : Int64 → Int32 → Int32 → Int32 → Int32 → Int64 → Int32 → Wd → Prop) (P : Int32 → Wd → Prop) (x1 : Int64) (x3 : Int32) (x4 : Int32) (x5 : Int32) (x6 : Int32) (x7 : Int64) (x11 : Int32) (w : Wd) : Prop :=
  ((x5 ≤ x11 → ∀ v14, v14 = x5 + (1 : Int32) → ∀ v15, v15 = x6 + (1 : Int32) → K6 x1 x3 x4 v14 v15 w) ∧ (¬ x5 ≤ x11 → vp_in x11 64 ∧ vp_in x5 64 ∧ cf_M_has (w.2 38 x11.toNatClampNeg) (w.1 40 x5.toNatClampNeg) (fun r16 => ((r16 = 0 → ∀ v17, v17 = x11 + (1 : Int32) → K150 x1 x3 x4 x5 x6 x7 v17 w) ∧ (¬ r16 = 0 → vp_in x11 64 ∧ vp_in x11 64 ∧ ∀ w18, w18 = wL w 38 x11.toNatClampNeg ((w.2 38 x11.toNatClampNeg) ^^^ x7) → ∀ v19, v19 = x11 + (1 : Int32) → K150 x1 x3 x4 x5 x6 x7 v19 w18)))))
def cf_M_isRule_L150  (K6 : Int64 → Int32 → Int32 → Int32 → Int32 → Wd → Prop) (P : Int32 → Wd → Prop) : Nat → Int64 → Int32 → Int32 → Int32 → Int32 → Int64 → Int32 → Wd → Prop
  | 0 => fun x1 x3 x4 x5 x6 x7 x11 w => False
  | n + 1 => fun x1 x3 x4 x5 x6 x7 x11 w => cf_M_isRule_B150 K6 (cf_M_isRule_L150 K6 P n) P x1 x3 x4 x5 x6 x7 x11 w
def cf_M_isRule_B116  (K6 : Int64 → Int32 → Int32 → Int32 → Int32 → Wd → Prop) (P : Int32 → Wd → Prop) (x1 : Int64) (x3 : Int32) (x4 : Int32) (x5 : Int32) (x6 : Int32) (x7 : Int64) (x9 : Int64) (w : Wd) : Prop :=
  ((¬ x9 = (0 : Int64) → cf_M_degree x9 (fun r11 => vp_in x5 64 ∧ ∀ w12, w12 = wI w 40 x5.toNatClampNeg r11 → vp_in x5 64 ∧ ∀ w13, w13 = wL w12 38 x5.toNatClampNeg x7 → ∃ n, cf_M_isRule_L150 K6 P n x1 x3 x4 x5 x6 x7 (0 : Int32) w13)) ∧ (x9 = (0 : Int64) → ∀ v20, v20 = x6 + (1 : Int32) → K6 x1 x3 x4 x5 v20 w))
def cf_M_isRule_B50  (K6 : Int64 → Int32 → Int32 → Int32 → Int32 → Wd → Prop) (K50 : Int64 → Int32 → Int32 → Int32 → Int32 → Int64 → Int32 → Wd → Prop) (P : Int32 → Wd → Prop) (x1 : Int64) (x3 : Int32) (x4 : Int32) (x5 : Int32) (x6 : Int32) (x7 : Int64) (x9 : Int32) (w : Wd) : Prop :=
  ((x5 ≤ x9 → cf_M_allOnes (62 : Int32) (fun r9 => ∀ v10, v10 = x7 &&& r9 → ((¬ v10 = (0 : Int64) → cf_M_isRule_B116 K6 P x1 x3 x4 x5 x6 x7 v10 w) ∧ (v10 = (0 : Int64) → ((x7 = (0 : Int64) → cf_M_isRule_B116 K6 P x1 x3 x4 x5 x6 x7 v10 w) ∧ (¬ x7 = (0 : Int64) → P (0 : Int32) w)))))) ∧ (¬ x5 ≤ x9 → vp_in x9 64 ∧ cf_M_has x7 (w.1 40 x9.toNatClampNeg) (fun r21 => ((r21 = 0 → ∀ v22, v22 = x9 + (1 : Int32) → K50 x1 x3 x4 x5 x6 x7 v22 w) ∧ (¬ r21 = 0 → vp_in x9 64 ∧ ∀ v23, v23 = x7 ^^^ (w.2 38 x9.toNatClampNeg) → ∀ v24, v24 = x9 + (1 : Int32) → K50 x1 x3 x4 x5 x6 v23 v24 w)))))
def cf_M_isRule_L50  (K6 : Int64 → Int32 → Int32 → Int32 → Int32 → Wd → Prop) (P : Int32 → Wd → Prop) : Nat → Int64 → Int32 → Int32 → Int32 → Int32 → Int64 → Int32 → Wd → Prop
  | 0 => fun x1 x3 x4 x5 x6 x7 x9 w => False
  | n + 1 => fun x1 x3 x4 x5 x6 x7 x9 w => cf_M_isRule_B50 K6 (cf_M_isRule_L50 K6 P n) P x1 x3 x4 x5 x6 x7 x9 w
def cf_M_isRule_B6  (K6 : Int64 → Int32 → Int32 → Int32 → Int32 → Wd → Prop) (P : Int32 → Wd → Prop) (x1 : Int64) (x3 : Int32) (x4 : Int32) (x5 : Int32) (x6 : Int32) (w : Wd) : Prop :=
  ((x3 ≤ (x6 + x4) → ∀ w1, w1 = wL w 30 13 (0 : Int64) → ∃ n, cf_M_isRule_L212 P n x5 (0 : Int32) w1) ∧ (¬ x3 ≤ (x6 + x4) → cf_M_allOnes x4 (fun r6 => ∀ v7, v7 = (lushr x1 x6) &&& r6 → cf_M_has x1 (x6 + x4) (fun r8 => ((r8 = 0 → ∃ n, cf_M_isRule_L50 K6 P n x1 x3 x4 x5 x6 v7 (0 : Int32) w) ∧ (¬ r8 = 0 → ∀ v25, v25 = v7 ||| (4611686018427387904 : Int64) → ∃ n, cf_M_isRule_L50 K6 P n x1 x3 x4 x5 x6 v25 (0 : Int32) w))))))
def cf_M_isRule_L6   (P : Int32 → Wd → Prop) : Nat → Int64 → Int32 → Int32 → Int32 → Int32 → Wd → Prop
  | 0 => fun x1 x3 x4 x5 x6 w => False
  | n + 1 => fun x1 x3 x4 x5 x6 w => cf_M_isRule_B6 (cf_M_isRule_L6 P n) P x1 x3 x4 x5 x6 w
def cf_M_isRule (a0 : Int64) (a1 : Int32) (a2 : Int32) (w : Wd) (P : Int32 → Wd → Prop) : Prop :=
  ∃ n, cf_M_isRule_L6 P n a0 a1 a2 (0 : Int32) (0 : Int32) w
theorem cf_M_isRule_B212_ok {g : ayG} {d : Nat} (hd : 1 ≤ d)   (w : Wd) (K212 : Int32 → Int32 → Wd → Prop) (P : Int32 → Wd → Prop) (Q : Option Value → Wd → Prop) (hQ : ∀ x w2, P x w2 → Q (some (.int x)) w2) (hK212 : ∀ (x5 : Int32) (x6 : Int32) (w : Wd), (K212 x5 x6 w → wp g (fun _ => True) y_M_isRule prog_14_method_54_code 12 (some FieldType.boolean) d 212 [(0, .ref (g.1 + 30)), (5, .int x5), (6, .int x6)] [] w Q)) (x5 : Int32) (x6 : Int32) (h : cf_M_isRule_B212 K212 P x5 x6 w) : wp g (fun _ => True) y_M_isRule prog_14_method_54_code 12 (some FieldType.boolean) d 212 [(0, .ref (g.1 + 30)), (5, .int x5), (6, .int x6)] [] w Q := by
  unfold cf_M_isRule_B212 at h
  refine am_iload d_M_isRule_212 2 rfl ?_
  refine am_iload d_M_isRule_214 1 rfl ?_
  refine am_icmp_ge (tgt := 258) d_M_isRule_216 (by decide) (fun c216 => ?_) (fun c216 => ?_)
  · have h := h.1 c216
    refine am_iconst (v := 1) d_M_isRule_258 rfl ?_
    exact am_ireturn d_M_isRule_259 rfl rfl (hQ (1 : Int32) w h)
  · have h := h.2 c216
    refine am_aload_n d_M_isRule_219 0 rfl ?_
    refine am_getf (T := F_M) (fs := ob_M g w 30) (C := R_M) (N := 35) (ci := 10) 11 d_M_isRule_220 wd_1088 rfl (by decide) (el_M (show ay_sh 30 = _ from rfl)) rfl i_M (by decide) rfl ?_
    refine am_iload d_M_isRule_223 2 rfl ?_
    have hi225 := h.1
    have h := h.2
    refine am_laload d_M_isRule_225 (show ay_sh 38 = _ from rfl) hi225 ?_
    refine am_bipush (v := 62) d_M_isRule_226 rfl ?_
    refine am_callS (d2 := d - 1) [.long (w.2 38 x6.toNatClampNeg), .int (62 : Int32)] d_M_isRule_228 mi_M_has wd_1212 wd_1213 (by omega) rfl rfl (Nat.le_of_ble_eq_true rfl) ?_
    refine Call.post ?_ (cf_M_has_ok (by omega) (w.2 38 x6.toNatClampNeg) (62 : Int32)  w _ h)
    rintro _ _ ⟨r2, rfl, rfl, h⟩
    show wp g (fun _ => True) y_M_isRule prog_14_method_54_code 12 (some FieldType.boolean) d 231 [(0, .ref (g.1 + 30)), (5, .int x5), (6, .int x6)] [.int r2] w Q
    refine am_if_eq (tgt := 252) d_M_isRule_231 (by decide) (fun c231 => ?_) (fun c231 => ?_)
    · have h := h.1 c231
      obtain ⟨v3, ev3⟩ : ∃ z : Int32, z = x6 + (1 : Int32) := ⟨_, rfl⟩
      have h := h v3 ev3
      refine am_iinc (v := v3) (l' := [(6, .int v3), (0, .ref (g.1 + 30)), (5, .int x5)]) d_M_isRule_252 2 rfl (by rw [ev3]; rfl) (by decide) rfl ?_
      refine am_goto (tgt := 212) d_M_isRule_255 (by decide) ?_
      refine am_sub [1, 2, 0] rfl ?_
      exact hK212 x5 v3 w h
    · have h := h.2 c231
      refine am_aload_n d_M_isRule_234 0 rfl ?_
      refine am_dup d_M_isRule_235 rfl ?_
      refine am_getf (T := F_M) (fs := ob_M g w 30) (C := R_M) (N := 35) (ci := 10) 13 d_M_isRule_236 wd_1090 rfl (by decide) (el_M (show ay_sh 30 = _ from rfl)) rfl i_M (by decide) rfl ?_
      refine am_lconst (v := 1) d_M_isRule_239 rfl ?_
      refine am_aload_n d_M_isRule_240 0 rfl ?_
      refine am_getf (T := F_M) (fs := ob_M g w 30) (C := R_M) (N := 35) (ci := 10) 14 d_M_isRule_241 wd_1091 rfl (by decide) (el_M (show ay_sh 30 = _ from rfl)) rfl i_M (by decide) rfl ?_
      refine am_iload d_M_isRule_244 2 rfl ?_
      have hi246 := h.1
      have h := h.2
      refine am_iaload d_M_isRule_246 (show ay_sh 40 = _ from rfl) hi246 ?_
      refine am_lshl d_M_isRule_247 ?_
      refine am_lor d_M_isRule_248 ?_
      refine am_putf (w' := wL w 30 13 ((w.2 30 13) ||| (lshl (1 : Int64) (w.1 40 x6.toNatClampNeg)))) (ty := .long) (T := F_M) (fs := ob_M g w 30) (C := R_M) (N := 35) (ci := 10) 13 d_M_isRule_249 wd_1090 rfl (by decide) (el_M (show ay_sh 30 = _ from rfl)) rfl i_M (by decide) G_M ty_M n_M rfl (ty_M 13 (by decide)) rfl rfl (Nat.le_of_ble_eq_true rfl) ((el_M (show ay_sh 30 = _ from rfl)).trans (by rw [pf_M_solution])) wL_o ?_
      obtain ⟨w4, ew4⟩ : ∃ z, z = wL w 30 13 ((w.2 30 13) ||| (lshl (1 : Int64) (w.1 40 x6.toNatClampNeg))) := ⟨_, rfl⟩
      rw [← ew4]
      have h := h w4 ew4
      obtain ⟨v5, ev5⟩ : ∃ z : Int32, z = x6 + (1 : Int32) := ⟨_, rfl⟩
      have h := h v5 ev5
      refine am_iinc (v := v5) (l' := [(6, .int v5), (0, .ref (g.1 + 30)), (5, .int x5)]) d_M_isRule_252 2 rfl (by rw [ev5]; rfl) (by decide) rfl ?_
      refine am_goto (tgt := 212) d_M_isRule_255 (by decide) ?_
      refine am_sub [1, 2, 0] rfl ?_
      exact hK212 x5 v5 w4 h
theorem cf_M_isRule_L212_ok {g : ayG} {d : Nat} (hd : 1 ≤ d)    (P : Int32 → Wd → Prop) (Q : Option Value → Wd → Prop) (hQ : ∀ x w2, P x w2 → Q (some (.int x)) w2)  : ∀ (n : Nat) (x5 : Int32) (x6 : Int32) (w : Wd) (h : cf_M_isRule_L212 P n x5 x6 w), wp g (fun _ => True) y_M_isRule prog_14_method_54_code 12 (some FieldType.boolean) d 212 [(0, .ref (g.1 + 30)), (5, .int x5), (6, .int x6)] [] w Q
  | 0, x5, x6, w, h => False.elim h
  | n + 1, x5, x6, w, h => cf_M_isRule_B212_ok hd   w (cf_M_isRule_L212 P n) P Q hQ (fun x5 x6 w h => cf_M_isRule_L212_ok hd    P Q hQ  n x5 x6 w h) x5 x6 h
theorem cf_M_isRule_B150_ok {g : ayG} {d : Nat} (hd : 1 ≤ d)   (w : Wd) (K6 : Int64 → Int32 → Int32 → Int32 → Int32 → Wd → Prop) (K150 : Int64 → Int32 → Int32 → Int32 → Int32 → Int64 → Int32 → Wd → Prop) (P : Int32 → Wd → Prop) (Q : Option Value → Wd → Prop) (hQ : ∀ x w2, P x w2 → Q (some (.int x)) w2) (hK6 : ∀ (x1 : Int64) (x3 : Int32) (x4 : Int32) (x5 : Int32) (x6 : Int32) (w : Wd), (K6 x1 x3 x4 x5 x6 w → wp g (fun _ => True) y_M_isRule prog_14_method_54_code 12 (some FieldType.boolean) d 6 [(0, .ref (g.1 + 30)), (1, .long x1), (3, .int x3), (4, .int x4), (5, .int x5), (6, .int x6)] [] w Q)) (hK150 : ∀ (x1 : Int64) (x3 : Int32) (x4 : Int32) (x5 : Int32) (x6 : Int32) (x7 : Int64) (x11 : Int32) (w : Wd), (K150 x1 x3 x4 x5 x6 x7 x11 w → wp g (fun _ => True) y_M_isRule prog_14_method_54_code 12 (some FieldType.boolean) d 150 [(0, .ref (g.1 + 30)), (1, .long x1), (3, .int x3), (4, .int x4), (5, .int x5), (6, .int x6), (7, .long x7), (11, .int x11)] [] w Q)) (x1 : Int64) (x3 : Int32) (x4 : Int32) (x5 : Int32) (x6 : Int32) (x7 : Int64) (x11 : Int32) (h : cf_M_isRule_B150 K6 K150 P x1 x3 x4 x5 x6 x7 x11 w) : wp g (fun _ => True) y_M_isRule prog_14_method_54_code 12 (some FieldType.boolean) d 150 [(0, .ref (g.1 + 30)), (1, .long x1), (3, .int x3), (4, .int x4), (5, .int x5), (6, .int x6), (7, .long x7), (11, .int x11)] [] w Q := by
  unfold cf_M_isRule_B150 at h
  refine am_iload d_M_isRule_150 7 rfl ?_
  refine am_iload d_M_isRule_152 4 rfl ?_
  refine am_icmp_ge (tgt := 195) d_M_isRule_154 (by decide) (fun c154 => ?_) (fun c154 => ?_)
  · have h := h.1 c154
    obtain ⟨v14, ev14⟩ : ∃ z : Int32, z = x5 + (1 : Int32) := ⟨_, rfl⟩
    have h := h v14 ev14
    refine am_iinc (v := v14) (l' := [(5, .int v14), (0, .ref (g.1 + 30)), (1, .long x1), (3, .int x3), (4, .int x4), (6, .int x6), (7, .long x7), (11, .int x11)]) d_M_isRule_195 4 rfl (by rw [ev14]; rfl) (by decide) rfl ?_
    obtain ⟨v15, ev15⟩ : ∃ z : Int32, z = x6 + (1 : Int32) := ⟨_, rfl⟩
    have h := h v15 ev15
    refine am_iinc (v := v15) (l' := [(6, .int v15), (5, .int v14), (0, .ref (g.1 + 30)), (1, .long x1), (3, .int x3), (4, .int x4), (7, .long x7), (11, .int x11)]) d_M_isRule_198 5 rfl (by rw [ev15]; rfl) (by decide) rfl ?_
    refine am_goto (tgt := 6) d_M_isRule_201 (by decide) ?_
    refine am_sub [2, 3, 4, 5, 1, 0] rfl ?_
    exact hK6 x1 x3 x4 v14 v15 w h
  · have h := h.2 c154
    refine am_aload_n d_M_isRule_157 0 rfl ?_
    refine am_getf (T := F_M) (fs := ob_M g w 30) (C := R_M) (N := 35) (ci := 10) 11 d_M_isRule_158 wd_1088 rfl (by decide) (el_M (show ay_sh 30 = _ from rfl)) rfl i_M (by decide) rfl ?_
    refine am_iload d_M_isRule_161 7 rfl ?_
    have hi163 := h.1
    have h := h.2
    refine am_laload d_M_isRule_163 (show ay_sh 38 = _ from rfl) hi163 ?_
    refine am_aload_n d_M_isRule_164 0 rfl ?_
    refine am_getf (T := F_M) (fs := ob_M g w 30) (C := R_M) (N := 35) (ci := 10) 14 d_M_isRule_165 wd_1091 rfl (by decide) (el_M (show ay_sh 30 = _ from rfl)) rfl i_M (by decide) rfl ?_
    refine am_iload d_M_isRule_168 4 rfl ?_
    have hi170 := h.1
    have h := h.2
    refine am_iaload d_M_isRule_170 (show ay_sh 40 = _ from rfl) hi170 ?_
    refine am_callS (d2 := d - 1) [.long (w.2 38 x11.toNatClampNeg), .int (w.1 40 x5.toNatClampNeg)] d_M_isRule_171 mi_M_has wd_1212 wd_1213 (by omega) rfl rfl (Nat.le_of_ble_eq_true rfl) ?_
    refine Call.post ?_ (cf_M_has_ok (by omega) (w.2 38 x11.toNatClampNeg) (w.1 40 x5.toNatClampNeg)  w _ h)
    rintro _ _ ⟨r16, rfl, rfl, h⟩
    show wp g (fun _ => True) y_M_isRule prog_14_method_54_code 12 (some FieldType.boolean) d 174 [(0, .ref (g.1 + 30)), (1, .long x1), (3, .int x3), (4, .int x4), (5, .int x5), (6, .int x6), (7, .long x7), (11, .int x11)] [.int r16] w Q
    refine am_if_eq (tgt := 189) d_M_isRule_174 (by decide) (fun c174 => ?_) (fun c174 => ?_)
    · have h := h.1 c174
      obtain ⟨v17, ev17⟩ : ∃ z : Int32, z = x11 + (1 : Int32) := ⟨_, rfl⟩
      have h := h v17 ev17
      refine am_iinc (v := v17) (l' := [(11, .int v17), (0, .ref (g.1 + 30)), (1, .long x1), (3, .int x3), (4, .int x4), (5, .int x5), (6, .int x6), (7, .long x7)]) d_M_isRule_189 7 rfl (by rw [ev17]; rfl) (by decide) rfl ?_
      refine am_goto (tgt := 150) d_M_isRule_192 (by decide) ?_
      refine am_sub [1, 2, 3, 4, 5, 6, 7, 0] rfl ?_
      exact hK150 x1 x3 x4 x5 x6 x7 v17 w h
    · have h := h.2 c174
      refine am_aload_n d_M_isRule_177 0 rfl ?_
      refine am_getf (T := F_M) (fs := ob_M g w 30) (C := R_M) (N := 35) (ci := 10) 11 d_M_isRule_178 wd_1088 rfl (by decide) (el_M (show ay_sh 30 = _ from rfl)) rfl i_M (by decide) rfl ?_
      refine am_iload d_M_isRule_181 7 rfl ?_
      refine am_dup2_11 d_M_isRule_183 rfl rfl ?_
      have hi184 := h.1
      have h := h.2
      refine am_laload d_M_isRule_184 (show ay_sh 38 = _ from rfl) hi184 ?_
      refine am_lload d_M_isRule_185 6 rfl ?_
      refine am_lxor d_M_isRule_187 ?_
      have hi188 := h.1
      have h := h.2
      refine am_lastore d_M_isRule_188 (show ay_sh 38 = _ from rfl) hi188 ?_
      obtain ⟨w18, ew18⟩ : ∃ z, z = wL w 38 x11.toNatClampNeg ((w.2 38 x11.toNatClampNeg) ^^^ x7) := ⟨_, rfl⟩
      rw [← ew18]
      have h := h w18 ew18
      obtain ⟨v19, ev19⟩ : ∃ z : Int32, z = x11 + (1 : Int32) := ⟨_, rfl⟩
      have h := h v19 ev19
      refine am_iinc (v := v19) (l' := [(11, .int v19), (0, .ref (g.1 + 30)), (1, .long x1), (3, .int x3), (4, .int x4), (5, .int x5), (6, .int x6), (7, .long x7)]) d_M_isRule_189 7 rfl (by rw [ev19]; rfl) (by decide) rfl ?_
      refine am_goto (tgt := 150) d_M_isRule_192 (by decide) ?_
      refine am_sub [1, 2, 3, 4, 5, 6, 7, 0] rfl ?_
      exact hK150 x1 x3 x4 x5 x6 x7 v19 w18 h
theorem cf_M_isRule_L150_ok {g : ayG} {d : Nat} (hd : 1 ≤ d)   (K6 : Int64 → Int32 → Int32 → Int32 → Int32 → Wd → Prop) (P : Int32 → Wd → Prop) (Q : Option Value → Wd → Prop) (hQ : ∀ x w2, P x w2 → Q (some (.int x)) w2) (hK6 : ∀ (x1 : Int64) (x3 : Int32) (x4 : Int32) (x5 : Int32) (x6 : Int32) (w : Wd), (K6 x1 x3 x4 x5 x6 w → wp g (fun _ => True) y_M_isRule prog_14_method_54_code 12 (some FieldType.boolean) d 6 [(0, .ref (g.1 + 30)), (1, .long x1), (3, .int x3), (4, .int x4), (5, .int x5), (6, .int x6)] [] w Q)) : ∀ (n : Nat) (x1 : Int64) (x3 : Int32) (x4 : Int32) (x5 : Int32) (x6 : Int32) (x7 : Int64) (x11 : Int32) (w : Wd) (h : cf_M_isRule_L150 K6 P n x1 x3 x4 x5 x6 x7 x11 w), wp g (fun _ => True) y_M_isRule prog_14_method_54_code 12 (some FieldType.boolean) d 150 [(0, .ref (g.1 + 30)), (1, .long x1), (3, .int x3), (4, .int x4), (5, .int x5), (6, .int x6), (7, .long x7), (11, .int x11)] [] w Q
  | 0, x1, x3, x4, x5, x6, x7, x11, w, h => False.elim h
  | n + 1, x1, x3, x4, x5, x6, x7, x11, w, h => cf_M_isRule_B150_ok hd   w K6 (cf_M_isRule_L150 K6 P n) P Q hQ hK6 (fun x1 x3 x4 x5 x6 x7 x11 w h => cf_M_isRule_L150_ok hd   K6 P Q hQ hK6 n x1 x3 x4 x5 x6 x7 x11 w h) x1 x3 x4 x5 x6 x7 x11 h
theorem cf_M_isRule_B116_ok {g : ayG} {d : Nat} (hd : 1 ≤ d)   (w : Wd) (K6 : Int64 → Int32 → Int32 → Int32 → Int32 → Wd → Prop) (P : Int32 → Wd → Prop) (Q : Option Value → Wd → Prop) (hQ : ∀ x w2, P x w2 → Q (some (.int x)) w2) (hK6 : ∀ (x1 : Int64) (x3 : Int32) (x4 : Int32) (x5 : Int32) (x6 : Int32) (w : Wd), (K6 x1 x3 x4 x5 x6 w → wp g (fun _ => True) y_M_isRule prog_14_method_54_code 12 (some FieldType.boolean) d 6 [(0, .ref (g.1 + 30)), (1, .long x1), (3, .int x3), (4, .int x4), (5, .int x5), (6, .int x6)] [] w Q)) (x1 : Int64) (x3 : Int32) (x4 : Int32) (x5 : Int32) (x6 : Int32) (x7 : Int64) (x9 : Int64) (h : cf_M_isRule_B116 K6 P x1 x3 x4 x5 x6 x7 x9 w) : wp g (fun _ => True) y_M_isRule prog_14_method_54_code 12 (some FieldType.boolean) d 116 [(0, .ref (g.1 + 30)), (1, .long x1), (3, .int x3), (4, .int x4), (5, .int x5), (6, .int x6), (7, .long x7), (9, .long x9)] [] w Q := by
  unfold cf_M_isRule_B116 at h
  refine am_lload d_M_isRule_116 7 rfl ?_
  refine am_lconst (v := 0) d_M_isRule_118 rfl ?_
  refine am_lif_ne (tgt := 126) d_M_isRule_119 d_M_isRule_120 (by decide) (fun c119 => ?_) (fun c119 => ?_)
  · have h := h.1 c119
    refine am_aload_n d_M_isRule_126 0 rfl ?_
    refine am_getf (T := F_M) (fs := ob_M g w 30) (C := R_M) (N := 35) (ci := 10) 14 d_M_isRule_127 wd_1091 rfl (by decide) (el_M (show ay_sh 30 = _ from rfl)) rfl i_M (by decide) rfl ?_
    refine am_iload d_M_isRule_130 4 rfl ?_
    refine am_lload d_M_isRule_132 7 rfl ?_
    refine am_callS (d2 := d - 1) [.long x9] d_M_isRule_134 mi_M_degree wd_1206 wd_1207 (by omega) rfl rfl (Nat.le_of_ble_eq_true rfl) ?_
    refine Call.post ?_ (cf_M_degree_ok (by omega) x9  w _ h)
    rintro _ _ ⟨r11, rfl, rfl, h⟩
    show wp g (fun _ => True) y_M_isRule prog_14_method_54_code 12 (some FieldType.boolean) d 137 [(0, .ref (g.1 + 30)), (1, .long x1), (3, .int x3), (4, .int x4), (5, .int x5), (6, .int x6), (7, .long x7), (9, .long x9)] [.int r11, .int x5, .ref (g.1 + 40)] w Q
    have hi137 := h.1
    have h := h.2
    refine am_iastore d_M_isRule_137 (show ay_sh 40 = _ from rfl) hi137 ?_
    obtain ⟨w12, ew12⟩ : ∃ z, z = wI w 40 x5.toNatClampNeg r11 := ⟨_, rfl⟩
    rw [← ew12]
    have h := h w12 ew12
    refine am_aload_n d_M_isRule_138 0 rfl ?_
    refine am_getf (T := F_M) (fs := ob_M g w12 30) (C := R_M) (N := 35) (ci := 10) 11 d_M_isRule_139 wd_1088 rfl (by decide) (el_M (show ay_sh 30 = _ from rfl)) rfl i_M (by decide) rfl ?_
    refine am_iload d_M_isRule_142 4 rfl ?_
    refine am_lload d_M_isRule_144 6 rfl ?_
    have hi146 := h.1
    have h := h.2
    refine am_lastore d_M_isRule_146 (show ay_sh 38 = _ from rfl) hi146 ?_
    obtain ⟨w13, ew13⟩ : ∃ z, z = wL w12 38 x5.toNatClampNeg x7 := ⟨_, rfl⟩
    rw [← ew13]
    have h := h w13 ew13
    refine am_iconst (v := 0) d_M_isRule_147 rfl ?_
    refine am_istore (l' := [(11, .int (0 : Int32)), (0, .ref (g.1 + 30)), (1, .long x1), (3, .int x3), (4, .int x4), (5, .int x5), (6, .int x6), (7, .long x7), (9, .long x9)]) d_M_isRule_148 (by decide) rfl ?_
    refine am_sub [1, 2, 3, 4, 5, 6, 7, 0] rfl ?_
    obtain ⟨n, h⟩ := h
    exact cf_M_isRule_L150_ok (by omega)   K6 P Q hQ hK6 n x1 x3 x4 x5 x6 x7 (0 : Int32) w13 h
  · have h := h.2 c119
    refine am_goto (tgt := 198) d_M_isRule_123 (by decide) ?_
    obtain ⟨v20, ev20⟩ : ∃ z : Int32, z = x6 + (1 : Int32) := ⟨_, rfl⟩
    have h := h v20 ev20
    refine am_iinc (v := v20) (l' := [(6, .int v20), (0, .ref (g.1 + 30)), (1, .long x1), (3, .int x3), (4, .int x4), (5, .int x5), (7, .long x7), (9, .long x9)]) d_M_isRule_198 5 rfl (by rw [ev20]; rfl) (by decide) rfl ?_
    refine am_goto (tgt := 6) d_M_isRule_201 (by decide) ?_
    refine am_sub [1, 2, 3, 4, 5, 0] rfl ?_
    exact hK6 x1 x3 x4 x5 v20 w h
theorem cf_M_isRule_B50_ok {g : ayG} {d : Nat} (hd : 1 ≤ d)   (w : Wd) (K6 : Int64 → Int32 → Int32 → Int32 → Int32 → Wd → Prop) (K50 : Int64 → Int32 → Int32 → Int32 → Int32 → Int64 → Int32 → Wd → Prop) (P : Int32 → Wd → Prop) (Q : Option Value → Wd → Prop) (hQ : ∀ x w2, P x w2 → Q (some (.int x)) w2) (hK6 : ∀ (x1 : Int64) (x3 : Int32) (x4 : Int32) (x5 : Int32) (x6 : Int32) (w : Wd), (K6 x1 x3 x4 x5 x6 w → wp g (fun _ => True) y_M_isRule prog_14_method_54_code 12 (some FieldType.boolean) d 6 [(0, .ref (g.1 + 30)), (1, .long x1), (3, .int x3), (4, .int x4), (5, .int x5), (6, .int x6)] [] w Q)) (hK50 : ∀ (x1 : Int64) (x3 : Int32) (x4 : Int32) (x5 : Int32) (x6 : Int32) (x7 : Int64) (x9 : Int32) (w : Wd), (K50 x1 x3 x4 x5 x6 x7 x9 w → wp g (fun _ => True) y_M_isRule prog_14_method_54_code 12 (some FieldType.boolean) d 50 [(0, .ref (g.1 + 30)), (1, .long x1), (3, .int x3), (4, .int x4), (5, .int x5), (6, .int x6), (7, .long x7), (9, .int x9)] [] w Q)) (x1 : Int64) (x3 : Int32) (x4 : Int32) (x5 : Int32) (x6 : Int32) (x7 : Int64) (x9 : Int32) (h : cf_M_isRule_B50 K6 K50 P x1 x3 x4 x5 x6 x7 x9 w) : wp g (fun _ => True) y_M_isRule prog_14_method_54_code 12 (some FieldType.boolean) d 50 [(0, .ref (g.1 + 30)), (1, .long x1), (3, .int x3), (4, .int x4), (5, .int x5), (6, .int x6), (7, .long x7), (9, .int x9)] [] w Q := by
  unfold cf_M_isRule_B50 at h
  refine am_iload d_M_isRule_50 7 rfl ?_
  refine am_iload d_M_isRule_52 4 rfl ?_
  refine am_icmp_ge (tgt := 90) d_M_isRule_54 (by decide) (fun c54 => ?_) (fun c54 => ?_)
  · have h := h.1 c54
    refine am_lload d_M_isRule_90 6 rfl ?_
    refine am_bipush (v := 62) d_M_isRule_92 rfl ?_
    refine am_callS (d2 := d - 1) [.int (62 : Int32)] d_M_isRule_94 mi_M_allOnes wd_1240 wd_1241 (by omega) rfl rfl (Nat.le_of_ble_eq_true rfl) ?_
    refine Call.post ?_ (cf_M_allOnes_ok (by omega) (62 : Int32)  w _ h)
    rintro _ _ ⟨r9, rfl, rfl, h⟩
    show wp g (fun _ => True) y_M_isRule prog_14_method_54_code 12 (some FieldType.boolean) d 97 [(0, .ref (g.1 + 30)), (1, .long x1), (3, .int x3), (4, .int x4), (5, .int x5), (6, .int x6), (7, .long x7), (9, .int x9)] [.long r9, .long x7] w Q
    refine am_land d_M_isRule_97 ?_
    refine am_topl (fun v10 ev10 => ?_)
    have h := h v10 ev10
    refine am_lstore (l' := [(9, .long v10), (0, .ref (g.1 + 30)), (1, .long x1), (3, .int x3), (4, .int x4), (5, .int x5), (6, .int x6), (7, .long x7)]) d_M_isRule_98 (by decide) rfl ?_
    refine am_lload d_M_isRule_100 0 rfl ?_
    refine am_lconst (v := 0) d_M_isRule_102 rfl ?_
    refine am_lif_ne (tgt := 116) d_M_isRule_103 d_M_isRule_104 (by decide) (fun c103 => ?_) (fun c103 => ?_)
    · have h := h.1 c103
      refine am_sub [1, 2, 3, 4, 5, 6, 7, 0] rfl ?_
      exact cf_M_isRule_B116_ok (by omega)   w K6 P Q hQ hK6 x1 x3 x4 x5 x6 x7 v10 h
    · have h := h.2 c103
      refine am_lload d_M_isRule_107 7 rfl ?_
      refine am_lconst (v := 0) d_M_isRule_109 rfl ?_
      refine am_lif_eq (tgt := 116) d_M_isRule_110 d_M_isRule_111 (by decide) (fun c110 => ?_) (fun c110 => ?_)
      · have h := h.1 c110
        refine am_sub [1, 2, 3, 4, 5, 6, 7, 0] rfl ?_
        exact cf_M_isRule_B116_ok (by omega)   w K6 P Q hQ hK6 x1 x3 x4 x5 x6 x7 v10 h
      · have h := h.2 c110
        refine am_iconst (v := 0) d_M_isRule_114 rfl ?_
        exact am_ireturn d_M_isRule_115 rfl rfl (hQ (0 : Int32) w h)
  · have h := h.2 c54
    refine am_lload d_M_isRule_57 6 rfl ?_
    refine am_aload_n d_M_isRule_59 0 rfl ?_
    refine am_getf (T := F_M) (fs := ob_M g w 30) (C := R_M) (N := 35) (ci := 10) 14 d_M_isRule_60 wd_1091 rfl (by decide) (el_M (show ay_sh 30 = _ from rfl)) rfl i_M (by decide) rfl ?_
    refine am_iload d_M_isRule_63 7 rfl ?_
    have hi65 := h.1
    have h := h.2
    refine am_iaload d_M_isRule_65 (show ay_sh 40 = _ from rfl) hi65 ?_
    refine am_callS (d2 := d - 1) [.long x7, .int (w.1 40 x9.toNatClampNeg)] d_M_isRule_66 mi_M_has wd_1212 wd_1213 (by omega) rfl rfl (Nat.le_of_ble_eq_true rfl) ?_
    refine Call.post ?_ (cf_M_has_ok (by omega) x7 (w.1 40 x9.toNatClampNeg)  w _ h)
    rintro _ _ ⟨r21, rfl, rfl, h⟩
    show wp g (fun _ => True) y_M_isRule prog_14_method_54_code 12 (some FieldType.boolean) d 69 [(0, .ref (g.1 + 30)), (1, .long x1), (3, .int x3), (4, .int x4), (5, .int x5), (6, .int x6), (7, .long x7), (9, .int x9)] [.int r21] w Q
    refine am_if_eq (tgt := 84) d_M_isRule_69 (by decide) (fun c69 => ?_) (fun c69 => ?_)
    · have h := h.1 c69
      obtain ⟨v22, ev22⟩ : ∃ z : Int32, z = x9 + (1 : Int32) := ⟨_, rfl⟩
      have h := h v22 ev22
      refine am_iinc (v := v22) (l' := [(9, .int v22), (0, .ref (g.1 + 30)), (1, .long x1), (3, .int x3), (4, .int x4), (5, .int x5), (6, .int x6), (7, .long x7)]) d_M_isRule_84 7 rfl (by rw [ev22]; rfl) (by decide) rfl ?_
      refine am_goto (tgt := 50) d_M_isRule_87 (by decide) ?_
      refine am_sub [1, 2, 3, 4, 5, 6, 7, 0] rfl ?_
      exact hK50 x1 x3 x4 x5 x6 x7 v22 w h
    · have h := h.2 c69
      refine am_lload d_M_isRule_72 6 rfl ?_
      refine am_aload_n d_M_isRule_74 0 rfl ?_
      refine am_getf (T := F_M) (fs := ob_M g w 30) (C := R_M) (N := 35) (ci := 10) 11 d_M_isRule_75 wd_1088 rfl (by decide) (el_M (show ay_sh 30 = _ from rfl)) rfl i_M (by decide) rfl ?_
      refine am_iload d_M_isRule_78 7 rfl ?_
      have hi80 := h.1
      have h := h.2
      refine am_laload d_M_isRule_80 (show ay_sh 38 = _ from rfl) hi80 ?_
      refine am_lxor d_M_isRule_81 ?_
      refine am_topl (fun v23 ev23 => ?_)
      have h := h v23 ev23
      refine am_lstore (l' := [(7, .long v23), (0, .ref (g.1 + 30)), (1, .long x1), (3, .int x3), (4, .int x4), (5, .int x5), (6, .int x6), (9, .int x9)]) d_M_isRule_82 (by decide) rfl ?_
      obtain ⟨v24, ev24⟩ : ∃ z : Int32, z = x9 + (1 : Int32) := ⟨_, rfl⟩
      have h := h v24 ev24
      refine am_iinc (v := v24) (l' := [(9, .int v24), (7, .long v23), (0, .ref (g.1 + 30)), (1, .long x1), (3, .int x3), (4, .int x4), (5, .int x5), (6, .int x6)]) d_M_isRule_84 7 rfl (by rw [ev24]; rfl) (by decide) rfl ?_
      refine am_goto (tgt := 50) d_M_isRule_87 (by decide) ?_
      refine am_sub [2, 3, 4, 5, 6, 7, 1, 0] rfl ?_
      exact hK50 x1 x3 x4 x5 x6 v23 v24 w h
theorem cf_M_isRule_L50_ok {g : ayG} {d : Nat} (hd : 1 ≤ d)   (K6 : Int64 → Int32 → Int32 → Int32 → Int32 → Wd → Prop) (P : Int32 → Wd → Prop) (Q : Option Value → Wd → Prop) (hQ : ∀ x w2, P x w2 → Q (some (.int x)) w2) (hK6 : ∀ (x1 : Int64) (x3 : Int32) (x4 : Int32) (x5 : Int32) (x6 : Int32) (w : Wd), (K6 x1 x3 x4 x5 x6 w → wp g (fun _ => True) y_M_isRule prog_14_method_54_code 12 (some FieldType.boolean) d 6 [(0, .ref (g.1 + 30)), (1, .long x1), (3, .int x3), (4, .int x4), (5, .int x5), (6, .int x6)] [] w Q)) : ∀ (n : Nat) (x1 : Int64) (x3 : Int32) (x4 : Int32) (x5 : Int32) (x6 : Int32) (x7 : Int64) (x9 : Int32) (w : Wd) (h : cf_M_isRule_L50 K6 P n x1 x3 x4 x5 x6 x7 x9 w), wp g (fun _ => True) y_M_isRule prog_14_method_54_code 12 (some FieldType.boolean) d 50 [(0, .ref (g.1 + 30)), (1, .long x1), (3, .int x3), (4, .int x4), (5, .int x5), (6, .int x6), (7, .long x7), (9, .int x9)] [] w Q
  | 0, x1, x3, x4, x5, x6, x7, x9, w, h => False.elim h
  | n + 1, x1, x3, x4, x5, x6, x7, x9, w, h => cf_M_isRule_B50_ok hd   w K6 (cf_M_isRule_L50 K6 P n) P Q hQ hK6 (fun x1 x3 x4 x5 x6 x7 x9 w h => cf_M_isRule_L50_ok hd   K6 P Q hQ hK6 n x1 x3 x4 x5 x6 x7 x9 w h) x1 x3 x4 x5 x6 x7 x9 h
theorem cf_M_isRule_B6_ok {g : ayG} {d : Nat} (hd : 1 ≤ d)   (w : Wd) (K6 : Int64 → Int32 → Int32 → Int32 → Int32 → Wd → Prop) (P : Int32 → Wd → Prop) (Q : Option Value → Wd → Prop) (hQ : ∀ x w2, P x w2 → Q (some (.int x)) w2) (hK6 : ∀ (x1 : Int64) (x3 : Int32) (x4 : Int32) (x5 : Int32) (x6 : Int32) (w : Wd), (K6 x1 x3 x4 x5 x6 w → wp g (fun _ => True) y_M_isRule prog_14_method_54_code 12 (some FieldType.boolean) d 6 [(0, .ref (g.1 + 30)), (1, .long x1), (3, .int x3), (4, .int x4), (5, .int x5), (6, .int x6)] [] w Q)) (x1 : Int64) (x3 : Int32) (x4 : Int32) (x5 : Int32) (x6 : Int32) (h : cf_M_isRule_B6 K6 P x1 x3 x4 x5 x6 w) : wp g (fun _ => True) y_M_isRule prog_14_method_54_code 12 (some FieldType.boolean) d 6 [(0, .ref (g.1 + 30)), (1, .long x1), (3, .int x3), (4, .int x4), (5, .int x5), (6, .int x6)] [] w Q := by
  unfold cf_M_isRule_B6 at h
  refine am_iload d_M_isRule_6 5 rfl ?_
  refine am_iload d_M_isRule_8 3 rfl ?_
  refine am_iadd d_M_isRule_10 ?_
  refine am_iload_n d_M_isRule_11 2 rfl ?_
  refine am_icmp_ge (tgt := 204) d_M_isRule_12 (by decide) (fun c12 => ?_) (fun c12 => ?_)
  · have h := h.1 c12
    refine am_aload_n d_M_isRule_204 0 rfl ?_
    refine am_lconst (v := 0) d_M_isRule_205 rfl ?_
    refine am_putf (w' := wL w 30 13 (0 : Int64)) (ty := .long) (T := F_M) (fs := ob_M g w 30) (C := R_M) (N := 35) (ci := 10) 13 d_M_isRule_206 wd_1090 rfl (by decide) (el_M (show ay_sh 30 = _ from rfl)) rfl i_M (by decide) G_M ty_M n_M rfl (ty_M 13 (by decide)) rfl rfl (Nat.le_of_ble_eq_true rfl) ((el_M (show ay_sh 30 = _ from rfl)).trans (by rw [pf_M_solution])) wL_o ?_
    obtain ⟨w1, ew1⟩ : ∃ z, z = wL w 30 13 (0 : Int64) := ⟨_, rfl⟩
    rw [← ew1]
    have h := h w1 ew1
    refine am_iconst (v := 0) d_M_isRule_209 rfl ?_
    refine am_istore (l' := [(6, .int (0 : Int32)), (0, .ref (g.1 + 30)), (1, .long x1), (3, .int x3), (4, .int x4), (5, .int x5)]) d_M_isRule_210 (by decide) rfl ?_
    refine am_sub [1, 5, 0] rfl ?_
    obtain ⟨n, h⟩ := h
    exact cf_M_isRule_L212_ok (by omega)    P Q hQ  n x5 (0 : Int32) w1 h
  · have h := h.2 c12
    refine am_lload_n d_M_isRule_15 1 rfl ?_
    refine am_iload d_M_isRule_16 5 rfl ?_
    refine am_lushr d_M_isRule_18 ?_
    refine am_iload d_M_isRule_19 3 rfl ?_
    refine am_callS (d2 := d - 1) [.int x4] d_M_isRule_21 mi_M_allOnes wd_1240 wd_1241 (by omega) rfl rfl (Nat.le_of_ble_eq_true rfl) ?_
    refine Call.post ?_ (cf_M_allOnes_ok (by omega) x4  w _ h)
    rintro _ _ ⟨r6, rfl, rfl, h⟩
    show wp g (fun _ => True) y_M_isRule prog_14_method_54_code 12 (some FieldType.boolean) d 24 [(0, .ref (g.1 + 30)), (1, .long x1), (3, .int x3), (4, .int x4), (5, .int x5), (6, .int x6)] [.long r6, .long (lushr x1 x6)] w Q
    refine am_land d_M_isRule_24 ?_
    refine am_topl (fun v7 ev7 => ?_)
    have h := h v7 ev7
    refine am_lstore (l' := [(7, .long v7), (0, .ref (g.1 + 30)), (1, .long x1), (3, .int x3), (4, .int x4), (5, .int x5), (6, .int x6)]) d_M_isRule_25 (by decide) rfl ?_
    refine am_lload_n d_M_isRule_27 2 rfl ?_
    refine am_iload d_M_isRule_28 6 rfl ?_
    refine am_iload d_M_isRule_30 4 rfl ?_
    refine am_iadd d_M_isRule_32 ?_
    refine am_callS (d2 := d - 1) [.long x1, .int (x6 + x4)] d_M_isRule_33 mi_M_has wd_1212 wd_1213 (by omega) rfl rfl (Nat.le_of_ble_eq_true rfl) ?_
    refine Call.post ?_ (cf_M_has_ok (by omega) x1 (x6 + x4)  w _ h)
    rintro _ _ ⟨r8, rfl, rfl, h⟩
    show wp g (fun _ => True) y_M_isRule prog_14_method_54_code 12 (some FieldType.boolean) d 36 [(7, .long v7), (0, .ref (g.1 + 30)), (1, .long x1), (3, .int x3), (4, .int x4), (5, .int x5), (6, .int x6)] [.int r8] w Q
    refine am_if_eq (tgt := 47) d_M_isRule_36 (by decide) (fun c36 => ?_) (fun c36 => ?_)
    · have h := h.1 c36
      refine am_iconst (v := 0) d_M_isRule_47 rfl ?_
      refine am_istore (l' := [(9, .int (0 : Int32)), (7, .long v7), (0, .ref (g.1 + 30)), (1, .long x1), (3, .int x3), (4, .int x4), (5, .int x5), (6, .int x6)]) d_M_isRule_48 (by decide) rfl ?_
      refine am_sub [2, 3, 4, 5, 6, 7, 1, 0] rfl ?_
      obtain ⟨n, h⟩ := h
      exact cf_M_isRule_L50_ok (by omega)   K6 P Q hQ hK6 n x1 x3 x4 x5 x6 v7 (0 : Int32) w h
    · have h := h.2 c36
      refine am_lload d_M_isRule_39 0 rfl ?_
      refine am_ldc2 (v := 4611686018427387904) d_M_isRule_41 wd_1377 ?_
      refine am_lor d_M_isRule_44 ?_
      refine am_topl (fun v25 ev25 => ?_)
      have h := h v25 ev25
      refine am_lstore (l' := [(7, .long v25), (0, .ref (g.1 + 30)), (1, .long x1), (3, .int x3), (4, .int x4), (5, .int x5), (6, .int x6)]) d_M_isRule_45 (by decide) rfl ?_
      refine am_iconst (v := 0) d_M_isRule_47 rfl ?_
      refine am_istore (l' := [(9, .int (0 : Int32)), (7, .long v25), (0, .ref (g.1 + 30)), (1, .long x1), (3, .int x3), (4, .int x4), (5, .int x5), (6, .int x6)]) d_M_isRule_48 (by decide) rfl ?_
      refine am_sub [2, 3, 4, 5, 6, 7, 1, 0] rfl ?_
      obtain ⟨n, h⟩ := h
      exact cf_M_isRule_L50_ok (by omega)   K6 P Q hQ hK6 n x1 x3 x4 x5 x6 v25 (0 : Int32) w h
theorem cf_M_isRule_L6_ok {g : ayG} {d : Nat} (hd : 1 ≤ d)    (P : Int32 → Wd → Prop) (Q : Option Value → Wd → Prop) (hQ : ∀ x w2, P x w2 → Q (some (.int x)) w2)  : ∀ (n : Nat) (x1 : Int64) (x3 : Int32) (x4 : Int32) (x5 : Int32) (x6 : Int32) (w : Wd) (h : cf_M_isRule_L6 P n x1 x3 x4 x5 x6 w), wp g (fun _ => True) y_M_isRule prog_14_method_54_code 12 (some FieldType.boolean) d 6 [(0, .ref (g.1 + 30)), (1, .long x1), (3, .int x3), (4, .int x4), (5, .int x5), (6, .int x6)] [] w Q
  | 0, x1, x3, x4, x5, x6, w, h => False.elim h
  | n + 1, x1, x3, x4, x5, x6, w, h => cf_M_isRule_B6_ok hd   w (cf_M_isRule_L6 P n) P Q hQ (fun x1 x3 x4 x5 x6 w h => cf_M_isRule_L6_ok hd    P Q hQ  n x1 x3 x4 x5 x6 w h) x1 x3 x4 x5 x6 h
theorem cf_M_isRule_ok {g : ayG} {d : Nat} (hd : 1 ≤ d) (a0 : Int64) (a1 : Int32) (a2 : Int32)  (w : Wd) (P : Int32 → Wd → Prop) (h : cf_M_isRule a0 a1 a2 w P) : Call g y_M_isRule prog_14_method_54_code 12 (some FieldType.boolean) d [.ref (g.1 + 30), .long a0, .int a1, .int a2] w (fun (r : Option Value) (w2 : Wd) => ∃ x, r = some (.int x) ∧ P x w2) := by
  unfold cf_M_isRule at h
  refine am_enter mi_M_isRule (Nat.le_of_ble_eq_true rfl) ?_
  have hQ : ∀ x w2, P x w2 → (fun (r : Option Value) (w2 : Wd) => ∃ x, r = some (.int x) ∧ P x w2) (some (.int x)) w2 := fun x w2 h => ⟨x, rfl, h⟩
  generalize (fun (r : Option Value) (w2 : Wd) => ∃ x, r = some (.int x) ∧ P x w2) = Q at hQ ⊢
  show wp g (fun _ => True) y_M_isRule prog_14_method_54_code 12 (some FieldType.boolean) d 0 [(0, .ref (g.1 + 30)), (1, .long a0), (3, .int a1), (4, .int a2)] [] w Q
  refine am_iconst (v := 0) d_M_isRule_0 rfl ?_
  refine am_istore (l' := [(5, .int (0 : Int32)), (0, .ref (g.1 + 30)), (1, .long a0), (3, .int a1), (4, .int a2)]) d_M_isRule_1 (by decide) rfl ?_
  refine am_iconst (v := 0) d_M_isRule_3 rfl ?_
  refine am_istore (l' := [(6, .int (0 : Int32)), (5, .int (0 : Int32)), (0, .ref (g.1 + 30)), (1, .long a0), (3, .int a1), (4, .int a2)]) d_M_isRule_4 (by decide) rfl ?_
  refine am_sub [2, 3, 4, 5, 1, 0] rfl ?_
  obtain ⟨n, h⟩ := h
  exact cf_M_isRule_L6_ok (by omega)    P Q hQ  n a0 a1 a2 (0 : Int32) (0 : Int32) w h
theorem d_M_shortest_0 : decode prog_14_method_55_code 0 = .ok (.iload_n 3, 1) := by decide +kernel
theorem d_M_shortest_1 : decode prog_14_method_55_code 1 = .ok (.i2l, 1) := by decide +kernel
theorem d_M_shortest_2 : decode prog_14_method_55_code 2 = .ok (.lconst 1, 1) := by decide +kernel
theorem d_M_shortest_3 : decode prog_14_method_55_code 3 = .ok (.ldc2_w 214, 3) := by decide +kernel
theorem d_M_shortest_6 : decode prog_14_method_55_code 6 = .ok (.invokestatic 76, 3) := by decide +kernel
theorem d_M_shortest_9 : decode prog_14_method_55_code 9 = .ok (.ifCond .eq 26, 3) := by decide +kernel
theorem d_M_shortest_12 : decode prog_14_method_55_code 12 = .ok (.lload_n 1, 1) := by decide +kernel
theorem d_M_shortest_13 : decode prog_14_method_55_code 13 = .ok (.lconst 0, 1) := by decide +kernel
theorem d_M_shortest_14 : decode prog_14_method_55_code 14 = .ok (.iload_n 3, 1) := by decide +kernel
theorem d_M_shortest_15 : decode prog_14_method_55_code 15 = .ok (.invokestatic 122, 3) := by decide +kernel
theorem d_M_shortest_18 : decode prog_14_method_55_code 18 = .ok (.invokestatic 76, 3) := by decide +kernel
theorem d_M_shortest_21 : decode prog_14_method_55_code 21 = .ok (.ifCond .eq 14, 3) := by decide +kernel
theorem d_M_shortest_24 : decode prog_14_method_55_code 24 = .ok (.iload 4, 2) := by decide +kernel
theorem d_M_shortest_26 : decode prog_14_method_55_code 26 = .ok (.i2l, 1) := by decide +kernel
theorem d_M_shortest_27 : decode prog_14_method_55_code 27 = .ok (.lconst 0, 1) := by decide +kernel
theorem d_M_shortest_28 : decode prog_14_method_55_code 28 = .ok (.lconst 1, 1) := by decide +kernel
theorem d_M_shortest_29 : decode prog_14_method_55_code 29 = .ok (.invokestatic 76, 3) := by decide +kernel
theorem d_M_shortest_32 : decode prog_14_method_55_code 32 = .ok (.ifCond .ne 7, 3) := by decide +kernel
theorem d_M_shortest_35 : decode prog_14_method_55_code 35 = .ok (.ldc2_w 26, 3) := by decide +kernel
theorem d_M_shortest_38 : decode prog_14_method_55_code 38 = .ok (.lreturn, 1) := by decide +kernel
theorem d_M_shortest_39 : decode prog_14_method_55_code 39 = .ok (.iconst 0, 1) := by decide +kernel
theorem d_M_shortest_40 : decode prog_14_method_55_code 40 = .ok (.istore 5, 2) := by decide +kernel
theorem d_M_shortest_42 : decode prog_14_method_55_code 42 = .ok (.aload_n 0, 1) := by decide +kernel
theorem d_M_shortest_43 : decode prog_14_method_55_code 43 = .ok (.lload_n 1, 1) := by decide +kernel
theorem d_M_shortest_44 : decode prog_14_method_55_code 44 = .ok (.iload_n 3, 1) := by decide +kernel
theorem d_M_shortest_45 : decode prog_14_method_55_code 45 = .ok (.iload 5, 2) := by decide +kernel
theorem d_M_shortest_47 : decode prog_14_method_55_code 47 = .ok (.invokevirtual 216, 3) := by decide +kernel
theorem d_M_shortest_50 : decode prog_14_method_55_code 50 = .ok (.ifCond .ne 9, 3) := by decide +kernel
theorem d_M_shortest_53 : decode prog_14_method_55_code 53 = .ok (.iinc 5 1, 3) := by decide +kernel
theorem d_M_shortest_56 : decode prog_14_method_55_code 56 = .ok (.goto (-14), 3) := by decide +kernel
theorem d_M_shortest_59 : decode prog_14_method_55_code 59 = .ok (.iload 4, 2) := by decide +kernel
theorem d_M_shortest_61 : decode prog_14_method_55_code 61 = .ok (.ifCond .ne 7, 3) := by decide +kernel
theorem d_M_shortest_64 : decode prog_14_method_55_code 64 = .ok (.iload 5, 2) := by decide +kernel
theorem d_M_shortest_66 : decode prog_14_method_55_code 66 = .ok (.i2l, 1) := by decide +kernel
theorem d_M_shortest_67 : decode prog_14_method_55_code 67 = .ok (.lreturn, 1) := by decide +kernel
theorem d_M_shortest_68 : decode prog_14_method_55_code 68 = .ok (.iconst 2, 1) := by decide +kernel
theorem d_M_shortest_69 : decode prog_14_method_55_code 69 = .ok (.iload 5, 2) := by decide +kernel
theorem d_M_shortest_71 : decode prog_14_method_55_code 71 = .ok (.imul, 1) := by decide +kernel
theorem d_M_shortest_72 : decode prog_14_method_55_code 72 = .ok (.iload_n 3, 1) := by decide +kernel
theorem d_M_shortest_73 : decode prog_14_method_55_code 73 = .ok (.if_icmp .le 9, 3) := by decide +kernel
theorem d_M_shortest_76 : decode prog_14_method_55_code 76 = .ok (.ldc2_w 162, 3) := by decide +kernel
theorem d_M_shortest_79 : decode prog_14_method_55_code 79 = .ok (.goto 12, 3) := by decide +kernel
theorem d_M_shortest_82 : decode prog_14_method_55_code 82 = .ok (.lconst 1, 1) := by decide +kernel
theorem d_M_shortest_83 : decode prog_14_method_55_code 83 = .ok (.iload 5, 2) := by decide +kernel
theorem d_M_shortest_85 : decode prog_14_method_55_code 85 = .ok (.lshl, 1) := by decide +kernel
theorem d_M_shortest_86 : decode prog_14_method_55_code 86 = .ok (.aload_n 0, 1) := by decide +kernel
theorem d_M_shortest_87 : decode prog_14_method_55_code 87 = .ok (.getfield 211, 3) := by decide +kernel
theorem d_M_shortest_90 : decode prog_14_method_55_code 90 = .ok (.lor, 1) := by decide +kernel
theorem d_M_shortest_91 : decode prog_14_method_55_code 91 = .ok (.lreturn, 1) := by decide +kernel
def cf_M_shortest_B42  (K42 : Int64 → Int32 → Int32 → Int32 → Wd → Prop) (P : Int64 → Wd → Prop) (x1 : Int64) (x3 : Int32) (x4 : Int32) (x5 : Int32) (w : Wd) : Prop :=
  cf_M_isRule x1 x3 x5 w (fun r5 w6 => ((¬ r5 = 0 → ((¬ x4 = 0 → ((((2 : Int32) * x5) ≤ x3 → P ((lshl (1 : Int64) x5) ||| (w6.2 30 13)) w6) ∧ (¬ ((2 : Int32) * x5) ≤ x3 → P (-2 : Int64) w6))) ∧ (x4 = 0 → P x5.toInt64 w6))) ∧ (r5 = 0 → ∀ v7, v7 = x5 + (1 : Int32) → K42 x1 x3 x4 v7 w6)))
def cf_M_shortest_L42   (P : Int64 → Wd → Prop) : Nat → Int64 → Int32 → Int32 → Int32 → Wd → Prop
  | 0 => fun x1 x3 x4 x5 w => False
  | n + 1 => fun x1 x3 x4 x5 w => cf_M_shortest_B42 (cf_M_shortest_L42 P n) P x1 x3 x4 x5 w
def cf_M_shortest (a0 : Int64) (a1 : Int32) (a2 : Int32) (w : Wd) (P : Int64 → Wd → Prop) : Prop :=
  cf_M_in a1.toInt64 (1 : Int64) (60 : Int64) (fun r1 => ((r1 = 0 → P (-1 : Int64) w) ∧ (¬ r1 = 0 → cf_M_allOnes a1 (fun r2 => cf_M_in a0 (0 : Int64) r2 (fun r3 => ((r3 = 0 → P (-1 : Int64) w) ∧ (¬ r3 = 0 → cf_M_in a2.toInt64 (0 : Int64) (1 : Int64) (fun r4 => ((¬ r4 = 0 → ∃ n, cf_M_shortest_L42 P n a0 a1 a2 (0 : Int32) w) ∧ (r4 = 0 → P (-1 : Int64) w))))))))))
theorem cf_M_shortest_B42_ok {g : ayG} {d : Nat} (hd : 2 ≤ d)   (w : Wd) (K42 : Int64 → Int32 → Int32 → Int32 → Wd → Prop) (P : Int64 → Wd → Prop) (Q : Option Value → Wd → Prop) (hQ : ∀ x w2, P x w2 → Q (some (.long x)) w2) (hK42 : ∀ (x1 : Int64) (x3 : Int32) (x4 : Int32) (x5 : Int32) (w : Wd), (K42 x1 x3 x4 x5 w → wp g (fun _ => True) y_M_shortest prog_14_method_55_code 6 (some FieldType.long) d 42 [(0, .ref (g.1 + 30)), (1, .long x1), (3, .int x3), (4, .int x4), (5, .int x5)] [] w Q)) (x1 : Int64) (x3 : Int32) (x4 : Int32) (x5 : Int32) (h : cf_M_shortest_B42 K42 P x1 x3 x4 x5 w) : wp g (fun _ => True) y_M_shortest prog_14_method_55_code 6 (some FieldType.long) d 42 [(0, .ref (g.1 + 30)), (1, .long x1), (3, .int x3), (4, .int x4), (5, .int x5)] [] w Q := by
  unfold cf_M_shortest_B42 at h
  refine am_aload_n d_M_shortest_42 0 rfl ?_
  refine am_lload_n d_M_shortest_43 1 rfl ?_
  refine am_iload_n d_M_shortest_44 2 rfl ?_
  refine am_iload d_M_shortest_45 4 rfl ?_
  refine am_callV (C := y_M_isRule.cls) (d2 := d - 1) [.long x1, .int x3, .int x5] d_M_shortest_47 mi_M_isRule wd_1373 wd_1375 ws_M_isRule (by decide) (el_M (show ay_sh 30 = _ from rfl)) rfl rfl (by omega) rfl rfl (Nat.le_of_ble_eq_true rfl) ?_
  refine Call.post ?_ (cf_M_isRule_ok (by omega) x1 x3 x5  w _ h)
  rintro _ w6 ⟨r5, rfl, h⟩
  show wp g (fun _ => True) y_M_shortest prog_14_method_55_code 6 (some FieldType.long) d 50 [(0, .ref (g.1 + 30)), (1, .long x1), (3, .int x3), (4, .int x4), (5, .int x5)] [.int r5] w6 Q
  refine am_if_ne (tgt := 59) d_M_shortest_50 (by decide) (fun c50 => ?_) (fun c50 => ?_)
  · have h := h.1 c50
    refine am_iload d_M_shortest_59 3 rfl ?_
    refine am_if_ne (tgt := 68) d_M_shortest_61 (by decide) (fun c61 => ?_) (fun c61 => ?_)
    · have h := h.1 c61
      refine am_iconst (v := 2) d_M_shortest_68 rfl ?_
      refine am_iload d_M_shortest_69 4 rfl ?_
      refine am_imul d_M_shortest_71 ?_
      refine am_iload_n d_M_shortest_72 2 rfl ?_
      refine am_icmp_le (tgt := 82) d_M_shortest_73 (by decide) (fun c73 => ?_) (fun c73 => ?_)
      · have h := h.1 c73
        refine am_lconst (v := 1) d_M_shortest_82 rfl ?_
        refine am_iload d_M_shortest_83 4 rfl ?_
        refine am_lshl d_M_shortest_85 ?_
        refine am_aload_n d_M_shortest_86 0 rfl ?_
        refine am_getf (T := F_M) (fs := ob_M g w6 30) (C := R_M) (N := 35) (ci := 10) 13 d_M_shortest_87 wd_1090 rfl (by decide) (el_M (show ay_sh 30 = _ from rfl)) rfl i_M (by decide) rfl ?_
        refine am_lor d_M_shortest_90 ?_
        exact am_lreturn d_M_shortest_91 rfl (hQ ((lshl (1 : Int64) x5) ||| (w6.2 30 13)) w6 h)
      · have h := h.2 c73
        refine am_ldc2 (v := -2) d_M_shortest_76 wd_1267 ?_
        refine am_goto (tgt := 91) d_M_shortest_79 (by decide) ?_
        exact am_lreturn d_M_shortest_91 rfl (hQ (-2 : Int64) w6 h)
    · have h := h.2 c61
      refine am_iload d_M_shortest_64 4 rfl ?_
      refine am_i2l d_M_shortest_66 ?_
      exact am_lreturn d_M_shortest_67 rfl (hQ x5.toInt64 w6 h)
  · have h := h.2 c50
    obtain ⟨v7, ev7⟩ : ∃ z : Int32, z = x5 + (1 : Int32) := ⟨_, rfl⟩
    have h := h v7 ev7
    refine am_iinc (v := v7) (l' := [(5, .int v7), (0, .ref (g.1 + 30)), (1, .long x1), (3, .int x3), (4, .int x4)]) d_M_shortest_53 4 rfl (by rw [ev7]; rfl) (by decide) rfl ?_
    refine am_goto (tgt := 42) d_M_shortest_56 (by decide) ?_
    refine am_sub [1, 2, 3, 4, 0] rfl ?_
    exact hK42 x1 x3 x4 v7 w6 h
theorem cf_M_shortest_L42_ok {g : ayG} {d : Nat} (hd : 2 ≤ d)    (P : Int64 → Wd → Prop) (Q : Option Value → Wd → Prop) (hQ : ∀ x w2, P x w2 → Q (some (.long x)) w2)  : ∀ (n : Nat) (x1 : Int64) (x3 : Int32) (x4 : Int32) (x5 : Int32) (w : Wd) (h : cf_M_shortest_L42 P n x1 x3 x4 x5 w), wp g (fun _ => True) y_M_shortest prog_14_method_55_code 6 (some FieldType.long) d 42 [(0, .ref (g.1 + 30)), (1, .long x1), (3, .int x3), (4, .int x4), (5, .int x5)] [] w Q
  | 0, x1, x3, x4, x5, w, h => False.elim h
  | n + 1, x1, x3, x4, x5, w, h => cf_M_shortest_B42_ok hd   w (cf_M_shortest_L42 P n) P Q hQ (fun x1 x3 x4 x5 w h => cf_M_shortest_L42_ok hd    P Q hQ  n x1 x3 x4 x5 w h) x1 x3 x4 x5 h
theorem cf_M_shortest_ok {g : ayG} {d : Nat} (hd : 2 ≤ d) (a0 : Int64) (a1 : Int32) (a2 : Int32)  (w : Wd) (P : Int64 → Wd → Prop) (h : cf_M_shortest a0 a1 a2 w P) : Call g y_M_shortest prog_14_method_55_code 6 (some FieldType.long) d [.ref (g.1 + 30), .long a0, .int a1, .int a2] w (fun (r : Option Value) (w2 : Wd) => ∃ x, r = some (.long x) ∧ P x w2) := by
  unfold cf_M_shortest at h
  refine am_enter mi_M_shortest (Nat.le_of_ble_eq_true rfl) ?_
  have hQ : ∀ x w2, P x w2 → (fun (r : Option Value) (w2 : Wd) => ∃ x, r = some (.long x) ∧ P x w2) (some (.long x)) w2 := fun x w2 h => ⟨x, rfl, h⟩
  generalize (fun (r : Option Value) (w2 : Wd) => ∃ x, r = some (.long x) ∧ P x w2) = Q at hQ ⊢
  show wp g (fun _ => True) y_M_shortest prog_14_method_55_code 6 (some FieldType.long) d 0 [(0, .ref (g.1 + 30)), (1, .long a0), (3, .int a1), (4, .int a2)] [] w Q
  refine am_iload_n d_M_shortest_0 2 rfl ?_
  refine am_i2l d_M_shortest_1 ?_
  refine am_lconst (v := 1) d_M_shortest_2 rfl ?_
  refine am_ldc2 (v := 60) d_M_shortest_3 wd_1372 ?_
  refine am_callS (d2 := d - 1) [.long a1.toInt64, .long (1 : Int64), .long (60 : Int64)] d_M_shortest_6 mi_M_in wd_1192 wd_1193 (by omega) rfl rfl (Nat.le_of_ble_eq_true rfl) ?_
  refine Call.post ?_ (cf_M_in_ok (by omega) a1.toInt64 (1 : Int64) (60 : Int64)  w _ h)
  rintro _ _ ⟨r1, rfl, rfl, h⟩
  show wp g (fun _ => True) y_M_shortest prog_14_method_55_code 6 (some FieldType.long) d 9 [(0, .ref (g.1 + 30)), (1, .long a0), (3, .int a1), (4, .int a2)] [.int r1] w Q
  refine am_if_eq (tgt := 35) d_M_shortest_9 (by decide) (fun c9 => ?_) (fun c9 => ?_)
  · have h := h.1 c9
    refine am_ldc2 (v := -1) d_M_shortest_35 wd_1076 ?_
    exact am_lreturn d_M_shortest_38 rfl (hQ (-1 : Int64) w h)
  · have h := h.2 c9
    refine am_lload_n d_M_shortest_12 1 rfl ?_
    refine am_lconst (v := 0) d_M_shortest_13 rfl ?_
    refine am_iload_n d_M_shortest_14 2 rfl ?_
    refine am_callS (d2 := d - 1) [.int a1] d_M_shortest_15 mi_M_allOnes wd_1240 wd_1241 (by omega) rfl rfl (Nat.le_of_ble_eq_true rfl) ?_
    refine Call.post ?_ (cf_M_allOnes_ok (by omega) a1  w _ h)
    rintro _ _ ⟨r2, rfl, rfl, h⟩
    show wp g (fun _ => True) y_M_shortest prog_14_method_55_code 6 (some FieldType.long) d 18 [(0, .ref (g.1 + 30)), (1, .long a0), (3, .int a1), (4, .int a2)] [.long r2, .long (0 : Int64), .long a0] w Q
    refine am_callS (d2 := d - 1) [.long a0, .long (0 : Int64), .long r2] d_M_shortest_18 mi_M_in wd_1192 wd_1193 (by omega) rfl rfl (Nat.le_of_ble_eq_true rfl) ?_
    refine Call.post ?_ (cf_M_in_ok (by omega) a0 (0 : Int64) r2  w _ h)
    rintro _ _ ⟨r3, rfl, rfl, h⟩
    show wp g (fun _ => True) y_M_shortest prog_14_method_55_code 6 (some FieldType.long) d 21 [(0, .ref (g.1 + 30)), (1, .long a0), (3, .int a1), (4, .int a2)] [.int r3] w Q
    refine am_if_eq (tgt := 35) d_M_shortest_21 (by decide) (fun c21 => ?_) (fun c21 => ?_)
    · have h := h.1 c21
      refine am_ldc2 (v := -1) d_M_shortest_35 wd_1076 ?_
      exact am_lreturn d_M_shortest_38 rfl (hQ (-1 : Int64) w h)
    · have h := h.2 c21
      refine am_iload d_M_shortest_24 3 rfl ?_
      refine am_i2l d_M_shortest_26 ?_
      refine am_lconst (v := 0) d_M_shortest_27 rfl ?_
      refine am_lconst (v := 1) d_M_shortest_28 rfl ?_
      refine am_callS (d2 := d - 1) [.long a2.toInt64, .long (0 : Int64), .long (1 : Int64)] d_M_shortest_29 mi_M_in wd_1192 wd_1193 (by omega) rfl rfl (Nat.le_of_ble_eq_true rfl) ?_
      refine Call.post ?_ (cf_M_in_ok (by omega) a2.toInt64 (0 : Int64) (1 : Int64)  w _ h)
      rintro _ _ ⟨r4, rfl, rfl, h⟩
      show wp g (fun _ => True) y_M_shortest prog_14_method_55_code 6 (some FieldType.long) d 32 [(0, .ref (g.1 + 30)), (1, .long a0), (3, .int a1), (4, .int a2)] [.int r4] w Q
      refine am_if_ne (tgt := 39) d_M_shortest_32 (by decide) (fun c32 => ?_) (fun c32 => ?_)
      · have h := h.1 c32
        refine am_iconst (v := 0) d_M_shortest_39 rfl ?_
        refine am_istore (l' := [(5, .int (0 : Int32)), (0, .ref (g.1 + 30)), (1, .long a0), (3, .int a1), (4, .int a2)]) d_M_shortest_40 (by decide) rfl ?_
        refine am_sub [1, 2, 3, 4, 0] rfl ?_
        obtain ⟨n, h⟩ := h
        exact cf_M_shortest_L42_ok (by omega)    P Q hQ  n a0 a1 a2 (0 : Int32) w h
      · have h := h.2 c32
        refine am_ldc2 (v := -1) d_M_shortest_35 wd_1076 ?_
        exact am_lreturn d_M_shortest_38 rfl (hQ (-1 : Int64) w h)
theorem d_M_isRegister_0 : decode prog_14_method_56_code 0 = .ok (.aload_n 0, 1) := by decide +kernel
theorem d_M_isRegister_1 : decode prog_14_method_56_code 1 = .ok (.getfield 7, 3) := by decide +kernel
theorem d_M_isRegister_4 : decode prog_14_method_56_code 4 = .ok (.bipush 11, 2) := by decide +kernel
theorem d_M_isRegister_6 : decode prog_14_method_56_code 6 = .ok (.laload, 1) := by decide +kernel
theorem d_M_isRegister_7 : decode prog_14_method_56_code 7 = .ok (.lconst 0, 1) := by decide +kernel
theorem d_M_isRegister_8 : decode prog_14_method_56_code 8 = .ok (.lcmp, 1) := by decide +kernel
theorem d_M_isRegister_9 : decode prog_14_method_56_code 9 = .ok (.ifCond .le 7, 3) := by decide +kernel
theorem d_M_isRegister_12 : decode prog_14_method_56_code 12 = .ok (.iconst 1, 1) := by decide +kernel
theorem d_M_isRegister_13 : decode prog_14_method_56_code 13 = .ok (.goto 4, 3) := by decide +kernel
theorem d_M_isRegister_16 : decode prog_14_method_56_code 16 = .ok (.iconst 0, 1) := by decide +kernel
theorem d_M_isRegister_17 : decode prog_14_method_56_code 17 = .ok (.ireturn, 1) := by decide +kernel
def cf_M_isRegister  (w : Wd) (P : Int32 → Prop) : Prop :=
  vp_in (11 : Int32) 14 ∧ (((w.2 31 (11 : Int32).toNatClampNeg) ≤ (0 : Int64) → P (0 : Int32)) ∧ (¬ (w.2 31 (11 : Int32).toNatClampNeg) ≤ (0 : Int64) → P (1 : Int32)))
theorem cf_M_isRegister_ok {g : ayG} {d : Nat} (hd : 0 ≤ d)   (w : Wd) (P : Int32 → Prop) (h : cf_M_isRegister w P) : Call g y_M_isRegister prog_14_method_56_code 1 (some FieldType.boolean) d [.ref (g.1 + 30)] w (fun (r : Option Value) (w2 : Wd) => ∃ x, r = some (.int x) ∧ w = w2 ∧ P x) := by
  unfold cf_M_isRegister at h
  refine am_enter mi_M_isRegister (Nat.le_of_ble_eq_true rfl) ?_
  have hQ : ∀ x, P x → (fun (r : Option Value) (w2 : Wd) => ∃ x, r = some (.int x) ∧ w = w2 ∧ P x) (some (.int x)) w := fun x h => ⟨x, rfl, rfl, h⟩
  generalize (fun (r : Option Value) (w2 : Wd) => ∃ x, r = some (.int x) ∧ w = w2 ∧ P x) = Q at hQ ⊢
  show wp g (fun _ => True) y_M_isRegister prog_14_method_56_code 1 (some FieldType.boolean) d 0 [(0, .ref (g.1 + 30))] [] w Q
  refine am_aload_n d_M_isRegister_0 0 rfl ?_
  refine am_getf (T := F_M) (fs := ob_M g w 30) (C := R_M) (N := 35) (ci := 10) 0 d_M_isRegister_1 wd_1077 rfl (by decide) (el_M (show ay_sh 30 = _ from rfl)) rfl i_M (by decide) rfl ?_
  refine am_bipush (v := 11) d_M_isRegister_4 rfl ?_
  have hi6 := h.1
  have h := h.2
  refine am_laload d_M_isRegister_6 (show ay_sh 31 = _ from rfl) hi6 ?_
  refine am_lconst (v := 0) d_M_isRegister_7 rfl ?_
  refine am_lif_le (tgt := 16) d_M_isRegister_8 d_M_isRegister_9 (by decide) (fun c8 => ?_) (fun c8 => ?_)
  · have h := h.1 c8
    refine am_iconst (v := 0) d_M_isRegister_16 rfl ?_
    exact am_ireturn d_M_isRegister_17 rfl rfl (hQ (0 : Int32) h)
  · have h := h.2 c8
    refine am_iconst (v := 1) d_M_isRegister_12 rfl ?_
    refine am_goto (tgt := 17) d_M_isRegister_13 (by decide) ?_
    exact am_ireturn d_M_isRegister_17 rfl rfl (hQ (1 : Int32) h)
theorem d_M_stepped_0 : decode prog_14_method_57_code 0 = .ok (.aload_n 0, 1) := by decide +kernel
theorem d_M_stepped_1 : decode prog_14_method_57_code 1 = .ok (.getfield 7, 3) := by decide +kernel
theorem d_M_stepped_4 : decode prog_14_method_57_code 4 = .ok (.bipush 11, 2) := by decide +kernel
theorem d_M_stepped_6 : decode prog_14_method_57_code 6 = .ok (.laload, 1) := by decide +kernel
theorem d_M_stepped_7 : decode prog_14_method_57_code 7 = .ok (.l2i, 1) := by decide +kernel
theorem d_M_stepped_8 : decode prog_14_method_57_code 8 = .ok (.istore_n 3, 1) := by decide +kernel
theorem d_M_stepped_9 : decode prog_14_method_57_code 9 = .ok (.lload_n 1, 1) := by decide +kernel
theorem d_M_stepped_10 : decode prog_14_method_57_code 10 = .ok (.aload_n 0, 1) := by decide +kernel
theorem d_M_stepped_11 : decode prog_14_method_57_code 11 = .ok (.getfield 7, 3) := by decide +kernel
theorem d_M_stepped_14 : decode prog_14_method_57_code 14 = .ok (.bipush 10, 2) := by decide +kernel
theorem d_M_stepped_16 : decode prog_14_method_57_code 16 = .ok (.laload, 1) := by decide +kernel
theorem d_M_stepped_17 : decode prog_14_method_57_code 17 = .ok (.land, 1) := by decide +kernel
theorem d_M_stepped_18 : decode prog_14_method_57_code 18 = .ok (.iload_n 3, 1) := by decide +kernel
theorem d_M_stepped_19 : decode prog_14_method_57_code 19 = .ok (.invokestatic 122, 3) := by decide +kernel
theorem d_M_stepped_22 : decode prog_14_method_57_code 22 = .ok (.land, 1) := by decide +kernel
theorem d_M_stepped_23 : decode prog_14_method_57_code 23 = .ok (.invokestatic 156, 3) := by decide +kernel
theorem d_M_stepped_26 : decode prog_14_method_57_code 26 = .ok (.iconst 2, 1) := by decide +kernel
theorem d_M_stepped_27 : decode prog_14_method_57_code 27 = .ok (.irem, 1) := by decide +kernel
theorem d_M_stepped_28 : decode prog_14_method_57_code 28 = .ok (.i2l, 1) := by decide +kernel
theorem d_M_stepped_29 : decode prog_14_method_57_code 29 = .ok (.lstore 4, 2) := by decide +kernel
theorem d_M_stepped_31 : decode prog_14_method_57_code 31 = .ok (.lload_n 1, 1) := by decide +kernel
theorem d_M_stepped_32 : decode prog_14_method_57_code 32 = .ok (.iconst 1, 1) := by decide +kernel
theorem d_M_stepped_33 : decode prog_14_method_57_code 33 = .ok (.lushr, 1) := by decide +kernel
theorem d_M_stepped_34 : decode prog_14_method_57_code 34 = .ok (.lload 4, 2) := by decide +kernel
theorem d_M_stepped_36 : decode prog_14_method_57_code 36 = .ok (.iload_n 3, 1) := by decide +kernel
theorem d_M_stepped_37 : decode prog_14_method_57_code 37 = .ok (.iconst 1, 1) := by decide +kernel
theorem d_M_stepped_38 : decode prog_14_method_57_code 38 = .ok (.isub, 1) := by decide +kernel
theorem d_M_stepped_39 : decode prog_14_method_57_code 39 = .ok (.lshl, 1) := by decide +kernel
theorem d_M_stepped_40 : decode prog_14_method_57_code 40 = .ok (.lor, 1) := by decide +kernel
theorem d_M_stepped_41 : decode prog_14_method_57_code 41 = .ok (.lreturn, 1) := by decide +kernel
def cf_M_stepped (a0 : Int64) (w : Wd) (P : Int64 → Prop) : Prop :=
  vp_in (11 : Int32) 14 ∧ ∀ v1, v1 = (w.2 31 (11 : Int32).toNatClampNeg).toInt32 → vp_in (10 : Int32) 14 ∧ cf_M_allOnes v1 (fun r2 => cf_M_weight ((a0 &&& (w.2 31 (10 : Int32).toNatClampNeg)) &&& r2) (fun r3 => ∀ v4, v4 = (irem r3 (2 : Int32)).toInt64 → P ((lushr a0 (1 : Int32)) ||| (lshl v4 (v1 - (1 : Int32))))))
theorem cf_M_stepped_ok {g : ayG} {d : Nat} (hd : 2 ≤ d) (a0 : Int64)  (w : Wd) (P : Int64 → Prop) (h : cf_M_stepped a0 w P) : Call g y_M_stepped prog_14_method_57_code 6 (some FieldType.long) d [.ref (g.1 + 30), .long a0] w (fun (r : Option Value) (w2 : Wd) => ∃ x, r = some (.long x) ∧ w = w2 ∧ P x) := by
  unfold cf_M_stepped at h
  refine am_enter mi_M_stepped (Nat.le_of_ble_eq_true rfl) ?_
  have hQ : ∀ x, P x → (fun (r : Option Value) (w2 : Wd) => ∃ x, r = some (.long x) ∧ w = w2 ∧ P x) (some (.long x)) w := fun x h => ⟨x, rfl, rfl, h⟩
  generalize (fun (r : Option Value) (w2 : Wd) => ∃ x, r = some (.long x) ∧ w = w2 ∧ P x) = Q at hQ ⊢
  show wp g (fun _ => True) y_M_stepped prog_14_method_57_code 6 (some FieldType.long) d 0 [(0, .ref (g.1 + 30)), (1, .long a0)] [] w Q
  refine am_aload_n d_M_stepped_0 0 rfl ?_
  refine am_getf (T := F_M) (fs := ob_M g w 30) (C := R_M) (N := 35) (ci := 10) 0 d_M_stepped_1 wd_1077 rfl (by decide) (el_M (show ay_sh 30 = _ from rfl)) rfl i_M (by decide) rfl ?_
  refine am_bipush (v := 11) d_M_stepped_4 rfl ?_
  have hi6 := h.1
  have h := h.2
  refine am_laload d_M_stepped_6 (show ay_sh 31 = _ from rfl) hi6 ?_
  refine am_l2i d_M_stepped_7 ?_
  refine am_topi (fun v1 ev1 => ?_)
  have h := h v1 ev1
  refine am_istore_n (l' := [(3, .int v1), (0, .ref (g.1 + 30)), (1, .long a0)]) d_M_stepped_8 (by decide) rfl ?_
  refine am_lload_n d_M_stepped_9 2 rfl ?_
  refine am_aload_n d_M_stepped_10 1 rfl ?_
  refine am_getf (T := F_M) (fs := ob_M g w 30) (C := R_M) (N := 35) (ci := 10) 0 d_M_stepped_11 wd_1077 rfl (by decide) (el_M (show ay_sh 30 = _ from rfl)) rfl i_M (by decide) rfl ?_
  refine am_bipush (v := 10) d_M_stepped_14 rfl ?_
  have hi16 := h.1
  have h := h.2
  refine am_laload d_M_stepped_16 (show ay_sh 31 = _ from rfl) hi16 ?_
  refine am_land d_M_stepped_17 ?_
  refine am_iload_n d_M_stepped_18 0 rfl ?_
  refine am_callS (d2 := d - 1) [.int v1] d_M_stepped_19 mi_M_allOnes wd_1240 wd_1241 (by omega) rfl rfl (Nat.le_of_ble_eq_true rfl) ?_
  refine Call.post ?_ (cf_M_allOnes_ok (by omega) v1  w _ h)
  rintro _ _ ⟨r2, rfl, rfl, h⟩
  show wp g (fun _ => True) y_M_stepped prog_14_method_57_code 6 (some FieldType.long) d 22 [(3, .int v1), (0, .ref (g.1 + 30)), (1, .long a0)] [.long r2, .long (a0 &&& (w.2 31 (10 : Int32).toNatClampNeg))] w Q
  refine am_land d_M_stepped_22 ?_
  refine am_callS (d2 := d - 1) [.long ((a0 &&& (w.2 31 (10 : Int32).toNatClampNeg)) &&& r2)] d_M_stepped_23 mi_M_weight wd_1218 wd_1219 (by omega) rfl rfl (Nat.le_of_ble_eq_true rfl) ?_
  refine Call.post ?_ (cf_M_weight_ok (by omega) ((a0 &&& (w.2 31 (10 : Int32).toNatClampNeg)) &&& r2)  w _ h)
  rintro _ _ ⟨r3, rfl, rfl, h⟩
  show wp g (fun _ => True) y_M_stepped prog_14_method_57_code 6 (some FieldType.long) d 26 [(3, .int v1), (0, .ref (g.1 + 30)), (1, .long a0)] [.int r3] w Q
  refine am_iconst (v := 2) d_M_stepped_26 rfl ?_
  refine am_irem d_M_stepped_27 (by decide) ?_
  refine am_i2l d_M_stepped_28 ?_
  refine am_topl (fun v4 ev4 => ?_)
  have h := h v4 ev4
  refine am_lstore (l' := [(4, .long v4), (3, .int v1), (0, .ref (g.1 + 30)), (1, .long a0)]) d_M_stepped_29 (by decide) rfl ?_
  refine am_lload_n d_M_stepped_31 3 rfl ?_
  refine am_iconst (v := 1) d_M_stepped_32 rfl ?_
  refine am_lushr d_M_stepped_33 ?_
  refine am_lload d_M_stepped_34 0 rfl ?_
  refine am_iload_n d_M_stepped_36 1 rfl ?_
  refine am_iconst (v := 1) d_M_stepped_37 rfl ?_
  refine am_isub d_M_stepped_38 ?_
  refine am_lshl d_M_stepped_39 ?_
  refine am_lor d_M_stepped_40 ?_
  exact am_lreturn d_M_stepped_41 rfl (hQ ((lushr a0 (1 : Int32)) ||| (lshl v4 (v1 - (1 : Int32)))) h)
theorem d_M_done_0 : decode prog_14_method_58_code 0 = .ok (.lconst 0, 1) := by decide +kernel
theorem d_M_done_1 : decode prog_14_method_58_code 1 = .ok (.lstore 4, 2) := by decide +kernel
theorem d_M_done_3 : decode prog_14_method_58_code 3 = .ok (.iconst 0, 1) := by decide +kernel
theorem d_M_done_4 : decode prog_14_method_58_code 4 = .ok (.istore 6, 2) := by decide +kernel
theorem d_M_done_6 : decode prog_14_method_58_code 6 = .ok (.iload 6, 2) := by decide +kernel
theorem d_M_done_8 : decode prog_14_method_58_code 8 = .ok (.aload_n 0, 1) := by decide +kernel
theorem d_M_done_9 : decode prog_14_method_58_code 9 = .ok (.getfield 7, 3) := by decide +kernel
theorem d_M_done_12 : decode prog_14_method_58_code 12 = .ok (.bipush 11, 2) := by decide +kernel
theorem d_M_done_14 : decode prog_14_method_58_code 14 = .ok (.laload, 1) := by decide +kernel
theorem d_M_done_15 : decode prog_14_method_58_code 15 = .ok (.l2i, 1) := by decide +kernel
theorem d_M_done_16 : decode prog_14_method_58_code 16 = .ok (.if_icmp .ge 27, 3) := by decide +kernel
theorem d_M_done_19 : decode prog_14_method_58_code 19 = .ok (.lload_n 1, 1) := by decide +kernel
theorem d_M_done_20 : decode prog_14_method_58_code 20 = .ok (.iload 6, 2) := by decide +kernel
theorem d_M_done_22 : decode prog_14_method_58_code 22 = .ok (.invokestatic 80, 3) := by decide +kernel
theorem d_M_done_25 : decode prog_14_method_58_code 25 = .ok (.ifCond .eq 12, 3) := by decide +kernel
theorem d_M_done_28 : decode prog_14_method_58_code 28 = .ok (.lload 4, 2) := by decide +kernel
theorem d_M_done_30 : decode prog_14_method_58_code 30 = .ok (.aload_n 3, 1) := by decide +kernel
theorem d_M_done_31 : decode prog_14_method_58_code 31 = .ok (.iload 6, 2) := by decide +kernel
theorem d_M_done_33 : decode prog_14_method_58_code 33 = .ok (.laload, 1) := by decide +kernel
theorem d_M_done_34 : decode prog_14_method_58_code 34 = .ok (.lxor, 1) := by decide +kernel
theorem d_M_done_35 : decode prog_14_method_58_code 35 = .ok (.lstore 4, 2) := by decide +kernel
theorem d_M_done_37 : decode prog_14_method_58_code 37 = .ok (.iinc 6 1, 3) := by decide +kernel
theorem d_M_done_40 : decode prog_14_method_58_code 40 = .ok (.goto (-34), 3) := by decide +kernel
theorem d_M_done_43 : decode prog_14_method_58_code 43 = .ok (.lload 4, 2) := by decide +kernel
theorem d_M_done_45 : decode prog_14_method_58_code 45 = .ok (.lreturn, 1) := by decide +kernel
def cf_M_done_B6 (b1 : Nat) (n1 : Nat) (w : Wd) (K6 : Int64 → Int64 → Int32 → Prop) (P : Int64 → Prop) (x1 : Int64) (x4 : Int64) (x6 : Int32)  : Prop :=
  vp_in (11 : Int32) 14 ∧ ((((w.2 31 (11 : Int32).toNatClampNeg).toInt32) ≤ x6 → P x4) ∧ (¬ ((w.2 31 (11 : Int32).toNatClampNeg).toInt32) ≤ x6 → cf_M_has x1 x6 (fun r1 => ((r1 = 0 → ∀ v2, v2 = x6 + (1 : Int32) → K6 x1 x4 v2) ∧ (¬ r1 = 0 → vp_in x6 n1 ∧ ∀ v3, v3 = x4 ^^^ (w.2 b1 x6.toNatClampNeg) → ∀ v4, v4 = x6 + (1 : Int32) → K6 x1 v3 v4)))))
def cf_M_done_L6 (b1 : Nat) (n1 : Nat) (w : Wd)  (P : Int64 → Prop) : Nat → Int64 → Int64 → Int32 → Prop
  | 0 => fun x1 x4 x6 => False
  | n + 1 => fun x1 x4 x6 => cf_M_done_B6 b1 n1 w (cf_M_done_L6 b1 n1 w P n) P x1 x4 x6
def cf_M_done (b1 : Nat) (n1 : Nat) (a0 : Int64) (w : Wd) (P : Int64 → Prop) : Prop :=
  ∃ n, cf_M_done_L6 b1 n1 w P n a0 (0 : Int64) (0 : Int32)
theorem cf_M_done_B6_ok {g : ayG} {d : Nat} (hd : 1 ≤ d) (b1 : Nat) (n1 : Nat) (hb1 : ay_sh b1 = (0, n1)) (w : Wd) (K6 : Int64 → Int64 → Int32 → Prop) (P : Int64 → Prop) (Q : Option Value → Wd → Prop) (hQ : ∀ x, P x → Q (some (.long x)) w) (hK6 : ∀ (x1 : Int64) (x4 : Int64) (x6 : Int32), (K6 x1 x4 x6 → wp g (fun _ => True) y_M_done prog_14_method_58_code 7 (some FieldType.long) d 6 [(0, .ref (g.1 + 30)), (1, .long x1), (3, .ref (g.1 + b1)), (4, .long x4), (6, .int x6)] [] w Q)) (x1 : Int64) (x4 : Int64) (x6 : Int32) (h : cf_M_done_B6 b1 n1 w K6 P x1 x4 x6) : wp g (fun _ => True) y_M_done prog_14_method_58_code 7 (some FieldType.long) d 6 [(0, .ref (g.1 + 30)), (1, .long x1), (3, .ref (g.1 + b1)), (4, .long x4), (6, .int x6)] [] w Q := by
  unfold cf_M_done_B6 at h
  refine am_iload d_M_done_6 4 rfl ?_
  refine am_aload_n d_M_done_8 0 rfl ?_
  refine am_getf (T := F_M) (fs := ob_M g w 30) (C := R_M) (N := 35) (ci := 10) 0 d_M_done_9 wd_1077 rfl (by decide) (el_M (show ay_sh 30 = _ from rfl)) rfl i_M (by decide) rfl ?_
  refine am_bipush (v := 11) d_M_done_12 rfl ?_
  have hi14 := h.1
  have h := h.2
  refine am_laload d_M_done_14 (show ay_sh 31 = _ from rfl) hi14 ?_
  refine am_l2i d_M_done_15 ?_
  refine am_icmp_ge (tgt := 43) d_M_done_16 (by decide) (fun c16 => ?_) (fun c16 => ?_)
  · have h := h.1 c16
    refine am_lload d_M_done_43 3 rfl ?_
    exact am_lreturn d_M_done_45 rfl (hQ x4 h)
  · have h := h.2 c16
    refine am_lload_n d_M_done_19 1 rfl ?_
    refine am_iload d_M_done_20 4 rfl ?_
    refine am_callS (d2 := d - 1) [.long x1, .int x6] d_M_done_22 mi_M_has wd_1212 wd_1213 (by omega) rfl rfl (Nat.le_of_ble_eq_true rfl) ?_
    refine Call.post ?_ (cf_M_has_ok (by omega) x1 x6  w _ h)
    rintro _ _ ⟨r1, rfl, rfl, h⟩
    show wp g (fun _ => True) y_M_done prog_14_method_58_code 7 (some FieldType.long) d 25 [(0, .ref (g.1 + 30)), (1, .long x1), (3, .ref (g.1 + b1)), (4, .long x4), (6, .int x6)] [.int r1] w Q
    refine am_if_eq (tgt := 37) d_M_done_25 (by decide) (fun c25 => ?_) (fun c25 => ?_)
    · have h := h.1 c25
      obtain ⟨v2, ev2⟩ : ∃ z : Int32, z = x6 + (1 : Int32) := ⟨_, rfl⟩
      have h := h v2 ev2
      refine am_iinc (v := v2) (l' := [(6, .int v2), (0, .ref (g.1 + 30)), (1, .long x1), (3, .ref (g.1 + b1)), (4, .long x4)]) d_M_done_37 4 rfl (by rw [ev2]; rfl) (by decide) rfl ?_
      refine am_goto (tgt := 6) d_M_done_40 (by decide) ?_
      refine am_sub [1, 2, 3, 4, 0] rfl ?_
      exact hK6 x1 x4 v2 h
    · have h := h.2 c25
      refine am_lload d_M_done_28 3 rfl ?_
      refine am_aload_n d_M_done_30 2 rfl ?_
      refine am_iload d_M_done_31 4 rfl ?_
      have hi33 := h.1
      have h := h.2
      refine am_laload d_M_done_33 hb1 hi33 ?_
      refine am_lxor d_M_done_34 ?_
      refine am_topl (fun v3 ev3 => ?_)
      have h := h v3 ev3
      refine am_lstore (l' := [(4, .long v3), (0, .ref (g.1 + 30)), (1, .long x1), (3, .ref (g.1 + b1)), (6, .int x6)]) d_M_done_35 (by decide) rfl ?_
      obtain ⟨v4, ev4⟩ : ∃ z : Int32, z = x6 + (1 : Int32) := ⟨_, rfl⟩
      have h := h v4 ev4
      refine am_iinc (v := v4) (l' := [(6, .int v4), (4, .long v3), (0, .ref (g.1 + 30)), (1, .long x1), (3, .ref (g.1 + b1))]) d_M_done_37 4 rfl (by rw [ev4]; rfl) (by decide) rfl ?_
      refine am_goto (tgt := 6) d_M_done_40 (by decide) ?_
      refine am_sub [2, 3, 4, 1, 0] rfl ?_
      exact hK6 x1 v3 v4 h
theorem cf_M_done_L6_ok {g : ayG} {d : Nat} (hd : 1 ≤ d) (b1 : Nat) (n1 : Nat) (hb1 : ay_sh b1 = (0, n1)) (w : Wd)  (P : Int64 → Prop) (Q : Option Value → Wd → Prop) (hQ : ∀ x, P x → Q (some (.long x)) w)  : ∀ (n : Nat) (x1 : Int64) (x4 : Int64) (x6 : Int32) (h : cf_M_done_L6 b1 n1 w P n x1 x4 x6), wp g (fun _ => True) y_M_done prog_14_method_58_code 7 (some FieldType.long) d 6 [(0, .ref (g.1 + 30)), (1, .long x1), (3, .ref (g.1 + b1)), (4, .long x4), (6, .int x6)] [] w Q
  | 0, x1, x4, x6, h => False.elim h
  | n + 1, x1, x4, x6, h => cf_M_done_B6_ok hd b1 n1 hb1 w (cf_M_done_L6 b1 n1 w P n) P Q hQ (fun x1 x4 x6 h => cf_M_done_L6_ok hd b1 n1 hb1 w  P Q hQ  n x1 x4 x6 h) x1 x4 x6 h
theorem cf_M_done_ok {g : ayG} {d : Nat} (hd : 1 ≤ d) (b1 : Nat) (n1 : Nat) (a0 : Int64) (hb1 : ay_sh b1 = (0, n1)) (w : Wd) (P : Int64 → Prop) (h : cf_M_done b1 n1 a0 w P) : Call g y_M_done prog_14_method_58_code 7 (some FieldType.long) d [.ref (g.1 + 30), .long a0, .ref (g.1 + b1)] w (fun (r : Option Value) (w2 : Wd) => ∃ x, r = some (.long x) ∧ w = w2 ∧ P x) := by
  unfold cf_M_done at h
  refine am_enter mi_M_done (Nat.le_of_ble_eq_true rfl) ?_
  have hQ : ∀ x, P x → (fun (r : Option Value) (w2 : Wd) => ∃ x, r = some (.long x) ∧ w = w2 ∧ P x) (some (.long x)) w := fun x h => ⟨x, rfl, rfl, h⟩
  generalize (fun (r : Option Value) (w2 : Wd) => ∃ x, r = some (.long x) ∧ w = w2 ∧ P x) = Q at hQ ⊢
  show wp g (fun _ => True) y_M_done prog_14_method_58_code 7 (some FieldType.long) d 0 [(0, .ref (g.1 + 30)), (1, .long a0), (3, .ref (g.1 + b1))] [] w Q
  refine am_lconst (v := 0) d_M_done_0 rfl ?_
  refine am_lstore (l' := [(4, .long (0 : Int64)), (0, .ref (g.1 + 30)), (1, .long a0), (3, .ref (g.1 + b1))]) d_M_done_1 (by decide) rfl ?_
  refine am_iconst (v := 0) d_M_done_3 rfl ?_
  refine am_istore (l' := [(6, .int (0 : Int32)), (4, .long (0 : Int64)), (0, .ref (g.1 + 30)), (1, .long a0), (3, .ref (g.1 + b1))]) d_M_done_4 (by decide) rfl ?_
  refine am_sub [2, 3, 4, 1, 0] rfl ?_
  obtain ⟨n, h⟩ := h
  exact cf_M_done_L6_ok (by omega) b1 n1 hb1 w  P Q hQ  n a0 (0 : Int64) (0 : Int32) h
theorem d_M_steppedOn_0 : decode prog_14_method_59_code 0 = .ok (.aload_n 0, 1) := by decide +kernel
theorem d_M_steppedOn_1 : decode prog_14_method_59_code 1 = .ok (.getfield 7, 3) := by decide +kernel
theorem d_M_steppedOn_4 : decode prog_14_method_59_code 4 = .ok (.bipush 11, 2) := by decide +kernel
theorem d_M_steppedOn_6 : decode prog_14_method_59_code 6 = .ok (.laload, 1) := by decide +kernel
theorem d_M_steppedOn_7 : decode prog_14_method_59_code 7 = .ok (.l2i, 1) := by decide +kernel
theorem d_M_steppedOn_8 : decode prog_14_method_59_code 8 = .ok (.istore 5, 2) := by decide +kernel
theorem d_M_steppedOn_10 : decode prog_14_method_59_code 10 = .ok (.iconst 0, 1) := by decide +kernel
theorem d_M_steppedOn_11 : decode prog_14_method_59_code 11 = .ok (.istore 6, 2) := by decide +kernel
theorem d_M_steppedOn_13 : decode prog_14_method_59_code 13 = .ok (.iload 6, 2) := by decide +kernel
theorem d_M_steppedOn_15 : decode prog_14_method_59_code 15 = .ok (.iload 5, 2) := by decide +kernel
theorem d_M_steppedOn_17 : decode prog_14_method_59_code 17 = .ok (.if_icmp .ge 24, 3) := by decide +kernel
theorem d_M_steppedOn_20 : decode prog_14_method_59_code 20 = .ok (.aload_n 0, 1) := by decide +kernel
theorem d_M_steppedOn_21 : decode prog_14_method_59_code 21 = .ok (.getfield 48, 3) := by decide +kernel
theorem d_M_steppedOn_24 : decode prog_14_method_59_code 24 = .ok (.iload 6, 2) := by decide +kernel
theorem d_M_steppedOn_26 : decode prog_14_method_59_code 26 = .ok (.aload_n 0, 1) := by decide +kernel
theorem d_M_steppedOn_27 : decode prog_14_method_59_code 27 = .ok (.lconst 1, 1) := by decide +kernel
theorem d_M_steppedOn_28 : decode prog_14_method_59_code 28 = .ok (.iload 6, 2) := by decide +kernel
theorem d_M_steppedOn_30 : decode prog_14_method_59_code 30 = .ok (.lshl, 1) := by decide +kernel
theorem d_M_steppedOn_31 : decode prog_14_method_59_code 31 = .ok (.invokevirtual 220, 3) := by decide +kernel
theorem d_M_steppedOn_34 : decode prog_14_method_59_code 34 = .ok (.lastore, 1) := by decide +kernel
theorem d_M_steppedOn_35 : decode prog_14_method_59_code 35 = .ok (.iinc 6 1, 3) := by decide +kernel
theorem d_M_steppedOn_38 : decode prog_14_method_59_code 38 = .ok (.goto (-25), 3) := by decide +kernel
theorem d_M_steppedOn_41 : decode prog_14_method_59_code 41 = .ok (.lload_n 1, 1) := by decide +kernel
theorem d_M_steppedOn_42 : decode prog_14_method_59_code 42 = .ok (.lstore 6, 2) := by decide +kernel
theorem d_M_steppedOn_44 : decode prog_14_method_59_code 44 = .ok (.lload_n 3, 1) := by decide +kernel
theorem d_M_steppedOn_45 : decode prog_14_method_59_code 45 = .ok (.lstore 8, 2) := by decide +kernel
theorem d_M_steppedOn_47 : decode prog_14_method_59_code 47 = .ok (.lload 8, 2) := by decide +kernel
theorem d_M_steppedOn_49 : decode prog_14_method_59_code 49 = .ok (.lconst 0, 1) := by decide +kernel
theorem d_M_steppedOn_50 : decode prog_14_method_59_code 50 = .ok (.lcmp, 1) := by decide +kernel
theorem d_M_steppedOn_51 : decode prog_14_method_59_code 51 = .ok (.ifCond .le 101, 3) := by decide +kernel
theorem d_M_steppedOn_54 : decode prog_14_method_59_code 54 = .ok (.lload 8, 2) := by decide +kernel
theorem d_M_steppedOn_56 : decode prog_14_method_59_code 56 = .ok (.iconst 0, 1) := by decide +kernel
theorem d_M_steppedOn_57 : decode prog_14_method_59_code 57 = .ok (.invokestatic 80, 3) := by decide +kernel
theorem d_M_steppedOn_60 : decode prog_14_method_59_code 60 = .ok (.ifCond .eq 15, 3) := by decide +kernel
theorem d_M_steppedOn_63 : decode prog_14_method_59_code 63 = .ok (.aload_n 0, 1) := by decide +kernel
theorem d_M_steppedOn_64 : decode prog_14_method_59_code 64 = .ok (.lload 6, 2) := by decide +kernel
theorem d_M_steppedOn_66 : decode prog_14_method_59_code 66 = .ok (.aload_n 0, 1) := by decide +kernel
theorem d_M_steppedOn_67 : decode prog_14_method_59_code 67 = .ok (.getfield 48, 3) := by decide +kernel
theorem d_M_steppedOn_70 : decode prog_14_method_59_code 70 = .ok (.invokevirtual 223, 3) := by decide +kernel
theorem d_M_steppedOn_73 : decode prog_14_method_59_code 73 = .ok (.lstore 6, 2) := by decide +kernel
theorem d_M_steppedOn_75 : decode prog_14_method_59_code 75 = .ok (.iconst 0, 1) := by decide +kernel
theorem d_M_steppedOn_76 : decode prog_14_method_59_code 76 = .ok (.istore 10, 2) := by decide +kernel
theorem d_M_steppedOn_78 : decode prog_14_method_59_code 78 = .ok (.iload 10, 2) := by decide +kernel
theorem d_M_steppedOn_80 : decode prog_14_method_59_code 80 = .ok (.iload 5, 2) := by decide +kernel
theorem d_M_steppedOn_82 : decode prog_14_method_59_code 82 = .ok (.if_icmp .ge 31, 3) := by decide +kernel
theorem d_M_steppedOn_85 : decode prog_14_method_59_code 85 = .ok (.aload_n 0, 1) := by decide +kernel
theorem d_M_steppedOn_86 : decode prog_14_method_59_code 86 = .ok (.getfield 51, 3) := by decide +kernel
theorem d_M_steppedOn_89 : decode prog_14_method_59_code 89 = .ok (.iload 10, 2) := by decide +kernel
theorem d_M_steppedOn_91 : decode prog_14_method_59_code 91 = .ok (.aload_n 0, 1) := by decide +kernel
theorem d_M_steppedOn_92 : decode prog_14_method_59_code 92 = .ok (.aload_n 0, 1) := by decide +kernel
theorem d_M_steppedOn_93 : decode prog_14_method_59_code 93 = .ok (.getfield 48, 3) := by decide +kernel
theorem d_M_steppedOn_96 : decode prog_14_method_59_code 96 = .ok (.iload 10, 2) := by decide +kernel
theorem d_M_steppedOn_98 : decode prog_14_method_59_code 98 = .ok (.laload, 1) := by decide +kernel
theorem d_M_steppedOn_99 : decode prog_14_method_59_code 99 = .ok (.aload_n 0, 1) := by decide +kernel
theorem d_M_steppedOn_100 : decode prog_14_method_59_code 100 = .ok (.getfield 48, 3) := by decide +kernel
theorem d_M_steppedOn_103 : decode prog_14_method_59_code 103 = .ok (.invokevirtual 223, 3) := by decide +kernel
theorem d_M_steppedOn_106 : decode prog_14_method_59_code 106 = .ok (.lastore, 1) := by decide +kernel
theorem d_M_steppedOn_107 : decode prog_14_method_59_code 107 = .ok (.iinc 10 1, 3) := by decide +kernel
theorem d_M_steppedOn_110 : decode prog_14_method_59_code 110 = .ok (.goto (-32), 3) := by decide +kernel
theorem d_M_steppedOn_113 : decode prog_14_method_59_code 113 = .ok (.iconst 0, 1) := by decide +kernel
theorem d_M_steppedOn_114 : decode prog_14_method_59_code 114 = .ok (.istore 10, 2) := by decide +kernel
theorem d_M_steppedOn_116 : decode prog_14_method_59_code 116 = .ok (.iload 10, 2) := by decide +kernel
theorem d_M_steppedOn_118 : decode prog_14_method_59_code 118 = .ok (.iload 5, 2) := by decide +kernel
theorem d_M_steppedOn_120 : decode prog_14_method_59_code 120 = .ok (.if_icmp .ge 23, 3) := by decide +kernel
theorem d_M_steppedOn_123 : decode prog_14_method_59_code 123 = .ok (.aload_n 0, 1) := by decide +kernel
theorem d_M_steppedOn_124 : decode prog_14_method_59_code 124 = .ok (.getfield 48, 3) := by decide +kernel
theorem d_M_steppedOn_127 : decode prog_14_method_59_code 127 = .ok (.iload 10, 2) := by decide +kernel
theorem d_M_steppedOn_129 : decode prog_14_method_59_code 129 = .ok (.aload_n 0, 1) := by decide +kernel
theorem d_M_steppedOn_130 : decode prog_14_method_59_code 130 = .ok (.getfield 51, 3) := by decide +kernel
theorem d_M_steppedOn_133 : decode prog_14_method_59_code 133 = .ok (.iload 10, 2) := by decide +kernel
theorem d_M_steppedOn_135 : decode prog_14_method_59_code 135 = .ok (.laload, 1) := by decide +kernel
theorem d_M_steppedOn_136 : decode prog_14_method_59_code 136 = .ok (.lastore, 1) := by decide +kernel
theorem d_M_steppedOn_137 : decode prog_14_method_59_code 137 = .ok (.iinc 10 1, 3) := by decide +kernel
theorem d_M_steppedOn_140 : decode prog_14_method_59_code 140 = .ok (.goto (-24), 3) := by decide +kernel
theorem d_M_steppedOn_143 : decode prog_14_method_59_code 143 = .ok (.lload 8, 2) := by decide +kernel
theorem d_M_steppedOn_145 : decode prog_14_method_59_code 145 = .ok (.iconst 1, 1) := by decide +kernel
theorem d_M_steppedOn_146 : decode prog_14_method_59_code 146 = .ok (.lshr, 1) := by decide +kernel
theorem d_M_steppedOn_147 : decode prog_14_method_59_code 147 = .ok (.lstore 8, 2) := by decide +kernel
theorem d_M_steppedOn_149 : decode prog_14_method_59_code 149 = .ok (.goto (-102), 3) := by decide +kernel
theorem d_M_steppedOn_152 : decode prog_14_method_59_code 152 = .ok (.lload 6, 2) := by decide +kernel
theorem d_M_steppedOn_154 : decode prog_14_method_59_code 154 = .ok (.lreturn, 1) := by decide +kernel
def cf_M_steppedOn_B116  (K47 : Int32 → Int64 → Int64 → Wd → Prop) (K116 : Int32 → Int64 → Int64 → Int32 → Wd → Prop) (P : Int64 → Wd → Prop) (x5 : Int32) (x6 : Int64) (x8 : Int64) (x10 : Int32) (w : Wd) : Prop :=
  ((x5 ≤ x10 → ∀ v3, v3 = lshr x8 (1 : Int32) → K47 x5 x6 v3 w) ∧ (¬ x5 ≤ x10 → vp_in x10 31 ∧ vp_in x10 31 ∧ ∀ w4, w4 = wL w 41 x10.toNatClampNeg (w.2 42 x10.toNatClampNeg) → ∀ v5, v5 = x10 + (1 : Int32) → K116 x5 x6 x8 v5 w4))
def cf_M_steppedOn_L116  (K47 : Int32 → Int64 → Int64 → Wd → Prop) (P : Int64 → Wd → Prop) : Nat → Int32 → Int64 → Int64 → Int32 → Wd → Prop
  | 0 => fun x5 x6 x8 x10 w => False
  | n + 1 => fun x5 x6 x8 x10 w => cf_M_steppedOn_B116 K47 (cf_M_steppedOn_L116 K47 P n) P x5 x6 x8 x10 w
def cf_M_steppedOn_B78  (K47 : Int32 → Int64 → Int64 → Wd → Prop) (K78 : Int32 → Int64 → Int64 → Int32 → Wd → Prop) (P : Int64 → Wd → Prop) (x5 : Int32) (x6 : Int64) (x8 : Int64) (x10 : Int32) (w : Wd) : Prop :=
  ((x5 ≤ x10 → ∃ n, cf_M_steppedOn_L116 K47 P n x5 x6 x8 (0 : Int32) w) ∧ (¬ x5 ≤ x10 → vp_in x10 31 ∧ cf_M_done 41 31 (w.2 41 x10.toNatClampNeg) w (fun r6 => vp_in x10 31 ∧ ∀ w7, w7 = wL w 42 x10.toNatClampNeg r6 → ∀ v8, v8 = x10 + (1 : Int32) → K78 x5 x6 x8 v8 w7)))
def cf_M_steppedOn_L78  (K47 : Int32 → Int64 → Int64 → Wd → Prop) (P : Int64 → Wd → Prop) : Nat → Int32 → Int64 → Int64 → Int32 → Wd → Prop
  | 0 => fun x5 x6 x8 x10 w => False
  | n + 1 => fun x5 x6 x8 x10 w => cf_M_steppedOn_B78 K47 (cf_M_steppedOn_L78 K47 P n) P x5 x6 x8 x10 w
def cf_M_steppedOn_B47  (K47 : Int32 → Int64 → Int64 → Wd → Prop) (P : Int64 → Wd → Prop) (x5 : Int32) (x6 : Int64) (x8 : Int64) (w : Wd) : Prop :=
  ((x8 ≤ (0 : Int64) → P x6 w) ∧ (¬ x8 ≤ (0 : Int64) → cf_M_has x8 (0 : Int32) (fun r2 => ((r2 = 0 → ∃ n, cf_M_steppedOn_L78 K47 P n x5 x6 x8 (0 : Int32) w) ∧ (¬ r2 = 0 → cf_M_done 41 31 x6 w (fun r9 => ∃ n, cf_M_steppedOn_L78 K47 P n x5 r9 x8 (0 : Int32) w))))))
def cf_M_steppedOn_L47   (P : Int64 → Wd → Prop) : Nat → Int32 → Int64 → Int64 → Wd → Prop
  | 0 => fun x5 x6 x8 w => False
  | n + 1 => fun x5 x6 x8 w => cf_M_steppedOn_B47 (cf_M_steppedOn_L47 P n) P x5 x6 x8 w
def cf_M_steppedOn_B13  (K13 : Int64 → Int64 → Int32 → Int32 → Wd → Prop) (P : Int64 → Wd → Prop) (x1 : Int64) (x3 : Int64) (x5 : Int32) (x6 : Int32) (w : Wd) : Prop :=
  ((x5 ≤ x6 → ∃ n, cf_M_steppedOn_L47 P n x5 x1 x3 w) ∧ (¬ x5 ≤ x6 → cf_M_stepped (lshl (1 : Int64) x6) w (fun r10 => vp_in x6 31 ∧ ∀ w11, w11 = wL w 41 x6.toNatClampNeg r10 → ∀ v12, v12 = x6 + (1 : Int32) → K13 x1 x3 x5 v12 w11)))
def cf_M_steppedOn_L13   (P : Int64 → Wd → Prop) : Nat → Int64 → Int64 → Int32 → Int32 → Wd → Prop
  | 0 => fun x1 x3 x5 x6 w => False
  | n + 1 => fun x1 x3 x5 x6 w => cf_M_steppedOn_B13 (cf_M_steppedOn_L13 P n) P x1 x3 x5 x6 w
def cf_M_steppedOn (a0 : Int64) (a1 : Int64) (w : Wd) (P : Int64 → Wd → Prop) : Prop :=
  vp_in (11 : Int32) 14 ∧ ∀ v1, v1 = (w.2 31 (11 : Int32).toNatClampNeg).toInt32 → ∃ n, cf_M_steppedOn_L13 P n a0 a1 v1 (0 : Int32) w
theorem cf_M_steppedOn_B116_ok {g : ayG} {d : Nat} (hd : 3 ≤ d)   (w : Wd) (K47 : Int32 → Int64 → Int64 → Wd → Prop) (K116 : Int32 → Int64 → Int64 → Int32 → Wd → Prop) (P : Int64 → Wd → Prop) (Q : Option Value → Wd → Prop) (hQ : ∀ x w2, P x w2 → Q (some (.long x)) w2) (hK47 : ∀ (x5 : Int32) (x6 : Int64) (x8 : Int64) (w : Wd), (K47 x5 x6 x8 w → wp g (fun _ => True) y_M_steppedOn prog_14_method_59_code 11 (some FieldType.long) d 47 [(0, .ref (g.1 + 30)), (5, .int x5), (6, .long x6), (8, .long x8)] [] w Q)) (hK116 : ∀ (x5 : Int32) (x6 : Int64) (x8 : Int64) (x10 : Int32) (w : Wd), (K116 x5 x6 x8 x10 w → wp g (fun _ => True) y_M_steppedOn prog_14_method_59_code 11 (some FieldType.long) d 116 [(0, .ref (g.1 + 30)), (5, .int x5), (6, .long x6), (8, .long x8), (10, .int x10)] [] w Q)) (x5 : Int32) (x6 : Int64) (x8 : Int64) (x10 : Int32) (h : cf_M_steppedOn_B116 K47 K116 P x5 x6 x8 x10 w) : wp g (fun _ => True) y_M_steppedOn prog_14_method_59_code 11 (some FieldType.long) d 116 [(0, .ref (g.1 + 30)), (5, .int x5), (6, .long x6), (8, .long x8), (10, .int x10)] [] w Q := by
  unfold cf_M_steppedOn_B116 at h
  refine am_iload d_M_steppedOn_116 4 rfl ?_
  refine am_iload d_M_steppedOn_118 1 rfl ?_
  refine am_icmp_ge (tgt := 143) d_M_steppedOn_120 (by decide) (fun c120 => ?_) (fun c120 => ?_)
  · have h := h.1 c120
    refine am_lload d_M_steppedOn_143 3 rfl ?_
    refine am_iconst (v := 1) d_M_steppedOn_145 rfl ?_
    refine am_lshr d_M_steppedOn_146 ?_
    refine am_topl (fun v3 ev3 => ?_)
    have h := h v3 ev3
    refine am_lstore (l' := [(8, .long v3), (0, .ref (g.1 + 30)), (5, .int x5), (6, .long x6), (10, .int x10)]) d_M_steppedOn_147 (by decide) rfl ?_
    refine am_goto (tgt := 47) d_M_steppedOn_149 (by decide) ?_
    refine am_sub [1, 2, 3, 0] rfl ?_
    exact hK47 x5 x6 v3 w h
  · have h := h.2 c120
    refine am_aload_n d_M_steppedOn_123 0 rfl ?_
    refine am_getf (T := F_M) (fs := ob_M g w 30) (C := R_M) (N := 35) (ci := 10) 15 d_M_steppedOn_124 wd_1092 rfl (by decide) (el_M (show ay_sh 30 = _ from rfl)) rfl i_M (by decide) rfl ?_
    refine am_iload d_M_steppedOn_127 4 rfl ?_
    refine am_aload_n d_M_steppedOn_129 0 rfl ?_
    refine am_getf (T := F_M) (fs := ob_M g w 30) (C := R_M) (N := 35) (ci := 10) 16 d_M_steppedOn_130 wd_1093 rfl (by decide) (el_M (show ay_sh 30 = _ from rfl)) rfl i_M (by decide) rfl ?_
    refine am_iload d_M_steppedOn_133 4 rfl ?_
    have hi135 := h.1
    have h := h.2
    refine am_laload d_M_steppedOn_135 (show ay_sh 42 = _ from rfl) hi135 ?_
    have hi136 := h.1
    have h := h.2
    refine am_lastore d_M_steppedOn_136 (show ay_sh 41 = _ from rfl) hi136 ?_
    obtain ⟨w4, ew4⟩ : ∃ z, z = wL w 41 x10.toNatClampNeg (w.2 42 x10.toNatClampNeg) := ⟨_, rfl⟩
    rw [← ew4]
    have h := h w4 ew4
    obtain ⟨v5, ev5⟩ : ∃ z : Int32, z = x10 + (1 : Int32) := ⟨_, rfl⟩
    have h := h v5 ev5
    refine am_iinc (v := v5) (l' := [(10, .int v5), (0, .ref (g.1 + 30)), (5, .int x5), (6, .long x6), (8, .long x8)]) d_M_steppedOn_137 4 rfl (by rw [ev5]; rfl) (by decide) rfl ?_
    refine am_goto (tgt := 116) d_M_steppedOn_140 (by decide) ?_
    refine am_sub [1, 2, 3, 4, 0] rfl ?_
    exact hK116 x5 x6 x8 v5 w4 h
theorem cf_M_steppedOn_L116_ok {g : ayG} {d : Nat} (hd : 3 ≤ d)   (K47 : Int32 → Int64 → Int64 → Wd → Prop) (P : Int64 → Wd → Prop) (Q : Option Value → Wd → Prop) (hQ : ∀ x w2, P x w2 → Q (some (.long x)) w2) (hK47 : ∀ (x5 : Int32) (x6 : Int64) (x8 : Int64) (w : Wd), (K47 x5 x6 x8 w → wp g (fun _ => True) y_M_steppedOn prog_14_method_59_code 11 (some FieldType.long) d 47 [(0, .ref (g.1 + 30)), (5, .int x5), (6, .long x6), (8, .long x8)] [] w Q)) : ∀ (n : Nat) (x5 : Int32) (x6 : Int64) (x8 : Int64) (x10 : Int32) (w : Wd) (h : cf_M_steppedOn_L116 K47 P n x5 x6 x8 x10 w), wp g (fun _ => True) y_M_steppedOn prog_14_method_59_code 11 (some FieldType.long) d 116 [(0, .ref (g.1 + 30)), (5, .int x5), (6, .long x6), (8, .long x8), (10, .int x10)] [] w Q
  | 0, x5, x6, x8, x10, w, h => False.elim h
  | n + 1, x5, x6, x8, x10, w, h => cf_M_steppedOn_B116_ok hd   w K47 (cf_M_steppedOn_L116 K47 P n) P Q hQ hK47 (fun x5 x6 x8 x10 w h => cf_M_steppedOn_L116_ok hd   K47 P Q hQ hK47 n x5 x6 x8 x10 w h) x5 x6 x8 x10 h
theorem cf_M_steppedOn_B78_ok {g : ayG} {d : Nat} (hd : 3 ≤ d)   (w : Wd) (K47 : Int32 → Int64 → Int64 → Wd → Prop) (K78 : Int32 → Int64 → Int64 → Int32 → Wd → Prop) (P : Int64 → Wd → Prop) (Q : Option Value → Wd → Prop) (hQ : ∀ x w2, P x w2 → Q (some (.long x)) w2) (hK47 : ∀ (x5 : Int32) (x6 : Int64) (x8 : Int64) (w : Wd), (K47 x5 x6 x8 w → wp g (fun _ => True) y_M_steppedOn prog_14_method_59_code 11 (some FieldType.long) d 47 [(0, .ref (g.1 + 30)), (5, .int x5), (6, .long x6), (8, .long x8)] [] w Q)) (hK78 : ∀ (x5 : Int32) (x6 : Int64) (x8 : Int64) (x10 : Int32) (w : Wd), (K78 x5 x6 x8 x10 w → wp g (fun _ => True) y_M_steppedOn prog_14_method_59_code 11 (some FieldType.long) d 78 [(0, .ref (g.1 + 30)), (5, .int x5), (6, .long x6), (8, .long x8), (10, .int x10)] [] w Q)) (x5 : Int32) (x6 : Int64) (x8 : Int64) (x10 : Int32) (h : cf_M_steppedOn_B78 K47 K78 P x5 x6 x8 x10 w) : wp g (fun _ => True) y_M_steppedOn prog_14_method_59_code 11 (some FieldType.long) d 78 [(0, .ref (g.1 + 30)), (5, .int x5), (6, .long x6), (8, .long x8), (10, .int x10)] [] w Q := by
  unfold cf_M_steppedOn_B78 at h
  refine am_iload d_M_steppedOn_78 4 rfl ?_
  refine am_iload d_M_steppedOn_80 1 rfl ?_
  refine am_icmp_ge (tgt := 113) d_M_steppedOn_82 (by decide) (fun c82 => ?_) (fun c82 => ?_)
  · have h := h.1 c82
    refine am_iconst (v := 0) d_M_steppedOn_113 rfl ?_
    refine am_istore (l' := [(10, .int (0 : Int32)), (0, .ref (g.1 + 30)), (5, .int x5), (6, .long x6), (8, .long x8)]) d_M_steppedOn_114 (by decide) rfl ?_
    refine am_sub [1, 2, 3, 4, 0] rfl ?_
    obtain ⟨n, h⟩ := h
    exact cf_M_steppedOn_L116_ok (by omega)   K47 P Q hQ hK47 n x5 x6 x8 (0 : Int32) w h
  · have h := h.2 c82
    refine am_aload_n d_M_steppedOn_85 0 rfl ?_
    refine am_getf (T := F_M) (fs := ob_M g w 30) (C := R_M) (N := 35) (ci := 10) 16 d_M_steppedOn_86 wd_1093 rfl (by decide) (el_M (show ay_sh 30 = _ from rfl)) rfl i_M (by decide) rfl ?_
    refine am_iload d_M_steppedOn_89 4 rfl ?_
    refine am_aload_n d_M_steppedOn_91 0 rfl ?_
    refine am_aload_n d_M_steppedOn_92 0 rfl ?_
    refine am_getf (T := F_M) (fs := ob_M g w 30) (C := R_M) (N := 35) (ci := 10) 15 d_M_steppedOn_93 wd_1092 rfl (by decide) (el_M (show ay_sh 30 = _ from rfl)) rfl i_M (by decide) rfl ?_
    refine am_iload d_M_steppedOn_96 4 rfl ?_
    have hi98 := h.1
    have h := h.2
    refine am_laload d_M_steppedOn_98 (show ay_sh 41 = _ from rfl) hi98 ?_
    refine am_aload_n d_M_steppedOn_99 0 rfl ?_
    refine am_getf (T := F_M) (fs := ob_M g w 30) (C := R_M) (N := 35) (ci := 10) 15 d_M_steppedOn_100 wd_1092 rfl (by decide) (el_M (show ay_sh 30 = _ from rfl)) rfl i_M (by decide) rfl ?_
    refine am_callV (C := y_M_done.cls) (d2 := d - 1) [.long (w.2 41 x10.toNatClampNeg), .ref (g.1 + 41)] d_M_steppedOn_103 mi_M_done wd_1398 wd_1400 ws_M_done (by decide) (el_M (show ay_sh 30 = _ from rfl)) rfl rfl (by omega) rfl rfl (Nat.le_of_ble_eq_true rfl) ?_
    refine Call.post ?_ (cf_M_done_ok (by omega) 41 31 (w.2 41 x10.toNatClampNeg) (show ay_sh 41 = _ from rfl) w _ h)
    rintro _ _ ⟨r6, rfl, rfl, h⟩
    show wp g (fun _ => True) y_M_steppedOn prog_14_method_59_code 11 (some FieldType.long) d 106 [(0, .ref (g.1 + 30)), (5, .int x5), (6, .long x6), (8, .long x8), (10, .int x10)] [.long r6, .int x10, .ref (g.1 + 42)] w Q
    have hi106 := h.1
    have h := h.2
    refine am_lastore d_M_steppedOn_106 (show ay_sh 42 = _ from rfl) hi106 ?_
    obtain ⟨w7, ew7⟩ : ∃ z, z = wL w 42 x10.toNatClampNeg r6 := ⟨_, rfl⟩
    rw [← ew7]
    have h := h w7 ew7
    obtain ⟨v8, ev8⟩ : ∃ z : Int32, z = x10 + (1 : Int32) := ⟨_, rfl⟩
    have h := h v8 ev8
    refine am_iinc (v := v8) (l' := [(10, .int v8), (0, .ref (g.1 + 30)), (5, .int x5), (6, .long x6), (8, .long x8)]) d_M_steppedOn_107 4 rfl (by rw [ev8]; rfl) (by decide) rfl ?_
    refine am_goto (tgt := 78) d_M_steppedOn_110 (by decide) ?_
    refine am_sub [1, 2, 3, 4, 0] rfl ?_
    exact hK78 x5 x6 x8 v8 w7 h
theorem cf_M_steppedOn_L78_ok {g : ayG} {d : Nat} (hd : 3 ≤ d)   (K47 : Int32 → Int64 → Int64 → Wd → Prop) (P : Int64 → Wd → Prop) (Q : Option Value → Wd → Prop) (hQ : ∀ x w2, P x w2 → Q (some (.long x)) w2) (hK47 : ∀ (x5 : Int32) (x6 : Int64) (x8 : Int64) (w : Wd), (K47 x5 x6 x8 w → wp g (fun _ => True) y_M_steppedOn prog_14_method_59_code 11 (some FieldType.long) d 47 [(0, .ref (g.1 + 30)), (5, .int x5), (6, .long x6), (8, .long x8)] [] w Q)) : ∀ (n : Nat) (x5 : Int32) (x6 : Int64) (x8 : Int64) (x10 : Int32) (w : Wd) (h : cf_M_steppedOn_L78 K47 P n x5 x6 x8 x10 w), wp g (fun _ => True) y_M_steppedOn prog_14_method_59_code 11 (some FieldType.long) d 78 [(0, .ref (g.1 + 30)), (5, .int x5), (6, .long x6), (8, .long x8), (10, .int x10)] [] w Q
  | 0, x5, x6, x8, x10, w, h => False.elim h
  | n + 1, x5, x6, x8, x10, w, h => cf_M_steppedOn_B78_ok hd   w K47 (cf_M_steppedOn_L78 K47 P n) P Q hQ hK47 (fun x5 x6 x8 x10 w h => cf_M_steppedOn_L78_ok hd   K47 P Q hQ hK47 n x5 x6 x8 x10 w h) x5 x6 x8 x10 h
theorem cf_M_steppedOn_B47_ok {g : ayG} {d : Nat} (hd : 3 ≤ d)   (w : Wd) (K47 : Int32 → Int64 → Int64 → Wd → Prop) (P : Int64 → Wd → Prop) (Q : Option Value → Wd → Prop) (hQ : ∀ x w2, P x w2 → Q (some (.long x)) w2) (hK47 : ∀ (x5 : Int32) (x6 : Int64) (x8 : Int64) (w : Wd), (K47 x5 x6 x8 w → wp g (fun _ => True) y_M_steppedOn prog_14_method_59_code 11 (some FieldType.long) d 47 [(0, .ref (g.1 + 30)), (5, .int x5), (6, .long x6), (8, .long x8)] [] w Q)) (x5 : Int32) (x6 : Int64) (x8 : Int64) (h : cf_M_steppedOn_B47 K47 P x5 x6 x8 w) : wp g (fun _ => True) y_M_steppedOn prog_14_method_59_code 11 (some FieldType.long) d 47 [(0, .ref (g.1 + 30)), (5, .int x5), (6, .long x6), (8, .long x8)] [] w Q := by
  unfold cf_M_steppedOn_B47 at h
  refine am_lload d_M_steppedOn_47 3 rfl ?_
  refine am_lconst (v := 0) d_M_steppedOn_49 rfl ?_
  refine am_lif_le (tgt := 152) d_M_steppedOn_50 d_M_steppedOn_51 (by decide) (fun c50 => ?_) (fun c50 => ?_)
  · have h := h.1 c50
    refine am_lload d_M_steppedOn_152 2 rfl ?_
    exact am_lreturn d_M_steppedOn_154 rfl (hQ x6 w h)
  · have h := h.2 c50
    refine am_lload d_M_steppedOn_54 3 rfl ?_
    refine am_iconst (v := 0) d_M_steppedOn_56 rfl ?_
    refine am_callS (d2 := d - 1) [.long x8, .int (0 : Int32)] d_M_steppedOn_57 mi_M_has wd_1212 wd_1213 (by omega) rfl rfl (Nat.le_of_ble_eq_true rfl) ?_
    refine Call.post ?_ (cf_M_has_ok (by omega) x8 (0 : Int32)  w _ h)
    rintro _ _ ⟨r2, rfl, rfl, h⟩
    show wp g (fun _ => True) y_M_steppedOn prog_14_method_59_code 11 (some FieldType.long) d 60 [(0, .ref (g.1 + 30)), (5, .int x5), (6, .long x6), (8, .long x8)] [.int r2] w Q
    refine am_if_eq (tgt := 75) d_M_steppedOn_60 (by decide) (fun c60 => ?_) (fun c60 => ?_)
    · have h := h.1 c60
      refine am_iconst (v := 0) d_M_steppedOn_75 rfl ?_
      refine am_istore (l' := [(10, .int (0 : Int32)), (0, .ref (g.1 + 30)), (5, .int x5), (6, .long x6), (8, .long x8)]) d_M_steppedOn_76 (by decide) rfl ?_
      refine am_sub [1, 2, 3, 4, 0] rfl ?_
      obtain ⟨n, h⟩ := h
      exact cf_M_steppedOn_L78_ok (by omega)   K47 P Q hQ hK47 n x5 x6 x8 (0 : Int32) w h
    · have h := h.2 c60
      refine am_aload_n d_M_steppedOn_63 0 rfl ?_
      refine am_lload d_M_steppedOn_64 2 rfl ?_
      refine am_aload_n d_M_steppedOn_66 0 rfl ?_
      refine am_getf (T := F_M) (fs := ob_M g w 30) (C := R_M) (N := 35) (ci := 10) 15 d_M_steppedOn_67 wd_1092 rfl (by decide) (el_M (show ay_sh 30 = _ from rfl)) rfl i_M (by decide) rfl ?_
      refine am_callV (C := y_M_done.cls) (d2 := d - 1) [.long x6, .ref (g.1 + 41)] d_M_steppedOn_70 mi_M_done wd_1398 wd_1400 ws_M_done (by decide) (el_M (show ay_sh 30 = _ from rfl)) rfl rfl (by omega) rfl rfl (Nat.le_of_ble_eq_true rfl) ?_
      refine Call.post ?_ (cf_M_done_ok (by omega) 41 31 x6 (show ay_sh 41 = _ from rfl) w _ h)
      rintro _ _ ⟨r9, rfl, rfl, h⟩
      show wp g (fun _ => True) y_M_steppedOn prog_14_method_59_code 11 (some FieldType.long) d 73 [(0, .ref (g.1 + 30)), (5, .int x5), (6, .long x6), (8, .long x8)] [.long r9] w Q
      refine am_lstore (l' := [(6, .long r9), (0, .ref (g.1 + 30)), (5, .int x5), (8, .long x8)]) d_M_steppedOn_73 (by decide) rfl ?_
      refine am_iconst (v := 0) d_M_steppedOn_75 rfl ?_
      refine am_istore (l' := [(10, .int (0 : Int32)), (6, .long r9), (0, .ref (g.1 + 30)), (5, .int x5), (8, .long x8)]) d_M_steppedOn_76 (by decide) rfl ?_
      refine am_sub [2, 3, 1, 4, 0] rfl ?_
      obtain ⟨n, h⟩ := h
      exact cf_M_steppedOn_L78_ok (by omega)   K47 P Q hQ hK47 n x5 r9 x8 (0 : Int32) w h
theorem cf_M_steppedOn_L47_ok {g : ayG} {d : Nat} (hd : 3 ≤ d)    (P : Int64 → Wd → Prop) (Q : Option Value → Wd → Prop) (hQ : ∀ x w2, P x w2 → Q (some (.long x)) w2)  : ∀ (n : Nat) (x5 : Int32) (x6 : Int64) (x8 : Int64) (w : Wd) (h : cf_M_steppedOn_L47 P n x5 x6 x8 w), wp g (fun _ => True) y_M_steppedOn prog_14_method_59_code 11 (some FieldType.long) d 47 [(0, .ref (g.1 + 30)), (5, .int x5), (6, .long x6), (8, .long x8)] [] w Q
  | 0, x5, x6, x8, w, h => False.elim h
  | n + 1, x5, x6, x8, w, h => cf_M_steppedOn_B47_ok hd   w (cf_M_steppedOn_L47 P n) P Q hQ (fun x5 x6 x8 w h => cf_M_steppedOn_L47_ok hd    P Q hQ  n x5 x6 x8 w h) x5 x6 x8 h
theorem cf_M_steppedOn_B13_ok {g : ayG} {d : Nat} (hd : 3 ≤ d)   (w : Wd) (K13 : Int64 → Int64 → Int32 → Int32 → Wd → Prop) (P : Int64 → Wd → Prop) (Q : Option Value → Wd → Prop) (hQ : ∀ x w2, P x w2 → Q (some (.long x)) w2) (hK13 : ∀ (x1 : Int64) (x3 : Int64) (x5 : Int32) (x6 : Int32) (w : Wd), (K13 x1 x3 x5 x6 w → wp g (fun _ => True) y_M_steppedOn prog_14_method_59_code 11 (some FieldType.long) d 13 [(0, .ref (g.1 + 30)), (1, .long x1), (3, .long x3), (5, .int x5), (6, .int x6)] [] w Q)) (x1 : Int64) (x3 : Int64) (x5 : Int32) (x6 : Int32) (h : cf_M_steppedOn_B13 K13 P x1 x3 x5 x6 w) : wp g (fun _ => True) y_M_steppedOn prog_14_method_59_code 11 (some FieldType.long) d 13 [(0, .ref (g.1 + 30)), (1, .long x1), (3, .long x3), (5, .int x5), (6, .int x6)] [] w Q := by
  unfold cf_M_steppedOn_B13 at h
  refine am_iload d_M_steppedOn_13 4 rfl ?_
  refine am_iload d_M_steppedOn_15 3 rfl ?_
  refine am_icmp_ge (tgt := 41) d_M_steppedOn_17 (by decide) (fun c17 => ?_) (fun c17 => ?_)
  · have h := h.1 c17
    refine am_lload_n d_M_steppedOn_41 1 rfl ?_
    refine am_lstore (l' := [(6, .long x1), (0, .ref (g.1 + 30)), (1, .long x1), (3, .long x3), (5, .int x5)]) d_M_steppedOn_42 (by decide) rfl ?_
    refine am_lload_n d_M_steppedOn_44 3 rfl ?_
    refine am_lstore (l' := [(8, .long x3), (6, .long x1), (0, .ref (g.1 + 30)), (1, .long x1), (3, .long x3), (5, .int x5)]) d_M_steppedOn_45 (by decide) rfl ?_
    refine am_sub [2, 5, 1, 0] rfl ?_
    obtain ⟨n, h⟩ := h
    exact cf_M_steppedOn_L47_ok (by omega)    P Q hQ  n x5 x1 x3 w h
  · have h := h.2 c17
    refine am_aload_n d_M_steppedOn_20 0 rfl ?_
    refine am_getf (T := F_M) (fs := ob_M g w 30) (C := R_M) (N := 35) (ci := 10) 15 d_M_steppedOn_21 wd_1092 rfl (by decide) (el_M (show ay_sh 30 = _ from rfl)) rfl i_M (by decide) rfl ?_
    refine am_iload d_M_steppedOn_24 4 rfl ?_
    refine am_aload_n d_M_steppedOn_26 0 rfl ?_
    refine am_lconst (v := 1) d_M_steppedOn_27 rfl ?_
    refine am_iload d_M_steppedOn_28 4 rfl ?_
    refine am_lshl d_M_steppedOn_30 ?_
    refine am_callV (C := y_M_stepped.cls) (d2 := d - 1) [.long (lshl (1 : Int64) x6)] d_M_steppedOn_31 mi_M_stepped wd_1394 wd_1396 ws_M_stepped (by decide) (el_M (show ay_sh 30 = _ from rfl)) rfl rfl (by omega) rfl rfl (Nat.le_of_ble_eq_true rfl) ?_
    refine Call.post ?_ (cf_M_stepped_ok (by omega) (lshl (1 : Int64) x6)  w _ h)
    rintro _ _ ⟨r10, rfl, rfl, h⟩
    show wp g (fun _ => True) y_M_steppedOn prog_14_method_59_code 11 (some FieldType.long) d 34 [(0, .ref (g.1 + 30)), (1, .long x1), (3, .long x3), (5, .int x5), (6, .int x6)] [.long r10, .int x6, .ref (g.1 + 41)] w Q
    have hi34 := h.1
    have h := h.2
    refine am_lastore d_M_steppedOn_34 (show ay_sh 41 = _ from rfl) hi34 ?_
    obtain ⟨w11, ew11⟩ : ∃ z, z = wL w 41 x6.toNatClampNeg r10 := ⟨_, rfl⟩
    rw [← ew11]
    have h := h w11 ew11
    obtain ⟨v12, ev12⟩ : ∃ z : Int32, z = x6 + (1 : Int32) := ⟨_, rfl⟩
    have h := h v12 ev12
    refine am_iinc (v := v12) (l' := [(6, .int v12), (0, .ref (g.1 + 30)), (1, .long x1), (3, .long x3), (5, .int x5)]) d_M_steppedOn_35 4 rfl (by rw [ev12]; rfl) (by decide) rfl ?_
    refine am_goto (tgt := 13) d_M_steppedOn_38 (by decide) ?_
    refine am_sub [1, 2, 3, 4, 0] rfl ?_
    exact hK13 x1 x3 x5 v12 w11 h
theorem cf_M_steppedOn_L13_ok {g : ayG} {d : Nat} (hd : 3 ≤ d)    (P : Int64 → Wd → Prop) (Q : Option Value → Wd → Prop) (hQ : ∀ x w2, P x w2 → Q (some (.long x)) w2)  : ∀ (n : Nat) (x1 : Int64) (x3 : Int64) (x5 : Int32) (x6 : Int32) (w : Wd) (h : cf_M_steppedOn_L13 P n x1 x3 x5 x6 w), wp g (fun _ => True) y_M_steppedOn prog_14_method_59_code 11 (some FieldType.long) d 13 [(0, .ref (g.1 + 30)), (1, .long x1), (3, .long x3), (5, .int x5), (6, .int x6)] [] w Q
  | 0, x1, x3, x5, x6, w, h => False.elim h
  | n + 1, x1, x3, x5, x6, w, h => cf_M_steppedOn_B13_ok hd   w (cf_M_steppedOn_L13 P n) P Q hQ (fun x1 x3 x5 x6 w h => cf_M_steppedOn_L13_ok hd    P Q hQ  n x1 x3 x5 x6 w h) x1 x3 x5 x6 h
theorem cf_M_steppedOn_ok {g : ayG} {d : Nat} (hd : 3 ≤ d) (a0 : Int64) (a1 : Int64)  (w : Wd) (P : Int64 → Wd → Prop) (h : cf_M_steppedOn a0 a1 w P) : Call g y_M_steppedOn prog_14_method_59_code 11 (some FieldType.long) d [.ref (g.1 + 30), .long a0, .long a1] w (fun (r : Option Value) (w2 : Wd) => ∃ x, r = some (.long x) ∧ P x w2) := by
  unfold cf_M_steppedOn at h
  refine am_enter mi_M_steppedOn (Nat.le_of_ble_eq_true rfl) ?_
  have hQ : ∀ x w2, P x w2 → (fun (r : Option Value) (w2 : Wd) => ∃ x, r = some (.long x) ∧ P x w2) (some (.long x)) w2 := fun x w2 h => ⟨x, rfl, h⟩
  generalize (fun (r : Option Value) (w2 : Wd) => ∃ x, r = some (.long x) ∧ P x w2) = Q at hQ ⊢
  show wp g (fun _ => True) y_M_steppedOn prog_14_method_59_code 11 (some FieldType.long) d 0 [(0, .ref (g.1 + 30)), (1, .long a0), (3, .long a1)] [] w Q
  refine am_aload_n d_M_steppedOn_0 0 rfl ?_
  refine am_getf (T := F_M) (fs := ob_M g w 30) (C := R_M) (N := 35) (ci := 10) 0 d_M_steppedOn_1 wd_1077 rfl (by decide) (el_M (show ay_sh 30 = _ from rfl)) rfl i_M (by decide) rfl ?_
  refine am_bipush (v := 11) d_M_steppedOn_4 rfl ?_
  have hi6 := h.1
  have h := h.2
  refine am_laload d_M_steppedOn_6 (show ay_sh 31 = _ from rfl) hi6 ?_
  refine am_l2i d_M_steppedOn_7 ?_
  refine am_topi (fun v1 ev1 => ?_)
  have h := h v1 ev1
  refine am_istore (l' := [(5, .int v1), (0, .ref (g.1 + 30)), (1, .long a0), (3, .long a1)]) d_M_steppedOn_8 (by decide) rfl ?_
  refine am_iconst (v := 0) d_M_steppedOn_10 rfl ?_
  refine am_istore (l' := [(6, .int (0 : Int32)), (5, .int v1), (0, .ref (g.1 + 30)), (1, .long a0), (3, .long a1)]) d_M_steppedOn_11 (by decide) rfl ?_
  refine am_sub [2, 3, 4, 1, 0] rfl ?_
  obtain ⟨n, h⟩ := h
  exact cf_M_steppedOn_L13_ok (by omega)    P Q hQ  n a0 a1 v1 (0 : Int32) w h
theorem d_M_period_0 : decode prog_14_method_60_code 0 = .ok (.aload_n 0, 1) := by decide +kernel
theorem d_M_period_1 : decode prog_14_method_60_code 1 = .ok (.aload_n 0, 1) := by decide +kernel
theorem d_M_period_2 : decode prog_14_method_60_code 2 = .ok (.getfield 7, 3) := by decide +kernel
theorem d_M_period_5 : decode prog_14_method_60_code 5 = .ok (.bipush 10, 2) := by decide +kernel
theorem d_M_period_7 : decode prog_14_method_60_code 7 = .ok (.laload, 1) := by decide +kernel
theorem d_M_period_8 : decode prog_14_method_60_code 8 = .ok (.invokevirtual 143, 3) := by decide +kernel
theorem d_M_period_11 : decode prog_14_method_60_code 11 = .ok (.lstore_n 1, 1) := by decide +kernel
theorem d_M_period_12 : decode prog_14_method_60_code 12 = .ok (.aload_n 0, 1) := by decide +kernel
theorem d_M_period_13 : decode prog_14_method_60_code 13 = .ok (.lload_n 1, 1) := by decide +kernel
theorem d_M_period_14 : decode prog_14_method_60_code 14 = .ok (.invokevirtual 130, 3) := by decide +kernel
theorem d_M_period_17 : decode prog_14_method_60_code 17 = .ok (.iconst 0, 1) := by decide +kernel
theorem d_M_period_18 : decode prog_14_method_60_code 18 = .ok (.istore_n 3, 1) := by decide +kernel
theorem d_M_period_19 : decode prog_14_method_60_code 19 = .ok (.iload_n 3, 1) := by decide +kernel
theorem d_M_period_20 : decode prog_14_method_60_code 20 = .ok (.aload_n 0, 1) := by decide +kernel
theorem d_M_period_21 : decode prog_14_method_60_code 21 = .ok (.getfield 119, 3) := by decide +kernel
theorem d_M_period_24 : decode prog_14_method_60_code 24 = .ok (.if_icmp .ge 64, 3) := by decide +kernel
theorem d_M_period_27 : decode prog_14_method_60_code 27 = .ok (.lload_n 1, 1) := by decide +kernel
theorem d_M_period_28 : decode prog_14_method_60_code 28 = .ok (.aload_n 0, 1) := by decide +kernel
theorem d_M_period_29 : decode prog_14_method_60_code 29 = .ok (.getfield 32, 3) := by decide +kernel
theorem d_M_period_32 : decode prog_14_method_60_code 32 = .ok (.iload_n 3, 1) := by decide +kernel
theorem d_M_period_33 : decode prog_14_method_60_code 33 = .ok (.laload, 1) := by decide +kernel
theorem d_M_period_34 : decode prog_14_method_60_code 34 = .ok (.lrem, 1) := by decide +kernel
theorem d_M_period_35 : decode prog_14_method_60_code 35 = .ok (.lconst 0, 1) := by decide +kernel
theorem d_M_period_36 : decode prog_14_method_60_code 36 = .ok (.lcmp, 1) := by decide +kernel
theorem d_M_period_37 : decode prog_14_method_60_code 37 = .ok (.ifCond .ne 45, 3) := by decide +kernel
theorem d_M_period_40 : decode prog_14_method_60_code 40 = .ok (.aload_n 0, 1) := by decide +kernel
theorem d_M_period_41 : decode prog_14_method_60_code 41 = .ok (.aload_n 0, 1) := by decide +kernel
theorem d_M_period_42 : decode prog_14_method_60_code 42 = .ok (.getfield 7, 3) := by decide +kernel
theorem d_M_period_45 : decode prog_14_method_60_code 45 = .ok (.bipush 12, 2) := by decide +kernel
theorem d_M_period_47 : decode prog_14_method_60_code 47 = .ok (.laload, 1) := by decide +kernel
theorem d_M_period_48 : decode prog_14_method_60_code 48 = .ok (.lload_n 1, 1) := by decide +kernel
theorem d_M_period_49 : decode prog_14_method_60_code 49 = .ok (.aload_n 0, 1) := by decide +kernel
theorem d_M_period_50 : decode prog_14_method_60_code 50 = .ok (.getfield 32, 3) := by decide +kernel
theorem d_M_period_53 : decode prog_14_method_60_code 53 = .ok (.iload_n 3, 1) := by decide +kernel
theorem d_M_period_54 : decode prog_14_method_60_code 54 = .ok (.laload, 1) := by decide +kernel
theorem d_M_period_55 : decode prog_14_method_60_code 55 = .ok (.ldiv, 1) := by decide +kernel
theorem d_M_period_56 : decode prog_14_method_60_code 56 = .ok (.invokevirtual 227, 3) := by decide +kernel
theorem d_M_period_59 : decode prog_14_method_60_code 59 = .ok (.aload_n 0, 1) := by decide +kernel
theorem d_M_period_60 : decode prog_14_method_60_code 60 = .ok (.getfield 7, 3) := by decide +kernel
theorem d_M_period_63 : decode prog_14_method_60_code 63 = .ok (.bipush 12, 2) := by decide +kernel
theorem d_M_period_65 : decode prog_14_method_60_code 65 = .ok (.laload, 1) := by decide +kernel
theorem d_M_period_66 : decode prog_14_method_60_code 66 = .ok (.lcmp, 1) := by decide +kernel
theorem d_M_period_67 : decode prog_14_method_60_code 67 = .ok (.ifCond .ne 15, 3) := by decide +kernel
theorem d_M_period_70 : decode prog_14_method_60_code 70 = .ok (.lload_n 1, 1) := by decide +kernel
theorem d_M_period_71 : decode prog_14_method_60_code 71 = .ok (.aload_n 0, 1) := by decide +kernel
theorem d_M_period_72 : decode prog_14_method_60_code 72 = .ok (.getfield 32, 3) := by decide +kernel
theorem d_M_period_75 : decode prog_14_method_60_code 75 = .ok (.iload_n 3, 1) := by decide +kernel
theorem d_M_period_76 : decode prog_14_method_60_code 76 = .ok (.laload, 1) := by decide +kernel
theorem d_M_period_77 : decode prog_14_method_60_code 77 = .ok (.ldiv, 1) := by decide +kernel
theorem d_M_period_78 : decode prog_14_method_60_code 78 = .ok (.lstore_n 1, 1) := by decide +kernel
theorem d_M_period_79 : decode prog_14_method_60_code 79 = .ok (.goto (-52), 3) := by decide +kernel
theorem d_M_period_82 : decode prog_14_method_60_code 82 = .ok (.iinc 3 1, 3) := by decide +kernel
theorem d_M_period_85 : decode prog_14_method_60_code 85 = .ok (.goto (-66), 3) := by decide +kernel
theorem d_M_period_88 : decode prog_14_method_60_code 88 = .ok (.lload_n 1, 1) := by decide +kernel
theorem d_M_period_89 : decode prog_14_method_60_code 89 = .ok (.lreturn, 1) := by decide +kernel
def cf_M_period_B27  (K19 : Int64 → Int32 → Wd → Prop) (K27 : Int64 → Int32 → Wd → Prop) (P : Int64 → Wd → Prop) (x1 : Int64) (x3 : Int32) (w : Wd) : Prop :=
  vp_in x3 20 ∧ ¬ (w.2 36 x3.toNatClampNeg) = 0 ∧ ((¬ (lrem x1 (w.2 36 x3.toNatClampNeg)) = (0 : Int64) → ∀ v4, v4 = x3 + (1 : Int32) → K19 x1 v4 w) ∧ ((lrem x1 (w.2 36 x3.toNatClampNeg)) = (0 : Int64) → vp_in (12 : Int32) 14 ∧ vp_in x3 20 ∧ ¬ (w.2 36 x3.toNatClampNeg) = 0 ∧ cf_M_steppedOn (w.2 31 (12 : Int32).toNatClampNeg) (x1 / (w.2 36 x3.toNatClampNeg)) w (fun r5 w6 => vp_in (12 : Int32) 14 ∧ ((¬ r5 = (w6.2 31 (12 : Int32).toNatClampNeg) → ∀ v7, v7 = x3 + (1 : Int32) → K19 x1 v7 w6) ∧ (r5 = (w6.2 31 (12 : Int32).toNatClampNeg) → vp_in x3 20 ∧ ¬ (w6.2 36 x3.toNatClampNeg) = 0 ∧ ∀ v8, v8 = x1 / (w6.2 36 x3.toNatClampNeg) → K27 v8 x3 w6)))))
def cf_M_period_L27  (K19 : Int64 → Int32 → Wd → Prop) (P : Int64 → Wd → Prop) : Nat → Int64 → Int32 → Wd → Prop
  | 0 => fun x1 x3 w => False
  | n + 1 => fun x1 x3 w => cf_M_period_B27 K19 (cf_M_period_L27 K19 P n) P x1 x3 w
def cf_M_period_B19  (K19 : Int64 → Int32 → Wd → Prop) (P : Int64 → Wd → Prop) (x1 : Int64) (x3 : Int32) (w : Wd) : Prop :=
  (((w.1 30 9) ≤ x3 → P x1 w) ∧ (¬ (w.1 30 9) ≤ x3 → ∃ n, cf_M_period_L27 K19 P n x1 x3 w))
def cf_M_period_L19   (P : Int64 → Wd → Prop) : Nat → Int64 → Int32 → Wd → Prop
  | 0 => fun x1 x3 w => False
  | n + 1 => fun x1 x3 w => cf_M_period_B19 (cf_M_period_L19 P n) P x1 x3 w
def cf_M_period  (w : Wd) (P : Int64 → Wd → Prop) : Prop :=
  vp_in (10 : Int32) 14 ∧ cf_M_orderOf (w.2 31 (10 : Int32).toNatClampNeg) w (fun r1 w2 => cf_M_laysPrimes r1 w2 (fun w3 => ∃ n, cf_M_period_L19 P n r1 (0 : Int32) w3))
theorem cf_M_period_B27_ok {g : ayG} {d : Nat} (hd : 102 ≤ d)   (w : Wd) (K19 : Int64 → Int32 → Wd → Prop) (K27 : Int64 → Int32 → Wd → Prop) (P : Int64 → Wd → Prop) (Q : Option Value → Wd → Prop) (hQ : ∀ x w2, P x w2 → Q (some (.long x)) w2) (hK19 : ∀ (x1 : Int64) (x3 : Int32) (w : Wd), (K19 x1 x3 w → wp g (fun _ => True) y_M_period prog_14_method_60_code 4 (some FieldType.long) d 19 [(0, .ref (g.1 + 30)), (1, .long x1), (3, .int x3)] [] w Q)) (hK27 : ∀ (x1 : Int64) (x3 : Int32) (w : Wd), (K27 x1 x3 w → wp g (fun _ => True) y_M_period prog_14_method_60_code 4 (some FieldType.long) d 27 [(0, .ref (g.1 + 30)), (1, .long x1), (3, .int x3)] [] w Q)) (x1 : Int64) (x3 : Int32) (h : cf_M_period_B27 K19 K27 P x1 x3 w) : wp g (fun _ => True) y_M_period prog_14_method_60_code 4 (some FieldType.long) d 27 [(0, .ref (g.1 + 30)), (1, .long x1), (3, .int x3)] [] w Q := by
  unfold cf_M_period_B27 at h
  refine am_lload_n d_M_period_27 1 rfl ?_
  refine am_aload_n d_M_period_28 0 rfl ?_
  refine am_getf (T := F_M) (fs := ob_M g w 30) (C := R_M) (N := 35) (ci := 10) 8 d_M_period_29 wd_1085 rfl (by decide) (el_M (show ay_sh 30 = _ from rfl)) rfl i_M (by decide) rfl ?_
  refine am_iload_n d_M_period_32 2 rfl ?_
  have hi33 := h.1
  have h := h.2
  refine am_laload d_M_period_33 (show ay_sh 36 = _ from rfl) hi33 ?_
  have hz34 := h.1
  have h := h.2
  refine am_lrem d_M_period_34 hz34 ?_
  refine am_lconst (v := 0) d_M_period_35 rfl ?_
  refine am_lif_ne (tgt := 82) d_M_period_36 d_M_period_37 (by decide) (fun c36 => ?_) (fun c36 => ?_)
  · have h := h.1 c36
    obtain ⟨v4, ev4⟩ : ∃ z : Int32, z = x3 + (1 : Int32) := ⟨_, rfl⟩
    have h := h v4 ev4
    refine am_iinc (v := v4) (l' := [(3, .int v4), (0, .ref (g.1 + 30)), (1, .long x1)]) d_M_period_82 2 rfl (by rw [ev4]; rfl) (by decide) rfl ?_
    refine am_goto (tgt := 19) d_M_period_85 (by decide) ?_
    refine am_sub [1, 2, 0] rfl ?_
    exact hK19 x1 v4 w h
  · have h := h.2 c36
    refine am_aload_n d_M_period_40 0 rfl ?_
    refine am_aload_n d_M_period_41 0 rfl ?_
    refine am_getf (T := F_M) (fs := ob_M g w 30) (C := R_M) (N := 35) (ci := 10) 0 d_M_period_42 wd_1077 rfl (by decide) (el_M (show ay_sh 30 = _ from rfl)) rfl i_M (by decide) rfl ?_
    refine am_bipush (v := 12) d_M_period_45 rfl ?_
    have hi47 := h.1
    have h := h.2
    refine am_laload d_M_period_47 (show ay_sh 31 = _ from rfl) hi47 ?_
    refine am_lload_n d_M_period_48 1 rfl ?_
    refine am_aload_n d_M_period_49 0 rfl ?_
    refine am_getf (T := F_M) (fs := ob_M g w 30) (C := R_M) (N := 35) (ci := 10) 8 d_M_period_50 wd_1085 rfl (by decide) (el_M (show ay_sh 30 = _ from rfl)) rfl i_M (by decide) rfl ?_
    refine am_iload_n d_M_period_53 2 rfl ?_
    have hi54 := h.1
    have h := h.2
    refine am_laload d_M_period_54 (show ay_sh 36 = _ from rfl) hi54 ?_
    have hz55 := h.1
    have h := h.2
    refine am_ldiv d_M_period_55 hz55 ?_
    refine am_callV (C := y_M_steppedOn.cls) (d2 := d - 1) [.long (w.2 31 (12 : Int32).toNatClampNeg), .long (x1 / (w.2 36 x3.toNatClampNeg))] d_M_period_56 mi_M_steppedOn wd_1390 wd_1392 ws_M_steppedOn (by decide) (el_M (show ay_sh 30 = _ from rfl)) rfl rfl (by omega) rfl rfl (Nat.le_of_ble_eq_true rfl) ?_
    refine Call.post ?_ (cf_M_steppedOn_ok (by omega) (w.2 31 (12 : Int32).toNatClampNeg) (x1 / (w.2 36 x3.toNatClampNeg))  w _ h)
    rintro _ w6 ⟨r5, rfl, h⟩
    show wp g (fun _ => True) y_M_period prog_14_method_60_code 4 (some FieldType.long) d 59 [(0, .ref (g.1 + 30)), (1, .long x1), (3, .int x3)] [.long r5] w6 Q
    refine am_aload_n d_M_period_59 0 rfl ?_
    refine am_getf (T := F_M) (fs := ob_M g w6 30) (C := R_M) (N := 35) (ci := 10) 0 d_M_period_60 wd_1077 rfl (by decide) (el_M (show ay_sh 30 = _ from rfl)) rfl i_M (by decide) rfl ?_
    refine am_bipush (v := 12) d_M_period_63 rfl ?_
    have hi65 := h.1
    have h := h.2
    refine am_laload d_M_period_65 (show ay_sh 31 = _ from rfl) hi65 ?_
    refine am_lif_ne (tgt := 82) d_M_period_66 d_M_period_67 (by decide) (fun c66 => ?_) (fun c66 => ?_)
    · have h := h.1 c66
      obtain ⟨v7, ev7⟩ : ∃ z : Int32, z = x3 + (1 : Int32) := ⟨_, rfl⟩
      have h := h v7 ev7
      refine am_iinc (v := v7) (l' := [(3, .int v7), (0, .ref (g.1 + 30)), (1, .long x1)]) d_M_period_82 2 rfl (by rw [ev7]; rfl) (by decide) rfl ?_
      refine am_goto (tgt := 19) d_M_period_85 (by decide) ?_
      refine am_sub [1, 2, 0] rfl ?_
      exact hK19 x1 v7 w6 h
    · have h := h.2 c66
      refine am_lload_n d_M_period_70 1 rfl ?_
      refine am_aload_n d_M_period_71 0 rfl ?_
      refine am_getf (T := F_M) (fs := ob_M g w6 30) (C := R_M) (N := 35) (ci := 10) 8 d_M_period_72 wd_1085 rfl (by decide) (el_M (show ay_sh 30 = _ from rfl)) rfl i_M (by decide) rfl ?_
      refine am_iload_n d_M_period_75 2 rfl ?_
      have hi76 := h.1
      have h := h.2
      refine am_laload d_M_period_76 (show ay_sh 36 = _ from rfl) hi76 ?_
      have hz77 := h.1
      have h := h.2
      refine am_ldiv d_M_period_77 hz77 ?_
      refine am_topl (fun v8 ev8 => ?_)
      have h := h v8 ev8
      refine am_lstore_n (l' := [(1, .long v8), (0, .ref (g.1 + 30)), (3, .int x3)]) d_M_period_78 (by decide) rfl ?_
      refine am_goto (tgt := 27) d_M_period_79 (by decide) ?_
      refine am_sub [1, 0, 2] rfl ?_
      exact hK27 v8 x3 w6 h
theorem cf_M_period_L27_ok {g : ayG} {d : Nat} (hd : 102 ≤ d)   (K19 : Int64 → Int32 → Wd → Prop) (P : Int64 → Wd → Prop) (Q : Option Value → Wd → Prop) (hQ : ∀ x w2, P x w2 → Q (some (.long x)) w2) (hK19 : ∀ (x1 : Int64) (x3 : Int32) (w : Wd), (K19 x1 x3 w → wp g (fun _ => True) y_M_period prog_14_method_60_code 4 (some FieldType.long) d 19 [(0, .ref (g.1 + 30)), (1, .long x1), (3, .int x3)] [] w Q)) : ∀ (n : Nat) (x1 : Int64) (x3 : Int32) (w : Wd) (h : cf_M_period_L27 K19 P n x1 x3 w), wp g (fun _ => True) y_M_period prog_14_method_60_code 4 (some FieldType.long) d 27 [(0, .ref (g.1 + 30)), (1, .long x1), (3, .int x3)] [] w Q
  | 0, x1, x3, w, h => False.elim h
  | n + 1, x1, x3, w, h => cf_M_period_B27_ok hd   w K19 (cf_M_period_L27 K19 P n) P Q hQ hK19 (fun x1 x3 w h => cf_M_period_L27_ok hd   K19 P Q hQ hK19 n x1 x3 w h) x1 x3 h
theorem cf_M_period_B19_ok {g : ayG} {d : Nat} (hd : 102 ≤ d)   (w : Wd) (K19 : Int64 → Int32 → Wd → Prop) (P : Int64 → Wd → Prop) (Q : Option Value → Wd → Prop) (hQ : ∀ x w2, P x w2 → Q (some (.long x)) w2) (hK19 : ∀ (x1 : Int64) (x3 : Int32) (w : Wd), (K19 x1 x3 w → wp g (fun _ => True) y_M_period prog_14_method_60_code 4 (some FieldType.long) d 19 [(0, .ref (g.1 + 30)), (1, .long x1), (3, .int x3)] [] w Q)) (x1 : Int64) (x3 : Int32) (h : cf_M_period_B19 K19 P x1 x3 w) : wp g (fun _ => True) y_M_period prog_14_method_60_code 4 (some FieldType.long) d 19 [(0, .ref (g.1 + 30)), (1, .long x1), (3, .int x3)] [] w Q := by
  unfold cf_M_period_B19 at h
  refine am_iload_n d_M_period_19 2 rfl ?_
  refine am_aload_n d_M_period_20 0 rfl ?_
  refine am_getf (T := F_M) (fs := ob_M g w 30) (C := R_M) (N := 35) (ci := 10) 9 d_M_period_21 wd_1086 rfl (by decide) (el_M (show ay_sh 30 = _ from rfl)) rfl i_M (by decide) rfl ?_
  refine am_icmp_ge (tgt := 88) d_M_period_24 (by decide) (fun c24 => ?_) (fun c24 => ?_)
  · have h := h.1 c24
    refine am_lload_n d_M_period_88 1 rfl ?_
    exact am_lreturn d_M_period_89 rfl (hQ x1 w h)
  · have h := h.2 c24
    refine am_sub [0, 1, 2] rfl ?_
    obtain ⟨n, h⟩ := h
    exact cf_M_period_L27_ok (by omega)   K19 P Q hQ hK19 n x1 x3 w h
theorem cf_M_period_L19_ok {g : ayG} {d : Nat} (hd : 102 ≤ d)    (P : Int64 → Wd → Prop) (Q : Option Value → Wd → Prop) (hQ : ∀ x w2, P x w2 → Q (some (.long x)) w2)  : ∀ (n : Nat) (x1 : Int64) (x3 : Int32) (w : Wd) (h : cf_M_period_L19 P n x1 x3 w), wp g (fun _ => True) y_M_period prog_14_method_60_code 4 (some FieldType.long) d 19 [(0, .ref (g.1 + 30)), (1, .long x1), (3, .int x3)] [] w Q
  | 0, x1, x3, w, h => False.elim h
  | n + 1, x1, x3, w, h => cf_M_period_B19_ok hd   w (cf_M_period_L19 P n) P Q hQ (fun x1 x3 w h => cf_M_period_L19_ok hd    P Q hQ  n x1 x3 w h) x1 x3 h
theorem cf_M_period_ok {g : ayG} {d : Nat} (hd : 102 ≤ d)   (w : Wd) (P : Int64 → Wd → Prop) (h : cf_M_period w P) : Call g y_M_period prog_14_method_60_code 4 (some FieldType.long) d [.ref (g.1 + 30)] w (fun (r : Option Value) (w2 : Wd) => ∃ x, r = some (.long x) ∧ P x w2) := by
  unfold cf_M_period at h
  refine am_enter mi_M_period (Nat.le_of_ble_eq_true rfl) ?_
  have hQ : ∀ x w2, P x w2 → (fun (r : Option Value) (w2 : Wd) => ∃ x, r = some (.long x) ∧ P x w2) (some (.long x)) w2 := fun x w2 h => ⟨x, rfl, h⟩
  generalize (fun (r : Option Value) (w2 : Wd) => ∃ x, r = some (.long x) ∧ P x w2) = Q at hQ ⊢
  show wp g (fun _ => True) y_M_period prog_14_method_60_code 4 (some FieldType.long) d 0 [(0, .ref (g.1 + 30))] [] w Q
  refine am_aload_n d_M_period_0 0 rfl ?_
  refine am_aload_n d_M_period_1 0 rfl ?_
  refine am_getf (T := F_M) (fs := ob_M g w 30) (C := R_M) (N := 35) (ci := 10) 0 d_M_period_2 wd_1077 rfl (by decide) (el_M (show ay_sh 30 = _ from rfl)) rfl i_M (by decide) rfl ?_
  refine am_bipush (v := 10) d_M_period_5 rfl ?_
  have hi7 := h.1
  have h := h.2
  refine am_laload d_M_period_7 (show ay_sh 31 = _ from rfl) hi7 ?_
  refine am_callV (C := y_M_orderOf.cls) (d2 := d - 1) [.long (w.2 31 (10 : Int32).toNatClampNeg)] d_M_period_8 mi_M_orderOf wd_1236 wd_1238 ws_M_orderOf (by decide) (el_M (show ay_sh 30 = _ from rfl)) rfl rfl (by omega) rfl rfl (Nat.le_of_ble_eq_true rfl) ?_
  refine Call.post ?_ (cf_M_orderOf_ok (by omega) (w.2 31 (10 : Int32).toNatClampNeg)  w _ h)
  rintro _ w2 ⟨r1, rfl, h⟩
  show wp g (fun _ => True) y_M_period prog_14_method_60_code 4 (some FieldType.long) d 11 [(0, .ref (g.1 + 30))] [.long r1] w2 Q
  refine am_lstore_n (l' := [(1, .long r1), (0, .ref (g.1 + 30))]) d_M_period_11 (by decide) rfl ?_
  refine am_aload_n d_M_period_12 1 rfl ?_
  refine am_lload_n d_M_period_13 0 rfl ?_
  refine am_callV (C := y_M_laysPrimes.cls) (d2 := d - 1) [.long r1] d_M_period_14 mi_M_laysPrimes wd_1246 wd_1248 ws_M_laysPrimes (by decide) (el_M (show ay_sh 30 = _ from rfl)) rfl rfl (by omega) rfl rfl (Nat.le_of_ble_eq_true rfl) ?_
  refine Call.post ?_ (cf_M_laysPrimes_ok (by omega) r1  w2 _ h)
  rintro _ w3 ⟨rfl, h⟩
  show wp g (fun _ => True) y_M_period prog_14_method_60_code 4 (some FieldType.long) d 17 [(1, .long r1), (0, .ref (g.1 + 30))] [] w3 Q
  refine am_iconst (v := 0) d_M_period_17 rfl ?_
  refine am_istore_n (l' := [(3, .int (0 : Int32)), (1, .long r1), (0, .ref (g.1 + 30))]) d_M_period_18 (by decide) rfl ?_
  refine am_sub [2, 1, 0] rfl ?_
  obtain ⟨n, h⟩ := h
  exact cf_M_period_L19_ok (by omega)    P Q hQ  n r1 (0 : Int32) w3 h
theorem d_M_shift_0 : decode prog_14_method_61_code 0 = .ok (.iload_n 1, 1) := by decide +kernel
theorem d_M_shift_1 : decode prog_14_method_61_code 1 = .ok (.i2l, 1) := by decide +kernel
theorem d_M_shift_2 : decode prog_14_method_61_code 2 = .ok (.lconst 0, 1) := by decide +kernel
theorem d_M_shift_3 : decode prog_14_method_61_code 3 = .ok (.ldc2_w 102, 3) := by decide +kernel
theorem d_M_shift_6 : decode prog_14_method_61_code 6 = .ok (.invokestatic 76, 3) := by decide +kernel
theorem d_M_shift_9 : decode prog_14_method_61_code 9 = .ok (.ifCond .ne 7, 3) := by decide +kernel
theorem d_M_shift_12 : decode prog_14_method_61_code 12 = .ok (.ldc2_w 26, 3) := by decide +kernel
theorem d_M_shift_15 : decode prog_14_method_61_code 15 = .ok (.lreturn, 1) := by decide +kernel
theorem d_M_shift_16 : decode prog_14_method_61_code 16 = .ok (.aload_n 0, 1) := by decide +kernel
theorem d_M_shift_17 : decode prog_14_method_61_code 17 = .ok (.invokevirtual 230, 3) := by decide +kernel
theorem d_M_shift_20 : decode prog_14_method_61_code 20 = .ok (.ifCond .ne 7, 3) := by decide +kernel
theorem d_M_shift_23 : decode prog_14_method_61_code 23 = .ok (.ldc2_w 162, 3) := by decide +kernel
theorem d_M_shift_26 : decode prog_14_method_61_code 26 = .ok (.lreturn, 1) := by decide +kernel
theorem d_M_shift_27 : decode prog_14_method_61_code 27 = .ok (.iload_n 1, 1) := by decide +kernel
theorem d_M_shift_28 : decode prog_14_method_61_code 28 = .ok (.ifCond .ne 13, 3) := by decide +kernel
theorem d_M_shift_31 : decode prog_14_method_61_code 31 = .ok (.aload_n 0, 1) := by decide +kernel
theorem d_M_shift_32 : decode prog_14_method_61_code 32 = .ok (.getfield 7, 3) := by decide +kernel
theorem d_M_shift_35 : decode prog_14_method_61_code 35 = .ok (.bipush 11, 2) := by decide +kernel
theorem d_M_shift_37 : decode prog_14_method_61_code 37 = .ok (.laload, 1) := by decide +kernel
theorem d_M_shift_38 : decode prog_14_method_61_code 38 = .ok (.goto 37, 3) := by decide +kernel
theorem d_M_shift_41 : decode prog_14_method_61_code 41 = .ok (.iload_n 1, 1) := by decide +kernel
theorem d_M_shift_42 : decode prog_14_method_61_code 42 = .ok (.iconst 1, 1) := by decide +kernel
theorem d_M_shift_43 : decode prog_14_method_61_code 43 = .ok (.if_icmp .ne 13, 3) := by decide +kernel
theorem d_M_shift_46 : decode prog_14_method_61_code 46 = .ok (.aload_n 0, 1) := by decide +kernel
theorem d_M_shift_47 : decode prog_14_method_61_code 47 = .ok (.getfield 7, 3) := by decide +kernel
theorem d_M_shift_50 : decode prog_14_method_61_code 50 = .ok (.bipush 12, 2) := by decide +kernel
theorem d_M_shift_52 : decode prog_14_method_61_code 52 = .ok (.laload, 1) := by decide +kernel
theorem d_M_shift_53 : decode prog_14_method_61_code 53 = .ok (.goto 22, 3) := by decide +kernel
theorem d_M_shift_56 : decode prog_14_method_61_code 56 = .ok (.iload_n 1, 1) := by decide +kernel
theorem d_M_shift_57 : decode prog_14_method_61_code 57 = .ok (.iconst 2, 1) := by decide +kernel
theorem d_M_shift_58 : decode prog_14_method_61_code 58 = .ok (.if_icmp .ne 10, 3) := by decide +kernel
theorem d_M_shift_61 : decode prog_14_method_61_code 61 = .ok (.aload_n 0, 1) := by decide +kernel
theorem d_M_shift_62 : decode prog_14_method_61_code 62 = .ok (.invokevirtual 234, 3) := by decide +kernel
theorem d_M_shift_65 : decode prog_14_method_61_code 65 = .ok (.goto 10, 3) := by decide +kernel
theorem d_M_shift_68 : decode prog_14_method_61_code 68 = .ok (.aload_n 0, 1) := by decide +kernel
theorem d_M_shift_69 : decode prog_14_method_61_code 69 = .ok (.getfield 7, 3) := by decide +kernel
theorem d_M_shift_72 : decode prog_14_method_61_code 72 = .ok (.bipush 13, 2) := by decide +kernel
theorem d_M_shift_74 : decode prog_14_method_61_code 74 = .ok (.laload, 1) := by decide +kernel
theorem d_M_shift_75 : decode prog_14_method_61_code 75 = .ok (.lreturn, 1) := by decide +kernel
def cf_M_shift (a0 : Int32) (w : Wd) (P : Int64 → Wd → Prop) : Prop :=
  cf_M_in a0.toInt64 (0 : Int64) (3 : Int64) (fun r1 => ((¬ r1 = 0 → cf_M_isRegister  w (fun r2 => ((¬ r2 = 0 → ((¬ a0 = 0 → ((¬ a0 = (1 : Int32) → ((¬ a0 = (2 : Int32) → vp_in (13 : Int32) 14 ∧ P (w.2 31 (13 : Int32).toNatClampNeg) w) ∧ (a0 = (2 : Int32) → cf_M_period  w (fun r3 w4 => P r3 w4)))) ∧ (a0 = (1 : Int32) → vp_in (12 : Int32) 14 ∧ P (w.2 31 (12 : Int32).toNatClampNeg) w))) ∧ (a0 = 0 → vp_in (11 : Int32) 14 ∧ P (w.2 31 (11 : Int32).toNatClampNeg) w))) ∧ (r2 = 0 → P (-2 : Int64) w)))) ∧ (r1 = 0 → P (-1 : Int64) w)))
theorem cf_M_shift_ok {g : ayG} {d : Nat} (hd : 103 ≤ d) (a0 : Int32)  (w : Wd) (P : Int64 → Wd → Prop) (h : cf_M_shift a0 w P) : Call g y_M_shift prog_14_method_61_code 2 (some FieldType.long) d [.ref (g.1 + 30), .int a0] w (fun (r : Option Value) (w2 : Wd) => ∃ x, r = some (.long x) ∧ P x w2) := by
  unfold cf_M_shift at h
  refine am_enter mi_M_shift (Nat.le_of_ble_eq_true rfl) ?_
  have hQ : ∀ x w2, P x w2 → (fun (r : Option Value) (w2 : Wd) => ∃ x, r = some (.long x) ∧ P x w2) (some (.long x)) w2 := fun x w2 h => ⟨x, rfl, h⟩
  generalize (fun (r : Option Value) (w2 : Wd) => ∃ x, r = some (.long x) ∧ P x w2) = Q at hQ ⊢
  show wp g (fun _ => True) y_M_shift prog_14_method_61_code 2 (some FieldType.long) d 0 [(0, .ref (g.1 + 30)), (1, .int a0)] [] w Q
  refine am_iload_n d_M_shift_0 1 rfl ?_
  refine am_i2l d_M_shift_1 ?_
  refine am_lconst (v := 0) d_M_shift_2 rfl ?_
  refine am_ldc2 (v := 3) d_M_shift_3 wd_1199 ?_
  refine am_callS (d2 := d - 1) [.long a0.toInt64, .long (0 : Int64), .long (3 : Int64)] d_M_shift_6 mi_M_in wd_1192 wd_1193 (by omega) rfl rfl (Nat.le_of_ble_eq_true rfl) ?_
  refine Call.post ?_ (cf_M_in_ok (by omega) a0.toInt64 (0 : Int64) (3 : Int64)  w _ h)
  rintro _ _ ⟨r1, rfl, rfl, h⟩
  show wp g (fun _ => True) y_M_shift prog_14_method_61_code 2 (some FieldType.long) d 9 [(0, .ref (g.1 + 30)), (1, .int a0)] [.int r1] w Q
  refine am_if_ne (tgt := 16) d_M_shift_9 (by decide) (fun c9 => ?_) (fun c9 => ?_)
  · have h := h.1 c9
    refine am_aload_n d_M_shift_16 0 rfl ?_
    refine am_callV (C := y_M_isRegister.cls) (d2 := d - 1) [] d_M_shift_17 mi_M_isRegister wd_1382 wd_1384 ws_M_isRegister (by decide) (el_M (show ay_sh 30 = _ from rfl)) rfl rfl (by omega) rfl rfl (Nat.le_of_ble_eq_true rfl) ?_
    refine Call.post ?_ (cf_M_isRegister_ok (by omega)   w _ h)
    rintro _ _ ⟨r2, rfl, rfl, h⟩
    show wp g (fun _ => True) y_M_shift prog_14_method_61_code 2 (some FieldType.long) d 20 [(0, .ref (g.1 + 30)), (1, .int a0)] [.int r2] w Q
    refine am_if_ne (tgt := 27) d_M_shift_20 (by decide) (fun c20 => ?_) (fun c20 => ?_)
    · have h := h.1 c20
      refine am_iload_n d_M_shift_27 1 rfl ?_
      refine am_if_ne (tgt := 41) d_M_shift_28 (by decide) (fun c28 => ?_) (fun c28 => ?_)
      · have h := h.1 c28
        refine am_iload_n d_M_shift_41 1 rfl ?_
        refine am_iconst (v := 1) d_M_shift_42 rfl ?_
        refine am_icmp_ne (tgt := 56) d_M_shift_43 (by decide) (fun c43 => ?_) (fun c43 => ?_)
        · have h := h.1 c43
          refine am_iload_n d_M_shift_56 1 rfl ?_
          refine am_iconst (v := 2) d_M_shift_57 rfl ?_
          refine am_icmp_ne (tgt := 68) d_M_shift_58 (by decide) (fun c58 => ?_) (fun c58 => ?_)
          · have h := h.1 c58
            refine am_aload_n d_M_shift_68 0 rfl ?_
            refine am_getf (T := F_M) (fs := ob_M g w 30) (C := R_M) (N := 35) (ci := 10) 0 d_M_shift_69 wd_1077 rfl (by decide) (el_M (show ay_sh 30 = _ from rfl)) rfl i_M (by decide) rfl ?_
            refine am_bipush (v := 13) d_M_shift_72 rfl ?_
            have hi74 := h.1
            have h := h.2
            refine am_laload d_M_shift_74 (show ay_sh 31 = _ from rfl) hi74 ?_
            exact am_lreturn d_M_shift_75 rfl (hQ (w.2 31 (13 : Int32).toNatClampNeg) w h)
          · have h := h.2 c58
            refine am_aload_n d_M_shift_61 0 rfl ?_
            refine am_callV (C := y_M_period.cls) (d2 := d - 1) [] d_M_shift_62 mi_M_period wd_1386 wd_1388 ws_M_period (by decide) (el_M (show ay_sh 30 = _ from rfl)) rfl rfl (by omega) rfl rfl (Nat.le_of_ble_eq_true rfl) ?_
            refine Call.post ?_ (cf_M_period_ok (by omega)   w _ h)
            rintro _ w4 ⟨r3, rfl, h⟩
            show wp g (fun _ => True) y_M_shift prog_14_method_61_code 2 (some FieldType.long) d 65 [(0, .ref (g.1 + 30)), (1, .int a0)] [.long r3] w4 Q
            refine am_goto (tgt := 75) d_M_shift_65 (by decide) ?_
            exact am_lreturn d_M_shift_75 rfl (hQ r3 w4 h)
        · have h := h.2 c43
          refine am_aload_n d_M_shift_46 0 rfl ?_
          refine am_getf (T := F_M) (fs := ob_M g w 30) (C := R_M) (N := 35) (ci := 10) 0 d_M_shift_47 wd_1077 rfl (by decide) (el_M (show ay_sh 30 = _ from rfl)) rfl i_M (by decide) rfl ?_
          refine am_bipush (v := 12) d_M_shift_50 rfl ?_
          have hi52 := h.1
          have h := h.2
          refine am_laload d_M_shift_52 (show ay_sh 31 = _ from rfl) hi52 ?_
          refine am_goto (tgt := 75) d_M_shift_53 (by decide) ?_
          exact am_lreturn d_M_shift_75 rfl (hQ (w.2 31 (12 : Int32).toNatClampNeg) w h)
      · have h := h.2 c28
        refine am_aload_n d_M_shift_31 0 rfl ?_
        refine am_getf (T := F_M) (fs := ob_M g w 30) (C := R_M) (N := 35) (ci := 10) 0 d_M_shift_32 wd_1077 rfl (by decide) (el_M (show ay_sh 30 = _ from rfl)) rfl i_M (by decide) rfl ?_
        refine am_bipush (v := 11) d_M_shift_35 rfl ?_
        have hi37 := h.1
        have h := h.2
        refine am_laload d_M_shift_37 (show ay_sh 31 = _ from rfl) hi37 ?_
        refine am_goto (tgt := 75) d_M_shift_38 (by decide) ?_
        exact am_lreturn d_M_shift_75 rfl (hQ (w.2 31 (11 : Int32).toNatClampNeg) w h)
    · have h := h.2 c20
      refine am_ldc2 (v := -2) d_M_shift_23 wd_1267 ?_
      exact am_lreturn d_M_shift_26 rfl (hQ (-2 : Int64) w h)
  · have h := h.2 c9
    refine am_ldc2 (v := -1) d_M_shift_12 wd_1076 ?_
    exact am_lreturn d_M_shift_15 rfl (hQ (-1 : Int64) w h)
theorem d_M_keepsAct_0 : decode prog_14_method_65_code 0 = .ok (.aload_n 0, 1) := by decide +kernel
theorem d_M_keepsAct_1 : decode prog_14_method_65_code 1 = .ok (.getfield 245, 3) := by decide +kernel
theorem d_M_keepsAct_4 : decode prog_14_method_65_code 4 = .ok (.bipush 10, 2) := by decide +kernel
theorem d_M_keepsAct_6 : decode prog_14_method_65_code 6 = .ok (.if_icmp .ne 44, 3) := by decide +kernel
theorem d_M_keepsAct_9 : decode prog_14_method_65_code 9 = .ok (.bipush 14, 2) := by decide +kernel
theorem d_M_keepsAct_11 : decode prog_14_method_65_code 11 = .ok (.istore_n 1, 1) := by decide +kernel
theorem d_M_keepsAct_12 : decode prog_14_method_65_code 12 = .ok (.iload_n 1, 1) := by decide +kernel
theorem d_M_keepsAct_13 : decode prog_14_method_65_code 13 = .ok (.sipush 140, 3) := by decide +kernel
theorem d_M_keepsAct_16 : decode prog_14_method_65_code 16 = .ok (.if_icmp .ge 24, 3) := by decide +kernel
theorem d_M_keepsAct_19 : decode prog_14_method_65_code 19 = .ok (.aload_n 0, 1) := by decide +kernel
theorem d_M_keepsAct_20 : decode prog_14_method_65_code 20 = .ok (.getfield 13, 3) := by decide +kernel
theorem d_M_keepsAct_23 : decode prog_14_method_65_code 23 = .ok (.iload_n 1, 1) := by decide +kernel
theorem d_M_keepsAct_24 : decode prog_14_method_65_code 24 = .ok (.bipush 14, 2) := by decide +kernel
theorem d_M_keepsAct_26 : decode prog_14_method_65_code 26 = .ok (.isub, 1) := by decide +kernel
theorem d_M_keepsAct_27 : decode prog_14_method_65_code 27 = .ok (.aload_n 0, 1) := by decide +kernel
theorem d_M_keepsAct_28 : decode prog_14_method_65_code 28 = .ok (.getfield 13, 3) := by decide +kernel
theorem d_M_keepsAct_31 : decode prog_14_method_65_code 31 = .ok (.iload_n 1, 1) := by decide +kernel
theorem d_M_keepsAct_32 : decode prog_14_method_65_code 32 = .ok (.laload, 1) := by decide +kernel
theorem d_M_keepsAct_33 : decode prog_14_method_65_code 33 = .ok (.lastore, 1) := by decide +kernel
theorem d_M_keepsAct_34 : decode prog_14_method_65_code 34 = .ok (.iinc 1 1, 3) := by decide +kernel
theorem d_M_keepsAct_37 : decode prog_14_method_65_code 37 = .ok (.goto (-25), 3) := by decide +kernel
theorem d_M_keepsAct_40 : decode prog_14_method_65_code 40 = .ok (.aload_n 0, 1) := by decide +kernel
theorem d_M_keepsAct_41 : decode prog_14_method_65_code 41 = .ok (.dup, 1) := by decide +kernel
theorem d_M_keepsAct_42 : decode prog_14_method_65_code 42 = .ok (.getfield 245, 3) := by decide +kernel
theorem d_M_keepsAct_45 : decode prog_14_method_65_code 45 = .ok (.iconst 1, 1) := by decide +kernel
theorem d_M_keepsAct_46 : decode prog_14_method_65_code 46 = .ok (.isub, 1) := by decide +kernel
theorem d_M_keepsAct_47 : decode prog_14_method_65_code 47 = .ok (.putfield 245, 3) := by decide +kernel
theorem d_M_keepsAct_50 : decode prog_14_method_65_code 50 = .ok (.iconst 0, 1) := by decide +kernel
theorem d_M_keepsAct_51 : decode prog_14_method_65_code 51 = .ok (.istore_n 1, 1) := by decide +kernel
theorem d_M_keepsAct_52 : decode prog_14_method_65_code 52 = .ok (.iload_n 1, 1) := by decide +kernel
theorem d_M_keepsAct_53 : decode prog_14_method_65_code 53 = .ok (.bipush 14, 2) := by decide +kernel
theorem d_M_keepsAct_55 : decode prog_14_method_65_code 55 = .ok (.if_icmp .ge 29, 3) := by decide +kernel
theorem d_M_keepsAct_58 : decode prog_14_method_65_code 58 = .ok (.aload_n 0, 1) := by decide +kernel
theorem d_M_keepsAct_59 : decode prog_14_method_65_code 59 = .ok (.getfield 13, 3) := by decide +kernel
theorem d_M_keepsAct_62 : decode prog_14_method_65_code 62 = .ok (.bipush 14, 2) := by decide +kernel
theorem d_M_keepsAct_64 : decode prog_14_method_65_code 64 = .ok (.aload_n 0, 1) := by decide +kernel
theorem d_M_keepsAct_65 : decode prog_14_method_65_code 65 = .ok (.getfield 245, 3) := by decide +kernel
theorem d_M_keepsAct_68 : decode prog_14_method_65_code 68 = .ok (.imul, 1) := by decide +kernel
theorem d_M_keepsAct_69 : decode prog_14_method_65_code 69 = .ok (.iload_n 1, 1) := by decide +kernel
theorem d_M_keepsAct_70 : decode prog_14_method_65_code 70 = .ok (.iadd, 1) := by decide +kernel
theorem d_M_keepsAct_71 : decode prog_14_method_65_code 71 = .ok (.aload_n 0, 1) := by decide +kernel
theorem d_M_keepsAct_72 : decode prog_14_method_65_code 72 = .ok (.getfield 7, 3) := by decide +kernel
theorem d_M_keepsAct_75 : decode prog_14_method_65_code 75 = .ok (.iload_n 1, 1) := by decide +kernel
theorem d_M_keepsAct_76 : decode prog_14_method_65_code 76 = .ok (.laload, 1) := by decide +kernel
theorem d_M_keepsAct_77 : decode prog_14_method_65_code 77 = .ok (.lastore, 1) := by decide +kernel
theorem d_M_keepsAct_78 : decode prog_14_method_65_code 78 = .ok (.iinc 1 1, 3) := by decide +kernel
theorem d_M_keepsAct_81 : decode prog_14_method_65_code 81 = .ok (.goto (-29), 3) := by decide +kernel
theorem d_M_keepsAct_84 : decode prog_14_method_65_code 84 = .ok (.aload_n 0, 1) := by decide +kernel
theorem d_M_keepsAct_85 : decode prog_14_method_65_code 85 = .ok (.dup, 1) := by decide +kernel
theorem d_M_keepsAct_86 : decode prog_14_method_65_code 86 = .ok (.getfield 245, 3) := by decide +kernel
theorem d_M_keepsAct_89 : decode prog_14_method_65_code 89 = .ok (.iconst 1, 1) := by decide +kernel
theorem d_M_keepsAct_90 : decode prog_14_method_65_code 90 = .ok (.iadd, 1) := by decide +kernel
theorem d_M_keepsAct_91 : decode prog_14_method_65_code 91 = .ok (.putfield 245, 3) := by decide +kernel
theorem d_M_keepsAct_94 : decode prog_14_method_65_code 94 = .ok (.return_, 1) := by decide +kernel
def cf_M_keepsAct_B52  (K52 : Int32 → Wd → Prop) (P : Wd → Prop) (x1 : Int32) (w : Wd) : Prop :=
  (((14 : Int32) ≤ x1 → ∀ w1, w1 = wI w 30 2 ((w.1 30 2) + (1 : Int32)) → P w1) ∧ (¬ (14 : Int32) ≤ x1 → vp_in x1 14 ∧ vp_in (((14 : Int32) * (w.1 30 2)) + x1) 140 ∧ ∀ w2, w2 = wL w 32 (((14 : Int32) * (w.1 30 2)) + x1).toNatClampNeg (w.2 31 x1.toNatClampNeg) → ∀ v3, v3 = x1 + (1 : Int32) → K52 v3 w2))
def cf_M_keepsAct_L52   (P : Wd → Prop) : Nat → Int32 → Wd → Prop
  | 0 => fun x1 w => False
  | n + 1 => fun x1 w => cf_M_keepsAct_B52 (cf_M_keepsAct_L52 P n) P x1 w
def cf_M_keepsAct_B12  (K12 : Int32 → Wd → Prop) (P : Wd → Prop) (x1 : Int32) (w : Wd) : Prop :=
  (((140 : Int32) ≤ x1 → ∀ w4, w4 = wI w 30 2 ((w.1 30 2) - (1 : Int32)) → ∃ n, cf_M_keepsAct_L52 P n (0 : Int32) w4) ∧ (¬ (140 : Int32) ≤ x1 → vp_in x1 140 ∧ vp_in (x1 - (14 : Int32)) 140 ∧ ∀ w5, w5 = wL w 32 (x1 - (14 : Int32)).toNatClampNeg (w.2 32 x1.toNatClampNeg) → ∀ v6, v6 = x1 + (1 : Int32) → K12 v6 w5))
def cf_M_keepsAct_L12   (P : Wd → Prop) : Nat → Int32 → Wd → Prop
  | 0 => fun x1 w => False
  | n + 1 => fun x1 w => cf_M_keepsAct_B12 (cf_M_keepsAct_L12 P n) P x1 w
def cf_M_keepsAct  (w : Wd) (P : Wd → Prop) : Prop :=
  ((¬ (w.1 30 2) = (10 : Int32) → ∃ n, cf_M_keepsAct_L52 P n (0 : Int32) w) ∧ ((w.1 30 2) = (10 : Int32) → ∃ n, cf_M_keepsAct_L12 P n (14 : Int32) w))
theorem cf_M_keepsAct_B52_ok {g : ayG} {d : Nat} (hd : 0 ≤ d)   (w : Wd) (K52 : Int32 → Wd → Prop) (P : Wd → Prop) (Q : Option Value → Wd → Prop) (hQ : ∀ w2, P w2 → Q none w2) (hK52 : ∀ (x1 : Int32) (w : Wd), (K52 x1 w → wp g (fun _ => True) y_M_keepsAct prog_14_method_65_code 2 none d 52 [(0, .ref (g.1 + 30)), (1, .int x1)] [] w Q)) (x1 : Int32) (h : cf_M_keepsAct_B52 K52 P x1 w) : wp g (fun _ => True) y_M_keepsAct prog_14_method_65_code 2 none d 52 [(0, .ref (g.1 + 30)), (1, .int x1)] [] w Q := by
  unfold cf_M_keepsAct_B52 at h
  refine am_iload_n d_M_keepsAct_52 1 rfl ?_
  refine am_bipush (v := 14) d_M_keepsAct_53 rfl ?_
  refine am_icmp_ge (tgt := 84) d_M_keepsAct_55 (by decide) (fun c55 => ?_) (fun c55 => ?_)
  · have h := h.1 c55
    refine am_aload_n d_M_keepsAct_84 0 rfl ?_
    refine am_dup d_M_keepsAct_85 rfl ?_
    refine am_getf (T := F_M) (fs := ob_M g w 30) (C := R_M) (N := 35) (ci := 10) 2 d_M_keepsAct_86 wd_1079 rfl (by decide) (el_M (show ay_sh 30 = _ from rfl)) rfl i_M (by decide) rfl ?_
    refine am_iconst (v := 1) d_M_keepsAct_89 rfl ?_
    refine am_iadd d_M_keepsAct_90 ?_
    refine am_putf (w' := wI w 30 2 ((w.1 30 2) + (1 : Int32))) (ty := .int) (T := F_M) (fs := ob_M g w 30) (C := R_M) (N := 35) (ci := 10) 2 d_M_keepsAct_91 wd_1079 rfl (by decide) (el_M (show ay_sh 30 = _ from rfl)) rfl i_M (by decide) G_M ty_M n_M rfl (ty_M 2 (by decide)) rfl rfl (Nat.le_of_ble_eq_true rfl) ((el_M (show ay_sh 30 = _ from rfl)).trans (by rw [pf_M_undone])) wI_o ?_
    obtain ⟨w1, ew1⟩ : ∃ z, z = wI w 30 2 ((w.1 30 2) + (1 : Int32)) := ⟨_, rfl⟩
    rw [← ew1]
    have h := h w1 ew1
    exact am_return d_M_keepsAct_94 rfl (hQ w1 h)
  · have h := h.2 c55
    refine am_aload_n d_M_keepsAct_58 0 rfl ?_
    refine am_getf (T := F_M) (fs := ob_M g w 30) (C := R_M) (N := 35) (ci := 10) 1 d_M_keepsAct_59 wd_1078 rfl (by decide) (el_M (show ay_sh 30 = _ from rfl)) rfl i_M (by decide) rfl ?_
    refine am_bipush (v := 14) d_M_keepsAct_62 rfl ?_
    refine am_aload_n d_M_keepsAct_64 0 rfl ?_
    refine am_getf (T := F_M) (fs := ob_M g w 30) (C := R_M) (N := 35) (ci := 10) 2 d_M_keepsAct_65 wd_1079 rfl (by decide) (el_M (show ay_sh 30 = _ from rfl)) rfl i_M (by decide) rfl ?_
    refine am_imul d_M_keepsAct_68 ?_
    refine am_iload_n d_M_keepsAct_69 1 rfl ?_
    refine am_iadd d_M_keepsAct_70 ?_
    refine am_aload_n d_M_keepsAct_71 0 rfl ?_
    refine am_getf (T := F_M) (fs := ob_M g w 30) (C := R_M) (N := 35) (ci := 10) 0 d_M_keepsAct_72 wd_1077 rfl (by decide) (el_M (show ay_sh 30 = _ from rfl)) rfl i_M (by decide) rfl ?_
    refine am_iload_n d_M_keepsAct_75 1 rfl ?_
    have hi76 := h.1
    have h := h.2
    refine am_laload d_M_keepsAct_76 (show ay_sh 31 = _ from rfl) hi76 ?_
    have hi77 := h.1
    have h := h.2
    refine am_lastore d_M_keepsAct_77 (show ay_sh 32 = _ from rfl) hi77 ?_
    obtain ⟨w2, ew2⟩ : ∃ z, z = wL w 32 (((14 : Int32) * (w.1 30 2)) + x1).toNatClampNeg (w.2 31 x1.toNatClampNeg) := ⟨_, rfl⟩
    rw [← ew2]
    have h := h w2 ew2
    obtain ⟨v3, ev3⟩ : ∃ z : Int32, z = x1 + (1 : Int32) := ⟨_, rfl⟩
    have h := h v3 ev3
    refine am_iinc (v := v3) (l' := [(1, .int v3), (0, .ref (g.1 + 30))]) d_M_keepsAct_78 1 rfl (by rw [ev3]; rfl) (by decide) rfl ?_
    refine am_goto (tgt := 52) d_M_keepsAct_81 (by decide) ?_
    refine am_sub [1, 0] rfl ?_
    exact hK52 v3 w2 h
theorem cf_M_keepsAct_L52_ok {g : ayG} {d : Nat} (hd : 0 ≤ d)    (P : Wd → Prop) (Q : Option Value → Wd → Prop) (hQ : ∀ w2, P w2 → Q none w2)  : ∀ (n : Nat) (x1 : Int32) (w : Wd) (h : cf_M_keepsAct_L52 P n x1 w), wp g (fun _ => True) y_M_keepsAct prog_14_method_65_code 2 none d 52 [(0, .ref (g.1 + 30)), (1, .int x1)] [] w Q
  | 0, x1, w, h => False.elim h
  | n + 1, x1, w, h => cf_M_keepsAct_B52_ok hd   w (cf_M_keepsAct_L52 P n) P Q hQ (fun x1 w h => cf_M_keepsAct_L52_ok hd    P Q hQ  n x1 w h) x1 h
theorem cf_M_keepsAct_B12_ok {g : ayG} {d : Nat} (hd : 0 ≤ d)   (w : Wd) (K12 : Int32 → Wd → Prop) (P : Wd → Prop) (Q : Option Value → Wd → Prop) (hQ : ∀ w2, P w2 → Q none w2) (hK12 : ∀ (x1 : Int32) (w : Wd), (K12 x1 w → wp g (fun _ => True) y_M_keepsAct prog_14_method_65_code 2 none d 12 [(0, .ref (g.1 + 30)), (1, .int x1)] [] w Q)) (x1 : Int32) (h : cf_M_keepsAct_B12 K12 P x1 w) : wp g (fun _ => True) y_M_keepsAct prog_14_method_65_code 2 none d 12 [(0, .ref (g.1 + 30)), (1, .int x1)] [] w Q := by
  unfold cf_M_keepsAct_B12 at h
  refine am_iload_n d_M_keepsAct_12 1 rfl ?_
  refine am_sipush (v := 140) d_M_keepsAct_13 rfl ?_
  refine am_icmp_ge (tgt := 40) d_M_keepsAct_16 (by decide) (fun c16 => ?_) (fun c16 => ?_)
  · have h := h.1 c16
    refine am_aload_n d_M_keepsAct_40 0 rfl ?_
    refine am_dup d_M_keepsAct_41 rfl ?_
    refine am_getf (T := F_M) (fs := ob_M g w 30) (C := R_M) (N := 35) (ci := 10) 2 d_M_keepsAct_42 wd_1079 rfl (by decide) (el_M (show ay_sh 30 = _ from rfl)) rfl i_M (by decide) rfl ?_
    refine am_iconst (v := 1) d_M_keepsAct_45 rfl ?_
    refine am_isub d_M_keepsAct_46 ?_
    refine am_putf (w' := wI w 30 2 ((w.1 30 2) - (1 : Int32))) (ty := .int) (T := F_M) (fs := ob_M g w 30) (C := R_M) (N := 35) (ci := 10) 2 d_M_keepsAct_47 wd_1079 rfl (by decide) (el_M (show ay_sh 30 = _ from rfl)) rfl i_M (by decide) G_M ty_M n_M rfl (ty_M 2 (by decide)) rfl rfl (Nat.le_of_ble_eq_true rfl) ((el_M (show ay_sh 30 = _ from rfl)).trans (by rw [pf_M_undone])) wI_o ?_
    obtain ⟨w4, ew4⟩ : ∃ z, z = wI w 30 2 ((w.1 30 2) - (1 : Int32)) := ⟨_, rfl⟩
    rw [← ew4]
    have h := h w4 ew4
    refine am_iconst (v := 0) d_M_keepsAct_50 rfl ?_
    refine am_istore_n (l' := [(1, .int (0 : Int32)), (0, .ref (g.1 + 30))]) d_M_keepsAct_51 (by decide) rfl ?_
    refine am_sub [1, 0] rfl ?_
    obtain ⟨n, h⟩ := h
    exact cf_M_keepsAct_L52_ok (by omega)    P Q hQ  n (0 : Int32) w4 h
  · have h := h.2 c16
    refine am_aload_n d_M_keepsAct_19 0 rfl ?_
    refine am_getf (T := F_M) (fs := ob_M g w 30) (C := R_M) (N := 35) (ci := 10) 1 d_M_keepsAct_20 wd_1078 rfl (by decide) (el_M (show ay_sh 30 = _ from rfl)) rfl i_M (by decide) rfl ?_
    refine am_iload_n d_M_keepsAct_23 1 rfl ?_
    refine am_bipush (v := 14) d_M_keepsAct_24 rfl ?_
    refine am_isub d_M_keepsAct_26 ?_
    refine am_aload_n d_M_keepsAct_27 0 rfl ?_
    refine am_getf (T := F_M) (fs := ob_M g w 30) (C := R_M) (N := 35) (ci := 10) 1 d_M_keepsAct_28 wd_1078 rfl (by decide) (el_M (show ay_sh 30 = _ from rfl)) rfl i_M (by decide) rfl ?_
    refine am_iload_n d_M_keepsAct_31 1 rfl ?_
    have hi32 := h.1
    have h := h.2
    refine am_laload d_M_keepsAct_32 (show ay_sh 32 = _ from rfl) hi32 ?_
    have hi33 := h.1
    have h := h.2
    refine am_lastore d_M_keepsAct_33 (show ay_sh 32 = _ from rfl) hi33 ?_
    obtain ⟨w5, ew5⟩ : ∃ z, z = wL w 32 (x1 - (14 : Int32)).toNatClampNeg (w.2 32 x1.toNatClampNeg) := ⟨_, rfl⟩
    rw [← ew5]
    have h := h w5 ew5
    obtain ⟨v6, ev6⟩ : ∃ z : Int32, z = x1 + (1 : Int32) := ⟨_, rfl⟩
    have h := h v6 ev6
    refine am_iinc (v := v6) (l' := [(1, .int v6), (0, .ref (g.1 + 30))]) d_M_keepsAct_34 1 rfl (by rw [ev6]; rfl) (by decide) rfl ?_
    refine am_goto (tgt := 12) d_M_keepsAct_37 (by decide) ?_
    refine am_sub [1, 0] rfl ?_
    exact hK12 v6 w5 h
theorem cf_M_keepsAct_L12_ok {g : ayG} {d : Nat} (hd : 0 ≤ d)    (P : Wd → Prop) (Q : Option Value → Wd → Prop) (hQ : ∀ w2, P w2 → Q none w2)  : ∀ (n : Nat) (x1 : Int32) (w : Wd) (h : cf_M_keepsAct_L12 P n x1 w), wp g (fun _ => True) y_M_keepsAct prog_14_method_65_code 2 none d 12 [(0, .ref (g.1 + 30)), (1, .int x1)] [] w Q
  | 0, x1, w, h => False.elim h
  | n + 1, x1, w, h => cf_M_keepsAct_B12_ok hd   w (cf_M_keepsAct_L12 P n) P Q hQ (fun x1 w h => cf_M_keepsAct_L12_ok hd    P Q hQ  n x1 w h) x1 h
theorem cf_M_keepsAct_ok {g : ayG} {d : Nat} (hd : 0 ≤ d)   (w : Wd) (P : Wd → Prop) (h : cf_M_keepsAct w P) : Call g y_M_keepsAct prog_14_method_65_code 2 none d [.ref (g.1 + 30)] w (fun (r : Option Value) (w2 : Wd) => r = none ∧ P w2) := by
  unfold cf_M_keepsAct at h
  refine am_enter mi_M_keepsAct (Nat.le_of_ble_eq_true rfl) ?_
  have hQ : ∀ w2, P w2 → (fun (r : Option Value) (w2 : Wd) => r = none ∧ P w2) none w2 := fun w2 h => ⟨rfl, h⟩
  generalize (fun (r : Option Value) (w2 : Wd) => r = none ∧ P w2) = Q at hQ ⊢
  show wp g (fun _ => True) y_M_keepsAct prog_14_method_65_code 2 none d 0 [(0, .ref (g.1 + 30))] [] w Q
  refine am_aload_n d_M_keepsAct_0 0 rfl ?_
  refine am_getf (T := F_M) (fs := ob_M g w 30) (C := R_M) (N := 35) (ci := 10) 2 d_M_keepsAct_1 wd_1079 rfl (by decide) (el_M (show ay_sh 30 = _ from rfl)) rfl i_M (by decide) rfl ?_
  refine am_bipush (v := 10) d_M_keepsAct_4 rfl ?_
  refine am_icmp_ne (tgt := 50) d_M_keepsAct_6 (by decide) (fun c6 => ?_) (fun c6 => ?_)
  · have h := h.1 c6
    refine am_iconst (v := 0) d_M_keepsAct_50 rfl ?_
    refine am_istore_n (l' := [(1, .int (0 : Int32)), (0, .ref (g.1 + 30))]) d_M_keepsAct_51 (by decide) rfl ?_
    refine am_sub [1, 0] rfl ?_
    obtain ⟨n, h⟩ := h
    exact cf_M_keepsAct_L52_ok (by omega)    P Q hQ  n (0 : Int32) w h
  · have h := h.2 c6
    refine am_bipush (v := 14) d_M_keepsAct_9 rfl ?_
    refine am_istore_n (l' := [(1, .int (14 : Int32)), (0, .ref (g.1 + 30))]) d_M_keepsAct_11 (by decide) rfl ?_
    refine am_sub [1, 0] rfl ?_
    obtain ⟨n, h⟩ := h
    exact cf_M_keepsAct_L12_ok (by omega)    P Q hQ  n (14 : Int32) w h
