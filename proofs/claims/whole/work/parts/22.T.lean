-- bytecode as predicates, by program (wip/whole/gen/extract.py)
theorem mi_T_feed : ay_MI y_T_feed prog_1_method_2_code 7 (some FieldType.int) 5 := ⟨wd_225, wd_1, by decide +kernel, by decide +kernel, by decide⟩
theorem mi_T_end : ay_MI y_T_end prog_1_method_3_code 2 (some FieldType.int) 1 := ⟨wd_245, wd_1, by decide +kernel, by decide +kernel, by decide⟩
theorem mi_T_run : ay_MI y_T_run prog_1_method_4_code 2 (some FieldType.int) 0 := ⟨wd_253, wd_1, by decide +kernel, by decide +kernel, by decide⟩
theorem mi_T_fault : ay_MI y_T_fault prog_1_method_5_code 2 (some FieldType.int) 1 := ⟨wd_440, wd_1, by decide +kernel, by decide +kernel, by decide⟩
theorem mi_T_place : ay_MI y_T_place prog_1_method_55_code 4 (some FieldType.int) 2 := ⟨wd_458, wd_1, by decide +kernel, by decide +kernel, by decide⟩
theorem mi_T_put : ay_MI y_T_put prog_1_method_6_code 4 (some FieldType.int) 2 := ⟨wd_452, wd_1, by decide +kernel, by decide +kernel, by decide⟩
theorem mi_T_arePlaces : ay_MI y_T_arePlaces prog_1_method_51_code 3 (some FieldType.boolean) 3 := ⟨wd_467, wd_1, by decide +kernel, by decide +kernel, by decide⟩
theorem mi_T_add : ay_MI y_T_add prog_1_method_7_code 4 (some FieldType.int) 3 := ⟨wd_464, wd_1, by decide +kernel, by decide +kernel, by decide⟩
theorem mi_T_multiply : ay_MI y_T_multiply prog_1_method_8_code 6 (some FieldType.int) 3 := ⟨wd_472, wd_1, by decide +kernel, by decide +kernel, by decide⟩
theorem mi_T_divide : ay_MI y_T_divide prog_1_method_9_code 4 (some FieldType.int) 3 := ⟨wd_477, wd_1, by decide +kernel, by decide +kernel, by decide⟩
theorem mi_T_rest : ay_MI y_T_rest prog_1_method_10_code 4 (some FieldType.int) 3 := ⟨wd_484, wd_1, by decide +kernel, by decide +kernel, by decide⟩
theorem mi_T_common : ay_MI y_T_common prog_1_method_11_code 4 (some FieldType.int) 3 := ⟨wd_491, wd_1, by decide +kernel, by decide +kernel, by decide⟩
theorem mi_T_isModulus : ay_MI y_T_isModulus prog_1_method_53_code 2 (some FieldType.boolean) 1 := ⟨wd_503, wd_1, by decide +kernel, by decide +kernel, by decide⟩
theorem mi_T_power : ay_MI y_T_power prog_1_method_12_code 6 (some FieldType.int) 4 := ⟨wd_499, wd_1, by decide +kernel, by decide +kernel, by decide⟩
theorem mi_T_moved : ay_MI y_T_moved prog_1_method_13_code 3 (some FieldType.int) 2 := ⟨wd_518, wd_1, by decide +kernel, by decide +kernel, by decide⟩
theorem mi_T_inside : ay_MI y_T_inside prog_1_method_14_code 5 (some FieldType.int) 4 := ⟨wd_525, wd_1, by decide +kernel, by decide +kernel, by decide⟩
theorem mi_T_inverse : ay_MI y_T_inverse prog_1_method_15_code 6 (some FieldType.int) 3 := ⟨wd_535, wd_1, by decide +kernel, by decide +kernel, by decide⟩
theorem mi_T_rise : ay_MI y_T_rise prog_1_method_16_code 4 (some FieldType.int) 3 := ⟨wd_543, wd_1, by decide +kernel, by decide +kernel, by decide⟩
theorem mi_T_register : ay_MI y_T_register prog_1_method_17_code 7 (some FieldType.int) 2 := ⟨wd_550, wd_1, by decide +kernel, by decide +kernel, by decide⟩
theorem mi_T_step : ay_MI y_T_step prog_1_method_18_code 7 (some FieldType.long) 1 := ⟨wd_559, wd_1, by decide +kernel, by decide +kernel, by decide⟩
theorem mi_T_jump : ay_MI y_T_jump prog_1_method_19_code 4 (some FieldType.long) 1 := ⟨wd_594, wd_1, by decide +kernel, by decide +kernel, by decide⟩
theorem mi_T_undo : ay_MI y_T_undo prog_1_method_20_code 1 (some FieldType.int) 0 := ⟨wd_605, wd_1, by decide +kernel, by decide +kernel, by decide⟩
theorem mi_T_keep : ay_MI y_T_keep prog_1_method_21_code 2 (some FieldType.int) 1 := ⟨wd_617, wd_1, by decide +kernel, by decide +kernel, by decide⟩
theorem mi_T_back : ay_MI y_T_back prog_1_method_22_code 2 (some FieldType.int) 1 := ⟨wd_628, wd_1, by decide +kernel, by decide +kernel, by decide⟩
theorem mi_T_bits : ay_MI y_T_bits prog_1_method_23_code 2 (some FieldType.long) 1 := ⟨wd_637, wd_1, by decide +kernel, by decide +kernel, by decide⟩
theorem mi_T_howSplit : ay_MI y_T_howSplit prog_1_method_56_code 2 (some FieldType.int) 1 := ⟨wd_707, wd_1, by decide +kernel, by decide +kernel, by decide⟩
theorem mi_T_poly : ay_MI y_T_poly prog_1_method_24_code 5 (some FieldType.int) 2 := ⟨wd_641, wd_1, by decide +kernel, by decide +kernel, by decide⟩
theorem mi_T_factor : ay_MI y_T_factor prog_1_method_25_code 5 (some FieldType.long) 2 := ⟨wd_727, wd_1, by decide +kernel, by decide +kernel, by decide⟩
theorem mi_T_ofDegree : ay_MI y_T_ofDegree prog_1_method_26_code 3 (some FieldType.int) 2 := ⟨wd_739, wd_1, by decide +kernel, by decide +kernel, by decide⟩
theorem mi_T_orderOf : ay_MI y_T_orderOf prog_1_method_57_code 3 (some FieldType.long) 1 := ⟨wd_752, wd_1, by decide +kernel, by decide +kernel, by decide⟩
theorem mi_T_order : ay_MI y_T_order prog_1_method_27_code 4 (some FieldType.long) 1 := ⟨wd_747, wd_1, by decide +kernel, by decide +kernel, by decide⟩
theorem mi_T_divisor : ay_MI y_T_divisor prog_1_method_28_code 4 (some FieldType.long) 2 := ⟨wd_769, wd_1, by decide +kernel, by decide +kernel, by decide⟩
theorem mi_T_couples : ay_MI y_T_couples prog_1_method_29_code 2 (some FieldType.int) 1 := ⟨wd_793, wd_1, by decide +kernel, by decide +kernel, by decide⟩
theorem mi_T_mirror : ay_MI y_T_mirror prog_1_method_30_code 7 (some FieldType.int) 2 := ⟨wd_797, wd_1, by decide +kernel, by decide +kernel, by decide⟩
theorem mi_T_akin : ay_MI y_T_akin prog_1_method_31_code 3 (some FieldType.int) 2 := ⟨wd_802, wd_1, by decide +kernel, by decide +kernel, by decide⟩
theorem mi_T_letterAt : ay_MI y_T_letterAt prog_1_method_58_code 2 (some FieldType.int) 1 := ⟨wd_835, wd_1, by decide +kernel, by decide +kernel, by decide⟩
theorem mi_T_letter : ay_MI y_T_letter prog_1_method_32_code 3 (some FieldType.int) 2 := ⟨wd_810, wd_1, by decide +kernel, by decide +kernel, by decide⟩
theorem mi_T_spell : ay_MI y_T_spell prog_1_method_33_code 5 (some FieldType.int) 2 := ⟨wd_847, wd_1, by decide +kernel, by decide +kernel, by decide⟩
theorem mi_T_isTri : ay_MI y_T_isTri prog_1_method_52_code 3 (some FieldType.boolean) 3 := ⟨wd_862, wd_1, by decide +kernel, by decide +kernel, by decide⟩
theorem mi_T_swan : ay_MI y_T_swan prog_1_method_34_code 3 (some FieldType.int) 2 := ⟨wd_859, wd_1, by decide +kernel, by decide +kernel, by decide⟩
theorem mi_T_evens : ay_MI y_T_evens prog_1_method_35_code 2 (some FieldType.int) 1 := ⟨wd_875, wd_1, by decide +kernel, by decide +kernel, by decide⟩
theorem mi_T_multiple : ay_MI y_T_multiple prog_1_method_36_code 3 (some FieldType.int) 2 := ⟨wd_883, wd_1, by decide +kernel, by decide +kernel, by decide⟩
theorem mi_T_shortest : ay_MI y_T_shortest prog_1_method_37_code 8 (some FieldType.long) 3 := ⟨wd_900, wd_1, by decide +kernel, by decide +kernel, by decide⟩
theorem mi_T_shift : ay_MI y_T_shift prog_1_method_38_code 2 (some FieldType.long) 1 := ⟨wd_910, wd_1, by decide +kernel, by decide +kernel, by decide⟩
theorem mi_T_trinomial : ay_MI y_T_trinomial prog_1_method_39_code 5 (some FieldType.int) 3 := ⟨wd_923, wd_1, by decide +kernel, by decide +kernel, by decide⟩
theorem mi_T_least : ay_MI y_T_least prog_1_method_40_code 3 (some FieldType.long) 2 := ⟨wd_937, wd_1, by decide +kernel, by decide +kernel, by decide⟩
theorem mi_T_many : ay_MI y_T_many prog_1_method_41_code 3 (some FieldType.long) 2 := ⟨wd_957, wd_1, by decide +kernel, by decide +kernel, by decide⟩
theorem mi_T_stays : ay_MI y_T_stays prog_1_method_42_code 6 (some FieldType.int) 3 := ⟨wd_971, wd_1, by decide +kernel, by decide +kernel, by decide⟩
theorem mi_T_bare : ay_MI y_T_bare prog_1_method_43_code 3 (some FieldType.int) 1 := ⟨wd_980, wd_1, by decide +kernel, by decide +kernel, by decide⟩
theorem mi_T_next : ay_MI y_T_next prog_1_method_44_code 5 (some FieldType.long) 2 := ⟨wd_984, wd_1, by decide +kernel, by decide +kernel, by decide⟩
theorem mi_T_isElement : ay_MI y_T_isElement prog_1_method_54_code 5 (some FieldType.boolean) 2 := ⟨wd_997, wd_1, by decide +kernel, by decide +kernel, by decide⟩
theorem mi_T_minimal : ay_MI y_T_minimal prog_1_method_45_code 3 (some FieldType.long) 2 := ⟨wd_993, wd_1, by decide +kernel, by decide +kernel, by decide⟩
theorem mi_T_trace : ay_MI y_T_trace prog_1_method_46_code 3 (some FieldType.int) 2 := ⟨wd_1011, wd_1, by decide +kernel, by decide +kernel, by decide⟩
theorem mi_T_conjugates : ay_MI y_T_conjugates prog_1_method_47_code 3 (some FieldType.int) 2 := ⟨wd_1019, wd_1, by decide +kernel, by decide +kernel, by decide⟩
theorem mi_T_log : ay_MI y_T_log prog_1_method_48_code 8 (some FieldType.long) 3 := ⟨wd_1024, wd_1, by decide +kernel, by decide +kernel, by decide⟩
theorem mi_T_roots : ay_MI y_T_roots prog_1_method_49_code 4 (some FieldType.int) 2 := ⟨wd_1040, wd_1, by decide +kernel, by decide +kernel, by decide⟩
theorem mi_T_count : ay_MI y_T_count prog_1_method_50_code 2 (some FieldType.int) 1 := ⟨wd_1050, wd_1, by decide +kernel, by decide +kernel, by decide⟩
theorem d_T_feed_0 : decode prog_1_method_2_code 0 = .ok (.aload_n 0, 1) := by decide +kernel
theorem d_T_feed_1 : decode prog_1_method_2_code 1 = .ok (.getfield 10, 3) := by decide +kernel
theorem d_T_feed_4 : decode prog_1_method_2_code 4 = .ok (.invokevirtual 68, 3) := by decide +kernel
theorem d_T_feed_7 : decode prog_1_method_2_code 7 = .ok (.astore 6, 2) := by decide +kernel
theorem d_T_feed_9 : decode prog_1_method_2_code 9 = .ok (.aload 6, 2) := by decide +kernel
theorem d_T_feed_11 : decode prog_1_method_2_code 11 = .ok (.bipush 20, 2) := by decide +kernel
theorem d_T_feed_13 : decode prog_1_method_2_code 13 = .ok (.invokevirtual 72, 3) := by decide +kernel
theorem d_T_feed_16 : decode prog_1_method_2_code 16 = .ok (.ifCond .ne 5, 3) := by decide +kernel
theorem d_T_feed_19 : decode prog_1_method_2_code 19 = .ok (.iconst (-1), 1) := by decide +kernel
theorem d_T_feed_20 : decode prog_1_method_2_code 20 = .ok (.ireturn, 1) := by decide +kernel
theorem d_T_feed_21 : decode prog_1_method_2_code 21 = .ok (.aload 6, 2) := by decide +kernel
theorem d_T_feed_23 : decode prog_1_method_2_code 23 = .ok (.iload_n 1, 1) := by decide +kernel
theorem d_T_feed_24 : decode prog_1_method_2_code 24 = .ok (.invokevirtual 78, 3) := by decide +kernel
theorem d_T_feed_27 : decode prog_1_method_2_code 27 = .ok (.aload 6, 2) := by decide +kernel
theorem d_T_feed_29 : decode prog_1_method_2_code 29 = .ok (.iload_n 2, 1) := by decide +kernel
theorem d_T_feed_30 : decode prog_1_method_2_code 30 = .ok (.invokevirtual 78, 3) := by decide +kernel
theorem d_T_feed_33 : decode prog_1_method_2_code 33 = .ok (.aload 6, 2) := by decide +kernel
theorem d_T_feed_35 : decode prog_1_method_2_code 35 = .ok (.iload_n 3, 1) := by decide +kernel
theorem d_T_feed_36 : decode prog_1_method_2_code 36 = .ok (.invokevirtual 78, 3) := by decide +kernel
theorem d_T_feed_39 : decode prog_1_method_2_code 39 = .ok (.aload 6, 2) := by decide +kernel
theorem d_T_feed_41 : decode prog_1_method_2_code 41 = .ok (.iload 4, 2) := by decide +kernel
theorem d_T_feed_43 : decode prog_1_method_2_code 43 = .ok (.invokevirtual 78, 3) := by decide +kernel
theorem d_T_feed_46 : decode prog_1_method_2_code 46 = .ok (.aload 6, 2) := by decide +kernel
theorem d_T_feed_48 : decode prog_1_method_2_code 48 = .ok (.iload 5, 2) := by decide +kernel
theorem d_T_feed_50 : decode prog_1_method_2_code 50 = .ok (.invokevirtual 78, 3) := by decide +kernel
theorem d_T_feed_53 : decode prog_1_method_2_code 53 = .ok (.aload 6, 2) := by decide +kernel
theorem d_T_feed_55 : decode prog_1_method_2_code 55 = .ok (.invokevirtual 82, 3) := by decide +kernel
theorem d_T_feed_58 : decode prog_1_method_2_code 58 = .ok (.ireturn, 1) := by decide +kernel
def cf_T_feed (a0 : Int32) (a1 : Int32) (a2 : Int32) (a3 : Int32) (a4 : Int32) (w : Wd) (P : Int32 → Wd → Prop) : Prop :=
  cf_Reader_tape  w (cf_Tape_hasRoom (20 : Int32) w (fun r1 => ((¬ r1 = 0 → cf_Tape_write a0 w (fun w2 => cf_Tape_write a1 w2 (fun w3 => cf_Tape_write a2 w3 (fun w4 => cf_Tape_write a3 w4 (fun w5 => cf_Tape_write a4 w5 (fun w6 => cf_Tape_size  w6 (fun r7 => P r7 w6))))))) ∧ (r1 = 0 → P (-1 : Int32) w))))
theorem cf_T_feed_ok {g : ayG} {d : Nat} (hd : 1 ≤ d) (a0 : Int32) (a1 : Int32) (a2 : Int32) (a3 : Int32) (a4 : Int32)  (w : Wd) (P : Int32 → Wd → Prop) (h : cf_T_feed a0 a1 a2 a3 a4 w P) : Call g y_T_feed prog_1_method_2_code 7 (some FieldType.int) d [.ref (g.1 + 0), .int a0, .int a1, .int a2, .int a3, .int a4] w (fun (r : Option Value) (w2 : Wd) => ∃ x, r = some (.int x) ∧ P x w2) := by
  unfold cf_T_feed at h
  refine am_enter mi_T_feed (Nat.le_of_ble_eq_true rfl) ?_
  have hQ : ∀ x w2, P x w2 → (fun (r : Option Value) (w2 : Wd) => ∃ x, r = some (.int x) ∧ P x w2) (some (.int x)) w2 := fun x w2 h => ⟨x, rfl, h⟩
  generalize (fun (r : Option Value) (w2 : Wd) => ∃ x, r = some (.int x) ∧ P x w2) = Q at hQ ⊢
  show wp g (fun _ => True) y_T_feed prog_1_method_2_code 7 (some FieldType.int) d 0 [(0, .ref (g.1 + 0)), (1, .int a0), (2, .int a1), (3, .int a2), (4, .int a3), (5, .int a4)] [] w Q
  refine am_aload_n d_T_feed_0 0 rfl ?_
  refine am_getf (T := F_T) (fs := ob_T g w 0) (C := R_T) (N := 9) (ci := 0) 0 d_T_feed_1 wd_194 rfl (by decide) (el_T (show ay_sh 0 = _ from rfl)) rfl i_T (by decide) rfl ?_
  refine am_callV (C := "TriSplits$Reader") (d2 := d - 1) [] d_T_feed_4 mi_Reader_tape wd_226 wd_227 wd_228 (by decide) (el_Reader (show ay_sh 1 = _ from rfl)) rfl rfl (by omega) rfl rfl (Nat.le_of_ble_eq_true rfl) ?_
  refine Call.post ?_ (cf_Reader_tape_ok (by omega)   w _ h)
  rintro _ _ ⟨rfl, rfl, h⟩
  show wp g (fun _ => True) y_T_feed prog_1_method_2_code 7 (some FieldType.int) d 7 [(0, .ref (g.1 + 0)), (1, .int a0), (2, .int a1), (3, .int a2), (4, .int a3), (5, .int a4)] [.ref (g.1 + 2)] w Q
  refine am_astore (l' := [(6, .ref (g.1 + 2)), (0, .ref (g.1 + 0)), (1, .int a0), (2, .int a1), (3, .int a2), (4, .int a3), (5, .int a4)]) d_T_feed_7 (by decide) rfl ?_
  refine am_aload d_T_feed_9 0 rfl ?_
  refine am_bipush (v := 20) d_T_feed_11 rfl ?_
  refine am_callV (C := "TriSplits$Tape") (d2 := d - 1) [.int (20 : Int32)] d_T_feed_13 mi_Tape_hasRoom wd_230 wd_231 wd_232 (by decide) (el_Tape (show ay_sh 2 = _ from rfl)) rfl rfl (by omega) rfl rfl (Nat.le_of_ble_eq_true rfl) ?_
  refine Call.post ?_ (cf_Tape_hasRoom_ok (by omega) (20 : Int32)  w _ h)
  rintro _ _ ⟨r1, rfl, rfl, h⟩
  show wp g (fun _ => True) y_T_feed prog_1_method_2_code 7 (some FieldType.int) d 16 [(6, .ref (g.1 + 2)), (0, .ref (g.1 + 0)), (1, .int a0), (2, .int a1), (3, .int a2), (4, .int a3), (5, .int a4)] [.int r1] w Q
  refine am_if_ne (tgt := 21) d_T_feed_16 (by decide) (fun c16 => ?_) (fun c16 => ?_)
  · have h := h.1 c16
    refine am_aload d_T_feed_21 0 rfl ?_
    refine am_iload_n d_T_feed_23 2 rfl ?_
    refine am_callV (C := "TriSplits$Tape") (d2 := d - 1) [.int a0] d_T_feed_24 mi_Tape_write wd_234 wd_235 wd_236 (by decide) (el_Tape (show ay_sh 2 = _ from rfl)) rfl rfl (by omega) rfl rfl (Nat.le_of_ble_eq_true rfl) ?_
    refine Call.post ?_ (cf_Tape_write_ok (by omega) a0  w _ h)
    rintro _ w2 ⟨rfl, h⟩
    show wp g (fun _ => True) y_T_feed prog_1_method_2_code 7 (some FieldType.int) d 27 [(6, .ref (g.1 + 2)), (0, .ref (g.1 + 0)), (1, .int a0), (2, .int a1), (3, .int a2), (4, .int a3), (5, .int a4)] [] w2 Q
    refine am_aload d_T_feed_27 0 rfl ?_
    refine am_iload_n d_T_feed_29 3 rfl ?_
    refine am_callV (C := "TriSplits$Tape") (d2 := d - 1) [.int a1] d_T_feed_30 mi_Tape_write wd_234 wd_235 wd_236 (by decide) (el_Tape (show ay_sh 2 = _ from rfl)) rfl rfl (by omega) rfl rfl (Nat.le_of_ble_eq_true rfl) ?_
    refine Call.post ?_ (cf_Tape_write_ok (by omega) a1  w2 _ h)
    rintro _ w3 ⟨rfl, h⟩
    show wp g (fun _ => True) y_T_feed prog_1_method_2_code 7 (some FieldType.int) d 33 [(6, .ref (g.1 + 2)), (0, .ref (g.1 + 0)), (1, .int a0), (2, .int a1), (3, .int a2), (4, .int a3), (5, .int a4)] [] w3 Q
    refine am_aload d_T_feed_33 0 rfl ?_
    refine am_iload_n d_T_feed_35 4 rfl ?_
    refine am_callV (C := "TriSplits$Tape") (d2 := d - 1) [.int a2] d_T_feed_36 mi_Tape_write wd_234 wd_235 wd_236 (by decide) (el_Tape (show ay_sh 2 = _ from rfl)) rfl rfl (by omega) rfl rfl (Nat.le_of_ble_eq_true rfl) ?_
    refine Call.post ?_ (cf_Tape_write_ok (by omega) a2  w3 _ h)
    rintro _ w4 ⟨rfl, h⟩
    show wp g (fun _ => True) y_T_feed prog_1_method_2_code 7 (some FieldType.int) d 39 [(6, .ref (g.1 + 2)), (0, .ref (g.1 + 0)), (1, .int a0), (2, .int a1), (3, .int a2), (4, .int a3), (5, .int a4)] [] w4 Q
    refine am_aload d_T_feed_39 0 rfl ?_
    refine am_iload d_T_feed_41 5 rfl ?_
    refine am_callV (C := "TriSplits$Tape") (d2 := d - 1) [.int a3] d_T_feed_43 mi_Tape_write wd_234 wd_235 wd_236 (by decide) (el_Tape (show ay_sh 2 = _ from rfl)) rfl rfl (by omega) rfl rfl (Nat.le_of_ble_eq_true rfl) ?_
    refine Call.post ?_ (cf_Tape_write_ok (by omega) a3  w4 _ h)
    rintro _ w5 ⟨rfl, h⟩
    show wp g (fun _ => True) y_T_feed prog_1_method_2_code 7 (some FieldType.int) d 46 [(6, .ref (g.1 + 2)), (0, .ref (g.1 + 0)), (1, .int a0), (2, .int a1), (3, .int a2), (4, .int a3), (5, .int a4)] [] w5 Q
    refine am_aload d_T_feed_46 0 rfl ?_
    refine am_iload d_T_feed_48 6 rfl ?_
    refine am_callV (C := "TriSplits$Tape") (d2 := d - 1) [.int a4] d_T_feed_50 mi_Tape_write wd_234 wd_235 wd_236 (by decide) (el_Tape (show ay_sh 2 = _ from rfl)) rfl rfl (by omega) rfl rfl (Nat.le_of_ble_eq_true rfl) ?_
    refine Call.post ?_ (cf_Tape_write_ok (by omega) a4  w5 _ h)
    rintro _ w6 ⟨rfl, h⟩
    show wp g (fun _ => True) y_T_feed prog_1_method_2_code 7 (some FieldType.int) d 53 [(6, .ref (g.1 + 2)), (0, .ref (g.1 + 0)), (1, .int a0), (2, .int a1), (3, .int a2), (4, .int a3), (5, .int a4)] [] w6 Q
    refine am_aload d_T_feed_53 0 rfl ?_
    refine am_callV (C := "TriSplits$Tape") (d2 := d - 1) [] d_T_feed_55 mi_Tape_size wd_238 wd_239 wd_240 (by decide) (el_Tape (show ay_sh 2 = _ from rfl)) rfl rfl (by omega) rfl rfl (Nat.le_of_ble_eq_true rfl) ?_
    refine Call.post ?_ (cf_Tape_size_ok (by omega)   w6 _ h)
    rintro _ _ ⟨r7, rfl, rfl, h⟩
    show wp g (fun _ => True) y_T_feed prog_1_method_2_code 7 (some FieldType.int) d 58 [(6, .ref (g.1 + 2)), (0, .ref (g.1 + 0)), (1, .int a0), (2, .int a1), (3, .int a2), (4, .int a3), (5, .int a4)] [.int r7] w6 Q
    exact am_ireturn d_T_feed_58 rfl rfl (hQ r7 w6 h)
  · have h := h.2 c16
    refine am_iconst (v := -1) d_T_feed_19 rfl ?_
    exact am_ireturn d_T_feed_20 rfl rfl (hQ (-1 : Int32) w h)
theorem d_T_end_0 : decode prog_1_method_3_code 0 = .ok (.aload_n 0, 1) := by decide +kernel
theorem d_T_end_1 : decode prog_1_method_3_code 1 = .ok (.getfield 10, 3) := by decide +kernel
theorem d_T_end_4 : decode prog_1_method_3_code 4 = .ok (.invokevirtual 68, 3) := by decide +kernel
theorem d_T_end_7 : decode prog_1_method_3_code 7 = .ok (.iload_n 1, 1) := by decide +kernel
theorem d_T_end_8 : decode prog_1_method_3_code 8 = .ok (.invokevirtual 86, 3) := by decide +kernel
theorem d_T_end_11 : decode prog_1_method_3_code 11 = .ok (.ifCond .eq 7, 3) := by decide +kernel
theorem d_T_end_14 : decode prog_1_method_3_code 14 = .ok (.iload_n 1, 1) := by decide +kernel
theorem d_T_end_15 : decode prog_1_method_3_code 15 = .ok (.goto 4, 3) := by decide +kernel
theorem d_T_end_18 : decode prog_1_method_3_code 18 = .ok (.iconst (-1), 1) := by decide +kernel
theorem d_T_end_19 : decode prog_1_method_3_code 19 = .ok (.ireturn, 1) := by decide +kernel
def cf_T_end (a0 : Int32) (w : Wd) (P : Int32 → Wd → Prop) : Prop :=
  cf_Reader_tape  w (cf_Tape_cut a0 w (fun r1 w2 => ((r1 = 0 → P (-1 : Int32) w2) ∧ (¬ r1 = 0 → P a0 w2))))
theorem cf_T_end_ok {g : ayG} {d : Nat} (hd : 1 ≤ d) (a0 : Int32)  (w : Wd) (P : Int32 → Wd → Prop) (h : cf_T_end a0 w P) : Call g y_T_end prog_1_method_3_code 2 (some FieldType.int) d [.ref (g.1 + 0), .int a0] w (fun (r : Option Value) (w2 : Wd) => ∃ x, r = some (.int x) ∧ P x w2) := by
  unfold cf_T_end at h
  refine am_enter mi_T_end (Nat.le_of_ble_eq_true rfl) ?_
  have hQ : ∀ x w2, P x w2 → (fun (r : Option Value) (w2 : Wd) => ∃ x, r = some (.int x) ∧ P x w2) (some (.int x)) w2 := fun x w2 h => ⟨x, rfl, h⟩
  generalize (fun (r : Option Value) (w2 : Wd) => ∃ x, r = some (.int x) ∧ P x w2) = Q at hQ ⊢
  show wp g (fun _ => True) y_T_end prog_1_method_3_code 2 (some FieldType.int) d 0 [(0, .ref (g.1 + 0)), (1, .int a0)] [] w Q
  refine am_aload_n d_T_end_0 0 rfl ?_
  refine am_getf (T := F_T) (fs := ob_T g w 0) (C := R_T) (N := 9) (ci := 0) 0 d_T_end_1 wd_194 rfl (by decide) (el_T (show ay_sh 0 = _ from rfl)) rfl i_T (by decide) rfl ?_
  refine am_callV (C := "TriSplits$Reader") (d2 := d - 1) [] d_T_end_4 mi_Reader_tape wd_226 wd_227 wd_228 (by decide) (el_Reader (show ay_sh 1 = _ from rfl)) rfl rfl (by omega) rfl rfl (Nat.le_of_ble_eq_true rfl) ?_
  refine Call.post ?_ (cf_Reader_tape_ok (by omega)   w _ h)
  rintro _ _ ⟨rfl, rfl, h⟩
  show wp g (fun _ => True) y_T_end prog_1_method_3_code 2 (some FieldType.int) d 7 [(0, .ref (g.1 + 0)), (1, .int a0)] [.ref (g.1 + 2)] w Q
  refine am_iload_n d_T_end_7 1 rfl ?_
  refine am_callV (C := "TriSplits$Tape") (d2 := d - 1) [.int a0] d_T_end_8 mi_Tape_cut wd_246 wd_247 wd_248 (by decide) (el_Tape (show ay_sh 2 = _ from rfl)) rfl rfl (by omega) rfl rfl (Nat.le_of_ble_eq_true rfl) ?_
  refine Call.post ?_ (cf_Tape_cut_ok (by omega) a0  w _ h)
  rintro _ w2 ⟨r1, rfl, h⟩
  show wp g (fun _ => True) y_T_end prog_1_method_3_code 2 (some FieldType.int) d 11 [(0, .ref (g.1 + 0)), (1, .int a0)] [.int r1] w2 Q
  refine am_if_eq (tgt := 18) d_T_end_11 (by decide) (fun c11 => ?_) (fun c11 => ?_)
  · have h := h.1 c11
    refine am_iconst (v := -1) d_T_end_18 rfl ?_
    exact am_ireturn d_T_end_19 rfl rfl (hQ (-1 : Int32) w2 h)
  · have h := h.2 c11
    refine am_iload_n d_T_end_14 1 rfl ?_
    refine am_goto (tgt := 19) d_T_end_15 (by decide) ?_
    exact am_ireturn d_T_end_19 rfl rfl (hQ a0 w2 h)
theorem d_T_run_0 : decode prog_1_method_4_code 0 = .ok (.aload_n 0, 1) := by decide +kernel
theorem d_T_run_1 : decode prog_1_method_4_code 1 = .ok (.getfield 10, 3) := by decide +kernel
theorem d_T_run_4 : decode prog_1_method_4_code 4 = .ok (.aload_n 0, 1) := by decide +kernel
theorem d_T_run_5 : decode prog_1_method_4_code 5 = .ok (.getfield 19, 3) := by decide +kernel
theorem d_T_run_8 : decode prog_1_method_4_code 8 = .ok (.invokevirtual 89, 3) := by decide +kernel
theorem d_T_run_11 : decode prog_1_method_4_code 11 = .ok (.istore_n 1, 1) := by decide +kernel
theorem d_T_run_12 : decode prog_1_method_4_code 12 = .ok (.aload_n 0, 1) := by decide +kernel
theorem d_T_run_13 : decode prog_1_method_4_code 13 = .ok (.getfield 10, 3) := by decide +kernel
theorem d_T_run_16 : decode prog_1_method_4_code 16 = .ok (.invokevirtual 68, 3) := by decide +kernel
theorem d_T_run_19 : decode prog_1_method_4_code 19 = .ok (.iconst 0, 1) := by decide +kernel
theorem d_T_run_20 : decode prog_1_method_4_code 20 = .ok (.invokevirtual 86, 3) := by decide +kernel
theorem d_T_run_23 : decode prog_1_method_4_code 23 = .ok (.pop, 1) := by decide +kernel
theorem d_T_run_24 : decode prog_1_method_4_code 24 = .ok (.aload_n 0, 1) := by decide +kernel
theorem d_T_run_25 : decode prog_1_method_4_code 25 = .ok (.getfield 10, 3) := by decide +kernel
theorem d_T_run_28 : decode prog_1_method_4_code 28 = .ok (.invokevirtual 93, 3) := by decide +kernel
theorem d_T_run_31 : decode prog_1_method_4_code 31 = .ok (.iconst (-1), 1) := by decide +kernel
theorem d_T_run_32 : decode prog_1_method_4_code 32 = .ok (.if_icmp .eq 14, 3) := by decide +kernel
theorem d_T_run_35 : decode prog_1_method_4_code 35 = .ok (.bipush (-2), 2) := by decide +kernel
theorem d_T_run_37 : decode prog_1_method_4_code 37 = .ok (.aload_n 0, 1) := by decide +kernel
theorem d_T_run_38 : decode prog_1_method_4_code 38 = .ok (.getfield 10, 3) := by decide +kernel
theorem d_T_run_41 : decode prog_1_method_4_code 41 = .ok (.invokevirtual 93, 3) := by decide +kernel
theorem d_T_run_44 : decode prog_1_method_4_code 44 = .ok (.isub, 1) := by decide +kernel
theorem d_T_run_45 : decode prog_1_method_4_code 45 = .ok (.ireturn, 1) := by decide +kernel
theorem d_T_run_46 : decode prog_1_method_4_code 46 = .ok (.aload_n 0, 1) := by decide +kernel
theorem d_T_run_47 : decode prog_1_method_4_code 47 = .ok (.getfield 19, 3) := by decide +kernel
theorem d_T_run_50 : decode prog_1_method_4_code 50 = .ok (.invokevirtual 96, 3) := by decide +kernel
theorem d_T_run_53 : decode prog_1_method_4_code 53 = .ok (.aload_n 0, 1) := by decide +kernel
theorem d_T_run_54 : decode prog_1_method_4_code 54 = .ok (.getfield 10, 3) := by decide +kernel
theorem d_T_run_57 : decode prog_1_method_4_code 57 = .ok (.aload_n 0, 1) := by decide +kernel
theorem d_T_run_58 : decode prog_1_method_4_code 58 = .ok (.getfield 19, 3) := by decide +kernel
theorem d_T_run_61 : decode prog_1_method_4_code 61 = .ok (.invokevirtual 99, 3) := by decide +kernel
theorem d_T_run_64 : decode prog_1_method_4_code 64 = .ok (.iload_n 1, 1) := by decide +kernel
theorem d_T_run_65 : decode prog_1_method_4_code 65 = .ok (.ireturn, 1) := by decide +kernel
def cf_T_run  (w : Wd) (P : Int32 → Wd → Prop) : Prop :=
  cf_Reader_readText  w (fun r1 w2 => cf_Reader_tape  w2 (cf_Tape_cut (0 : Int32) w2 (fun r3 w4 => cf_Reader_latestFault  w4 (fun r5 => ((r5 = (-1 : Int32) → cf_Store_remember  w4 (fun w6 => cf_Reader_handOver  w6 (fun w7 => P r1 w7))) ∧ (¬ r5 = (-1 : Int32) → cf_Reader_latestFault  w4 (fun r8 => P ((-2 : Int32) - r8) w4)))))))
theorem cf_T_run_ok {g : ayG} {d : Nat} (hd : 113 ≤ d)   (w : Wd) (P : Int32 → Wd → Prop) (h : cf_T_run w P) : Call g y_T_run prog_1_method_4_code 2 (some FieldType.int) d [.ref (g.1 + 0)] w (fun (r : Option Value) (w2 : Wd) => ∃ x, r = some (.int x) ∧ P x w2) := by
  unfold cf_T_run at h
  refine am_enter mi_T_run (Nat.le_of_ble_eq_true rfl) ?_
  have hQ : ∀ x w2, P x w2 → (fun (r : Option Value) (w2 : Wd) => ∃ x, r = some (.int x) ∧ P x w2) (some (.int x)) w2 := fun x w2 h => ⟨x, rfl, h⟩
  generalize (fun (r : Option Value) (w2 : Wd) => ∃ x, r = some (.int x) ∧ P x w2) = Q at hQ ⊢
  show wp g (fun _ => True) y_T_run prog_1_method_4_code 2 (some FieldType.int) d 0 [(0, .ref (g.1 + 0))] [] w Q
  refine am_aload_n d_T_run_0 0 rfl ?_
  refine am_getf (T := F_T) (fs := ob_T g w 0) (C := R_T) (N := 9) (ci := 0) 0 d_T_run_1 wd_194 rfl (by decide) (el_T (show ay_sh 0 = _ from rfl)) rfl i_T (by decide) rfl ?_
  refine am_aload_n d_T_run_4 0 rfl ?_
  refine am_getf (T := F_T) (fs := ob_T g w 0) (C := R_T) (N := 9) (ci := 0) 1 d_T_run_5 wd_195 rfl (by decide) (el_T (show ay_sh 0 = _ from rfl)) rfl i_T (by decide) rfl ?_
  refine am_callV (C := "TriSplits$Reader") (d2 := d - 1) [.ref (g.1 + 6)] d_T_run_8 mi_Reader_readText wd_254 wd_255 wd_256 (by decide) (el_Reader (show ay_sh 1 = _ from rfl)) rfl rfl (by omega) rfl rfl (Nat.le_of_ble_eq_true rfl) ?_
  refine Call.post ?_ (cf_Reader_readText_ok (by omega)   w _ h)
  rintro _ w2 ⟨r1, rfl, h⟩
  show wp g (fun _ => True) y_T_run prog_1_method_4_code 2 (some FieldType.int) d 11 [(0, .ref (g.1 + 0))] [.int r1] w2 Q
  refine am_istore_n (l' := [(1, .int r1), (0, .ref (g.1 + 0))]) d_T_run_11 (by decide) rfl ?_
  refine am_aload_n d_T_run_12 1 rfl ?_
  refine am_getf (T := F_T) (fs := ob_T g w2 0) (C := R_T) (N := 9) (ci := 0) 0 d_T_run_13 wd_194 rfl (by decide) (el_T (show ay_sh 0 = _ from rfl)) rfl i_T (by decide) rfl ?_
  refine am_callV (C := "TriSplits$Reader") (d2 := d - 1) [] d_T_run_16 mi_Reader_tape wd_226 wd_227 wd_228 (by decide) (el_Reader (show ay_sh 1 = _ from rfl)) rfl rfl (by omega) rfl rfl (Nat.le_of_ble_eq_true rfl) ?_
  refine Call.post ?_ (cf_Reader_tape_ok (by omega)   w2 _ h)
  rintro _ _ ⟨rfl, rfl, h⟩
  show wp g (fun _ => True) y_T_run prog_1_method_4_code 2 (some FieldType.int) d 19 [(1, .int r1), (0, .ref (g.1 + 0))] [.ref (g.1 + 2)] w2 Q
  refine am_iconst (v := 0) d_T_run_19 rfl ?_
  refine am_callV (C := "TriSplits$Tape") (d2 := d - 1) [.int (0 : Int32)] d_T_run_20 mi_Tape_cut wd_246 wd_247 wd_248 (by decide) (el_Tape (show ay_sh 2 = _ from rfl)) rfl rfl (by omega) rfl rfl (Nat.le_of_ble_eq_true rfl) ?_
  refine Call.post ?_ (cf_Tape_cut_ok (by omega) (0 : Int32)  w2 _ h)
  rintro _ w4 ⟨r3, rfl, h⟩
  show wp g (fun _ => True) y_T_run prog_1_method_4_code 2 (some FieldType.int) d 23 [(1, .int r1), (0, .ref (g.1 + 0))] [.int r3] w4 Q
  refine am_pop d_T_run_23 rfl ?_
  refine am_aload_n d_T_run_24 1 rfl ?_
  refine am_getf (T := F_T) (fs := ob_T g w4 0) (C := R_T) (N := 9) (ci := 0) 0 d_T_run_25 wd_194 rfl (by decide) (el_T (show ay_sh 0 = _ from rfl)) rfl i_T (by decide) rfl ?_
  refine am_callV (C := "TriSplits$Reader") (d2 := d - 1) [] d_T_run_28 mi_Reader_latestFault wd_414 wd_415 wd_416 (by decide) (el_Reader (show ay_sh 1 = _ from rfl)) rfl rfl (by omega) rfl rfl (Nat.le_of_ble_eq_true rfl) ?_
  refine Call.post ?_ (cf_Reader_latestFault_ok (by omega)   w4 _ h)
  rintro _ _ ⟨r5, rfl, rfl, h⟩
  show wp g (fun _ => True) y_T_run prog_1_method_4_code 2 (some FieldType.int) d 31 [(1, .int r1), (0, .ref (g.1 + 0))] [.int r5] w4 Q
  refine am_iconst (v := -1) d_T_run_31 rfl ?_
  refine am_icmp_eq (tgt := 46) d_T_run_32 (by decide) (fun c32 => ?_) (fun c32 => ?_)
  · have h := h.1 c32
    refine am_aload_n d_T_run_46 1 rfl ?_
    refine am_getf (T := F_T) (fs := ob_T g w4 0) (C := R_T) (N := 9) (ci := 0) 1 d_T_run_47 wd_195 rfl (by decide) (el_T (show ay_sh 0 = _ from rfl)) rfl i_T (by decide) rfl ?_
    refine am_callV (C := "TriSplits$Store") (d2 := d - 1) [] d_T_run_50 mi_Store_remember wd_418 wd_419 wd_420 (by decide) (el_Store (show ay_sh 6 = _ from rfl)) rfl rfl (by omega) rfl rfl (Nat.le_of_ble_eq_true rfl) ?_
    refine Call.post ?_ (cf_Store_remember_ok (by omega)   w4 _ h)
    rintro _ w6 ⟨rfl, h⟩
    show wp g (fun _ => True) y_T_run prog_1_method_4_code 2 (some FieldType.int) d 53 [(1, .int r1), (0, .ref (g.1 + 0))] [] w6 Q
    refine am_aload_n d_T_run_53 1 rfl ?_
    refine am_getf (T := F_T) (fs := ob_T g w6 0) (C := R_T) (N := 9) (ci := 0) 0 d_T_run_54 wd_194 rfl (by decide) (el_T (show ay_sh 0 = _ from rfl)) rfl i_T (by decide) rfl ?_
    refine am_aload_n d_T_run_57 1 rfl ?_
    refine am_getf (T := F_T) (fs := ob_T g w6 0) (C := R_T) (N := 9) (ci := 0) 1 d_T_run_58 wd_195 rfl (by decide) (el_T (show ay_sh 0 = _ from rfl)) rfl i_T (by decide) rfl ?_
    refine am_callV (C := "TriSplits$Reader") (d2 := d - 1) [.ref (g.1 + 6)] d_T_run_61 mi_Reader_handOver wd_429 wd_430 wd_431 (by decide) (el_Reader (show ay_sh 1 = _ from rfl)) rfl rfl (by omega) rfl rfl (Nat.le_of_ble_eq_true rfl) ?_
    refine Call.post ?_ (cf_Reader_handOver_ok (by omega)   w6 _ h)
    rintro _ w7 ⟨rfl, h⟩
    show wp g (fun _ => True) y_T_run prog_1_method_4_code 2 (some FieldType.int) d 64 [(1, .int r1), (0, .ref (g.1 + 0))] [] w7 Q
    refine am_iload_n d_T_run_64 0 rfl ?_
    exact am_ireturn d_T_run_65 rfl rfl (hQ r1 w7 h)
  · have h := h.2 c32
    refine am_bipush (v := -2) d_T_run_35 rfl ?_
    refine am_aload_n d_T_run_37 1 rfl ?_
    refine am_getf (T := F_T) (fs := ob_T g w4 0) (C := R_T) (N := 9) (ci := 0) 0 d_T_run_38 wd_194 rfl (by decide) (el_T (show ay_sh 0 = _ from rfl)) rfl i_T (by decide) rfl ?_
    refine am_callV (C := "TriSplits$Reader") (d2 := d - 1) [] d_T_run_41 mi_Reader_latestFault wd_414 wd_415 wd_416 (by decide) (el_Reader (show ay_sh 1 = _ from rfl)) rfl rfl (by omega) rfl rfl (Nat.le_of_ble_eq_true rfl) ?_
    refine Call.post ?_ (cf_Reader_latestFault_ok (by omega)   w4 _ h)
    rintro _ _ ⟨r8, rfl, rfl, h⟩
    show wp g (fun _ => True) y_T_run prog_1_method_4_code 2 (some FieldType.int) d 44 [(1, .int r1), (0, .ref (g.1 + 0))] [.int r8, .int (-2 : Int32)] w4 Q
    refine am_isub d_T_run_44 ?_
    exact am_ireturn d_T_run_45 rfl rfl (hQ ((-2 : Int32) - r8) w4 h)
theorem d_T_fault_0 : decode prog_1_method_5_code 0 = .ok (.iload_n 1, 1) := by decide +kernel
theorem d_T_fault_1 : decode prog_1_method_5_code 1 = .ok (.tableswitch 51 0 2 #[27, 35, 43], 27) := by decide +kernel
theorem d_T_fault_28 : decode prog_1_method_5_code 28 = .ok (.aload_n 0, 1) := by decide +kernel
theorem d_T_fault_29 : decode prog_1_method_5_code 29 = .ok (.getfield 10, 3) := by decide +kernel
theorem d_T_fault_32 : decode prog_1_method_5_code 32 = .ok (.invokevirtual 93, 3) := by decide +kernel
theorem d_T_fault_35 : decode prog_1_method_5_code 35 = .ok (.ireturn, 1) := by decide +kernel
theorem d_T_fault_36 : decode prog_1_method_5_code 36 = .ok (.aload_n 0, 1) := by decide +kernel
theorem d_T_fault_37 : decode prog_1_method_5_code 37 = .ok (.getfield 10, 3) := by decide +kernel
theorem d_T_fault_40 : decode prog_1_method_5_code 40 = .ok (.invokevirtual 103, 3) := by decide +kernel
theorem d_T_fault_43 : decode prog_1_method_5_code 43 = .ok (.ireturn, 1) := by decide +kernel
theorem d_T_fault_44 : decode prog_1_method_5_code 44 = .ok (.aload_n 0, 1) := by decide +kernel
theorem d_T_fault_45 : decode prog_1_method_5_code 45 = .ok (.getfield 10, 3) := by decide +kernel
theorem d_T_fault_48 : decode prog_1_method_5_code 48 = .ok (.invokevirtual 106, 3) := by decide +kernel
theorem d_T_fault_51 : decode prog_1_method_5_code 51 = .ok (.ireturn, 1) := by decide +kernel
theorem d_T_fault_52 : decode prog_1_method_5_code 52 = .ok (.iconst (-1), 1) := by decide +kernel
theorem d_T_fault_53 : decode prog_1_method_5_code 53 = .ok (.ireturn, 1) := by decide +kernel
def cf_T_fault (a0 : Int32) (w : Wd) (P : Int32 → Prop) : Prop :=
  ((a0 = 0 → cf_Reader_latestFault  w (fun r1 => P r1)) ∧ (a0 = 1 → cf_Reader_within  w (fun r2 => P r2)) ∧ (a0 = 2 → cf_Reader_innermost  w (fun r3 => P r3)) ∧ ((a0.toInt < 0 ∨ 2 < a0.toInt) → P (-1 : Int32)))
theorem cf_T_fault_ok {g : ayG} {d : Nat} (hd : 1 ≤ d) (a0 : Int32)  (w : Wd) (P : Int32 → Prop) (h : cf_T_fault a0 w P) : Call g y_T_fault prog_1_method_5_code 2 (some FieldType.int) d [.ref (g.1 + 0), .int a0] w (fun (r : Option Value) (w2 : Wd) => ∃ x, r = some (.int x) ∧ w = w2 ∧ P x) := by
  unfold cf_T_fault at h
  refine am_enter mi_T_fault (Nat.le_of_ble_eq_true rfl) ?_
  have hQ : ∀ x, P x → (fun (r : Option Value) (w2 : Wd) => ∃ x, r = some (.int x) ∧ w = w2 ∧ P x) (some (.int x)) w := fun x h => ⟨x, rfl, rfl, h⟩
  generalize (fun (r : Option Value) (w2 : Wd) => ∃ x, r = some (.int x) ∧ w = w2 ∧ P x) = Q at hQ ⊢
  show wp g (fun _ => True) y_T_fault prog_1_method_5_code 2 (some FieldType.int) d 0 [(0, .ref (g.1 + 0)), (1, .int a0)] [] w Q
  refine am_iload_n d_T_fault_0 1 rfl ?_
  refine am_switch d_T_fault_1 (by decide) (fun tgt ht hx => ?_) ⟨52, by decide⟩ (fun i off ho hx => ?_)
  · have h := h.2.2.2 hx
    obtain rfl : tgt = 52 := by omega
    refine am_iconst (v := -1) d_T_fault_52 rfl ?_
    exact am_ireturn d_T_fault_53 rfl rfl (hQ (-1 : Int32) h)
  · have hi : i < 3 := (Array.getElem?_eq_some_iff.mp ho).1
    match i, hi, ho, hx with
    | 0, _, ho, hx =>
      refine ⟨28, ?_, ?_⟩
      · have e := Option.some.inj ho; rw [← e]; decide
      · have h := h.1 (Int32.toInt_inj.mp (by rw [hx]; decide))
        refine am_aload_n d_T_fault_28 0 rfl ?_
        refine am_getf (T := F_T) (fs := ob_T g w 0) (C := R_T) (N := 9) (ci := 0) 0 d_T_fault_29 wd_194 rfl (by decide) (el_T (show ay_sh 0 = _ from rfl)) rfl i_T (by decide) rfl ?_
        refine am_callV (C := "TriSplits$Reader") (d2 := d - 1) [] d_T_fault_32 mi_Reader_latestFault wd_414 wd_415 wd_416 (by decide) (el_Reader (show ay_sh 1 = _ from rfl)) rfl rfl (by omega) rfl rfl (Nat.le_of_ble_eq_true rfl) ?_
        refine Call.post ?_ (cf_Reader_latestFault_ok (by omega)   w _ h)
        rintro _ _ ⟨r1, rfl, rfl, h⟩
        show wp g (fun _ => True) y_T_fault prog_1_method_5_code 2 (some FieldType.int) d 35 [(0, .ref (g.1 + 0)), (1, .int a0)] [.int r1] w Q
        exact am_ireturn d_T_fault_35 rfl rfl (hQ r1 h)
    | 1, _, ho, hx =>
      refine ⟨36, ?_, ?_⟩
      · have e := Option.some.inj ho; rw [← e]; decide
      · have h := h.2.1 (Int32.toInt_inj.mp (by rw [hx]; decide))
        refine am_aload_n d_T_fault_36 0 rfl ?_
        refine am_getf (T := F_T) (fs := ob_T g w 0) (C := R_T) (N := 9) (ci := 0) 0 d_T_fault_37 wd_194 rfl (by decide) (el_T (show ay_sh 0 = _ from rfl)) rfl i_T (by decide) rfl ?_
        refine am_callV (C := "TriSplits$Reader") (d2 := d - 1) [] d_T_fault_40 mi_Reader_within wd_441 wd_442 wd_443 (by decide) (el_Reader (show ay_sh 1 = _ from rfl)) rfl rfl (by omega) rfl rfl (Nat.le_of_ble_eq_true rfl) ?_
        refine Call.post ?_ (cf_Reader_within_ok (by omega)   w _ h)
        rintro _ _ ⟨r2, rfl, rfl, h⟩
        show wp g (fun _ => True) y_T_fault prog_1_method_5_code 2 (some FieldType.int) d 43 [(0, .ref (g.1 + 0)), (1, .int a0)] [.int r2] w Q
        exact am_ireturn d_T_fault_43 rfl rfl (hQ r2 h)
    | 2, _, ho, hx =>
      refine ⟨44, ?_, ?_⟩
      · have e := Option.some.inj ho; rw [← e]; decide
      · have h := h.2.2.1 (Int32.toInt_inj.mp (by rw [hx]; decide))
        refine am_aload_n d_T_fault_44 0 rfl ?_
        refine am_getf (T := F_T) (fs := ob_T g w 0) (C := R_T) (N := 9) (ci := 0) 0 d_T_fault_45 wd_194 rfl (by decide) (el_T (show ay_sh 0 = _ from rfl)) rfl i_T (by decide) rfl ?_
        refine am_callV (C := "TriSplits$Reader") (d2 := d - 1) [] d_T_fault_48 mi_Reader_innermost wd_445 wd_446 wd_447 (by decide) (el_Reader (show ay_sh 1 = _ from rfl)) rfl rfl (by omega) rfl rfl (Nat.le_of_ble_eq_true rfl) ?_
        refine Call.post ?_ (cf_Reader_innermost_ok (by omega)   w _ h)
        rintro _ _ ⟨r3, rfl, rfl, h⟩
        show wp g (fun _ => True) y_T_fault prog_1_method_5_code 2 (some FieldType.int) d 51 [(0, .ref (g.1 + 0)), (1, .int a0)] [.int r3] w Q
        exact am_ireturn d_T_fault_51 rfl rfl (hQ r3 h)
    | n + 3, hi, _, _ => exact absurd hi (by omega)
theorem d_T_place_0 : decode prog_1_method_55_code 0 = .ok (.aload_n 0, 1) := by decide +kernel
theorem d_T_place_1 : decode prog_1_method_55_code 1 = .ok (.getfield 19, 3) := by decide +kernel
theorem d_T_place_4 : decode prog_1_method_55_code 4 = .ok (.invokevirtual 96, 3) := by decide +kernel
theorem d_T_place_7 : decode prog_1_method_55_code 7 = .ok (.aload_n 0, 1) := by decide +kernel
theorem d_T_place_8 : decode prog_1_method_55_code 8 = .ok (.getfield 19, 3) := by decide +kernel
theorem d_T_place_11 : decode prog_1_method_55_code 11 = .ok (.iload_n 1, 1) := by decide +kernel
theorem d_T_place_12 : decode prog_1_method_55_code 12 = .ok (.lload_n 2, 1) := by decide +kernel
theorem d_T_place_13 : decode prog_1_method_55_code 13 = .ok (.invokevirtual 370, 3) := by decide +kernel
theorem d_T_place_16 : decode prog_1_method_55_code 16 = .ok (.lload_n 2, 1) := by decide +kernel
theorem d_T_place_17 : decode prog_1_method_55_code 17 = .ok (.invokestatic 158, 3) := by decide +kernel
theorem d_T_place_20 : decode prog_1_method_55_code 20 = .ok (.ireturn, 1) := by decide +kernel
def cf_T_place (a0 : Int32) (a1 : Int64) (w : Wd) (P : Int32 → Wd → Prop) : Prop :=
  cf_Store_remember  w (fun w1 => cf_Store_write a0 a1 w1 (fun w2 => cf_Polys_degree a1 (fun r3 => P r3 w2)))
theorem cf_T_place_ok {g : ayG} {d : Nat} (hd : 3 ≤ d) (a0 : Int32) (a1 : Int64)  (w : Wd) (P : Int32 → Wd → Prop) (h : cf_T_place a0 a1 w P) : Call g y_T_place prog_1_method_55_code 4 (some FieldType.int) d [.ref (g.1 + 0), .int a0, .long a1] w (fun (r : Option Value) (w2 : Wd) => ∃ x, r = some (.int x) ∧ P x w2) := by
  unfold cf_T_place at h
  refine am_enter mi_T_place (Nat.le_of_ble_eq_true rfl) ?_
  have hQ : ∀ x w2, P x w2 → (fun (r : Option Value) (w2 : Wd) => ∃ x, r = some (.int x) ∧ P x w2) (some (.int x)) w2 := fun x w2 h => ⟨x, rfl, h⟩
  generalize (fun (r : Option Value) (w2 : Wd) => ∃ x, r = some (.int x) ∧ P x w2) = Q at hQ ⊢
  show wp g (fun _ => True) y_T_place prog_1_method_55_code 4 (some FieldType.int) d 0 [(0, .ref (g.1 + 0)), (1, .int a0), (2, .long a1)] [] w Q
  refine am_aload_n d_T_place_0 0 rfl ?_
  refine am_getf (T := F_T) (fs := ob_T g w 0) (C := R_T) (N := 9) (ci := 0) 1 d_T_place_1 wd_195 rfl (by decide) (el_T (show ay_sh 0 = _ from rfl)) rfl i_T (by decide) rfl ?_
  refine am_callV (C := "TriSplits$Store") (d2 := d - 1) [] d_T_place_4 mi_Store_remember wd_418 wd_419 wd_420 (by decide) (el_Store (show ay_sh 6 = _ from rfl)) rfl rfl (by omega) rfl rfl (Nat.le_of_ble_eq_true rfl) ?_
  refine Call.post ?_ (cf_Store_remember_ok (by omega)   w _ h)
  rintro _ w1 ⟨rfl, h⟩
  show wp g (fun _ => True) y_T_place prog_1_method_55_code 4 (some FieldType.int) d 7 [(0, .ref (g.1 + 0)), (1, .int a0), (2, .long a1)] [] w1 Q
  refine am_aload_n d_T_place_7 0 rfl ?_
  refine am_getf (T := F_T) (fs := ob_T g w1 0) (C := R_T) (N := 9) (ci := 0) 1 d_T_place_8 wd_195 rfl (by decide) (el_T (show ay_sh 0 = _ from rfl)) rfl i_T (by decide) rfl ?_
  refine am_iload_n d_T_place_11 1 rfl ?_
  refine am_lload_n d_T_place_12 2 rfl ?_
  refine am_callV (C := "TriSplits$Store") (d2 := d - 1) [.int a0, .long a1] d_T_place_13 mi_Store_write wd_459 wd_434 wd_435 (by decide) (el_Store (show ay_sh 6 = _ from rfl)) rfl rfl (by omega) rfl rfl (Nat.le_of_ble_eq_true rfl) ?_
  refine Call.post ?_ (cf_Store_write_ok (by omega) a0 a1  w1 _ h)
  rintro _ w2 ⟨rfl, h⟩
  show wp g (fun _ => True) y_T_place prog_1_method_55_code 4 (some FieldType.int) d 16 [(0, .ref (g.1 + 0)), (1, .int a0), (2, .long a1)] [] w2 Q
  refine am_lload_n d_T_place_16 2 rfl ?_
  refine am_callS (d2 := d - 1) [.long a1] d_T_place_17 mi_Polys_degree wd_460 wd_391 (by omega) rfl rfl (Nat.le_of_ble_eq_true rfl) ?_
  refine Call.post ?_ (cf_Polys_degree_ok (by omega) a1  w2 _ h)
  rintro _ _ ⟨r3, rfl, rfl, h⟩
  show wp g (fun _ => True) y_T_place prog_1_method_55_code 4 (some FieldType.int) d 20 [(0, .ref (g.1 + 0)), (1, .int a0), (2, .long a1)] [.int r3] w2 Q
  exact am_ireturn d_T_place_20 rfl rfl (hQ r3 w2 h)
theorem d_T_put_0 : decode prog_1_method_6_code 0 = .ok (.iload_n 1, 1) := by decide +kernel
theorem d_T_put_1 : decode prog_1_method_6_code 1 = .ok (.invokestatic 109, 3) := by decide +kernel
theorem d_T_put_4 : decode prog_1_method_6_code 4 = .ok (.ifCond .eq 17, 3) := by decide +kernel
theorem d_T_put_7 : decode prog_1_method_6_code 7 = .ok (.lload_n 2, 1) := by decide +kernel
theorem d_T_put_8 : decode prog_1_method_6_code 8 = .ok (.lconst 0, 1) := by decide +kernel
theorem d_T_put_9 : decode prog_1_method_6_code 9 = .ok (.lcmp, 1) := by decide +kernel
theorem d_T_put_10 : decode prog_1_method_6_code 10 = .ok (.ifCond .lt 11, 3) := by decide +kernel
theorem d_T_put_13 : decode prog_1_method_6_code 13 = .ok (.lload_n 2, 1) := by decide +kernel
theorem d_T_put_14 : decode prog_1_method_6_code 14 = .ok (.ldc2_w 112, 3) := by decide +kernel
theorem d_T_put_17 : decode prog_1_method_6_code 17 = .ok (.lcmp, 1) := by decide +kernel
theorem d_T_put_18 : decode prog_1_method_6_code 18 = .ok (.ifCond .le 6, 3) := by decide +kernel
theorem d_T_put_21 : decode prog_1_method_6_code 21 = .ok (.bipush (-5), 2) := by decide +kernel
theorem d_T_put_23 : decode prog_1_method_6_code 23 = .ok (.ireturn, 1) := by decide +kernel
theorem d_T_put_24 : decode prog_1_method_6_code 24 = .ok (.aload_n 0, 1) := by decide +kernel
theorem d_T_put_25 : decode prog_1_method_6_code 25 = .ok (.iload_n 1, 1) := by decide +kernel
theorem d_T_put_26 : decode prog_1_method_6_code 26 = .ok (.lload_n 2, 1) := by decide +kernel
theorem d_T_put_27 : decode prog_1_method_6_code 27 = .ok (.invokevirtual 114, 3) := by decide +kernel
theorem d_T_put_30 : decode prog_1_method_6_code 30 = .ok (.ireturn, 1) := by decide +kernel
def cf_T_put (a0 : Int32) (a1 : Int64) (w : Wd) (P : Int32 → Wd → Prop) : Prop :=
  cf_Store_isPlace a0 (fun r1 => ((r1 = 0 → P (-5 : Int32) w) ∧ (¬ r1 = 0 → ((a1 < (0 : Int64) → P (-5 : Int32) w) ∧ (¬ a1 < (0 : Int64) → ((a1 ≤ (4294967295 : Int64) → cf_T_place a0 a1 w (fun r2 w3 => P r2 w3)) ∧ (¬ a1 ≤ (4294967295 : Int64) → P (-5 : Int32) w)))))))
theorem cf_T_put_ok {g : ayG} {d : Nat} (hd : 4 ≤ d) (a0 : Int32) (a1 : Int64)  (w : Wd) (P : Int32 → Wd → Prop) (h : cf_T_put a0 a1 w P) : Call g y_T_put prog_1_method_6_code 4 (some FieldType.int) d [.ref (g.1 + 0), .int a0, .long a1] w (fun (r : Option Value) (w2 : Wd) => ∃ x, r = some (.int x) ∧ P x w2) := by
  unfold cf_T_put at h
  refine am_enter mi_T_put (Nat.le_of_ble_eq_true rfl) ?_
  have hQ : ∀ x w2, P x w2 → (fun (r : Option Value) (w2 : Wd) => ∃ x, r = some (.int x) ∧ P x w2) (some (.int x)) w2 := fun x w2 h => ⟨x, rfl, h⟩
  generalize (fun (r : Option Value) (w2 : Wd) => ∃ x, r = some (.int x) ∧ P x w2) = Q at hQ ⊢
  show wp g (fun _ => True) y_T_put prog_1_method_6_code 4 (some FieldType.int) d 0 [(0, .ref (g.1 + 0)), (1, .int a0), (2, .long a1)] [] w Q
  refine am_iload_n d_T_put_0 1 rfl ?_
  refine am_callS (d2 := d - 1) [.int a0] d_T_put_1 mi_Store_isPlace wd_453 wd_263 (by omega) rfl rfl (Nat.le_of_ble_eq_true rfl) ?_
  refine Call.post ?_ (cf_Store_isPlace_ok (by omega) a0  w _ h)
  rintro _ _ ⟨r1, rfl, rfl, h⟩
  show wp g (fun _ => True) y_T_put prog_1_method_6_code 4 (some FieldType.int) d 4 [(0, .ref (g.1 + 0)), (1, .int a0), (2, .long a1)] [.int r1] w Q
  refine am_if_eq (tgt := 21) d_T_put_4 (by decide) (fun c4 => ?_) (fun c4 => ?_)
  · have h := h.1 c4
    refine am_bipush (v := -5) d_T_put_21 rfl ?_
    exact am_ireturn d_T_put_23 rfl rfl (hQ (-5 : Int32) w h)
  · have h := h.2 c4
    refine am_lload_n d_T_put_7 2 rfl ?_
    refine am_lconst (v := 0) d_T_put_8 rfl ?_
    refine am_lif_lt (tgt := 21) d_T_put_9 d_T_put_10 (by decide) (fun c9 => ?_) (fun c9 => ?_)
    · have h := h.1 c9
      refine am_bipush (v := -5) d_T_put_21 rfl ?_
      exact am_ireturn d_T_put_23 rfl rfl (hQ (-5 : Int32) w h)
    · have h := h.2 c9
      refine am_lload_n d_T_put_13 2 rfl ?_
      refine am_ldc2 (v := 4294967295) d_T_put_14 wd_454 ?_
      refine am_lif_le (tgt := 24) d_T_put_17 d_T_put_18 (by decide) (fun c17 => ?_) (fun c17 => ?_)
      · have h := h.1 c17
        refine am_aload_n d_T_put_24 0 rfl ?_
        refine am_iload_n d_T_put_25 1 rfl ?_
        refine am_lload_n d_T_put_26 2 rfl ?_
        refine am_callV (C := y_T_place.cls) (d2 := d - 1) [.int a0, .long a1] d_T_put_27 mi_T_place wd_455 wd_457 ws_T_place (by decide) (el_T (show ay_sh 0 = _ from rfl)) rfl rfl (by omega) rfl rfl (Nat.le_of_ble_eq_true rfl) ?_
        refine Call.post ?_ (cf_T_place_ok (by omega) a0 a1  w _ h)
        rintro _ w3 ⟨r2, rfl, h⟩
        show wp g (fun _ => True) y_T_put prog_1_method_6_code 4 (some FieldType.int) d 30 [(0, .ref (g.1 + 0)), (1, .int a0), (2, .long a1)] [.int r2] w3 Q
        exact am_ireturn d_T_put_30 rfl rfl (hQ r2 w3 h)
      · have h := h.2 c17
        refine am_bipush (v := -5) d_T_put_21 rfl ?_
        exact am_ireturn d_T_put_23 rfl rfl (hQ (-5 : Int32) w h)
theorem d_T_arePlaces_0 : decode prog_1_method_51_code 0 = .ok (.iload_n 0, 1) := by decide +kernel
theorem d_T_arePlaces_1 : decode prog_1_method_51_code 1 = .ok (.invokestatic 109, 3) := by decide +kernel
theorem d_T_arePlaces_4 : decode prog_1_method_51_code 4 = .ok (.ifCond .eq 21, 3) := by decide +kernel
theorem d_T_arePlaces_7 : decode prog_1_method_51_code 7 = .ok (.iload_n 1, 1) := by decide +kernel
theorem d_T_arePlaces_8 : decode prog_1_method_51_code 8 = .ok (.invokestatic 109, 3) := by decide +kernel
theorem d_T_arePlaces_11 : decode prog_1_method_51_code 11 = .ok (.ifCond .eq 14, 3) := by decide +kernel
theorem d_T_arePlaces_14 : decode prog_1_method_51_code 14 = .ok (.iload_n 2, 1) := by decide +kernel
theorem d_T_arePlaces_15 : decode prog_1_method_51_code 15 = .ok (.invokestatic 109, 3) := by decide +kernel
theorem d_T_arePlaces_18 : decode prog_1_method_51_code 18 = .ok (.ifCond .eq 7, 3) := by decide +kernel
theorem d_T_arePlaces_21 : decode prog_1_method_51_code 21 = .ok (.iconst 1, 1) := by decide +kernel
theorem d_T_arePlaces_22 : decode prog_1_method_51_code 22 = .ok (.goto 4, 3) := by decide +kernel
theorem d_T_arePlaces_25 : decode prog_1_method_51_code 25 = .ok (.iconst 0, 1) := by decide +kernel
theorem d_T_arePlaces_26 : decode prog_1_method_51_code 26 = .ok (.ireturn, 1) := by decide +kernel
def cf_T_arePlaces (a0 : Int32) (a1 : Int32) (a2 : Int32) (P : Int32 → Prop) : Prop :=
  cf_Store_isPlace a0 (fun r1 => ((r1 = 0 → P (0 : Int32)) ∧ (¬ r1 = 0 → cf_Store_isPlace a1 (fun r2 => ((r2 = 0 → P (0 : Int32)) ∧ (¬ r2 = 0 → cf_Store_isPlace a2 (fun r3 => ((r3 = 0 → P (0 : Int32)) ∧ (¬ r3 = 0 → P (1 : Int32))))))))))
theorem cf_T_arePlaces_ok {g : ayG} {d : Nat} (hd : 1 ≤ d) (a0 : Int32) (a1 : Int32) (a2 : Int32)  (w : Wd) (P : Int32 → Prop) (h : cf_T_arePlaces a0 a1 a2 P) : Call g y_T_arePlaces prog_1_method_51_code 3 (some FieldType.boolean) d [.int a0, .int a1, .int a2] w (fun (r : Option Value) (w2 : Wd) => ∃ x, r = some (.int x) ∧ w = w2 ∧ P x) := by
  unfold cf_T_arePlaces at h
  refine am_enter mi_T_arePlaces (Nat.le_of_ble_eq_true rfl) ?_
  have hQ : ∀ x, P x → (fun (r : Option Value) (w2 : Wd) => ∃ x, r = some (.int x) ∧ w = w2 ∧ P x) (some (.int x)) w := fun x h => ⟨x, rfl, rfl, h⟩
  generalize (fun (r : Option Value) (w2 : Wd) => ∃ x, r = some (.int x) ∧ w = w2 ∧ P x) = Q at hQ ⊢
  show wp g (fun _ => True) y_T_arePlaces prog_1_method_51_code 3 (some FieldType.boolean) d 0 [(0, .int a0), (1, .int a1), (2, .int a2)] [] w Q
  refine am_iload_n d_T_arePlaces_0 0 rfl ?_
  refine am_callS (d2 := d - 1) [.int a0] d_T_arePlaces_1 mi_Store_isPlace wd_453 wd_263 (by omega) rfl rfl (Nat.le_of_ble_eq_true rfl) ?_
  refine Call.post ?_ (cf_Store_isPlace_ok (by omega) a0  w _ h)
  rintro _ _ ⟨r1, rfl, rfl, h⟩
  show wp g (fun _ => True) y_T_arePlaces prog_1_method_51_code 3 (some FieldType.boolean) d 4 [(0, .int a0), (1, .int a1), (2, .int a2)] [.int r1] w Q
  refine am_if_eq (tgt := 25) d_T_arePlaces_4 (by decide) (fun c4 => ?_) (fun c4 => ?_)
  · have h := h.1 c4
    refine am_iconst (v := 0) d_T_arePlaces_25 rfl ?_
    exact am_ireturn d_T_arePlaces_26 rfl rfl (hQ (0 : Int32) h)
  · have h := h.2 c4
    refine am_iload_n d_T_arePlaces_7 1 rfl ?_
    refine am_callS (d2 := d - 1) [.int a1] d_T_arePlaces_8 mi_Store_isPlace wd_453 wd_263 (by omega) rfl rfl (Nat.le_of_ble_eq_true rfl) ?_
    refine Call.post ?_ (cf_Store_isPlace_ok (by omega) a1  w _ h)
    rintro _ _ ⟨r2, rfl, rfl, h⟩
    show wp g (fun _ => True) y_T_arePlaces prog_1_method_51_code 3 (some FieldType.boolean) d 11 [(0, .int a0), (1, .int a1), (2, .int a2)] [.int r2] w Q
    refine am_if_eq (tgt := 25) d_T_arePlaces_11 (by decide) (fun c11 => ?_) (fun c11 => ?_)
    · have h := h.1 c11
      refine am_iconst (v := 0) d_T_arePlaces_25 rfl ?_
      exact am_ireturn d_T_arePlaces_26 rfl rfl (hQ (0 : Int32) h)
    · have h := h.2 c11
      refine am_iload_n d_T_arePlaces_14 2 rfl ?_
      refine am_callS (d2 := d - 1) [.int a2] d_T_arePlaces_15 mi_Store_isPlace wd_453 wd_263 (by omega) rfl rfl (Nat.le_of_ble_eq_true rfl) ?_
      refine Call.post ?_ (cf_Store_isPlace_ok (by omega) a2  w _ h)
      rintro _ _ ⟨r3, rfl, rfl, h⟩
      show wp g (fun _ => True) y_T_arePlaces prog_1_method_51_code 3 (some FieldType.boolean) d 18 [(0, .int a0), (1, .int a1), (2, .int a2)] [.int r3] w Q
      refine am_if_eq (tgt := 25) d_T_arePlaces_18 (by decide) (fun c18 => ?_) (fun c18 => ?_)
      · have h := h.1 c18
        refine am_iconst (v := 0) d_T_arePlaces_25 rfl ?_
        exact am_ireturn d_T_arePlaces_26 rfl rfl (hQ (0 : Int32) h)
      · have h := h.2 c18
        refine am_iconst (v := 1) d_T_arePlaces_21 rfl ?_
        refine am_goto (tgt := 26) d_T_arePlaces_22 (by decide) ?_
        exact am_ireturn d_T_arePlaces_26 rfl rfl (hQ (1 : Int32) h)
theorem d_T_add_0 : decode prog_1_method_7_code 0 = .ok (.iload_n 1, 1) := by decide +kernel
theorem d_T_add_1 : decode prog_1_method_7_code 1 = .ok (.iload_n 2, 1) := by decide +kernel
theorem d_T_add_2 : decode prog_1_method_7_code 2 = .ok (.iload_n 3, 1) := by decide +kernel
theorem d_T_add_3 : decode prog_1_method_7_code 3 = .ok (.invokestatic 118, 3) := by decide +kernel
theorem d_T_add_6 : decode prog_1_method_7_code 6 = .ok (.ifCond .ne 6, 3) := by decide +kernel
theorem d_T_add_9 : decode prog_1_method_7_code 9 = .ok (.bipush (-5), 2) := by decide +kernel
theorem d_T_add_11 : decode prog_1_method_7_code 11 = .ok (.ireturn, 1) := by decide +kernel
theorem d_T_add_12 : decode prog_1_method_7_code 12 = .ok (.aload_n 0, 1) := by decide +kernel
theorem d_T_add_13 : decode prog_1_method_7_code 13 = .ok (.iload_n 3, 1) := by decide +kernel
theorem d_T_add_14 : decode prog_1_method_7_code 14 = .ok (.aload_n 0, 1) := by decide +kernel
theorem d_T_add_15 : decode prog_1_method_7_code 15 = .ok (.getfield 19, 3) := by decide +kernel
theorem d_T_add_18 : decode prog_1_method_7_code 18 = .ok (.iload_n 1, 1) := by decide +kernel
theorem d_T_add_19 : decode prog_1_method_7_code 19 = .ok (.invokevirtual 122, 3) := by decide +kernel
theorem d_T_add_22 : decode prog_1_method_7_code 22 = .ok (.aload_n 0, 1) := by decide +kernel
theorem d_T_add_23 : decode prog_1_method_7_code 23 = .ok (.getfield 19, 3) := by decide +kernel
theorem d_T_add_26 : decode prog_1_method_7_code 26 = .ok (.iload_n 2, 1) := by decide +kernel
theorem d_T_add_27 : decode prog_1_method_7_code 27 = .ok (.invokevirtual 122, 3) := by decide +kernel
theorem d_T_add_30 : decode prog_1_method_7_code 30 = .ok (.lxor, 1) := by decide +kernel
theorem d_T_add_31 : decode prog_1_method_7_code 31 = .ok (.invokevirtual 114, 3) := by decide +kernel
theorem d_T_add_34 : decode prog_1_method_7_code 34 = .ok (.ireturn, 1) := by decide +kernel
def cf_T_add (a0 : Int32) (a1 : Int32) (a2 : Int32) (w : Wd) (P : Int32 → Wd → Prop) : Prop :=
  cf_T_arePlaces a0 a1 a2 (fun r1 => ((¬ r1 = 0 → cf_Store_polyAt a0 w (fun r2 => cf_Store_polyAt a1 w (fun r3 => cf_T_place a2 (r2 ^^^ r3) w (fun r4 w5 => P r4 w5)))) ∧ (r1 = 0 → P (-5 : Int32) w)))
theorem cf_T_add_ok {g : ayG} {d : Nat} (hd : 4 ≤ d) (a0 : Int32) (a1 : Int32) (a2 : Int32)  (w : Wd) (P : Int32 → Wd → Prop) (h : cf_T_add a0 a1 a2 w P) : Call g y_T_add prog_1_method_7_code 4 (some FieldType.int) d [.ref (g.1 + 0), .int a0, .int a1, .int a2] w (fun (r : Option Value) (w2 : Wd) => ∃ x, r = some (.int x) ∧ P x w2) := by
  unfold cf_T_add at h
  refine am_enter mi_T_add (Nat.le_of_ble_eq_true rfl) ?_
  have hQ : ∀ x w2, P x w2 → (fun (r : Option Value) (w2 : Wd) => ∃ x, r = some (.int x) ∧ P x w2) (some (.int x)) w2 := fun x w2 h => ⟨x, rfl, h⟩
  generalize (fun (r : Option Value) (w2 : Wd) => ∃ x, r = some (.int x) ∧ P x w2) = Q at hQ ⊢
  show wp g (fun _ => True) y_T_add prog_1_method_7_code 4 (some FieldType.int) d 0 [(0, .ref (g.1 + 0)), (1, .int a0), (2, .int a1), (3, .int a2)] [] w Q
  refine am_iload_n d_T_add_0 1 rfl ?_
  refine am_iload_n d_T_add_1 2 rfl ?_
  refine am_iload_n d_T_add_2 3 rfl ?_
  refine am_callS (d2 := d - 1) [.int a0, .int a1, .int a2] d_T_add_3 mi_T_arePlaces wd_465 wd_466 (by omega) rfl rfl (Nat.le_of_ble_eq_true rfl) ?_
  refine Call.post ?_ (cf_T_arePlaces_ok (by omega) a0 a1 a2  w _ h)
  rintro _ _ ⟨r1, rfl, rfl, h⟩
  show wp g (fun _ => True) y_T_add prog_1_method_7_code 4 (some FieldType.int) d 6 [(0, .ref (g.1 + 0)), (1, .int a0), (2, .int a1), (3, .int a2)] [.int r1] w Q
  refine am_if_ne (tgt := 12) d_T_add_6 (by decide) (fun c6 => ?_) (fun c6 => ?_)
  · have h := h.1 c6
    refine am_aload_n d_T_add_12 0 rfl ?_
    refine am_iload_n d_T_add_13 3 rfl ?_
    refine am_aload_n d_T_add_14 0 rfl ?_
    refine am_getf (T := F_T) (fs := ob_T g w 0) (C := R_T) (N := 9) (ci := 0) 1 d_T_add_15 wd_195 rfl (by decide) (el_T (show ay_sh 0 = _ from rfl)) rfl i_T (by decide) rfl ?_
    refine am_iload_n d_T_add_18 1 rfl ?_
    refine am_callV (C := "TriSplits$Store") (d2 := d - 1) [.int a0] d_T_add_19 mi_Store_polyAt wd_468 wd_259 wd_260 (by decide) (el_Store (show ay_sh 6 = _ from rfl)) rfl rfl (by omega) rfl rfl (Nat.le_of_ble_eq_true rfl) ?_
    refine Call.post ?_ (cf_Store_polyAt_ok (by omega) a0  w _ h)
    rintro _ _ ⟨r2, rfl, rfl, h⟩
    show wp g (fun _ => True) y_T_add prog_1_method_7_code 4 (some FieldType.int) d 22 [(0, .ref (g.1 + 0)), (1, .int a0), (2, .int a1), (3, .int a2)] [.long r2, .int a2, .ref (g.1 + 0)] w Q
    refine am_aload_n d_T_add_22 0 rfl ?_
    refine am_getf (T := F_T) (fs := ob_T g w 0) (C := R_T) (N := 9) (ci := 0) 1 d_T_add_23 wd_195 rfl (by decide) (el_T (show ay_sh 0 = _ from rfl)) rfl i_T (by decide) rfl ?_
    refine am_iload_n d_T_add_26 2 rfl ?_
    refine am_callV (C := "TriSplits$Store") (d2 := d - 1) [.int a1] d_T_add_27 mi_Store_polyAt wd_468 wd_259 wd_260 (by decide) (el_Store (show ay_sh 6 = _ from rfl)) rfl rfl (by omega) rfl rfl (Nat.le_of_ble_eq_true rfl) ?_
    refine Call.post ?_ (cf_Store_polyAt_ok (by omega) a1  w _ h)
    rintro _ _ ⟨r3, rfl, rfl, h⟩
    show wp g (fun _ => True) y_T_add prog_1_method_7_code 4 (some FieldType.int) d 30 [(0, .ref (g.1 + 0)), (1, .int a0), (2, .int a1), (3, .int a2)] [.long r3, .long r2, .int a2, .ref (g.1 + 0)] w Q
    refine am_lxor d_T_add_30 ?_
    refine am_callV (C := y_T_place.cls) (d2 := d - 1) [.int a2, .long (r2 ^^^ r3)] d_T_add_31 mi_T_place wd_455 wd_457 ws_T_place (by decide) (el_T (show ay_sh 0 = _ from rfl)) rfl rfl (by omega) rfl rfl (Nat.le_of_ble_eq_true rfl) ?_
    refine Call.post ?_ (cf_T_place_ok (by omega) a2 (r2 ^^^ r3)  w _ h)
    rintro _ w5 ⟨r4, rfl, h⟩
    show wp g (fun _ => True) y_T_add prog_1_method_7_code 4 (some FieldType.int) d 34 [(0, .ref (g.1 + 0)), (1, .int a0), (2, .int a1), (3, .int a2)] [.int r4] w5 Q
    exact am_ireturn d_T_add_34 rfl rfl (hQ r4 w5 h)
  · have h := h.2 c6
    refine am_bipush (v := -5) d_T_add_9 rfl ?_
    exact am_ireturn d_T_add_11 rfl rfl (hQ (-5 : Int32) w h)
theorem d_T_multiply_0 : decode prog_1_method_8_code 0 = .ok (.iload_n 1, 1) := by decide +kernel
theorem d_T_multiply_1 : decode prog_1_method_8_code 1 = .ok (.iload_n 2, 1) := by decide +kernel
theorem d_T_multiply_2 : decode prog_1_method_8_code 2 = .ok (.iload_n 3, 1) := by decide +kernel
theorem d_T_multiply_3 : decode prog_1_method_8_code 3 = .ok (.invokestatic 118, 3) := by decide +kernel
theorem d_T_multiply_6 : decode prog_1_method_8_code 6 = .ok (.ifCond .ne 6, 3) := by decide +kernel
theorem d_T_multiply_9 : decode prog_1_method_8_code 9 = .ok (.bipush (-5), 2) := by decide +kernel
theorem d_T_multiply_11 : decode prog_1_method_8_code 11 = .ok (.ireturn, 1) := by decide +kernel
theorem d_T_multiply_12 : decode prog_1_method_8_code 12 = .ok (.aload_n 0, 1) := by decide +kernel
theorem d_T_multiply_13 : decode prog_1_method_8_code 13 = .ok (.getfield 19, 3) := by decide +kernel
theorem d_T_multiply_16 : decode prog_1_method_8_code 16 = .ok (.iload_n 1, 1) := by decide +kernel
theorem d_T_multiply_17 : decode prog_1_method_8_code 17 = .ok (.invokevirtual 122, 3) := by decide +kernel
theorem d_T_multiply_20 : decode prog_1_method_8_code 20 = .ok (.aload_n 0, 1) := by decide +kernel
theorem d_T_multiply_21 : decode prog_1_method_8_code 21 = .ok (.getfield 19, 3) := by decide +kernel
theorem d_T_multiply_24 : decode prog_1_method_8_code 24 = .ok (.iload_n 2, 1) := by decide +kernel
theorem d_T_multiply_25 : decode prog_1_method_8_code 25 = .ok (.invokevirtual 122, 3) := by decide +kernel
theorem d_T_multiply_28 : decode prog_1_method_8_code 28 = .ok (.invokestatic 126, 3) := by decide +kernel
theorem d_T_multiply_31 : decode prog_1_method_8_code 31 = .ok (.lstore 4, 2) := by decide +kernel
theorem d_T_multiply_33 : decode prog_1_method_8_code 33 = .ok (.lload 4, 2) := by decide +kernel
theorem d_T_multiply_35 : decode prog_1_method_8_code 35 = .ok (.ldc2_w 112, 3) := by decide +kernel
theorem d_T_multiply_38 : decode prog_1_method_8_code 38 = .ok (.lcmp, 1) := by decide +kernel
theorem d_T_multiply_39 : decode prog_1_method_8_code 39 = .ok (.ifCond .le 8, 3) := by decide +kernel
theorem d_T_multiply_42 : decode prog_1_method_8_code 42 = .ok (.bipush (-2), 2) := by decide +kernel
theorem d_T_multiply_44 : decode prog_1_method_8_code 44 = .ok (.goto 10, 3) := by decide +kernel
theorem d_T_multiply_47 : decode prog_1_method_8_code 47 = .ok (.aload_n 0, 1) := by decide +kernel
theorem d_T_multiply_48 : decode prog_1_method_8_code 48 = .ok (.iload_n 3, 1) := by decide +kernel
theorem d_T_multiply_49 : decode prog_1_method_8_code 49 = .ok (.lload 4, 2) := by decide +kernel
theorem d_T_multiply_51 : decode prog_1_method_8_code 51 = .ok (.invokevirtual 114, 3) := by decide +kernel
theorem d_T_multiply_54 : decode prog_1_method_8_code 54 = .ok (.ireturn, 1) := by decide +kernel
def cf_T_multiply (a0 : Int32) (a1 : Int32) (a2 : Int32) (w : Wd) (P : Int32 → Wd → Prop) : Prop :=
  cf_T_arePlaces a0 a1 a2 (fun r1 => ((¬ r1 = 0 → cf_Store_polyAt a0 w (fun r2 => cf_Store_polyAt a1 w (fun r3 => cf_Polys_product r2 r3 (fun r4 => ((r4 ≤ (4294967295 : Int64) → cf_T_place a2 r4 w (fun r5 w6 => P r5 w6)) ∧ (¬ r4 ≤ (4294967295 : Int64) → P (-2 : Int32) w)))))) ∧ (r1 = 0 → P (-5 : Int32) w)))
theorem cf_T_multiply_ok {g : ayG} {d : Nat} (hd : 4 ≤ d) (a0 : Int32) (a1 : Int32) (a2 : Int32)  (w : Wd) (P : Int32 → Wd → Prop) (h : cf_T_multiply a0 a1 a2 w P) : Call g y_T_multiply prog_1_method_8_code 6 (some FieldType.int) d [.ref (g.1 + 0), .int a0, .int a1, .int a2] w (fun (r : Option Value) (w2 : Wd) => ∃ x, r = some (.int x) ∧ P x w2) := by
  unfold cf_T_multiply at h
  refine am_enter mi_T_multiply (Nat.le_of_ble_eq_true rfl) ?_
  have hQ : ∀ x w2, P x w2 → (fun (r : Option Value) (w2 : Wd) => ∃ x, r = some (.int x) ∧ P x w2) (some (.int x)) w2 := fun x w2 h => ⟨x, rfl, h⟩
  generalize (fun (r : Option Value) (w2 : Wd) => ∃ x, r = some (.int x) ∧ P x w2) = Q at hQ ⊢
  show wp g (fun _ => True) y_T_multiply prog_1_method_8_code 6 (some FieldType.int) d 0 [(0, .ref (g.1 + 0)), (1, .int a0), (2, .int a1), (3, .int a2)] [] w Q
  refine am_iload_n d_T_multiply_0 1 rfl ?_
  refine am_iload_n d_T_multiply_1 2 rfl ?_
  refine am_iload_n d_T_multiply_2 3 rfl ?_
  refine am_callS (d2 := d - 1) [.int a0, .int a1, .int a2] d_T_multiply_3 mi_T_arePlaces wd_465 wd_466 (by omega) rfl rfl (Nat.le_of_ble_eq_true rfl) ?_
  refine Call.post ?_ (cf_T_arePlaces_ok (by omega) a0 a1 a2  w _ h)
  rintro _ _ ⟨r1, rfl, rfl, h⟩
  show wp g (fun _ => True) y_T_multiply prog_1_method_8_code 6 (some FieldType.int) d 6 [(0, .ref (g.1 + 0)), (1, .int a0), (2, .int a1), (3, .int a2)] [.int r1] w Q
  refine am_if_ne (tgt := 12) d_T_multiply_6 (by decide) (fun c6 => ?_) (fun c6 => ?_)
  · have h := h.1 c6
    refine am_aload_n d_T_multiply_12 0 rfl ?_
    refine am_getf (T := F_T) (fs := ob_T g w 0) (C := R_T) (N := 9) (ci := 0) 1 d_T_multiply_13 wd_195 rfl (by decide) (el_T (show ay_sh 0 = _ from rfl)) rfl i_T (by decide) rfl ?_
    refine am_iload_n d_T_multiply_16 1 rfl ?_
    refine am_callV (C := "TriSplits$Store") (d2 := d - 1) [.int a0] d_T_multiply_17 mi_Store_polyAt wd_468 wd_259 wd_260 (by decide) (el_Store (show ay_sh 6 = _ from rfl)) rfl rfl (by omega) rfl rfl (Nat.le_of_ble_eq_true rfl) ?_
    refine Call.post ?_ (cf_Store_polyAt_ok (by omega) a0  w _ h)
    rintro _ _ ⟨r2, rfl, rfl, h⟩
    show wp g (fun _ => True) y_T_multiply prog_1_method_8_code 6 (some FieldType.int) d 20 [(0, .ref (g.1 + 0)), (1, .int a0), (2, .int a1), (3, .int a2)] [.long r2] w Q
    refine am_aload_n d_T_multiply_20 0 rfl ?_
    refine am_getf (T := F_T) (fs := ob_T g w 0) (C := R_T) (N := 9) (ci := 0) 1 d_T_multiply_21 wd_195 rfl (by decide) (el_T (show ay_sh 0 = _ from rfl)) rfl i_T (by decide) rfl ?_
    refine am_iload_n d_T_multiply_24 2 rfl ?_
    refine am_callV (C := "TriSplits$Store") (d2 := d - 1) [.int a1] d_T_multiply_25 mi_Store_polyAt wd_468 wd_259 wd_260 (by decide) (el_Store (show ay_sh 6 = _ from rfl)) rfl rfl (by omega) rfl rfl (Nat.le_of_ble_eq_true rfl) ?_
    refine Call.post ?_ (cf_Store_polyAt_ok (by omega) a1  w _ h)
    rintro _ _ ⟨r3, rfl, rfl, h⟩
    show wp g (fun _ => True) y_T_multiply prog_1_method_8_code 6 (some FieldType.int) d 28 [(0, .ref (g.1 + 0)), (1, .int a0), (2, .int a1), (3, .int a2)] [.long r3, .long r2] w Q
    refine am_callS (d2 := d - 1) [.long r2, .long r3] d_T_multiply_28 mi_Polys_product wd_473 wd_407 (by omega) rfl rfl (Nat.le_of_ble_eq_true rfl) ?_
    refine Call.post ?_ (cf_Polys_product_ok (by omega) r2 r3  w _ h)
    rintro _ _ ⟨r4, rfl, rfl, h⟩
    show wp g (fun _ => True) y_T_multiply prog_1_method_8_code 6 (some FieldType.int) d 31 [(0, .ref (g.1 + 0)), (1, .int a0), (2, .int a1), (3, .int a2)] [.long r4] w Q
    refine am_lstore (l' := [(4, .long r4), (0, .ref (g.1 + 0)), (1, .int a0), (2, .int a1), (3, .int a2)]) d_T_multiply_31 (by decide) rfl ?_
    refine am_lload d_T_multiply_33 0 rfl ?_
    refine am_ldc2 (v := 4294967295) d_T_multiply_35 wd_454 ?_
    refine am_lif_le (tgt := 47) d_T_multiply_38 d_T_multiply_39 (by decide) (fun c38 => ?_) (fun c38 => ?_)
    · have h := h.1 c38
      refine am_aload_n d_T_multiply_47 1 rfl ?_
      refine am_iload_n d_T_multiply_48 4 rfl ?_
      refine am_lload d_T_multiply_49 0 rfl ?_
      refine am_callV (C := y_T_place.cls) (d2 := d - 1) [.int a2, .long r4] d_T_multiply_51 mi_T_place wd_455 wd_457 ws_T_place (by decide) (el_T (show ay_sh 0 = _ from rfl)) rfl rfl (by omega) rfl rfl (Nat.le_of_ble_eq_true rfl) ?_
      refine Call.post ?_ (cf_T_place_ok (by omega) a2 r4  w _ h)
      rintro _ w6 ⟨r5, rfl, h⟩
      show wp g (fun _ => True) y_T_multiply prog_1_method_8_code 6 (some FieldType.int) d 54 [(4, .long r4), (0, .ref (g.1 + 0)), (1, .int a0), (2, .int a1), (3, .int a2)] [.int r5] w6 Q
      exact am_ireturn d_T_multiply_54 rfl rfl (hQ r5 w6 h)
    · have h := h.2 c38
      refine am_bipush (v := -2) d_T_multiply_42 rfl ?_
      refine am_goto (tgt := 54) d_T_multiply_44 (by decide) ?_
      exact am_ireturn d_T_multiply_54 rfl rfl (hQ (-2 : Int32) w h)
  · have h := h.2 c6
    refine am_bipush (v := -5) d_T_multiply_9 rfl ?_
    exact am_ireturn d_T_multiply_11 rfl rfl (hQ (-5 : Int32) w h)
theorem d_T_divide_0 : decode prog_1_method_9_code 0 = .ok (.iload_n 1, 1) := by decide +kernel
theorem d_T_divide_1 : decode prog_1_method_9_code 1 = .ok (.iload_n 2, 1) := by decide +kernel
theorem d_T_divide_2 : decode prog_1_method_9_code 2 = .ok (.iload_n 3, 1) := by decide +kernel
theorem d_T_divide_3 : decode prog_1_method_9_code 3 = .ok (.invokestatic 118, 3) := by decide +kernel
theorem d_T_divide_6 : decode prog_1_method_9_code 6 = .ok (.ifCond .ne 6, 3) := by decide +kernel
theorem d_T_divide_9 : decode prog_1_method_9_code 9 = .ok (.bipush (-5), 2) := by decide +kernel
theorem d_T_divide_11 : decode prog_1_method_9_code 11 = .ok (.ireturn, 1) := by decide +kernel
theorem d_T_divide_12 : decode prog_1_method_9_code 12 = .ok (.aload_n 0, 1) := by decide +kernel
theorem d_T_divide_13 : decode prog_1_method_9_code 13 = .ok (.getfield 19, 3) := by decide +kernel
theorem d_T_divide_16 : decode prog_1_method_9_code 16 = .ok (.iload_n 2, 1) := by decide +kernel
theorem d_T_divide_17 : decode prog_1_method_9_code 17 = .ok (.invokevirtual 122, 3) := by decide +kernel
theorem d_T_divide_20 : decode prog_1_method_9_code 20 = .ok (.lconst 0, 1) := by decide +kernel
theorem d_T_divide_21 : decode prog_1_method_9_code 21 = .ok (.lcmp, 1) := by decide +kernel
theorem d_T_divide_22 : decode prog_1_method_9_code 22 = .ok (.ifCond .ne 6, 3) := by decide +kernel
theorem d_T_divide_25 : decode prog_1_method_9_code 25 = .ok (.bipush (-2), 2) := by decide +kernel
theorem d_T_divide_27 : decode prog_1_method_9_code 27 = .ok (.ireturn, 1) := by decide +kernel
theorem d_T_divide_28 : decode prog_1_method_9_code 28 = .ok (.aload_n 0, 1) := by decide +kernel
theorem d_T_divide_29 : decode prog_1_method_9_code 29 = .ok (.iload_n 3, 1) := by decide +kernel
theorem d_T_divide_30 : decode prog_1_method_9_code 30 = .ok (.aload_n 0, 1) := by decide +kernel
theorem d_T_divide_31 : decode prog_1_method_9_code 31 = .ok (.getfield 19, 3) := by decide +kernel
theorem d_T_divide_34 : decode prog_1_method_9_code 34 = .ok (.iload_n 1, 1) := by decide +kernel
theorem d_T_divide_35 : decode prog_1_method_9_code 35 = .ok (.invokevirtual 122, 3) := by decide +kernel
theorem d_T_divide_38 : decode prog_1_method_9_code 38 = .ok (.aload_n 0, 1) := by decide +kernel
theorem d_T_divide_39 : decode prog_1_method_9_code 39 = .ok (.getfield 19, 3) := by decide +kernel
theorem d_T_divide_42 : decode prog_1_method_9_code 42 = .ok (.iload_n 2, 1) := by decide +kernel
theorem d_T_divide_43 : decode prog_1_method_9_code 43 = .ok (.invokevirtual 122, 3) := by decide +kernel
theorem d_T_divide_46 : decode prog_1_method_9_code 46 = .ok (.invokestatic 132, 3) := by decide +kernel
theorem d_T_divide_49 : decode prog_1_method_9_code 49 = .ok (.invokevirtual 114, 3) := by decide +kernel
theorem d_T_divide_52 : decode prog_1_method_9_code 52 = .ok (.ireturn, 1) := by decide +kernel
def cf_T_divide (a0 : Int32) (a1 : Int32) (a2 : Int32) (w : Wd) (P : Int32 → Wd → Prop) : Prop :=
  cf_T_arePlaces a0 a1 a2 (fun r1 => ((¬ r1 = 0 → cf_Store_polyAt a1 w (fun r2 => ((¬ r2 = (0 : Int64) → cf_Store_polyAt a0 w (fun r3 => cf_Store_polyAt a1 w (fun r4 => cf_Polys_quotient r3 r4 (fun r5 => cf_T_place a2 r5 w (fun r6 w7 => P r6 w7))))) ∧ (r2 = (0 : Int64) → P (-2 : Int32) w)))) ∧ (r1 = 0 → P (-5 : Int32) w)))
theorem cf_T_divide_ok {g : ayG} {d : Nat} (hd : 4 ≤ d) (a0 : Int32) (a1 : Int32) (a2 : Int32)  (w : Wd) (P : Int32 → Wd → Prop) (h : cf_T_divide a0 a1 a2 w P) : Call g y_T_divide prog_1_method_9_code 4 (some FieldType.int) d [.ref (g.1 + 0), .int a0, .int a1, .int a2] w (fun (r : Option Value) (w2 : Wd) => ∃ x, r = some (.int x) ∧ P x w2) := by
  unfold cf_T_divide at h
  refine am_enter mi_T_divide (Nat.le_of_ble_eq_true rfl) ?_
  have hQ : ∀ x w2, P x w2 → (fun (r : Option Value) (w2 : Wd) => ∃ x, r = some (.int x) ∧ P x w2) (some (.int x)) w2 := fun x w2 h => ⟨x, rfl, h⟩
  generalize (fun (r : Option Value) (w2 : Wd) => ∃ x, r = some (.int x) ∧ P x w2) = Q at hQ ⊢
  show wp g (fun _ => True) y_T_divide prog_1_method_9_code 4 (some FieldType.int) d 0 [(0, .ref (g.1 + 0)), (1, .int a0), (2, .int a1), (3, .int a2)] [] w Q
  refine am_iload_n d_T_divide_0 1 rfl ?_
  refine am_iload_n d_T_divide_1 2 rfl ?_
  refine am_iload_n d_T_divide_2 3 rfl ?_
  refine am_callS (d2 := d - 1) [.int a0, .int a1, .int a2] d_T_divide_3 mi_T_arePlaces wd_465 wd_466 (by omega) rfl rfl (Nat.le_of_ble_eq_true rfl) ?_
  refine Call.post ?_ (cf_T_arePlaces_ok (by omega) a0 a1 a2  w _ h)
  rintro _ _ ⟨r1, rfl, rfl, h⟩
  show wp g (fun _ => True) y_T_divide prog_1_method_9_code 4 (some FieldType.int) d 6 [(0, .ref (g.1 + 0)), (1, .int a0), (2, .int a1), (3, .int a2)] [.int r1] w Q
  refine am_if_ne (tgt := 12) d_T_divide_6 (by decide) (fun c6 => ?_) (fun c6 => ?_)
  · have h := h.1 c6
    refine am_aload_n d_T_divide_12 0 rfl ?_
    refine am_getf (T := F_T) (fs := ob_T g w 0) (C := R_T) (N := 9) (ci := 0) 1 d_T_divide_13 wd_195 rfl (by decide) (el_T (show ay_sh 0 = _ from rfl)) rfl i_T (by decide) rfl ?_
    refine am_iload_n d_T_divide_16 2 rfl ?_
    refine am_callV (C := "TriSplits$Store") (d2 := d - 1) [.int a1] d_T_divide_17 mi_Store_polyAt wd_468 wd_259 wd_260 (by decide) (el_Store (show ay_sh 6 = _ from rfl)) rfl rfl (by omega) rfl rfl (Nat.le_of_ble_eq_true rfl) ?_
    refine Call.post ?_ (cf_Store_polyAt_ok (by omega) a1  w _ h)
    rintro _ _ ⟨r2, rfl, rfl, h⟩
    show wp g (fun _ => True) y_T_divide prog_1_method_9_code 4 (some FieldType.int) d 20 [(0, .ref (g.1 + 0)), (1, .int a0), (2, .int a1), (3, .int a2)] [.long r2] w Q
    refine am_lconst (v := 0) d_T_divide_20 rfl ?_
    refine am_lif_ne (tgt := 28) d_T_divide_21 d_T_divide_22 (by decide) (fun c21 => ?_) (fun c21 => ?_)
    · have h := h.1 c21
      refine am_aload_n d_T_divide_28 0 rfl ?_
      refine am_iload_n d_T_divide_29 3 rfl ?_
      refine am_aload_n d_T_divide_30 0 rfl ?_
      refine am_getf (T := F_T) (fs := ob_T g w 0) (C := R_T) (N := 9) (ci := 0) 1 d_T_divide_31 wd_195 rfl (by decide) (el_T (show ay_sh 0 = _ from rfl)) rfl i_T (by decide) rfl ?_
      refine am_iload_n d_T_divide_34 1 rfl ?_
      refine am_callV (C := "TriSplits$Store") (d2 := d - 1) [.int a0] d_T_divide_35 mi_Store_polyAt wd_468 wd_259 wd_260 (by decide) (el_Store (show ay_sh 6 = _ from rfl)) rfl rfl (by omega) rfl rfl (Nat.le_of_ble_eq_true rfl) ?_
      refine Call.post ?_ (cf_Store_polyAt_ok (by omega) a0  w _ h)
      rintro _ _ ⟨r3, rfl, rfl, h⟩
      show wp g (fun _ => True) y_T_divide prog_1_method_9_code 4 (some FieldType.int) d 38 [(0, .ref (g.1 + 0)), (1, .int a0), (2, .int a1), (3, .int a2)] [.long r3, .int a2, .ref (g.1 + 0)] w Q
      refine am_aload_n d_T_divide_38 0 rfl ?_
      refine am_getf (T := F_T) (fs := ob_T g w 0) (C := R_T) (N := 9) (ci := 0) 1 d_T_divide_39 wd_195 rfl (by decide) (el_T (show ay_sh 0 = _ from rfl)) rfl i_T (by decide) rfl ?_
      refine am_iload_n d_T_divide_42 2 rfl ?_
      refine am_callV (C := "TriSplits$Store") (d2 := d - 1) [.int a1] d_T_divide_43 mi_Store_polyAt wd_468 wd_259 wd_260 (by decide) (el_Store (show ay_sh 6 = _ from rfl)) rfl rfl (by omega) rfl rfl (Nat.le_of_ble_eq_true rfl) ?_
      refine Call.post ?_ (cf_Store_polyAt_ok (by omega) a1  w _ h)
      rintro _ _ ⟨r4, rfl, rfl, h⟩
      show wp g (fun _ => True) y_T_divide prog_1_method_9_code 4 (some FieldType.int) d 46 [(0, .ref (g.1 + 0)), (1, .int a0), (2, .int a1), (3, .int a2)] [.long r4, .long r3, .int a2, .ref (g.1 + 0)] w Q
      refine am_callS (d2 := d - 1) [.long r3, .long r4] d_T_divide_46 mi_Polys_quotient wd_478 wd_479 (by omega) rfl rfl (Nat.le_of_ble_eq_true rfl) ?_
      refine Call.post ?_ (cf_Polys_quotient_ok (by omega) r3 r4  w _ h)
      rintro _ _ ⟨r5, rfl, rfl, h⟩
      show wp g (fun _ => True) y_T_divide prog_1_method_9_code 4 (some FieldType.int) d 49 [(0, .ref (g.1 + 0)), (1, .int a0), (2, .int a1), (3, .int a2)] [.long r5, .int a2, .ref (g.1 + 0)] w Q
      refine am_callV (C := y_T_place.cls) (d2 := d - 1) [.int a2, .long r5] d_T_divide_49 mi_T_place wd_455 wd_457 ws_T_place (by decide) (el_T (show ay_sh 0 = _ from rfl)) rfl rfl (by omega) rfl rfl (Nat.le_of_ble_eq_true rfl) ?_
      refine Call.post ?_ (cf_T_place_ok (by omega) a2 r5  w _ h)
      rintro _ w7 ⟨r6, rfl, h⟩
      show wp g (fun _ => True) y_T_divide prog_1_method_9_code 4 (some FieldType.int) d 52 [(0, .ref (g.1 + 0)), (1, .int a0), (2, .int a1), (3, .int a2)] [.int r6] w7 Q
      exact am_ireturn d_T_divide_52 rfl rfl (hQ r6 w7 h)
    · have h := h.2 c21
      refine am_bipush (v := -2) d_T_divide_25 rfl ?_
      exact am_ireturn d_T_divide_27 rfl rfl (hQ (-2 : Int32) w h)
  · have h := h.2 c6
    refine am_bipush (v := -5) d_T_divide_9 rfl ?_
    exact am_ireturn d_T_divide_11 rfl rfl (hQ (-5 : Int32) w h)
theorem d_T_rest_0 : decode prog_1_method_10_code 0 = .ok (.iload_n 1, 1) := by decide +kernel
theorem d_T_rest_1 : decode prog_1_method_10_code 1 = .ok (.iload_n 2, 1) := by decide +kernel
theorem d_T_rest_2 : decode prog_1_method_10_code 2 = .ok (.iload_n 3, 1) := by decide +kernel
theorem d_T_rest_3 : decode prog_1_method_10_code 3 = .ok (.invokestatic 118, 3) := by decide +kernel
theorem d_T_rest_6 : decode prog_1_method_10_code 6 = .ok (.ifCond .ne 6, 3) := by decide +kernel
theorem d_T_rest_9 : decode prog_1_method_10_code 9 = .ok (.bipush (-5), 2) := by decide +kernel
theorem d_T_rest_11 : decode prog_1_method_10_code 11 = .ok (.ireturn, 1) := by decide +kernel
theorem d_T_rest_12 : decode prog_1_method_10_code 12 = .ok (.aload_n 0, 1) := by decide +kernel
theorem d_T_rest_13 : decode prog_1_method_10_code 13 = .ok (.getfield 19, 3) := by decide +kernel
theorem d_T_rest_16 : decode prog_1_method_10_code 16 = .ok (.iload_n 2, 1) := by decide +kernel
theorem d_T_rest_17 : decode prog_1_method_10_code 17 = .ok (.invokevirtual 122, 3) := by decide +kernel
theorem d_T_rest_20 : decode prog_1_method_10_code 20 = .ok (.lconst 0, 1) := by decide +kernel
theorem d_T_rest_21 : decode prog_1_method_10_code 21 = .ok (.lcmp, 1) := by decide +kernel
theorem d_T_rest_22 : decode prog_1_method_10_code 22 = .ok (.ifCond .ne 6, 3) := by decide +kernel
theorem d_T_rest_25 : decode prog_1_method_10_code 25 = .ok (.bipush (-2), 2) := by decide +kernel
theorem d_T_rest_27 : decode prog_1_method_10_code 27 = .ok (.ireturn, 1) := by decide +kernel
theorem d_T_rest_28 : decode prog_1_method_10_code 28 = .ok (.aload_n 0, 1) := by decide +kernel
theorem d_T_rest_29 : decode prog_1_method_10_code 29 = .ok (.iload_n 3, 1) := by decide +kernel
theorem d_T_rest_30 : decode prog_1_method_10_code 30 = .ok (.aload_n 0, 1) := by decide +kernel
theorem d_T_rest_31 : decode prog_1_method_10_code 31 = .ok (.getfield 19, 3) := by decide +kernel
theorem d_T_rest_34 : decode prog_1_method_10_code 34 = .ok (.iload_n 1, 1) := by decide +kernel
theorem d_T_rest_35 : decode prog_1_method_10_code 35 = .ok (.invokevirtual 122, 3) := by decide +kernel
theorem d_T_rest_38 : decode prog_1_method_10_code 38 = .ok (.aload_n 0, 1) := by decide +kernel
theorem d_T_rest_39 : decode prog_1_method_10_code 39 = .ok (.getfield 19, 3) := by decide +kernel
theorem d_T_rest_42 : decode prog_1_method_10_code 42 = .ok (.iload_n 2, 1) := by decide +kernel
theorem d_T_rest_43 : decode prog_1_method_10_code 43 = .ok (.invokevirtual 122, 3) := by decide +kernel
theorem d_T_rest_46 : decode prog_1_method_10_code 46 = .ok (.invokestatic 135, 3) := by decide +kernel
theorem d_T_rest_49 : decode prog_1_method_10_code 49 = .ok (.invokevirtual 114, 3) := by decide +kernel
theorem d_T_rest_52 : decode prog_1_method_10_code 52 = .ok (.ireturn, 1) := by decide +kernel
def cf_T_rest (a0 : Int32) (a1 : Int32) (a2 : Int32) (w : Wd) (P : Int32 → Wd → Prop) : Prop :=
  cf_T_arePlaces a0 a1 a2 (fun r1 => ((¬ r1 = 0 → cf_Store_polyAt a1 w (fun r2 => ((¬ r2 = (0 : Int64) → cf_Store_polyAt a0 w (fun r3 => cf_Store_polyAt a1 w (fun r4 => cf_Polys_remainder r3 r4 (fun r5 => cf_T_place a2 r5 w (fun r6 w7 => P r6 w7))))) ∧ (r2 = (0 : Int64) → P (-2 : Int32) w)))) ∧ (r1 = 0 → P (-5 : Int32) w)))
theorem cf_T_rest_ok {g : ayG} {d : Nat} (hd : 4 ≤ d) (a0 : Int32) (a1 : Int32) (a2 : Int32)  (w : Wd) (P : Int32 → Wd → Prop) (h : cf_T_rest a0 a1 a2 w P) : Call g y_T_rest prog_1_method_10_code 4 (some FieldType.int) d [.ref (g.1 + 0), .int a0, .int a1, .int a2] w (fun (r : Option Value) (w2 : Wd) => ∃ x, r = some (.int x) ∧ P x w2) := by
  unfold cf_T_rest at h
  refine am_enter mi_T_rest (Nat.le_of_ble_eq_true rfl) ?_
  have hQ : ∀ x w2, P x w2 → (fun (r : Option Value) (w2 : Wd) => ∃ x, r = some (.int x) ∧ P x w2) (some (.int x)) w2 := fun x w2 h => ⟨x, rfl, h⟩
  generalize (fun (r : Option Value) (w2 : Wd) => ∃ x, r = some (.int x) ∧ P x w2) = Q at hQ ⊢
  show wp g (fun _ => True) y_T_rest prog_1_method_10_code 4 (some FieldType.int) d 0 [(0, .ref (g.1 + 0)), (1, .int a0), (2, .int a1), (3, .int a2)] [] w Q
  refine am_iload_n d_T_rest_0 1 rfl ?_
  refine am_iload_n d_T_rest_1 2 rfl ?_
  refine am_iload_n d_T_rest_2 3 rfl ?_
  refine am_callS (d2 := d - 1) [.int a0, .int a1, .int a2] d_T_rest_3 mi_T_arePlaces wd_465 wd_466 (by omega) rfl rfl (Nat.le_of_ble_eq_true rfl) ?_
  refine Call.post ?_ (cf_T_arePlaces_ok (by omega) a0 a1 a2  w _ h)
  rintro _ _ ⟨r1, rfl, rfl, h⟩
  show wp g (fun _ => True) y_T_rest prog_1_method_10_code 4 (some FieldType.int) d 6 [(0, .ref (g.1 + 0)), (1, .int a0), (2, .int a1), (3, .int a2)] [.int r1] w Q
  refine am_if_ne (tgt := 12) d_T_rest_6 (by decide) (fun c6 => ?_) (fun c6 => ?_)
  · have h := h.1 c6
    refine am_aload_n d_T_rest_12 0 rfl ?_
    refine am_getf (T := F_T) (fs := ob_T g w 0) (C := R_T) (N := 9) (ci := 0) 1 d_T_rest_13 wd_195 rfl (by decide) (el_T (show ay_sh 0 = _ from rfl)) rfl i_T (by decide) rfl ?_
    refine am_iload_n d_T_rest_16 2 rfl ?_
    refine am_callV (C := "TriSplits$Store") (d2 := d - 1) [.int a1] d_T_rest_17 mi_Store_polyAt wd_468 wd_259 wd_260 (by decide) (el_Store (show ay_sh 6 = _ from rfl)) rfl rfl (by omega) rfl rfl (Nat.le_of_ble_eq_true rfl) ?_
    refine Call.post ?_ (cf_Store_polyAt_ok (by omega) a1  w _ h)
    rintro _ _ ⟨r2, rfl, rfl, h⟩
    show wp g (fun _ => True) y_T_rest prog_1_method_10_code 4 (some FieldType.int) d 20 [(0, .ref (g.1 + 0)), (1, .int a0), (2, .int a1), (3, .int a2)] [.long r2] w Q
    refine am_lconst (v := 0) d_T_rest_20 rfl ?_
    refine am_lif_ne (tgt := 28) d_T_rest_21 d_T_rest_22 (by decide) (fun c21 => ?_) (fun c21 => ?_)
    · have h := h.1 c21
      refine am_aload_n d_T_rest_28 0 rfl ?_
      refine am_iload_n d_T_rest_29 3 rfl ?_
      refine am_aload_n d_T_rest_30 0 rfl ?_
      refine am_getf (T := F_T) (fs := ob_T g w 0) (C := R_T) (N := 9) (ci := 0) 1 d_T_rest_31 wd_195 rfl (by decide) (el_T (show ay_sh 0 = _ from rfl)) rfl i_T (by decide) rfl ?_
      refine am_iload_n d_T_rest_34 1 rfl ?_
      refine am_callV (C := "TriSplits$Store") (d2 := d - 1) [.int a0] d_T_rest_35 mi_Store_polyAt wd_468 wd_259 wd_260 (by decide) (el_Store (show ay_sh 6 = _ from rfl)) rfl rfl (by omega) rfl rfl (Nat.le_of_ble_eq_true rfl) ?_
      refine Call.post ?_ (cf_Store_polyAt_ok (by omega) a0  w _ h)
      rintro _ _ ⟨r3, rfl, rfl, h⟩
      show wp g (fun _ => True) y_T_rest prog_1_method_10_code 4 (some FieldType.int) d 38 [(0, .ref (g.1 + 0)), (1, .int a0), (2, .int a1), (3, .int a2)] [.long r3, .int a2, .ref (g.1 + 0)] w Q
      refine am_aload_n d_T_rest_38 0 rfl ?_
      refine am_getf (T := F_T) (fs := ob_T g w 0) (C := R_T) (N := 9) (ci := 0) 1 d_T_rest_39 wd_195 rfl (by decide) (el_T (show ay_sh 0 = _ from rfl)) rfl i_T (by decide) rfl ?_
      refine am_iload_n d_T_rest_42 2 rfl ?_
      refine am_callV (C := "TriSplits$Store") (d2 := d - 1) [.int a1] d_T_rest_43 mi_Store_polyAt wd_468 wd_259 wd_260 (by decide) (el_Store (show ay_sh 6 = _ from rfl)) rfl rfl (by omega) rfl rfl (Nat.le_of_ble_eq_true rfl) ?_
      refine Call.post ?_ (cf_Store_polyAt_ok (by omega) a1  w _ h)
      rintro _ _ ⟨r4, rfl, rfl, h⟩
      show wp g (fun _ => True) y_T_rest prog_1_method_10_code 4 (some FieldType.int) d 46 [(0, .ref (g.1 + 0)), (1, .int a0), (2, .int a1), (3, .int a2)] [.long r4, .long r3, .int a2, .ref (g.1 + 0)] w Q
      refine am_callS (d2 := d - 1) [.long r3, .long r4] d_T_rest_46 mi_Polys_remainder wd_485 wd_486 (by omega) rfl rfl (Nat.le_of_ble_eq_true rfl) ?_
      refine Call.post ?_ (cf_Polys_remainder_ok (by omega) r3 r4  w _ h)
      rintro _ _ ⟨r5, rfl, rfl, h⟩
      show wp g (fun _ => True) y_T_rest prog_1_method_10_code 4 (some FieldType.int) d 49 [(0, .ref (g.1 + 0)), (1, .int a0), (2, .int a1), (3, .int a2)] [.long r5, .int a2, .ref (g.1 + 0)] w Q
      refine am_callV (C := y_T_place.cls) (d2 := d - 1) [.int a2, .long r5] d_T_rest_49 mi_T_place wd_455 wd_457 ws_T_place (by decide) (el_T (show ay_sh 0 = _ from rfl)) rfl rfl (by omega) rfl rfl (Nat.le_of_ble_eq_true rfl) ?_
      refine Call.post ?_ (cf_T_place_ok (by omega) a2 r5  w _ h)
      rintro _ w7 ⟨r6, rfl, h⟩
      show wp g (fun _ => True) y_T_rest prog_1_method_10_code 4 (some FieldType.int) d 52 [(0, .ref (g.1 + 0)), (1, .int a0), (2, .int a1), (3, .int a2)] [.int r6] w7 Q
      exact am_ireturn d_T_rest_52 rfl rfl (hQ r6 w7 h)
    · have h := h.2 c21
      refine am_bipush (v := -2) d_T_rest_25 rfl ?_
      exact am_ireturn d_T_rest_27 rfl rfl (hQ (-2 : Int32) w h)
  · have h := h.2 c6
    refine am_bipush (v := -5) d_T_rest_9 rfl ?_
    exact am_ireturn d_T_rest_11 rfl rfl (hQ (-5 : Int32) w h)
theorem d_T_common_0 : decode prog_1_method_11_code 0 = .ok (.iload_n 1, 1) := by decide +kernel
theorem d_T_common_1 : decode prog_1_method_11_code 1 = .ok (.iload_n 2, 1) := by decide +kernel
theorem d_T_common_2 : decode prog_1_method_11_code 2 = .ok (.iload_n 3, 1) := by decide +kernel
theorem d_T_common_3 : decode prog_1_method_11_code 3 = .ok (.invokestatic 118, 3) := by decide +kernel
theorem d_T_common_6 : decode prog_1_method_11_code 6 = .ok (.ifCond .ne 6, 3) := by decide +kernel
theorem d_T_common_9 : decode prog_1_method_11_code 9 = .ok (.bipush (-5), 2) := by decide +kernel
theorem d_T_common_11 : decode prog_1_method_11_code 11 = .ok (.ireturn, 1) := by decide +kernel
theorem d_T_common_12 : decode prog_1_method_11_code 12 = .ok (.aload_n 0, 1) := by decide +kernel
theorem d_T_common_13 : decode prog_1_method_11_code 13 = .ok (.iload_n 3, 1) := by decide +kernel
theorem d_T_common_14 : decode prog_1_method_11_code 14 = .ok (.aload_n 0, 1) := by decide +kernel
theorem d_T_common_15 : decode prog_1_method_11_code 15 = .ok (.getfield 19, 3) := by decide +kernel
theorem d_T_common_18 : decode prog_1_method_11_code 18 = .ok (.iload_n 1, 1) := by decide +kernel
theorem d_T_common_19 : decode prog_1_method_11_code 19 = .ok (.invokevirtual 122, 3) := by decide +kernel
theorem d_T_common_22 : decode prog_1_method_11_code 22 = .ok (.aload_n 0, 1) := by decide +kernel
theorem d_T_common_23 : decode prog_1_method_11_code 23 = .ok (.getfield 19, 3) := by decide +kernel
theorem d_T_common_26 : decode prog_1_method_11_code 26 = .ok (.iload_n 2, 1) := by decide +kernel
theorem d_T_common_27 : decode prog_1_method_11_code 27 = .ok (.invokevirtual 122, 3) := by decide +kernel
theorem d_T_common_30 : decode prog_1_method_11_code 30 = .ok (.invokestatic 138, 3) := by decide +kernel
theorem d_T_common_33 : decode prog_1_method_11_code 33 = .ok (.invokevirtual 114, 3) := by decide +kernel
theorem d_T_common_36 : decode prog_1_method_11_code 36 = .ok (.ireturn, 1) := by decide +kernel
def cf_T_common (a0 : Int32) (a1 : Int32) (a2 : Int32) (w : Wd) (P : Int32 → Wd → Prop) : Prop :=
  cf_T_arePlaces a0 a1 a2 (fun r1 => ((¬ r1 = 0 → cf_Store_polyAt a0 w (fun r2 => cf_Store_polyAt a1 w (fun r3 => cf_Polys_gcd r2 r3 (fun r4 => cf_T_place a2 r4 w (fun r5 w6 => P r5 w6))))) ∧ (r1 = 0 → P (-5 : Int32) w)))
theorem cf_T_common_ok {g : ayG} {d : Nat} (hd : 4 ≤ d) (a0 : Int32) (a1 : Int32) (a2 : Int32)  (w : Wd) (P : Int32 → Wd → Prop) (h : cf_T_common a0 a1 a2 w P) : Call g y_T_common prog_1_method_11_code 4 (some FieldType.int) d [.ref (g.1 + 0), .int a0, .int a1, .int a2] w (fun (r : Option Value) (w2 : Wd) => ∃ x, r = some (.int x) ∧ P x w2) := by
  unfold cf_T_common at h
  refine am_enter mi_T_common (Nat.le_of_ble_eq_true rfl) ?_
  have hQ : ∀ x w2, P x w2 → (fun (r : Option Value) (w2 : Wd) => ∃ x, r = some (.int x) ∧ P x w2) (some (.int x)) w2 := fun x w2 h => ⟨x, rfl, h⟩
  generalize (fun (r : Option Value) (w2 : Wd) => ∃ x, r = some (.int x) ∧ P x w2) = Q at hQ ⊢
  show wp g (fun _ => True) y_T_common prog_1_method_11_code 4 (some FieldType.int) d 0 [(0, .ref (g.1 + 0)), (1, .int a0), (2, .int a1), (3, .int a2)] [] w Q
  refine am_iload_n d_T_common_0 1 rfl ?_
  refine am_iload_n d_T_common_1 2 rfl ?_
  refine am_iload_n d_T_common_2 3 rfl ?_
  refine am_callS (d2 := d - 1) [.int a0, .int a1, .int a2] d_T_common_3 mi_T_arePlaces wd_465 wd_466 (by omega) rfl rfl (Nat.le_of_ble_eq_true rfl) ?_
  refine Call.post ?_ (cf_T_arePlaces_ok (by omega) a0 a1 a2  w _ h)
  rintro _ _ ⟨r1, rfl, rfl, h⟩
  show wp g (fun _ => True) y_T_common prog_1_method_11_code 4 (some FieldType.int) d 6 [(0, .ref (g.1 + 0)), (1, .int a0), (2, .int a1), (3, .int a2)] [.int r1] w Q
  refine am_if_ne (tgt := 12) d_T_common_6 (by decide) (fun c6 => ?_) (fun c6 => ?_)
  · have h := h.1 c6
    refine am_aload_n d_T_common_12 0 rfl ?_
    refine am_iload_n d_T_common_13 3 rfl ?_
    refine am_aload_n d_T_common_14 0 rfl ?_
    refine am_getf (T := F_T) (fs := ob_T g w 0) (C := R_T) (N := 9) (ci := 0) 1 d_T_common_15 wd_195 rfl (by decide) (el_T (show ay_sh 0 = _ from rfl)) rfl i_T (by decide) rfl ?_
    refine am_iload_n d_T_common_18 1 rfl ?_
    refine am_callV (C := "TriSplits$Store") (d2 := d - 1) [.int a0] d_T_common_19 mi_Store_polyAt wd_468 wd_259 wd_260 (by decide) (el_Store (show ay_sh 6 = _ from rfl)) rfl rfl (by omega) rfl rfl (Nat.le_of_ble_eq_true rfl) ?_
    refine Call.post ?_ (cf_Store_polyAt_ok (by omega) a0  w _ h)
    rintro _ _ ⟨r2, rfl, rfl, h⟩
    show wp g (fun _ => True) y_T_common prog_1_method_11_code 4 (some FieldType.int) d 22 [(0, .ref (g.1 + 0)), (1, .int a0), (2, .int a1), (3, .int a2)] [.long r2, .int a2, .ref (g.1 + 0)] w Q
    refine am_aload_n d_T_common_22 0 rfl ?_
    refine am_getf (T := F_T) (fs := ob_T g w 0) (C := R_T) (N := 9) (ci := 0) 1 d_T_common_23 wd_195 rfl (by decide) (el_T (show ay_sh 0 = _ from rfl)) rfl i_T (by decide) rfl ?_
    refine am_iload_n d_T_common_26 2 rfl ?_
    refine am_callV (C := "TriSplits$Store") (d2 := d - 1) [.int a1] d_T_common_27 mi_Store_polyAt wd_468 wd_259 wd_260 (by decide) (el_Store (show ay_sh 6 = _ from rfl)) rfl rfl (by omega) rfl rfl (Nat.le_of_ble_eq_true rfl) ?_
    refine Call.post ?_ (cf_Store_polyAt_ok (by omega) a1  w _ h)
    rintro _ _ ⟨r3, rfl, rfl, h⟩
    show wp g (fun _ => True) y_T_common prog_1_method_11_code 4 (some FieldType.int) d 30 [(0, .ref (g.1 + 0)), (1, .int a0), (2, .int a1), (3, .int a2)] [.long r3, .long r2, .int a2, .ref (g.1 + 0)] w Q
    refine am_callS (d2 := d - 1) [.long r2, .long r3] d_T_common_30 mi_Polys_gcd wd_492 wd_493 (by omega) rfl rfl (Nat.le_of_ble_eq_true rfl) ?_
    refine Call.post ?_ (cf_Polys_gcd_ok (by omega) r2 r3  w _ h)
    rintro _ _ ⟨r4, rfl, rfl, h⟩
    show wp g (fun _ => True) y_T_common prog_1_method_11_code 4 (some FieldType.int) d 33 [(0, .ref (g.1 + 0)), (1, .int a0), (2, .int a1), (3, .int a2)] [.long r4, .int a2, .ref (g.1 + 0)] w Q
    refine am_callV (C := y_T_place.cls) (d2 := d - 1) [.int a2, .long r4] d_T_common_33 mi_T_place wd_455 wd_457 ws_T_place (by decide) (el_T (show ay_sh 0 = _ from rfl)) rfl rfl (by omega) rfl rfl (Nat.le_of_ble_eq_true rfl) ?_
    refine Call.post ?_ (cf_T_place_ok (by omega) a2 r4  w _ h)
    rintro _ w6 ⟨r5, rfl, h⟩
    show wp g (fun _ => True) y_T_common prog_1_method_11_code 4 (some FieldType.int) d 36 [(0, .ref (g.1 + 0)), (1, .int a0), (2, .int a1), (3, .int a2)] [.int r5] w6 Q
    exact am_ireturn d_T_common_36 rfl rfl (hQ r5 w6 h)
  · have h := h.2 c6
    refine am_bipush (v := -5) d_T_common_9 rfl ?_
    exact am_ireturn d_T_common_11 rfl rfl (hQ (-5 : Int32) w h)
theorem d_T_isModulus_0 : decode prog_1_method_53_code 0 = .ok (.aload_n 0, 1) := by decide +kernel
theorem d_T_isModulus_1 : decode prog_1_method_53_code 1 = .ok (.getfield 19, 3) := by decide +kernel
theorem d_T_isModulus_4 : decode prog_1_method_53_code 4 = .ok (.iload_n 1, 1) := by decide +kernel
theorem d_T_isModulus_5 : decode prog_1_method_53_code 5 = .ok (.invokevirtual 122, 3) := by decide +kernel
theorem d_T_isModulus_8 : decode prog_1_method_53_code 8 = .ok (.invokestatic 158, 3) := by decide +kernel
theorem d_T_isModulus_11 : decode prog_1_method_53_code 11 = .ok (.iconst 1, 1) := by decide +kernel
theorem d_T_isModulus_12 : decode prog_1_method_53_code 12 = .ok (.if_icmp .lt 7, 3) := by decide +kernel
theorem d_T_isModulus_15 : decode prog_1_method_53_code 15 = .ok (.iconst 1, 1) := by decide +kernel
theorem d_T_isModulus_16 : decode prog_1_method_53_code 16 = .ok (.goto 4, 3) := by decide +kernel
theorem d_T_isModulus_19 : decode prog_1_method_53_code 19 = .ok (.iconst 0, 1) := by decide +kernel
theorem d_T_isModulus_20 : decode prog_1_method_53_code 20 = .ok (.ireturn, 1) := by decide +kernel
def cf_T_isModulus (a0 : Int32) (w : Wd) (P : Int32 → Prop) : Prop :=
  cf_Store_polyAt a0 w (fun r1 => cf_Polys_degree r1 (fun r2 => ((r2 < (1 : Int32) → P (0 : Int32)) ∧ (¬ r2 < (1 : Int32) → P (1 : Int32)))))
theorem cf_T_isModulus_ok {g : ayG} {d : Nat} (hd : 3 ≤ d) (a0 : Int32)  (w : Wd) (P : Int32 → Prop) (h : cf_T_isModulus a0 w P) : Call g y_T_isModulus prog_1_method_53_code 2 (some FieldType.boolean) d [.ref (g.1 + 0), .int a0] w (fun (r : Option Value) (w2 : Wd) => ∃ x, r = some (.int x) ∧ w = w2 ∧ P x) := by
  unfold cf_T_isModulus at h
  refine am_enter mi_T_isModulus (Nat.le_of_ble_eq_true rfl) ?_
  have hQ : ∀ x, P x → (fun (r : Option Value) (w2 : Wd) => ∃ x, r = some (.int x) ∧ w = w2 ∧ P x) (some (.int x)) w := fun x h => ⟨x, rfl, rfl, h⟩
  generalize (fun (r : Option Value) (w2 : Wd) => ∃ x, r = some (.int x) ∧ w = w2 ∧ P x) = Q at hQ ⊢
  show wp g (fun _ => True) y_T_isModulus prog_1_method_53_code 2 (some FieldType.boolean) d 0 [(0, .ref (g.1 + 0)), (1, .int a0)] [] w Q
  refine am_aload_n d_T_isModulus_0 0 rfl ?_
  refine am_getf (T := F_T) (fs := ob_T g w 0) (C := R_T) (N := 9) (ci := 0) 1 d_T_isModulus_1 wd_195 rfl (by decide) (el_T (show ay_sh 0 = _ from rfl)) rfl i_T (by decide) rfl ?_
  refine am_iload_n d_T_isModulus_4 1 rfl ?_
  refine am_callV (C := "TriSplits$Store") (d2 := d - 1) [.int a0] d_T_isModulus_5 mi_Store_polyAt wd_468 wd_259 wd_260 (by decide) (el_Store (show ay_sh 6 = _ from rfl)) rfl rfl (by omega) rfl rfl (Nat.le_of_ble_eq_true rfl) ?_
  refine Call.post ?_ (cf_Store_polyAt_ok (by omega) a0  w _ h)
  rintro _ _ ⟨r1, rfl, rfl, h⟩
  show wp g (fun _ => True) y_T_isModulus prog_1_method_53_code 2 (some FieldType.boolean) d 8 [(0, .ref (g.1 + 0)), (1, .int a0)] [.long r1] w Q
  refine am_callS (d2 := d - 1) [.long r1] d_T_isModulus_8 mi_Polys_degree wd_460 wd_391 (by omega) rfl rfl (Nat.le_of_ble_eq_true rfl) ?_
  refine Call.post ?_ (cf_Polys_degree_ok (by omega) r1  w _ h)
  rintro _ _ ⟨r2, rfl, rfl, h⟩
  show wp g (fun _ => True) y_T_isModulus prog_1_method_53_code 2 (some FieldType.boolean) d 11 [(0, .ref (g.1 + 0)), (1, .int a0)] [.int r2] w Q
  refine am_iconst (v := 1) d_T_isModulus_11 rfl ?_
  refine am_icmp_lt (tgt := 19) d_T_isModulus_12 (by decide) (fun c12 => ?_) (fun c12 => ?_)
  · have h := h.1 c12
    refine am_iconst (v := 0) d_T_isModulus_19 rfl ?_
    exact am_ireturn d_T_isModulus_20 rfl rfl (hQ (0 : Int32) h)
  · have h := h.2 c12
    refine am_iconst (v := 1) d_T_isModulus_15 rfl ?_
    refine am_goto (tgt := 20) d_T_isModulus_16 (by decide) ?_
    exact am_ireturn d_T_isModulus_20 rfl rfl (hQ (1 : Int32) h)
theorem d_T_power_0 : decode prog_1_method_12_code 0 = .ok (.iload_n 1, 1) := by decide +kernel
theorem d_T_power_1 : decode prog_1_method_12_code 1 = .ok (.iload 4, 2) := by decide +kernel
theorem d_T_power_3 : decode prog_1_method_12_code 3 = .ok (.iload 5, 2) := by decide +kernel
theorem d_T_power_5 : decode prog_1_method_12_code 5 = .ok (.invokestatic 118, 3) := by decide +kernel
theorem d_T_power_8 : decode prog_1_method_12_code 8 = .ok (.ifCond .eq 9, 3) := by decide +kernel
theorem d_T_power_11 : decode prog_1_method_12_code 11 = .ok (.lload_n 2, 1) := by decide +kernel
theorem d_T_power_12 : decode prog_1_method_12_code 12 = .ok (.lconst 0, 1) := by decide +kernel
theorem d_T_power_13 : decode prog_1_method_12_code 13 = .ok (.lcmp, 1) := by decide +kernel
theorem d_T_power_14 : decode prog_1_method_12_code 14 = .ok (.ifCond .ge 6, 3) := by decide +kernel
theorem d_T_power_17 : decode prog_1_method_12_code 17 = .ok (.bipush (-5), 2) := by decide +kernel
theorem d_T_power_19 : decode prog_1_method_12_code 19 = .ok (.ireturn, 1) := by decide +kernel
theorem d_T_power_20 : decode prog_1_method_12_code 20 = .ok (.aload_n 0, 1) := by decide +kernel
theorem d_T_power_21 : decode prog_1_method_12_code 21 = .ok (.iload 4, 2) := by decide +kernel
theorem d_T_power_23 : decode prog_1_method_12_code 23 = .ok (.invokevirtual 141, 3) := by decide +kernel
theorem d_T_power_26 : decode prog_1_method_12_code 26 = .ok (.ifCond .ne 6, 3) := by decide +kernel
theorem d_T_power_29 : decode prog_1_method_12_code 29 = .ok (.bipush (-2), 2) := by decide +kernel
theorem d_T_power_31 : decode prog_1_method_12_code 31 = .ok (.ireturn, 1) := by decide +kernel
theorem d_T_power_32 : decode prog_1_method_12_code 32 = .ok (.aload_n 0, 1) := by decide +kernel
theorem d_T_power_33 : decode prog_1_method_12_code 33 = .ok (.iload 5, 2) := by decide +kernel
theorem d_T_power_35 : decode prog_1_method_12_code 35 = .ok (.aload_n 0, 1) := by decide +kernel
theorem d_T_power_36 : decode prog_1_method_12_code 36 = .ok (.getfield 19, 3) := by decide +kernel
theorem d_T_power_39 : decode prog_1_method_12_code 39 = .ok (.iload_n 1, 1) := by decide +kernel
theorem d_T_power_40 : decode prog_1_method_12_code 40 = .ok (.invokevirtual 122, 3) := by decide +kernel
theorem d_T_power_43 : decode prog_1_method_12_code 43 = .ok (.lload_n 2, 1) := by decide +kernel
theorem d_T_power_44 : decode prog_1_method_12_code 44 = .ok (.aload_n 0, 1) := by decide +kernel
theorem d_T_power_45 : decode prog_1_method_12_code 45 = .ok (.getfield 19, 3) := by decide +kernel
theorem d_T_power_48 : decode prog_1_method_12_code 48 = .ok (.iload 4, 2) := by decide +kernel
theorem d_T_power_50 : decode prog_1_method_12_code 50 = .ok (.invokevirtual 122, 3) := by decide +kernel
theorem d_T_power_53 : decode prog_1_method_12_code 53 = .ok (.invokestatic 144, 3) := by decide +kernel
theorem d_T_power_56 : decode prog_1_method_12_code 56 = .ok (.invokevirtual 114, 3) := by decide +kernel
theorem d_T_power_59 : decode prog_1_method_12_code 59 = .ok (.ireturn, 1) := by decide +kernel
def cf_T_power (a0 : Int32) (a1 : Int64) (a2 : Int32) (a3 : Int32) (w : Wd) (P : Int32 → Wd → Prop) : Prop :=
  cf_T_arePlaces a0 a2 a3 (fun r1 => ((r1 = 0 → P (-5 : Int32) w) ∧ (¬ r1 = 0 → (((0 : Int64) ≤ a1 → cf_T_isModulus a2 w (fun r2 => ((¬ r2 = 0 → cf_Store_polyAt a0 w (fun r3 => cf_Store_polyAt a2 w (fun r4 => cf_Polys_powerBy r3 a1 r4 (fun r5 => cf_T_place a3 r5 w (fun r6 w7 => P r6 w7))))) ∧ (r2 = 0 → P (-2 : Int32) w)))) ∧ (¬ (0 : Int64) ≤ a1 → P (-5 : Int32) w)))))
theorem cf_T_power_ok {g : ayG} {d : Nat} (hd : 4 ≤ d) (a0 : Int32) (a1 : Int64) (a2 : Int32) (a3 : Int32)  (w : Wd) (P : Int32 → Wd → Prop) (h : cf_T_power a0 a1 a2 a3 w P) : Call g y_T_power prog_1_method_12_code 6 (some FieldType.int) d [.ref (g.1 + 0), .int a0, .long a1, .int a2, .int a3] w (fun (r : Option Value) (w2 : Wd) => ∃ x, r = some (.int x) ∧ P x w2) := by
  unfold cf_T_power at h
  refine am_enter mi_T_power (Nat.le_of_ble_eq_true rfl) ?_
  have hQ : ∀ x w2, P x w2 → (fun (r : Option Value) (w2 : Wd) => ∃ x, r = some (.int x) ∧ P x w2) (some (.int x)) w2 := fun x w2 h => ⟨x, rfl, h⟩
  generalize (fun (r : Option Value) (w2 : Wd) => ∃ x, r = some (.int x) ∧ P x w2) = Q at hQ ⊢
  show wp g (fun _ => True) y_T_power prog_1_method_12_code 6 (some FieldType.int) d 0 [(0, .ref (g.1 + 0)), (1, .int a0), (2, .long a1), (4, .int a2), (5, .int a3)] [] w Q
  refine am_iload_n d_T_power_0 1 rfl ?_
  refine am_iload d_T_power_1 3 rfl ?_
  refine am_iload d_T_power_3 4 rfl ?_
  refine am_callS (d2 := d - 1) [.int a0, .int a2, .int a3] d_T_power_5 mi_T_arePlaces wd_465 wd_466 (by omega) rfl rfl (Nat.le_of_ble_eq_true rfl) ?_
  refine Call.post ?_ (cf_T_arePlaces_ok (by omega) a0 a2 a3  w _ h)
  rintro _ _ ⟨r1, rfl, rfl, h⟩
  show wp g (fun _ => True) y_T_power prog_1_method_12_code 6 (some FieldType.int) d 8 [(0, .ref (g.1 + 0)), (1, .int a0), (2, .long a1), (4, .int a2), (5, .int a3)] [.int r1] w Q
  refine am_if_eq (tgt := 17) d_T_power_8 (by decide) (fun c8 => ?_) (fun c8 => ?_)
  · have h := h.1 c8
    refine am_bipush (v := -5) d_T_power_17 rfl ?_
    exact am_ireturn d_T_power_19 rfl rfl (hQ (-5 : Int32) w h)
  · have h := h.2 c8
    refine am_lload_n d_T_power_11 2 rfl ?_
    refine am_lconst (v := 0) d_T_power_12 rfl ?_
    refine am_lif_ge (tgt := 20) d_T_power_13 d_T_power_14 (by decide) (fun c13 => ?_) (fun c13 => ?_)
    · have h := h.1 c13
      refine am_aload_n d_T_power_20 0 rfl ?_
      refine am_iload d_T_power_21 3 rfl ?_
      refine am_callV (C := y_T_isModulus.cls) (d2 := d - 1) [.int a2] d_T_power_23 mi_T_isModulus wd_500 wd_502 ws_T_isModulus (by decide) (el_T (show ay_sh 0 = _ from rfl)) rfl rfl (by omega) rfl rfl (Nat.le_of_ble_eq_true rfl) ?_
      refine Call.post ?_ (cf_T_isModulus_ok (by omega) a2  w _ h)
      rintro _ _ ⟨r2, rfl, rfl, h⟩
      show wp g (fun _ => True) y_T_power prog_1_method_12_code 6 (some FieldType.int) d 26 [(0, .ref (g.1 + 0)), (1, .int a0), (2, .long a1), (4, .int a2), (5, .int a3)] [.int r2] w Q
      refine am_if_ne (tgt := 32) d_T_power_26 (by decide) (fun c26 => ?_) (fun c26 => ?_)
      · have h := h.1 c26
        refine am_aload_n d_T_power_32 0 rfl ?_
        refine am_iload d_T_power_33 4 rfl ?_
        refine am_aload_n d_T_power_35 0 rfl ?_
        refine am_getf (T := F_T) (fs := ob_T g w 0) (C := R_T) (N := 9) (ci := 0) 1 d_T_power_36 wd_195 rfl (by decide) (el_T (show ay_sh 0 = _ from rfl)) rfl i_T (by decide) rfl ?_
        refine am_iload_n d_T_power_39 1 rfl ?_
        refine am_callV (C := "TriSplits$Store") (d2 := d - 1) [.int a0] d_T_power_40 mi_Store_polyAt wd_468 wd_259 wd_260 (by decide) (el_Store (show ay_sh 6 = _ from rfl)) rfl rfl (by omega) rfl rfl (Nat.le_of_ble_eq_true rfl) ?_
        refine Call.post ?_ (cf_Store_polyAt_ok (by omega) a0  w _ h)
        rintro _ _ ⟨r3, rfl, rfl, h⟩
        show wp g (fun _ => True) y_T_power prog_1_method_12_code 6 (some FieldType.int) d 43 [(0, .ref (g.1 + 0)), (1, .int a0), (2, .long a1), (4, .int a2), (5, .int a3)] [.long r3, .int a3, .ref (g.1 + 0)] w Q
        refine am_lload_n d_T_power_43 2 rfl ?_
        refine am_aload_n d_T_power_44 0 rfl ?_
        refine am_getf (T := F_T) (fs := ob_T g w 0) (C := R_T) (N := 9) (ci := 0) 1 d_T_power_45 wd_195 rfl (by decide) (el_T (show ay_sh 0 = _ from rfl)) rfl i_T (by decide) rfl ?_
        refine am_iload d_T_power_48 3 rfl ?_
        refine am_callV (C := "TriSplits$Store") (d2 := d - 1) [.int a2] d_T_power_50 mi_Store_polyAt wd_468 wd_259 wd_260 (by decide) (el_Store (show ay_sh 6 = _ from rfl)) rfl rfl (by omega) rfl rfl (Nat.le_of_ble_eq_true rfl) ?_
        refine Call.post ?_ (cf_Store_polyAt_ok (by omega) a2  w _ h)
        rintro _ _ ⟨r4, rfl, rfl, h⟩
        show wp g (fun _ => True) y_T_power prog_1_method_12_code 6 (some FieldType.int) d 53 [(0, .ref (g.1 + 0)), (1, .int a0), (2, .long a1), (4, .int a2), (5, .int a3)] [.long r4, .long a1, .long r3, .int a3, .ref (g.1 + 0)] w Q
        refine am_callS (d2 := d - 1) [.long r3, .long a1, .long r4] d_T_power_53 mi_Polys_powerBy wd_504 wd_505 (by omega) rfl rfl (Nat.le_of_ble_eq_true rfl) ?_
        refine Call.post ?_ (cf_Polys_powerBy_ok (by omega) r3 a1 r4  w _ h)
        rintro _ _ ⟨r5, rfl, rfl, h⟩
        show wp g (fun _ => True) y_T_power prog_1_method_12_code 6 (some FieldType.int) d 56 [(0, .ref (g.1 + 0)), (1, .int a0), (2, .long a1), (4, .int a2), (5, .int a3)] [.long r5, .int a3, .ref (g.1 + 0)] w Q
        refine am_callV (C := y_T_place.cls) (d2 := d - 1) [.int a3, .long r5] d_T_power_56 mi_T_place wd_455 wd_457 ws_T_place (by decide) (el_T (show ay_sh 0 = _ from rfl)) rfl rfl (by omega) rfl rfl (Nat.le_of_ble_eq_true rfl) ?_
        refine Call.post ?_ (cf_T_place_ok (by omega) a3 r5  w _ h)
        rintro _ w7 ⟨r6, rfl, h⟩
        show wp g (fun _ => True) y_T_power prog_1_method_12_code 6 (some FieldType.int) d 59 [(0, .ref (g.1 + 0)), (1, .int a0), (2, .long a1), (4, .int a2), (5, .int a3)] [.int r6] w7 Q
        exact am_ireturn d_T_power_59 rfl rfl (hQ r6 w7 h)
      · have h := h.2 c26
        refine am_bipush (v := -2) d_T_power_29 rfl ?_
        exact am_ireturn d_T_power_31 rfl rfl (hQ (-2 : Int32) w h)
    · have h := h.2 c13
      refine am_bipush (v := -5) d_T_power_17 rfl ?_
      exact am_ireturn d_T_power_19 rfl rfl (hQ (-5 : Int32) w h)
theorem d_T_moved_0 : decode prog_1_method_13_code 0 = .ok (.iload_n 1, 1) := by decide +kernel
theorem d_T_moved_1 : decode prog_1_method_13_code 1 = .ok (.iload_n 2, 1) := by decide +kernel
theorem d_T_moved_2 : decode prog_1_method_13_code 2 = .ok (.iload_n 2, 1) := by decide +kernel
theorem d_T_moved_3 : decode prog_1_method_13_code 3 = .ok (.invokestatic 118, 3) := by decide +kernel
theorem d_T_moved_6 : decode prog_1_method_13_code 6 = .ok (.ifCond .ne 6, 3) := by decide +kernel
theorem d_T_moved_9 : decode prog_1_method_13_code 9 = .ok (.bipush (-5), 2) := by decide +kernel
theorem d_T_moved_11 : decode prog_1_method_13_code 11 = .ok (.ireturn, 1) := by decide +kernel
theorem d_T_moved_12 : decode prog_1_method_13_code 12 = .ok (.aload_n 0, 1) := by decide +kernel
theorem d_T_moved_13 : decode prog_1_method_13_code 13 = .ok (.iload_n 2, 1) := by decide +kernel
theorem d_T_moved_14 : decode prog_1_method_13_code 14 = .ok (.aload_n 0, 1) := by decide +kernel
theorem d_T_moved_15 : decode prog_1_method_13_code 15 = .ok (.getfield 19, 3) := by decide +kernel
theorem d_T_moved_18 : decode prog_1_method_13_code 18 = .ok (.iload_n 1, 1) := by decide +kernel
theorem d_T_moved_19 : decode prog_1_method_13_code 19 = .ok (.invokevirtual 122, 3) := by decide +kernel
theorem d_T_moved_22 : decode prog_1_method_13_code 22 = .ok (.invokestatic 148, 3) := by decide +kernel
theorem d_T_moved_25 : decode prog_1_method_13_code 25 = .ok (.invokevirtual 114, 3) := by decide +kernel
theorem d_T_moved_28 : decode prog_1_method_13_code 28 = .ok (.ireturn, 1) := by decide +kernel
def cf_T_moved (a0 : Int32) (a1 : Int32) (w : Wd) (P : Int32 → Wd → Prop) : Prop :=
  cf_T_arePlaces a0 a1 a1 (fun r1 => ((¬ r1 = 0 → cf_Store_polyAt a0 w (fun r2 => cf_Polys_shifted r2 (fun r3 => cf_T_place a1 r3 w (fun r4 w5 => P r4 w5)))) ∧ (r1 = 0 → P (-5 : Int32) w)))
theorem cf_T_moved_ok {g : ayG} {d : Nat} (hd : 4 ≤ d) (a0 : Int32) (a1 : Int32)  (w : Wd) (P : Int32 → Wd → Prop) (h : cf_T_moved a0 a1 w P) : Call g y_T_moved prog_1_method_13_code 3 (some FieldType.int) d [.ref (g.1 + 0), .int a0, .int a1] w (fun (r : Option Value) (w2 : Wd) => ∃ x, r = some (.int x) ∧ P x w2) := by
  unfold cf_T_moved at h
  refine am_enter mi_T_moved (Nat.le_of_ble_eq_true rfl) ?_
  have hQ : ∀ x w2, P x w2 → (fun (r : Option Value) (w2 : Wd) => ∃ x, r = some (.int x) ∧ P x w2) (some (.int x)) w2 := fun x w2 h => ⟨x, rfl, h⟩
  generalize (fun (r : Option Value) (w2 : Wd) => ∃ x, r = some (.int x) ∧ P x w2) = Q at hQ ⊢
  show wp g (fun _ => True) y_T_moved prog_1_method_13_code 3 (some FieldType.int) d 0 [(0, .ref (g.1 + 0)), (1, .int a0), (2, .int a1)] [] w Q
  refine am_iload_n d_T_moved_0 1 rfl ?_
  refine am_iload_n d_T_moved_1 2 rfl ?_
  refine am_iload_n d_T_moved_2 2 rfl ?_
  refine am_callS (d2 := d - 1) [.int a0, .int a1, .int a1] d_T_moved_3 mi_T_arePlaces wd_465 wd_466 (by omega) rfl rfl (Nat.le_of_ble_eq_true rfl) ?_
  refine Call.post ?_ (cf_T_arePlaces_ok (by omega) a0 a1 a1  w _ h)
  rintro _ _ ⟨r1, rfl, rfl, h⟩
  show wp g (fun _ => True) y_T_moved prog_1_method_13_code 3 (some FieldType.int) d 6 [(0, .ref (g.1 + 0)), (1, .int a0), (2, .int a1)] [.int r1] w Q
  refine am_if_ne (tgt := 12) d_T_moved_6 (by decide) (fun c6 => ?_) (fun c6 => ?_)
  · have h := h.1 c6
    refine am_aload_n d_T_moved_12 0 rfl ?_
    refine am_iload_n d_T_moved_13 2 rfl ?_
    refine am_aload_n d_T_moved_14 0 rfl ?_
    refine am_getf (T := F_T) (fs := ob_T g w 0) (C := R_T) (N := 9) (ci := 0) 1 d_T_moved_15 wd_195 rfl (by decide) (el_T (show ay_sh 0 = _ from rfl)) rfl i_T (by decide) rfl ?_
    refine am_iload_n d_T_moved_18 1 rfl ?_
    refine am_callV (C := "TriSplits$Store") (d2 := d - 1) [.int a0] d_T_moved_19 mi_Store_polyAt wd_468 wd_259 wd_260 (by decide) (el_Store (show ay_sh 6 = _ from rfl)) rfl rfl (by omega) rfl rfl (Nat.le_of_ble_eq_true rfl) ?_
    refine Call.post ?_ (cf_Store_polyAt_ok (by omega) a0  w _ h)
    rintro _ _ ⟨r2, rfl, rfl, h⟩
    show wp g (fun _ => True) y_T_moved prog_1_method_13_code 3 (some FieldType.int) d 22 [(0, .ref (g.1 + 0)), (1, .int a0), (2, .int a1)] [.long r2, .int a1, .ref (g.1 + 0)] w Q
    refine am_callS (d2 := d - 1) [.long r2] d_T_moved_22 mi_Polys_shifted wd_519 wd_520 (by omega) rfl rfl (Nat.le_of_ble_eq_true rfl) ?_
    refine Call.post ?_ (cf_Polys_shifted_ok (by omega) r2  w _ h)
    rintro _ _ ⟨r3, rfl, rfl, h⟩
    show wp g (fun _ => True) y_T_moved prog_1_method_13_code 3 (some FieldType.int) d 25 [(0, .ref (g.1 + 0)), (1, .int a0), (2, .int a1)] [.long r3, .int a1, .ref (g.1 + 0)] w Q
    refine am_callV (C := y_T_place.cls) (d2 := d - 1) [.int a1, .long r3] d_T_moved_25 mi_T_place wd_455 wd_457 ws_T_place (by decide) (el_T (show ay_sh 0 = _ from rfl)) rfl rfl (by omega) rfl rfl (Nat.le_of_ble_eq_true rfl) ?_
    refine Call.post ?_ (cf_T_place_ok (by omega) a1 r3  w _ h)
    rintro _ w5 ⟨r4, rfl, h⟩
    show wp g (fun _ => True) y_T_moved prog_1_method_13_code 3 (some FieldType.int) d 28 [(0, .ref (g.1 + 0)), (1, .int a0), (2, .int a1)] [.int r4] w5 Q
    exact am_ireturn d_T_moved_28 rfl rfl (hQ r4 w5 h)
  · have h := h.2 c6
    refine am_bipush (v := -5) d_T_moved_9 rfl ?_
    exact am_ireturn d_T_moved_11 rfl rfl (hQ (-5 : Int32) w h)
theorem d_T_inside_0 : decode prog_1_method_14_code 0 = .ok (.iload_n 1, 1) := by decide +kernel
theorem d_T_inside_1 : decode prog_1_method_14_code 1 = .ok (.iload_n 2, 1) := by decide +kernel
theorem d_T_inside_2 : decode prog_1_method_14_code 2 = .ok (.iload 4, 2) := by decide +kernel
theorem d_T_inside_4 : decode prog_1_method_14_code 4 = .ok (.invokestatic 118, 3) := by decide +kernel
theorem d_T_inside_7 : decode prog_1_method_14_code 7 = .ok (.ifCond .eq 10, 3) := by decide +kernel
theorem d_T_inside_10 : decode prog_1_method_14_code 10 = .ok (.iload_n 3, 1) := by decide +kernel
theorem d_T_inside_11 : decode prog_1_method_14_code 11 = .ok (.invokestatic 109, 3) := by decide +kernel
theorem d_T_inside_14 : decode prog_1_method_14_code 14 = .ok (.ifCond .ne 6, 3) := by decide +kernel
theorem d_T_inside_17 : decode prog_1_method_14_code 17 = .ok (.bipush (-5), 2) := by decide +kernel
theorem d_T_inside_19 : decode prog_1_method_14_code 19 = .ok (.ireturn, 1) := by decide +kernel
theorem d_T_inside_20 : decode prog_1_method_14_code 20 = .ok (.aload_n 0, 1) := by decide +kernel
theorem d_T_inside_21 : decode prog_1_method_14_code 21 = .ok (.iload_n 3, 1) := by decide +kernel
theorem d_T_inside_22 : decode prog_1_method_14_code 22 = .ok (.invokevirtual 141, 3) := by decide +kernel
theorem d_T_inside_25 : decode prog_1_method_14_code 25 = .ok (.ifCond .ne 6, 3) := by decide +kernel
theorem d_T_inside_28 : decode prog_1_method_14_code 28 = .ok (.bipush (-2), 2) := by decide +kernel
theorem d_T_inside_30 : decode prog_1_method_14_code 30 = .ok (.ireturn, 1) := by decide +kernel
theorem d_T_inside_31 : decode prog_1_method_14_code 31 = .ok (.aload_n 0, 1) := by decide +kernel
theorem d_T_inside_32 : decode prog_1_method_14_code 32 = .ok (.iload 4, 2) := by decide +kernel
theorem d_T_inside_34 : decode prog_1_method_14_code 34 = .ok (.aload_n 0, 1) := by decide +kernel
theorem d_T_inside_35 : decode prog_1_method_14_code 35 = .ok (.getfield 19, 3) := by decide +kernel
theorem d_T_inside_38 : decode prog_1_method_14_code 38 = .ok (.iload_n 1, 1) := by decide +kernel
theorem d_T_inside_39 : decode prog_1_method_14_code 39 = .ok (.invokevirtual 122, 3) := by decide +kernel
theorem d_T_inside_42 : decode prog_1_method_14_code 42 = .ok (.aload_n 0, 1) := by decide +kernel
theorem d_T_inside_43 : decode prog_1_method_14_code 43 = .ok (.getfield 19, 3) := by decide +kernel
theorem d_T_inside_46 : decode prog_1_method_14_code 46 = .ok (.iload_n 2, 1) := by decide +kernel
theorem d_T_inside_47 : decode prog_1_method_14_code 47 = .ok (.invokevirtual 122, 3) := by decide +kernel
theorem d_T_inside_50 : decode prog_1_method_14_code 50 = .ok (.aload_n 0, 1) := by decide +kernel
theorem d_T_inside_51 : decode prog_1_method_14_code 51 = .ok (.getfield 19, 3) := by decide +kernel
theorem d_T_inside_54 : decode prog_1_method_14_code 54 = .ok (.iload_n 3, 1) := by decide +kernel
theorem d_T_inside_55 : decode prog_1_method_14_code 55 = .ok (.invokevirtual 122, 3) := by decide +kernel
theorem d_T_inside_58 : decode prog_1_method_14_code 58 = .ok (.invokestatic 152, 3) := by decide +kernel
theorem d_T_inside_61 : decode prog_1_method_14_code 61 = .ok (.invokevirtual 114, 3) := by decide +kernel
theorem d_T_inside_64 : decode prog_1_method_14_code 64 = .ok (.ireturn, 1) := by decide +kernel
def cf_T_inside (a0 : Int32) (a1 : Int32) (a2 : Int32) (a3 : Int32) (w : Wd) (P : Int32 → Wd → Prop) : Prop :=
  cf_T_arePlaces a0 a1 a3 (fun r1 => ((r1 = 0 → P (-5 : Int32) w) ∧ (¬ r1 = 0 → cf_Store_isPlace a2 (fun r2 => ((¬ r2 = 0 → cf_T_isModulus a2 w (fun r3 => ((¬ r3 = 0 → cf_Store_polyAt a0 w (fun r4 => cf_Store_polyAt a1 w (fun r5 => cf_Store_polyAt a2 w (fun r6 => cf_Polys_composed r4 r5 r6 (fun r7 => cf_T_place a3 r7 w (fun r8 w9 => P r8 w9)))))) ∧ (r3 = 0 → P (-2 : Int32) w)))) ∧ (r2 = 0 → P (-5 : Int32) w))))))
theorem cf_T_inside_ok {g : ayG} {d : Nat} (hd : 5 ≤ d) (a0 : Int32) (a1 : Int32) (a2 : Int32) (a3 : Int32)  (w : Wd) (P : Int32 → Wd → Prop) (h : cf_T_inside a0 a1 a2 a3 w P) : Call g y_T_inside prog_1_method_14_code 5 (some FieldType.int) d [.ref (g.1 + 0), .int a0, .int a1, .int a2, .int a3] w (fun (r : Option Value) (w2 : Wd) => ∃ x, r = some (.int x) ∧ P x w2) := by
  unfold cf_T_inside at h
  refine am_enter mi_T_inside (Nat.le_of_ble_eq_true rfl) ?_
  have hQ : ∀ x w2, P x w2 → (fun (r : Option Value) (w2 : Wd) => ∃ x, r = some (.int x) ∧ P x w2) (some (.int x)) w2 := fun x w2 h => ⟨x, rfl, h⟩
  generalize (fun (r : Option Value) (w2 : Wd) => ∃ x, r = some (.int x) ∧ P x w2) = Q at hQ ⊢
  show wp g (fun _ => True) y_T_inside prog_1_method_14_code 5 (some FieldType.int) d 0 [(0, .ref (g.1 + 0)), (1, .int a0), (2, .int a1), (3, .int a2), (4, .int a3)] [] w Q
  refine am_iload_n d_T_inside_0 1 rfl ?_
  refine am_iload_n d_T_inside_1 2 rfl ?_
  refine am_iload d_T_inside_2 4 rfl ?_
  refine am_callS (d2 := d - 1) [.int a0, .int a1, .int a3] d_T_inside_4 mi_T_arePlaces wd_465 wd_466 (by omega) rfl rfl (Nat.le_of_ble_eq_true rfl) ?_
  refine Call.post ?_ (cf_T_arePlaces_ok (by omega) a0 a1 a3  w _ h)
  rintro _ _ ⟨r1, rfl, rfl, h⟩
  show wp g (fun _ => True) y_T_inside prog_1_method_14_code 5 (some FieldType.int) d 7 [(0, .ref (g.1 + 0)), (1, .int a0), (2, .int a1), (3, .int a2), (4, .int a3)] [.int r1] w Q
  refine am_if_eq (tgt := 17) d_T_inside_7 (by decide) (fun c7 => ?_) (fun c7 => ?_)
  · have h := h.1 c7
    refine am_bipush (v := -5) d_T_inside_17 rfl ?_
    exact am_ireturn d_T_inside_19 rfl rfl (hQ (-5 : Int32) w h)
  · have h := h.2 c7
    refine am_iload_n d_T_inside_10 3 rfl ?_
    refine am_callS (d2 := d - 1) [.int a2] d_T_inside_11 mi_Store_isPlace wd_453 wd_263 (by omega) rfl rfl (Nat.le_of_ble_eq_true rfl) ?_
    refine Call.post ?_ (cf_Store_isPlace_ok (by omega) a2  w _ h)
    rintro _ _ ⟨r2, rfl, rfl, h⟩
    show wp g (fun _ => True) y_T_inside prog_1_method_14_code 5 (some FieldType.int) d 14 [(0, .ref (g.1 + 0)), (1, .int a0), (2, .int a1), (3, .int a2), (4, .int a3)] [.int r2] w Q
    refine am_if_ne (tgt := 20) d_T_inside_14 (by decide) (fun c14 => ?_) (fun c14 => ?_)
    · have h := h.1 c14
      refine am_aload_n d_T_inside_20 0 rfl ?_
      refine am_iload_n d_T_inside_21 3 rfl ?_
      refine am_callV (C := y_T_isModulus.cls) (d2 := d - 1) [.int a2] d_T_inside_22 mi_T_isModulus wd_500 wd_502 ws_T_isModulus (by decide) (el_T (show ay_sh 0 = _ from rfl)) rfl rfl (by omega) rfl rfl (Nat.le_of_ble_eq_true rfl) ?_
      refine Call.post ?_ (cf_T_isModulus_ok (by omega) a2  w _ h)
      rintro _ _ ⟨r3, rfl, rfl, h⟩
      show wp g (fun _ => True) y_T_inside prog_1_method_14_code 5 (some FieldType.int) d 25 [(0, .ref (g.1 + 0)), (1, .int a0), (2, .int a1), (3, .int a2), (4, .int a3)] [.int r3] w Q
      refine am_if_ne (tgt := 31) d_T_inside_25 (by decide) (fun c25 => ?_) (fun c25 => ?_)
      · have h := h.1 c25
        refine am_aload_n d_T_inside_31 0 rfl ?_
        refine am_iload d_T_inside_32 4 rfl ?_
        refine am_aload_n d_T_inside_34 0 rfl ?_
        refine am_getf (T := F_T) (fs := ob_T g w 0) (C := R_T) (N := 9) (ci := 0) 1 d_T_inside_35 wd_195 rfl (by decide) (el_T (show ay_sh 0 = _ from rfl)) rfl i_T (by decide) rfl ?_
        refine am_iload_n d_T_inside_38 1 rfl ?_
        refine am_callV (C := "TriSplits$Store") (d2 := d - 1) [.int a0] d_T_inside_39 mi_Store_polyAt wd_468 wd_259 wd_260 (by decide) (el_Store (show ay_sh 6 = _ from rfl)) rfl rfl (by omega) rfl rfl (Nat.le_of_ble_eq_true rfl) ?_
        refine Call.post ?_ (cf_Store_polyAt_ok (by omega) a0  w _ h)
        rintro _ _ ⟨r4, rfl, rfl, h⟩
        show wp g (fun _ => True) y_T_inside prog_1_method_14_code 5 (some FieldType.int) d 42 [(0, .ref (g.1 + 0)), (1, .int a0), (2, .int a1), (3, .int a2), (4, .int a3)] [.long r4, .int a3, .ref (g.1 + 0)] w Q
        refine am_aload_n d_T_inside_42 0 rfl ?_
        refine am_getf (T := F_T) (fs := ob_T g w 0) (C := R_T) (N := 9) (ci := 0) 1 d_T_inside_43 wd_195 rfl (by decide) (el_T (show ay_sh 0 = _ from rfl)) rfl i_T (by decide) rfl ?_
        refine am_iload_n d_T_inside_46 2 rfl ?_
        refine am_callV (C := "TriSplits$Store") (d2 := d - 1) [.int a1] d_T_inside_47 mi_Store_polyAt wd_468 wd_259 wd_260 (by decide) (el_Store (show ay_sh 6 = _ from rfl)) rfl rfl (by omega) rfl rfl (Nat.le_of_ble_eq_true rfl) ?_
        refine Call.post ?_ (cf_Store_polyAt_ok (by omega) a1  w _ h)
        rintro _ _ ⟨r5, rfl, rfl, h⟩
        show wp g (fun _ => True) y_T_inside prog_1_method_14_code 5 (some FieldType.int) d 50 [(0, .ref (g.1 + 0)), (1, .int a0), (2, .int a1), (3, .int a2), (4, .int a3)] [.long r5, .long r4, .int a3, .ref (g.1 + 0)] w Q
        refine am_aload_n d_T_inside_50 0 rfl ?_
        refine am_getf (T := F_T) (fs := ob_T g w 0) (C := R_T) (N := 9) (ci := 0) 1 d_T_inside_51 wd_195 rfl (by decide) (el_T (show ay_sh 0 = _ from rfl)) rfl i_T (by decide) rfl ?_
        refine am_iload_n d_T_inside_54 3 rfl ?_
        refine am_callV (C := "TriSplits$Store") (d2 := d - 1) [.int a2] d_T_inside_55 mi_Store_polyAt wd_468 wd_259 wd_260 (by decide) (el_Store (show ay_sh 6 = _ from rfl)) rfl rfl (by omega) rfl rfl (Nat.le_of_ble_eq_true rfl) ?_
        refine Call.post ?_ (cf_Store_polyAt_ok (by omega) a2  w _ h)
        rintro _ _ ⟨r6, rfl, rfl, h⟩
        show wp g (fun _ => True) y_T_inside prog_1_method_14_code 5 (some FieldType.int) d 58 [(0, .ref (g.1 + 0)), (1, .int a0), (2, .int a1), (3, .int a2), (4, .int a3)] [.long r6, .long r5, .long r4, .int a3, .ref (g.1 + 0)] w Q
        refine am_callS (d2 := d - 1) [.long r4, .long r5, .long r6] d_T_inside_58 mi_Polys_composed wd_526 wd_527 (by omega) rfl rfl (Nat.le_of_ble_eq_true rfl) ?_
        refine Call.post ?_ (cf_Polys_composed_ok (by omega) r4 r5 r6  w _ h)
        rintro _ _ ⟨r7, rfl, rfl, h⟩
        show wp g (fun _ => True) y_T_inside prog_1_method_14_code 5 (some FieldType.int) d 61 [(0, .ref (g.1 + 0)), (1, .int a0), (2, .int a1), (3, .int a2), (4, .int a3)] [.long r7, .int a3, .ref (g.1 + 0)] w Q
        refine am_callV (C := y_T_place.cls) (d2 := d - 1) [.int a3, .long r7] d_T_inside_61 mi_T_place wd_455 wd_457 ws_T_place (by decide) (el_T (show ay_sh 0 = _ from rfl)) rfl rfl (by omega) rfl rfl (Nat.le_of_ble_eq_true rfl) ?_
        refine Call.post ?_ (cf_T_place_ok (by omega) a3 r7  w _ h)
        rintro _ w9 ⟨r8, rfl, h⟩
        show wp g (fun _ => True) y_T_inside prog_1_method_14_code 5 (some FieldType.int) d 64 [(0, .ref (g.1 + 0)), (1, .int a0), (2, .int a1), (3, .int a2), (4, .int a3)] [.int r8] w9 Q
        exact am_ireturn d_T_inside_64 rfl rfl (hQ r8 w9 h)
      · have h := h.2 c25
        refine am_bipush (v := -2) d_T_inside_28 rfl ?_
        exact am_ireturn d_T_inside_30 rfl rfl (hQ (-2 : Int32) w h)
    · have h := h.2 c14
      refine am_bipush (v := -5) d_T_inside_17 rfl ?_
      exact am_ireturn d_T_inside_19 rfl rfl (hQ (-5 : Int32) w h)
theorem d_T_inverse_0 : decode prog_1_method_15_code 0 = .ok (.iload_n 1, 1) := by decide +kernel
theorem d_T_inverse_1 : decode prog_1_method_15_code 1 = .ok (.iload_n 2, 1) := by decide +kernel
theorem d_T_inverse_2 : decode prog_1_method_15_code 2 = .ok (.iload_n 3, 1) := by decide +kernel
theorem d_T_inverse_3 : decode prog_1_method_15_code 3 = .ok (.invokestatic 118, 3) := by decide +kernel
theorem d_T_inverse_6 : decode prog_1_method_15_code 6 = .ok (.ifCond .ne 6, 3) := by decide +kernel
theorem d_T_inverse_9 : decode prog_1_method_15_code 9 = .ok (.bipush (-5), 2) := by decide +kernel
theorem d_T_inverse_11 : decode prog_1_method_15_code 11 = .ok (.ireturn, 1) := by decide +kernel
theorem d_T_inverse_12 : decode prog_1_method_15_code 12 = .ok (.aload_n 0, 1) := by decide +kernel
theorem d_T_inverse_13 : decode prog_1_method_15_code 13 = .ok (.iload_n 2, 1) := by decide +kernel
theorem d_T_inverse_14 : decode prog_1_method_15_code 14 = .ok (.invokevirtual 141, 3) := by decide +kernel
theorem d_T_inverse_17 : decode prog_1_method_15_code 17 = .ok (.ifCond .ne 6, 3) := by decide +kernel
theorem d_T_inverse_20 : decode prog_1_method_15_code 20 = .ok (.bipush (-2), 2) := by decide +kernel
theorem d_T_inverse_22 : decode prog_1_method_15_code 22 = .ok (.ireturn, 1) := by decide +kernel
theorem d_T_inverse_23 : decode prog_1_method_15_code 23 = .ok (.aload_n 0, 1) := by decide +kernel
theorem d_T_inverse_24 : decode prog_1_method_15_code 24 = .ok (.getfield 19, 3) := by decide +kernel
theorem d_T_inverse_27 : decode prog_1_method_15_code 27 = .ok (.iload_n 1, 1) := by decide +kernel
theorem d_T_inverse_28 : decode prog_1_method_15_code 28 = .ok (.invokevirtual 122, 3) := by decide +kernel
theorem d_T_inverse_31 : decode prog_1_method_15_code 31 = .ok (.aload_n 0, 1) := by decide +kernel
theorem d_T_inverse_32 : decode prog_1_method_15_code 32 = .ok (.getfield 19, 3) := by decide +kernel
theorem d_T_inverse_35 : decode prog_1_method_15_code 35 = .ok (.iload_n 2, 1) := by decide +kernel
theorem d_T_inverse_36 : decode prog_1_method_15_code 36 = .ok (.invokevirtual 122, 3) := by decide +kernel
theorem d_T_inverse_39 : decode prog_1_method_15_code 39 = .ok (.invokestatic 155, 3) := by decide +kernel
theorem d_T_inverse_42 : decode prog_1_method_15_code 42 = .ok (.lstore 4, 2) := by decide +kernel
theorem d_T_inverse_44 : decode prog_1_method_15_code 44 = .ok (.lload 4, 2) := by decide +kernel
theorem d_T_inverse_46 : decode prog_1_method_15_code 46 = .ok (.lconst 0, 1) := by decide +kernel
theorem d_T_inverse_47 : decode prog_1_method_15_code 47 = .ok (.lcmp, 1) := by decide +kernel
theorem d_T_inverse_48 : decode prog_1_method_15_code 48 = .ok (.ifCond .ne 8, 3) := by decide +kernel
theorem d_T_inverse_51 : decode prog_1_method_15_code 51 = .ok (.bipush (-3), 2) := by decide +kernel
theorem d_T_inverse_53 : decode prog_1_method_15_code 53 = .ok (.goto 10, 3) := by decide +kernel
theorem d_T_inverse_56 : decode prog_1_method_15_code 56 = .ok (.aload_n 0, 1) := by decide +kernel
theorem d_T_inverse_57 : decode prog_1_method_15_code 57 = .ok (.iload_n 3, 1) := by decide +kernel
theorem d_T_inverse_58 : decode prog_1_method_15_code 58 = .ok (.lload 4, 2) := by decide +kernel
theorem d_T_inverse_60 : decode prog_1_method_15_code 60 = .ok (.invokevirtual 114, 3) := by decide +kernel
theorem d_T_inverse_63 : decode prog_1_method_15_code 63 = .ok (.ireturn, 1) := by decide +kernel
def cf_T_inverse (a0 : Int32) (a1 : Int32) (a2 : Int32) (w : Wd) (P : Int32 → Wd → Prop) : Prop :=
  cf_T_arePlaces a0 a1 a2 (fun r1 => ((¬ r1 = 0 → cf_T_isModulus a1 w (fun r2 => ((¬ r2 = 0 → cf_Store_polyAt a0 w (fun r3 => cf_Store_polyAt a1 w (fun r4 => cf_Polys_inverseBy r3 r4 (fun r5 => ((¬ r5 = (0 : Int64) → cf_T_place a2 r5 w (fun r6 w7 => P r6 w7)) ∧ (r5 = (0 : Int64) → P (-3 : Int32) w)))))) ∧ (r2 = 0 → P (-2 : Int32) w)))) ∧ (r1 = 0 → P (-5 : Int32) w)))
theorem cf_T_inverse_ok {g : ayG} {d : Nat} (hd : 5 ≤ d) (a0 : Int32) (a1 : Int32) (a2 : Int32)  (w : Wd) (P : Int32 → Wd → Prop) (h : cf_T_inverse a0 a1 a2 w P) : Call g y_T_inverse prog_1_method_15_code 6 (some FieldType.int) d [.ref (g.1 + 0), .int a0, .int a1, .int a2] w (fun (r : Option Value) (w2 : Wd) => ∃ x, r = some (.int x) ∧ P x w2) := by
  unfold cf_T_inverse at h
  refine am_enter mi_T_inverse (Nat.le_of_ble_eq_true rfl) ?_
  have hQ : ∀ x w2, P x w2 → (fun (r : Option Value) (w2 : Wd) => ∃ x, r = some (.int x) ∧ P x w2) (some (.int x)) w2 := fun x w2 h => ⟨x, rfl, h⟩
  generalize (fun (r : Option Value) (w2 : Wd) => ∃ x, r = some (.int x) ∧ P x w2) = Q at hQ ⊢
  show wp g (fun _ => True) y_T_inverse prog_1_method_15_code 6 (some FieldType.int) d 0 [(0, .ref (g.1 + 0)), (1, .int a0), (2, .int a1), (3, .int a2)] [] w Q
  refine am_iload_n d_T_inverse_0 1 rfl ?_
  refine am_iload_n d_T_inverse_1 2 rfl ?_
  refine am_iload_n d_T_inverse_2 3 rfl ?_
  refine am_callS (d2 := d - 1) [.int a0, .int a1, .int a2] d_T_inverse_3 mi_T_arePlaces wd_465 wd_466 (by omega) rfl rfl (Nat.le_of_ble_eq_true rfl) ?_
  refine Call.post ?_ (cf_T_arePlaces_ok (by omega) a0 a1 a2  w _ h)
  rintro _ _ ⟨r1, rfl, rfl, h⟩
  show wp g (fun _ => True) y_T_inverse prog_1_method_15_code 6 (some FieldType.int) d 6 [(0, .ref (g.1 + 0)), (1, .int a0), (2, .int a1), (3, .int a2)] [.int r1] w Q
  refine am_if_ne (tgt := 12) d_T_inverse_6 (by decide) (fun c6 => ?_) (fun c6 => ?_)
  · have h := h.1 c6
    refine am_aload_n d_T_inverse_12 0 rfl ?_
    refine am_iload_n d_T_inverse_13 2 rfl ?_
    refine am_callV (C := y_T_isModulus.cls) (d2 := d - 1) [.int a1] d_T_inverse_14 mi_T_isModulus wd_500 wd_502 ws_T_isModulus (by decide) (el_T (show ay_sh 0 = _ from rfl)) rfl rfl (by omega) rfl rfl (Nat.le_of_ble_eq_true rfl) ?_
    refine Call.post ?_ (cf_T_isModulus_ok (by omega) a1  w _ h)
    rintro _ _ ⟨r2, rfl, rfl, h⟩
    show wp g (fun _ => True) y_T_inverse prog_1_method_15_code 6 (some FieldType.int) d 17 [(0, .ref (g.1 + 0)), (1, .int a0), (2, .int a1), (3, .int a2)] [.int r2] w Q
    refine am_if_ne (tgt := 23) d_T_inverse_17 (by decide) (fun c17 => ?_) (fun c17 => ?_)
    · have h := h.1 c17
      refine am_aload_n d_T_inverse_23 0 rfl ?_
      refine am_getf (T := F_T) (fs := ob_T g w 0) (C := R_T) (N := 9) (ci := 0) 1 d_T_inverse_24 wd_195 rfl (by decide) (el_T (show ay_sh 0 = _ from rfl)) rfl i_T (by decide) rfl ?_
      refine am_iload_n d_T_inverse_27 1 rfl ?_
      refine am_callV (C := "TriSplits$Store") (d2 := d - 1) [.int a0] d_T_inverse_28 mi_Store_polyAt wd_468 wd_259 wd_260 (by decide) (el_Store (show ay_sh 6 = _ from rfl)) rfl rfl (by omega) rfl rfl (Nat.le_of_ble_eq_true rfl) ?_
      refine Call.post ?_ (cf_Store_polyAt_ok (by omega) a0  w _ h)
      rintro _ _ ⟨r3, rfl, rfl, h⟩
      show wp g (fun _ => True) y_T_inverse prog_1_method_15_code 6 (some FieldType.int) d 31 [(0, .ref (g.1 + 0)), (1, .int a0), (2, .int a1), (3, .int a2)] [.long r3] w Q
      refine am_aload_n d_T_inverse_31 0 rfl ?_
      refine am_getf (T := F_T) (fs := ob_T g w 0) (C := R_T) (N := 9) (ci := 0) 1 d_T_inverse_32 wd_195 rfl (by decide) (el_T (show ay_sh 0 = _ from rfl)) rfl i_T (by decide) rfl ?_
      refine am_iload_n d_T_inverse_35 2 rfl ?_
      refine am_callV (C := "TriSplits$Store") (d2 := d - 1) [.int a1] d_T_inverse_36 mi_Store_polyAt wd_468 wd_259 wd_260 (by decide) (el_Store (show ay_sh 6 = _ from rfl)) rfl rfl (by omega) rfl rfl (Nat.le_of_ble_eq_true rfl) ?_
      refine Call.post ?_ (cf_Store_polyAt_ok (by omega) a1  w _ h)
      rintro _ _ ⟨r4, rfl, rfl, h⟩
      show wp g (fun _ => True) y_T_inverse prog_1_method_15_code 6 (some FieldType.int) d 39 [(0, .ref (g.1 + 0)), (1, .int a0), (2, .int a1), (3, .int a2)] [.long r4, .long r3] w Q
      refine am_callS (d2 := d - 1) [.long r3, .long r4] d_T_inverse_39 mi_Polys_inverseBy wd_536 wd_537 (by omega) rfl rfl (Nat.le_of_ble_eq_true rfl) ?_
      refine Call.post ?_ (cf_Polys_inverseBy_ok (by omega) r3 r4  w _ h)
      rintro _ _ ⟨r5, rfl, rfl, h⟩
      show wp g (fun _ => True) y_T_inverse prog_1_method_15_code 6 (some FieldType.int) d 42 [(0, .ref (g.1 + 0)), (1, .int a0), (2, .int a1), (3, .int a2)] [.long r5] w Q
      refine am_lstore (l' := [(4, .long r5), (0, .ref (g.1 + 0)), (1, .int a0), (2, .int a1), (3, .int a2)]) d_T_inverse_42 (by decide) rfl ?_
      refine am_lload d_T_inverse_44 0 rfl ?_
      refine am_lconst (v := 0) d_T_inverse_46 rfl ?_
      refine am_lif_ne (tgt := 56) d_T_inverse_47 d_T_inverse_48 (by decide) (fun c47 => ?_) (fun c47 => ?_)
      · have h := h.1 c47
        refine am_aload_n d_T_inverse_56 1 rfl ?_
        refine am_iload_n d_T_inverse_57 4 rfl ?_
        refine am_lload d_T_inverse_58 0 rfl ?_
        refine am_callV (C := y_T_place.cls) (d2 := d - 1) [.int a2, .long r5] d_T_inverse_60 mi_T_place wd_455 wd_457 ws_T_place (by decide) (el_T (show ay_sh 0 = _ from rfl)) rfl rfl (by omega) rfl rfl (Nat.le_of_ble_eq_true rfl) ?_
        refine Call.post ?_ (cf_T_place_ok (by omega) a2 r5  w _ h)
        rintro _ w7 ⟨r6, rfl, h⟩
        show wp g (fun _ => True) y_T_inverse prog_1_method_15_code 6 (some FieldType.int) d 63 [(4, .long r5), (0, .ref (g.1 + 0)), (1, .int a0), (2, .int a1), (3, .int a2)] [.int r6] w7 Q
        exact am_ireturn d_T_inverse_63 rfl rfl (hQ r6 w7 h)
      · have h := h.2 c47
        refine am_bipush (v := -3) d_T_inverse_51 rfl ?_
        refine am_goto (tgt := 63) d_T_inverse_53 (by decide) ?_
        exact am_ireturn d_T_inverse_63 rfl rfl (hQ (-3 : Int32) w h)
    · have h := h.2 c17
      refine am_bipush (v := -2) d_T_inverse_20 rfl ?_
      exact am_ireturn d_T_inverse_22 rfl rfl (hQ (-2 : Int32) w h)
  · have h := h.2 c6
    refine am_bipush (v := -5) d_T_inverse_9 rfl ?_
    exact am_ireturn d_T_inverse_11 rfl rfl (hQ (-5 : Int32) w h)
theorem d_T_rise_0 : decode prog_1_method_16_code 0 = .ok (.iload_n 1, 1) := by decide +kernel
theorem d_T_rise_1 : decode prog_1_method_16_code 1 = .ok (.iload_n 3, 1) := by decide +kernel
theorem d_T_rise_2 : decode prog_1_method_16_code 2 = .ok (.iload_n 3, 1) := by decide +kernel
theorem d_T_rise_3 : decode prog_1_method_16_code 3 = .ok (.invokestatic 118, 3) := by decide +kernel
theorem d_T_rise_6 : decode prog_1_method_16_code 6 = .ok (.ifCond .eq 14, 3) := by decide +kernel
theorem d_T_rise_9 : decode prog_1_method_16_code 9 = .ok (.iload_n 2, 1) := by decide +kernel
theorem d_T_rise_10 : decode prog_1_method_16_code 10 = .ok (.iconst 1, 1) := by decide +kernel
theorem d_T_rise_11 : decode prog_1_method_16_code 11 = .ok (.if_icmp .lt 9, 3) := by decide +kernel
theorem d_T_rise_14 : decode prog_1_method_16_code 14 = .ok (.iload_n 2, 1) := by decide +kernel
theorem d_T_rise_15 : decode prog_1_method_16_code 15 = .ok (.bipush 31, 2) := by decide +kernel
theorem d_T_rise_17 : decode prog_1_method_16_code 17 = .ok (.if_icmp .le 6, 3) := by decide +kernel
theorem d_T_rise_20 : decode prog_1_method_16_code 20 = .ok (.bipush (-5), 2) := by decide +kernel
theorem d_T_rise_22 : decode prog_1_method_16_code 22 = .ok (.ireturn, 1) := by decide +kernel
theorem d_T_rise_23 : decode prog_1_method_16_code 23 = .ok (.aload_n 0, 1) := by decide +kernel
theorem d_T_rise_24 : decode prog_1_method_16_code 24 = .ok (.getfield 19, 3) := by decide +kernel
theorem d_T_rise_27 : decode prog_1_method_16_code 27 = .ok (.iload_n 1, 1) := by decide +kernel
theorem d_T_rise_28 : decode prog_1_method_16_code 28 = .ok (.invokevirtual 122, 3) := by decide +kernel
theorem d_T_rise_31 : decode prog_1_method_16_code 31 = .ok (.invokestatic 158, 3) := by decide +kernel
theorem d_T_rise_34 : decode prog_1_method_16_code 34 = .ok (.iload_n 2, 1) := by decide +kernel
theorem d_T_rise_35 : decode prog_1_method_16_code 35 = .ok (.imul, 1) := by decide +kernel
theorem d_T_rise_36 : decode prog_1_method_16_code 36 = .ok (.bipush 31, 2) := by decide +kernel
theorem d_T_rise_38 : decode prog_1_method_16_code 38 = .ok (.if_icmp .le 6, 3) := by decide +kernel
theorem d_T_rise_41 : decode prog_1_method_16_code 41 = .ok (.bipush (-2), 2) := by decide +kernel
theorem d_T_rise_43 : decode prog_1_method_16_code 43 = .ok (.ireturn, 1) := by decide +kernel
theorem d_T_rise_44 : decode prog_1_method_16_code 44 = .ok (.aload_n 0, 1) := by decide +kernel
theorem d_T_rise_45 : decode prog_1_method_16_code 45 = .ok (.iload_n 3, 1) := by decide +kernel
theorem d_T_rise_46 : decode prog_1_method_16_code 46 = .ok (.aload_n 0, 1) := by decide +kernel
theorem d_T_rise_47 : decode prog_1_method_16_code 47 = .ok (.getfield 19, 3) := by decide +kernel
theorem d_T_rise_50 : decode prog_1_method_16_code 50 = .ok (.iload_n 1, 1) := by decide +kernel
theorem d_T_rise_51 : decode prog_1_method_16_code 51 = .ok (.invokevirtual 122, 3) := by decide +kernel
theorem d_T_rise_54 : decode prog_1_method_16_code 54 = .ok (.iload_n 2, 1) := by decide +kernel
theorem d_T_rise_55 : decode prog_1_method_16_code 55 = .ok (.invokestatic 162, 3) := by decide +kernel
theorem d_T_rise_58 : decode prog_1_method_16_code 58 = .ok (.invokevirtual 114, 3) := by decide +kernel
theorem d_T_rise_61 : decode prog_1_method_16_code 61 = .ok (.ireturn, 1) := by decide +kernel
def cf_T_rise (a0 : Int32) (a1 : Int32) (a2 : Int32) (w : Wd) (P : Int32 → Wd → Prop) : Prop :=
  cf_T_arePlaces a0 a2 a2 (fun r1 => ((r1 = 0 → P (-5 : Int32) w) ∧ (¬ r1 = 0 → ((a1 < (1 : Int32) → P (-5 : Int32) w) ∧ (¬ a1 < (1 : Int32) → ((a1 ≤ (31 : Int32) → cf_Store_polyAt a0 w (fun r2 => cf_Polys_degree r2 (fun r3 => (((r3 * a1) ≤ (31 : Int32) → cf_Store_polyAt a0 w (fun r4 => cf_Polys_risen r4 a1 (fun r5 => cf_T_place a2 r5 w (fun r6 w7 => P r6 w7)))) ∧ (¬ (r3 * a1) ≤ (31 : Int32) → P (-2 : Int32) w))))) ∧ (¬ a1 ≤ (31 : Int32) → P (-5 : Int32) w)))))))
theorem cf_T_rise_ok {g : ayG} {d : Nat} (hd : 4 ≤ d) (a0 : Int32) (a1 : Int32) (a2 : Int32)  (w : Wd) (P : Int32 → Wd → Prop) (h : cf_T_rise a0 a1 a2 w P) : Call g y_T_rise prog_1_method_16_code 4 (some FieldType.int) d [.ref (g.1 + 0), .int a0, .int a1, .int a2] w (fun (r : Option Value) (w2 : Wd) => ∃ x, r = some (.int x) ∧ P x w2) := by
  unfold cf_T_rise at h
  refine am_enter mi_T_rise (Nat.le_of_ble_eq_true rfl) ?_
  have hQ : ∀ x w2, P x w2 → (fun (r : Option Value) (w2 : Wd) => ∃ x, r = some (.int x) ∧ P x w2) (some (.int x)) w2 := fun x w2 h => ⟨x, rfl, h⟩
  generalize (fun (r : Option Value) (w2 : Wd) => ∃ x, r = some (.int x) ∧ P x w2) = Q at hQ ⊢
  show wp g (fun _ => True) y_T_rise prog_1_method_16_code 4 (some FieldType.int) d 0 [(0, .ref (g.1 + 0)), (1, .int a0), (2, .int a1), (3, .int a2)] [] w Q
  refine am_iload_n d_T_rise_0 1 rfl ?_
  refine am_iload_n d_T_rise_1 3 rfl ?_
  refine am_iload_n d_T_rise_2 3 rfl ?_
  refine am_callS (d2 := d - 1) [.int a0, .int a2, .int a2] d_T_rise_3 mi_T_arePlaces wd_465 wd_466 (by omega) rfl rfl (Nat.le_of_ble_eq_true rfl) ?_
  refine Call.post ?_ (cf_T_arePlaces_ok (by omega) a0 a2 a2  w _ h)
  rintro _ _ ⟨r1, rfl, rfl, h⟩
  show wp g (fun _ => True) y_T_rise prog_1_method_16_code 4 (some FieldType.int) d 6 [(0, .ref (g.1 + 0)), (1, .int a0), (2, .int a1), (3, .int a2)] [.int r1] w Q
  refine am_if_eq (tgt := 20) d_T_rise_6 (by decide) (fun c6 => ?_) (fun c6 => ?_)
  · have h := h.1 c6
    refine am_bipush (v := -5) d_T_rise_20 rfl ?_
    exact am_ireturn d_T_rise_22 rfl rfl (hQ (-5 : Int32) w h)
  · have h := h.2 c6
    refine am_iload_n d_T_rise_9 2 rfl ?_
    refine am_iconst (v := 1) d_T_rise_10 rfl ?_
    refine am_icmp_lt (tgt := 20) d_T_rise_11 (by decide) (fun c11 => ?_) (fun c11 => ?_)
    · have h := h.1 c11
      refine am_bipush (v := -5) d_T_rise_20 rfl ?_
      exact am_ireturn d_T_rise_22 rfl rfl (hQ (-5 : Int32) w h)
    · have h := h.2 c11
      refine am_iload_n d_T_rise_14 2 rfl ?_
      refine am_bipush (v := 31) d_T_rise_15 rfl ?_
      refine am_icmp_le (tgt := 23) d_T_rise_17 (by decide) (fun c17 => ?_) (fun c17 => ?_)
      · have h := h.1 c17
        refine am_aload_n d_T_rise_23 0 rfl ?_
        refine am_getf (T := F_T) (fs := ob_T g w 0) (C := R_T) (N := 9) (ci := 0) 1 d_T_rise_24 wd_195 rfl (by decide) (el_T (show ay_sh 0 = _ from rfl)) rfl i_T (by decide) rfl ?_
        refine am_iload_n d_T_rise_27 1 rfl ?_
        refine am_callV (C := "TriSplits$Store") (d2 := d - 1) [.int a0] d_T_rise_28 mi_Store_polyAt wd_468 wd_259 wd_260 (by decide) (el_Store (show ay_sh 6 = _ from rfl)) rfl rfl (by omega) rfl rfl (Nat.le_of_ble_eq_true rfl) ?_
        refine Call.post ?_ (cf_Store_polyAt_ok (by omega) a0  w _ h)
        rintro _ _ ⟨r2, rfl, rfl, h⟩
        show wp g (fun _ => True) y_T_rise prog_1_method_16_code 4 (some FieldType.int) d 31 [(0, .ref (g.1 + 0)), (1, .int a0), (2, .int a1), (3, .int a2)] [.long r2] w Q
        refine am_callS (d2 := d - 1) [.long r2] d_T_rise_31 mi_Polys_degree wd_460 wd_391 (by omega) rfl rfl (Nat.le_of_ble_eq_true rfl) ?_
        refine Call.post ?_ (cf_Polys_degree_ok (by omega) r2  w _ h)
        rintro _ _ ⟨r3, rfl, rfl, h⟩
        show wp g (fun _ => True) y_T_rise prog_1_method_16_code 4 (some FieldType.int) d 34 [(0, .ref (g.1 + 0)), (1, .int a0), (2, .int a1), (3, .int a2)] [.int r3] w Q
        refine am_iload_n d_T_rise_34 2 rfl ?_
        refine am_imul d_T_rise_35 ?_
        refine am_bipush (v := 31) d_T_rise_36 rfl ?_
        refine am_icmp_le (tgt := 44) d_T_rise_38 (by decide) (fun c38 => ?_) (fun c38 => ?_)
        · have h := h.1 c38
          refine am_aload_n d_T_rise_44 0 rfl ?_
          refine am_iload_n d_T_rise_45 3 rfl ?_
          refine am_aload_n d_T_rise_46 0 rfl ?_
          refine am_getf (T := F_T) (fs := ob_T g w 0) (C := R_T) (N := 9) (ci := 0) 1 d_T_rise_47 wd_195 rfl (by decide) (el_T (show ay_sh 0 = _ from rfl)) rfl i_T (by decide) rfl ?_
          refine am_iload_n d_T_rise_50 1 rfl ?_
          refine am_callV (C := "TriSplits$Store") (d2 := d - 1) [.int a0] d_T_rise_51 mi_Store_polyAt wd_468 wd_259 wd_260 (by decide) (el_Store (show ay_sh 6 = _ from rfl)) rfl rfl (by omega) rfl rfl (Nat.le_of_ble_eq_true rfl) ?_
          refine Call.post ?_ (cf_Store_polyAt_ok (by omega) a0  w _ h)
          rintro _ _ ⟨r4, rfl, rfl, h⟩
          show wp g (fun _ => True) y_T_rise prog_1_method_16_code 4 (some FieldType.int) d 54 [(0, .ref (g.1 + 0)), (1, .int a0), (2, .int a1), (3, .int a2)] [.long r4, .int a2, .ref (g.1 + 0)] w Q
          refine am_iload_n d_T_rise_54 2 rfl ?_
          refine am_callS (d2 := d - 1) [.long r4, .int a1] d_T_rise_55 mi_Polys_risen wd_544 wd_545 (by omega) rfl rfl (Nat.le_of_ble_eq_true rfl) ?_
          refine Call.post ?_ (cf_Polys_risen_ok (by omega) r4 a1  w _ h)
          rintro _ _ ⟨r5, rfl, rfl, h⟩
          show wp g (fun _ => True) y_T_rise prog_1_method_16_code 4 (some FieldType.int) d 58 [(0, .ref (g.1 + 0)), (1, .int a0), (2, .int a1), (3, .int a2)] [.long r5, .int a2, .ref (g.1 + 0)] w Q
          refine am_callV (C := y_T_place.cls) (d2 := d - 1) [.int a2, .long r5] d_T_rise_58 mi_T_place wd_455 wd_457 ws_T_place (by decide) (el_T (show ay_sh 0 = _ from rfl)) rfl rfl (by omega) rfl rfl (Nat.le_of_ble_eq_true rfl) ?_
          refine Call.post ?_ (cf_T_place_ok (by omega) a2 r5  w _ h)
          rintro _ w7 ⟨r6, rfl, h⟩
          show wp g (fun _ => True) y_T_rise prog_1_method_16_code 4 (some FieldType.int) d 61 [(0, .ref (g.1 + 0)), (1, .int a0), (2, .int a1), (3, .int a2)] [.int r6] w7 Q
          exact am_ireturn d_T_rise_61 rfl rfl (hQ r6 w7 h)
        · have h := h.2 c38
          refine am_bipush (v := -2) d_T_rise_41 rfl ?_
          exact am_ireturn d_T_rise_43 rfl rfl (hQ (-2 : Int32) w h)
      · have h := h.2 c17
        refine am_bipush (v := -5) d_T_rise_20 rfl ?_
        exact am_ireturn d_T_rise_22 rfl rfl (hQ (-5 : Int32) w h)
theorem d_T_register_0 : decode prog_1_method_17_code 0 = .ok (.iload_n 1, 1) := by decide +kernel
theorem d_T_register_1 : decode prog_1_method_17_code 1 = .ok (.invokestatic 109, 3) := by decide +kernel
theorem d_T_register_4 : decode prog_1_method_17_code 4 = .ok (.ifCond .eq 17, 3) := by decide +kernel
theorem d_T_register_7 : decode prog_1_method_17_code 7 = .ok (.lload_n 2, 1) := by decide +kernel
theorem d_T_register_8 : decode prog_1_method_17_code 8 = .ok (.lconst 0, 1) := by decide +kernel
theorem d_T_register_9 : decode prog_1_method_17_code 9 = .ok (.lcmp, 1) := by decide +kernel
theorem d_T_register_10 : decode prog_1_method_17_code 10 = .ok (.ifCond .lt 11, 3) := by decide +kernel
theorem d_T_register_13 : decode prog_1_method_17_code 13 = .ok (.lload_n 2, 1) := by decide +kernel
theorem d_T_register_14 : decode prog_1_method_17_code 14 = .ok (.ldc2_w 166, 3) := by decide +kernel
theorem d_T_register_17 : decode prog_1_method_17_code 17 = .ok (.lcmp, 1) := by decide +kernel
theorem d_T_register_18 : decode prog_1_method_17_code 18 = .ok (.ifCond .le 5, 3) := by decide +kernel
theorem d_T_register_21 : decode prog_1_method_17_code 21 = .ok (.iconst (-1), 1) := by decide +kernel
theorem d_T_register_22 : decode prog_1_method_17_code 22 = .ok (.ireturn, 1) := by decide +kernel
theorem d_T_register_23 : decode prog_1_method_17_code 23 = .ok (.aload_n 0, 1) := by decide +kernel
theorem d_T_register_24 : decode prog_1_method_17_code 24 = .ok (.getfield 19, 3) := by decide +kernel
theorem d_T_register_27 : decode prog_1_method_17_code 27 = .ok (.iload_n 1, 1) := by decide +kernel
theorem d_T_register_28 : decode prog_1_method_17_code 28 = .ok (.invokevirtual 122, 3) := by decide +kernel
theorem d_T_register_31 : decode prog_1_method_17_code 31 = .ok (.lstore 4, 2) := by decide +kernel
theorem d_T_register_33 : decode prog_1_method_17_code 33 = .ok (.lload 4, 2) := by decide +kernel
theorem d_T_register_35 : decode prog_1_method_17_code 35 = .ok (.invokestatic 158, 3) := by decide +kernel
theorem d_T_register_38 : decode prog_1_method_17_code 38 = .ok (.istore 6, 2) := by decide +kernel
theorem d_T_register_40 : decode prog_1_method_17_code 40 = .ok (.iload 6, 2) := by decide +kernel
theorem d_T_register_42 : decode prog_1_method_17_code 42 = .ok (.iconst 1, 1) := by decide +kernel
theorem d_T_register_43 : decode prog_1_method_17_code 43 = .ok (.if_icmp .lt 12, 3) := by decide +kernel
theorem d_T_register_46 : decode prog_1_method_17_code 46 = .ok (.lload 4, 2) := by decide +kernel
theorem d_T_register_48 : decode prog_1_method_17_code 48 = .ok (.lconst 1, 1) := by decide +kernel
theorem d_T_register_49 : decode prog_1_method_17_code 49 = .ok (.land, 1) := by decide +kernel
theorem d_T_register_50 : decode prog_1_method_17_code 50 = .ok (.lconst 0, 1) := by decide +kernel
theorem d_T_register_51 : decode prog_1_method_17_code 51 = .ok (.lcmp, 1) := by decide +kernel
theorem d_T_register_52 : decode prog_1_method_17_code 52 = .ok (.ifCond .ne 6, 3) := by decide +kernel
theorem d_T_register_55 : decode prog_1_method_17_code 55 = .ok (.bipush (-2), 2) := by decide +kernel
theorem d_T_register_57 : decode prog_1_method_17_code 57 = .ok (.ireturn, 1) := by decide +kernel
theorem d_T_register_58 : decode prog_1_method_17_code 58 = .ok (.lload_n 2, 1) := by decide +kernel
theorem d_T_register_59 : decode prog_1_method_17_code 59 = .ok (.iload 6, 2) := by decide +kernel
theorem d_T_register_61 : decode prog_1_method_17_code 61 = .ok (.lshr, 1) := by decide +kernel
theorem d_T_register_62 : decode prog_1_method_17_code 62 = .ok (.lconst 0, 1) := by decide +kernel
theorem d_T_register_63 : decode prog_1_method_17_code 63 = .ok (.lcmp, 1) := by decide +kernel
theorem d_T_register_64 : decode prog_1_method_17_code 64 = .ok (.ifCond .eq 5, 3) := by decide +kernel
theorem d_T_register_67 : decode prog_1_method_17_code 67 = .ok (.iconst (-1), 1) := by decide +kernel
theorem d_T_register_68 : decode prog_1_method_17_code 68 = .ok (.ireturn, 1) := by decide +kernel
theorem d_T_register_69 : decode prog_1_method_17_code 69 = .ok (.aload_n 0, 1) := by decide +kernel
theorem d_T_register_70 : decode prog_1_method_17_code 70 = .ok (.getfield 19, 3) := by decide +kernel
theorem d_T_register_73 : decode prog_1_method_17_code 73 = .ok (.invokevirtual 96, 3) := by decide +kernel
theorem d_T_register_76 : decode prog_1_method_17_code 76 = .ok (.aload_n 0, 1) := by decide +kernel
theorem d_T_register_77 : decode prog_1_method_17_code 77 = .ok (.getfield 19, 3) := by decide +kernel
theorem d_T_register_80 : decode prog_1_method_17_code 80 = .ok (.lload 4, 2) := by decide +kernel
theorem d_T_register_82 : decode prog_1_method_17_code 82 = .ok (.lload_n 2, 1) := by decide +kernel
theorem d_T_register_83 : decode prog_1_method_17_code 83 = .ok (.invokevirtual 168, 3) := by decide +kernel
theorem d_T_register_86 : decode prog_1_method_17_code 86 = .ok (.iload 6, 2) := by decide +kernel
theorem d_T_register_88 : decode prog_1_method_17_code 88 = .ok (.ireturn, 1) := by decide +kernel
def cf_T_register (a0 : Int32) (a1 : Int64) (w : Wd) (P : Int32 → Wd → Prop) : Prop :=
  cf_Store_isPlace a0 (fun r1 => ((r1 = 0 → P (-1 : Int32) w) ∧ (¬ r1 = 0 → ((a1 < (0 : Int64) → P (-1 : Int32) w) ∧ (¬ a1 < (0 : Int64) → ((a1 ≤ (2147483647 : Int64) → cf_Store_polyAt a0 w (fun r2 => cf_Polys_degree r2 (fun r3 => ((r3 < (1 : Int32) → P (-2 : Int32) w) ∧ (¬ r3 < (1 : Int32) → ((¬ (r2 &&& (1 : Int64)) = (0 : Int64) → (((lshr a1 r3) = (0 : Int64) → cf_Store_remember  w (fun w4 => cf_Store_tellRegister r2 a1 w4 (fun w5 => P r3 w5))) ∧ (¬ (lshr a1 r3) = (0 : Int64) → P (-1 : Int32) w))) ∧ ((r2 &&& (1 : Int64)) = (0 : Int64) → P (-2 : Int32) w))))))) ∧ (¬ a1 ≤ (2147483647 : Int64) → P (-1 : Int32) w)))))))
theorem cf_T_register_ok {g : ayG} {d : Nat} (hd : 3 ≤ d) (a0 : Int32) (a1 : Int64)  (w : Wd) (P : Int32 → Wd → Prop) (h : cf_T_register a0 a1 w P) : Call g y_T_register prog_1_method_17_code 7 (some FieldType.int) d [.ref (g.1 + 0), .int a0, .long a1] w (fun (r : Option Value) (w2 : Wd) => ∃ x, r = some (.int x) ∧ P x w2) := by
  unfold cf_T_register at h
  refine am_enter mi_T_register (Nat.le_of_ble_eq_true rfl) ?_
  have hQ : ∀ x w2, P x w2 → (fun (r : Option Value) (w2 : Wd) => ∃ x, r = some (.int x) ∧ P x w2) (some (.int x)) w2 := fun x w2 h => ⟨x, rfl, h⟩
  generalize (fun (r : Option Value) (w2 : Wd) => ∃ x, r = some (.int x) ∧ P x w2) = Q at hQ ⊢
  show wp g (fun _ => True) y_T_register prog_1_method_17_code 7 (some FieldType.int) d 0 [(0, .ref (g.1 + 0)), (1, .int a0), (2, .long a1)] [] w Q
  refine am_iload_n d_T_register_0 1 rfl ?_
  refine am_callS (d2 := d - 1) [.int a0] d_T_register_1 mi_Store_isPlace wd_453 wd_263 (by omega) rfl rfl (Nat.le_of_ble_eq_true rfl) ?_
  refine Call.post ?_ (cf_Store_isPlace_ok (by omega) a0  w _ h)
  rintro _ _ ⟨r1, rfl, rfl, h⟩
  show wp g (fun _ => True) y_T_register prog_1_method_17_code 7 (some FieldType.int) d 4 [(0, .ref (g.1 + 0)), (1, .int a0), (2, .long a1)] [.int r1] w Q
  refine am_if_eq (tgt := 21) d_T_register_4 (by decide) (fun c4 => ?_) (fun c4 => ?_)
  · have h := h.1 c4
    refine am_iconst (v := -1) d_T_register_21 rfl ?_
    exact am_ireturn d_T_register_22 rfl rfl (hQ (-1 : Int32) w h)
  · have h := h.2 c4
    refine am_lload_n d_T_register_7 2 rfl ?_
    refine am_lconst (v := 0) d_T_register_8 rfl ?_
    refine am_lif_lt (tgt := 21) d_T_register_9 d_T_register_10 (by decide) (fun c9 => ?_) (fun c9 => ?_)
    · have h := h.1 c9
      refine am_iconst (v := -1) d_T_register_21 rfl ?_
      exact am_ireturn d_T_register_22 rfl rfl (hQ (-1 : Int32) w h)
    · have h := h.2 c9
      refine am_lload_n d_T_register_13 2 rfl ?_
      refine am_ldc2 (v := 2147483647) d_T_register_14 wd_551 ?_
      refine am_lif_le (tgt := 23) d_T_register_17 d_T_register_18 (by decide) (fun c17 => ?_) (fun c17 => ?_)
      · have h := h.1 c17
        refine am_aload_n d_T_register_23 0 rfl ?_
        refine am_getf (T := F_T) (fs := ob_T g w 0) (C := R_T) (N := 9) (ci := 0) 1 d_T_register_24 wd_195 rfl (by decide) (el_T (show ay_sh 0 = _ from rfl)) rfl i_T (by decide) rfl ?_
        refine am_iload_n d_T_register_27 1 rfl ?_
        refine am_callV (C := "TriSplits$Store") (d2 := d - 1) [.int a0] d_T_register_28 mi_Store_polyAt wd_468 wd_259 wd_260 (by decide) (el_Store (show ay_sh 6 = _ from rfl)) rfl rfl (by omega) rfl rfl (Nat.le_of_ble_eq_true rfl) ?_
        refine Call.post ?_ (cf_Store_polyAt_ok (by omega) a0  w _ h)
        rintro _ _ ⟨r2, rfl, rfl, h⟩
        show wp g (fun _ => True) y_T_register prog_1_method_17_code 7 (some FieldType.int) d 31 [(0, .ref (g.1 + 0)), (1, .int a0), (2, .long a1)] [.long r2] w Q
        refine am_lstore (l' := [(4, .long r2), (0, .ref (g.1 + 0)), (1, .int a0), (2, .long a1)]) d_T_register_31 (by decide) rfl ?_
        refine am_lload d_T_register_33 0 rfl ?_
        refine am_callS (d2 := d - 1) [.long r2] d_T_register_35 mi_Polys_degree wd_460 wd_391 (by omega) rfl rfl (Nat.le_of_ble_eq_true rfl) ?_
        refine Call.post ?_ (cf_Polys_degree_ok (by omega) r2  w _ h)
        rintro _ _ ⟨r3, rfl, rfl, h⟩
        show wp g (fun _ => True) y_T_register prog_1_method_17_code 7 (some FieldType.int) d 38 [(4, .long r2), (0, .ref (g.1 + 0)), (1, .int a0), (2, .long a1)] [.int r3] w Q
        refine am_istore (l' := [(6, .int r3), (4, .long r2), (0, .ref (g.1 + 0)), (1, .int a0), (2, .long a1)]) d_T_register_38 (by decide) rfl ?_
        refine am_iload d_T_register_40 0 rfl ?_
        refine am_iconst (v := 1) d_T_register_42 rfl ?_
        refine am_icmp_lt (tgt := 55) d_T_register_43 (by decide) (fun c43 => ?_) (fun c43 => ?_)
        · have h := h.1 c43
          refine am_bipush (v := -2) d_T_register_55 rfl ?_
          exact am_ireturn d_T_register_57 rfl rfl (hQ (-2 : Int32) w h)
        · have h := h.2 c43
          refine am_lload d_T_register_46 1 rfl ?_
          refine am_lconst (v := 1) d_T_register_48 rfl ?_
          refine am_land d_T_register_49 ?_
          refine am_lconst (v := 0) d_T_register_50 rfl ?_
          refine am_lif_ne (tgt := 58) d_T_register_51 d_T_register_52 (by decide) (fun c51 => ?_) (fun c51 => ?_)
          · have h := h.1 c51
            refine am_lload_n d_T_register_58 4 rfl ?_
            refine am_iload d_T_register_59 0 rfl ?_
            refine am_lshr d_T_register_61 ?_
            refine am_lconst (v := 0) d_T_register_62 rfl ?_
            refine am_lif_eq (tgt := 69) d_T_register_63 d_T_register_64 (by decide) (fun c63 => ?_) (fun c63 => ?_)
            · have h := h.1 c63
              refine am_aload_n d_T_register_69 2 rfl ?_
              refine am_getf (T := F_T) (fs := ob_T g w 0) (C := R_T) (N := 9) (ci := 0) 1 d_T_register_70 wd_195 rfl (by decide) (el_T (show ay_sh 0 = _ from rfl)) rfl i_T (by decide) rfl ?_
              refine am_callV (C := "TriSplits$Store") (d2 := d - 1) [] d_T_register_73 mi_Store_remember wd_418 wd_419 wd_420 (by decide) (el_Store (show ay_sh 6 = _ from rfl)) rfl rfl (by omega) rfl rfl (Nat.le_of_ble_eq_true rfl) ?_
              refine Call.post ?_ (cf_Store_remember_ok (by omega)   w _ h)
              rintro _ w4 ⟨rfl, h⟩
              show wp g (fun _ => True) y_T_register prog_1_method_17_code 7 (some FieldType.int) d 76 [(6, .int r3), (4, .long r2), (0, .ref (g.1 + 0)), (1, .int a0), (2, .long a1)] [] w4 Q
              refine am_aload_n d_T_register_76 2 rfl ?_
              refine am_getf (T := F_T) (fs := ob_T g w4 0) (C := R_T) (N := 9) (ci := 0) 1 d_T_register_77 wd_195 rfl (by decide) (el_T (show ay_sh 0 = _ from rfl)) rfl i_T (by decide) rfl ?_
              refine am_lload d_T_register_80 1 rfl ?_
              refine am_lload_n d_T_register_82 4 rfl ?_
              refine am_callV (C := "TriSplits$Store") (d2 := d - 1) [.long r2, .long a1] d_T_register_83 mi_Store_tellRegister wd_552 wd_553 wd_554 (by decide) (el_Store (show ay_sh 6 = _ from rfl)) rfl rfl (by omega) rfl rfl (Nat.le_of_ble_eq_true rfl) ?_
              refine Call.post ?_ (cf_Store_tellRegister_ok (by omega) r2 a1  w4 _ h)
              rintro _ w5 ⟨rfl, h⟩
              show wp g (fun _ => True) y_T_register prog_1_method_17_code 7 (some FieldType.int) d 86 [(6, .int r3), (4, .long r2), (0, .ref (g.1 + 0)), (1, .int a0), (2, .long a1)] [] w5 Q
              refine am_iload d_T_register_86 0 rfl ?_
              exact am_ireturn d_T_register_88 rfl rfl (hQ r3 w5 h)
            · have h := h.2 c63
              refine am_iconst (v := -1) d_T_register_67 rfl ?_
              exact am_ireturn d_T_register_68 rfl rfl (hQ (-1 : Int32) w h)
          · have h := h.2 c51
            refine am_bipush (v := -2) d_T_register_55 rfl ?_
            exact am_ireturn d_T_register_57 rfl rfl (hQ (-2 : Int32) w h)
      · have h := h.2 c17
        refine am_iconst (v := -1) d_T_register_21 rfl ?_
        exact am_ireturn d_T_register_22 rfl rfl (hQ (-1 : Int32) w h)
theorem d_T_step_0 : decode prog_1_method_18_code 0 = .ok (.iload_n 1, 1) := by decide +kernel
theorem d_T_step_1 : decode prog_1_method_18_code 1 = .ok (.iconst 1, 1) := by decide +kernel
theorem d_T_step_2 : decode prog_1_method_18_code 2 = .ok (.if_icmp .lt 9, 3) := by decide +kernel
theorem d_T_step_5 : decode prog_1_method_18_code 5 = .ok (.iload_n 1, 1) := by decide +kernel
theorem d_T_step_6 : decode prog_1_method_18_code 6 = .ok (.bipush 60, 2) := by decide +kernel
theorem d_T_step_8 : decode prog_1_method_18_code 8 = .ok (.if_icmp .le 7, 3) := by decide +kernel
theorem d_T_step_11 : decode prog_1_method_18_code 11 = .ok (.ldc2_w 172, 3) := by decide +kernel
theorem d_T_step_14 : decode prog_1_method_18_code 14 = .ok (.lreturn, 1) := by decide +kernel
theorem d_T_step_15 : decode prog_1_method_18_code 15 = .ok (.aload_n 0, 1) := by decide +kernel
theorem d_T_step_16 : decode prog_1_method_18_code 16 = .ok (.getfield 19, 3) := by decide +kernel
theorem d_T_step_19 : decode prog_1_method_18_code 19 = .ok (.invokevirtual 174, 3) := by decide +kernel
theorem d_T_step_22 : decode prog_1_method_18_code 22 = .ok (.ifCond .ne 7, 3) := by decide +kernel
theorem d_T_step_25 : decode prog_1_method_18_code 25 = .ok (.ldc2_w 178, 3) := by decide +kernel
theorem d_T_step_28 : decode prog_1_method_18_code 28 = .ok (.lreturn, 1) := by decide +kernel
theorem d_T_step_29 : decode prog_1_method_18_code 29 = .ok (.aload_n 0, 1) := by decide +kernel
theorem d_T_step_30 : decode prog_1_method_18_code 30 = .ok (.getfield 19, 3) := by decide +kernel
theorem d_T_step_33 : decode prog_1_method_18_code 33 = .ok (.invokevirtual 180, 3) := by decide +kernel
theorem d_T_step_36 : decode prog_1_method_18_code 36 = .ok (.lstore_n 2, 1) := by decide +kernel
theorem d_T_step_37 : decode prog_1_method_18_code 37 = .ok (.lconst 0, 1) := by decide +kernel
theorem d_T_step_38 : decode prog_1_method_18_code 38 = .ok (.lstore 4, 2) := by decide +kernel
theorem d_T_step_40 : decode prog_1_method_18_code 40 = .ok (.iconst 0, 1) := by decide +kernel
theorem d_T_step_41 : decode prog_1_method_18_code 41 = .ok (.istore 6, 2) := by decide +kernel
theorem d_T_step_43 : decode prog_1_method_18_code 43 = .ok (.iload 6, 2) := by decide +kernel
theorem d_T_step_45 : decode prog_1_method_18_code 45 = .ok (.iload_n 1, 1) := by decide +kernel
theorem d_T_step_46 : decode prog_1_method_18_code 46 = .ok (.if_icmp .ge 32, 3) := by decide +kernel
theorem d_T_step_49 : decode prog_1_method_18_code 49 = .ok (.lload 4, 2) := by decide +kernel
theorem d_T_step_51 : decode prog_1_method_18_code 51 = .ok (.lload_n 2, 1) := by decide +kernel
theorem d_T_step_52 : decode prog_1_method_18_code 52 = .ok (.lconst 1, 1) := by decide +kernel
theorem d_T_step_53 : decode prog_1_method_18_code 53 = .ok (.land, 1) := by decide +kernel
theorem d_T_step_54 : decode prog_1_method_18_code 54 = .ok (.iload 6, 2) := by decide +kernel
theorem d_T_step_56 : decode prog_1_method_18_code 56 = .ok (.lshl, 1) := by decide +kernel
theorem d_T_step_57 : decode prog_1_method_18_code 57 = .ok (.lor, 1) := by decide +kernel
theorem d_T_step_58 : decode prog_1_method_18_code 58 = .ok (.lstore 4, 2) := by decide +kernel
theorem d_T_step_60 : decode prog_1_method_18_code 60 = .ok (.aload_n 0, 1) := by decide +kernel
theorem d_T_step_61 : decode prog_1_method_18_code 61 = .ok (.getfield 19, 3) := by decide +kernel
theorem d_T_step_64 : decode prog_1_method_18_code 64 = .ok (.invokevirtual 184, 3) := by decide +kernel
theorem d_T_step_67 : decode prog_1_method_18_code 67 = .ok (.lload_n 2, 1) := by decide +kernel
theorem d_T_step_68 : decode prog_1_method_18_code 68 = .ok (.invokestatic 187, 3) := by decide +kernel
theorem d_T_step_71 : decode prog_1_method_18_code 71 = .ok (.lstore_n 2, 1) := by decide +kernel
theorem d_T_step_72 : decode prog_1_method_18_code 72 = .ok (.iinc 6 1, 3) := by decide +kernel
theorem d_T_step_75 : decode prog_1_method_18_code 75 = .ok (.goto (-32), 3) := by decide +kernel
theorem d_T_step_78 : decode prog_1_method_18_code 78 = .ok (.aload_n 0, 1) := by decide +kernel
theorem d_T_step_79 : decode prog_1_method_18_code 79 = .ok (.getfield 19, 3) := by decide +kernel
theorem d_T_step_82 : decode prog_1_method_18_code 82 = .ok (.invokevirtual 96, 3) := by decide +kernel
theorem d_T_step_85 : decode prog_1_method_18_code 85 = .ok (.aload_n 0, 1) := by decide +kernel
theorem d_T_step_86 : decode prog_1_method_18_code 86 = .ok (.getfield 19, 3) := by decide +kernel
theorem d_T_step_89 : decode prog_1_method_18_code 89 = .ok (.lload_n 2, 1) := by decide +kernel
theorem d_T_step_90 : decode prog_1_method_18_code 90 = .ok (.iload_n 1, 1) := by decide +kernel
theorem d_T_step_91 : decode prog_1_method_18_code 91 = .ok (.invokevirtual 192, 3) := by decide +kernel
theorem d_T_step_94 : decode prog_1_method_18_code 94 = .ok (.lload 4, 2) := by decide +kernel
theorem d_T_step_96 : decode prog_1_method_18_code 96 = .ok (.lreturn, 1) := by decide +kernel
def cf_T_step_B43  (K43 : Int32 → Int64 → Int64 → Int32 → Wd → Prop) (P : Int64 → Wd → Prop) (x1 : Int32) (x2 : Int64) (x4 : Int64) (x6 : Int32) (w : Wd) : Prop :=
  ((x1 ≤ x6 → cf_Store_remember  w (fun w3 => cf_Store_stepRegister x2 x1 w3 (fun w4 => P x4 w4))) ∧ (¬ x1 ≤ x6 → ∀ v5, v5 = x4 ||| (lshl (x2 &&& (1 : Int64)) x6) → cf_Store_rule  w (fun r6 => cf_Shifts_after r6 x2 (fun r7 => ∀ v8, v8 = x6 + (1 : Int32) → K43 x1 r7 v5 v8 w))))
def cf_T_step_L43   (P : Int64 → Wd → Prop) : Nat → Int32 → Int64 → Int64 → Int32 → Wd → Prop
  | 0 => fun x1 x2 x4 x6 w => False
  | n + 1 => fun x1 x2 x4 x6 w => cf_T_step_B43 (cf_T_step_L43 P n) P x1 x2 x4 x6 w
def cf_T_step (a0 : Int32) (w : Wd) (P : Int64 → Wd → Prop) : Prop :=
  ((a0 < (1 : Int32) → P (-1 : Int64) w) ∧ (¬ a0 < (1 : Int32) → ((a0 ≤ (60 : Int32) → cf_Store_hasRegister  w (fun r1 => ((¬ r1 = 0 → cf_Store_state  w (fun r2 => ∃ n, cf_T_step_L43 P n a0 r2 (0 : Int64) (0 : Int32) w)) ∧ (r1 = 0 → P (-2 : Int64) w)))) ∧ (¬ a0 ≤ (60 : Int32) → P (-1 : Int64) w))))
theorem cf_T_step_B43_ok {g : ayG} {d : Nat} (hd : 4 ≤ d)   (w : Wd) (K43 : Int32 → Int64 → Int64 → Int32 → Wd → Prop) (P : Int64 → Wd → Prop) (Q : Option Value → Wd → Prop) (hQ : ∀ x w2, P x w2 → Q (some (.long x)) w2) (hK43 : ∀ (x1 : Int32) (x2 : Int64) (x4 : Int64) (x6 : Int32) (w : Wd), (K43 x1 x2 x4 x6 w → wp g (fun _ => True) y_T_step prog_1_method_18_code 7 (some FieldType.long) d 43 [(0, .ref (g.1 + 0)), (1, .int x1), (2, .long x2), (4, .long x4), (6, .int x6)] [] w Q)) (x1 : Int32) (x2 : Int64) (x4 : Int64) (x6 : Int32) (h : cf_T_step_B43 K43 P x1 x2 x4 x6 w) : wp g (fun _ => True) y_T_step prog_1_method_18_code 7 (some FieldType.long) d 43 [(0, .ref (g.1 + 0)), (1, .int x1), (2, .long x2), (4, .long x4), (6, .int x6)] [] w Q := by
  unfold cf_T_step_B43 at h
  refine am_iload d_T_step_43 4 rfl ?_
  refine am_iload_n d_T_step_45 1 rfl ?_
  refine am_icmp_ge (tgt := 78) d_T_step_46 (by decide) (fun c46 => ?_) (fun c46 => ?_)
  · have h := h.1 c46
    refine am_aload_n d_T_step_78 0 rfl ?_
    refine am_getf (T := F_T) (fs := ob_T g w 0) (C := R_T) (N := 9) (ci := 0) 1 d_T_step_79 wd_195 rfl (by decide) (el_T (show ay_sh 0 = _ from rfl)) rfl i_T (by decide) rfl ?_
    refine am_callV (C := "TriSplits$Store") (d2 := d - 1) [] d_T_step_82 mi_Store_remember wd_418 wd_419 wd_420 (by decide) (el_Store (show ay_sh 6 = _ from rfl)) rfl rfl (by omega) rfl rfl (Nat.le_of_ble_eq_true rfl) ?_
    refine Call.post ?_ (cf_Store_remember_ok (by omega)   w _ h)
    rintro _ w3 ⟨rfl, h⟩
    show wp g (fun _ => True) y_T_step prog_1_method_18_code 7 (some FieldType.long) d 85 [(0, .ref (g.1 + 0)), (1, .int x1), (2, .long x2), (4, .long x4), (6, .int x6)] [] w3 Q
    refine am_aload_n d_T_step_85 0 rfl ?_
    refine am_getf (T := F_T) (fs := ob_T g w3 0) (C := R_T) (N := 9) (ci := 0) 1 d_T_step_86 wd_195 rfl (by decide) (el_T (show ay_sh 0 = _ from rfl)) rfl i_T (by decide) rfl ?_
    refine am_lload_n d_T_step_89 2 rfl ?_
    refine am_iload_n d_T_step_90 1 rfl ?_
    refine am_callV (C := "TriSplits$Store") (d2 := d - 1) [.long x2, .int x1] d_T_step_91 mi_Store_stepRegister wd_587 wd_588 wd_589 (by decide) (el_Store (show ay_sh 6 = _ from rfl)) rfl rfl (by omega) rfl rfl (Nat.le_of_ble_eq_true rfl) ?_
    refine Call.post ?_ (cf_Store_stepRegister_ok (by omega) x2 x1  w3 _ h)
    rintro _ w4 ⟨rfl, h⟩
    show wp g (fun _ => True) y_T_step prog_1_method_18_code 7 (some FieldType.long) d 94 [(0, .ref (g.1 + 0)), (1, .int x1), (2, .long x2), (4, .long x4), (6, .int x6)] [] w4 Q
    refine am_lload d_T_step_94 3 rfl ?_
    exact am_lreturn d_T_step_96 rfl (hQ x4 w4 h)
  · have h := h.2 c46
    refine am_lload d_T_step_49 3 rfl ?_
    refine am_lload_n d_T_step_51 2 rfl ?_
    refine am_lconst (v := 1) d_T_step_52 rfl ?_
    refine am_land d_T_step_53 ?_
    refine am_iload d_T_step_54 4 rfl ?_
    refine am_lshl d_T_step_56 ?_
    refine am_lor d_T_step_57 ?_
    refine am_topl (fun v5 ev5 => ?_)
    have h := h v5 ev5
    refine am_lstore (l' := [(4, .long v5), (0, .ref (g.1 + 0)), (1, .int x1), (2, .long x2), (6, .int x6)]) d_T_step_58 (by decide) rfl ?_
    refine am_aload_n d_T_step_60 1 rfl ?_
    refine am_getf (T := F_T) (fs := ob_T g w 0) (C := R_T) (N := 9) (ci := 0) 1 d_T_step_61 wd_195 rfl (by decide) (el_T (show ay_sh 0 = _ from rfl)) rfl i_T (by decide) rfl ?_
    refine am_callV (C := "TriSplits$Store") (d2 := d - 1) [] d_T_step_64 mi_Store_rule wd_570 wd_571 wd_572 (by decide) (el_Store (show ay_sh 6 = _ from rfl)) rfl rfl (by omega) rfl rfl (Nat.le_of_ble_eq_true rfl) ?_
    refine Call.post ?_ (cf_Store_rule_ok (by omega)   w _ h)
    rintro _ _ ⟨r6, rfl, rfl, h⟩
    show wp g (fun _ => True) y_T_step prog_1_method_18_code 7 (some FieldType.long) d 67 [(4, .long v5), (0, .ref (g.1 + 0)), (1, .int x1), (2, .long x2), (6, .int x6)] [.long r6] w Q
    refine am_lload_n d_T_step_67 3 rfl ?_
    refine am_callS (d2 := d - 1) [.long r6, .long x2] d_T_step_68 mi_Shifts_after wd_574 wd_575 (by omega) rfl rfl (Nat.le_of_ble_eq_true rfl) ?_
    refine Call.post ?_ (cf_Shifts_after_ok (by omega) r6 x2  w _ h)
    rintro _ _ ⟨r7, rfl, rfl, h⟩
    show wp g (fun _ => True) y_T_step prog_1_method_18_code 7 (some FieldType.long) d 71 [(4, .long v5), (0, .ref (g.1 + 0)), (1, .int x1), (2, .long x2), (6, .int x6)] [.long r7] w Q
    refine am_lstore_n (l' := [(2, .long r7), (4, .long v5), (0, .ref (g.1 + 0)), (1, .int x1), (6, .int x6)]) d_T_step_71 (by decide) rfl ?_
    obtain ⟨v8, ev8⟩ : ∃ z : Int32, z = x6 + (1 : Int32) := ⟨_, rfl⟩
    have h := h v8 ev8
    refine am_iinc (v := v8) (l' := [(6, .int v8), (2, .long r7), (4, .long v5), (0, .ref (g.1 + 0)), (1, .int x1)]) d_T_step_72 4 rfl (by rw [ev8]; rfl) (by decide) rfl ?_
    refine am_goto (tgt := 43) d_T_step_75 (by decide) ?_
    refine am_sub [3, 4, 1, 2, 0] rfl ?_
    exact hK43 x1 r7 v5 v8 w h
theorem cf_T_step_L43_ok {g : ayG} {d : Nat} (hd : 4 ≤ d)    (P : Int64 → Wd → Prop) (Q : Option Value → Wd → Prop) (hQ : ∀ x w2, P x w2 → Q (some (.long x)) w2)  : ∀ (n : Nat) (x1 : Int32) (x2 : Int64) (x4 : Int64) (x6 : Int32) (w : Wd) (h : cf_T_step_L43 P n x1 x2 x4 x6 w), wp g (fun _ => True) y_T_step prog_1_method_18_code 7 (some FieldType.long) d 43 [(0, .ref (g.1 + 0)), (1, .int x1), (2, .long x2), (4, .long x4), (6, .int x6)] [] w Q
  | 0, x1, x2, x4, x6, w, h => False.elim h
  | n + 1, x1, x2, x4, x6, w, h => cf_T_step_B43_ok hd   w (cf_T_step_L43 P n) P Q hQ (fun x1 x2 x4 x6 w h => cf_T_step_L43_ok hd    P Q hQ  n x1 x2 x4 x6 w h) x1 x2 x4 x6 h
theorem cf_T_step_ok {g : ayG} {d : Nat} (hd : 4 ≤ d) (a0 : Int32)  (w : Wd) (P : Int64 → Wd → Prop) (h : cf_T_step a0 w P) : Call g y_T_step prog_1_method_18_code 7 (some FieldType.long) d [.ref (g.1 + 0), .int a0] w (fun (r : Option Value) (w2 : Wd) => ∃ x, r = some (.long x) ∧ P x w2) := by
  unfold cf_T_step at h
  refine am_enter mi_T_step (Nat.le_of_ble_eq_true rfl) ?_
  have hQ : ∀ x w2, P x w2 → (fun (r : Option Value) (w2 : Wd) => ∃ x, r = some (.long x) ∧ P x w2) (some (.long x)) w2 := fun x w2 h => ⟨x, rfl, h⟩
  generalize (fun (r : Option Value) (w2 : Wd) => ∃ x, r = some (.long x) ∧ P x w2) = Q at hQ ⊢
  show wp g (fun _ => True) y_T_step prog_1_method_18_code 7 (some FieldType.long) d 0 [(0, .ref (g.1 + 0)), (1, .int a0)] [] w Q
  refine am_iload_n d_T_step_0 1 rfl ?_
  refine am_iconst (v := 1) d_T_step_1 rfl ?_
  refine am_icmp_lt (tgt := 11) d_T_step_2 (by decide) (fun c2 => ?_) (fun c2 => ?_)
  · have h := h.1 c2
    refine am_ldc2 (v := -1) d_T_step_11 wd_560 ?_
    exact am_lreturn d_T_step_14 rfl (hQ (-1 : Int64) w h)
  · have h := h.2 c2
    refine am_iload_n d_T_step_5 1 rfl ?_
    refine am_bipush (v := 60) d_T_step_6 rfl ?_
    refine am_icmp_le (tgt := 15) d_T_step_8 (by decide) (fun c8 => ?_) (fun c8 => ?_)
    · have h := h.1 c8
      refine am_aload_n d_T_step_15 0 rfl ?_
      refine am_getf (T := F_T) (fs := ob_T g w 0) (C := R_T) (N := 9) (ci := 0) 1 d_T_step_16 wd_195 rfl (by decide) (el_T (show ay_sh 0 = _ from rfl)) rfl i_T (by decide) rfl ?_
      refine am_callV (C := "TriSplits$Store") (d2 := d - 1) [] d_T_step_19 mi_Store_hasRegister wd_561 wd_562 wd_563 (by decide) (el_Store (show ay_sh 6 = _ from rfl)) rfl rfl (by omega) rfl rfl (Nat.le_of_ble_eq_true rfl) ?_
      refine Call.post ?_ (cf_Store_hasRegister_ok (by omega)   w _ h)
      rintro _ _ ⟨r1, rfl, rfl, h⟩
      show wp g (fun _ => True) y_T_step prog_1_method_18_code 7 (some FieldType.long) d 22 [(0, .ref (g.1 + 0)), (1, .int a0)] [.int r1] w Q
      refine am_if_ne (tgt := 29) d_T_step_22 (by decide) (fun c22 => ?_) (fun c22 => ?_)
      · have h := h.1 c22
        refine am_aload_n d_T_step_29 0 rfl ?_
        refine am_getf (T := F_T) (fs := ob_T g w 0) (C := R_T) (N := 9) (ci := 0) 1 d_T_step_30 wd_195 rfl (by decide) (el_T (show ay_sh 0 = _ from rfl)) rfl i_T (by decide) rfl ?_
        refine am_callV (C := "TriSplits$Store") (d2 := d - 1) [] d_T_step_33 mi_Store_state wd_566 wd_567 wd_568 (by decide) (el_Store (show ay_sh 6 = _ from rfl)) rfl rfl (by omega) rfl rfl (Nat.le_of_ble_eq_true rfl) ?_
        refine Call.post ?_ (cf_Store_state_ok (by omega)   w _ h)
        rintro _ _ ⟨r2, rfl, rfl, h⟩
        show wp g (fun _ => True) y_T_step prog_1_method_18_code 7 (some FieldType.long) d 36 [(0, .ref (g.1 + 0)), (1, .int a0)] [.long r2] w Q
        refine am_lstore_n (l' := [(2, .long r2), (0, .ref (g.1 + 0)), (1, .int a0)]) d_T_step_36 (by decide) rfl ?_
        refine am_lconst (v := 0) d_T_step_37 rfl ?_
        refine am_lstore (l' := [(4, .long (0 : Int64)), (2, .long r2), (0, .ref (g.1 + 0)), (1, .int a0)]) d_T_step_38 (by decide) rfl ?_
        refine am_iconst (v := 0) d_T_step_40 rfl ?_
        refine am_istore (l' := [(6, .int (0 : Int32)), (4, .long (0 : Int64)), (2, .long r2), (0, .ref (g.1 + 0)), (1, .int a0)]) d_T_step_41 (by decide) rfl ?_
        refine am_sub [3, 4, 2, 1, 0] rfl ?_
        obtain ⟨n, h⟩ := h
        exact cf_T_step_L43_ok (by omega)    P Q hQ  n a0 r2 (0 : Int64) (0 : Int32) w h
      · have h := h.2 c22
        refine am_ldc2 (v := -2) d_T_step_25 wd_565 ?_
        exact am_lreturn d_T_step_28 rfl (hQ (-2 : Int64) w h)
    · have h := h.2 c8
      refine am_ldc2 (v := -1) d_T_step_11 wd_560 ?_
      exact am_lreturn d_T_step_14 rfl (hQ (-1 : Int64) w h)
theorem d_T_jump_0 : decode prog_1_method_19_code 0 = .ok (.iload_n 1, 1) := by decide +kernel
theorem d_T_jump_1 : decode prog_1_method_19_code 1 = .ok (.iconst 1, 1) := by decide +kernel
theorem d_T_jump_2 : decode prog_1_method_19_code 2 = .ok (.if_icmp .lt 9, 3) := by decide +kernel
theorem d_T_jump_5 : decode prog_1_method_19_code 5 = .ok (.iload_n 1, 1) := by decide +kernel
theorem d_T_jump_6 : decode prog_1_method_19_code 6 = .ok (.ldc 196, 2) := by decide +kernel
theorem d_T_jump_8 : decode prog_1_method_19_code 8 = .ok (.if_icmp .le 7, 3) := by decide +kernel
theorem d_T_jump_11 : decode prog_1_method_19_code 11 = .ok (.ldc2_w 172, 3) := by decide +kernel
theorem d_T_jump_14 : decode prog_1_method_19_code 14 = .ok (.lreturn, 1) := by decide +kernel
theorem d_T_jump_15 : decode prog_1_method_19_code 15 = .ok (.aload_n 0, 1) := by decide +kernel
theorem d_T_jump_16 : decode prog_1_method_19_code 16 = .ok (.getfield 19, 3) := by decide +kernel
theorem d_T_jump_19 : decode prog_1_method_19_code 19 = .ok (.invokevirtual 174, 3) := by decide +kernel
theorem d_T_jump_22 : decode prog_1_method_19_code 22 = .ok (.ifCond .ne 7, 3) := by decide +kernel
theorem d_T_jump_25 : decode prog_1_method_19_code 25 = .ok (.ldc2_w 178, 3) := by decide +kernel
theorem d_T_jump_28 : decode prog_1_method_19_code 28 = .ok (.lreturn, 1) := by decide +kernel
theorem d_T_jump_29 : decode prog_1_method_19_code 29 = .ok (.aload_n 0, 1) := by decide +kernel
theorem d_T_jump_30 : decode prog_1_method_19_code 30 = .ok (.getfield 19, 3) := by decide +kernel
theorem d_T_jump_33 : decode prog_1_method_19_code 33 = .ok (.invokevirtual 184, 3) := by decide +kernel
theorem d_T_jump_36 : decode prog_1_method_19_code 36 = .ok (.aload_n 0, 1) := by decide +kernel
theorem d_T_jump_37 : decode prog_1_method_19_code 37 = .ok (.getfield 19, 3) := by decide +kernel
theorem d_T_jump_40 : decode prog_1_method_19_code 40 = .ok (.invokevirtual 180, 3) := by decide +kernel
theorem d_T_jump_43 : decode prog_1_method_19_code 43 = .ok (.iload_n 1, 1) := by decide +kernel
theorem d_T_jump_44 : decode prog_1_method_19_code 44 = .ok (.i2l, 1) := by decide +kernel
theorem d_T_jump_45 : decode prog_1_method_19_code 45 = .ok (.invokestatic 197, 3) := by decide +kernel
theorem d_T_jump_48 : decode prog_1_method_19_code 48 = .ok (.lstore_n 2, 1) := by decide +kernel
theorem d_T_jump_49 : decode prog_1_method_19_code 49 = .ok (.aload_n 0, 1) := by decide +kernel
theorem d_T_jump_50 : decode prog_1_method_19_code 50 = .ok (.getfield 19, 3) := by decide +kernel
theorem d_T_jump_53 : decode prog_1_method_19_code 53 = .ok (.invokevirtual 96, 3) := by decide +kernel
theorem d_T_jump_56 : decode prog_1_method_19_code 56 = .ok (.aload_n 0, 1) := by decide +kernel
theorem d_T_jump_57 : decode prog_1_method_19_code 57 = .ok (.getfield 19, 3) := by decide +kernel
theorem d_T_jump_60 : decode prog_1_method_19_code 60 = .ok (.lload_n 2, 1) := by decide +kernel
theorem d_T_jump_61 : decode prog_1_method_19_code 61 = .ok (.iload_n 1, 1) := by decide +kernel
theorem d_T_jump_62 : decode prog_1_method_19_code 62 = .ok (.invokevirtual 192, 3) := by decide +kernel
theorem d_T_jump_65 : decode prog_1_method_19_code 65 = .ok (.lload_n 2, 1) := by decide +kernel
theorem d_T_jump_66 : decode prog_1_method_19_code 66 = .ok (.lreturn, 1) := by decide +kernel
def cf_T_jump (a0 : Int32) (w : Wd) (P : Int64 → Wd → Prop) : Prop :=
  ((a0 < (1 : Int32) → P (-1 : Int64) w) ∧ (¬ a0 < (1 : Int32) → ((a0 ≤ (1000000000 : Int32) → cf_Store_hasRegister  w (fun r1 => ((¬ r1 = 0 → cf_Store_rule  w (fun r2 => cf_Store_state  w (fun r3 => cf_Shifts_behind r2 r3 a0.toInt64 (fun r4 => cf_Store_remember  w (fun w5 => cf_Store_stepRegister r4 a0 w5 (fun w6 => P r4 w6)))))) ∧ (r1 = 0 → P (-2 : Int64) w)))) ∧ (¬ a0 ≤ (1000000000 : Int32) → P (-1 : Int64) w))))
theorem cf_T_jump_ok {g : ayG} {d : Nat} (hd : 5 ≤ d) (a0 : Int32)  (w : Wd) (P : Int64 → Wd → Prop) (h : cf_T_jump a0 w P) : Call g y_T_jump prog_1_method_19_code 4 (some FieldType.long) d [.ref (g.1 + 0), .int a0] w (fun (r : Option Value) (w2 : Wd) => ∃ x, r = some (.long x) ∧ P x w2) := by
  unfold cf_T_jump at h
  refine am_enter mi_T_jump (Nat.le_of_ble_eq_true rfl) ?_
  have hQ : ∀ x w2, P x w2 → (fun (r : Option Value) (w2 : Wd) => ∃ x, r = some (.long x) ∧ P x w2) (some (.long x)) w2 := fun x w2 h => ⟨x, rfl, h⟩
  generalize (fun (r : Option Value) (w2 : Wd) => ∃ x, r = some (.long x) ∧ P x w2) = Q at hQ ⊢
  show wp g (fun _ => True) y_T_jump prog_1_method_19_code 4 (some FieldType.long) d 0 [(0, .ref (g.1 + 0)), (1, .int a0)] [] w Q
  refine am_iload_n d_T_jump_0 1 rfl ?_
  refine am_iconst (v := 1) d_T_jump_1 rfl ?_
  refine am_icmp_lt (tgt := 11) d_T_jump_2 (by decide) (fun c2 => ?_) (fun c2 => ?_)
  · have h := h.1 c2
    refine am_ldc2 (v := -1) d_T_jump_11 wd_560 ?_
    exact am_lreturn d_T_jump_14 rfl (hQ (-1 : Int64) w h)
  · have h := h.2 c2
    refine am_iload_n d_T_jump_5 1 rfl ?_
    refine am_ldc (v := 1000000000) d_T_jump_6 wd_595 ?_
    refine am_icmp_le (tgt := 15) d_T_jump_8 (by decide) (fun c8 => ?_) (fun c8 => ?_)
    · have h := h.1 c8
      refine am_aload_n d_T_jump_15 0 rfl ?_
      refine am_getf (T := F_T) (fs := ob_T g w 0) (C := R_T) (N := 9) (ci := 0) 1 d_T_jump_16 wd_195 rfl (by decide) (el_T (show ay_sh 0 = _ from rfl)) rfl i_T (by decide) rfl ?_
      refine am_callV (C := "TriSplits$Store") (d2 := d - 1) [] d_T_jump_19 mi_Store_hasRegister wd_561 wd_562 wd_563 (by decide) (el_Store (show ay_sh 6 = _ from rfl)) rfl rfl (by omega) rfl rfl (Nat.le_of_ble_eq_true rfl) ?_
      refine Call.post ?_ (cf_Store_hasRegister_ok (by omega)   w _ h)
      rintro _ _ ⟨r1, rfl, rfl, h⟩
      show wp g (fun _ => True) y_T_jump prog_1_method_19_code 4 (some FieldType.long) d 22 [(0, .ref (g.1 + 0)), (1, .int a0)] [.int r1] w Q
      refine am_if_ne (tgt := 29) d_T_jump_22 (by decide) (fun c22 => ?_) (fun c22 => ?_)
      · have h := h.1 c22
        refine am_aload_n d_T_jump_29 0 rfl ?_
        refine am_getf (T := F_T) (fs := ob_T g w 0) (C := R_T) (N := 9) (ci := 0) 1 d_T_jump_30 wd_195 rfl (by decide) (el_T (show ay_sh 0 = _ from rfl)) rfl i_T (by decide) rfl ?_
        refine am_callV (C := "TriSplits$Store") (d2 := d - 1) [] d_T_jump_33 mi_Store_rule wd_570 wd_571 wd_572 (by decide) (el_Store (show ay_sh 6 = _ from rfl)) rfl rfl (by omega) rfl rfl (Nat.le_of_ble_eq_true rfl) ?_
        refine Call.post ?_ (cf_Store_rule_ok (by omega)   w _ h)
        rintro _ _ ⟨r2, rfl, rfl, h⟩
        show wp g (fun _ => True) y_T_jump prog_1_method_19_code 4 (some FieldType.long) d 36 [(0, .ref (g.1 + 0)), (1, .int a0)] [.long r2] w Q
        refine am_aload_n d_T_jump_36 0 rfl ?_
        refine am_getf (T := F_T) (fs := ob_T g w 0) (C := R_T) (N := 9) (ci := 0) 1 d_T_jump_37 wd_195 rfl (by decide) (el_T (show ay_sh 0 = _ from rfl)) rfl i_T (by decide) rfl ?_
        refine am_callV (C := "TriSplits$Store") (d2 := d - 1) [] d_T_jump_40 mi_Store_state wd_566 wd_567 wd_568 (by decide) (el_Store (show ay_sh 6 = _ from rfl)) rfl rfl (by omega) rfl rfl (Nat.le_of_ble_eq_true rfl) ?_
        refine Call.post ?_ (cf_Store_state_ok (by omega)   w _ h)
        rintro _ _ ⟨r3, rfl, rfl, h⟩
        show wp g (fun _ => True) y_T_jump prog_1_method_19_code 4 (some FieldType.long) d 43 [(0, .ref (g.1 + 0)), (1, .int a0)] [.long r3, .long r2] w Q
        refine am_iload_n d_T_jump_43 1 rfl ?_
        refine am_i2l d_T_jump_44 ?_
        refine am_callS (d2 := d - 1) [.long r2, .long r3, .long a0.toInt64] d_T_jump_45 mi_Shifts_behind wd_596 wd_597 (by omega) rfl rfl (Nat.le_of_ble_eq_true rfl) ?_
        refine Call.post ?_ (cf_Shifts_behind_ok (by omega) r2 r3 a0.toInt64  w _ h)
        rintro _ _ ⟨r4, rfl, rfl, h⟩
        show wp g (fun _ => True) y_T_jump prog_1_method_19_code 4 (some FieldType.long) d 48 [(0, .ref (g.1 + 0)), (1, .int a0)] [.long r4] w Q
        refine am_lstore_n (l' := [(2, .long r4), (0, .ref (g.1 + 0)), (1, .int a0)]) d_T_jump_48 (by decide) rfl ?_
        refine am_aload_n d_T_jump_49 1 rfl ?_
        refine am_getf (T := F_T) (fs := ob_T g w 0) (C := R_T) (N := 9) (ci := 0) 1 d_T_jump_50 wd_195 rfl (by decide) (el_T (show ay_sh 0 = _ from rfl)) rfl i_T (by decide) rfl ?_
        refine am_callV (C := "TriSplits$Store") (d2 := d - 1) [] d_T_jump_53 mi_Store_remember wd_418 wd_419 wd_420 (by decide) (el_Store (show ay_sh 6 = _ from rfl)) rfl rfl (by omega) rfl rfl (Nat.le_of_ble_eq_true rfl) ?_
        refine Call.post ?_ (cf_Store_remember_ok (by omega)   w _ h)
        rintro _ w5 ⟨rfl, h⟩
        show wp g (fun _ => True) y_T_jump prog_1_method_19_code 4 (some FieldType.long) d 56 [(2, .long r4), (0, .ref (g.1 + 0)), (1, .int a0)] [] w5 Q
        refine am_aload_n d_T_jump_56 1 rfl ?_
        refine am_getf (T := F_T) (fs := ob_T g w5 0) (C := R_T) (N := 9) (ci := 0) 1 d_T_jump_57 wd_195 rfl (by decide) (el_T (show ay_sh 0 = _ from rfl)) rfl i_T (by decide) rfl ?_
        refine am_lload_n d_T_jump_60 0 rfl ?_
        refine am_iload_n d_T_jump_61 2 rfl ?_
        refine am_callV (C := "TriSplits$Store") (d2 := d - 1) [.long r4, .int a0] d_T_jump_62 mi_Store_stepRegister wd_587 wd_588 wd_589 (by decide) (el_Store (show ay_sh 6 = _ from rfl)) rfl rfl (by omega) rfl rfl (Nat.le_of_ble_eq_true rfl) ?_
        refine Call.post ?_ (cf_Store_stepRegister_ok (by omega) r4 a0  w5 _ h)
        rintro _ w6 ⟨rfl, h⟩
        show wp g (fun _ => True) y_T_jump prog_1_method_19_code 4 (some FieldType.long) d 65 [(2, .long r4), (0, .ref (g.1 + 0)), (1, .int a0)] [] w6 Q
        refine am_lload_n d_T_jump_65 0 rfl ?_
        exact am_lreturn d_T_jump_66 rfl (hQ r4 w6 h)
      · have h := h.2 c22
        refine am_ldc2 (v := -2) d_T_jump_25 wd_565 ?_
        exact am_lreturn d_T_jump_28 rfl (hQ (-2 : Int64) w h)
    · have h := h.2 c8
      refine am_ldc2 (v := -1) d_T_jump_11 wd_560 ?_
      exact am_lreturn d_T_jump_14 rfl (hQ (-1 : Int64) w h)
theorem d_T_undo_0 : decode prog_1_method_20_code 0 = .ok (.aload_n 0, 1) := by decide +kernel
theorem d_T_undo_1 : decode prog_1_method_20_code 1 = .ok (.getfield 19, 3) := by decide +kernel
theorem d_T_undo_4 : decode prog_1_method_20_code 4 = .ok (.invokevirtual 200, 3) := by decide +kernel
theorem d_T_undo_7 : decode prog_1_method_20_code 7 = .ok (.ifCond .eq 13, 3) := by decide +kernel
theorem d_T_undo_10 : decode prog_1_method_20_code 10 = .ok (.aload_n 0, 1) := by decide +kernel
theorem d_T_undo_11 : decode prog_1_method_20_code 11 = .ok (.getfield 19, 3) := by decide +kernel
theorem d_T_undo_14 : decode prog_1_method_20_code 14 = .ok (.invokevirtual 203, 3) := by decide +kernel
theorem d_T_undo_17 : decode prog_1_method_20_code 17 = .ok (.goto 4, 3) := by decide +kernel
theorem d_T_undo_20 : decode prog_1_method_20_code 20 = .ok (.iconst (-1), 1) := by decide +kernel
theorem d_T_undo_21 : decode prog_1_method_20_code 21 = .ok (.ireturn, 1) := by decide +kernel
def cf_T_undo  (w : Wd) (P : Int32 → Wd → Prop) : Prop :=
  cf_Store_goBack  w (fun r1 w2 => ((r1 = 0 → P (-1 : Int32) w2) ∧ (¬ r1 = 0 → cf_Store_undoable  w2 (fun r3 => P r3 w2))))
theorem cf_T_undo_ok {g : ayG} {d : Nat} (hd : 3 ≤ d)   (w : Wd) (P : Int32 → Wd → Prop) (h : cf_T_undo w P) : Call g y_T_undo prog_1_method_20_code 1 (some FieldType.int) d [.ref (g.1 + 0)] w (fun (r : Option Value) (w2 : Wd) => ∃ x, r = some (.int x) ∧ P x w2) := by
  unfold cf_T_undo at h
  refine am_enter mi_T_undo (Nat.le_of_ble_eq_true rfl) ?_
  have hQ : ∀ x w2, P x w2 → (fun (r : Option Value) (w2 : Wd) => ∃ x, r = some (.int x) ∧ P x w2) (some (.int x)) w2 := fun x w2 h => ⟨x, rfl, h⟩
  generalize (fun (r : Option Value) (w2 : Wd) => ∃ x, r = some (.int x) ∧ P x w2) = Q at hQ ⊢
  show wp g (fun _ => True) y_T_undo prog_1_method_20_code 1 (some FieldType.int) d 0 [(0, .ref (g.1 + 0))] [] w Q
  refine am_aload_n d_T_undo_0 0 rfl ?_
  refine am_getf (T := F_T) (fs := ob_T g w 0) (C := R_T) (N := 9) (ci := 0) 1 d_T_undo_1 wd_195 rfl (by decide) (el_T (show ay_sh 0 = _ from rfl)) rfl i_T (by decide) rfl ?_
  refine am_callV (C := "TriSplits$Store") (d2 := d - 1) [] d_T_undo_4 mi_Store_goBack wd_606 wd_607 wd_608 (by decide) (el_Store (show ay_sh 6 = _ from rfl)) rfl rfl (by omega) rfl rfl (Nat.le_of_ble_eq_true rfl) ?_
  refine Call.post ?_ (cf_Store_goBack_ok (by omega)   w _ h)
  rintro _ w2 ⟨r1, rfl, h⟩
  show wp g (fun _ => True) y_T_undo prog_1_method_20_code 1 (some FieldType.int) d 7 [(0, .ref (g.1 + 0))] [.int r1] w2 Q
  refine am_if_eq (tgt := 20) d_T_undo_7 (by decide) (fun c7 => ?_) (fun c7 => ?_)
  · have h := h.1 c7
    refine am_iconst (v := -1) d_T_undo_20 rfl ?_
    exact am_ireturn d_T_undo_21 rfl rfl (hQ (-1 : Int32) w2 h)
  · have h := h.2 c7
    refine am_aload_n d_T_undo_10 0 rfl ?_
    refine am_getf (T := F_T) (fs := ob_T g w2 0) (C := R_T) (N := 9) (ci := 0) 1 d_T_undo_11 wd_195 rfl (by decide) (el_T (show ay_sh 0 = _ from rfl)) rfl i_T (by decide) rfl ?_
    refine am_callV (C := "TriSplits$Store") (d2 := d - 1) [] d_T_undo_14 mi_Store_undoable wd_610 wd_611 wd_612 (by decide) (el_Store (show ay_sh 6 = _ from rfl)) rfl rfl (by omega) rfl rfl (Nat.le_of_ble_eq_true rfl) ?_
    refine Call.post ?_ (cf_Store_undoable_ok (by omega)   w2 _ h)
    rintro _ _ ⟨r3, rfl, rfl, h⟩
    show wp g (fun _ => True) y_T_undo prog_1_method_20_code 1 (some FieldType.int) d 17 [(0, .ref (g.1 + 0))] [.int r3] w2 Q
    refine am_goto (tgt := 21) d_T_undo_17 (by decide) ?_
    exact am_ireturn d_T_undo_21 rfl rfl (hQ r3 w2 h)
theorem d_T_keep_0 : decode prog_1_method_21_code 0 = .ok (.aload_n 0, 1) := by decide +kernel
theorem d_T_keep_1 : decode prog_1_method_21_code 1 = .ok (.getfield 19, 3) := by decide +kernel
theorem d_T_keep_4 : decode prog_1_method_21_code 4 = .ok (.iload_n 1, 1) := by decide +kernel
theorem d_T_keep_5 : decode prog_1_method_21_code 5 = .ok (.invokevirtual 206, 3) := by decide +kernel
theorem d_T_keep_8 : decode prog_1_method_21_code 8 = .ok (.ifCond .eq 7, 3) := by decide +kernel
theorem d_T_keep_11 : decode prog_1_method_21_code 11 = .ok (.iconst 1, 1) := by decide +kernel
theorem d_T_keep_12 : decode prog_1_method_21_code 12 = .ok (.goto 4, 3) := by decide +kernel
theorem d_T_keep_15 : decode prog_1_method_21_code 15 = .ok (.iconst (-1), 1) := by decide +kernel
theorem d_T_keep_16 : decode prog_1_method_21_code 16 = .ok (.ireturn, 1) := by decide +kernel
def cf_T_keep (a0 : Int32) (w : Wd) (P : Int32 → Wd → Prop) : Prop :=
  cf_Store_keepOn a0 w (fun r1 w2 => ((r1 = 0 → P (-1 : Int32) w2) ∧ (¬ r1 = 0 → P (1 : Int32) w2)))
theorem cf_T_keep_ok {g : ayG} {d : Nat} (hd : 3 ≤ d) (a0 : Int32)  (w : Wd) (P : Int32 → Wd → Prop) (h : cf_T_keep a0 w P) : Call g y_T_keep prog_1_method_21_code 2 (some FieldType.int) d [.ref (g.1 + 0), .int a0] w (fun (r : Option Value) (w2 : Wd) => ∃ x, r = some (.int x) ∧ P x w2) := by
  unfold cf_T_keep at h
  refine am_enter mi_T_keep (Nat.le_of_ble_eq_true rfl) ?_
  have hQ : ∀ x w2, P x w2 → (fun (r : Option Value) (w2 : Wd) => ∃ x, r = some (.int x) ∧ P x w2) (some (.int x)) w2 := fun x w2 h => ⟨x, rfl, h⟩
  generalize (fun (r : Option Value) (w2 : Wd) => ∃ x, r = some (.int x) ∧ P x w2) = Q at hQ ⊢
  show wp g (fun _ => True) y_T_keep prog_1_method_21_code 2 (some FieldType.int) d 0 [(0, .ref (g.1 + 0)), (1, .int a0)] [] w Q
  refine am_aload_n d_T_keep_0 0 rfl ?_
  refine am_getf (T := F_T) (fs := ob_T g w 0) (C := R_T) (N := 9) (ci := 0) 1 d_T_keep_1 wd_195 rfl (by decide) (el_T (show ay_sh 0 = _ from rfl)) rfl i_T (by decide) rfl ?_
  refine am_iload_n d_T_keep_4 1 rfl ?_
  refine am_callV (C := "TriSplits$Store") (d2 := d - 1) [.int a0] d_T_keep_5 mi_Store_keepOn wd_618 wd_619 wd_620 (by decide) (el_Store (show ay_sh 6 = _ from rfl)) rfl rfl (by omega) rfl rfl (Nat.le_of_ble_eq_true rfl) ?_
  refine Call.post ?_ (cf_Store_keepOn_ok (by omega) a0  w _ h)
  rintro _ w2 ⟨r1, rfl, h⟩
  show wp g (fun _ => True) y_T_keep prog_1_method_21_code 2 (some FieldType.int) d 8 [(0, .ref (g.1 + 0)), (1, .int a0)] [.int r1] w2 Q
  refine am_if_eq (tgt := 15) d_T_keep_8 (by decide) (fun c8 => ?_) (fun c8 => ?_)
  · have h := h.1 c8
    refine am_iconst (v := -1) d_T_keep_15 rfl ?_
    exact am_ireturn d_T_keep_16 rfl rfl (hQ (-1 : Int32) w2 h)
  · have h := h.2 c8
    refine am_iconst (v := 1) d_T_keep_11 rfl ?_
    refine am_goto (tgt := 16) d_T_keep_12 (by decide) ?_
    exact am_ireturn d_T_keep_16 rfl rfl (hQ (1 : Int32) w2 h)
theorem d_T_back_0 : decode prog_1_method_22_code 0 = .ok (.iload_n 1, 1) := by decide +kernel
theorem d_T_back_1 : decode prog_1_method_22_code 1 = .ok (.invokestatic 209, 3) := by decide +kernel
theorem d_T_back_4 : decode prog_1_method_22_code 4 = .ok (.ifCond .ne 5, 3) := by decide +kernel
theorem d_T_back_7 : decode prog_1_method_22_code 7 = .ok (.iconst (-1), 1) := by decide +kernel
theorem d_T_back_8 : decode prog_1_method_22_code 8 = .ok (.ireturn, 1) := by decide +kernel
theorem d_T_back_9 : decode prog_1_method_22_code 9 = .ok (.aload_n 0, 1) := by decide +kernel
theorem d_T_back_10 : decode prog_1_method_22_code 10 = .ok (.getfield 19, 3) := by decide +kernel
theorem d_T_back_13 : decode prog_1_method_22_code 13 = .ok (.iload_n 1, 1) := by decide +kernel
theorem d_T_back_14 : decode prog_1_method_22_code 14 = .ok (.invokevirtual 212, 3) := by decide +kernel
theorem d_T_back_17 : decode prog_1_method_22_code 17 = .ok (.ifCond .eq 7, 3) := by decide +kernel
theorem d_T_back_20 : decode prog_1_method_22_code 20 = .ok (.iconst 1, 1) := by decide +kernel
theorem d_T_back_21 : decode prog_1_method_22_code 21 = .ok (.goto 5, 3) := by decide +kernel
theorem d_T_back_24 : decode prog_1_method_22_code 24 = .ok (.bipush (-2), 2) := by decide +kernel
theorem d_T_back_26 : decode prog_1_method_22_code 26 = .ok (.ireturn, 1) := by decide +kernel
def cf_T_back (a0 : Int32) (w : Wd) (P : Int32 → Wd → Prop) : Prop :=
  cf_Store_isShelf a0 (fun r1 => ((¬ r1 = 0 → cf_Store_takeFrom a0 w (fun r2 w3 => ((r2 = 0 → P (-2 : Int32) w3) ∧ (¬ r2 = 0 → P (1 : Int32) w3)))) ∧ (r1 = 0 → P (-1 : Int32) w)))
theorem cf_T_back_ok {g : ayG} {d : Nat} (hd : 3 ≤ d) (a0 : Int32)  (w : Wd) (P : Int32 → Wd → Prop) (h : cf_T_back a0 w P) : Call g y_T_back prog_1_method_22_code 2 (some FieldType.int) d [.ref (g.1 + 0), .int a0] w (fun (r : Option Value) (w2 : Wd) => ∃ x, r = some (.int x) ∧ P x w2) := by
  unfold cf_T_back at h
  refine am_enter mi_T_back (Nat.le_of_ble_eq_true rfl) ?_
  have hQ : ∀ x w2, P x w2 → (fun (r : Option Value) (w2 : Wd) => ∃ x, r = some (.int x) ∧ P x w2) (some (.int x)) w2 := fun x w2 h => ⟨x, rfl, h⟩
  generalize (fun (r : Option Value) (w2 : Wd) => ∃ x, r = some (.int x) ∧ P x w2) = Q at hQ ⊢
  show wp g (fun _ => True) y_T_back prog_1_method_22_code 2 (some FieldType.int) d 0 [(0, .ref (g.1 + 0)), (1, .int a0)] [] w Q
  refine am_iload_n d_T_back_0 1 rfl ?_
  refine am_callS (d2 := d - 1) [.int a0] d_T_back_1 mi_Store_isShelf wd_629 wd_623 (by omega) rfl rfl (Nat.le_of_ble_eq_true rfl) ?_
  refine Call.post ?_ (cf_Store_isShelf_ok (by omega) a0  w _ h)
  rintro _ _ ⟨r1, rfl, rfl, h⟩
  show wp g (fun _ => True) y_T_back prog_1_method_22_code 2 (some FieldType.int) d 4 [(0, .ref (g.1 + 0)), (1, .int a0)] [.int r1] w Q
  refine am_if_ne (tgt := 9) d_T_back_4 (by decide) (fun c4 => ?_) (fun c4 => ?_)
  · have h := h.1 c4
    refine am_aload_n d_T_back_9 0 rfl ?_
    refine am_getf (T := F_T) (fs := ob_T g w 0) (C := R_T) (N := 9) (ci := 0) 1 d_T_back_10 wd_195 rfl (by decide) (el_T (show ay_sh 0 = _ from rfl)) rfl i_T (by decide) rfl ?_
    refine am_iload_n d_T_back_13 1 rfl ?_
    refine am_callV (C := "TriSplits$Store") (d2 := d - 1) [.int a0] d_T_back_14 mi_Store_takeFrom wd_630 wd_631 wd_632 (by decide) (el_Store (show ay_sh 6 = _ from rfl)) rfl rfl (by omega) rfl rfl (Nat.le_of_ble_eq_true rfl) ?_
    refine Call.post ?_ (cf_Store_takeFrom_ok (by omega) a0  w _ h)
    rintro _ w3 ⟨r2, rfl, h⟩
    show wp g (fun _ => True) y_T_back prog_1_method_22_code 2 (some FieldType.int) d 17 [(0, .ref (g.1 + 0)), (1, .int a0)] [.int r2] w3 Q
    refine am_if_eq (tgt := 24) d_T_back_17 (by decide) (fun c17 => ?_) (fun c17 => ?_)
    · have h := h.1 c17
      refine am_bipush (v := -2) d_T_back_24 rfl ?_
      exact am_ireturn d_T_back_26 rfl rfl (hQ (-2 : Int32) w3 h)
    · have h := h.2 c17
      refine am_iconst (v := 1) d_T_back_20 rfl ?_
      refine am_goto (tgt := 26) d_T_back_21 (by decide) ?_
      exact am_ireturn d_T_back_26 rfl rfl (hQ (1 : Int32) w3 h)
  · have h := h.2 c4
    refine am_iconst (v := -1) d_T_back_7 rfl ?_
    exact am_ireturn d_T_back_8 rfl rfl (hQ (-1 : Int32) w h)
theorem d_T_bits_0 : decode prog_1_method_23_code 0 = .ok (.iload_n 1, 1) := by decide +kernel
theorem d_T_bits_1 : decode prog_1_method_23_code 1 = .ok (.invokestatic 109, 3) := by decide +kernel
theorem d_T_bits_4 : decode prog_1_method_23_code 4 = .ok (.ifCond .eq 14, 3) := by decide +kernel
theorem d_T_bits_7 : decode prog_1_method_23_code 7 = .ok (.aload_n 0, 1) := by decide +kernel
theorem d_T_bits_8 : decode prog_1_method_23_code 8 = .ok (.getfield 19, 3) := by decide +kernel
theorem d_T_bits_11 : decode prog_1_method_23_code 11 = .ok (.iload_n 1, 1) := by decide +kernel
theorem d_T_bits_12 : decode prog_1_method_23_code 12 = .ok (.invokevirtual 122, 3) := by decide +kernel
theorem d_T_bits_15 : decode prog_1_method_23_code 15 = .ok (.goto 6, 3) := by decide +kernel
theorem d_T_bits_18 : decode prog_1_method_23_code 18 = .ok (.ldc2_w 172, 3) := by decide +kernel
theorem d_T_bits_21 : decode prog_1_method_23_code 21 = .ok (.lreturn, 1) := by decide +kernel
def cf_T_bits (a0 : Int32) (w : Wd) (P : Int64 → Prop) : Prop :=
  cf_Store_isPlace a0 (fun r1 => ((r1 = 0 → P (-1 : Int64)) ∧ (¬ r1 = 0 → cf_Store_polyAt a0 w (fun r2 => P r2))))
theorem cf_T_bits_ok {g : ayG} {d : Nat} (hd : 2 ≤ d) (a0 : Int32)  (w : Wd) (P : Int64 → Prop) (h : cf_T_bits a0 w P) : Call g y_T_bits prog_1_method_23_code 2 (some FieldType.long) d [.ref (g.1 + 0), .int a0] w (fun (r : Option Value) (w2 : Wd) => ∃ x, r = some (.long x) ∧ w = w2 ∧ P x) := by
  unfold cf_T_bits at h
  refine am_enter mi_T_bits (Nat.le_of_ble_eq_true rfl) ?_
  have hQ : ∀ x, P x → (fun (r : Option Value) (w2 : Wd) => ∃ x, r = some (.long x) ∧ w = w2 ∧ P x) (some (.long x)) w := fun x h => ⟨x, rfl, rfl, h⟩
  generalize (fun (r : Option Value) (w2 : Wd) => ∃ x, r = some (.long x) ∧ w = w2 ∧ P x) = Q at hQ ⊢
  show wp g (fun _ => True) y_T_bits prog_1_method_23_code 2 (some FieldType.long) d 0 [(0, .ref (g.1 + 0)), (1, .int a0)] [] w Q
  refine am_iload_n d_T_bits_0 1 rfl ?_
  refine am_callS (d2 := d - 1) [.int a0] d_T_bits_1 mi_Store_isPlace wd_453 wd_263 (by omega) rfl rfl (Nat.le_of_ble_eq_true rfl) ?_
  refine Call.post ?_ (cf_Store_isPlace_ok (by omega) a0  w _ h)
  rintro _ _ ⟨r1, rfl, rfl, h⟩
  show wp g (fun _ => True) y_T_bits prog_1_method_23_code 2 (some FieldType.long) d 4 [(0, .ref (g.1 + 0)), (1, .int a0)] [.int r1] w Q
  refine am_if_eq (tgt := 18) d_T_bits_4 (by decide) (fun c4 => ?_) (fun c4 => ?_)
  · have h := h.1 c4
    refine am_ldc2 (v := -1) d_T_bits_18 wd_560 ?_
    exact am_lreturn d_T_bits_21 rfl (hQ (-1 : Int64) h)
  · have h := h.2 c4
    refine am_aload_n d_T_bits_7 0 rfl ?_
    refine am_getf (T := F_T) (fs := ob_T g w 0) (C := R_T) (N := 9) (ci := 0) 1 d_T_bits_8 wd_195 rfl (by decide) (el_T (show ay_sh 0 = _ from rfl)) rfl i_T (by decide) rfl ?_
    refine am_iload_n d_T_bits_11 1 rfl ?_
    refine am_callV (C := "TriSplits$Store") (d2 := d - 1) [.int a0] d_T_bits_12 mi_Store_polyAt wd_468 wd_259 wd_260 (by decide) (el_Store (show ay_sh 6 = _ from rfl)) rfl rfl (by omega) rfl rfl (Nat.le_of_ble_eq_true rfl) ?_
    refine Call.post ?_ (cf_Store_polyAt_ok (by omega) a0  w _ h)
    rintro _ _ ⟨r2, rfl, rfl, h⟩
    show wp g (fun _ => True) y_T_bits prog_1_method_23_code 2 (some FieldType.long) d 15 [(0, .ref (g.1 + 0)), (1, .int a0)] [.long r2] w Q
    refine am_goto (tgt := 21) d_T_bits_15 (by decide) ?_
    exact am_lreturn d_T_bits_21 rfl (hQ r2 h)
theorem d_T_howSplit_0 : decode prog_1_method_56_code 0 = .ok (.iload_n 1, 1) := by decide +kernel
theorem d_T_howSplit_1 : decode prog_1_method_56_code 1 = .ok (.tableswitch 84 3 7 #[35, 84, 84, 68, 76], 35) := by decide +kernel
theorem d_T_howSplit_36 : decode prog_1_method_56_code 36 = .ok (.aload_n 0, 1) := by decide +kernel
theorem d_T_howSplit_37 : decode prog_1_method_56_code 37 = .ok (.getfield 26, 3) := by decide +kernel
theorem d_T_howSplit_40 : decode prog_1_method_56_code 40 = .ok (.invokevirtual 373, 3) := by decide +kernel
theorem d_T_howSplit_43 : decode prog_1_method_56_code 43 = .ok (.ifCond .le 24, 3) := by decide +kernel
theorem d_T_howSplit_46 : decode prog_1_method_56_code 46 = .ok (.aload_n 0, 1) := by decide +kernel
theorem d_T_howSplit_47 : decode prog_1_method_56_code 47 = .ok (.getfield 26, 3) := by decide +kernel
theorem d_T_howSplit_50 : decode prog_1_method_56_code 50 = .ok (.invokevirtual 373, 3) := by decide +kernel
theorem d_T_howSplit_53 : decode prog_1_method_56_code 53 = .ok (.aload_n 0, 1) := by decide +kernel
theorem d_T_howSplit_54 : decode prog_1_method_56_code 54 = .ok (.getfield 26, 3) := by decide +kernel
theorem d_T_howSplit_57 : decode prog_1_method_56_code 57 = .ok (.invokevirtual 254, 3) := by decide +kernel
theorem d_T_howSplit_60 : decode prog_1_method_56_code 60 = .ok (.if_icmp .ne 7, 3) := by decide +kernel
theorem d_T_howSplit_63 : decode prog_1_method_56_code 63 = .ok (.iconst 1, 1) := by decide +kernel
theorem d_T_howSplit_64 : decode prog_1_method_56_code 64 = .ok (.goto 4, 3) := by decide +kernel
theorem d_T_howSplit_67 : decode prog_1_method_56_code 67 = .ok (.iconst 0, 1) := by decide +kernel
theorem d_T_howSplit_68 : decode prog_1_method_56_code 68 = .ok (.ireturn, 1) := by decide +kernel
theorem d_T_howSplit_69 : decode prog_1_method_56_code 69 = .ok (.aload_n 0, 1) := by decide +kernel
theorem d_T_howSplit_70 : decode prog_1_method_56_code 70 = .ok (.getfield 26, 3) := by decide +kernel
theorem d_T_howSplit_73 : decode prog_1_method_56_code 73 = .ok (.invokevirtual 373, 3) := by decide +kernel
theorem d_T_howSplit_76 : decode prog_1_method_56_code 76 = .ok (.ireturn, 1) := by decide +kernel
theorem d_T_howSplit_77 : decode prog_1_method_56_code 77 = .ok (.aload_n 0, 1) := by decide +kernel
theorem d_T_howSplit_78 : decode prog_1_method_56_code 78 = .ok (.getfield 26, 3) := by decide +kernel
theorem d_T_howSplit_81 : decode prog_1_method_56_code 81 = .ok (.invokevirtual 254, 3) := by decide +kernel
theorem d_T_howSplit_84 : decode prog_1_method_56_code 84 = .ok (.ireturn, 1) := by decide +kernel
theorem d_T_howSplit_85 : decode prog_1_method_56_code 85 = .ok (.aload_n 0, 1) := by decide +kernel
theorem d_T_howSplit_86 : decode prog_1_method_56_code 86 = .ok (.getfield 26, 3) := by decide +kernel
theorem d_T_howSplit_89 : decode prog_1_method_56_code 89 = .ok (.invokevirtual 376, 3) := by decide +kernel
theorem d_T_howSplit_92 : decode prog_1_method_56_code 92 = .ok (.ireturn, 1) := by decide +kernel
def cf_T_howSplit (a0 : Int32) (w : Wd) (P : Int32 → Prop) : Prop :=
  ((a0 = 3 → cf_Factors_all 10 w (fun r1 => ((r1 ≤ 0 → P (0 : Int32)) ∧ (¬ r1 ≤ 0 → cf_Factors_all 10 w (fun r2 => cf_Factors_unlike 10 w (fun r3 => ((¬ r2 = r3 → P (0 : Int32)) ∧ (r2 = r3 → P (1 : Int32))))))))) ∧ (a0 = 4 → cf_Factors_greatestDegree 10 w (fun r4 => P r4)) ∧ (a0 = 5 → cf_Factors_greatestDegree 10 w (fun r5 => P r5)) ∧ (a0 = 6 → cf_Factors_all 10 w (fun r6 => P r6)) ∧ (a0 = 7 → cf_Factors_unlike 10 w (fun r7 => P r7)) ∧ ((a0.toInt < 3 ∨ 7 < a0.toInt) → cf_Factors_greatestDegree 10 w (fun r8 => P r8)))
theorem cf_T_howSplit_ok {g : ayG} {d : Nat} (hd : 4 ≤ d) (a0 : Int32)  (w : Wd) (P : Int32 → Prop) (h : cf_T_howSplit a0 w P) : Call g y_T_howSplit prog_1_method_56_code 2 (some FieldType.int) d [.ref (g.1 + 0), .int a0] w (fun (r : Option Value) (w2 : Wd) => ∃ x, r = some (.int x) ∧ w = w2 ∧ P x) := by
  unfold cf_T_howSplit at h
  refine am_enter mi_T_howSplit (Nat.le_of_ble_eq_true rfl) ?_
  have hQ : ∀ x, P x → (fun (r : Option Value) (w2 : Wd) => ∃ x, r = some (.int x) ∧ w = w2 ∧ P x) (some (.int x)) w := fun x h => ⟨x, rfl, rfl, h⟩
  generalize (fun (r : Option Value) (w2 : Wd) => ∃ x, r = some (.int x) ∧ w = w2 ∧ P x) = Q at hQ ⊢
  show wp g (fun _ => True) y_T_howSplit prog_1_method_56_code 2 (some FieldType.int) d 0 [(0, .ref (g.1 + 0)), (1, .int a0)] [] w Q
  refine am_iload_n d_T_howSplit_0 1 rfl ?_
  refine am_switch d_T_howSplit_1 (by decide) (fun tgt ht hx => ?_) ⟨85, by decide⟩ (fun i off ho hx => ?_)
  · have h := h.2.2.2.2.2 hx
    obtain rfl : tgt = 85 := by omega
    refine am_aload_n d_T_howSplit_85 0 rfl ?_
    refine am_getf (T := F_T) (fs := ob_T g w 0) (C := R_T) (N := 9) (ci := 0) 2 d_T_howSplit_86 wd_196 rfl (by decide) (el_T (show ay_sh 0 = _ from rfl)) rfl i_T (by decide) rfl ?_
    refine am_callV (C := "TriSplits$Factors") (d2 := d - 1) [] d_T_howSplit_89 mi_Factors_greatestDegree wd_716 wd_717 wd_718 (by decide) (el_Factors (show ay_sh 10 = _ from rfl)) rfl rfl (by omega) rfl rfl (Nat.le_of_ble_eq_true rfl) ?_
    refine Call.post ?_ (cf_Factors_greatestDegree_ok (by omega) 10 (show ay_sh 10 = _ from rfl) w _ h)
    rintro _ _ ⟨r8, rfl, rfl, h⟩
    show wp g (fun _ => True) y_T_howSplit prog_1_method_56_code 2 (some FieldType.int) d 92 [(0, .ref (g.1 + 0)), (1, .int a0)] [.int r8] w Q
    exact am_ireturn d_T_howSplit_92 rfl rfl (hQ r8 h)
  · have hi : i < 5 := (Array.getElem?_eq_some_iff.mp ho).1
    match i, hi, ho, hx with
    | 0, _, ho, hx =>
      refine ⟨36, ?_, ?_⟩
      · have e := Option.some.inj ho; rw [← e]; decide
      · have h := h.1 (Int32.toInt_inj.mp (by rw [hx]; decide))
        refine am_aload_n d_T_howSplit_36 0 rfl ?_
        refine am_getf (T := F_T) (fs := ob_T g w 0) (C := R_T) (N := 9) (ci := 0) 2 d_T_howSplit_37 wd_196 rfl (by decide) (el_T (show ay_sh 0 = _ from rfl)) rfl i_T (by decide) rfl ?_
        refine am_callV (C := "TriSplits$Factors") (d2 := d - 1) [] d_T_howSplit_40 mi_Factors_all wd_708 wd_709 wd_710 (by decide) (el_Factors (show ay_sh 10 = _ from rfl)) rfl rfl (by omega) rfl rfl (Nat.le_of_ble_eq_true rfl) ?_
        refine Call.post ?_ (cf_Factors_all_ok (by omega) 10 (show ay_sh 10 = _ from rfl) w _ h)
        rintro _ _ ⟨r1, rfl, rfl, h⟩
        show wp g (fun _ => True) y_T_howSplit prog_1_method_56_code 2 (some FieldType.int) d 43 [(0, .ref (g.1 + 0)), (1, .int a0)] [.int r1] w Q
        refine am_if_le (tgt := 67) d_T_howSplit_43 (by decide) (fun c43 => ?_) (fun c43 => ?_)
        · have h := h.1 c43
          refine am_iconst (v := 0) d_T_howSplit_67 rfl ?_
          exact am_ireturn d_T_howSplit_68 rfl rfl (hQ (0 : Int32) h)
        · have h := h.2 c43
          refine am_aload_n d_T_howSplit_46 0 rfl ?_
          refine am_getf (T := F_T) (fs := ob_T g w 0) (C := R_T) (N := 9) (ci := 0) 2 d_T_howSplit_47 wd_196 rfl (by decide) (el_T (show ay_sh 0 = _ from rfl)) rfl i_T (by decide) rfl ?_
          refine am_callV (C := "TriSplits$Factors") (d2 := d - 1) [] d_T_howSplit_50 mi_Factors_all wd_708 wd_709 wd_710 (by decide) (el_Factors (show ay_sh 10 = _ from rfl)) rfl rfl (by omega) rfl rfl (Nat.le_of_ble_eq_true rfl) ?_
          refine Call.post ?_ (cf_Factors_all_ok (by omega) 10 (show ay_sh 10 = _ from rfl) w _ h)
          rintro _ _ ⟨r2, rfl, rfl, h⟩
          show wp g (fun _ => True) y_T_howSplit prog_1_method_56_code 2 (some FieldType.int) d 53 [(0, .ref (g.1 + 0)), (1, .int a0)] [.int r2] w Q
          refine am_aload_n d_T_howSplit_53 0 rfl ?_
          refine am_getf (T := F_T) (fs := ob_T g w 0) (C := R_T) (N := 9) (ci := 0) 2 d_T_howSplit_54 wd_196 rfl (by decide) (el_T (show ay_sh 0 = _ from rfl)) rfl i_T (by decide) rfl ?_
          refine am_callV (C := "TriSplits$Factors") (d2 := d - 1) [] d_T_howSplit_57 mi_Factors_unlike wd_712 wd_713 wd_714 (by decide) (el_Factors (show ay_sh 10 = _ from rfl)) rfl rfl (by omega) rfl rfl (Nat.le_of_ble_eq_true rfl) ?_
          refine Call.post ?_ (cf_Factors_unlike_ok (by omega) 10 (show ay_sh 10 = _ from rfl) w _ h)
          rintro _ _ ⟨r3, rfl, rfl, h⟩
          show wp g (fun _ => True) y_T_howSplit prog_1_method_56_code 2 (some FieldType.int) d 60 [(0, .ref (g.1 + 0)), (1, .int a0)] [.int r3, .int r2] w Q
          refine am_icmp_ne (tgt := 67) d_T_howSplit_60 (by decide) (fun c60 => ?_) (fun c60 => ?_)
          · have h := h.1 c60
            refine am_iconst (v := 0) d_T_howSplit_67 rfl ?_
            exact am_ireturn d_T_howSplit_68 rfl rfl (hQ (0 : Int32) h)
          · have h := h.2 c60
            refine am_iconst (v := 1) d_T_howSplit_63 rfl ?_
            refine am_goto (tgt := 68) d_T_howSplit_64 (by decide) ?_
            exact am_ireturn d_T_howSplit_68 rfl rfl (hQ (1 : Int32) h)
    | 1, _, ho, hx =>
      refine ⟨85, ?_, ?_⟩
      · have e := Option.some.inj ho; rw [← e]; decide
      · have h := h.2.1 (Int32.toInt_inj.mp (by rw [hx]; decide))
        refine am_aload_n d_T_howSplit_85 0 rfl ?_
        refine am_getf (T := F_T) (fs := ob_T g w 0) (C := R_T) (N := 9) (ci := 0) 2 d_T_howSplit_86 wd_196 rfl (by decide) (el_T (show ay_sh 0 = _ from rfl)) rfl i_T (by decide) rfl ?_
        refine am_callV (C := "TriSplits$Factors") (d2 := d - 1) [] d_T_howSplit_89 mi_Factors_greatestDegree wd_716 wd_717 wd_718 (by decide) (el_Factors (show ay_sh 10 = _ from rfl)) rfl rfl (by omega) rfl rfl (Nat.le_of_ble_eq_true rfl) ?_
        refine Call.post ?_ (cf_Factors_greatestDegree_ok (by omega) 10 (show ay_sh 10 = _ from rfl) w _ h)
        rintro _ _ ⟨r4, rfl, rfl, h⟩
        show wp g (fun _ => True) y_T_howSplit prog_1_method_56_code 2 (some FieldType.int) d 92 [(0, .ref (g.1 + 0)), (1, .int a0)] [.int r4] w Q
        exact am_ireturn d_T_howSplit_92 rfl rfl (hQ r4 h)
    | 2, _, ho, hx =>
      refine ⟨85, ?_, ?_⟩
      · have e := Option.some.inj ho; rw [← e]; decide
      · have h := h.2.2.1 (Int32.toInt_inj.mp (by rw [hx]; decide))
        refine am_aload_n d_T_howSplit_85 0 rfl ?_
        refine am_getf (T := F_T) (fs := ob_T g w 0) (C := R_T) (N := 9) (ci := 0) 2 d_T_howSplit_86 wd_196 rfl (by decide) (el_T (show ay_sh 0 = _ from rfl)) rfl i_T (by decide) rfl ?_
        refine am_callV (C := "TriSplits$Factors") (d2 := d - 1) [] d_T_howSplit_89 mi_Factors_greatestDegree wd_716 wd_717 wd_718 (by decide) (el_Factors (show ay_sh 10 = _ from rfl)) rfl rfl (by omega) rfl rfl (Nat.le_of_ble_eq_true rfl) ?_
        refine Call.post ?_ (cf_Factors_greatestDegree_ok (by omega) 10 (show ay_sh 10 = _ from rfl) w _ h)
        rintro _ _ ⟨r5, rfl, rfl, h⟩
        show wp g (fun _ => True) y_T_howSplit prog_1_method_56_code 2 (some FieldType.int) d 92 [(0, .ref (g.1 + 0)), (1, .int a0)] [.int r5] w Q
        exact am_ireturn d_T_howSplit_92 rfl rfl (hQ r5 h)
    | 3, _, ho, hx =>
      refine ⟨69, ?_, ?_⟩
      · have e := Option.some.inj ho; rw [← e]; decide
      · have h := h.2.2.2.1 (Int32.toInt_inj.mp (by rw [hx]; decide))
        refine am_aload_n d_T_howSplit_69 0 rfl ?_
        refine am_getf (T := F_T) (fs := ob_T g w 0) (C := R_T) (N := 9) (ci := 0) 2 d_T_howSplit_70 wd_196 rfl (by decide) (el_T (show ay_sh 0 = _ from rfl)) rfl i_T (by decide) rfl ?_
        refine am_callV (C := "TriSplits$Factors") (d2 := d - 1) [] d_T_howSplit_73 mi_Factors_all wd_708 wd_709 wd_710 (by decide) (el_Factors (show ay_sh 10 = _ from rfl)) rfl rfl (by omega) rfl rfl (Nat.le_of_ble_eq_true rfl) ?_
        refine Call.post ?_ (cf_Factors_all_ok (by omega) 10 (show ay_sh 10 = _ from rfl) w _ h)
        rintro _ _ ⟨r6, rfl, rfl, h⟩
        show wp g (fun _ => True) y_T_howSplit prog_1_method_56_code 2 (some FieldType.int) d 76 [(0, .ref (g.1 + 0)), (1, .int a0)] [.int r6] w Q
        exact am_ireturn d_T_howSplit_76 rfl rfl (hQ r6 h)
    | 4, _, ho, hx =>
      refine ⟨77, ?_, ?_⟩
      · have e := Option.some.inj ho; rw [← e]; decide
      · have h := h.2.2.2.2.1 (Int32.toInt_inj.mp (by rw [hx]; decide))
        refine am_aload_n d_T_howSplit_77 0 rfl ?_
        refine am_getf (T := F_T) (fs := ob_T g w 0) (C := R_T) (N := 9) (ci := 0) 2 d_T_howSplit_78 wd_196 rfl (by decide) (el_T (show ay_sh 0 = _ from rfl)) rfl i_T (by decide) rfl ?_
        refine am_callV (C := "TriSplits$Factors") (d2 := d - 1) [] d_T_howSplit_81 mi_Factors_unlike wd_712 wd_713 wd_714 (by decide) (el_Factors (show ay_sh 10 = _ from rfl)) rfl rfl (by omega) rfl rfl (Nat.le_of_ble_eq_true rfl) ?_
        refine Call.post ?_ (cf_Factors_unlike_ok (by omega) 10 (show ay_sh 10 = _ from rfl) w _ h)
        rintro _ _ ⟨r7, rfl, rfl, h⟩
        show wp g (fun _ => True) y_T_howSplit prog_1_method_56_code 2 (some FieldType.int) d 84 [(0, .ref (g.1 + 0)), (1, .int a0)] [.int r7] w Q
        exact am_ireturn d_T_howSplit_84 rfl rfl (hQ r7 h)
    | n + 5, hi, _, _ => exact absurd hi (by omega)
theorem d_T_poly_0 : decode prog_1_method_24_code 0 = .ok (.iload_n 1, 1) := by decide +kernel
theorem d_T_poly_1 : decode prog_1_method_24_code 1 = .ok (.invokestatic 109, 3) := by decide +kernel
theorem d_T_poly_4 : decode prog_1_method_24_code 4 = .ok (.ifCond .eq 13, 3) := by decide +kernel
theorem d_T_poly_7 : decode prog_1_method_24_code 7 = .ok (.iload_n 2, 1) := by decide +kernel
theorem d_T_poly_8 : decode prog_1_method_24_code 8 = .ok (.ifCond .lt 9, 3) := by decide +kernel
theorem d_T_poly_11 : decode prog_1_method_24_code 11 = .ok (.iload_n 2, 1) := by decide +kernel
theorem d_T_poly_12 : decode prog_1_method_24_code 12 = .ok (.bipush 8, 2) := by decide +kernel
theorem d_T_poly_14 : decode prog_1_method_24_code 14 = .ok (.if_icmp .le 6, 3) := by decide +kernel
theorem d_T_poly_17 : decode prog_1_method_24_code 17 = .ok (.bipush (-5), 2) := by decide +kernel
theorem d_T_poly_19 : decode prog_1_method_24_code 19 = .ok (.ireturn, 1) := by decide +kernel
theorem d_T_poly_20 : decode prog_1_method_24_code 20 = .ok (.aload_n 0, 1) := by decide +kernel
theorem d_T_poly_21 : decode prog_1_method_24_code 21 = .ok (.getfield 19, 3) := by decide +kernel
theorem d_T_poly_24 : decode prog_1_method_24_code 24 = .ok (.iload_n 1, 1) := by decide +kernel
theorem d_T_poly_25 : decode prog_1_method_24_code 25 = .ok (.invokevirtual 122, 3) := by decide +kernel
theorem d_T_poly_28 : decode prog_1_method_24_code 28 = .ok (.lstore_n 3, 1) := by decide +kernel
theorem d_T_poly_29 : decode prog_1_method_24_code 29 = .ok (.iload_n 2, 1) := by decide +kernel
theorem d_T_poly_30 : decode prog_1_method_24_code 30 = .ok (.tableswitch 86 0 5 #[38, 43, 48, 86, 55, 68], 38) := by decide +kernel
theorem d_T_poly_68 : decode prog_1_method_24_code 68 = .ok (.lload_n 3, 1) := by decide +kernel
theorem d_T_poly_69 : decode prog_1_method_24_code 69 = .ok (.invokestatic 158, 3) := by decide +kernel
theorem d_T_poly_72 : decode prog_1_method_24_code 72 = .ok (.ireturn, 1) := by decide +kernel
theorem d_T_poly_73 : decode prog_1_method_24_code 73 = .ok (.lload_n 3, 1) := by decide +kernel
theorem d_T_poly_74 : decode prog_1_method_24_code 74 = .ok (.invokestatic 215, 3) := by decide +kernel
theorem d_T_poly_77 : decode prog_1_method_24_code 77 = .ok (.ireturn, 1) := by decide +kernel
theorem d_T_poly_78 : decode prog_1_method_24_code 78 = .ok (.lload_n 3, 1) := by decide +kernel
theorem d_T_poly_79 : decode prog_1_method_24_code 79 = .ok (.invokestatic 215, 3) := by decide +kernel
theorem d_T_poly_82 : decode prog_1_method_24_code 82 = .ok (.iconst 1, 1) := by decide +kernel
theorem d_T_poly_83 : decode prog_1_method_24_code 83 = .ok (.iand, 1) := by decide +kernel
theorem d_T_poly_84 : decode prog_1_method_24_code 84 = .ok (.ireturn, 1) := by decide +kernel
theorem d_T_poly_85 : decode prog_1_method_24_code 85 = .ok (.lload_n 3, 1) := by decide +kernel
theorem d_T_poly_86 : decode prog_1_method_24_code 86 = .ok (.invokestatic 220, 3) := by decide +kernel
theorem d_T_poly_89 : decode prog_1_method_24_code 89 = .ok (.ifCond .eq 7, 3) := by decide +kernel
theorem d_T_poly_92 : decode prog_1_method_24_code 92 = .ok (.iconst 1, 1) := by decide +kernel
theorem d_T_poly_93 : decode prog_1_method_24_code 93 = .ok (.goto 4, 3) := by decide +kernel
theorem d_T_poly_96 : decode prog_1_method_24_code 96 = .ok (.iconst 0, 1) := by decide +kernel
theorem d_T_poly_97 : decode prog_1_method_24_code 97 = .ok (.ireturn, 1) := by decide +kernel
theorem d_T_poly_98 : decode prog_1_method_24_code 98 = .ok (.aload_n 0, 1) := by decide +kernel
theorem d_T_poly_99 : decode prog_1_method_24_code 99 = .ok (.getfield 36, 3) := by decide +kernel
theorem d_T_poly_102 : decode prog_1_method_24_code 102 = .ok (.lload_n 3, 1) := by decide +kernel
theorem d_T_poly_103 : decode prog_1_method_24_code 103 = .ok (.iconst 1, 1) := by decide +kernel
theorem d_T_poly_104 : decode prog_1_method_24_code 104 = .ok (.invokevirtual 224, 3) := by decide +kernel
theorem d_T_poly_107 : decode prog_1_method_24_code 107 = .ok (.ifCond .eq 7, 3) := by decide +kernel
theorem d_T_poly_110 : decode prog_1_method_24_code 110 = .ok (.iconst 1, 1) := by decide +kernel
theorem d_T_poly_111 : decode prog_1_method_24_code 111 = .ok (.goto 4, 3) := by decide +kernel
theorem d_T_poly_114 : decode prog_1_method_24_code 114 = .ok (.iconst 0, 1) := by decide +kernel
theorem d_T_poly_115 : decode prog_1_method_24_code 115 = .ok (.ireturn, 1) := by decide +kernel
theorem d_T_poly_116 : decode prog_1_method_24_code 116 = .ok (.aload_n 0, 1) := by decide +kernel
theorem d_T_poly_117 : decode prog_1_method_24_code 117 = .ok (.getfield 26, 3) := by decide +kernel
theorem d_T_poly_120 : decode prog_1_method_24_code 120 = .ok (.lload_n 3, 1) := by decide +kernel
theorem d_T_poly_121 : decode prog_1_method_24_code 121 = .ok (.invokevirtual 228, 3) := by decide +kernel
theorem d_T_poly_124 : decode prog_1_method_24_code 124 = .ok (.aload_n 0, 1) := by decide +kernel
theorem d_T_poly_125 : decode prog_1_method_24_code 125 = .ok (.iload_n 2, 1) := by decide +kernel
theorem d_T_poly_126 : decode prog_1_method_24_code 126 = .ok (.invokevirtual 232, 3) := by decide +kernel
theorem d_T_poly_129 : decode prog_1_method_24_code 129 = .ok (.ireturn, 1) := by decide +kernel
def cf_T_poly (a0 : Int32) (a1 : Int32) (w : Wd) (P : Int32 → Wd → Prop) : Prop :=
  cf_Store_isPlace a0 (fun r1 => ((r1 = 0 → P (-5 : Int32) w) ∧ (¬ r1 = 0 → ((a1 < 0 → P (-5 : Int32) w) ∧ (¬ a1 < 0 → ((a1 ≤ (8 : Int32) → cf_Store_polyAt a0 w (fun r2 => ((a1 = 0 → cf_Polys_degree r2 (fun r3 => P r3 w)) ∧ (a1 = 1 → cf_Long_bitCount r2 (fun r4 => P r4 w)) ∧ (a1 = 2 → cf_Long_bitCount r2 (fun r5 => P (r5 &&& (1 : Int32)) w)) ∧ (a1 = 3 → cf_Factors_split 10 r2 w (fun w6 => cf_T_howSplit a1 w6 (fun r7 => P r7 w6))) ∧ (a1 = 4 → cf_Polys_isIrreducible r2 (fun r8 => ((r8 = 0 → P (0 : Int32) w) ∧ (¬ r8 = 0 → P (1 : Int32) w)))) ∧ (a1 = 5 → cf_Orders_isSought 18 r2 (1 : Int32) w (fun r9 w10 => ((r9 = 0 → P (0 : Int32) w10) ∧ (¬ r9 = 0 → P (1 : Int32) w10)))) ∧ ((a1.toInt < 0 ∨ 5 < a1.toInt) → cf_Factors_split 10 r2 w (fun w11 => cf_T_howSplit a1 w11 (fun r12 => P r12 w11)))))) ∧ (¬ a1 ≤ (8 : Int32) → P (-5 : Int32) w)))))))
theorem cf_T_poly_ok {g : ayG} {d : Nat} (hd : 7 ≤ d) (a0 : Int32) (a1 : Int32)  (w : Wd) (P : Int32 → Wd → Prop) (h : cf_T_poly a0 a1 w P) : Call g y_T_poly prog_1_method_24_code 5 (some FieldType.int) d [.ref (g.1 + 0), .int a0, .int a1] w (fun (r : Option Value) (w2 : Wd) => ∃ x, r = some (.int x) ∧ P x w2) := by
  unfold cf_T_poly at h
  refine am_enter mi_T_poly (Nat.le_of_ble_eq_true rfl) ?_
  have hQ : ∀ x w2, P x w2 → (fun (r : Option Value) (w2 : Wd) => ∃ x, r = some (.int x) ∧ P x w2) (some (.int x)) w2 := fun x w2 h => ⟨x, rfl, h⟩
  generalize (fun (r : Option Value) (w2 : Wd) => ∃ x, r = some (.int x) ∧ P x w2) = Q at hQ ⊢
  show wp g (fun _ => True) y_T_poly prog_1_method_24_code 5 (some FieldType.int) d 0 [(0, .ref (g.1 + 0)), (1, .int a0), (2, .int a1)] [] w Q
  refine am_iload_n d_T_poly_0 1 rfl ?_
  refine am_callS (d2 := d - 1) [.int a0] d_T_poly_1 mi_Store_isPlace wd_453 wd_263 (by omega) rfl rfl (Nat.le_of_ble_eq_true rfl) ?_
  refine Call.post ?_ (cf_Store_isPlace_ok (by omega) a0  w _ h)
  rintro _ _ ⟨r1, rfl, rfl, h⟩
  show wp g (fun _ => True) y_T_poly prog_1_method_24_code 5 (some FieldType.int) d 4 [(0, .ref (g.1 + 0)), (1, .int a0), (2, .int a1)] [.int r1] w Q
  refine am_if_eq (tgt := 17) d_T_poly_4 (by decide) (fun c4 => ?_) (fun c4 => ?_)
  · have h := h.1 c4
    refine am_bipush (v := -5) d_T_poly_17 rfl ?_
    exact am_ireturn d_T_poly_19 rfl rfl (hQ (-5 : Int32) w h)
  · have h := h.2 c4
    refine am_iload_n d_T_poly_7 2 rfl ?_
    refine am_if_lt (tgt := 17) d_T_poly_8 (by decide) (fun c8 => ?_) (fun c8 => ?_)
    · have h := h.1 c8
      refine am_bipush (v := -5) d_T_poly_17 rfl ?_
      exact am_ireturn d_T_poly_19 rfl rfl (hQ (-5 : Int32) w h)
    · have h := h.2 c8
      refine am_iload_n d_T_poly_11 2 rfl ?_
      refine am_bipush (v := 8) d_T_poly_12 rfl ?_
      refine am_icmp_le (tgt := 20) d_T_poly_14 (by decide) (fun c14 => ?_) (fun c14 => ?_)
      · have h := h.1 c14
        refine am_aload_n d_T_poly_20 0 rfl ?_
        refine am_getf (T := F_T) (fs := ob_T g w 0) (C := R_T) (N := 9) (ci := 0) 1 d_T_poly_21 wd_195 rfl (by decide) (el_T (show ay_sh 0 = _ from rfl)) rfl i_T (by decide) rfl ?_
        refine am_iload_n d_T_poly_24 1 rfl ?_
        refine am_callV (C := "TriSplits$Store") (d2 := d - 1) [.int a0] d_T_poly_25 mi_Store_polyAt wd_468 wd_259 wd_260 (by decide) (el_Store (show ay_sh 6 = _ from rfl)) rfl rfl (by omega) rfl rfl (Nat.le_of_ble_eq_true rfl) ?_
        refine Call.post ?_ (cf_Store_polyAt_ok (by omega) a0  w _ h)
        rintro _ _ ⟨r2, rfl, rfl, h⟩
        show wp g (fun _ => True) y_T_poly prog_1_method_24_code 5 (some FieldType.int) d 28 [(0, .ref (g.1 + 0)), (1, .int a0), (2, .int a1)] [.long r2] w Q
        refine am_lstore_n (l' := [(3, .long r2), (0, .ref (g.1 + 0)), (1, .int a0), (2, .int a1)]) d_T_poly_28 (by decide) rfl ?_
        refine am_iload_n d_T_poly_29 3 rfl ?_
        refine am_switch d_T_poly_30 (by decide) (fun tgt ht hx => ?_) ⟨116, by decide⟩ (fun i off ho hx => ?_)
        · have h := h.2.2.2.2.2.2 hx
          obtain rfl : tgt = 116 := by omega
          refine am_aload_n d_T_poly_116 1 rfl ?_
          refine am_getf (T := F_T) (fs := ob_T g w 0) (C := R_T) (N := 9) (ci := 0) 2 d_T_poly_117 wd_196 rfl (by decide) (el_T (show ay_sh 0 = _ from rfl)) rfl i_T (by decide) rfl ?_
          refine am_lload_n d_T_poly_120 0 rfl ?_
          refine am_callV (C := "TriSplits$Factors") (d2 := d - 1) [.long r2] d_T_poly_121 mi_Factors_split wd_673 wd_674 wd_675 (by decide) (el_Factors (show ay_sh 10 = _ from rfl)) rfl rfl (by omega) rfl rfl (Nat.le_of_ble_eq_true rfl) ?_
          refine Call.post ?_ (cf_Factors_split_ok (by omega) 10 r2 (show ay_sh 10 = _ from rfl) w _ h)
          rintro _ w11 ⟨rfl, h⟩
          show wp g (fun _ => True) y_T_poly prog_1_method_24_code 5 (some FieldType.int) d 124 [(3, .long r2), (0, .ref (g.1 + 0)), (1, .int a0), (2, .int a1)] [] w11 Q
          refine am_aload_n d_T_poly_124 1 rfl ?_
          refine am_iload_n d_T_poly_125 3 rfl ?_
          refine am_callV (C := y_T_howSplit.cls) (d2 := d - 1) [.int a1] d_T_poly_126 mi_T_howSplit wd_704 wd_706 ws_T_howSplit (by decide) (el_T (show ay_sh 0 = _ from rfl)) rfl rfl (by omega) rfl rfl (Nat.le_of_ble_eq_true rfl) ?_
          refine Call.post ?_ (cf_T_howSplit_ok (by omega) a1  w11 _ h)
          rintro _ _ ⟨r12, rfl, rfl, h⟩
          show wp g (fun _ => True) y_T_poly prog_1_method_24_code 5 (some FieldType.int) d 129 [(3, .long r2), (0, .ref (g.1 + 0)), (1, .int a0), (2, .int a1)] [.int r12] w11 Q
          exact am_ireturn d_T_poly_129 rfl rfl (hQ r12 w11 h)
        · have hi : i < 6 := (Array.getElem?_eq_some_iff.mp ho).1
          match i, hi, ho, hx with
          | 0, _, ho, hx =>
            refine ⟨68, ?_, ?_⟩
            · have e := Option.some.inj ho; rw [← e]; decide
            · have h := h.1 (Int32.toInt_inj.mp (by rw [hx]; decide))
              refine am_lload_n d_T_poly_68 0 rfl ?_
              refine am_callS (d2 := d - 1) [.long r2] d_T_poly_69 mi_Polys_degree wd_460 wd_391 (by omega) rfl rfl (Nat.le_of_ble_eq_true rfl) ?_
              refine Call.post ?_ (cf_Polys_degree_ok (by omega) r2  w _ h)
              rintro _ _ ⟨r3, rfl, rfl, h⟩
              show wp g (fun _ => True) y_T_poly prog_1_method_24_code 5 (some FieldType.int) d 72 [(3, .long r2), (0, .ref (g.1 + 0)), (1, .int a0), (2, .int a1)] [.int r3] w Q
              exact am_ireturn d_T_poly_72 rfl rfl (hQ r3 w h)
          | 1, _, ho, hx =>
            refine ⟨73, ?_, ?_⟩
            · have e := Option.some.inj ho; rw [← e]; decide
            · have h := h.2.1 (Int32.toInt_inj.mp (by rw [hx]; decide))
              refine am_lload_n d_T_poly_73 0 rfl ?_
              refine am_callS (d2 := d - 1) [.long r2] d_T_poly_74 mi_Long_bitCount wd_642 wd_582 (by omega) rfl rfl (Nat.le_of_ble_eq_true rfl) ?_
              refine Call.post ?_ (cf_Long_bitCount_ok (by omega) r2  w _ h)
              rintro _ _ ⟨r4, rfl, rfl, h⟩
              show wp g (fun _ => True) y_T_poly prog_1_method_24_code 5 (some FieldType.int) d 77 [(3, .long r2), (0, .ref (g.1 + 0)), (1, .int a0), (2, .int a1)] [.int r4] w Q
              exact am_ireturn d_T_poly_77 rfl rfl (hQ r4 w h)
          | 2, _, ho, hx =>
            refine ⟨78, ?_, ?_⟩
            · have e := Option.some.inj ho; rw [← e]; decide
            · have h := h.2.2.1 (Int32.toInt_inj.mp (by rw [hx]; decide))
              refine am_lload_n d_T_poly_78 0 rfl ?_
              refine am_callS (d2 := d - 1) [.long r2] d_T_poly_79 mi_Long_bitCount wd_642 wd_582 (by omega) rfl rfl (Nat.le_of_ble_eq_true rfl) ?_
              refine Call.post ?_ (cf_Long_bitCount_ok (by omega) r2  w _ h)
              rintro _ _ ⟨r5, rfl, rfl, h⟩
              show wp g (fun _ => True) y_T_poly prog_1_method_24_code 5 (some FieldType.int) d 82 [(3, .long r2), (0, .ref (g.1 + 0)), (1, .int a0), (2, .int a1)] [.int r5] w Q
              refine am_iconst (v := 1) d_T_poly_82 rfl ?_
              refine am_iand d_T_poly_83 ?_
              exact am_ireturn d_T_poly_84 rfl rfl (hQ (r5 &&& (1 : Int32)) w h)
          | 3, _, ho, hx =>
            refine ⟨116, ?_, ?_⟩
            · have e := Option.some.inj ho; rw [← e]; decide
            · have h := h.2.2.2.1 (Int32.toInt_inj.mp (by rw [hx]; decide))
              refine am_aload_n d_T_poly_116 1 rfl ?_
              refine am_getf (T := F_T) (fs := ob_T g w 0) (C := R_T) (N := 9) (ci := 0) 2 d_T_poly_117 wd_196 rfl (by decide) (el_T (show ay_sh 0 = _ from rfl)) rfl i_T (by decide) rfl ?_
              refine am_lload_n d_T_poly_120 0 rfl ?_
              refine am_callV (C := "TriSplits$Factors") (d2 := d - 1) [.long r2] d_T_poly_121 mi_Factors_split wd_673 wd_674 wd_675 (by decide) (el_Factors (show ay_sh 10 = _ from rfl)) rfl rfl (by omega) rfl rfl (Nat.le_of_ble_eq_true rfl) ?_
              refine Call.post ?_ (cf_Factors_split_ok (by omega) 10 r2 (show ay_sh 10 = _ from rfl) w _ h)
              rintro _ w6 ⟨rfl, h⟩
              show wp g (fun _ => True) y_T_poly prog_1_method_24_code 5 (some FieldType.int) d 124 [(3, .long r2), (0, .ref (g.1 + 0)), (1, .int a0), (2, .int a1)] [] w6 Q
              refine am_aload_n d_T_poly_124 1 rfl ?_
              refine am_iload_n d_T_poly_125 3 rfl ?_
              refine am_callV (C := y_T_howSplit.cls) (d2 := d - 1) [.int a1] d_T_poly_126 mi_T_howSplit wd_704 wd_706 ws_T_howSplit (by decide) (el_T (show ay_sh 0 = _ from rfl)) rfl rfl (by omega) rfl rfl (Nat.le_of_ble_eq_true rfl) ?_
              refine Call.post ?_ (cf_T_howSplit_ok (by omega) a1  w6 _ h)
              rintro _ _ ⟨r7, rfl, rfl, h⟩
              show wp g (fun _ => True) y_T_poly prog_1_method_24_code 5 (some FieldType.int) d 129 [(3, .long r2), (0, .ref (g.1 + 0)), (1, .int a0), (2, .int a1)] [.int r7] w6 Q
              exact am_ireturn d_T_poly_129 rfl rfl (hQ r7 w6 h)
          | 4, _, ho, hx =>
            refine ⟨85, ?_, ?_⟩
            · have e := Option.some.inj ho; rw [← e]; decide
            · have h := h.2.2.2.2.1 (Int32.toInt_inj.mp (by rw [hx]; decide))
              refine am_lload_n d_T_poly_85 0 rfl ?_
              refine am_callS (d2 := d - 1) [.long r2] d_T_poly_86 mi_Polys_isIrreducible wd_643 wd_644 (by omega) rfl rfl (Nat.le_of_ble_eq_true rfl) ?_
              refine Call.post ?_ (cf_Polys_isIrreducible_ok (by omega) r2  w _ h)
              rintro _ _ ⟨r8, rfl, rfl, h⟩
              show wp g (fun _ => True) y_T_poly prog_1_method_24_code 5 (some FieldType.int) d 89 [(3, .long r2), (0, .ref (g.1 + 0)), (1, .int a0), (2, .int a1)] [.int r8] w Q
              refine am_if_eq (tgt := 96) d_T_poly_89 (by decide) (fun c89 => ?_) (fun c89 => ?_)
              · have h := h.1 c89
                refine am_iconst (v := 0) d_T_poly_96 rfl ?_
                exact am_ireturn d_T_poly_97 rfl rfl (hQ (0 : Int32) w h)
              · have h := h.2 c89
                refine am_iconst (v := 1) d_T_poly_92 rfl ?_
                refine am_goto (tgt := 97) d_T_poly_93 (by decide) ?_
                exact am_ireturn d_T_poly_97 rfl rfl (hQ (1 : Int32) w h)
          | 5, _, ho, hx =>
            refine ⟨98, ?_, ?_⟩
            · have e := Option.some.inj ho; rw [← e]; decide
            · have h := h.2.2.2.2.2.1 (Int32.toInt_inj.mp (by rw [hx]; decide))
              refine am_aload_n d_T_poly_98 1 rfl ?_
              refine am_getf (T := F_T) (fs := ob_T g w 0) (C := R_T) (N := 9) (ci := 0) 4 d_T_poly_99 wd_198 rfl (by decide) (el_T (show ay_sh 0 = _ from rfl)) rfl i_T (by decide) rfl ?_
              refine am_lload_n d_T_poly_102 0 rfl ?_
              refine am_iconst (v := 1) d_T_poly_103 rfl ?_
              refine am_callV (C := "TriSplits$Orders") (d2 := d - 1) [.long r2, .int (1 : Int32)] d_T_poly_104 mi_Orders_isSought wd_652 wd_653 wd_654 (by decide) (el_Orders (show ay_sh 18 = _ from rfl)) rfl rfl (by omega) rfl rfl (Nat.le_of_ble_eq_true rfl) ?_
              refine Call.post ?_ (cf_Orders_isSought_ok (by omega) 18 r2 (1 : Int32) (show ay_sh 18 = _ from rfl) w _ h)
              rintro _ w10 ⟨r9, rfl, h⟩
              show wp g (fun _ => True) y_T_poly prog_1_method_24_code 5 (some FieldType.int) d 107 [(3, .long r2), (0, .ref (g.1 + 0)), (1, .int a0), (2, .int a1)] [.int r9] w10 Q
              refine am_if_eq (tgt := 114) d_T_poly_107 (by decide) (fun c107 => ?_) (fun c107 => ?_)
              · have h := h.1 c107
                refine am_iconst (v := 0) d_T_poly_114 rfl ?_
                exact am_ireturn d_T_poly_115 rfl rfl (hQ (0 : Int32) w10 h)
              · have h := h.2 c107
                refine am_iconst (v := 1) d_T_poly_110 rfl ?_
                refine am_goto (tgt := 115) d_T_poly_111 (by decide) ?_
                exact am_ireturn d_T_poly_115 rfl rfl (hQ (1 : Int32) w10 h)
          | n + 6, hi, _, _ => exact absurd hi (by omega)
      · have h := h.2 c14
        refine am_bipush (v := -5) d_T_poly_17 rfl ?_
        exact am_ireturn d_T_poly_19 rfl rfl (hQ (-5 : Int32) w h)
theorem d_T_factor_0 : decode prog_1_method_25_code 0 = .ok (.iload_n 1, 1) := by decide +kernel
theorem d_T_factor_1 : decode prog_1_method_25_code 1 = .ok (.invokestatic 109, 3) := by decide +kernel
theorem d_T_factor_4 : decode prog_1_method_25_code 4 = .ok (.ifCond .eq 7, 3) := by decide +kernel
theorem d_T_factor_7 : decode prog_1_method_25_code 7 = .ok (.iload_n 2, 1) := by decide +kernel
theorem d_T_factor_8 : decode prog_1_method_25_code 8 = .ok (.ifCond .ge 7, 3) := by decide +kernel
theorem d_T_factor_11 : decode prog_1_method_25_code 11 = .ok (.ldc2_w 172, 3) := by decide +kernel
theorem d_T_factor_14 : decode prog_1_method_25_code 14 = .ok (.lreturn, 1) := by decide +kernel
theorem d_T_factor_15 : decode prog_1_method_25_code 15 = .ok (.aload_n 0, 1) := by decide +kernel
theorem d_T_factor_16 : decode prog_1_method_25_code 16 = .ok (.getfield 26, 3) := by decide +kernel
theorem d_T_factor_19 : decode prog_1_method_25_code 19 = .ok (.aload_n 0, 1) := by decide +kernel
theorem d_T_factor_20 : decode prog_1_method_25_code 20 = .ok (.getfield 19, 3) := by decide +kernel
theorem d_T_factor_23 : decode prog_1_method_25_code 23 = .ok (.iload_n 1, 1) := by decide +kernel
theorem d_T_factor_24 : decode prog_1_method_25_code 24 = .ok (.invokevirtual 122, 3) := by decide +kernel
theorem d_T_factor_27 : decode prog_1_method_25_code 27 = .ok (.invokevirtual 228, 3) := by decide +kernel
theorem d_T_factor_30 : decode prog_1_method_25_code 30 = .ok (.aload_n 0, 1) := by decide +kernel
theorem d_T_factor_31 : decode prog_1_method_25_code 31 = .ok (.getfield 26, 3) := by decide +kernel
theorem d_T_factor_34 : decode prog_1_method_25_code 34 = .ok (.iload_n 2, 1) := by decide +kernel
theorem d_T_factor_35 : decode prog_1_method_25_code 35 = .ok (.invokevirtual 236, 3) := by decide +kernel
theorem d_T_factor_38 : decode prog_1_method_25_code 38 = .ok (.lstore_n 3, 1) := by decide +kernel
theorem d_T_factor_39 : decode prog_1_method_25_code 39 = .ok (.lload_n 3, 1) := by decide +kernel
theorem d_T_factor_40 : decode prog_1_method_25_code 40 = .ok (.lconst 0, 1) := by decide +kernel
theorem d_T_factor_41 : decode prog_1_method_25_code 41 = .ok (.lcmp, 1) := by decide +kernel
theorem d_T_factor_42 : decode prog_1_method_25_code 42 = .ok (.ifCond .ne 9, 3) := by decide +kernel
theorem d_T_factor_45 : decode prog_1_method_25_code 45 = .ok (.ldc2_w 178, 3) := by decide +kernel
theorem d_T_factor_48 : decode prog_1_method_25_code 48 = .ok (.goto 4, 3) := by decide +kernel
theorem d_T_factor_51 : decode prog_1_method_25_code 51 = .ok (.lload_n 3, 1) := by decide +kernel
theorem d_T_factor_52 : decode prog_1_method_25_code 52 = .ok (.lreturn, 1) := by decide +kernel
def cf_T_factor (a0 : Int32) (a1 : Int32) (w : Wd) (P : Int64 → Wd → Prop) : Prop :=
  cf_Store_isPlace a0 (fun r1 => ((r1 = 0 → P (-1 : Int64) w) ∧ (¬ r1 = 0 → ((0 ≤ a1 → cf_Store_polyAt a0 w (fun r2 => cf_Factors_split 10 r2 w (fun w3 => cf_Factors_inOrder 10 a1 w3 (fun r4 => ((¬ r4 = (0 : Int64) → P r4 w3) ∧ (r4 = (0 : Int64) → P (-2 : Int64) w3)))))) ∧ (¬ 0 ≤ a1 → P (-1 : Int64) w)))))
theorem cf_T_factor_ok {g : ayG} {d : Nat} (hd : 7 ≤ d) (a0 : Int32) (a1 : Int32)  (w : Wd) (P : Int64 → Wd → Prop) (h : cf_T_factor a0 a1 w P) : Call g y_T_factor prog_1_method_25_code 5 (some FieldType.long) d [.ref (g.1 + 0), .int a0, .int a1] w (fun (r : Option Value) (w2 : Wd) => ∃ x, r = some (.long x) ∧ P x w2) := by
  unfold cf_T_factor at h
  refine am_enter mi_T_factor (Nat.le_of_ble_eq_true rfl) ?_
  have hQ : ∀ x w2, P x w2 → (fun (r : Option Value) (w2 : Wd) => ∃ x, r = some (.long x) ∧ P x w2) (some (.long x)) w2 := fun x w2 h => ⟨x, rfl, h⟩
  generalize (fun (r : Option Value) (w2 : Wd) => ∃ x, r = some (.long x) ∧ P x w2) = Q at hQ ⊢
  show wp g (fun _ => True) y_T_factor prog_1_method_25_code 5 (some FieldType.long) d 0 [(0, .ref (g.1 + 0)), (1, .int a0), (2, .int a1)] [] w Q
  refine am_iload_n d_T_factor_0 1 rfl ?_
  refine am_callS (d2 := d - 1) [.int a0] d_T_factor_1 mi_Store_isPlace wd_453 wd_263 (by omega) rfl rfl (Nat.le_of_ble_eq_true rfl) ?_
  refine Call.post ?_ (cf_Store_isPlace_ok (by omega) a0  w _ h)
  rintro _ _ ⟨r1, rfl, rfl, h⟩
  show wp g (fun _ => True) y_T_factor prog_1_method_25_code 5 (some FieldType.long) d 4 [(0, .ref (g.1 + 0)), (1, .int a0), (2, .int a1)] [.int r1] w Q
  refine am_if_eq (tgt := 11) d_T_factor_4 (by decide) (fun c4 => ?_) (fun c4 => ?_)
  · have h := h.1 c4
    refine am_ldc2 (v := -1) d_T_factor_11 wd_560 ?_
    exact am_lreturn d_T_factor_14 rfl (hQ (-1 : Int64) w h)
  · have h := h.2 c4
    refine am_iload_n d_T_factor_7 2 rfl ?_
    refine am_if_ge (tgt := 15) d_T_factor_8 (by decide) (fun c8 => ?_) (fun c8 => ?_)
    · have h := h.1 c8
      refine am_aload_n d_T_factor_15 0 rfl ?_
      refine am_getf (T := F_T) (fs := ob_T g w 0) (C := R_T) (N := 9) (ci := 0) 2 d_T_factor_16 wd_196 rfl (by decide) (el_T (show ay_sh 0 = _ from rfl)) rfl i_T (by decide) rfl ?_
      refine am_aload_n d_T_factor_19 0 rfl ?_
      refine am_getf (T := F_T) (fs := ob_T g w 0) (C := R_T) (N := 9) (ci := 0) 1 d_T_factor_20 wd_195 rfl (by decide) (el_T (show ay_sh 0 = _ from rfl)) rfl i_T (by decide) rfl ?_
      refine am_iload_n d_T_factor_23 1 rfl ?_
      refine am_callV (C := "TriSplits$Store") (d2 := d - 1) [.int a0] d_T_factor_24 mi_Store_polyAt wd_468 wd_259 wd_260 (by decide) (el_Store (show ay_sh 6 = _ from rfl)) rfl rfl (by omega) rfl rfl (Nat.le_of_ble_eq_true rfl) ?_
      refine Call.post ?_ (cf_Store_polyAt_ok (by omega) a0  w _ h)
      rintro _ _ ⟨r2, rfl, rfl, h⟩
      show wp g (fun _ => True) y_T_factor prog_1_method_25_code 5 (some FieldType.long) d 27 [(0, .ref (g.1 + 0)), (1, .int a0), (2, .int a1)] [.long r2, .ref (g.1 + 10)] w Q
      refine am_callV (C := "TriSplits$Factors") (d2 := d - 1) [.long r2] d_T_factor_27 mi_Factors_split wd_673 wd_674 wd_675 (by decide) (el_Factors (show ay_sh 10 = _ from rfl)) rfl rfl (by omega) rfl rfl (Nat.le_of_ble_eq_true rfl) ?_
      refine Call.post ?_ (cf_Factors_split_ok (by omega) 10 r2 (show ay_sh 10 = _ from rfl) w _ h)
      rintro _ w3 ⟨rfl, h⟩
      show wp g (fun _ => True) y_T_factor prog_1_method_25_code 5 (some FieldType.long) d 30 [(0, .ref (g.1 + 0)), (1, .int a0), (2, .int a1)] [] w3 Q
      refine am_aload_n d_T_factor_30 0 rfl ?_
      refine am_getf (T := F_T) (fs := ob_T g w3 0) (C := R_T) (N := 9) (ci := 0) 2 d_T_factor_31 wd_196 rfl (by decide) (el_T (show ay_sh 0 = _ from rfl)) rfl i_T (by decide) rfl ?_
      refine am_iload_n d_T_factor_34 2 rfl ?_
      refine am_callV (C := "TriSplits$Factors") (d2 := d - 1) [.int a1] d_T_factor_35 mi_Factors_inOrder wd_728 wd_729 wd_730 (by decide) (el_Factors (show ay_sh 10 = _ from rfl)) rfl rfl (by omega) rfl rfl (Nat.le_of_ble_eq_true rfl) ?_
      refine Call.post ?_ (cf_Factors_inOrder_ok (by omega) 10 a1 (show ay_sh 10 = _ from rfl) w3 _ h)
      rintro _ _ ⟨r4, rfl, rfl, h⟩
      show wp g (fun _ => True) y_T_factor prog_1_method_25_code 5 (some FieldType.long) d 38 [(0, .ref (g.1 + 0)), (1, .int a0), (2, .int a1)] [.long r4] w3 Q
      refine am_lstore_n (l' := [(3, .long r4), (0, .ref (g.1 + 0)), (1, .int a0), (2, .int a1)]) d_T_factor_38 (by decide) rfl ?_
      refine am_lload_n d_T_factor_39 0 rfl ?_
      refine am_lconst (v := 0) d_T_factor_40 rfl ?_
      refine am_lif_ne (tgt := 51) d_T_factor_41 d_T_factor_42 (by decide) (fun c41 => ?_) (fun c41 => ?_)
      · have h := h.1 c41
        refine am_lload_n d_T_factor_51 0 rfl ?_
        exact am_lreturn d_T_factor_52 rfl (hQ r4 w3 h)
      · have h := h.2 c41
        refine am_ldc2 (v := -2) d_T_factor_45 wd_565 ?_
        refine am_goto (tgt := 52) d_T_factor_48 (by decide) ?_
        exact am_lreturn d_T_factor_52 rfl (hQ (-2 : Int64) w3 h)
    · have h := h.2 c8
      refine am_ldc2 (v := -1) d_T_factor_11 wd_560 ?_
      exact am_lreturn d_T_factor_14 rfl (hQ (-1 : Int64) w h)
theorem d_T_ofDegree_0 : decode prog_1_method_26_code 0 = .ok (.iload_n 1, 1) := by decide +kernel
theorem d_T_ofDegree_1 : decode prog_1_method_26_code 1 = .ok (.invokestatic 109, 3) := by decide +kernel
theorem d_T_ofDegree_4 : decode prog_1_method_26_code 4 = .ok (.ifCond .eq 14, 3) := by decide +kernel
theorem d_T_ofDegree_7 : decode prog_1_method_26_code 7 = .ok (.iload_n 2, 1) := by decide +kernel
theorem d_T_ofDegree_8 : decode prog_1_method_26_code 8 = .ok (.iconst 1, 1) := by decide +kernel
theorem d_T_ofDegree_9 : decode prog_1_method_26_code 9 = .ok (.if_icmp .lt 9, 3) := by decide +kernel
theorem d_T_ofDegree_12 : decode prog_1_method_26_code 12 = .ok (.iload_n 2, 1) := by decide +kernel
theorem d_T_ofDegree_13 : decode prog_1_method_26_code 13 = .ok (.bipush 31, 2) := by decide +kernel
theorem d_T_ofDegree_15 : decode prog_1_method_26_code 15 = .ok (.if_icmp .le 5, 3) := by decide +kernel
theorem d_T_ofDegree_18 : decode prog_1_method_26_code 18 = .ok (.iconst (-1), 1) := by decide +kernel
theorem d_T_ofDegree_19 : decode prog_1_method_26_code 19 = .ok (.ireturn, 1) := by decide +kernel
theorem d_T_ofDegree_20 : decode prog_1_method_26_code 20 = .ok (.aload_n 0, 1) := by decide +kernel
theorem d_T_ofDegree_21 : decode prog_1_method_26_code 21 = .ok (.getfield 26, 3) := by decide +kernel
theorem d_T_ofDegree_24 : decode prog_1_method_26_code 24 = .ok (.aload_n 0, 1) := by decide +kernel
theorem d_T_ofDegree_25 : decode prog_1_method_26_code 25 = .ok (.getfield 19, 3) := by decide +kernel
theorem d_T_ofDegree_28 : decode prog_1_method_26_code 28 = .ok (.iload_n 1, 1) := by decide +kernel
theorem d_T_ofDegree_29 : decode prog_1_method_26_code 29 = .ok (.invokevirtual 122, 3) := by decide +kernel
theorem d_T_ofDegree_32 : decode prog_1_method_26_code 32 = .ok (.invokevirtual 228, 3) := by decide +kernel
theorem d_T_ofDegree_35 : decode prog_1_method_26_code 35 = .ok (.aload_n 0, 1) := by decide +kernel
theorem d_T_ofDegree_36 : decode prog_1_method_26_code 36 = .ok (.getfield 26, 3) := by decide +kernel
theorem d_T_ofDegree_39 : decode prog_1_method_26_code 39 = .ok (.iload_n 2, 1) := by decide +kernel
theorem d_T_ofDegree_40 : decode prog_1_method_26_code 40 = .ok (.invokevirtual 239, 3) := by decide +kernel
theorem d_T_ofDegree_43 : decode prog_1_method_26_code 43 = .ok (.ireturn, 1) := by decide +kernel
def cf_T_ofDegree (a0 : Int32) (a1 : Int32) (w : Wd) (P : Int32 → Wd → Prop) : Prop :=
  cf_Store_isPlace a0 (fun r1 => ((r1 = 0 → P (-1 : Int32) w) ∧ (¬ r1 = 0 → ((a1 < (1 : Int32) → P (-1 : Int32) w) ∧ (¬ a1 < (1 : Int32) → ((a1 ≤ (31 : Int32) → cf_Store_polyAt a0 w (fun r2 => cf_Factors_split 10 r2 w (fun w3 => cf_Factors_ofOneDegree 10 a1 w3 (fun r4 => P r4 w3)))) ∧ (¬ a1 ≤ (31 : Int32) → P (-1 : Int32) w)))))))
theorem cf_T_ofDegree_ok {g : ayG} {d : Nat} (hd : 7 ≤ d) (a0 : Int32) (a1 : Int32)  (w : Wd) (P : Int32 → Wd → Prop) (h : cf_T_ofDegree a0 a1 w P) : Call g y_T_ofDegree prog_1_method_26_code 3 (some FieldType.int) d [.ref (g.1 + 0), .int a0, .int a1] w (fun (r : Option Value) (w2 : Wd) => ∃ x, r = some (.int x) ∧ P x w2) := by
  unfold cf_T_ofDegree at h
  refine am_enter mi_T_ofDegree (Nat.le_of_ble_eq_true rfl) ?_
  have hQ : ∀ x w2, P x w2 → (fun (r : Option Value) (w2 : Wd) => ∃ x, r = some (.int x) ∧ P x w2) (some (.int x)) w2 := fun x w2 h => ⟨x, rfl, h⟩
  generalize (fun (r : Option Value) (w2 : Wd) => ∃ x, r = some (.int x) ∧ P x w2) = Q at hQ ⊢
  show wp g (fun _ => True) y_T_ofDegree prog_1_method_26_code 3 (some FieldType.int) d 0 [(0, .ref (g.1 + 0)), (1, .int a0), (2, .int a1)] [] w Q
  refine am_iload_n d_T_ofDegree_0 1 rfl ?_
  refine am_callS (d2 := d - 1) [.int a0] d_T_ofDegree_1 mi_Store_isPlace wd_453 wd_263 (by omega) rfl rfl (Nat.le_of_ble_eq_true rfl) ?_
  refine Call.post ?_ (cf_Store_isPlace_ok (by omega) a0  w _ h)
  rintro _ _ ⟨r1, rfl, rfl, h⟩
  show wp g (fun _ => True) y_T_ofDegree prog_1_method_26_code 3 (some FieldType.int) d 4 [(0, .ref (g.1 + 0)), (1, .int a0), (2, .int a1)] [.int r1] w Q
  refine am_if_eq (tgt := 18) d_T_ofDegree_4 (by decide) (fun c4 => ?_) (fun c4 => ?_)
  · have h := h.1 c4
    refine am_iconst (v := -1) d_T_ofDegree_18 rfl ?_
    exact am_ireturn d_T_ofDegree_19 rfl rfl (hQ (-1 : Int32) w h)
  · have h := h.2 c4
    refine am_iload_n d_T_ofDegree_7 2 rfl ?_
    refine am_iconst (v := 1) d_T_ofDegree_8 rfl ?_
    refine am_icmp_lt (tgt := 18) d_T_ofDegree_9 (by decide) (fun c9 => ?_) (fun c9 => ?_)
    · have h := h.1 c9
      refine am_iconst (v := -1) d_T_ofDegree_18 rfl ?_
      exact am_ireturn d_T_ofDegree_19 rfl rfl (hQ (-1 : Int32) w h)
    · have h := h.2 c9
      refine am_iload_n d_T_ofDegree_12 2 rfl ?_
      refine am_bipush (v := 31) d_T_ofDegree_13 rfl ?_
      refine am_icmp_le (tgt := 20) d_T_ofDegree_15 (by decide) (fun c15 => ?_) (fun c15 => ?_)
      · have h := h.1 c15
        refine am_aload_n d_T_ofDegree_20 0 rfl ?_
        refine am_getf (T := F_T) (fs := ob_T g w 0) (C := R_T) (N := 9) (ci := 0) 2 d_T_ofDegree_21 wd_196 rfl (by decide) (el_T (show ay_sh 0 = _ from rfl)) rfl i_T (by decide) rfl ?_
        refine am_aload_n d_T_ofDegree_24 0 rfl ?_
        refine am_getf (T := F_T) (fs := ob_T g w 0) (C := R_T) (N := 9) (ci := 0) 1 d_T_ofDegree_25 wd_195 rfl (by decide) (el_T (show ay_sh 0 = _ from rfl)) rfl i_T (by decide) rfl ?_
        refine am_iload_n d_T_ofDegree_28 1 rfl ?_
        refine am_callV (C := "TriSplits$Store") (d2 := d - 1) [.int a0] d_T_ofDegree_29 mi_Store_polyAt wd_468 wd_259 wd_260 (by decide) (el_Store (show ay_sh 6 = _ from rfl)) rfl rfl (by omega) rfl rfl (Nat.le_of_ble_eq_true rfl) ?_
        refine Call.post ?_ (cf_Store_polyAt_ok (by omega) a0  w _ h)
        rintro _ _ ⟨r2, rfl, rfl, h⟩
        show wp g (fun _ => True) y_T_ofDegree prog_1_method_26_code 3 (some FieldType.int) d 32 [(0, .ref (g.1 + 0)), (1, .int a0), (2, .int a1)] [.long r2, .ref (g.1 + 10)] w Q
        refine am_callV (C := "TriSplits$Factors") (d2 := d - 1) [.long r2] d_T_ofDegree_32 mi_Factors_split wd_673 wd_674 wd_675 (by decide) (el_Factors (show ay_sh 10 = _ from rfl)) rfl rfl (by omega) rfl rfl (Nat.le_of_ble_eq_true rfl) ?_
        refine Call.post ?_ (cf_Factors_split_ok (by omega) 10 r2 (show ay_sh 10 = _ from rfl) w _ h)
        rintro _ w3 ⟨rfl, h⟩
        show wp g (fun _ => True) y_T_ofDegree prog_1_method_26_code 3 (some FieldType.int) d 35 [(0, .ref (g.1 + 0)), (1, .int a0), (2, .int a1)] [] w3 Q
        refine am_aload_n d_T_ofDegree_35 0 rfl ?_
        refine am_getf (T := F_T) (fs := ob_T g w3 0) (C := R_T) (N := 9) (ci := 0) 2 d_T_ofDegree_36 wd_196 rfl (by decide) (el_T (show ay_sh 0 = _ from rfl)) rfl i_T (by decide) rfl ?_
        refine am_iload_n d_T_ofDegree_39 2 rfl ?_
        refine am_callV (C := "TriSplits$Factors") (d2 := d - 1) [.int a1] d_T_ofDegree_40 mi_Factors_ofOneDegree wd_740 wd_741 wd_742 (by decide) (el_Factors (show ay_sh 10 = _ from rfl)) rfl rfl (by omega) rfl rfl (Nat.le_of_ble_eq_true rfl) ?_
        refine Call.post ?_ (cf_Factors_ofOneDegree_ok (by omega) 10 a1 (show ay_sh 10 = _ from rfl) w3 _ h)
        rintro _ _ ⟨r4, rfl, rfl, h⟩
        show wp g (fun _ => True) y_T_ofDegree prog_1_method_26_code 3 (some FieldType.int) d 43 [(0, .ref (g.1 + 0)), (1, .int a0), (2, .int a1)] [.int r4] w3 Q
        exact am_ireturn d_T_ofDegree_43 rfl rfl (hQ r4 w3 h)
      · have h := h.2 c15
        refine am_iconst (v := -1) d_T_ofDegree_18 rfl ?_
        exact am_ireturn d_T_ofDegree_19 rfl rfl (hQ (-1 : Int32) w h)
theorem d_T_orderOf_0 : decode prog_1_method_57_code 0 = .ok (.aload_n 0, 1) := by decide +kernel
theorem d_T_orderOf_1 : decode prog_1_method_57_code 1 = .ok (.getfield 26, 3) := by decide +kernel
theorem d_T_orderOf_4 : decode prog_1_method_57_code 4 = .ok (.lload_n 1, 1) := by decide +kernel
theorem d_T_orderOf_5 : decode prog_1_method_57_code 5 = .ok (.invokevirtual 228, 3) := by decide +kernel
theorem d_T_orderOf_8 : decode prog_1_method_57_code 8 = .ok (.aload_n 0, 1) := by decide +kernel
theorem d_T_orderOf_9 : decode prog_1_method_57_code 9 = .ok (.getfield 36, 3) := by decide +kernel
theorem d_T_orderOf_12 : decode prog_1_method_57_code 12 = .ok (.aload_n 0, 1) := by decide +kernel
theorem d_T_orderOf_13 : decode prog_1_method_57_code 13 = .ok (.getfield 26, 3) := by decide +kernel
theorem d_T_orderOf_16 : decode prog_1_method_57_code 16 = .ok (.invokevirtual 379, 3) := by decide +kernel
theorem d_T_orderOf_19 : decode prog_1_method_57_code 19 = .ok (.lreturn, 1) := by decide +kernel
def cf_T_orderOf (a0 : Int64) (w : Wd) (P : Int64 → Wd → Prop) : Prop :=
  cf_Factors_split 10 a0 w (fun w1 => cf_Orders_ofSplit 18 10 w1 (fun r2 w3 => P r2 w3))
theorem cf_T_orderOf_ok {g : ayG} {d : Nat} (hd : 7 ≤ d) (a0 : Int64)  (w : Wd) (P : Int64 → Wd → Prop) (h : cf_T_orderOf a0 w P) : Call g y_T_orderOf prog_1_method_57_code 3 (some FieldType.long) d [.ref (g.1 + 0), .long a0] w (fun (r : Option Value) (w2 : Wd) => ∃ x, r = some (.long x) ∧ P x w2) := by
  unfold cf_T_orderOf at h
  refine am_enter mi_T_orderOf (Nat.le_of_ble_eq_true rfl) ?_
  have hQ : ∀ x w2, P x w2 → (fun (r : Option Value) (w2 : Wd) => ∃ x, r = some (.long x) ∧ P x w2) (some (.long x)) w2 := fun x w2 h => ⟨x, rfl, h⟩
  generalize (fun (r : Option Value) (w2 : Wd) => ∃ x, r = some (.long x) ∧ P x w2) = Q at hQ ⊢
  show wp g (fun _ => True) y_T_orderOf prog_1_method_57_code 3 (some FieldType.long) d 0 [(0, .ref (g.1 + 0)), (1, .long a0)] [] w Q
  refine am_aload_n d_T_orderOf_0 0 rfl ?_
  refine am_getf (T := F_T) (fs := ob_T g w 0) (C := R_T) (N := 9) (ci := 0) 2 d_T_orderOf_1 wd_196 rfl (by decide) (el_T (show ay_sh 0 = _ from rfl)) rfl i_T (by decide) rfl ?_
  refine am_lload_n d_T_orderOf_4 1 rfl ?_
  refine am_callV (C := "TriSplits$Factors") (d2 := d - 1) [.long a0] d_T_orderOf_5 mi_Factors_split wd_673 wd_674 wd_675 (by decide) (el_Factors (show ay_sh 10 = _ from rfl)) rfl rfl (by omega) rfl rfl (Nat.le_of_ble_eq_true rfl) ?_
  refine Call.post ?_ (cf_Factors_split_ok (by omega) 10 a0 (show ay_sh 10 = _ from rfl) w _ h)
  rintro _ w1 ⟨rfl, h⟩
  show wp g (fun _ => True) y_T_orderOf prog_1_method_57_code 3 (some FieldType.long) d 8 [(0, .ref (g.1 + 0)), (1, .long a0)] [] w1 Q
  refine am_aload_n d_T_orderOf_8 0 rfl ?_
  refine am_getf (T := F_T) (fs := ob_T g w1 0) (C := R_T) (N := 9) (ci := 0) 4 d_T_orderOf_9 wd_198 rfl (by decide) (el_T (show ay_sh 0 = _ from rfl)) rfl i_T (by decide) rfl ?_
  refine am_aload_n d_T_orderOf_12 0 rfl ?_
  refine am_getf (T := F_T) (fs := ob_T g w1 0) (C := R_T) (N := 9) (ci := 0) 2 d_T_orderOf_13 wd_196 rfl (by decide) (el_T (show ay_sh 0 = _ from rfl)) rfl i_T (by decide) rfl ?_
  refine am_callV (C := "TriSplits$Orders") (d2 := d - 1) [.ref (g.1 + 10)] d_T_orderOf_16 mi_Orders_ofSplit wd_753 wd_754 wd_755 (by decide) (el_Orders (show ay_sh 18 = _ from rfl)) rfl rfl (by omega) rfl rfl (Nat.le_of_ble_eq_true rfl) ?_
  refine Call.post ?_ (cf_Orders_ofSplit_ok (by omega) 18 10 (show ay_sh 18 = _ from rfl) (show ay_sh 10 = _ from rfl) w1 _ h)
  rintro _ w3 ⟨r2, rfl, h⟩
  show wp g (fun _ => True) y_T_orderOf prog_1_method_57_code 3 (some FieldType.long) d 19 [(0, .ref (g.1 + 0)), (1, .long a0)] [.long r2] w3 Q
  exact am_lreturn d_T_orderOf_19 rfl (hQ r2 w3 h)
theorem d_T_order_0 : decode prog_1_method_27_code 0 = .ok (.iload_n 1, 1) := by decide +kernel
theorem d_T_order_1 : decode prog_1_method_27_code 1 = .ok (.invokestatic 109, 3) := by decide +kernel
theorem d_T_order_4 : decode prog_1_method_27_code 4 = .ok (.ifCond .ne 7, 3) := by decide +kernel
theorem d_T_order_7 : decode prog_1_method_27_code 7 = .ok (.ldc2_w 172, 3) := by decide +kernel
theorem d_T_order_10 : decode prog_1_method_27_code 10 = .ok (.lreturn, 1) := by decide +kernel
theorem d_T_order_11 : decode prog_1_method_27_code 11 = .ok (.aload_n 0, 1) := by decide +kernel
theorem d_T_order_12 : decode prog_1_method_27_code 12 = .ok (.getfield 19, 3) := by decide +kernel
theorem d_T_order_15 : decode prog_1_method_27_code 15 = .ok (.iload_n 1, 1) := by decide +kernel
theorem d_T_order_16 : decode prog_1_method_27_code 16 = .ok (.invokevirtual 122, 3) := by decide +kernel
theorem d_T_order_19 : decode prog_1_method_27_code 19 = .ok (.lstore_n 2, 1) := by decide +kernel
theorem d_T_order_20 : decode prog_1_method_27_code 20 = .ok (.lload_n 2, 1) := by decide +kernel
theorem d_T_order_21 : decode prog_1_method_27_code 21 = .ok (.ldc2_w 242, 3) := by decide +kernel
theorem d_T_order_24 : decode prog_1_method_27_code 24 = .ok (.lcmp, 1) := by decide +kernel
theorem d_T_order_25 : decode prog_1_method_27_code 25 = .ok (.ifCond .lt 11, 3) := by decide +kernel
theorem d_T_order_28 : decode prog_1_method_27_code 28 = .ok (.lload_n 2, 1) := by decide +kernel
theorem d_T_order_29 : decode prog_1_method_27_code 29 = .ok (.lconst 1, 1) := by decide +kernel
theorem d_T_order_30 : decode prog_1_method_27_code 30 = .ok (.land, 1) := by decide +kernel
theorem d_T_order_31 : decode prog_1_method_27_code 31 = .ok (.lconst 0, 1) := by decide +kernel
theorem d_T_order_32 : decode prog_1_method_27_code 32 = .ok (.lcmp, 1) := by decide +kernel
theorem d_T_order_33 : decode prog_1_method_27_code 33 = .ok (.ifCond .ne 9, 3) := by decide +kernel
theorem d_T_order_36 : decode prog_1_method_27_code 36 = .ok (.ldc2_w 178, 3) := by decide +kernel
theorem d_T_order_39 : decode prog_1_method_27_code 39 = .ok (.goto 8, 3) := by decide +kernel
theorem d_T_order_42 : decode prog_1_method_27_code 42 = .ok (.aload_n 0, 1) := by decide +kernel
theorem d_T_order_43 : decode prog_1_method_27_code 43 = .ok (.lload_n 2, 1) := by decide +kernel
theorem d_T_order_44 : decode prog_1_method_27_code 44 = .ok (.invokevirtual 244, 3) := by decide +kernel
theorem d_T_order_47 : decode prog_1_method_27_code 47 = .ok (.lreturn, 1) := by decide +kernel
def cf_T_order (a0 : Int32) (w : Wd) (P : Int64 → Wd → Prop) : Prop :=
  cf_Store_isPlace a0 (fun r1 => ((¬ r1 = 0 → cf_Store_polyAt a0 w (fun r2 => ((r2 < (2 : Int64) → P (-2 : Int64) w) ∧ (¬ r2 < (2 : Int64) → ((¬ (r2 &&& (1 : Int64)) = (0 : Int64) → cf_T_orderOf r2 w (fun r3 w4 => P r3 w4)) ∧ ((r2 &&& (1 : Int64)) = (0 : Int64) → P (-2 : Int64) w)))))) ∧ (r1 = 0 → P (-1 : Int64) w)))
theorem cf_T_order_ok {g : ayG} {d : Nat} (hd : 8 ≤ d) (a0 : Int32)  (w : Wd) (P : Int64 → Wd → Prop) (h : cf_T_order a0 w P) : Call g y_T_order prog_1_method_27_code 4 (some FieldType.long) d [.ref (g.1 + 0), .int a0] w (fun (r : Option Value) (w2 : Wd) => ∃ x, r = some (.long x) ∧ P x w2) := by
  unfold cf_T_order at h
  refine am_enter mi_T_order (Nat.le_of_ble_eq_true rfl) ?_
  have hQ : ∀ x w2, P x w2 → (fun (r : Option Value) (w2 : Wd) => ∃ x, r = some (.long x) ∧ P x w2) (some (.long x)) w2 := fun x w2 h => ⟨x, rfl, h⟩
  generalize (fun (r : Option Value) (w2 : Wd) => ∃ x, r = some (.long x) ∧ P x w2) = Q at hQ ⊢
  show wp g (fun _ => True) y_T_order prog_1_method_27_code 4 (some FieldType.long) d 0 [(0, .ref (g.1 + 0)), (1, .int a0)] [] w Q
  refine am_iload_n d_T_order_0 1 rfl ?_
  refine am_callS (d2 := d - 1) [.int a0] d_T_order_1 mi_Store_isPlace wd_453 wd_263 (by omega) rfl rfl (Nat.le_of_ble_eq_true rfl) ?_
  refine Call.post ?_ (cf_Store_isPlace_ok (by omega) a0  w _ h)
  rintro _ _ ⟨r1, rfl, rfl, h⟩
  show wp g (fun _ => True) y_T_order prog_1_method_27_code 4 (some FieldType.long) d 4 [(0, .ref (g.1 + 0)), (1, .int a0)] [.int r1] w Q
  refine am_if_ne (tgt := 11) d_T_order_4 (by decide) (fun c4 => ?_) (fun c4 => ?_)
  · have h := h.1 c4
    refine am_aload_n d_T_order_11 0 rfl ?_
    refine am_getf (T := F_T) (fs := ob_T g w 0) (C := R_T) (N := 9) (ci := 0) 1 d_T_order_12 wd_195 rfl (by decide) (el_T (show ay_sh 0 = _ from rfl)) rfl i_T (by decide) rfl ?_
    refine am_iload_n d_T_order_15 1 rfl ?_
    refine am_callV (C := "TriSplits$Store") (d2 := d - 1) [.int a0] d_T_order_16 mi_Store_polyAt wd_468 wd_259 wd_260 (by decide) (el_Store (show ay_sh 6 = _ from rfl)) rfl rfl (by omega) rfl rfl (Nat.le_of_ble_eq_true rfl) ?_
    refine Call.post ?_ (cf_Store_polyAt_ok (by omega) a0  w _ h)
    rintro _ _ ⟨r2, rfl, rfl, h⟩
    show wp g (fun _ => True) y_T_order prog_1_method_27_code 4 (some FieldType.long) d 19 [(0, .ref (g.1 + 0)), (1, .int a0)] [.long r2] w Q
    refine am_lstore_n (l' := [(2, .long r2), (0, .ref (g.1 + 0)), (1, .int a0)]) d_T_order_19 (by decide) rfl ?_
    refine am_lload_n d_T_order_20 0 rfl ?_
    refine am_ldc2 (v := 2) d_T_order_21 wd_748 ?_
    refine am_lif_lt (tgt := 36) d_T_order_24 d_T_order_25 (by decide) (fun c24 => ?_) (fun c24 => ?_)
    · have h := h.1 c24
      refine am_ldc2 (v := -2) d_T_order_36 wd_565 ?_
      refine am_goto (tgt := 47) d_T_order_39 (by decide) ?_
      exact am_lreturn d_T_order_47 rfl (hQ (-2 : Int64) w h)
    · have h := h.2 c24
      refine am_lload_n d_T_order_28 0 rfl ?_
      refine am_lconst (v := 1) d_T_order_29 rfl ?_
      refine am_land d_T_order_30 ?_
      refine am_lconst (v := 0) d_T_order_31 rfl ?_
      refine am_lif_ne (tgt := 42) d_T_order_32 d_T_order_33 (by decide) (fun c32 => ?_) (fun c32 => ?_)
      · have h := h.1 c32
        refine am_aload_n d_T_order_42 1 rfl ?_
        refine am_lload_n d_T_order_43 0 rfl ?_
        refine am_callV (C := y_T_orderOf.cls) (d2 := d - 1) [.long r2] d_T_order_44 mi_T_orderOf wd_749 wd_751 ws_T_orderOf (by decide) (el_T (show ay_sh 0 = _ from rfl)) rfl rfl (by omega) rfl rfl (Nat.le_of_ble_eq_true rfl) ?_
        refine Call.post ?_ (cf_T_orderOf_ok (by omega) r2  w _ h)
        rintro _ w4 ⟨r3, rfl, h⟩
        show wp g (fun _ => True) y_T_order prog_1_method_27_code 4 (some FieldType.long) d 47 [(2, .long r2), (0, .ref (g.1 + 0)), (1, .int a0)] [.long r3] w4 Q
        exact am_lreturn d_T_order_47 rfl (hQ r3 w4 h)
      · have h := h.2 c32
        refine am_ldc2 (v := -2) d_T_order_36 wd_565 ?_
        refine am_goto (tgt := 47) d_T_order_39 (by decide) ?_
        exact am_lreturn d_T_order_47 rfl (hQ (-2 : Int64) w h)
  · have h := h.2 c4
    refine am_ldc2 (v := -1) d_T_order_7 wd_560 ?_
    exact am_lreturn d_T_order_10 rfl (hQ (-1 : Int64) w h)
theorem d_T_divisor_0 : decode prog_1_method_28_code 0 = .ok (.iload_n 1, 1) := by decide +kernel
theorem d_T_divisor_1 : decode prog_1_method_28_code 1 = .ok (.invokestatic 109, 3) := by decide +kernel
theorem d_T_divisor_4 : decode prog_1_method_28_code 4 = .ok (.ifCond .eq 8, 3) := by decide +kernel
theorem d_T_divisor_7 : decode prog_1_method_28_code 7 = .ok (.iload_n 2, 1) := by decide +kernel
theorem d_T_divisor_8 : decode prog_1_method_28_code 8 = .ok (.iconst (-1), 1) := by decide +kernel
theorem d_T_divisor_9 : decode prog_1_method_28_code 9 = .ok (.if_icmp .ge 7, 3) := by decide +kernel
theorem d_T_divisor_12 : decode prog_1_method_28_code 12 = .ok (.ldc2_w 172, 3) := by decide +kernel
theorem d_T_divisor_15 : decode prog_1_method_28_code 15 = .ok (.lreturn, 1) := by decide +kernel
theorem d_T_divisor_16 : decode prog_1_method_28_code 16 = .ok (.iconst 0, 1) := by decide +kernel
theorem d_T_divisor_17 : decode prog_1_method_28_code 17 = .ok (.istore_n 3, 1) := by decide +kernel
theorem d_T_divisor_18 : decode prog_1_method_28_code 18 = .ok (.aload_n 0, 1) := by decide +kernel
theorem d_T_divisor_19 : decode prog_1_method_28_code 19 = .ok (.getfield 19, 3) := by decide +kernel
theorem d_T_divisor_22 : decode prog_1_method_28_code 22 = .ok (.iload_n 1, 1) := by decide +kernel
theorem d_T_divisor_23 : decode prog_1_method_28_code 23 = .ok (.invokevirtual 122, 3) := by decide +kernel
theorem d_T_divisor_26 : decode prog_1_method_28_code 26 = .ok (.lconst 0, 1) := by decide +kernel
theorem d_T_divisor_27 : decode prog_1_method_28_code 27 = .ok (.lcmp, 1) := by decide +kernel
theorem d_T_divisor_28 : decode prog_1_method_28_code 28 = .ok (.ifCond .eq 30, 3) := by decide +kernel
theorem d_T_divisor_31 : decode prog_1_method_28_code 31 = .ok (.aload_n 0, 1) := by decide +kernel
theorem d_T_divisor_32 : decode prog_1_method_28_code 32 = .ok (.getfield 26, 3) := by decide +kernel
theorem d_T_divisor_35 : decode prog_1_method_28_code 35 = .ok (.aload_n 0, 1) := by decide +kernel
theorem d_T_divisor_36 : decode prog_1_method_28_code 36 = .ok (.getfield 19, 3) := by decide +kernel
theorem d_T_divisor_39 : decode prog_1_method_28_code 39 = .ok (.iload_n 1, 1) := by decide +kernel
theorem d_T_divisor_40 : decode prog_1_method_28_code 40 = .ok (.invokevirtual 122, 3) := by decide +kernel
theorem d_T_divisor_43 : decode prog_1_method_28_code 43 = .ok (.invokevirtual 228, 3) := by decide +kernel
theorem d_T_divisor_46 : decode prog_1_method_28_code 46 = .ok (.aload_n 0, 1) := by decide +kernel
theorem d_T_divisor_47 : decode prog_1_method_28_code 47 = .ok (.getfield 57, 3) := by decide +kernel
theorem d_T_divisor_50 : decode prog_1_method_28_code 50 = .ok (.aload_n 0, 1) := by decide +kernel
theorem d_T_divisor_51 : decode prog_1_method_28_code 51 = .ok (.getfield 26, 3) := by decide +kernel
theorem d_T_divisor_54 : decode prog_1_method_28_code 54 = .ok (.invokevirtual 247, 3) := by decide +kernel
theorem d_T_divisor_57 : decode prog_1_method_28_code 57 = .ok (.istore_n 3, 1) := by decide +kernel
theorem d_T_divisor_58 : decode prog_1_method_28_code 58 = .ok (.iload_n 2, 1) := by decide +kernel
theorem d_T_divisor_59 : decode prog_1_method_28_code 59 = .ok (.iconst (-1), 1) := by decide +kernel
theorem d_T_divisor_60 : decode prog_1_method_28_code 60 = .ok (.if_icmp .ne 6, 3) := by decide +kernel
theorem d_T_divisor_63 : decode prog_1_method_28_code 63 = .ok (.iload_n 3, 1) := by decide +kernel
theorem d_T_divisor_64 : decode prog_1_method_28_code 64 = .ok (.i2l, 1) := by decide +kernel
theorem d_T_divisor_65 : decode prog_1_method_28_code 65 = .ok (.lreturn, 1) := by decide +kernel
theorem d_T_divisor_66 : decode prog_1_method_28_code 66 = .ok (.iload_n 2, 1) := by decide +kernel
theorem d_T_divisor_67 : decode prog_1_method_28_code 67 = .ok (.iload_n 3, 1) := by decide +kernel
theorem d_T_divisor_68 : decode prog_1_method_28_code 68 = .ok (.if_icmp .ge 14, 3) := by decide +kernel
theorem d_T_divisor_71 : decode prog_1_method_28_code 71 = .ok (.aload_n 0, 1) := by decide +kernel
theorem d_T_divisor_72 : decode prog_1_method_28_code 72 = .ok (.getfield 57, 3) := by decide +kernel
theorem d_T_divisor_75 : decode prog_1_method_28_code 75 = .ok (.iload_n 2, 1) := by decide +kernel
theorem d_T_divisor_76 : decode prog_1_method_28_code 76 = .ok (.invokevirtual 251, 3) := by decide +kernel
theorem d_T_divisor_79 : decode prog_1_method_28_code 79 = .ok (.goto 6, 3) := by decide +kernel
theorem d_T_divisor_82 : decode prog_1_method_28_code 82 = .ok (.ldc2_w 178, 3) := by decide +kernel
theorem d_T_divisor_85 : decode prog_1_method_28_code 85 = .ok (.lreturn, 1) := by decide +kernel
def cf_T_divisor_B58   (P : Int64 → Wd → Prop) (x2 : Int32) (x3 : Int32) (w : Wd) : Prop :=
  ((¬ x2 = (-1 : Int32) → ((x3 ≤ x2 → P (-2 : Int64) w) ∧ (¬ x3 ≤ x2 → cf_Rows_risingDivisor x2 w (fun r3 => P r3 w)))) ∧ (x2 = (-1 : Int32) → P x3.toInt64 w))
def cf_T_divisor (a0 : Int32) (a1 : Int32) (w : Wd) (P : Int64 → Wd → Prop) : Prop :=
  cf_Store_isPlace a0 (fun r1 => ((r1 = 0 → P (-1 : Int64) w) ∧ (¬ r1 = 0 → (((-1 : Int32) ≤ a1 → cf_Store_polyAt a0 w (fun r2 => ((r2 = (0 : Int64) → cf_T_divisor_B58 P a1 (0 : Int32) w) ∧ (¬ r2 = (0 : Int64) → cf_Store_polyAt a0 w (fun r4 => cf_Factors_split 10 r4 w (fun w5 => cf_Rows_gatherDivisors 10 w5 (fun r6 w7 => cf_T_divisor_B58 P a1 r6 w7))))))) ∧ (¬ (-1 : Int32) ≤ a1 → P (-1 : Int64) w)))))
theorem cf_T_divisor_B58_ok {g : ayG} {d : Nat} (hd : 7 ≤ d)   (w : Wd)  (P : Int64 → Wd → Prop) (Q : Option Value → Wd → Prop) (hQ : ∀ x w2, P x w2 → Q (some (.long x)) w2)  (x2 : Int32) (x3 : Int32) (h : cf_T_divisor_B58 P x2 x3 w) : wp g (fun _ => True) y_T_divisor prog_1_method_28_code 4 (some FieldType.long) d 58 [(0, .ref (g.1 + 0)), (2, .int x2), (3, .int x3)] [] w Q := by
  unfold cf_T_divisor_B58 at h
  refine am_iload_n d_T_divisor_58 1 rfl ?_
  refine am_iconst (v := -1) d_T_divisor_59 rfl ?_
  refine am_icmp_ne (tgt := 66) d_T_divisor_60 (by decide) (fun c60 => ?_) (fun c60 => ?_)
  · have h := h.1 c60
    refine am_iload_n d_T_divisor_66 1 rfl ?_
    refine am_iload_n d_T_divisor_67 2 rfl ?_
    refine am_icmp_ge (tgt := 82) d_T_divisor_68 (by decide) (fun c68 => ?_) (fun c68 => ?_)
    · have h := h.1 c68
      refine am_ldc2 (v := -2) d_T_divisor_82 wd_565 ?_
      exact am_lreturn d_T_divisor_85 rfl (hQ (-2 : Int64) w h)
    · have h := h.2 c68
      refine am_aload_n d_T_divisor_71 0 rfl ?_
      refine am_getf (T := F_T) (fs := ob_T g w 0) (C := R_T) (N := 9) (ci := 0) 7 d_T_divisor_72 wd_201 rfl (by decide) (el_T (show ay_sh 0 = _ from rfl)) rfl i_T (by decide) rfl ?_
      refine am_iload_n d_T_divisor_75 1 rfl ?_
      refine am_callV (C := "TriSplits$Rows") (d2 := d - 1) [.int x2] d_T_divisor_76 mi_Rows_risingDivisor wd_782 wd_783 wd_784 (by decide) (el_Rows (show ay_sh 26 = _ from rfl)) rfl rfl (by omega) rfl rfl (Nat.le_of_ble_eq_true rfl) ?_
      refine Call.post ?_ (cf_Rows_risingDivisor_ok (by omega) x2  w _ h)
      rintro _ _ ⟨r3, rfl, rfl, h⟩
      show wp g (fun _ => True) y_T_divisor prog_1_method_28_code 4 (some FieldType.long) d 79 [(0, .ref (g.1 + 0)), (2, .int x2), (3, .int x3)] [.long r3] w Q
      refine am_goto (tgt := 85) d_T_divisor_79 (by decide) ?_
      exact am_lreturn d_T_divisor_85 rfl (hQ r3 w h)
  · have h := h.2 c60
    refine am_iload_n d_T_divisor_63 2 rfl ?_
    refine am_i2l d_T_divisor_64 ?_
    exact am_lreturn d_T_divisor_65 rfl (hQ x3.toInt64 w h)
theorem cf_T_divisor_ok {g : ayG} {d : Nat} (hd : 7 ≤ d) (a0 : Int32) (a1 : Int32)  (w : Wd) (P : Int64 → Wd → Prop) (h : cf_T_divisor a0 a1 w P) : Call g y_T_divisor prog_1_method_28_code 4 (some FieldType.long) d [.ref (g.1 + 0), .int a0, .int a1] w (fun (r : Option Value) (w2 : Wd) => ∃ x, r = some (.long x) ∧ P x w2) := by
  unfold cf_T_divisor at h
  refine am_enter mi_T_divisor (Nat.le_of_ble_eq_true rfl) ?_
  have hQ : ∀ x w2, P x w2 → (fun (r : Option Value) (w2 : Wd) => ∃ x, r = some (.long x) ∧ P x w2) (some (.long x)) w2 := fun x w2 h => ⟨x, rfl, h⟩
  generalize (fun (r : Option Value) (w2 : Wd) => ∃ x, r = some (.long x) ∧ P x w2) = Q at hQ ⊢
  show wp g (fun _ => True) y_T_divisor prog_1_method_28_code 4 (some FieldType.long) d 0 [(0, .ref (g.1 + 0)), (1, .int a0), (2, .int a1)] [] w Q
  refine am_iload_n d_T_divisor_0 1 rfl ?_
  refine am_callS (d2 := d - 1) [.int a0] d_T_divisor_1 mi_Store_isPlace wd_453 wd_263 (by omega) rfl rfl (Nat.le_of_ble_eq_true rfl) ?_
  refine Call.post ?_ (cf_Store_isPlace_ok (by omega) a0  w _ h)
  rintro _ _ ⟨r1, rfl, rfl, h⟩
  show wp g (fun _ => True) y_T_divisor prog_1_method_28_code 4 (some FieldType.long) d 4 [(0, .ref (g.1 + 0)), (1, .int a0), (2, .int a1)] [.int r1] w Q
  refine am_if_eq (tgt := 12) d_T_divisor_4 (by decide) (fun c4 => ?_) (fun c4 => ?_)
  · have h := h.1 c4
    refine am_ldc2 (v := -1) d_T_divisor_12 wd_560 ?_
    exact am_lreturn d_T_divisor_15 rfl (hQ (-1 : Int64) w h)
  · have h := h.2 c4
    refine am_iload_n d_T_divisor_7 2 rfl ?_
    refine am_iconst (v := -1) d_T_divisor_8 rfl ?_
    refine am_icmp_ge (tgt := 16) d_T_divisor_9 (by decide) (fun c9 => ?_) (fun c9 => ?_)
    · have h := h.1 c9
      refine am_iconst (v := 0) d_T_divisor_16 rfl ?_
      refine am_istore_n (l' := [(3, .int (0 : Int32)), (0, .ref (g.1 + 0)), (1, .int a0), (2, .int a1)]) d_T_divisor_17 (by decide) rfl ?_
      refine am_aload_n d_T_divisor_18 1 rfl ?_
      refine am_getf (T := F_T) (fs := ob_T g w 0) (C := R_T) (N := 9) (ci := 0) 1 d_T_divisor_19 wd_195 rfl (by decide) (el_T (show ay_sh 0 = _ from rfl)) rfl i_T (by decide) rfl ?_
      refine am_iload_n d_T_divisor_22 2 rfl ?_
      refine am_callV (C := "TriSplits$Store") (d2 := d - 1) [.int a0] d_T_divisor_23 mi_Store_polyAt wd_468 wd_259 wd_260 (by decide) (el_Store (show ay_sh 6 = _ from rfl)) rfl rfl (by omega) rfl rfl (Nat.le_of_ble_eq_true rfl) ?_
      refine Call.post ?_ (cf_Store_polyAt_ok (by omega) a0  w _ h)
      rintro _ _ ⟨r2, rfl, rfl, h⟩
      show wp g (fun _ => True) y_T_divisor prog_1_method_28_code 4 (some FieldType.long) d 26 [(3, .int (0 : Int32)), (0, .ref (g.1 + 0)), (1, .int a0), (2, .int a1)] [.long r2] w Q
      refine am_lconst (v := 0) d_T_divisor_26 rfl ?_
      refine am_lif_eq (tgt := 58) d_T_divisor_27 d_T_divisor_28 (by decide) (fun c27 => ?_) (fun c27 => ?_)
      · have h := h.1 c27
        refine am_sub [1, 3, 0] rfl ?_
        exact cf_T_divisor_B58_ok (by omega)   w  P Q hQ  a1 (0 : Int32) h
      · have h := h.2 c27
        refine am_aload_n d_T_divisor_31 1 rfl ?_
        refine am_getf (T := F_T) (fs := ob_T g w 0) (C := R_T) (N := 9) (ci := 0) 2 d_T_divisor_32 wd_196 rfl (by decide) (el_T (show ay_sh 0 = _ from rfl)) rfl i_T (by decide) rfl ?_
        refine am_aload_n d_T_divisor_35 1 rfl ?_
        refine am_getf (T := F_T) (fs := ob_T g w 0) (C := R_T) (N := 9) (ci := 0) 1 d_T_divisor_36 wd_195 rfl (by decide) (el_T (show ay_sh 0 = _ from rfl)) rfl i_T (by decide) rfl ?_
        refine am_iload_n d_T_divisor_39 2 rfl ?_
        refine am_callV (C := "TriSplits$Store") (d2 := d - 1) [.int a0] d_T_divisor_40 mi_Store_polyAt wd_468 wd_259 wd_260 (by decide) (el_Store (show ay_sh 6 = _ from rfl)) rfl rfl (by omega) rfl rfl (Nat.le_of_ble_eq_true rfl) ?_
        refine Call.post ?_ (cf_Store_polyAt_ok (by omega) a0  w _ h)
        rintro _ _ ⟨r4, rfl, rfl, h⟩
        show wp g (fun _ => True) y_T_divisor prog_1_method_28_code 4 (some FieldType.long) d 43 [(3, .int (0 : Int32)), (0, .ref (g.1 + 0)), (1, .int a0), (2, .int a1)] [.long r4, .ref (g.1 + 10)] w Q
        refine am_callV (C := "TriSplits$Factors") (d2 := d - 1) [.long r4] d_T_divisor_43 mi_Factors_split wd_673 wd_674 wd_675 (by decide) (el_Factors (show ay_sh 10 = _ from rfl)) rfl rfl (by omega) rfl rfl (Nat.le_of_ble_eq_true rfl) ?_
        refine Call.post ?_ (cf_Factors_split_ok (by omega) 10 r4 (show ay_sh 10 = _ from rfl) w _ h)
        rintro _ w5 ⟨rfl, h⟩
        show wp g (fun _ => True) y_T_divisor prog_1_method_28_code 4 (some FieldType.long) d 46 [(3, .int (0 : Int32)), (0, .ref (g.1 + 0)), (1, .int a0), (2, .int a1)] [] w5 Q
        refine am_aload_n d_T_divisor_46 1 rfl ?_
        refine am_getf (T := F_T) (fs := ob_T g w5 0) (C := R_T) (N := 9) (ci := 0) 7 d_T_divisor_47 wd_201 rfl (by decide) (el_T (show ay_sh 0 = _ from rfl)) rfl i_T (by decide) rfl ?_
        refine am_aload_n d_T_divisor_50 1 rfl ?_
        refine am_getf (T := F_T) (fs := ob_T g w5 0) (C := R_T) (N := 9) (ci := 0) 2 d_T_divisor_51 wd_196 rfl (by decide) (el_T (show ay_sh 0 = _ from rfl)) rfl i_T (by decide) rfl ?_
        refine am_callV (C := "TriSplits$Rows") (d2 := d - 1) [.ref (g.1 + 10)] d_T_divisor_54 mi_Rows_gatherDivisors wd_770 wd_771 wd_772 (by decide) (el_Rows (show ay_sh 26 = _ from rfl)) rfl rfl (by omega) rfl rfl (Nat.le_of_ble_eq_true rfl) ?_
        refine Call.post ?_ (cf_Rows_gatherDivisors_ok (by omega) 10 (show ay_sh 10 = _ from rfl) w5 _ h)
        rintro _ w7 ⟨r6, rfl, h⟩
        show wp g (fun _ => True) y_T_divisor prog_1_method_28_code 4 (some FieldType.long) d 57 [(3, .int (0 : Int32)), (0, .ref (g.1 + 0)), (1, .int a0), (2, .int a1)] [.int r6] w7 Q
        refine am_istore_n (l' := [(3, .int r6), (0, .ref (g.1 + 0)), (1, .int a0), (2, .int a1)]) d_T_divisor_57 (by decide) rfl ?_
        refine am_sub [1, 3, 0] rfl ?_
        exact cf_T_divisor_B58_ok (by omega)   w7  P Q hQ  a1 r6 h
    · have h := h.2 c9
      refine am_ldc2 (v := -1) d_T_divisor_12 wd_560 ?_
      exact am_lreturn d_T_divisor_15 rfl (hQ (-1 : Int64) w h)
theorem d_T_couples_0 : decode prog_1_method_29_code 0 = .ok (.iload_n 1, 1) := by decide +kernel
theorem d_T_couples_1 : decode prog_1_method_29_code 1 = .ok (.invokestatic 109, 3) := by decide +kernel
theorem d_T_couples_4 : decode prog_1_method_29_code 4 = .ok (.ifCond .ne 5, 3) := by decide +kernel
theorem d_T_couples_7 : decode prog_1_method_29_code 7 = .ok (.iconst (-1), 1) := by decide +kernel
theorem d_T_couples_8 : decode prog_1_method_29_code 8 = .ok (.ireturn, 1) := by decide +kernel
theorem d_T_couples_9 : decode prog_1_method_29_code 9 = .ok (.aload_n 0, 1) := by decide +kernel
theorem d_T_couples_10 : decode prog_1_method_29_code 10 = .ok (.getfield 19, 3) := by decide +kernel
theorem d_T_couples_13 : decode prog_1_method_29_code 13 = .ok (.iload_n 1, 1) := by decide +kernel
theorem d_T_couples_14 : decode prog_1_method_29_code 14 = .ok (.invokevirtual 122, 3) := by decide +kernel
theorem d_T_couples_17 : decode prog_1_method_29_code 17 = .ok (.lconst 0, 1) := by decide +kernel
theorem d_T_couples_18 : decode prog_1_method_29_code 18 = .ok (.lcmp, 1) := by decide +kernel
theorem d_T_couples_19 : decode prog_1_method_29_code 19 = .ok (.ifCond .ne 5, 3) := by decide +kernel
theorem d_T_couples_22 : decode prog_1_method_29_code 22 = .ok (.iconst 0, 1) := by decide +kernel
theorem d_T_couples_23 : decode prog_1_method_29_code 23 = .ok (.ireturn, 1) := by decide +kernel
theorem d_T_couples_24 : decode prog_1_method_29_code 24 = .ok (.aload_n 0, 1) := by decide +kernel
theorem d_T_couples_25 : decode prog_1_method_29_code 25 = .ok (.getfield 26, 3) := by decide +kernel
theorem d_T_couples_28 : decode prog_1_method_29_code 28 = .ok (.aload_n 0, 1) := by decide +kernel
theorem d_T_couples_29 : decode prog_1_method_29_code 29 = .ok (.getfield 19, 3) := by decide +kernel
theorem d_T_couples_32 : decode prog_1_method_29_code 32 = .ok (.iload_n 1, 1) := by decide +kernel
theorem d_T_couples_33 : decode prog_1_method_29_code 33 = .ok (.invokevirtual 122, 3) := by decide +kernel
theorem d_T_couples_36 : decode prog_1_method_29_code 36 = .ok (.invokevirtual 228, 3) := by decide +kernel
theorem d_T_couples_39 : decode prog_1_method_29_code 39 = .ok (.aload_n 0, 1) := by decide +kernel
theorem d_T_couples_40 : decode prog_1_method_29_code 40 = .ok (.getfield 26, 3) := by decide +kernel
theorem d_T_couples_43 : decode prog_1_method_29_code 43 = .ok (.invokevirtual 254, 3) := by decide +kernel
theorem d_T_couples_46 : decode prog_1_method_29_code 46 = .ok (.ifCond .ne 7, 3) := by decide +kernel
theorem d_T_couples_49 : decode prog_1_method_29_code 49 = .ok (.iconst 1, 1) := by decide +kernel
theorem d_T_couples_50 : decode prog_1_method_29_code 50 = .ok (.goto 14, 3) := by decide +kernel
theorem d_T_couples_53 : decode prog_1_method_29_code 53 = .ok (.iconst 1, 1) := by decide +kernel
theorem d_T_couples_54 : decode prog_1_method_29_code 54 = .ok (.aload_n 0, 1) := by decide +kernel
theorem d_T_couples_55 : decode prog_1_method_29_code 55 = .ok (.getfield 26, 3) := by decide +kernel
theorem d_T_couples_58 : decode prog_1_method_29_code 58 = .ok (.invokevirtual 254, 3) := by decide +kernel
theorem d_T_couples_61 : decode prog_1_method_29_code 61 = .ok (.iconst 1, 1) := by decide +kernel
theorem d_T_couples_62 : decode prog_1_method_29_code 62 = .ok (.isub, 1) := by decide +kernel
theorem d_T_couples_63 : decode prog_1_method_29_code 63 = .ok (.ishl, 1) := by decide +kernel
theorem d_T_couples_64 : decode prog_1_method_29_code 64 = .ok (.ireturn, 1) := by decide +kernel
def cf_T_couples (a0 : Int32) (w : Wd) (P : Int32 → Wd → Prop) : Prop :=
  cf_Store_isPlace a0 (fun r1 => ((¬ r1 = 0 → cf_Store_polyAt a0 w (fun r2 => ((¬ r2 = (0 : Int64) → cf_Store_polyAt a0 w (fun r3 => cf_Factors_split 10 r3 w (fun w4 => cf_Factors_unlike 10 w4 (fun r5 => ((¬ r5 = 0 → cf_Factors_unlike 10 w4 (fun r6 => P (ishl (1 : Int32) (r6 - (1 : Int32))) w4)) ∧ (r5 = 0 → P (1 : Int32) w4)))))) ∧ (r2 = (0 : Int64) → P (0 : Int32) w)))) ∧ (r1 = 0 → P (-1 : Int32) w)))
theorem cf_T_couples_ok {g : ayG} {d : Nat} (hd : 7 ≤ d) (a0 : Int32)  (w : Wd) (P : Int32 → Wd → Prop) (h : cf_T_couples a0 w P) : Call g y_T_couples prog_1_method_29_code 2 (some FieldType.int) d [.ref (g.1 + 0), .int a0] w (fun (r : Option Value) (w2 : Wd) => ∃ x, r = some (.int x) ∧ P x w2) := by
  unfold cf_T_couples at h
  refine am_enter mi_T_couples (Nat.le_of_ble_eq_true rfl) ?_
  have hQ : ∀ x w2, P x w2 → (fun (r : Option Value) (w2 : Wd) => ∃ x, r = some (.int x) ∧ P x w2) (some (.int x)) w2 := fun x w2 h => ⟨x, rfl, h⟩
  generalize (fun (r : Option Value) (w2 : Wd) => ∃ x, r = some (.int x) ∧ P x w2) = Q at hQ ⊢
  show wp g (fun _ => True) y_T_couples prog_1_method_29_code 2 (some FieldType.int) d 0 [(0, .ref (g.1 + 0)), (1, .int a0)] [] w Q
  refine am_iload_n d_T_couples_0 1 rfl ?_
  refine am_callS (d2 := d - 1) [.int a0] d_T_couples_1 mi_Store_isPlace wd_453 wd_263 (by omega) rfl rfl (Nat.le_of_ble_eq_true rfl) ?_
  refine Call.post ?_ (cf_Store_isPlace_ok (by omega) a0  w _ h)
  rintro _ _ ⟨r1, rfl, rfl, h⟩
  show wp g (fun _ => True) y_T_couples prog_1_method_29_code 2 (some FieldType.int) d 4 [(0, .ref (g.1 + 0)), (1, .int a0)] [.int r1] w Q
  refine am_if_ne (tgt := 9) d_T_couples_4 (by decide) (fun c4 => ?_) (fun c4 => ?_)
  · have h := h.1 c4
    refine am_aload_n d_T_couples_9 0 rfl ?_
    refine am_getf (T := F_T) (fs := ob_T g w 0) (C := R_T) (N := 9) (ci := 0) 1 d_T_couples_10 wd_195 rfl (by decide) (el_T (show ay_sh 0 = _ from rfl)) rfl i_T (by decide) rfl ?_
    refine am_iload_n d_T_couples_13 1 rfl ?_
    refine am_callV (C := "TriSplits$Store") (d2 := d - 1) [.int a0] d_T_couples_14 mi_Store_polyAt wd_468 wd_259 wd_260 (by decide) (el_Store (show ay_sh 6 = _ from rfl)) rfl rfl (by omega) rfl rfl (Nat.le_of_ble_eq_true rfl) ?_
    refine Call.post ?_ (cf_Store_polyAt_ok (by omega) a0  w _ h)
    rintro _ _ ⟨r2, rfl, rfl, h⟩
    show wp g (fun _ => True) y_T_couples prog_1_method_29_code 2 (some FieldType.int) d 17 [(0, .ref (g.1 + 0)), (1, .int a0)] [.long r2] w Q
    refine am_lconst (v := 0) d_T_couples_17 rfl ?_
    refine am_lif_ne (tgt := 24) d_T_couples_18 d_T_couples_19 (by decide) (fun c18 => ?_) (fun c18 => ?_)
    · have h := h.1 c18
      refine am_aload_n d_T_couples_24 0 rfl ?_
      refine am_getf (T := F_T) (fs := ob_T g w 0) (C := R_T) (N := 9) (ci := 0) 2 d_T_couples_25 wd_196 rfl (by decide) (el_T (show ay_sh 0 = _ from rfl)) rfl i_T (by decide) rfl ?_
      refine am_aload_n d_T_couples_28 0 rfl ?_
      refine am_getf (T := F_T) (fs := ob_T g w 0) (C := R_T) (N := 9) (ci := 0) 1 d_T_couples_29 wd_195 rfl (by decide) (el_T (show ay_sh 0 = _ from rfl)) rfl i_T (by decide) rfl ?_
      refine am_iload_n d_T_couples_32 1 rfl ?_
      refine am_callV (C := "TriSplits$Store") (d2 := d - 1) [.int a0] d_T_couples_33 mi_Store_polyAt wd_468 wd_259 wd_260 (by decide) (el_Store (show ay_sh 6 = _ from rfl)) rfl rfl (by omega) rfl rfl (Nat.le_of_ble_eq_true rfl) ?_
      refine Call.post ?_ (cf_Store_polyAt_ok (by omega) a0  w _ h)
      rintro _ _ ⟨r3, rfl, rfl, h⟩
      show wp g (fun _ => True) y_T_couples prog_1_method_29_code 2 (some FieldType.int) d 36 [(0, .ref (g.1 + 0)), (1, .int a0)] [.long r3, .ref (g.1 + 10)] w Q
      refine am_callV (C := "TriSplits$Factors") (d2 := d - 1) [.long r3] d_T_couples_36 mi_Factors_split wd_673 wd_674 wd_675 (by decide) (el_Factors (show ay_sh 10 = _ from rfl)) rfl rfl (by omega) rfl rfl (Nat.le_of_ble_eq_true rfl) ?_
      refine Call.post ?_ (cf_Factors_split_ok (by omega) 10 r3 (show ay_sh 10 = _ from rfl) w _ h)
      rintro _ w4 ⟨rfl, h⟩
      show wp g (fun _ => True) y_T_couples prog_1_method_29_code 2 (some FieldType.int) d 39 [(0, .ref (g.1 + 0)), (1, .int a0)] [] w4 Q
      refine am_aload_n d_T_couples_39 0 rfl ?_
      refine am_getf (T := F_T) (fs := ob_T g w4 0) (C := R_T) (N := 9) (ci := 0) 2 d_T_couples_40 wd_196 rfl (by decide) (el_T (show ay_sh 0 = _ from rfl)) rfl i_T (by decide) rfl ?_
      refine am_callV (C := "TriSplits$Factors") (d2 := d - 1) [] d_T_couples_43 mi_Factors_unlike wd_712 wd_713 wd_714 (by decide) (el_Factors (show ay_sh 10 = _ from rfl)) rfl rfl (by omega) rfl rfl (Nat.le_of_ble_eq_true rfl) ?_
      refine Call.post ?_ (cf_Factors_unlike_ok (by omega) 10 (show ay_sh 10 = _ from rfl) w4 _ h)
      rintro _ _ ⟨r5, rfl, rfl, h⟩
      show wp g (fun _ => True) y_T_couples prog_1_method_29_code 2 (some FieldType.int) d 46 [(0, .ref (g.1 + 0)), (1, .int a0)] [.int r5] w4 Q
      refine am_if_ne (tgt := 53) d_T_couples_46 (by decide) (fun c46 => ?_) (fun c46 => ?_)
      · have h := h.1 c46
        refine am_iconst (v := 1) d_T_couples_53 rfl ?_
        refine am_aload_n d_T_couples_54 0 rfl ?_
        refine am_getf (T := F_T) (fs := ob_T g w4 0) (C := R_T) (N := 9) (ci := 0) 2 d_T_couples_55 wd_196 rfl (by decide) (el_T (show ay_sh 0 = _ from rfl)) rfl i_T (by decide) rfl ?_
        refine am_callV (C := "TriSplits$Factors") (d2 := d - 1) [] d_T_couples_58 mi_Factors_unlike wd_712 wd_713 wd_714 (by decide) (el_Factors (show ay_sh 10 = _ from rfl)) rfl rfl (by omega) rfl rfl (Nat.le_of_ble_eq_true rfl) ?_
        refine Call.post ?_ (cf_Factors_unlike_ok (by omega) 10 (show ay_sh 10 = _ from rfl) w4 _ h)
        rintro _ _ ⟨r6, rfl, rfl, h⟩
        show wp g (fun _ => True) y_T_couples prog_1_method_29_code 2 (some FieldType.int) d 61 [(0, .ref (g.1 + 0)), (1, .int a0)] [.int r6, .int (1 : Int32)] w4 Q
        refine am_iconst (v := 1) d_T_couples_61 rfl ?_
        refine am_isub d_T_couples_62 ?_
        refine am_ishl d_T_couples_63 ?_
        exact am_ireturn d_T_couples_64 rfl rfl (hQ (ishl (1 : Int32) (r6 - (1 : Int32))) w4 h)
      · have h := h.2 c46
        refine am_iconst (v := 1) d_T_couples_49 rfl ?_
        refine am_goto (tgt := 64) d_T_couples_50 (by decide) ?_
        exact am_ireturn d_T_couples_64 rfl rfl (hQ (1 : Int32) w4 h)
    · have h := h.2 c18
      refine am_iconst (v := 0) d_T_couples_22 rfl ?_
      exact am_ireturn d_T_couples_23 rfl rfl (hQ (0 : Int32) w h)
  · have h := h.2 c4
    refine am_iconst (v := -1) d_T_couples_7 rfl ?_
    exact am_ireturn d_T_couples_8 rfl rfl (hQ (-1 : Int32) w h)
theorem d_T_mirror_0 : decode prog_1_method_30_code 0 = .ok (.iload_n 1, 1) := by decide +kernel
theorem d_T_mirror_1 : decode prog_1_method_30_code 1 = .ok (.invokestatic 109, 3) := by decide +kernel
theorem d_T_mirror_4 : decode prog_1_method_30_code 4 = .ok (.ifCond .eq 12, 3) := by decide +kernel
theorem d_T_mirror_7 : decode prog_1_method_30_code 7 = .ok (.iload_n 2, 1) := by decide +kernel
theorem d_T_mirror_8 : decode prog_1_method_30_code 8 = .ok (.ifCond .lt 8, 3) := by decide +kernel
theorem d_T_mirror_11 : decode prog_1_method_30_code 11 = .ok (.iload_n 2, 1) := by decide +kernel
theorem d_T_mirror_12 : decode prog_1_method_30_code 12 = .ok (.iconst 1, 1) := by decide +kernel
theorem d_T_mirror_13 : decode prog_1_method_30_code 13 = .ok (.if_icmp .le 6, 3) := by decide +kernel
theorem d_T_mirror_16 : decode prog_1_method_30_code 16 = .ok (.bipush (-5), 2) := by decide +kernel
theorem d_T_mirror_18 : decode prog_1_method_30_code 18 = .ok (.ireturn, 1) := by decide +kernel
theorem d_T_mirror_19 : decode prog_1_method_30_code 19 = .ok (.aload_n 0, 1) := by decide +kernel
theorem d_T_mirror_20 : decode prog_1_method_30_code 20 = .ok (.getfield 19, 3) := by decide +kernel
theorem d_T_mirror_23 : decode prog_1_method_30_code 23 = .ok (.iload_n 1, 1) := by decide +kernel
theorem d_T_mirror_24 : decode prog_1_method_30_code 24 = .ok (.invokevirtual 122, 3) := by decide +kernel
theorem d_T_mirror_27 : decode prog_1_method_30_code 27 = .ok (.lstore_n 3, 1) := by decide +kernel
theorem d_T_mirror_28 : decode prog_1_method_30_code 28 = .ok (.lload_n 3, 1) := by decide +kernel
theorem d_T_mirror_29 : decode prog_1_method_30_code 29 = .ok (.invokestatic 257, 3) := by decide +kernel
theorem d_T_mirror_32 : decode prog_1_method_30_code 32 = .ok (.lstore 5, 2) := by decide +kernel
theorem d_T_mirror_34 : decode prog_1_method_30_code 34 = .ok (.iload_n 2, 1) := by decide +kernel
theorem d_T_mirror_35 : decode prog_1_method_30_code 35 = .ok (.ifCond .ne 16, 3) := by decide +kernel
theorem d_T_mirror_38 : decode prog_1_method_30_code 38 = .ok (.lload 5, 2) := by decide +kernel
theorem d_T_mirror_40 : decode prog_1_method_30_code 40 = .ok (.lload_n 3, 1) := by decide +kernel
theorem d_T_mirror_41 : decode prog_1_method_30_code 41 = .ok (.lcmp, 1) := by decide +kernel
theorem d_T_mirror_42 : decode prog_1_method_30_code 42 = .ok (.ifCond .ne 7, 3) := by decide +kernel
theorem d_T_mirror_45 : decode prog_1_method_30_code 45 = .ok (.iconst 1, 1) := by decide +kernel
theorem d_T_mirror_46 : decode prog_1_method_30_code 46 = .ok (.goto 4, 3) := by decide +kernel
theorem d_T_mirror_49 : decode prog_1_method_30_code 49 = .ok (.iconst 0, 1) := by decide +kernel
theorem d_T_mirror_50 : decode prog_1_method_30_code 50 = .ok (.ireturn, 1) := by decide +kernel
theorem d_T_mirror_51 : decode prog_1_method_30_code 51 = .ok (.lload_n 3, 1) := by decide +kernel
theorem d_T_mirror_52 : decode prog_1_method_30_code 52 = .ok (.lload 5, 2) := by decide +kernel
theorem d_T_mirror_54 : decode prog_1_method_30_code 54 = .ok (.invokestatic 138, 3) := by decide +kernel
theorem d_T_mirror_57 : decode prog_1_method_30_code 57 = .ok (.invokestatic 158, 3) := by decide +kernel
theorem d_T_mirror_60 : decode prog_1_method_30_code 60 = .ok (.ireturn, 1) := by decide +kernel
def cf_T_mirror (a0 : Int32) (a1 : Int32) (w : Wd) (P : Int32 → Prop) : Prop :=
  cf_Store_isPlace a0 (fun r1 => ((r1 = 0 → P (-5 : Int32)) ∧ (¬ r1 = 0 → ((a1 < 0 → P (-5 : Int32)) ∧ (¬ a1 < 0 → ((a1 ≤ (1 : Int32) → cf_Store_polyAt a0 w (fun r2 => cf_Polys_reversed r2 (fun r3 => ((¬ a1 = 0 → cf_Polys_gcd r2 r3 (fun r4 => cf_Polys_degree r4 (fun r5 => P r5))) ∧ (a1 = 0 → ((¬ r3 = r2 → P (0 : Int32)) ∧ (r3 = r2 → P (1 : Int32)))))))) ∧ (¬ a1 ≤ (1 : Int32) → P (-5 : Int32))))))))
theorem cf_T_mirror_ok {g : ayG} {d : Nat} (hd : 4 ≤ d) (a0 : Int32) (a1 : Int32)  (w : Wd) (P : Int32 → Prop) (h : cf_T_mirror a0 a1 w P) : Call g y_T_mirror prog_1_method_30_code 7 (some FieldType.int) d [.ref (g.1 + 0), .int a0, .int a1] w (fun (r : Option Value) (w2 : Wd) => ∃ x, r = some (.int x) ∧ w = w2 ∧ P x) := by
  unfold cf_T_mirror at h
  refine am_enter mi_T_mirror (Nat.le_of_ble_eq_true rfl) ?_
  have hQ : ∀ x, P x → (fun (r : Option Value) (w2 : Wd) => ∃ x, r = some (.int x) ∧ w = w2 ∧ P x) (some (.int x)) w := fun x h => ⟨x, rfl, rfl, h⟩
  generalize (fun (r : Option Value) (w2 : Wd) => ∃ x, r = some (.int x) ∧ w = w2 ∧ P x) = Q at hQ ⊢
  show wp g (fun _ => True) y_T_mirror prog_1_method_30_code 7 (some FieldType.int) d 0 [(0, .ref (g.1 + 0)), (1, .int a0), (2, .int a1)] [] w Q
  refine am_iload_n d_T_mirror_0 1 rfl ?_
  refine am_callS (d2 := d - 1) [.int a0] d_T_mirror_1 mi_Store_isPlace wd_453 wd_263 (by omega) rfl rfl (Nat.le_of_ble_eq_true rfl) ?_
  refine Call.post ?_ (cf_Store_isPlace_ok (by omega) a0  w _ h)
  rintro _ _ ⟨r1, rfl, rfl, h⟩
  show wp g (fun _ => True) y_T_mirror prog_1_method_30_code 7 (some FieldType.int) d 4 [(0, .ref (g.1 + 0)), (1, .int a0), (2, .int a1)] [.int r1] w Q
  refine am_if_eq (tgt := 16) d_T_mirror_4 (by decide) (fun c4 => ?_) (fun c4 => ?_)
  · have h := h.1 c4
    refine am_bipush (v := -5) d_T_mirror_16 rfl ?_
    exact am_ireturn d_T_mirror_18 rfl rfl (hQ (-5 : Int32) h)
  · have h := h.2 c4
    refine am_iload_n d_T_mirror_7 2 rfl ?_
    refine am_if_lt (tgt := 16) d_T_mirror_8 (by decide) (fun c8 => ?_) (fun c8 => ?_)
    · have h := h.1 c8
      refine am_bipush (v := -5) d_T_mirror_16 rfl ?_
      exact am_ireturn d_T_mirror_18 rfl rfl (hQ (-5 : Int32) h)
    · have h := h.2 c8
      refine am_iload_n d_T_mirror_11 2 rfl ?_
      refine am_iconst (v := 1) d_T_mirror_12 rfl ?_
      refine am_icmp_le (tgt := 19) d_T_mirror_13 (by decide) (fun c13 => ?_) (fun c13 => ?_)
      · have h := h.1 c13
        refine am_aload_n d_T_mirror_19 0 rfl ?_
        refine am_getf (T := F_T) (fs := ob_T g w 0) (C := R_T) (N := 9) (ci := 0) 1 d_T_mirror_20 wd_195 rfl (by decide) (el_T (show ay_sh 0 = _ from rfl)) rfl i_T (by decide) rfl ?_
        refine am_iload_n d_T_mirror_23 1 rfl ?_
        refine am_callV (C := "TriSplits$Store") (d2 := d - 1) [.int a0] d_T_mirror_24 mi_Store_polyAt wd_468 wd_259 wd_260 (by decide) (el_Store (show ay_sh 6 = _ from rfl)) rfl rfl (by omega) rfl rfl (Nat.le_of_ble_eq_true rfl) ?_
        refine Call.post ?_ (cf_Store_polyAt_ok (by omega) a0  w _ h)
        rintro _ _ ⟨r2, rfl, rfl, h⟩
        show wp g (fun _ => True) y_T_mirror prog_1_method_30_code 7 (some FieldType.int) d 27 [(0, .ref (g.1 + 0)), (1, .int a0), (2, .int a1)] [.long r2] w Q
        refine am_lstore_n (l' := [(3, .long r2), (0, .ref (g.1 + 0)), (1, .int a0), (2, .int a1)]) d_T_mirror_27 (by decide) rfl ?_
        refine am_lload_n d_T_mirror_28 0 rfl ?_
        refine am_callS (d2 := d - 1) [.long r2] d_T_mirror_29 mi_Polys_reversed wd_798 wd_388 (by omega) rfl rfl (Nat.le_of_ble_eq_true rfl) ?_
        refine Call.post ?_ (cf_Polys_reversed_ok (by omega) r2  w _ h)
        rintro _ _ ⟨r3, rfl, rfl, h⟩
        show wp g (fun _ => True) y_T_mirror prog_1_method_30_code 7 (some FieldType.int) d 32 [(3, .long r2), (0, .ref (g.1 + 0)), (1, .int a0), (2, .int a1)] [.long r3] w Q
        refine am_lstore (l' := [(5, .long r3), (3, .long r2), (0, .ref (g.1 + 0)), (1, .int a0), (2, .int a1)]) d_T_mirror_32 (by decide) rfl ?_
        refine am_iload_n d_T_mirror_34 4 rfl ?_
        refine am_if_ne (tgt := 51) d_T_mirror_35 (by decide) (fun c35 => ?_) (fun c35 => ?_)
        · have h := h.1 c35
          refine am_lload_n d_T_mirror_51 1 rfl ?_
          refine am_lload d_T_mirror_52 0 rfl ?_
          refine am_callS (d2 := d - 1) [.long r2, .long r3] d_T_mirror_54 mi_Polys_gcd wd_492 wd_493 (by omega) rfl rfl (Nat.le_of_ble_eq_true rfl) ?_
          refine Call.post ?_ (cf_Polys_gcd_ok (by omega) r2 r3  w _ h)
          rintro _ _ ⟨r4, rfl, rfl, h⟩
          show wp g (fun _ => True) y_T_mirror prog_1_method_30_code 7 (some FieldType.int) d 57 [(5, .long r3), (3, .long r2), (0, .ref (g.1 + 0)), (1, .int a0), (2, .int a1)] [.long r4] w Q
          refine am_callS (d2 := d - 1) [.long r4] d_T_mirror_57 mi_Polys_degree wd_460 wd_391 (by omega) rfl rfl (Nat.le_of_ble_eq_true rfl) ?_
          refine Call.post ?_ (cf_Polys_degree_ok (by omega) r4  w _ h)
          rintro _ _ ⟨r5, rfl, rfl, h⟩
          show wp g (fun _ => True) y_T_mirror prog_1_method_30_code 7 (some FieldType.int) d 60 [(5, .long r3), (3, .long r2), (0, .ref (g.1 + 0)), (1, .int a0), (2, .int a1)] [.int r5] w Q
          exact am_ireturn d_T_mirror_60 rfl rfl (hQ r5 h)
        · have h := h.2 c35
          refine am_lload d_T_mirror_38 0 rfl ?_
          refine am_lload_n d_T_mirror_40 1 rfl ?_
          refine am_lif_ne (tgt := 49) d_T_mirror_41 d_T_mirror_42 (by decide) (fun c41 => ?_) (fun c41 => ?_)
          · have h := h.1 c41
            refine am_iconst (v := 0) d_T_mirror_49 rfl ?_
            exact am_ireturn d_T_mirror_50 rfl rfl (hQ (0 : Int32) h)
          · have h := h.2 c41
            refine am_iconst (v := 1) d_T_mirror_45 rfl ?_
            refine am_goto (tgt := 50) d_T_mirror_46 (by decide) ?_
            exact am_ireturn d_T_mirror_50 rfl rfl (hQ (1 : Int32) h)
      · have h := h.2 c13
        refine am_bipush (v := -5) d_T_mirror_16 rfl ?_
        exact am_ireturn d_T_mirror_18 rfl rfl (hQ (-5 : Int32) h)
theorem d_T_akin_0 : decode prog_1_method_31_code 0 = .ok (.iload_n 1, 1) := by decide +kernel
theorem d_T_akin_1 : decode prog_1_method_31_code 1 = .ok (.iload_n 2, 1) := by decide +kernel
theorem d_T_akin_2 : decode prog_1_method_31_code 2 = .ok (.iload_n 2, 1) := by decide +kernel
theorem d_T_akin_3 : decode prog_1_method_31_code 3 = .ok (.invokestatic 118, 3) := by decide +kernel
theorem d_T_akin_6 : decode prog_1_method_31_code 6 = .ok (.ifCond .ne 5, 3) := by decide +kernel
theorem d_T_akin_9 : decode prog_1_method_31_code 9 = .ok (.iconst (-1), 1) := by decide +kernel
theorem d_T_akin_10 : decode prog_1_method_31_code 10 = .ok (.ireturn, 1) := by decide +kernel
theorem d_T_akin_11 : decode prog_1_method_31_code 11 = .ok (.aload_n 0, 1) := by decide +kernel
theorem d_T_akin_12 : decode prog_1_method_31_code 12 = .ok (.getfield 26, 3) := by decide +kernel
theorem d_T_akin_15 : decode prog_1_method_31_code 15 = .ok (.aload_n 0, 1) := by decide +kernel
theorem d_T_akin_16 : decode prog_1_method_31_code 16 = .ok (.getfield 19, 3) := by decide +kernel
theorem d_T_akin_19 : decode prog_1_method_31_code 19 = .ok (.iload_n 1, 1) := by decide +kernel
theorem d_T_akin_20 : decode prog_1_method_31_code 20 = .ok (.invokevirtual 122, 3) := by decide +kernel
theorem d_T_akin_23 : decode prog_1_method_31_code 23 = .ok (.invokevirtual 228, 3) := by decide +kernel
theorem d_T_akin_26 : decode prog_1_method_31_code 26 = .ok (.aload_n 0, 1) := by decide +kernel
theorem d_T_akin_27 : decode prog_1_method_31_code 27 = .ok (.getfield 30, 3) := by decide +kernel
theorem d_T_akin_30 : decode prog_1_method_31_code 30 = .ok (.aload_n 0, 1) := by decide +kernel
theorem d_T_akin_31 : decode prog_1_method_31_code 31 = .ok (.getfield 19, 3) := by decide +kernel
theorem d_T_akin_34 : decode prog_1_method_31_code 34 = .ok (.iload_n 2, 1) := by decide +kernel
theorem d_T_akin_35 : decode prog_1_method_31_code 35 = .ok (.invokevirtual 122, 3) := by decide +kernel
theorem d_T_akin_38 : decode prog_1_method_31_code 38 = .ok (.invokevirtual 228, 3) := by decide +kernel
theorem d_T_akin_41 : decode prog_1_method_31_code 41 = .ok (.aload_n 0, 1) := by decide +kernel
theorem d_T_akin_42 : decode prog_1_method_31_code 42 = .ok (.getfield 26, 3) := by decide +kernel
theorem d_T_akin_45 : decode prog_1_method_31_code 45 = .ok (.aload_n 0, 1) := by decide +kernel
theorem d_T_akin_46 : decode prog_1_method_31_code 46 = .ok (.getfield 30, 3) := by decide +kernel
theorem d_T_akin_49 : decode prog_1_method_31_code 49 = .ok (.invokevirtual 260, 3) := by decide +kernel
theorem d_T_akin_52 : decode prog_1_method_31_code 52 = .ok (.ifCond .eq 7, 3) := by decide +kernel
theorem d_T_akin_55 : decode prog_1_method_31_code 55 = .ok (.iconst 1, 1) := by decide +kernel
theorem d_T_akin_56 : decode prog_1_method_31_code 56 = .ok (.goto 4, 3) := by decide +kernel
theorem d_T_akin_59 : decode prog_1_method_31_code 59 = .ok (.iconst 0, 1) := by decide +kernel
theorem d_T_akin_60 : decode prog_1_method_31_code 60 = .ok (.ireturn, 1) := by decide +kernel
def cf_T_akin (a0 : Int32) (a1 : Int32) (w : Wd) (P : Int32 → Wd → Prop) : Prop :=
  cf_T_arePlaces a0 a1 a1 (fun r1 => ((¬ r1 = 0 → cf_Store_polyAt a0 w (fun r2 => cf_Factors_split 10 r2 w (fun w3 => cf_Store_polyAt a1 w3 (fun r4 => cf_Factors_split 14 r4 w3 (fun w5 => cf_Factors_hasSameAs 10 14 w5 (fun r6 => ((r6 = 0 → P (0 : Int32) w5) ∧ (¬ r6 = 0 → P (1 : Int32) w5)))))))) ∧ (r1 = 0 → P (-1 : Int32) w)))
theorem cf_T_akin_ok {g : ayG} {d : Nat} (hd : 7 ≤ d) (a0 : Int32) (a1 : Int32)  (w : Wd) (P : Int32 → Wd → Prop) (h : cf_T_akin a0 a1 w P) : Call g y_T_akin prog_1_method_31_code 3 (some FieldType.int) d [.ref (g.1 + 0), .int a0, .int a1] w (fun (r : Option Value) (w2 : Wd) => ∃ x, r = some (.int x) ∧ P x w2) := by
  unfold cf_T_akin at h
  refine am_enter mi_T_akin (Nat.le_of_ble_eq_true rfl) ?_
  have hQ : ∀ x w2, P x w2 → (fun (r : Option Value) (w2 : Wd) => ∃ x, r = some (.int x) ∧ P x w2) (some (.int x)) w2 := fun x w2 h => ⟨x, rfl, h⟩
  generalize (fun (r : Option Value) (w2 : Wd) => ∃ x, r = some (.int x) ∧ P x w2) = Q at hQ ⊢
  show wp g (fun _ => True) y_T_akin prog_1_method_31_code 3 (some FieldType.int) d 0 [(0, .ref (g.1 + 0)), (1, .int a0), (2, .int a1)] [] w Q
  refine am_iload_n d_T_akin_0 1 rfl ?_
  refine am_iload_n d_T_akin_1 2 rfl ?_
  refine am_iload_n d_T_akin_2 2 rfl ?_
  refine am_callS (d2 := d - 1) [.int a0, .int a1, .int a1] d_T_akin_3 mi_T_arePlaces wd_465 wd_466 (by omega) rfl rfl (Nat.le_of_ble_eq_true rfl) ?_
  refine Call.post ?_ (cf_T_arePlaces_ok (by omega) a0 a1 a1  w _ h)
  rintro _ _ ⟨r1, rfl, rfl, h⟩
  show wp g (fun _ => True) y_T_akin prog_1_method_31_code 3 (some FieldType.int) d 6 [(0, .ref (g.1 + 0)), (1, .int a0), (2, .int a1)] [.int r1] w Q
  refine am_if_ne (tgt := 11) d_T_akin_6 (by decide) (fun c6 => ?_) (fun c6 => ?_)
  · have h := h.1 c6
    refine am_aload_n d_T_akin_11 0 rfl ?_
    refine am_getf (T := F_T) (fs := ob_T g w 0) (C := R_T) (N := 9) (ci := 0) 2 d_T_akin_12 wd_196 rfl (by decide) (el_T (show ay_sh 0 = _ from rfl)) rfl i_T (by decide) rfl ?_
    refine am_aload_n d_T_akin_15 0 rfl ?_
    refine am_getf (T := F_T) (fs := ob_T g w 0) (C := R_T) (N := 9) (ci := 0) 1 d_T_akin_16 wd_195 rfl (by decide) (el_T (show ay_sh 0 = _ from rfl)) rfl i_T (by decide) rfl ?_
    refine am_iload_n d_T_akin_19 1 rfl ?_
    refine am_callV (C := "TriSplits$Store") (d2 := d - 1) [.int a0] d_T_akin_20 mi_Store_polyAt wd_468 wd_259 wd_260 (by decide) (el_Store (show ay_sh 6 = _ from rfl)) rfl rfl (by omega) rfl rfl (Nat.le_of_ble_eq_true rfl) ?_
    refine Call.post ?_ (cf_Store_polyAt_ok (by omega) a0  w _ h)
    rintro _ _ ⟨r2, rfl, rfl, h⟩
    show wp g (fun _ => True) y_T_akin prog_1_method_31_code 3 (some FieldType.int) d 23 [(0, .ref (g.1 + 0)), (1, .int a0), (2, .int a1)] [.long r2, .ref (g.1 + 10)] w Q
    refine am_callV (C := "TriSplits$Factors") (d2 := d - 1) [.long r2] d_T_akin_23 mi_Factors_split wd_673 wd_674 wd_675 (by decide) (el_Factors (show ay_sh 10 = _ from rfl)) rfl rfl (by omega) rfl rfl (Nat.le_of_ble_eq_true rfl) ?_
    refine Call.post ?_ (cf_Factors_split_ok (by omega) 10 r2 (show ay_sh 10 = _ from rfl) w _ h)
    rintro _ w3 ⟨rfl, h⟩
    show wp g (fun _ => True) y_T_akin prog_1_method_31_code 3 (some FieldType.int) d 26 [(0, .ref (g.1 + 0)), (1, .int a0), (2, .int a1)] [] w3 Q
    refine am_aload_n d_T_akin_26 0 rfl ?_
    refine am_getf (T := F_T) (fs := ob_T g w3 0) (C := R_T) (N := 9) (ci := 0) 3 d_T_akin_27 wd_197 rfl (by decide) (el_T (show ay_sh 0 = _ from rfl)) rfl i_T (by decide) rfl ?_
    refine am_aload_n d_T_akin_30 0 rfl ?_
    refine am_getf (T := F_T) (fs := ob_T g w3 0) (C := R_T) (N := 9) (ci := 0) 1 d_T_akin_31 wd_195 rfl (by decide) (el_T (show ay_sh 0 = _ from rfl)) rfl i_T (by decide) rfl ?_
    refine am_iload_n d_T_akin_34 2 rfl ?_
    refine am_callV (C := "TriSplits$Store") (d2 := d - 1) [.int a1] d_T_akin_35 mi_Store_polyAt wd_468 wd_259 wd_260 (by decide) (el_Store (show ay_sh 6 = _ from rfl)) rfl rfl (by omega) rfl rfl (Nat.le_of_ble_eq_true rfl) ?_
    refine Call.post ?_ (cf_Store_polyAt_ok (by omega) a1  w3 _ h)
    rintro _ _ ⟨r4, rfl, rfl, h⟩
    show wp g (fun _ => True) y_T_akin prog_1_method_31_code 3 (some FieldType.int) d 38 [(0, .ref (g.1 + 0)), (1, .int a0), (2, .int a1)] [.long r4, .ref (g.1 + 14)] w3 Q
    refine am_callV (C := "TriSplits$Factors") (d2 := d - 1) [.long r4] d_T_akin_38 mi_Factors_split wd_673 wd_674 wd_675 (by decide) (el_Factors (show ay_sh 14 = _ from rfl)) rfl rfl (by omega) rfl rfl (Nat.le_of_ble_eq_true rfl) ?_
    refine Call.post ?_ (cf_Factors_split_ok (by omega) 14 r4 (show ay_sh 14 = _ from rfl) w3 _ h)
    rintro _ w5 ⟨rfl, h⟩
    show wp g (fun _ => True) y_T_akin prog_1_method_31_code 3 (some FieldType.int) d 41 [(0, .ref (g.1 + 0)), (1, .int a0), (2, .int a1)] [] w5 Q
    refine am_aload_n d_T_akin_41 0 rfl ?_
    refine am_getf (T := F_T) (fs := ob_T g w5 0) (C := R_T) (N := 9) (ci := 0) 2 d_T_akin_42 wd_196 rfl (by decide) (el_T (show ay_sh 0 = _ from rfl)) rfl i_T (by decide) rfl ?_
    refine am_aload_n d_T_akin_45 0 rfl ?_
    refine am_getf (T := F_T) (fs := ob_T g w5 0) (C := R_T) (N := 9) (ci := 0) 3 d_T_akin_46 wd_197 rfl (by decide) (el_T (show ay_sh 0 = _ from rfl)) rfl i_T (by decide) rfl ?_
    refine am_callV (C := "TriSplits$Factors") (d2 := d - 1) [.ref (g.1 + 14)] d_T_akin_49 mi_Factors_hasSameAs wd_803 wd_804 wd_805 (by decide) (el_Factors (show ay_sh 10 = _ from rfl)) rfl rfl (by omega) rfl rfl (Nat.le_of_ble_eq_true rfl) ?_
    refine Call.post ?_ (cf_Factors_hasSameAs_ok (by omega) 10 14 (show ay_sh 10 = _ from rfl) (show ay_sh 14 = _ from rfl) w5 _ h)
    rintro _ _ ⟨r6, rfl, rfl, h⟩
    show wp g (fun _ => True) y_T_akin prog_1_method_31_code 3 (some FieldType.int) d 52 [(0, .ref (g.1 + 0)), (1, .int a0), (2, .int a1)] [.int r6] w5 Q
    refine am_if_eq (tgt := 59) d_T_akin_52 (by decide) (fun c52 => ?_) (fun c52 => ?_)
    · have h := h.1 c52
      refine am_iconst (v := 0) d_T_akin_59 rfl ?_
      exact am_ireturn d_T_akin_60 rfl rfl (hQ (0 : Int32) w5 h)
    · have h := h.2 c52
      refine am_iconst (v := 1) d_T_akin_55 rfl ?_
      refine am_goto (tgt := 60) d_T_akin_56 (by decide) ?_
      exact am_ireturn d_T_akin_60 rfl rfl (hQ (1 : Int32) w5 h)
  · have h := h.2 c6
    refine am_iconst (v := -1) d_T_akin_9 rfl ?_
    exact am_ireturn d_T_akin_10 rfl rfl (hQ (-1 : Int32) w h)
theorem d_T_letterAt_0 : decode prog_1_method_58_code 0 = .ok (.iload_n 1, 1) := by decide +kernel
theorem d_T_letterAt_1 : decode prog_1_method_58_code 1 = .ok (.iconst (-1), 1) := by decide +kernel
theorem d_T_letterAt_2 : decode prog_1_method_58_code 2 = .ok (.if_icmp .ne 11, 3) := by decide +kernel
theorem d_T_letterAt_5 : decode prog_1_method_58_code 5 = .ok (.aload_n 0, 1) := by decide +kernel
theorem d_T_letterAt_6 : decode prog_1_method_58_code 6 = .ok (.getfield 64, 3) := by decide +kernel
theorem d_T_letterAt_9 : decode prog_1_method_58_code 9 = .ok (.invokevirtual 383, 3) := by decide +kernel
theorem d_T_letterAt_12 : decode prog_1_method_58_code 12 = .ok (.ireturn, 1) := by decide +kernel
theorem d_T_letterAt_13 : decode prog_1_method_58_code 13 = .ok (.iload_n 1, 1) := by decide +kernel
theorem d_T_letterAt_14 : decode prog_1_method_58_code 14 = .ok (.aload_n 0, 1) := by decide +kernel
theorem d_T_letterAt_15 : decode prog_1_method_58_code 15 = .ok (.getfield 64, 3) := by decide +kernel
theorem d_T_letterAt_18 : decode prog_1_method_58_code 18 = .ok (.invokevirtual 383, 3) := by decide +kernel
theorem d_T_letterAt_21 : decode prog_1_method_58_code 21 = .ok (.if_icmp .ge 14, 3) := by decide +kernel
theorem d_T_letterAt_24 : decode prog_1_method_58_code 24 = .ok (.aload_n 0, 1) := by decide +kernel
theorem d_T_letterAt_25 : decode prog_1_method_58_code 25 = .ok (.getfield 64, 3) := by decide +kernel
theorem d_T_letterAt_28 : decode prog_1_method_58_code 28 = .ok (.iload_n 1, 1) := by decide +kernel
theorem d_T_letterAt_29 : decode prog_1_method_58_code 29 = .ok (.invokevirtual 384, 3) := by decide +kernel
theorem d_T_letterAt_32 : decode prog_1_method_58_code 32 = .ok (.goto 5, 3) := by decide +kernel
theorem d_T_letterAt_35 : decode prog_1_method_58_code 35 = .ok (.bipush (-2), 2) := by decide +kernel
theorem d_T_letterAt_37 : decode prog_1_method_58_code 37 = .ok (.ireturn, 1) := by decide +kernel
def cf_T_letterAt (a0 : Int32) (w : Wd) (P : Int32 → Prop) : Prop :=
  ((¬ a0 = (-1 : Int32) → cf_Letters_size  w (fun r1 => ((r1 ≤ a0 → P (-2 : Int32)) ∧ (¬ r1 ≤ a0 → cf_Letters_byteAt a0 w (fun r2 => P r2))))) ∧ (a0 = (-1 : Int32) → cf_Letters_size  w (fun r3 => P r3)))
theorem cf_T_letterAt_ok {g : ayG} {d : Nat} (hd : 1 ≤ d) (a0 : Int32)  (w : Wd) (P : Int32 → Prop) (h : cf_T_letterAt a0 w P) : Call g y_T_letterAt prog_1_method_58_code 2 (some FieldType.int) d [.ref (g.1 + 0), .int a0] w (fun (r : Option Value) (w2 : Wd) => ∃ x, r = some (.int x) ∧ w = w2 ∧ P x) := by
  unfold cf_T_letterAt at h
  refine am_enter mi_T_letterAt (Nat.le_of_ble_eq_true rfl) ?_
  have hQ : ∀ x, P x → (fun (r : Option Value) (w2 : Wd) => ∃ x, r = some (.int x) ∧ w = w2 ∧ P x) (some (.int x)) w := fun x h => ⟨x, rfl, rfl, h⟩
  generalize (fun (r : Option Value) (w2 : Wd) => ∃ x, r = some (.int x) ∧ w = w2 ∧ P x) = Q at hQ ⊢
  show wp g (fun _ => True) y_T_letterAt prog_1_method_58_code 2 (some FieldType.int) d 0 [(0, .ref (g.1 + 0)), (1, .int a0)] [] w Q
  refine am_iload_n d_T_letterAt_0 1 rfl ?_
  refine am_iconst (v := -1) d_T_letterAt_1 rfl ?_
  refine am_icmp_ne (tgt := 13) d_T_letterAt_2 (by decide) (fun c2 => ?_) (fun c2 => ?_)
  · have h := h.1 c2
    refine am_iload_n d_T_letterAt_13 1 rfl ?_
    refine am_aload_n d_T_letterAt_14 0 rfl ?_
    refine am_getf (T := F_T) (fs := ob_T g w 0) (C := R_T) (N := 9) (ci := 0) 8 d_T_letterAt_15 wd_202 rfl (by decide) (el_T (show ay_sh 0 = _ from rfl)) rfl i_T (by decide) rfl ?_
    refine am_callV (C := "TriSplits$Letters") (d2 := d - 1) [] d_T_letterAt_18 mi_Letters_size wd_836 wd_837 wd_838 (by decide) (el_Letters (show ay_sh 28 = _ from rfl)) rfl rfl (by omega) rfl rfl (Nat.le_of_ble_eq_true rfl) ?_
    refine Call.post ?_ (cf_Letters_size_ok (by omega)   w _ h)
    rintro _ _ ⟨r1, rfl, rfl, h⟩
    show wp g (fun _ => True) y_T_letterAt prog_1_method_58_code 2 (some FieldType.int) d 21 [(0, .ref (g.1 + 0)), (1, .int a0)] [.int r1, .int a0] w Q
    refine am_icmp_ge (tgt := 35) d_T_letterAt_21 (by decide) (fun c21 => ?_) (fun c21 => ?_)
    · have h := h.1 c21
      refine am_bipush (v := -2) d_T_letterAt_35 rfl ?_
      exact am_ireturn d_T_letterAt_37 rfl rfl (hQ (-2 : Int32) h)
    · have h := h.2 c21
      refine am_aload_n d_T_letterAt_24 0 rfl ?_
      refine am_getf (T := F_T) (fs := ob_T g w 0) (C := R_T) (N := 9) (ci := 0) 8 d_T_letterAt_25 wd_202 rfl (by decide) (el_T (show ay_sh 0 = _ from rfl)) rfl i_T (by decide) rfl ?_
      refine am_iload_n d_T_letterAt_28 1 rfl ?_
      refine am_callV (C := "TriSplits$Letters") (d2 := d - 1) [.int a0] d_T_letterAt_29 mi_Letters_byteAt wd_840 wd_841 wd_842 (by decide) (el_Letters (show ay_sh 28 = _ from rfl)) rfl rfl (by omega) rfl rfl (Nat.le_of_ble_eq_true rfl) ?_
      refine Call.post ?_ (cf_Letters_byteAt_ok (by omega) a0  w _ h)
      rintro _ _ ⟨r2, rfl, rfl, h⟩
      show wp g (fun _ => True) y_T_letterAt prog_1_method_58_code 2 (some FieldType.int) d 32 [(0, .ref (g.1 + 0)), (1, .int a0)] [.int r2] w Q
      refine am_goto (tgt := 37) d_T_letterAt_32 (by decide) ?_
      exact am_ireturn d_T_letterAt_37 rfl rfl (hQ r2 h)
  · have h := h.2 c2
    refine am_aload_n d_T_letterAt_5 0 rfl ?_
    refine am_getf (T := F_T) (fs := ob_T g w 0) (C := R_T) (N := 9) (ci := 0) 8 d_T_letterAt_6 wd_202 rfl (by decide) (el_T (show ay_sh 0 = _ from rfl)) rfl i_T (by decide) rfl ?_
    refine am_callV (C := "TriSplits$Letters") (d2 := d - 1) [] d_T_letterAt_9 mi_Letters_size wd_836 wd_837 wd_838 (by decide) (el_Letters (show ay_sh 28 = _ from rfl)) rfl rfl (by omega) rfl rfl (Nat.le_of_ble_eq_true rfl) ?_
    refine Call.post ?_ (cf_Letters_size_ok (by omega)   w _ h)
    rintro _ _ ⟨r3, rfl, rfl, h⟩
    show wp g (fun _ => True) y_T_letterAt prog_1_method_58_code 2 (some FieldType.int) d 12 [(0, .ref (g.1 + 0)), (1, .int a0)] [.int r3] w Q
    exact am_ireturn d_T_letterAt_12 rfl rfl (hQ r3 h)
theorem d_T_letter_0 : decode prog_1_method_32_code 0 = .ok (.iload_n 1, 1) := by decide +kernel
theorem d_T_letter_1 : decode prog_1_method_32_code 1 = .ok (.invokestatic 109, 3) := by decide +kernel
theorem d_T_letter_4 : decode prog_1_method_32_code 4 = .ok (.ifCond .eq 8, 3) := by decide +kernel
theorem d_T_letter_7 : decode prog_1_method_32_code 7 = .ok (.iload_n 2, 1) := by decide +kernel
theorem d_T_letter_8 : decode prog_1_method_32_code 8 = .ok (.iconst (-1), 1) := by decide +kernel
theorem d_T_letter_9 : decode prog_1_method_32_code 9 = .ok (.if_icmp .ge 5, 3) := by decide +kernel
theorem d_T_letter_12 : decode prog_1_method_32_code 12 = .ok (.iconst (-1), 1) := by decide +kernel
theorem d_T_letter_13 : decode prog_1_method_32_code 13 = .ok (.ireturn, 1) := by decide +kernel
theorem d_T_letter_14 : decode prog_1_method_32_code 14 = .ok (.aload_n 0, 1) := by decide +kernel
theorem d_T_letter_15 : decode prog_1_method_32_code 15 = .ok (.getfield 64, 3) := by decide +kernel
theorem d_T_letter_18 : decode prog_1_method_32_code 18 = .ok (.invokevirtual 264, 3) := by decide +kernel
theorem d_T_letter_21 : decode prog_1_method_32_code 21 = .ok (.aload_n 0, 1) := by decide +kernel
theorem d_T_letter_22 : decode prog_1_method_32_code 22 = .ok (.getfield 64, 3) := by decide +kernel
theorem d_T_letter_25 : decode prog_1_method_32_code 25 = .ok (.aload_n 0, 1) := by decide +kernel
theorem d_T_letter_26 : decode prog_1_method_32_code 26 = .ok (.getfield 19, 3) := by decide +kernel
theorem d_T_letter_29 : decode prog_1_method_32_code 29 = .ok (.iload_n 1, 1) := by decide +kernel
theorem d_T_letter_30 : decode prog_1_method_32_code 30 = .ok (.invokevirtual 122, 3) := by decide +kernel
theorem d_T_letter_33 : decode prog_1_method_32_code 33 = .ok (.invokevirtual 267, 3) := by decide +kernel
theorem d_T_letter_36 : decode prog_1_method_32_code 36 = .ok (.aload_n 0, 1) := by decide +kernel
theorem d_T_letter_37 : decode prog_1_method_32_code 37 = .ok (.iload_n 2, 1) := by decide +kernel
theorem d_T_letter_38 : decode prog_1_method_32_code 38 = .ok (.invokevirtual 270, 3) := by decide +kernel
theorem d_T_letter_41 : decode prog_1_method_32_code 41 = .ok (.ireturn, 1) := by decide +kernel
def cf_T_letter (a0 : Int32) (a1 : Int32) (w : Wd) (P : Int32 → Wd → Prop) : Prop :=
  cf_Store_isPlace a0 (fun r1 => ((r1 = 0 → P (-1 : Int32) w) ∧ (¬ r1 = 0 → (((-1 : Int32) ≤ a1 → cf_Letters_restart  w (fun w2 => cf_Store_polyAt a0 w2 (fun r3 => cf_Letters_writePoly r3 w2 (fun w4 => cf_T_letterAt a1 w4 (fun r5 => P r5 w4))))) ∧ (¬ (-1 : Int32) ≤ a1 → P (-1 : Int32) w)))))
theorem cf_T_letter_ok {g : ayG} {d : Nat} (hd : 4 ≤ d) (a0 : Int32) (a1 : Int32)  (w : Wd) (P : Int32 → Wd → Prop) (h : cf_T_letter a0 a1 w P) : Call g y_T_letter prog_1_method_32_code 3 (some FieldType.int) d [.ref (g.1 + 0), .int a0, .int a1] w (fun (r : Option Value) (w2 : Wd) => ∃ x, r = some (.int x) ∧ P x w2) := by
  unfold cf_T_letter at h
  refine am_enter mi_T_letter (Nat.le_of_ble_eq_true rfl) ?_
  have hQ : ∀ x w2, P x w2 → (fun (r : Option Value) (w2 : Wd) => ∃ x, r = some (.int x) ∧ P x w2) (some (.int x)) w2 := fun x w2 h => ⟨x, rfl, h⟩
  generalize (fun (r : Option Value) (w2 : Wd) => ∃ x, r = some (.int x) ∧ P x w2) = Q at hQ ⊢
  show wp g (fun _ => True) y_T_letter prog_1_method_32_code 3 (some FieldType.int) d 0 [(0, .ref (g.1 + 0)), (1, .int a0), (2, .int a1)] [] w Q
  refine am_iload_n d_T_letter_0 1 rfl ?_
  refine am_callS (d2 := d - 1) [.int a0] d_T_letter_1 mi_Store_isPlace wd_453 wd_263 (by omega) rfl rfl (Nat.le_of_ble_eq_true rfl) ?_
  refine Call.post ?_ (cf_Store_isPlace_ok (by omega) a0  w _ h)
  rintro _ _ ⟨r1, rfl, rfl, h⟩
  show wp g (fun _ => True) y_T_letter prog_1_method_32_code 3 (some FieldType.int) d 4 [(0, .ref (g.1 + 0)), (1, .int a0), (2, .int a1)] [.int r1] w Q
  refine am_if_eq (tgt := 12) d_T_letter_4 (by decide) (fun c4 => ?_) (fun c4 => ?_)
  · have h := h.1 c4
    refine am_iconst (v := -1) d_T_letter_12 rfl ?_
    exact am_ireturn d_T_letter_13 rfl rfl (hQ (-1 : Int32) w h)
  · have h := h.2 c4
    refine am_iload_n d_T_letter_7 2 rfl ?_
    refine am_iconst (v := -1) d_T_letter_8 rfl ?_
    refine am_icmp_ge (tgt := 14) d_T_letter_9 (by decide) (fun c9 => ?_) (fun c9 => ?_)
    · have h := h.1 c9
      refine am_aload_n d_T_letter_14 0 rfl ?_
      refine am_getf (T := F_T) (fs := ob_T g w 0) (C := R_T) (N := 9) (ci := 0) 8 d_T_letter_15 wd_202 rfl (by decide) (el_T (show ay_sh 0 = _ from rfl)) rfl i_T (by decide) rfl ?_
      refine am_callV (C := "TriSplits$Letters") (d2 := d - 1) [] d_T_letter_18 mi_Letters_restart wd_811 wd_812 wd_813 (by decide) (el_Letters (show ay_sh 28 = _ from rfl)) rfl rfl (by omega) rfl rfl (Nat.le_of_ble_eq_true rfl) ?_
      refine Call.post ?_ (cf_Letters_restart_ok (by omega)   w _ h)
      rintro _ w2 ⟨rfl, h⟩
      show wp g (fun _ => True) y_T_letter prog_1_method_32_code 3 (some FieldType.int) d 21 [(0, .ref (g.1 + 0)), (1, .int a0), (2, .int a1)] [] w2 Q
      refine am_aload_n d_T_letter_21 0 rfl ?_
      refine am_getf (T := F_T) (fs := ob_T g w2 0) (C := R_T) (N := 9) (ci := 0) 8 d_T_letter_22 wd_202 rfl (by decide) (el_T (show ay_sh 0 = _ from rfl)) rfl i_T (by decide) rfl ?_
      refine am_aload_n d_T_letter_25 0 rfl ?_
      refine am_getf (T := F_T) (fs := ob_T g w2 0) (C := R_T) (N := 9) (ci := 0) 1 d_T_letter_26 wd_195 rfl (by decide) (el_T (show ay_sh 0 = _ from rfl)) rfl i_T (by decide) rfl ?_
      refine am_iload_n d_T_letter_29 1 rfl ?_
      refine am_callV (C := "TriSplits$Store") (d2 := d - 1) [.int a0] d_T_letter_30 mi_Store_polyAt wd_468 wd_259 wd_260 (by decide) (el_Store (show ay_sh 6 = _ from rfl)) rfl rfl (by omega) rfl rfl (Nat.le_of_ble_eq_true rfl) ?_
      refine Call.post ?_ (cf_Store_polyAt_ok (by omega) a0  w2 _ h)
      rintro _ _ ⟨r3, rfl, rfl, h⟩
      show wp g (fun _ => True) y_T_letter prog_1_method_32_code 3 (some FieldType.int) d 33 [(0, .ref (g.1 + 0)), (1, .int a0), (2, .int a1)] [.long r3, .ref (g.1 + 28)] w2 Q
      refine am_callV (C := "TriSplits$Letters") (d2 := d - 1) [.long r3] d_T_letter_33 mi_Letters_writePoly wd_815 wd_816 wd_817 (by decide) (el_Letters (show ay_sh 28 = _ from rfl)) rfl rfl (by omega) rfl rfl (Nat.le_of_ble_eq_true rfl) ?_
      refine Call.post ?_ (cf_Letters_writePoly_ok (by omega) r3  w2 _ h)
      rintro _ w4 ⟨rfl, h⟩
      show wp g (fun _ => True) y_T_letter prog_1_method_32_code 3 (some FieldType.int) d 36 [(0, .ref (g.1 + 0)), (1, .int a0), (2, .int a1)] [] w4 Q
      refine am_aload_n d_T_letter_36 0 rfl ?_
      refine am_iload_n d_T_letter_37 2 rfl ?_
      refine am_callV (C := y_T_letterAt.cls) (d2 := d - 1) [.int a1] d_T_letter_38 mi_T_letterAt wd_832 wd_834 ws_T_letterAt (by decide) (el_T (show ay_sh 0 = _ from rfl)) rfl rfl (by omega) rfl rfl (Nat.le_of_ble_eq_true rfl) ?_
      refine Call.post ?_ (cf_T_letterAt_ok (by omega) a1  w4 _ h)
      rintro _ _ ⟨r5, rfl, rfl, h⟩
      show wp g (fun _ => True) y_T_letter prog_1_method_32_code 3 (some FieldType.int) d 41 [(0, .ref (g.1 + 0)), (1, .int a0), (2, .int a1)] [.int r5] w4 Q
      exact am_ireturn d_T_letter_41 rfl rfl (hQ r5 w4 h)
    · have h := h.2 c9
      refine am_iconst (v := -1) d_T_letter_12 rfl ?_
      exact am_ireturn d_T_letter_13 rfl rfl (hQ (-1 : Int32) w h)
theorem d_T_spell_0 : decode prog_1_method_33_code 0 = .ok (.iload_n 1, 1) := by decide +kernel
theorem d_T_spell_1 : decode prog_1_method_33_code 1 = .ok (.invokestatic 109, 3) := by decide +kernel
theorem d_T_spell_4 : decode prog_1_method_33_code 4 = .ok (.ifCond .eq 8, 3) := by decide +kernel
theorem d_T_spell_7 : decode prog_1_method_33_code 7 = .ok (.iload_n 2, 1) := by decide +kernel
theorem d_T_spell_8 : decode prog_1_method_33_code 8 = .ok (.iconst (-1), 1) := by decide +kernel
theorem d_T_spell_9 : decode prog_1_method_33_code 9 = .ok (.if_icmp .ge 5, 3) := by decide +kernel
theorem d_T_spell_12 : decode prog_1_method_33_code 12 = .ok (.iconst (-1), 1) := by decide +kernel
theorem d_T_spell_13 : decode prog_1_method_33_code 13 = .ok (.ireturn, 1) := by decide +kernel
theorem d_T_spell_14 : decode prog_1_method_33_code 14 = .ok (.aload_n 0, 1) := by decide +kernel
theorem d_T_spell_15 : decode prog_1_method_33_code 15 = .ok (.getfield 19, 3) := by decide +kernel
theorem d_T_spell_18 : decode prog_1_method_33_code 18 = .ok (.iload_n 1, 1) := by decide +kernel
theorem d_T_spell_19 : decode prog_1_method_33_code 19 = .ok (.invokevirtual 122, 3) := by decide +kernel
theorem d_T_spell_22 : decode prog_1_method_33_code 22 = .ok (.lstore_n 3, 1) := by decide +kernel
theorem d_T_spell_23 : decode prog_1_method_33_code 23 = .ok (.aload_n 0, 1) := by decide +kernel
theorem d_T_spell_24 : decode prog_1_method_33_code 24 = .ok (.getfield 64, 3) := by decide +kernel
theorem d_T_spell_27 : decode prog_1_method_33_code 27 = .ok (.invokevirtual 264, 3) := by decide +kernel
theorem d_T_spell_30 : decode prog_1_method_33_code 30 = .ok (.lload_n 3, 1) := by decide +kernel
theorem d_T_spell_31 : decode prog_1_method_33_code 31 = .ok (.ldc2_w 242, 3) := by decide +kernel
theorem d_T_spell_34 : decode prog_1_method_33_code 34 = .ok (.lcmp, 1) := by decide +kernel
theorem d_T_spell_35 : decode prog_1_method_33_code 35 = .ok (.ifCond .ge 14, 3) := by decide +kernel
theorem d_T_spell_38 : decode prog_1_method_33_code 38 = .ok (.aload_n 0, 1) := by decide +kernel
theorem d_T_spell_39 : decode prog_1_method_33_code 39 = .ok (.getfield 64, 3) := by decide +kernel
theorem d_T_spell_42 : decode prog_1_method_33_code 42 = .ok (.lload_n 3, 1) := by decide +kernel
theorem d_T_spell_43 : decode prog_1_method_33_code 43 = .ok (.invokevirtual 267, 3) := by decide +kernel
theorem d_T_spell_46 : decode prog_1_method_33_code 46 = .ok (.goto 22, 3) := by decide +kernel
theorem d_T_spell_49 : decode prog_1_method_33_code 49 = .ok (.aload_n 0, 1) := by decide +kernel
theorem d_T_spell_50 : decode prog_1_method_33_code 50 = .ok (.getfield 26, 3) := by decide +kernel
theorem d_T_spell_53 : decode prog_1_method_33_code 53 = .ok (.lload_n 3, 1) := by decide +kernel
theorem d_T_spell_54 : decode prog_1_method_33_code 54 = .ok (.invokevirtual 228, 3) := by decide +kernel
theorem d_T_spell_57 : decode prog_1_method_33_code 57 = .ok (.aload_n 0, 1) := by decide +kernel
theorem d_T_spell_58 : decode prog_1_method_33_code 58 = .ok (.getfield 64, 3) := by decide +kernel
theorem d_T_spell_61 : decode prog_1_method_33_code 61 = .ok (.aload_n 0, 1) := by decide +kernel
theorem d_T_spell_62 : decode prog_1_method_33_code 62 = .ok (.getfield 26, 3) := by decide +kernel
theorem d_T_spell_65 : decode prog_1_method_33_code 65 = .ok (.invokevirtual 273, 3) := by decide +kernel
theorem d_T_spell_68 : decode prog_1_method_33_code 68 = .ok (.aload_n 0, 1) := by decide +kernel
theorem d_T_spell_69 : decode prog_1_method_33_code 69 = .ok (.iload_n 2, 1) := by decide +kernel
theorem d_T_spell_70 : decode prog_1_method_33_code 70 = .ok (.invokevirtual 270, 3) := by decide +kernel
theorem d_T_spell_73 : decode prog_1_method_33_code 73 = .ok (.ireturn, 1) := by decide +kernel
def cf_T_spell (a0 : Int32) (a1 : Int32) (w : Wd) (P : Int32 → Wd → Prop) : Prop :=
  cf_Store_isPlace a0 (fun r1 => ((r1 = 0 → P (-1 : Int32) w) ∧ (¬ r1 = 0 → (((-1 : Int32) ≤ a1 → cf_Store_polyAt a0 w (fun r2 => cf_Letters_restart  w (fun w3 => (((2 : Int64) ≤ r2 → cf_Factors_split 10 r2 w3 (fun w4 => cf_Letters_writeFactors 10 w4 (fun w5 => cf_T_letterAt a1 w5 (fun r6 => P r6 w5)))) ∧ (¬ (2 : Int64) ≤ r2 → cf_Letters_writePoly r2 w3 (fun w7 => cf_T_letterAt a1 w7 (fun r8 => P r8 w7))))))) ∧ (¬ (-1 : Int32) ≤ a1 → P (-1 : Int32) w)))))
theorem cf_T_spell_ok {g : ayG} {d : Nat} (hd : 7 ≤ d) (a0 : Int32) (a1 : Int32)  (w : Wd) (P : Int32 → Wd → Prop) (h : cf_T_spell a0 a1 w P) : Call g y_T_spell prog_1_method_33_code 5 (some FieldType.int) d [.ref (g.1 + 0), .int a0, .int a1] w (fun (r : Option Value) (w2 : Wd) => ∃ x, r = some (.int x) ∧ P x w2) := by
  unfold cf_T_spell at h
  refine am_enter mi_T_spell (Nat.le_of_ble_eq_true rfl) ?_
  have hQ : ∀ x w2, P x w2 → (fun (r : Option Value) (w2 : Wd) => ∃ x, r = some (.int x) ∧ P x w2) (some (.int x)) w2 := fun x w2 h => ⟨x, rfl, h⟩
  generalize (fun (r : Option Value) (w2 : Wd) => ∃ x, r = some (.int x) ∧ P x w2) = Q at hQ ⊢
  show wp g (fun _ => True) y_T_spell prog_1_method_33_code 5 (some FieldType.int) d 0 [(0, .ref (g.1 + 0)), (1, .int a0), (2, .int a1)] [] w Q
  refine am_iload_n d_T_spell_0 1 rfl ?_
  refine am_callS (d2 := d - 1) [.int a0] d_T_spell_1 mi_Store_isPlace wd_453 wd_263 (by omega) rfl rfl (Nat.le_of_ble_eq_true rfl) ?_
  refine Call.post ?_ (cf_Store_isPlace_ok (by omega) a0  w _ h)
  rintro _ _ ⟨r1, rfl, rfl, h⟩
  show wp g (fun _ => True) y_T_spell prog_1_method_33_code 5 (some FieldType.int) d 4 [(0, .ref (g.1 + 0)), (1, .int a0), (2, .int a1)] [.int r1] w Q
  refine am_if_eq (tgt := 12) d_T_spell_4 (by decide) (fun c4 => ?_) (fun c4 => ?_)
  · have h := h.1 c4
    refine am_iconst (v := -1) d_T_spell_12 rfl ?_
    exact am_ireturn d_T_spell_13 rfl rfl (hQ (-1 : Int32) w h)
  · have h := h.2 c4
    refine am_iload_n d_T_spell_7 2 rfl ?_
    refine am_iconst (v := -1) d_T_spell_8 rfl ?_
    refine am_icmp_ge (tgt := 14) d_T_spell_9 (by decide) (fun c9 => ?_) (fun c9 => ?_)
    · have h := h.1 c9
      refine am_aload_n d_T_spell_14 0 rfl ?_
      refine am_getf (T := F_T) (fs := ob_T g w 0) (C := R_T) (N := 9) (ci := 0) 1 d_T_spell_15 wd_195 rfl (by decide) (el_T (show ay_sh 0 = _ from rfl)) rfl i_T (by decide) rfl ?_
      refine am_iload_n d_T_spell_18 1 rfl ?_
      refine am_callV (C := "TriSplits$Store") (d2 := d - 1) [.int a0] d_T_spell_19 mi_Store_polyAt wd_468 wd_259 wd_260 (by decide) (el_Store (show ay_sh 6 = _ from rfl)) rfl rfl (by omega) rfl rfl (Nat.le_of_ble_eq_true rfl) ?_
      refine Call.post ?_ (cf_Store_polyAt_ok (by omega) a0  w _ h)
      rintro _ _ ⟨r2, rfl, rfl, h⟩
      show wp g (fun _ => True) y_T_spell prog_1_method_33_code 5 (some FieldType.int) d 22 [(0, .ref (g.1 + 0)), (1, .int a0), (2, .int a1)] [.long r2] w Q
      refine am_lstore_n (l' := [(3, .long r2), (0, .ref (g.1 + 0)), (1, .int a0), (2, .int a1)]) d_T_spell_22 (by decide) rfl ?_
      refine am_aload_n d_T_spell_23 1 rfl ?_
      refine am_getf (T := F_T) (fs := ob_T g w 0) (C := R_T) (N := 9) (ci := 0) 8 d_T_spell_24 wd_202 rfl (by decide) (el_T (show ay_sh 0 = _ from rfl)) rfl i_T (by decide) rfl ?_
      refine am_callV (C := "TriSplits$Letters") (d2 := d - 1) [] d_T_spell_27 mi_Letters_restart wd_811 wd_812 wd_813 (by decide) (el_Letters (show ay_sh 28 = _ from rfl)) rfl rfl (by omega) rfl rfl (Nat.le_of_ble_eq_true rfl) ?_
      refine Call.post ?_ (cf_Letters_restart_ok (by omega)   w _ h)
      rintro _ w3 ⟨rfl, h⟩
      show wp g (fun _ => True) y_T_spell prog_1_method_33_code 5 (some FieldType.int) d 30 [(3, .long r2), (0, .ref (g.1 + 0)), (1, .int a0), (2, .int a1)] [] w3 Q
      refine am_lload_n d_T_spell_30 0 rfl ?_
      refine am_ldc2 (v := 2) d_T_spell_31 wd_748 ?_
      refine am_lif_ge (tgt := 49) d_T_spell_34 d_T_spell_35 (by decide) (fun c34 => ?_) (fun c34 => ?_)
      · have h := h.1 c34
        refine am_aload_n d_T_spell_49 1 rfl ?_
        refine am_getf (T := F_T) (fs := ob_T g w3 0) (C := R_T) (N := 9) (ci := 0) 2 d_T_spell_50 wd_196 rfl (by decide) (el_T (show ay_sh 0 = _ from rfl)) rfl i_T (by decide) rfl ?_
        refine am_lload_n d_T_spell_53 0 rfl ?_
        refine am_callV (C := "TriSplits$Factors") (d2 := d - 1) [.long r2] d_T_spell_54 mi_Factors_split wd_673 wd_674 wd_675 (by decide) (el_Factors (show ay_sh 10 = _ from rfl)) rfl rfl (by omega) rfl rfl (Nat.le_of_ble_eq_true rfl) ?_
        refine Call.post ?_ (cf_Factors_split_ok (by omega) 10 r2 (show ay_sh 10 = _ from rfl) w3 _ h)
        rintro _ w4 ⟨rfl, h⟩
        show wp g (fun _ => True) y_T_spell prog_1_method_33_code 5 (some FieldType.int) d 57 [(3, .long r2), (0, .ref (g.1 + 0)), (1, .int a0), (2, .int a1)] [] w4 Q
        refine am_aload_n d_T_spell_57 1 rfl ?_
        refine am_getf (T := F_T) (fs := ob_T g w4 0) (C := R_T) (N := 9) (ci := 0) 8 d_T_spell_58 wd_202 rfl (by decide) (el_T (show ay_sh 0 = _ from rfl)) rfl i_T (by decide) rfl ?_
        refine am_aload_n d_T_spell_61 1 rfl ?_
        refine am_getf (T := F_T) (fs := ob_T g w4 0) (C := R_T) (N := 9) (ci := 0) 2 d_T_spell_62 wd_196 rfl (by decide) (el_T (show ay_sh 0 = _ from rfl)) rfl i_T (by decide) rfl ?_
        refine am_callV (C := "TriSplits$Letters") (d2 := d - 1) [.ref (g.1 + 10)] d_T_spell_65 mi_Letters_writeFactors wd_848 wd_849 wd_850 (by decide) (el_Letters (show ay_sh 28 = _ from rfl)) rfl rfl (by omega) rfl rfl (Nat.le_of_ble_eq_true rfl) ?_
        refine Call.post ?_ (cf_Letters_writeFactors_ok (by omega) 10 (show ay_sh 10 = _ from rfl) w4 _ h)
        rintro _ w5 ⟨rfl, h⟩
        show wp g (fun _ => True) y_T_spell prog_1_method_33_code 5 (some FieldType.int) d 68 [(3, .long r2), (0, .ref (g.1 + 0)), (1, .int a0), (2, .int a1)] [] w5 Q
        refine am_aload_n d_T_spell_68 1 rfl ?_
        refine am_iload_n d_T_spell_69 3 rfl ?_
        refine am_callV (C := y_T_letterAt.cls) (d2 := d - 1) [.int a1] d_T_spell_70 mi_T_letterAt wd_832 wd_834 ws_T_letterAt (by decide) (el_T (show ay_sh 0 = _ from rfl)) rfl rfl (by omega) rfl rfl (Nat.le_of_ble_eq_true rfl) ?_
        refine Call.post ?_ (cf_T_letterAt_ok (by omega) a1  w5 _ h)
        rintro _ _ ⟨r6, rfl, rfl, h⟩
        show wp g (fun _ => True) y_T_spell prog_1_method_33_code 5 (some FieldType.int) d 73 [(3, .long r2), (0, .ref (g.1 + 0)), (1, .int a0), (2, .int a1)] [.int r6] w5 Q
        exact am_ireturn d_T_spell_73 rfl rfl (hQ r6 w5 h)
      · have h := h.2 c34
        refine am_aload_n d_T_spell_38 1 rfl ?_
        refine am_getf (T := F_T) (fs := ob_T g w3 0) (C := R_T) (N := 9) (ci := 0) 8 d_T_spell_39 wd_202 rfl (by decide) (el_T (show ay_sh 0 = _ from rfl)) rfl i_T (by decide) rfl ?_
        refine am_lload_n d_T_spell_42 0 rfl ?_
        refine am_callV (C := "TriSplits$Letters") (d2 := d - 1) [.long r2] d_T_spell_43 mi_Letters_writePoly wd_815 wd_816 wd_817 (by decide) (el_Letters (show ay_sh 28 = _ from rfl)) rfl rfl (by omega) rfl rfl (Nat.le_of_ble_eq_true rfl) ?_
        refine Call.post ?_ (cf_Letters_writePoly_ok (by omega) r2  w3 _ h)
        rintro _ w7 ⟨rfl, h⟩
        show wp g (fun _ => True) y_T_spell prog_1_method_33_code 5 (some FieldType.int) d 46 [(3, .long r2), (0, .ref (g.1 + 0)), (1, .int a0), (2, .int a1)] [] w7 Q
        refine am_goto (tgt := 68) d_T_spell_46 (by decide) ?_
        refine am_aload_n d_T_spell_68 1 rfl ?_
        refine am_iload_n d_T_spell_69 3 rfl ?_
        refine am_callV (C := y_T_letterAt.cls) (d2 := d - 1) [.int a1] d_T_spell_70 mi_T_letterAt wd_832 wd_834 ws_T_letterAt (by decide) (el_T (show ay_sh 0 = _ from rfl)) rfl rfl (by omega) rfl rfl (Nat.le_of_ble_eq_true rfl) ?_
        refine Call.post ?_ (cf_T_letterAt_ok (by omega) a1  w7 _ h)
        rintro _ _ ⟨r8, rfl, rfl, h⟩
        show wp g (fun _ => True) y_T_spell prog_1_method_33_code 5 (some FieldType.int) d 73 [(3, .long r2), (0, .ref (g.1 + 0)), (1, .int a0), (2, .int a1)] [.int r8] w7 Q
        exact am_ireturn d_T_spell_73 rfl rfl (hQ r8 w7 h)
    · have h := h.2 c9
      refine am_iconst (v := -1) d_T_spell_12 rfl ?_
      exact am_ireturn d_T_spell_13 rfl rfl (hQ (-1 : Int32) w h)
theorem d_T_isTri_0 : decode prog_1_method_52_code 0 = .ok (.iload_n 0, 1) := by decide +kernel
theorem d_T_isTri_1 : decode prog_1_method_52_code 1 = .ok (.iconst 2, 1) := by decide +kernel
theorem d_T_isTri_2 : decode prog_1_method_52_code 2 = .ok (.if_icmp .lt 22, 3) := by decide +kernel
theorem d_T_isTri_5 : decode prog_1_method_52_code 5 = .ok (.iload_n 0, 1) := by decide +kernel
theorem d_T_isTri_6 : decode prog_1_method_52_code 6 = .ok (.iload_n 2, 1) := by decide +kernel
theorem d_T_isTri_7 : decode prog_1_method_52_code 7 = .ok (.if_icmp .gt 17, 3) := by decide +kernel
theorem d_T_isTri_10 : decode prog_1_method_52_code 10 = .ok (.iload_n 1, 1) := by decide +kernel
theorem d_T_isTri_11 : decode prog_1_method_52_code 11 = .ok (.iconst 1, 1) := by decide +kernel
theorem d_T_isTri_12 : decode prog_1_method_52_code 12 = .ok (.if_icmp .lt 12, 3) := by decide +kernel
theorem d_T_isTri_15 : decode prog_1_method_52_code 15 = .ok (.iload_n 1, 1) := by decide +kernel
theorem d_T_isTri_16 : decode prog_1_method_52_code 16 = .ok (.iload_n 0, 1) := by decide +kernel
theorem d_T_isTri_17 : decode prog_1_method_52_code 17 = .ok (.if_icmp .ge 7, 3) := by decide +kernel
theorem d_T_isTri_20 : decode prog_1_method_52_code 20 = .ok (.iconst 1, 1) := by decide +kernel
theorem d_T_isTri_21 : decode prog_1_method_52_code 21 = .ok (.goto 4, 3) := by decide +kernel
theorem d_T_isTri_24 : decode prog_1_method_52_code 24 = .ok (.iconst 0, 1) := by decide +kernel
theorem d_T_isTri_25 : decode prog_1_method_52_code 25 = .ok (.ireturn, 1) := by decide +kernel
def cf_T_isTri (a0 : Int32) (a1 : Int32) (a2 : Int32) (P : Int32 → Prop) : Prop :=
  ((a0 < (2 : Int32) → P (0 : Int32)) ∧ (¬ a0 < (2 : Int32) → ((a2 < a0 → P (0 : Int32)) ∧ (¬ a2 < a0 → ((a1 < (1 : Int32) → P (0 : Int32)) ∧ (¬ a1 < (1 : Int32) → ((a0 ≤ a1 → P (0 : Int32)) ∧ (¬ a0 ≤ a1 → P (1 : Int32)))))))))
theorem cf_T_isTri_ok {g : ayG} {d : Nat} (hd : 0 ≤ d) (a0 : Int32) (a1 : Int32) (a2 : Int32)  (w : Wd) (P : Int32 → Prop) (h : cf_T_isTri a0 a1 a2 P) : Call g y_T_isTri prog_1_method_52_code 3 (some FieldType.boolean) d [.int a0, .int a1, .int a2] w (fun (r : Option Value) (w2 : Wd) => ∃ x, r = some (.int x) ∧ w = w2 ∧ P x) := by
  unfold cf_T_isTri at h
  refine am_enter mi_T_isTri (Nat.le_of_ble_eq_true rfl) ?_
  have hQ : ∀ x, P x → (fun (r : Option Value) (w2 : Wd) => ∃ x, r = some (.int x) ∧ w = w2 ∧ P x) (some (.int x)) w := fun x h => ⟨x, rfl, rfl, h⟩
  generalize (fun (r : Option Value) (w2 : Wd) => ∃ x, r = some (.int x) ∧ w = w2 ∧ P x) = Q at hQ ⊢
  show wp g (fun _ => True) y_T_isTri prog_1_method_52_code 3 (some FieldType.boolean) d 0 [(0, .int a0), (1, .int a1), (2, .int a2)] [] w Q
  refine am_iload_n d_T_isTri_0 0 rfl ?_
  refine am_iconst (v := 2) d_T_isTri_1 rfl ?_
  refine am_icmp_lt (tgt := 24) d_T_isTri_2 (by decide) (fun c2 => ?_) (fun c2 => ?_)
  · have h := h.1 c2
    refine am_iconst (v := 0) d_T_isTri_24 rfl ?_
    exact am_ireturn d_T_isTri_25 rfl rfl (hQ (0 : Int32) h)
  · have h := h.2 c2
    refine am_iload_n d_T_isTri_5 0 rfl ?_
    refine am_iload_n d_T_isTri_6 2 rfl ?_
    refine am_icmp_gt (tgt := 24) d_T_isTri_7 (by decide) (fun c7 => ?_) (fun c7 => ?_)
    · have h := h.1 c7
      refine am_iconst (v := 0) d_T_isTri_24 rfl ?_
      exact am_ireturn d_T_isTri_25 rfl rfl (hQ (0 : Int32) h)
    · have h := h.2 c7
      refine am_iload_n d_T_isTri_10 1 rfl ?_
      refine am_iconst (v := 1) d_T_isTri_11 rfl ?_
      refine am_icmp_lt (tgt := 24) d_T_isTri_12 (by decide) (fun c12 => ?_) (fun c12 => ?_)
      · have h := h.1 c12
        refine am_iconst (v := 0) d_T_isTri_24 rfl ?_
        exact am_ireturn d_T_isTri_25 rfl rfl (hQ (0 : Int32) h)
      · have h := h.2 c12
        refine am_iload_n d_T_isTri_15 1 rfl ?_
        refine am_iload_n d_T_isTri_16 0 rfl ?_
        refine am_icmp_ge (tgt := 24) d_T_isTri_17 (by decide) (fun c17 => ?_) (fun c17 => ?_)
        · have h := h.1 c17
          refine am_iconst (v := 0) d_T_isTri_24 rfl ?_
          exact am_ireturn d_T_isTri_25 rfl rfl (hQ (0 : Int32) h)
        · have h := h.2 c17
          refine am_iconst (v := 1) d_T_isTri_20 rfl ?_
          refine am_goto (tgt := 25) d_T_isTri_21 (by decide) ?_
          exact am_ireturn d_T_isTri_25 rfl rfl (hQ (1 : Int32) h)
theorem d_T_swan_0 : decode prog_1_method_34_code 0 = .ok (.iload_n 1, 1) := by decide +kernel
theorem d_T_swan_1 : decode prog_1_method_34_code 1 = .ok (.iload_n 2, 1) := by decide +kernel
theorem d_T_swan_2 : decode prog_1_method_34_code 2 = .ok (.sipush 2000, 3) := by decide +kernel
theorem d_T_swan_5 : decode prog_1_method_34_code 5 = .ok (.invokestatic 277, 3) := by decide +kernel
theorem d_T_swan_8 : decode prog_1_method_34_code 8 = .ok (.ifCond .eq 11, 3) := by decide +kernel
theorem d_T_swan_11 : decode prog_1_method_34_code 11 = .ok (.iload_n 1, 1) := by decide +kernel
theorem d_T_swan_12 : decode prog_1_method_34_code 12 = .ok (.iload_n 2, 1) := by decide +kernel
theorem d_T_swan_13 : decode prog_1_method_34_code 13 = .ok (.invokestatic 280, 3) := by decide +kernel
theorem d_T_swan_16 : decode prog_1_method_34_code 16 = .ok (.goto 4, 3) := by decide +kernel
theorem d_T_swan_19 : decode prog_1_method_34_code 19 = .ok (.iconst (-1), 1) := by decide +kernel
theorem d_T_swan_20 : decode prog_1_method_34_code 20 = .ok (.ireturn, 1) := by decide +kernel
def cf_T_swan (a0 : Int32) (a1 : Int32) (P : Int32 → Prop) : Prop :=
  cf_T_isTri a0 a1 (2000 : Int32) (fun r1 => ((r1 = 0 → P (-1 : Int32)) ∧ (¬ r1 = 0 → cf_Families_swanParity a0 a1 (fun r2 => P r2))))
theorem cf_T_swan_ok {g : ayG} {d : Nat} (hd : 2 ≤ d) (a0 : Int32) (a1 : Int32)  (w : Wd) (P : Int32 → Prop) (h : cf_T_swan a0 a1 P) : Call g y_T_swan prog_1_method_34_code 3 (some FieldType.int) d [.ref (g.1 + 0), .int a0, .int a1] w (fun (r : Option Value) (w2 : Wd) => ∃ x, r = some (.int x) ∧ w = w2 ∧ P x) := by
  unfold cf_T_swan at h
  refine am_enter mi_T_swan (Nat.le_of_ble_eq_true rfl) ?_
  have hQ : ∀ x, P x → (fun (r : Option Value) (w2 : Wd) => ∃ x, r = some (.int x) ∧ w = w2 ∧ P x) (some (.int x)) w := fun x h => ⟨x, rfl, rfl, h⟩
  generalize (fun (r : Option Value) (w2 : Wd) => ∃ x, r = some (.int x) ∧ w = w2 ∧ P x) = Q at hQ ⊢
  show wp g (fun _ => True) y_T_swan prog_1_method_34_code 3 (some FieldType.int) d 0 [(0, .ref (g.1 + 0)), (1, .int a0), (2, .int a1)] [] w Q
  refine am_iload_n d_T_swan_0 1 rfl ?_
  refine am_iload_n d_T_swan_1 2 rfl ?_
  refine am_sipush (v := 2000) d_T_swan_2 rfl ?_
  refine am_callS (d2 := d - 1) [.int a0, .int a1, .int (2000 : Int32)] d_T_swan_5 mi_T_isTri wd_860 wd_861 (by omega) rfl rfl (Nat.le_of_ble_eq_true rfl) ?_
  refine Call.post ?_ (cf_T_isTri_ok (by omega) a0 a1 (2000 : Int32)  w _ h)
  rintro _ _ ⟨r1, rfl, rfl, h⟩
  show wp g (fun _ => True) y_T_swan prog_1_method_34_code 3 (some FieldType.int) d 8 [(0, .ref (g.1 + 0)), (1, .int a0), (2, .int a1)] [.int r1] w Q
  refine am_if_eq (tgt := 19) d_T_swan_8 (by decide) (fun c8 => ?_) (fun c8 => ?_)
  · have h := h.1 c8
    refine am_iconst (v := -1) d_T_swan_19 rfl ?_
    exact am_ireturn d_T_swan_20 rfl rfl (hQ (-1 : Int32) h)
  · have h := h.2 c8
    refine am_iload_n d_T_swan_11 1 rfl ?_
    refine am_iload_n d_T_swan_12 2 rfl ?_
    refine am_callS (d2 := d - 1) [.int a0, .int a1] d_T_swan_13 mi_Families_swanParity wd_863 wd_864 (by omega) rfl rfl (Nat.le_of_ble_eq_true rfl) ?_
    refine Call.post ?_ (cf_Families_swanParity_ok (by omega) a0 a1  w _ h)
    rintro _ _ ⟨r2, rfl, rfl, h⟩
    show wp g (fun _ => True) y_T_swan prog_1_method_34_code 3 (some FieldType.int) d 16 [(0, .ref (g.1 + 0)), (1, .int a0), (2, .int a1)] [.int r2] w Q
    refine am_goto (tgt := 20) d_T_swan_16 (by decide) ?_
    exact am_ireturn d_T_swan_20 rfl rfl (hQ r2 h)
theorem d_T_evens_0 : decode prog_1_method_35_code 0 = .ok (.iload_n 1, 1) := by decide +kernel
theorem d_T_evens_1 : decode prog_1_method_35_code 1 = .ok (.iconst 2, 1) := by decide +kernel
theorem d_T_evens_2 : decode prog_1_method_35_code 2 = .ok (.if_icmp .lt 10, 3) := by decide +kernel
theorem d_T_evens_5 : decode prog_1_method_35_code 5 = .ok (.iload_n 1, 1) := by decide +kernel
theorem d_T_evens_6 : decode prog_1_method_35_code 6 = .ok (.sipush 2000, 3) := by decide +kernel
theorem d_T_evens_9 : decode prog_1_method_35_code 9 = .ok (.if_icmp .le 7, 3) := by decide +kernel
theorem d_T_evens_12 : decode prog_1_method_35_code 12 = .ok (.iconst (-1), 1) := by decide +kernel
theorem d_T_evens_13 : decode prog_1_method_35_code 13 = .ok (.goto 7, 3) := by decide +kernel
theorem d_T_evens_16 : decode prog_1_method_35_code 16 = .ok (.iload_n 1, 1) := by decide +kernel
theorem d_T_evens_17 : decode prog_1_method_35_code 17 = .ok (.invokestatic 284, 3) := by decide +kernel
theorem d_T_evens_20 : decode prog_1_method_35_code 20 = .ok (.ireturn, 1) := by decide +kernel
def cf_T_evens (a0 : Int32) (P : Int32 → Prop) : Prop :=
  ((a0 < (2 : Int32) → P (-1 : Int32)) ∧ (¬ a0 < (2 : Int32) → ((a0 ≤ (2000 : Int32) → cf_Families_countEven a0 (fun r1 => P r1)) ∧ (¬ a0 ≤ (2000 : Int32) → P (-1 : Int32)))))
theorem cf_T_evens_ok {g : ayG} {d : Nat} (hd : 3 ≤ d) (a0 : Int32)  (w : Wd) (P : Int32 → Prop) (h : cf_T_evens a0 P) : Call g y_T_evens prog_1_method_35_code 2 (some FieldType.int) d [.ref (g.1 + 0), .int a0] w (fun (r : Option Value) (w2 : Wd) => ∃ x, r = some (.int x) ∧ w = w2 ∧ P x) := by
  unfold cf_T_evens at h
  refine am_enter mi_T_evens (Nat.le_of_ble_eq_true rfl) ?_
  have hQ : ∀ x, P x → (fun (r : Option Value) (w2 : Wd) => ∃ x, r = some (.int x) ∧ w = w2 ∧ P x) (some (.int x)) w := fun x h => ⟨x, rfl, rfl, h⟩
  generalize (fun (r : Option Value) (w2 : Wd) => ∃ x, r = some (.int x) ∧ w = w2 ∧ P x) = Q at hQ ⊢
  show wp g (fun _ => True) y_T_evens prog_1_method_35_code 2 (some FieldType.int) d 0 [(0, .ref (g.1 + 0)), (1, .int a0)] [] w Q
  refine am_iload_n d_T_evens_0 1 rfl ?_
  refine am_iconst (v := 2) d_T_evens_1 rfl ?_
  refine am_icmp_lt (tgt := 12) d_T_evens_2 (by decide) (fun c2 => ?_) (fun c2 => ?_)
  · have h := h.1 c2
    refine am_iconst (v := -1) d_T_evens_12 rfl ?_
    refine am_goto (tgt := 20) d_T_evens_13 (by decide) ?_
    exact am_ireturn d_T_evens_20 rfl rfl (hQ (-1 : Int32) h)
  · have h := h.2 c2
    refine am_iload_n d_T_evens_5 1 rfl ?_
    refine am_sipush (v := 2000) d_T_evens_6 rfl ?_
    refine am_icmp_le (tgt := 16) d_T_evens_9 (by decide) (fun c9 => ?_) (fun c9 => ?_)
    · have h := h.1 c9
      refine am_iload_n d_T_evens_16 1 rfl ?_
      refine am_callS (d2 := d - 1) [.int a0] d_T_evens_17 mi_Families_countEven wd_876 wd_877 (by omega) rfl rfl (Nat.le_of_ble_eq_true rfl) ?_
      refine Call.post ?_ (cf_Families_countEven_ok (by omega) a0  w _ h)
      rintro _ _ ⟨r1, rfl, rfl, h⟩
      show wp g (fun _ => True) y_T_evens prog_1_method_35_code 2 (some FieldType.int) d 20 [(0, .ref (g.1 + 0)), (1, .int a0)] [.int r1] w Q
      exact am_ireturn d_T_evens_20 rfl rfl (hQ r1 h)
    · have h := h.2 c9
      refine am_iconst (v := -1) d_T_evens_12 rfl ?_
      refine am_goto (tgt := 20) d_T_evens_13 (by decide) ?_
      exact am_ireturn d_T_evens_20 rfl rfl (hQ (-1 : Int32) h)
theorem d_T_multiple_0 : decode prog_1_method_36_code 0 = .ok (.iload_n 1, 1) := by decide +kernel
theorem d_T_multiple_1 : decode prog_1_method_36_code 1 = .ok (.invokestatic 109, 3) := by decide +kernel
theorem d_T_multiple_4 : decode prog_1_method_36_code 4 = .ok (.ifCond .eq 12, 3) := by decide +kernel
theorem d_T_multiple_7 : decode prog_1_method_36_code 7 = .ok (.iload_n 2, 1) := by decide +kernel
theorem d_T_multiple_8 : decode prog_1_method_36_code 8 = .ok (.ifCond .lt 8, 3) := by decide +kernel
theorem d_T_multiple_11 : decode prog_1_method_36_code 11 = .ok (.iload_n 2, 1) := by decide +kernel
theorem d_T_multiple_12 : decode prog_1_method_36_code 12 = .ok (.iconst 1, 1) := by decide +kernel
theorem d_T_multiple_13 : decode prog_1_method_36_code 13 = .ok (.if_icmp .le 5, 3) := by decide +kernel
theorem d_T_multiple_16 : decode prog_1_method_36_code 16 = .ok (.iconst (-1), 1) := by decide +kernel
theorem d_T_multiple_17 : decode prog_1_method_36_code 17 = .ok (.ireturn, 1) := by decide +kernel
theorem d_T_multiple_18 : decode prog_1_method_36_code 18 = .ok (.aload_n 0, 1) := by decide +kernel
theorem d_T_multiple_19 : decode prog_1_method_36_code 19 = .ok (.getfield 19, 3) := by decide +kernel
theorem d_T_multiple_22 : decode prog_1_method_36_code 22 = .ok (.iload_n 1, 1) := by decide +kernel
theorem d_T_multiple_23 : decode prog_1_method_36_code 23 = .ok (.invokevirtual 122, 3) := by decide +kernel
theorem d_T_multiple_26 : decode prog_1_method_36_code 26 = .ok (.ldc2_w 242, 3) := by decide +kernel
theorem d_T_multiple_29 : decode prog_1_method_36_code 29 = .ok (.lcmp, 1) := by decide +kernel
theorem d_T_multiple_30 : decode prog_1_method_36_code 30 = .ok (.ifCond .lt 21, 3) := by decide +kernel
theorem d_T_multiple_33 : decode prog_1_method_36_code 33 = .ok (.aload_n 0, 1) := by decide +kernel
theorem d_T_multiple_34 : decode prog_1_method_36_code 34 = .ok (.getfield 57, 3) := by decide +kernel
theorem d_T_multiple_37 : decode prog_1_method_36_code 37 = .ok (.aload_n 0, 1) := by decide +kernel
theorem d_T_multiple_38 : decode prog_1_method_36_code 38 = .ok (.getfield 19, 3) := by decide +kernel
theorem d_T_multiple_41 : decode prog_1_method_36_code 41 = .ok (.iload_n 1, 1) := by decide +kernel
theorem d_T_multiple_42 : decode prog_1_method_36_code 42 = .ok (.invokevirtual 122, 3) := by decide +kernel
theorem d_T_multiple_45 : decode prog_1_method_36_code 45 = .ok (.invokevirtual 287, 3) := by decide +kernel
theorem d_T_multiple_48 : decode prog_1_method_36_code 48 = .ok (.ifCond .ne 6, 3) := by decide +kernel
theorem d_T_multiple_51 : decode prog_1_method_36_code 51 = .ok (.bipush (-2), 2) := by decide +kernel
theorem d_T_multiple_53 : decode prog_1_method_36_code 53 = .ok (.ireturn, 1) := by decide +kernel
theorem d_T_multiple_54 : decode prog_1_method_36_code 54 = .ok (.iload_n 2, 1) := by decide +kernel
theorem d_T_multiple_55 : decode prog_1_method_36_code 55 = .ok (.ifCond .ne 13, 3) := by decide +kernel
theorem d_T_multiple_58 : decode prog_1_method_36_code 58 = .ok (.aload_n 0, 1) := by decide +kernel
theorem d_T_multiple_59 : decode prog_1_method_36_code 59 = .ok (.getfield 57, 3) := by decide +kernel
theorem d_T_multiple_62 : decode prog_1_method_36_code 62 = .ok (.invokevirtual 290, 3) := by decide +kernel
theorem d_T_multiple_65 : decode prog_1_method_36_code 65 = .ok (.goto 10, 3) := by decide +kernel
theorem d_T_multiple_68 : decode prog_1_method_36_code 68 = .ok (.aload_n 0, 1) := by decide +kernel
theorem d_T_multiple_69 : decode prog_1_method_36_code 69 = .ok (.getfield 57, 3) := by decide +kernel
theorem d_T_multiple_72 : decode prog_1_method_36_code 72 = .ok (.invokevirtual 293, 3) := by decide +kernel
theorem d_T_multiple_75 : decode prog_1_method_36_code 75 = .ok (.ireturn, 1) := by decide +kernel
def cf_T_multiple (a0 : Int32) (a1 : Int32) (w : Wd) (P : Int32 → Wd → Prop) : Prop :=
  cf_Store_isPlace a0 (fun r1 => ((r1 = 0 → P (-1 : Int32) w) ∧ (¬ r1 = 0 → ((a1 < 0 → P (-1 : Int32) w) ∧ (¬ a1 < 0 → ((a1 ≤ (1 : Int32) → cf_Store_polyAt a0 w (fun r2 => ((r2 < (2 : Int64) → P (-2 : Int32) w) ∧ (¬ r2 < (2 : Int64) → cf_Store_polyAt a0 w (fun r3 => cf_Rows_findMultiple r3 w (fun r4 w5 => ((¬ r4 = 0 → ((¬ a1 = 0 → cf_Rows_multipleK  w5 (fun r6 => P r6 w5)) ∧ (a1 = 0 → cf_Rows_multipleN  w5 (fun r7 => P r7 w5)))) ∧ (r4 = 0 → P (-2 : Int32) w5)))))))) ∧ (¬ a1 ≤ (1 : Int32) → P (-1 : Int32) w)))))))
theorem cf_T_multiple_ok {g : ayG} {d : Nat} (hd : 4 ≤ d) (a0 : Int32) (a1 : Int32)  (w : Wd) (P : Int32 → Wd → Prop) (h : cf_T_multiple a0 a1 w P) : Call g y_T_multiple prog_1_method_36_code 3 (some FieldType.int) d [.ref (g.1 + 0), .int a0, .int a1] w (fun (r : Option Value) (w2 : Wd) => ∃ x, r = some (.int x) ∧ P x w2) := by
  unfold cf_T_multiple at h
  refine am_enter mi_T_multiple (Nat.le_of_ble_eq_true rfl) ?_
  have hQ : ∀ x w2, P x w2 → (fun (r : Option Value) (w2 : Wd) => ∃ x, r = some (.int x) ∧ P x w2) (some (.int x)) w2 := fun x w2 h => ⟨x, rfl, h⟩
  generalize (fun (r : Option Value) (w2 : Wd) => ∃ x, r = some (.int x) ∧ P x w2) = Q at hQ ⊢
  show wp g (fun _ => True) y_T_multiple prog_1_method_36_code 3 (some FieldType.int) d 0 [(0, .ref (g.1 + 0)), (1, .int a0), (2, .int a1)] [] w Q
  refine am_iload_n d_T_multiple_0 1 rfl ?_
  refine am_callS (d2 := d - 1) [.int a0] d_T_multiple_1 mi_Store_isPlace wd_453 wd_263 (by omega) rfl rfl (Nat.le_of_ble_eq_true rfl) ?_
  refine Call.post ?_ (cf_Store_isPlace_ok (by omega) a0  w _ h)
  rintro _ _ ⟨r1, rfl, rfl, h⟩
  show wp g (fun _ => True) y_T_multiple prog_1_method_36_code 3 (some FieldType.int) d 4 [(0, .ref (g.1 + 0)), (1, .int a0), (2, .int a1)] [.int r1] w Q
  refine am_if_eq (tgt := 16) d_T_multiple_4 (by decide) (fun c4 => ?_) (fun c4 => ?_)
  · have h := h.1 c4
    refine am_iconst (v := -1) d_T_multiple_16 rfl ?_
    exact am_ireturn d_T_multiple_17 rfl rfl (hQ (-1 : Int32) w h)
  · have h := h.2 c4
    refine am_iload_n d_T_multiple_7 2 rfl ?_
    refine am_if_lt (tgt := 16) d_T_multiple_8 (by decide) (fun c8 => ?_) (fun c8 => ?_)
    · have h := h.1 c8
      refine am_iconst (v := -1) d_T_multiple_16 rfl ?_
      exact am_ireturn d_T_multiple_17 rfl rfl (hQ (-1 : Int32) w h)
    · have h := h.2 c8
      refine am_iload_n d_T_multiple_11 2 rfl ?_
      refine am_iconst (v := 1) d_T_multiple_12 rfl ?_
      refine am_icmp_le (tgt := 18) d_T_multiple_13 (by decide) (fun c13 => ?_) (fun c13 => ?_)
      · have h := h.1 c13
        refine am_aload_n d_T_multiple_18 0 rfl ?_
        refine am_getf (T := F_T) (fs := ob_T g w 0) (C := R_T) (N := 9) (ci := 0) 1 d_T_multiple_19 wd_195 rfl (by decide) (el_T (show ay_sh 0 = _ from rfl)) rfl i_T (by decide) rfl ?_
        refine am_iload_n d_T_multiple_22 1 rfl ?_
        refine am_callV (C := "TriSplits$Store") (d2 := d - 1) [.int a0] d_T_multiple_23 mi_Store_polyAt wd_468 wd_259 wd_260 (by decide) (el_Store (show ay_sh 6 = _ from rfl)) rfl rfl (by omega) rfl rfl (Nat.le_of_ble_eq_true rfl) ?_
        refine Call.post ?_ (cf_Store_polyAt_ok (by omega) a0  w _ h)
        rintro _ _ ⟨r2, rfl, rfl, h⟩
        show wp g (fun _ => True) y_T_multiple prog_1_method_36_code 3 (some FieldType.int) d 26 [(0, .ref (g.1 + 0)), (1, .int a0), (2, .int a1)] [.long r2] w Q
        refine am_ldc2 (v := 2) d_T_multiple_26 wd_748 ?_
        refine am_lif_lt (tgt := 51) d_T_multiple_29 d_T_multiple_30 (by decide) (fun c29 => ?_) (fun c29 => ?_)
        · have h := h.1 c29
          refine am_bipush (v := -2) d_T_multiple_51 rfl ?_
          exact am_ireturn d_T_multiple_53 rfl rfl (hQ (-2 : Int32) w h)
        · have h := h.2 c29
          refine am_aload_n d_T_multiple_33 0 rfl ?_
          refine am_getf (T := F_T) (fs := ob_T g w 0) (C := R_T) (N := 9) (ci := 0) 7 d_T_multiple_34 wd_201 rfl (by decide) (el_T (show ay_sh 0 = _ from rfl)) rfl i_T (by decide) rfl ?_
          refine am_aload_n d_T_multiple_37 0 rfl ?_
          refine am_getf (T := F_T) (fs := ob_T g w 0) (C := R_T) (N := 9) (ci := 0) 1 d_T_multiple_38 wd_195 rfl (by decide) (el_T (show ay_sh 0 = _ from rfl)) rfl i_T (by decide) rfl ?_
          refine am_iload_n d_T_multiple_41 1 rfl ?_
          refine am_callV (C := "TriSplits$Store") (d2 := d - 1) [.int a0] d_T_multiple_42 mi_Store_polyAt wd_468 wd_259 wd_260 (by decide) (el_Store (show ay_sh 6 = _ from rfl)) rfl rfl (by omega) rfl rfl (Nat.le_of_ble_eq_true rfl) ?_
          refine Call.post ?_ (cf_Store_polyAt_ok (by omega) a0  w _ h)
          rintro _ _ ⟨r3, rfl, rfl, h⟩
          show wp g (fun _ => True) y_T_multiple prog_1_method_36_code 3 (some FieldType.int) d 45 [(0, .ref (g.1 + 0)), (1, .int a0), (2, .int a1)] [.long r3, .ref (g.1 + 26)] w Q
          refine am_callV (C := "TriSplits$Rows") (d2 := d - 1) [.long r3] d_T_multiple_45 mi_Rows_findMultiple wd_884 wd_885 wd_886 (by decide) (el_Rows (show ay_sh 26 = _ from rfl)) rfl rfl (by omega) rfl rfl (Nat.le_of_ble_eq_true rfl) ?_
          refine Call.post ?_ (cf_Rows_findMultiple_ok (by omega) r3  w _ h)
          rintro _ w5 ⟨r4, rfl, h⟩
          show wp g (fun _ => True) y_T_multiple prog_1_method_36_code 3 (some FieldType.int) d 48 [(0, .ref (g.1 + 0)), (1, .int a0), (2, .int a1)] [.int r4] w5 Q
          refine am_if_ne (tgt := 54) d_T_multiple_48 (by decide) (fun c48 => ?_) (fun c48 => ?_)
          · have h := h.1 c48
            refine am_iload_n d_T_multiple_54 2 rfl ?_
            refine am_if_ne (tgt := 68) d_T_multiple_55 (by decide) (fun c55 => ?_) (fun c55 => ?_)
            · have h := h.1 c55
              refine am_aload_n d_T_multiple_68 0 rfl ?_
              refine am_getf (T := F_T) (fs := ob_T g w5 0) (C := R_T) (N := 9) (ci := 0) 7 d_T_multiple_69 wd_201 rfl (by decide) (el_T (show ay_sh 0 = _ from rfl)) rfl i_T (by decide) rfl ?_
              refine am_callV (C := "TriSplits$Rows") (d2 := d - 1) [] d_T_multiple_72 mi_Rows_multipleK wd_893 wd_894 wd_895 (by decide) (el_Rows (show ay_sh 26 = _ from rfl)) rfl rfl (by omega) rfl rfl (Nat.le_of_ble_eq_true rfl) ?_
              refine Call.post ?_ (cf_Rows_multipleK_ok (by omega)   w5 _ h)
              rintro _ _ ⟨r6, rfl, rfl, h⟩
              show wp g (fun _ => True) y_T_multiple prog_1_method_36_code 3 (some FieldType.int) d 75 [(0, .ref (g.1 + 0)), (1, .int a0), (2, .int a1)] [.int r6] w5 Q
              exact am_ireturn d_T_multiple_75 rfl rfl (hQ r6 w5 h)
            · have h := h.2 c55
              refine am_aload_n d_T_multiple_58 0 rfl ?_
              refine am_getf (T := F_T) (fs := ob_T g w5 0) (C := R_T) (N := 9) (ci := 0) 7 d_T_multiple_59 wd_201 rfl (by decide) (el_T (show ay_sh 0 = _ from rfl)) rfl i_T (by decide) rfl ?_
              refine am_callV (C := "TriSplits$Rows") (d2 := d - 1) [] d_T_multiple_62 mi_Rows_multipleN wd_889 wd_890 wd_891 (by decide) (el_Rows (show ay_sh 26 = _ from rfl)) rfl rfl (by omega) rfl rfl (Nat.le_of_ble_eq_true rfl) ?_
              refine Call.post ?_ (cf_Rows_multipleN_ok (by omega)   w5 _ h)
              rintro _ _ ⟨r7, rfl, rfl, h⟩
              show wp g (fun _ => True) y_T_multiple prog_1_method_36_code 3 (some FieldType.int) d 65 [(0, .ref (g.1 + 0)), (1, .int a0), (2, .int a1)] [.int r7] w5 Q
              refine am_goto (tgt := 75) d_T_multiple_65 (by decide) ?_
              exact am_ireturn d_T_multiple_75 rfl rfl (hQ r7 w5 h)
          · have h := h.2 c48
            refine am_bipush (v := -2) d_T_multiple_51 rfl ?_
            exact am_ireturn d_T_multiple_53 rfl rfl (hQ (-2 : Int32) w5 h)
      · have h := h.2 c13
        refine am_iconst (v := -1) d_T_multiple_16 rfl ?_
        exact am_ireturn d_T_multiple_17 rfl rfl (hQ (-1 : Int32) w h)
theorem d_T_shortest_0 : decode prog_1_method_37_code 0 = .ok (.iload_n 3, 1) := by decide +kernel
theorem d_T_shortest_1 : decode prog_1_method_37_code 1 = .ok (.iconst 1, 1) := by decide +kernel
theorem d_T_shortest_2 : decode prog_1_method_37_code 2 = .ok (.if_icmp .lt 34, 3) := by decide +kernel
theorem d_T_shortest_5 : decode prog_1_method_37_code 5 = .ok (.iload_n 3, 1) := by decide +kernel
theorem d_T_shortest_6 : decode prog_1_method_37_code 6 = .ok (.bipush 60, 2) := by decide +kernel
theorem d_T_shortest_8 : decode prog_1_method_37_code 8 = .ok (.if_icmp .gt 28, 3) := by decide +kernel
theorem d_T_shortest_11 : decode prog_1_method_37_code 11 = .ok (.lload_n 1, 1) := by decide +kernel
theorem d_T_shortest_12 : decode prog_1_method_37_code 12 = .ok (.lconst 0, 1) := by decide +kernel
theorem d_T_shortest_13 : decode prog_1_method_37_code 13 = .ok (.lcmp, 1) := by decide +kernel
theorem d_T_shortest_14 : decode prog_1_method_37_code 14 = .ok (.ifCond .lt 22, 3) := by decide +kernel
theorem d_T_shortest_17 : decode prog_1_method_37_code 17 = .ok (.lload_n 1, 1) := by decide +kernel
theorem d_T_shortest_18 : decode prog_1_method_37_code 18 = .ok (.iload_n 3, 1) := by decide +kernel
theorem d_T_shortest_19 : decode prog_1_method_37_code 19 = .ok (.lshr, 1) := by decide +kernel
theorem d_T_shortest_20 : decode prog_1_method_37_code 20 = .ok (.lconst 0, 1) := by decide +kernel
theorem d_T_shortest_21 : decode prog_1_method_37_code 21 = .ok (.lcmp, 1) := by decide +kernel
theorem d_T_shortest_22 : decode prog_1_method_37_code 22 = .ok (.ifCond .ne 14, 3) := by decide +kernel
theorem d_T_shortest_25 : decode prog_1_method_37_code 25 = .ok (.iload 4, 2) := by decide +kernel
theorem d_T_shortest_27 : decode prog_1_method_37_code 27 = .ok (.ifCond .lt 9, 3) := by decide +kernel
theorem d_T_shortest_30 : decode prog_1_method_37_code 30 = .ok (.iload 4, 2) := by decide +kernel
theorem d_T_shortest_32 : decode prog_1_method_37_code 32 = .ok (.iconst 1, 1) := by decide +kernel
theorem d_T_shortest_33 : decode prog_1_method_37_code 33 = .ok (.if_icmp .le 7, 3) := by decide +kernel
theorem d_T_shortest_36 : decode prog_1_method_37_code 36 = .ok (.ldc2_w 172, 3) := by decide +kernel
theorem d_T_shortest_39 : decode prog_1_method_37_code 39 = .ok (.lreturn, 1) := by decide +kernel
theorem d_T_shortest_40 : decode prog_1_method_37_code 40 = .ok (.lload_n 1, 1) := by decide +kernel
theorem d_T_shortest_41 : decode prog_1_method_37_code 41 = .ok (.iload_n 3, 1) := by decide +kernel
theorem d_T_shortest_42 : decode prog_1_method_37_code 42 = .ok (.invokestatic 296, 3) := by decide +kernel
theorem d_T_shortest_45 : decode prog_1_method_37_code 45 = .ok (.lstore 5, 2) := by decide +kernel
theorem d_T_shortest_47 : decode prog_1_method_37_code 47 = .ok (.lload 5, 2) := by decide +kernel
theorem d_T_shortest_49 : decode prog_1_method_37_code 49 = .ok (.invokestatic 158, 3) := by decide +kernel
theorem d_T_shortest_52 : decode prog_1_method_37_code 52 = .ok (.istore 7, 2) := by decide +kernel
theorem d_T_shortest_54 : decode prog_1_method_37_code 54 = .ok (.iload 4, 2) := by decide +kernel
theorem d_T_shortest_56 : decode prog_1_method_37_code 56 = .ok (.ifCond .ne 7, 3) := by decide +kernel
theorem d_T_shortest_59 : decode prog_1_method_37_code 59 = .ok (.iload 7, 2) := by decide +kernel
theorem d_T_shortest_61 : decode prog_1_method_37_code 61 = .ok (.i2l, 1) := by decide +kernel
theorem d_T_shortest_62 : decode prog_1_method_37_code 62 = .ok (.lreturn, 1) := by decide +kernel
theorem d_T_shortest_63 : decode prog_1_method_37_code 63 = .ok (.iconst 2, 1) := by decide +kernel
theorem d_T_shortest_64 : decode prog_1_method_37_code 64 = .ok (.iload 7, 2) := by decide +kernel
theorem d_T_shortest_66 : decode prog_1_method_37_code 66 = .ok (.imul, 1) := by decide +kernel
theorem d_T_shortest_67 : decode prog_1_method_37_code 67 = .ok (.iload_n 3, 1) := by decide +kernel
theorem d_T_shortest_68 : decode prog_1_method_37_code 68 = .ok (.if_icmp .le 9, 3) := by decide +kernel
theorem d_T_shortest_71 : decode prog_1_method_37_code 71 = .ok (.ldc2_w 178, 3) := by decide +kernel
theorem d_T_shortest_74 : decode prog_1_method_37_code 74 = .ok (.goto 5, 3) := by decide +kernel
theorem d_T_shortest_77 : decode prog_1_method_37_code 77 = .ok (.lload 5, 2) := by decide +kernel
theorem d_T_shortest_79 : decode prog_1_method_37_code 79 = .ok (.lreturn, 1) := by decide +kernel
def cf_T_shortest (a0 : Int64) (a1 : Int32) (a2 : Int32) (P : Int64 → Prop) : Prop :=
  ((a1 < (1 : Int32) → P (-1 : Int64)) ∧ (¬ a1 < (1 : Int32) → (((60 : Int32) < a1 → P (-1 : Int64)) ∧ (¬ (60 : Int32) < a1 → ((a0 < (0 : Int64) → P (-1 : Int64)) ∧ (¬ a0 < (0 : Int64) → ((¬ (lshr a0 a1) = (0 : Int64) → P (-1 : Int64)) ∧ ((lshr a0 a1) = (0 : Int64) → ((a2 < 0 → P (-1 : Int64)) ∧ (¬ a2 < 0 → ((a2 ≤ (1 : Int32) → cf_Shifts_shortestRule a0 a1 (fun r1 => cf_Polys_degree r1 (fun r2 => ((¬ a2 = 0 → ((((2 : Int32) * r2) ≤ a1 → P r1) ∧ (¬ ((2 : Int32) * r2) ≤ a1 → P (-2 : Int64)))) ∧ (a2 = 0 → P r2.toInt64))))) ∧ (¬ a2 ≤ (1 : Int32) → P (-1 : Int64)))))))))))))
theorem cf_T_shortest_ok {g : ayG} {d : Nat} (hd : 3 ≤ d) (a0 : Int64) (a1 : Int32) (a2 : Int32)  (w : Wd) (P : Int64 → Prop) (h : cf_T_shortest a0 a1 a2 P) : Call g y_T_shortest prog_1_method_37_code 8 (some FieldType.long) d [.ref (g.1 + 0), .long a0, .int a1, .int a2] w (fun (r : Option Value) (w2 : Wd) => ∃ x, r = some (.long x) ∧ w = w2 ∧ P x) := by
  unfold cf_T_shortest at h
  refine am_enter mi_T_shortest (Nat.le_of_ble_eq_true rfl) ?_
  have hQ : ∀ x, P x → (fun (r : Option Value) (w2 : Wd) => ∃ x, r = some (.long x) ∧ w = w2 ∧ P x) (some (.long x)) w := fun x h => ⟨x, rfl, rfl, h⟩
  generalize (fun (r : Option Value) (w2 : Wd) => ∃ x, r = some (.long x) ∧ w = w2 ∧ P x) = Q at hQ ⊢
  show wp g (fun _ => True) y_T_shortest prog_1_method_37_code 8 (some FieldType.long) d 0 [(0, .ref (g.1 + 0)), (1, .long a0), (3, .int a1), (4, .int a2)] [] w Q
  refine am_iload_n d_T_shortest_0 2 rfl ?_
  refine am_iconst (v := 1) d_T_shortest_1 rfl ?_
  refine am_icmp_lt (tgt := 36) d_T_shortest_2 (by decide) (fun c2 => ?_) (fun c2 => ?_)
  · have h := h.1 c2
    refine am_ldc2 (v := -1) d_T_shortest_36 wd_560 ?_
    exact am_lreturn d_T_shortest_39 rfl (hQ (-1 : Int64) h)
  · have h := h.2 c2
    refine am_iload_n d_T_shortest_5 2 rfl ?_
    refine am_bipush (v := 60) d_T_shortest_6 rfl ?_
    refine am_icmp_gt (tgt := 36) d_T_shortest_8 (by decide) (fun c8 => ?_) (fun c8 => ?_)
    · have h := h.1 c8
      refine am_ldc2 (v := -1) d_T_shortest_36 wd_560 ?_
      exact am_lreturn d_T_shortest_39 rfl (hQ (-1 : Int64) h)
    · have h := h.2 c8
      refine am_lload_n d_T_shortest_11 1 rfl ?_
      refine am_lconst (v := 0) d_T_shortest_12 rfl ?_
      refine am_lif_lt (tgt := 36) d_T_shortest_13 d_T_shortest_14 (by decide) (fun c13 => ?_) (fun c13 => ?_)
      · have h := h.1 c13
        refine am_ldc2 (v := -1) d_T_shortest_36 wd_560 ?_
        exact am_lreturn d_T_shortest_39 rfl (hQ (-1 : Int64) h)
      · have h := h.2 c13
        refine am_lload_n d_T_shortest_17 1 rfl ?_
        refine am_iload_n d_T_shortest_18 2 rfl ?_
        refine am_lshr d_T_shortest_19 ?_
        refine am_lconst (v := 0) d_T_shortest_20 rfl ?_
        refine am_lif_ne (tgt := 36) d_T_shortest_21 d_T_shortest_22 (by decide) (fun c21 => ?_) (fun c21 => ?_)
        · have h := h.1 c21
          refine am_ldc2 (v := -1) d_T_shortest_36 wd_560 ?_
          exact am_lreturn d_T_shortest_39 rfl (hQ (-1 : Int64) h)
        · have h := h.2 c21
          refine am_iload d_T_shortest_25 3 rfl ?_
          refine am_if_lt (tgt := 36) d_T_shortest_27 (by decide) (fun c27 => ?_) (fun c27 => ?_)
          · have h := h.1 c27
            refine am_ldc2 (v := -1) d_T_shortest_36 wd_560 ?_
            exact am_lreturn d_T_shortest_39 rfl (hQ (-1 : Int64) h)
          · have h := h.2 c27
            refine am_iload d_T_shortest_30 3 rfl ?_
            refine am_iconst (v := 1) d_T_shortest_32 rfl ?_
            refine am_icmp_le (tgt := 40) d_T_shortest_33 (by decide) (fun c33 => ?_) (fun c33 => ?_)
            · have h := h.1 c33
              refine am_lload_n d_T_shortest_40 1 rfl ?_
              refine am_iload_n d_T_shortest_41 2 rfl ?_
              refine am_callS (d2 := d - 1) [.long a0, .int a1] d_T_shortest_42 mi_Shifts_shortestRule wd_901 wd_902 (by omega) rfl rfl (Nat.le_of_ble_eq_true rfl) ?_
              refine Call.post ?_ (cf_Shifts_shortestRule_ok (by omega) a0 a1  w _ h)
              rintro _ _ ⟨r1, rfl, rfl, h⟩
              show wp g (fun _ => True) y_T_shortest prog_1_method_37_code 8 (some FieldType.long) d 45 [(0, .ref (g.1 + 0)), (1, .long a0), (3, .int a1), (4, .int a2)] [.long r1] w Q
              refine am_lstore (l' := [(5, .long r1), (0, .ref (g.1 + 0)), (1, .long a0), (3, .int a1), (4, .int a2)]) d_T_shortest_45 (by decide) rfl ?_
              refine am_lload d_T_shortest_47 0 rfl ?_
              refine am_callS (d2 := d - 1) [.long r1] d_T_shortest_49 mi_Polys_degree wd_460 wd_391 (by omega) rfl rfl (Nat.le_of_ble_eq_true rfl) ?_
              refine Call.post ?_ (cf_Polys_degree_ok (by omega) r1  w _ h)
              rintro _ _ ⟨r2, rfl, rfl, h⟩
              show wp g (fun _ => True) y_T_shortest prog_1_method_37_code 8 (some FieldType.long) d 52 [(5, .long r1), (0, .ref (g.1 + 0)), (1, .long a0), (3, .int a1), (4, .int a2)] [.int r2] w Q
              refine am_istore (l' := [(7, .int r2), (5, .long r1), (0, .ref (g.1 + 0)), (1, .long a0), (3, .int a1), (4, .int a2)]) d_T_shortest_52 (by decide) rfl ?_
              refine am_iload d_T_shortest_54 5 rfl ?_
              refine am_if_ne (tgt := 63) d_T_shortest_56 (by decide) (fun c56 => ?_) (fun c56 => ?_)
              · have h := h.1 c56
                refine am_iconst (v := 2) d_T_shortest_63 rfl ?_
                refine am_iload d_T_shortest_64 0 rfl ?_
                refine am_imul d_T_shortest_66 ?_
                refine am_iload_n d_T_shortest_67 4 rfl ?_
                refine am_icmp_le (tgt := 77) d_T_shortest_68 (by decide) (fun c68 => ?_) (fun c68 => ?_)
                · have h := h.1 c68
                  refine am_lload d_T_shortest_77 1 rfl ?_
                  exact am_lreturn d_T_shortest_79 rfl (hQ r1 h)
                · have h := h.2 c68
                  refine am_ldc2 (v := -2) d_T_shortest_71 wd_565 ?_
                  refine am_goto (tgt := 79) d_T_shortest_74 (by decide) ?_
                  exact am_lreturn d_T_shortest_79 rfl (hQ (-2 : Int64) h)
              · have h := h.2 c56
                refine am_iload d_T_shortest_59 0 rfl ?_
                refine am_i2l d_T_shortest_61 ?_
                exact am_lreturn d_T_shortest_62 rfl (hQ r2.toInt64 h)
            · have h := h.2 c33
              refine am_ldc2 (v := -1) d_T_shortest_36 wd_560 ?_
              exact am_lreturn d_T_shortest_39 rfl (hQ (-1 : Int64) h)
theorem d_T_shift_0 : decode prog_1_method_38_code 0 = .ok (.iload_n 1, 1) := by decide +kernel
theorem d_T_shift_1 : decode prog_1_method_38_code 1 = .ok (.ifCond .lt 8, 3) := by decide +kernel
theorem d_T_shift_4 : decode prog_1_method_38_code 4 = .ok (.iload_n 1, 1) := by decide +kernel
theorem d_T_shift_5 : decode prog_1_method_38_code 5 = .ok (.iconst 3, 1) := by decide +kernel
theorem d_T_shift_6 : decode prog_1_method_38_code 6 = .ok (.if_icmp .le 7, 3) := by decide +kernel
theorem d_T_shift_9 : decode prog_1_method_38_code 9 = .ok (.ldc2_w 172, 3) := by decide +kernel
theorem d_T_shift_12 : decode prog_1_method_38_code 12 = .ok (.lreturn, 1) := by decide +kernel
theorem d_T_shift_13 : decode prog_1_method_38_code 13 = .ok (.aload_n 0, 1) := by decide +kernel
theorem d_T_shift_14 : decode prog_1_method_38_code 14 = .ok (.getfield 19, 3) := by decide +kernel
theorem d_T_shift_17 : decode prog_1_method_38_code 17 = .ok (.invokevirtual 174, 3) := by decide +kernel
theorem d_T_shift_20 : decode prog_1_method_38_code 20 = .ok (.ifCond .ne 7, 3) := by decide +kernel
theorem d_T_shift_23 : decode prog_1_method_38_code 23 = .ok (.ldc2_w 178, 3) := by decide +kernel
theorem d_T_shift_26 : decode prog_1_method_38_code 26 = .ok (.lreturn, 1) := by decide +kernel
theorem d_T_shift_27 : decode prog_1_method_38_code 27 = .ok (.iload_n 1, 1) := by decide +kernel
theorem d_T_shift_28 : decode prog_1_method_38_code 28 = .ok (.tableswitch 81 0 2 #[28, 40, 48], 28) := by decide +kernel
theorem d_T_shift_56 : decode prog_1_method_38_code 56 = .ok (.aload_n 0, 1) := by decide +kernel
theorem d_T_shift_57 : decode prog_1_method_38_code 57 = .ok (.getfield 19, 3) := by decide +kernel
theorem d_T_shift_60 : decode prog_1_method_38_code 60 = .ok (.invokevirtual 184, 3) := by decide +kernel
theorem d_T_shift_63 : decode prog_1_method_38_code 63 = .ok (.invokestatic 158, 3) := by decide +kernel
theorem d_T_shift_66 : decode prog_1_method_38_code 66 = .ok (.i2l, 1) := by decide +kernel
theorem d_T_shift_67 : decode prog_1_method_38_code 67 = .ok (.lreturn, 1) := by decide +kernel
theorem d_T_shift_68 : decode prog_1_method_38_code 68 = .ok (.aload_n 0, 1) := by decide +kernel
theorem d_T_shift_69 : decode prog_1_method_38_code 69 = .ok (.getfield 19, 3) := by decide +kernel
theorem d_T_shift_72 : decode prog_1_method_38_code 72 = .ok (.invokevirtual 180, 3) := by decide +kernel
theorem d_T_shift_75 : decode prog_1_method_38_code 75 = .ok (.lreturn, 1) := by decide +kernel
theorem d_T_shift_76 : decode prog_1_method_38_code 76 = .ok (.aload_n 0, 1) := by decide +kernel
theorem d_T_shift_77 : decode prog_1_method_38_code 77 = .ok (.getfield 36, 3) := by decide +kernel
theorem d_T_shift_80 : decode prog_1_method_38_code 80 = .ok (.aload_n 0, 1) := by decide +kernel
theorem d_T_shift_81 : decode prog_1_method_38_code 81 = .ok (.getfield 19, 3) := by decide +kernel
theorem d_T_shift_84 : decode prog_1_method_38_code 84 = .ok (.invokevirtual 184, 3) := by decide +kernel
theorem d_T_shift_87 : decode prog_1_method_38_code 87 = .ok (.aload_n 0, 1) := by decide +kernel
theorem d_T_shift_88 : decode prog_1_method_38_code 88 = .ok (.getfield 19, 3) := by decide +kernel
theorem d_T_shift_91 : decode prog_1_method_38_code 91 = .ok (.invokevirtual 180, 3) := by decide +kernel
theorem d_T_shift_94 : decode prog_1_method_38_code 94 = .ok (.aload_n 0, 1) := by decide +kernel
theorem d_T_shift_95 : decode prog_1_method_38_code 95 = .ok (.aload_n 0, 1) := by decide +kernel
theorem d_T_shift_96 : decode prog_1_method_38_code 96 = .ok (.getfield 19, 3) := by decide +kernel
theorem d_T_shift_99 : decode prog_1_method_38_code 99 = .ok (.invokevirtual 184, 3) := by decide +kernel
theorem d_T_shift_102 : decode prog_1_method_38_code 102 = .ok (.invokevirtual 244, 3) := by decide +kernel
theorem d_T_shift_105 : decode prog_1_method_38_code 105 = .ok (.invokevirtual 299, 3) := by decide +kernel
theorem d_T_shift_108 : decode prog_1_method_38_code 108 = .ok (.lreturn, 1) := by decide +kernel
theorem d_T_shift_109 : decode prog_1_method_38_code 109 = .ok (.aload_n 0, 1) := by decide +kernel
theorem d_T_shift_110 : decode prog_1_method_38_code 110 = .ok (.getfield 19, 3) := by decide +kernel
theorem d_T_shift_113 : decode prog_1_method_38_code 113 = .ok (.invokevirtual 302, 3) := by decide +kernel
theorem d_T_shift_116 : decode prog_1_method_38_code 116 = .ok (.lreturn, 1) := by decide +kernel
def cf_T_shift (a0 : Int32) (w : Wd) (P : Int64 → Wd → Prop) : Prop :=
  ((a0 < 0 → P (-1 : Int64) w) ∧ (¬ a0 < 0 → ((a0 ≤ (3 : Int32) → cf_Store_hasRegister  w (fun r1 => ((¬ r1 = 0 → ((a0 = 0 → cf_Store_rule  w (fun r2 => cf_Polys_degree r2 (fun r3 => P r3.toInt64 w))) ∧ (a0 = 1 → cf_Store_state  w (fun r4 => P r4 w)) ∧ (a0 = 2 → cf_Store_rule  w (fun r5 => cf_Store_state  w (fun r6 => cf_Store_rule  w (fun r7 => cf_T_orderOf r7 w (fun r8 w9 => cf_Orders_period 18 r5 r6 r8 w9 (fun r10 w11 => P r10 w11)))))) ∧ ((a0.toInt < 0 ∨ 2 < a0.toInt) → cf_Store_gone  w (fun r12 => P r12 w)))) ∧ (r1 = 0 → P (-2 : Int64) w)))) ∧ (¬ a0 ≤ (3 : Int32) → P (-1 : Int64) w))))
theorem cf_T_shift_ok {g : ayG} {d : Nat} (hd : 8 ≤ d) (a0 : Int32)  (w : Wd) (P : Int64 → Wd → Prop) (h : cf_T_shift a0 w P) : Call g y_T_shift prog_1_method_38_code 2 (some FieldType.long) d [.ref (g.1 + 0), .int a0] w (fun (r : Option Value) (w2 : Wd) => ∃ x, r = some (.long x) ∧ P x w2) := by
  unfold cf_T_shift at h
  refine am_enter mi_T_shift (Nat.le_of_ble_eq_true rfl) ?_
  have hQ : ∀ x w2, P x w2 → (fun (r : Option Value) (w2 : Wd) => ∃ x, r = some (.long x) ∧ P x w2) (some (.long x)) w2 := fun x w2 h => ⟨x, rfl, h⟩
  generalize (fun (r : Option Value) (w2 : Wd) => ∃ x, r = some (.long x) ∧ P x w2) = Q at hQ ⊢
  show wp g (fun _ => True) y_T_shift prog_1_method_38_code 2 (some FieldType.long) d 0 [(0, .ref (g.1 + 0)), (1, .int a0)] [] w Q
  refine am_iload_n d_T_shift_0 1 rfl ?_
  refine am_if_lt (tgt := 9) d_T_shift_1 (by decide) (fun c1 => ?_) (fun c1 => ?_)
  · have h := h.1 c1
    refine am_ldc2 (v := -1) d_T_shift_9 wd_560 ?_
    exact am_lreturn d_T_shift_12 rfl (hQ (-1 : Int64) w h)
  · have h := h.2 c1
    refine am_iload_n d_T_shift_4 1 rfl ?_
    refine am_iconst (v := 3) d_T_shift_5 rfl ?_
    refine am_icmp_le (tgt := 13) d_T_shift_6 (by decide) (fun c6 => ?_) (fun c6 => ?_)
    · have h := h.1 c6
      refine am_aload_n d_T_shift_13 0 rfl ?_
      refine am_getf (T := F_T) (fs := ob_T g w 0) (C := R_T) (N := 9) (ci := 0) 1 d_T_shift_14 wd_195 rfl (by decide) (el_T (show ay_sh 0 = _ from rfl)) rfl i_T (by decide) rfl ?_
      refine am_callV (C := "TriSplits$Store") (d2 := d - 1) [] d_T_shift_17 mi_Store_hasRegister wd_561 wd_562 wd_563 (by decide) (el_Store (show ay_sh 6 = _ from rfl)) rfl rfl (by omega) rfl rfl (Nat.le_of_ble_eq_true rfl) ?_
      refine Call.post ?_ (cf_Store_hasRegister_ok (by omega)   w _ h)
      rintro _ _ ⟨r1, rfl, rfl, h⟩
      show wp g (fun _ => True) y_T_shift prog_1_method_38_code 2 (some FieldType.long) d 20 [(0, .ref (g.1 + 0)), (1, .int a0)] [.int r1] w Q
      refine am_if_ne (tgt := 27) d_T_shift_20 (by decide) (fun c20 => ?_) (fun c20 => ?_)
      · have h := h.1 c20
        refine am_iload_n d_T_shift_27 1 rfl ?_
        refine am_switch d_T_shift_28 (by decide) (fun tgt ht hx => ?_) ⟨109, by decide⟩ (fun i off ho hx => ?_)
        · have h := h.2.2.2 hx
          obtain rfl : tgt = 109 := by omega
          refine am_aload_n d_T_shift_109 0 rfl ?_
          refine am_getf (T := F_T) (fs := ob_T g w 0) (C := R_T) (N := 9) (ci := 0) 1 d_T_shift_110 wd_195 rfl (by decide) (el_T (show ay_sh 0 = _ from rfl)) rfl i_T (by decide) rfl ?_
          refine am_callV (C := "TriSplits$Store") (d2 := d - 1) [] d_T_shift_113 mi_Store_gone wd_916 wd_917 wd_918 (by decide) (el_Store (show ay_sh 6 = _ from rfl)) rfl rfl (by omega) rfl rfl (Nat.le_of_ble_eq_true rfl) ?_
          refine Call.post ?_ (cf_Store_gone_ok (by omega)   w _ h)
          rintro _ _ ⟨r12, rfl, rfl, h⟩
          show wp g (fun _ => True) y_T_shift prog_1_method_38_code 2 (some FieldType.long) d 116 [(0, .ref (g.1 + 0)), (1, .int a0)] [.long r12] w Q
          exact am_lreturn d_T_shift_116 rfl (hQ r12 w h)
        · have hi : i < 3 := (Array.getElem?_eq_some_iff.mp ho).1
          match i, hi, ho, hx with
          | 0, _, ho, hx =>
            refine ⟨56, ?_, ?_⟩
            · have e := Option.some.inj ho; rw [← e]; decide
            · have h := h.1 (Int32.toInt_inj.mp (by rw [hx]; decide))
              refine am_aload_n d_T_shift_56 0 rfl ?_
              refine am_getf (T := F_T) (fs := ob_T g w 0) (C := R_T) (N := 9) (ci := 0) 1 d_T_shift_57 wd_195 rfl (by decide) (el_T (show ay_sh 0 = _ from rfl)) rfl i_T (by decide) rfl ?_
              refine am_callV (C := "TriSplits$Store") (d2 := d - 1) [] d_T_shift_60 mi_Store_rule wd_570 wd_571 wd_572 (by decide) (el_Store (show ay_sh 6 = _ from rfl)) rfl rfl (by omega) rfl rfl (Nat.le_of_ble_eq_true rfl) ?_
              refine Call.post ?_ (cf_Store_rule_ok (by omega)   w _ h)
              rintro _ _ ⟨r2, rfl, rfl, h⟩
              show wp g (fun _ => True) y_T_shift prog_1_method_38_code 2 (some FieldType.long) d 63 [(0, .ref (g.1 + 0)), (1, .int a0)] [.long r2] w Q
              refine am_callS (d2 := d - 1) [.long r2] d_T_shift_63 mi_Polys_degree wd_460 wd_391 (by omega) rfl rfl (Nat.le_of_ble_eq_true rfl) ?_
              refine Call.post ?_ (cf_Polys_degree_ok (by omega) r2  w _ h)
              rintro _ _ ⟨r3, rfl, rfl, h⟩
              show wp g (fun _ => True) y_T_shift prog_1_method_38_code 2 (some FieldType.long) d 66 [(0, .ref (g.1 + 0)), (1, .int a0)] [.int r3] w Q
              refine am_i2l d_T_shift_66 ?_
              exact am_lreturn d_T_shift_67 rfl (hQ r3.toInt64 w h)
          | 1, _, ho, hx =>
            refine ⟨68, ?_, ?_⟩
            · have e := Option.some.inj ho; rw [← e]; decide
            · have h := h.2.1 (Int32.toInt_inj.mp (by rw [hx]; decide))
              refine am_aload_n d_T_shift_68 0 rfl ?_
              refine am_getf (T := F_T) (fs := ob_T g w 0) (C := R_T) (N := 9) (ci := 0) 1 d_T_shift_69 wd_195 rfl (by decide) (el_T (show ay_sh 0 = _ from rfl)) rfl i_T (by decide) rfl ?_
              refine am_callV (C := "TriSplits$Store") (d2 := d - 1) [] d_T_shift_72 mi_Store_state wd_566 wd_567 wd_568 (by decide) (el_Store (show ay_sh 6 = _ from rfl)) rfl rfl (by omega) rfl rfl (Nat.le_of_ble_eq_true rfl) ?_
              refine Call.post ?_ (cf_Store_state_ok (by omega)   w _ h)
              rintro _ _ ⟨r4, rfl, rfl, h⟩
              show wp g (fun _ => True) y_T_shift prog_1_method_38_code 2 (some FieldType.long) d 75 [(0, .ref (g.1 + 0)), (1, .int a0)] [.long r4] w Q
              exact am_lreturn d_T_shift_75 rfl (hQ r4 w h)
          | 2, _, ho, hx =>
            refine ⟨76, ?_, ?_⟩
            · have e := Option.some.inj ho; rw [← e]; decide
            · have h := h.2.2.1 (Int32.toInt_inj.mp (by rw [hx]; decide))
              refine am_aload_n d_T_shift_76 0 rfl ?_
              refine am_getf (T := F_T) (fs := ob_T g w 0) (C := R_T) (N := 9) (ci := 0) 4 d_T_shift_77 wd_198 rfl (by decide) (el_T (show ay_sh 0 = _ from rfl)) rfl i_T (by decide) rfl ?_
              refine am_aload_n d_T_shift_80 0 rfl ?_
              refine am_getf (T := F_T) (fs := ob_T g w 0) (C := R_T) (N := 9) (ci := 0) 1 d_T_shift_81 wd_195 rfl (by decide) (el_T (show ay_sh 0 = _ from rfl)) rfl i_T (by decide) rfl ?_
              refine am_callV (C := "TriSplits$Store") (d2 := d - 1) [] d_T_shift_84 mi_Store_rule wd_570 wd_571 wd_572 (by decide) (el_Store (show ay_sh 6 = _ from rfl)) rfl rfl (by omega) rfl rfl (Nat.le_of_ble_eq_true rfl) ?_
              refine Call.post ?_ (cf_Store_rule_ok (by omega)   w _ h)
              rintro _ _ ⟨r5, rfl, rfl, h⟩
              show wp g (fun _ => True) y_T_shift prog_1_method_38_code 2 (some FieldType.long) d 87 [(0, .ref (g.1 + 0)), (1, .int a0)] [.long r5, .ref (g.1 + 18)] w Q
              refine am_aload_n d_T_shift_87 0 rfl ?_
              refine am_getf (T := F_T) (fs := ob_T g w 0) (C := R_T) (N := 9) (ci := 0) 1 d_T_shift_88 wd_195 rfl (by decide) (el_T (show ay_sh 0 = _ from rfl)) rfl i_T (by decide) rfl ?_
              refine am_callV (C := "TriSplits$Store") (d2 := d - 1) [] d_T_shift_91 mi_Store_state wd_566 wd_567 wd_568 (by decide) (el_Store (show ay_sh 6 = _ from rfl)) rfl rfl (by omega) rfl rfl (Nat.le_of_ble_eq_true rfl) ?_
              refine Call.post ?_ (cf_Store_state_ok (by omega)   w _ h)
              rintro _ _ ⟨r6, rfl, rfl, h⟩
              show wp g (fun _ => True) y_T_shift prog_1_method_38_code 2 (some FieldType.long) d 94 [(0, .ref (g.1 + 0)), (1, .int a0)] [.long r6, .long r5, .ref (g.1 + 18)] w Q
              refine am_aload_n d_T_shift_94 0 rfl ?_
              refine am_aload_n d_T_shift_95 0 rfl ?_
              refine am_getf (T := F_T) (fs := ob_T g w 0) (C := R_T) (N := 9) (ci := 0) 1 d_T_shift_96 wd_195 rfl (by decide) (el_T (show ay_sh 0 = _ from rfl)) rfl i_T (by decide) rfl ?_
              refine am_callV (C := "TriSplits$Store") (d2 := d - 1) [] d_T_shift_99 mi_Store_rule wd_570 wd_571 wd_572 (by decide) (el_Store (show ay_sh 6 = _ from rfl)) rfl rfl (by omega) rfl rfl (Nat.le_of_ble_eq_true rfl) ?_
              refine Call.post ?_ (cf_Store_rule_ok (by omega)   w _ h)
              rintro _ _ ⟨r7, rfl, rfl, h⟩
              show wp g (fun _ => True) y_T_shift prog_1_method_38_code 2 (some FieldType.long) d 102 [(0, .ref (g.1 + 0)), (1, .int a0)] [.long r7, .ref (g.1 + 0), .long r6, .long r5, .ref (g.1 + 18)] w Q
              refine am_callV (C := y_T_orderOf.cls) (d2 := d - 1) [.long r7] d_T_shift_102 mi_T_orderOf wd_749 wd_751 ws_T_orderOf (by decide) (el_T (show ay_sh 0 = _ from rfl)) rfl rfl (by omega) rfl rfl (Nat.le_of_ble_eq_true rfl) ?_
              refine Call.post ?_ (cf_T_orderOf_ok (by omega) r7  w _ h)
              rintro _ w9 ⟨r8, rfl, h⟩
              show wp g (fun _ => True) y_T_shift prog_1_method_38_code 2 (some FieldType.long) d 105 [(0, .ref (g.1 + 0)), (1, .int a0)] [.long r8, .long r6, .long r5, .ref (g.1 + 18)] w9 Q
              refine am_callV (C := "TriSplits$Orders") (d2 := d - 1) [.long r5, .long r6, .long r8] d_T_shift_105 mi_Orders_period wd_911 wd_912 wd_913 (by decide) (el_Orders (show ay_sh 18 = _ from rfl)) rfl rfl (by omega) rfl rfl (Nat.le_of_ble_eq_true rfl) ?_
              refine Call.post ?_ (cf_Orders_period_ok (by omega) 18 r5 r6 r8 (show ay_sh 18 = _ from rfl) w9 _ h)
              rintro _ w11 ⟨r10, rfl, h⟩
              show wp g (fun _ => True) y_T_shift prog_1_method_38_code 2 (some FieldType.long) d 108 [(0, .ref (g.1 + 0)), (1, .int a0)] [.long r10] w11 Q
              exact am_lreturn d_T_shift_108 rfl (hQ r10 w11 h)
          | n + 3, hi, _, _ => exact absurd hi (by omega)
      · have h := h.2 c20
        refine am_ldc2 (v := -2) d_T_shift_23 wd_565 ?_
        exact am_lreturn d_T_shift_26 rfl (hQ (-2 : Int64) w h)
    · have h := h.2 c6
      refine am_ldc2 (v := -1) d_T_shift_9 wd_560 ?_
      exact am_lreturn d_T_shift_12 rfl (hQ (-1 : Int64) w h)
theorem d_T_trinomial_0 : decode prog_1_method_39_code 0 = .ok (.iload_n 1, 1) := by decide +kernel
theorem d_T_trinomial_1 : decode prog_1_method_39_code 1 = .ok (.iconst 2, 1) := by decide +kernel
theorem d_T_trinomial_2 : decode prog_1_method_39_code 2 = .ok (.if_icmp .lt 14, 3) := by decide +kernel
theorem d_T_trinomial_5 : decode prog_1_method_39_code 5 = .ok (.iload_n 1, 1) := by decide +kernel
theorem d_T_trinomial_6 : decode prog_1_method_39_code 6 = .ok (.bipush 24, 2) := by decide +kernel
theorem d_T_trinomial_8 : decode prog_1_method_39_code 8 = .ok (.if_icmp .gt 8, 3) := by decide +kernel
theorem d_T_trinomial_11 : decode prog_1_method_39_code 11 = .ok (.iload_n 3, 1) := by decide +kernel
theorem d_T_trinomial_12 : decode prog_1_method_39_code 12 = .ok (.iconst (-1), 1) := by decide +kernel
theorem d_T_trinomial_13 : decode prog_1_method_39_code 13 = .ok (.if_icmp .ge 5, 3) := by decide +kernel
theorem d_T_trinomial_16 : decode prog_1_method_39_code 16 = .ok (.iconst (-1), 1) := by decide +kernel
theorem d_T_trinomial_17 : decode prog_1_method_39_code 17 = .ok (.ireturn, 1) := by decide +kernel
theorem d_T_trinomial_18 : decode prog_1_method_39_code 18 = .ok (.iload_n 3, 1) := by decide +kernel
theorem d_T_trinomial_19 : decode prog_1_method_39_code 19 = .ok (.iconst (-1), 1) := by decide +kernel
theorem d_T_trinomial_20 : decode prog_1_method_39_code 20 = .ok (.if_icmp .ne 13, 3) := by decide +kernel
theorem d_T_trinomial_23 : decode prog_1_method_39_code 23 = .ok (.aload_n 0, 1) := by decide +kernel
theorem d_T_trinomial_24 : decode prog_1_method_39_code 24 = .ok (.getfield 43, 3) := by decide +kernel
theorem d_T_trinomial_27 : decode prog_1_method_39_code 27 = .ok (.iload_n 1, 1) := by decide +kernel
theorem d_T_trinomial_28 : decode prog_1_method_39_code 28 = .ok (.iload_n 2, 1) := by decide +kernel
theorem d_T_trinomial_29 : decode prog_1_method_39_code 29 = .ok (.invokevirtual 305, 3) := by decide +kernel
theorem d_T_trinomial_32 : decode prog_1_method_39_code 32 = .ok (.ireturn, 1) := by decide +kernel
theorem d_T_trinomial_33 : decode prog_1_method_39_code 33 = .ok (.aload_n 0, 1) := by decide +kernel
theorem d_T_trinomial_34 : decode prog_1_method_39_code 34 = .ok (.getfield 43, 3) := by decide +kernel
theorem d_T_trinomial_37 : decode prog_1_method_39_code 37 = .ok (.iload_n 1, 1) := by decide +kernel
theorem d_T_trinomial_38 : decode prog_1_method_39_code 38 = .ok (.iload_n 2, 1) := by decide +kernel
theorem d_T_trinomial_39 : decode prog_1_method_39_code 39 = .ok (.iload_n 3, 1) := by decide +kernel
theorem d_T_trinomial_40 : decode prog_1_method_39_code 40 = .ok (.invokevirtual 309, 3) := by decide +kernel
theorem d_T_trinomial_43 : decode prog_1_method_39_code 43 = .ok (.istore 4, 2) := by decide +kernel
theorem d_T_trinomial_45 : decode prog_1_method_39_code 45 = .ok (.iload 4, 2) := by decide +kernel
theorem d_T_trinomial_47 : decode prog_1_method_39_code 47 = .ok (.ifCond .ne 8, 3) := by decide +kernel
theorem d_T_trinomial_50 : decode prog_1_method_39_code 50 = .ok (.bipush (-2), 2) := by decide +kernel
theorem d_T_trinomial_52 : decode prog_1_method_39_code 52 = .ok (.goto 5, 3) := by decide +kernel
theorem d_T_trinomial_55 : decode prog_1_method_39_code 55 = .ok (.iload 4, 2) := by decide +kernel
theorem d_T_trinomial_57 : decode prog_1_method_39_code 57 = .ok (.ireturn, 1) := by decide +kernel
def cf_T_trinomial (a0 : Int32) (a1 : Int32) (a2 : Int32) (w : Wd) (P : Int32 → Wd → Prop) : Prop :=
  ((a0 < (2 : Int32) → P (-1 : Int32) w) ∧ (¬ a0 < (2 : Int32) → (((24 : Int32) < a0 → P (-1 : Int32) w) ∧ (¬ (24 : Int32) < a0 → (((-1 : Int32) ≤ a2 → ((¬ a2 = (-1 : Int32) → cf_Families_triAt a0 a1 a2 w (fun r1 w2 => ((¬ r1 = 0 → P r1 w2) ∧ (r1 = 0 → P (-2 : Int32) w2)))) ∧ (a2 = (-1 : Int32) → cf_Families_countTris a0 a1 w (fun r3 w4 => P r3 w4)))) ∧ (¬ (-1 : Int32) ≤ a2 → P (-1 : Int32) w))))))
theorem cf_T_trinomial_ok {g : ayG} {d : Nat} (hd : 7 ≤ d) (a0 : Int32) (a1 : Int32) (a2 : Int32)  (w : Wd) (P : Int32 → Wd → Prop) (h : cf_T_trinomial a0 a1 a2 w P) : Call g y_T_trinomial prog_1_method_39_code 5 (some FieldType.int) d [.ref (g.1 + 0), .int a0, .int a1, .int a2] w (fun (r : Option Value) (w2 : Wd) => ∃ x, r = some (.int x) ∧ P x w2) := by
  unfold cf_T_trinomial at h
  refine am_enter mi_T_trinomial (Nat.le_of_ble_eq_true rfl) ?_
  have hQ : ∀ x w2, P x w2 → (fun (r : Option Value) (w2 : Wd) => ∃ x, r = some (.int x) ∧ P x w2) (some (.int x)) w2 := fun x w2 h => ⟨x, rfl, h⟩
  generalize (fun (r : Option Value) (w2 : Wd) => ∃ x, r = some (.int x) ∧ P x w2) = Q at hQ ⊢
  show wp g (fun _ => True) y_T_trinomial prog_1_method_39_code 5 (some FieldType.int) d 0 [(0, .ref (g.1 + 0)), (1, .int a0), (2, .int a1), (3, .int a2)] [] w Q
  refine am_iload_n d_T_trinomial_0 1 rfl ?_
  refine am_iconst (v := 2) d_T_trinomial_1 rfl ?_
  refine am_icmp_lt (tgt := 16) d_T_trinomial_2 (by decide) (fun c2 => ?_) (fun c2 => ?_)
  · have h := h.1 c2
    refine am_iconst (v := -1) d_T_trinomial_16 rfl ?_
    exact am_ireturn d_T_trinomial_17 rfl rfl (hQ (-1 : Int32) w h)
  · have h := h.2 c2
    refine am_iload_n d_T_trinomial_5 1 rfl ?_
    refine am_bipush (v := 24) d_T_trinomial_6 rfl ?_
    refine am_icmp_gt (tgt := 16) d_T_trinomial_8 (by decide) (fun c8 => ?_) (fun c8 => ?_)
    · have h := h.1 c8
      refine am_iconst (v := -1) d_T_trinomial_16 rfl ?_
      exact am_ireturn d_T_trinomial_17 rfl rfl (hQ (-1 : Int32) w h)
    · have h := h.2 c8
      refine am_iload_n d_T_trinomial_11 3 rfl ?_
      refine am_iconst (v := -1) d_T_trinomial_12 rfl ?_
      refine am_icmp_ge (tgt := 18) d_T_trinomial_13 (by decide) (fun c13 => ?_) (fun c13 => ?_)
      · have h := h.1 c13
        refine am_iload_n d_T_trinomial_18 3 rfl ?_
        refine am_iconst (v := -1) d_T_trinomial_19 rfl ?_
        refine am_icmp_ne (tgt := 33) d_T_trinomial_20 (by decide) (fun c20 => ?_) (fun c20 => ?_)
        · have h := h.1 c20
          refine am_aload_n d_T_trinomial_33 0 rfl ?_
          refine am_getf (T := F_T) (fs := ob_T g w 0) (C := R_T) (N := 9) (ci := 0) 5 d_T_trinomial_34 wd_199 rfl (by decide) (el_T (show ay_sh 0 = _ from rfl)) rfl i_T (by decide) rfl ?_
          refine am_iload_n d_T_trinomial_37 1 rfl ?_
          refine am_iload_n d_T_trinomial_38 2 rfl ?_
          refine am_iload_n d_T_trinomial_39 3 rfl ?_
          refine am_callV (C := "TriSplits$Families") (d2 := d - 1) [.int a0, .int a1, .int a2] d_T_trinomial_40 mi_Families_triAt wd_930 wd_931 wd_932 (by decide) (el_Families (show ay_sh 20 = _ from rfl)) rfl rfl (by omega) rfl rfl (Nat.le_of_ble_eq_true rfl) ?_
          refine Call.post ?_ (cf_Families_triAt_ok (by omega) a0 a1 a2  w _ h)
          rintro _ w2 ⟨r1, rfl, h⟩
          show wp g (fun _ => True) y_T_trinomial prog_1_method_39_code 5 (some FieldType.int) d 43 [(0, .ref (g.1 + 0)), (1, .int a0), (2, .int a1), (3, .int a2)] [.int r1] w2 Q
          refine am_istore (l' := [(4, .int r1), (0, .ref (g.1 + 0)), (1, .int a0), (2, .int a1), (3, .int a2)]) d_T_trinomial_43 (by decide) rfl ?_
          refine am_iload d_T_trinomial_45 0 rfl ?_
          refine am_if_ne (tgt := 55) d_T_trinomial_47 (by decide) (fun c47 => ?_) (fun c47 => ?_)
          · have h := h.1 c47
            refine am_iload d_T_trinomial_55 0 rfl ?_
            exact am_ireturn d_T_trinomial_57 rfl rfl (hQ r1 w2 h)
          · have h := h.2 c47
            refine am_bipush (v := -2) d_T_trinomial_50 rfl ?_
            refine am_goto (tgt := 57) d_T_trinomial_52 (by decide) ?_
            exact am_ireturn d_T_trinomial_57 rfl rfl (hQ (-2 : Int32) w2 h)
        · have h := h.2 c20
          refine am_aload_n d_T_trinomial_23 0 rfl ?_
          refine am_getf (T := F_T) (fs := ob_T g w 0) (C := R_T) (N := 9) (ci := 0) 5 d_T_trinomial_24 wd_199 rfl (by decide) (el_T (show ay_sh 0 = _ from rfl)) rfl i_T (by decide) rfl ?_
          refine am_iload_n d_T_trinomial_27 1 rfl ?_
          refine am_iload_n d_T_trinomial_28 2 rfl ?_
          refine am_callV (C := "TriSplits$Families") (d2 := d - 1) [.int a0, .int a1] d_T_trinomial_29 mi_Families_countTris wd_924 wd_925 wd_926 (by decide) (el_Families (show ay_sh 20 = _ from rfl)) rfl rfl (by omega) rfl rfl (Nat.le_of_ble_eq_true rfl) ?_
          refine Call.post ?_ (cf_Families_countTris_ok (by omega) a0 a1  w _ h)
          rintro _ w4 ⟨r3, rfl, h⟩
          show wp g (fun _ => True) y_T_trinomial prog_1_method_39_code 5 (some FieldType.int) d 32 [(0, .ref (g.1 + 0)), (1, .int a0), (2, .int a1), (3, .int a2)] [.int r3] w4 Q
          exact am_ireturn d_T_trinomial_32 rfl rfl (hQ r3 w4 h)
      · have h := h.2 c13
        refine am_iconst (v := -1) d_T_trinomial_16 rfl ?_
        exact am_ireturn d_T_trinomial_17 rfl rfl (hQ (-1 : Int32) w h)
theorem d_T_least_0 : decode prog_1_method_40_code 0 = .ok (.iload_n 1, 1) := by decide +kernel
theorem d_T_least_1 : decode prog_1_method_40_code 1 = .ok (.iconst 1, 1) := by decide +kernel
theorem d_T_least_2 : decode prog_1_method_40_code 2 = .ok (.if_icmp .lt 9, 3) := by decide +kernel
theorem d_T_least_5 : decode prog_1_method_40_code 5 = .ok (.iload_n 1, 1) := by decide +kernel
theorem d_T_least_6 : decode prog_1_method_40_code 6 = .ok (.bipush 20, 2) := by decide +kernel
theorem d_T_least_8 : decode prog_1_method_40_code 8 = .ok (.if_icmp .le 7, 3) := by decide +kernel
theorem d_T_least_11 : decode prog_1_method_40_code 11 = .ok (.ldc2_w 172, 3) := by decide +kernel
theorem d_T_least_14 : decode prog_1_method_40_code 14 = .ok (.lreturn, 1) := by decide +kernel
theorem d_T_least_15 : decode prog_1_method_40_code 15 = .ok (.aload_n 0, 1) := by decide +kernel
theorem d_T_least_16 : decode prog_1_method_40_code 16 = .ok (.getfield 43, 3) := by decide +kernel
theorem d_T_least_19 : decode prog_1_method_40_code 19 = .ok (.iload_n 1, 1) := by decide +kernel
theorem d_T_least_20 : decode prog_1_method_40_code 20 = .ok (.iload_n 2, 1) := by decide +kernel
theorem d_T_least_21 : decode prog_1_method_40_code 21 = .ok (.invokevirtual 313, 3) := by decide +kernel
theorem d_T_least_24 : decode prog_1_method_40_code 24 = .ok (.lreturn, 1) := by decide +kernel
def cf_T_least (a0 : Int32) (a1 : Int32) (w : Wd) (P : Int64 → Wd → Prop) : Prop :=
  ((a0 < (1 : Int32) → P (-1 : Int64) w) ∧ (¬ a0 < (1 : Int32) → ((a0 ≤ (20 : Int32) → cf_Families_lightest a0 a1 w (fun r1 w2 => P r1 w2)) ∧ (¬ a0 ≤ (20 : Int32) → P (-1 : Int64) w))))
theorem cf_T_least_ok {g : ayG} {d : Nat} (hd : 8 ≤ d) (a0 : Int32) (a1 : Int32)  (w : Wd) (P : Int64 → Wd → Prop) (h : cf_T_least a0 a1 w P) : Call g y_T_least prog_1_method_40_code 3 (some FieldType.long) d [.ref (g.1 + 0), .int a0, .int a1] w (fun (r : Option Value) (w2 : Wd) => ∃ x, r = some (.long x) ∧ P x w2) := by
  unfold cf_T_least at h
  refine am_enter mi_T_least (Nat.le_of_ble_eq_true rfl) ?_
  have hQ : ∀ x w2, P x w2 → (fun (r : Option Value) (w2 : Wd) => ∃ x, r = some (.long x) ∧ P x w2) (some (.long x)) w2 := fun x w2 h => ⟨x, rfl, h⟩
  generalize (fun (r : Option Value) (w2 : Wd) => ∃ x, r = some (.long x) ∧ P x w2) = Q at hQ ⊢
  show wp g (fun _ => True) y_T_least prog_1_method_40_code 3 (some FieldType.long) d 0 [(0, .ref (g.1 + 0)), (1, .int a0), (2, .int a1)] [] w Q
  refine am_iload_n d_T_least_0 1 rfl ?_
  refine am_iconst (v := 1) d_T_least_1 rfl ?_
  refine am_icmp_lt (tgt := 11) d_T_least_2 (by decide) (fun c2 => ?_) (fun c2 => ?_)
  · have h := h.1 c2
    refine am_ldc2 (v := -1) d_T_least_11 wd_560 ?_
    exact am_lreturn d_T_least_14 rfl (hQ (-1 : Int64) w h)
  · have h := h.2 c2
    refine am_iload_n d_T_least_5 1 rfl ?_
    refine am_bipush (v := 20) d_T_least_6 rfl ?_
    refine am_icmp_le (tgt := 15) d_T_least_8 (by decide) (fun c8 => ?_) (fun c8 => ?_)
    · have h := h.1 c8
      refine am_aload_n d_T_least_15 0 rfl ?_
      refine am_getf (T := F_T) (fs := ob_T g w 0) (C := R_T) (N := 9) (ci := 0) 5 d_T_least_16 wd_199 rfl (by decide) (el_T (show ay_sh 0 = _ from rfl)) rfl i_T (by decide) rfl ?_
      refine am_iload_n d_T_least_19 1 rfl ?_
      refine am_iload_n d_T_least_20 2 rfl ?_
      refine am_callV (C := "TriSplits$Families") (d2 := d - 1) [.int a0, .int a1] d_T_least_21 mi_Families_lightest wd_938 wd_939 wd_940 (by decide) (el_Families (show ay_sh 20 = _ from rfl)) rfl rfl (by omega) rfl rfl (Nat.le_of_ble_eq_true rfl) ?_
      refine Call.post ?_ (cf_Families_lightest_ok (by omega) a0 a1  w _ h)
      rintro _ w2 ⟨r1, rfl, h⟩
      show wp g (fun _ => True) y_T_least prog_1_method_40_code 3 (some FieldType.long) d 24 [(0, .ref (g.1 + 0)), (1, .int a0), (2, .int a1)] [.long r1] w2 Q
      exact am_lreturn d_T_least_24 rfl (hQ r1 w2 h)
    · have h := h.2 c8
      refine am_ldc2 (v := -1) d_T_least_11 wd_560 ?_
      exact am_lreturn d_T_least_14 rfl (hQ (-1 : Int64) w h)
theorem d_T_many_0 : decode prog_1_method_41_code 0 = .ok (.iload_n 1, 1) := by decide +kernel
theorem d_T_many_1 : decode prog_1_method_41_code 1 = .ok (.iconst 1, 1) := by decide +kernel
theorem d_T_many_2 : decode prog_1_method_41_code 2 = .ok (.if_icmp .lt 9, 3) := by decide +kernel
theorem d_T_many_5 : decode prog_1_method_41_code 5 = .ok (.iload_n 1, 1) := by decide +kernel
theorem d_T_many_6 : decode prog_1_method_41_code 6 = .ok (.bipush 31, 2) := by decide +kernel
theorem d_T_many_8 : decode prog_1_method_41_code 8 = .ok (.if_icmp .le 7, 3) := by decide +kernel
theorem d_T_many_11 : decode prog_1_method_41_code 11 = .ok (.ldc2_w 172, 3) := by decide +kernel
theorem d_T_many_14 : decode prog_1_method_41_code 14 = .ok (.lreturn, 1) := by decide +kernel
theorem d_T_many_15 : decode prog_1_method_41_code 15 = .ok (.iload_n 2, 1) := by decide +kernel
theorem d_T_many_16 : decode prog_1_method_41_code 16 = .ok (.ifCond .eq 14, 3) := by decide +kernel
theorem d_T_many_19 : decode prog_1_method_41_code 19 = .ok (.aload_n 0, 1) := by decide +kernel
theorem d_T_many_20 : decode prog_1_method_41_code 20 = .ok (.getfield 36, 3) := by decide +kernel
theorem d_T_many_23 : decode prog_1_method_41_code 23 = .ok (.iload_n 1, 1) := by decide +kernel
theorem d_T_many_24 : decode prog_1_method_41_code 24 = .ok (.invokevirtual 317, 3) := by decide +kernel
theorem d_T_many_27 : decode prog_1_method_41_code 27 = .ok (.goto 7, 3) := by decide +kernel
theorem d_T_many_30 : decode prog_1_method_41_code 30 = .ok (.iload_n 1, 1) := by decide +kernel
theorem d_T_many_31 : decode prog_1_method_41_code 31 = .ok (.invokestatic 320, 3) := by decide +kernel
theorem d_T_many_34 : decode prog_1_method_41_code 34 = .ok (.lreturn, 1) := by decide +kernel
def cf_T_many (a0 : Int32) (a1 : Int32) (w : Wd) (P : Int64 → Wd → Prop) : Prop :=
  ((a0 < (1 : Int32) → P (-1 : Int64) w) ∧ (¬ a0 < (1 : Int32) → ((a0 ≤ (31 : Int32) → ((a1 = 0 → cf_Families_countIrreducible a0 (fun r1 => P r1 w)) ∧ (¬ a1 = 0 → cf_Orders_countPrimitive 18 a0 w (fun r2 w3 => P r2 w3)))) ∧ (¬ a0 ≤ (31 : Int32) → P (-1 : Int64) w))))
theorem cf_T_many_ok {g : ayG} {d : Nat} (hd : 3 ≤ d) (a0 : Int32) (a1 : Int32)  (w : Wd) (P : Int64 → Wd → Prop) (h : cf_T_many a0 a1 w P) : Call g y_T_many prog_1_method_41_code 3 (some FieldType.long) d [.ref (g.1 + 0), .int a0, .int a1] w (fun (r : Option Value) (w2 : Wd) => ∃ x, r = some (.long x) ∧ P x w2) := by
  unfold cf_T_many at h
  refine am_enter mi_T_many (Nat.le_of_ble_eq_true rfl) ?_
  have hQ : ∀ x w2, P x w2 → (fun (r : Option Value) (w2 : Wd) => ∃ x, r = some (.long x) ∧ P x w2) (some (.long x)) w2 := fun x w2 h => ⟨x, rfl, h⟩
  generalize (fun (r : Option Value) (w2 : Wd) => ∃ x, r = some (.long x) ∧ P x w2) = Q at hQ ⊢
  show wp g (fun _ => True) y_T_many prog_1_method_41_code 3 (some FieldType.long) d 0 [(0, .ref (g.1 + 0)), (1, .int a0), (2, .int a1)] [] w Q
  refine am_iload_n d_T_many_0 1 rfl ?_
  refine am_iconst (v := 1) d_T_many_1 rfl ?_
  refine am_icmp_lt (tgt := 11) d_T_many_2 (by decide) (fun c2 => ?_) (fun c2 => ?_)
  · have h := h.1 c2
    refine am_ldc2 (v := -1) d_T_many_11 wd_560 ?_
    exact am_lreturn d_T_many_14 rfl (hQ (-1 : Int64) w h)
  · have h := h.2 c2
    refine am_iload_n d_T_many_5 1 rfl ?_
    refine am_bipush (v := 31) d_T_many_6 rfl ?_
    refine am_icmp_le (tgt := 15) d_T_many_8 (by decide) (fun c8 => ?_) (fun c8 => ?_)
    · have h := h.1 c8
      refine am_iload_n d_T_many_15 2 rfl ?_
      refine am_if_eq (tgt := 30) d_T_many_16 (by decide) (fun c16 => ?_) (fun c16 => ?_)
      · have h := h.1 c16
        refine am_iload_n d_T_many_30 1 rfl ?_
        refine am_callS (d2 := d - 1) [.int a0] d_T_many_31 mi_Families_countIrreducible wd_962 wd_963 (by omega) rfl rfl (Nat.le_of_ble_eq_true rfl) ?_
        refine Call.post ?_ (cf_Families_countIrreducible_ok (by omega) a0  w _ h)
        rintro _ _ ⟨r1, rfl, rfl, h⟩
        show wp g (fun _ => True) y_T_many prog_1_method_41_code 3 (some FieldType.long) d 34 [(0, .ref (g.1 + 0)), (1, .int a0), (2, .int a1)] [.long r1] w Q
        exact am_lreturn d_T_many_34 rfl (hQ r1 w h)
      · have h := h.2 c16
        refine am_aload_n d_T_many_19 0 rfl ?_
        refine am_getf (T := F_T) (fs := ob_T g w 0) (C := R_T) (N := 9) (ci := 0) 4 d_T_many_20 wd_198 rfl (by decide) (el_T (show ay_sh 0 = _ from rfl)) rfl i_T (by decide) rfl ?_
        refine am_iload_n d_T_many_23 1 rfl ?_
        refine am_callV (C := "TriSplits$Orders") (d2 := d - 1) [.int a0] d_T_many_24 mi_Orders_countPrimitive wd_958 wd_959 wd_960 (by decide) (el_Orders (show ay_sh 18 = _ from rfl)) rfl rfl (by omega) rfl rfl (Nat.le_of_ble_eq_true rfl) ?_
        refine Call.post ?_ (cf_Orders_countPrimitive_ok (by omega) 18 a0 (show ay_sh 18 = _ from rfl) w _ h)
        rintro _ w3 ⟨r2, rfl, h⟩
        show wp g (fun _ => True) y_T_many prog_1_method_41_code 3 (some FieldType.long) d 27 [(0, .ref (g.1 + 0)), (1, .int a0), (2, .int a1)] [.long r2] w3 Q
        refine am_goto (tgt := 34) d_T_many_27 (by decide) ?_
        exact am_lreturn d_T_many_34 rfl (hQ r2 w3 h)
    · have h := h.2 c8
      refine am_ldc2 (v := -1) d_T_many_11 wd_560 ?_
      exact am_lreturn d_T_many_14 rfl (hQ (-1 : Int64) w h)
theorem d_T_stays_0 : decode prog_1_method_42_code 0 = .ok (.iload_n 1, 1) := by decide +kernel
theorem d_T_stays_1 : decode prog_1_method_42_code 1 = .ok (.iload_n 2, 1) := by decide +kernel
theorem d_T_stays_2 : decode prog_1_method_42_code 2 = .ok (.bipush 24, 2) := by decide +kernel
theorem d_T_stays_4 : decode prog_1_method_42_code 4 = .ok (.invokestatic 277, 3) := by decide +kernel
theorem d_T_stays_7 : decode prog_1_method_42_code 7 = .ok (.ifCond .eq 15, 3) := by decide +kernel
theorem d_T_stays_10 : decode prog_1_method_42_code 10 = .ok (.iload_n 3, 1) := by decide +kernel
theorem d_T_stays_11 : decode prog_1_method_42_code 11 = .ok (.iconst 1, 1) := by decide +kernel
theorem d_T_stays_12 : decode prog_1_method_42_code 12 = .ok (.if_icmp .lt 10, 3) := by decide +kernel
theorem d_T_stays_15 : decode prog_1_method_42_code 15 = .ok (.iload_n 3, 1) := by decide +kernel
theorem d_T_stays_16 : decode prog_1_method_42_code 16 = .ok (.sipush 1000, 3) := by decide +kernel
theorem d_T_stays_19 : decode prog_1_method_42_code 19 = .ok (.if_icmp .le 5, 3) := by decide +kernel
theorem d_T_stays_22 : decode prog_1_method_42_code 22 = .ok (.iconst (-1), 1) := by decide +kernel
theorem d_T_stays_23 : decode prog_1_method_42_code 23 = .ok (.ireturn, 1) := by decide +kernel
theorem d_T_stays_24 : decode prog_1_method_42_code 24 = .ok (.iload_n 1, 1) := by decide +kernel
theorem d_T_stays_25 : decode prog_1_method_42_code 25 = .ok (.iload_n 2, 1) := by decide +kernel
theorem d_T_stays_26 : decode prog_1_method_42_code 26 = .ok (.invokestatic 323, 3) := by decide +kernel
theorem d_T_stays_29 : decode prog_1_method_42_code 29 = .ok (.lstore 4, 2) := by decide +kernel
theorem d_T_stays_31 : decode prog_1_method_42_code 31 = .ok (.lload 4, 2) := by decide +kernel
theorem d_T_stays_33 : decode prog_1_method_42_code 33 = .ok (.invokestatic 220, 3) := by decide +kernel
theorem d_T_stays_36 : decode prog_1_method_42_code 36 = .ok (.ifCond .ne 6, 3) := by decide +kernel
theorem d_T_stays_39 : decode prog_1_method_42_code 39 = .ok (.bipush (-2), 2) := by decide +kernel
theorem d_T_stays_41 : decode prog_1_method_42_code 41 = .ok (.ireturn, 1) := by decide +kernel
theorem d_T_stays_42 : decode prog_1_method_42_code 42 = .ok (.aload_n 0, 1) := by decide +kernel
theorem d_T_stays_43 : decode prog_1_method_42_code 43 = .ok (.getfield 36, 3) := by decide +kernel
theorem d_T_stays_46 : decode prog_1_method_42_code 46 = .ok (.lload 4, 2) := by decide +kernel
theorem d_T_stays_48 : decode prog_1_method_42_code 48 = .ok (.iload_n 3, 1) := by decide +kernel
theorem d_T_stays_49 : decode prog_1_method_42_code 49 = .ok (.invokevirtual 327, 3) := by decide +kernel
theorem d_T_stays_52 : decode prog_1_method_42_code 52 = .ok (.ifCond .eq 7, 3) := by decide +kernel
theorem d_T_stays_55 : decode prog_1_method_42_code 55 = .ok (.iconst 1, 1) := by decide +kernel
theorem d_T_stays_56 : decode prog_1_method_42_code 56 = .ok (.goto 4, 3) := by decide +kernel
theorem d_T_stays_59 : decode prog_1_method_42_code 59 = .ok (.iconst 0, 1) := by decide +kernel
theorem d_T_stays_60 : decode prog_1_method_42_code 60 = .ok (.ireturn, 1) := by decide +kernel
def cf_T_stays (a0 : Int32) (a1 : Int32) (a2 : Int32) (w : Wd) (P : Int32 → Wd → Prop) : Prop :=
  cf_T_isTri a0 a1 (24 : Int32) (fun r1 => ((r1 = 0 → P (-1 : Int32) w) ∧ (¬ r1 = 0 → ((a2 < (1 : Int32) → P (-1 : Int32) w) ∧ (¬ a2 < (1 : Int32) → ((a2 ≤ (1000 : Int32) → cf_Polys_tri a0 a1 (fun r2 => cf_Polys_isIrreducible r2 (fun r3 => ((¬ r3 = 0 → cf_Orders_staysRisen 18 r2 a2 w (fun r4 w5 => ((r4 = 0 → P (0 : Int32) w5) ∧ (¬ r4 = 0 → P (1 : Int32) w5)))) ∧ (r3 = 0 → P (-2 : Int32) w))))) ∧ (¬ a2 ≤ (1000 : Int32) → P (-1 : Int32) w)))))))
theorem cf_T_stays_ok {g : ayG} {d : Nat} (hd : 6 ≤ d) (a0 : Int32) (a1 : Int32) (a2 : Int32)  (w : Wd) (P : Int32 → Wd → Prop) (h : cf_T_stays a0 a1 a2 w P) : Call g y_T_stays prog_1_method_42_code 6 (some FieldType.int) d [.ref (g.1 + 0), .int a0, .int a1, .int a2] w (fun (r : Option Value) (w2 : Wd) => ∃ x, r = some (.int x) ∧ P x w2) := by
  unfold cf_T_stays at h
  refine am_enter mi_T_stays (Nat.le_of_ble_eq_true rfl) ?_
  have hQ : ∀ x w2, P x w2 → (fun (r : Option Value) (w2 : Wd) => ∃ x, r = some (.int x) ∧ P x w2) (some (.int x)) w2 := fun x w2 h => ⟨x, rfl, h⟩
  generalize (fun (r : Option Value) (w2 : Wd) => ∃ x, r = some (.int x) ∧ P x w2) = Q at hQ ⊢
  show wp g (fun _ => True) y_T_stays prog_1_method_42_code 6 (some FieldType.int) d 0 [(0, .ref (g.1 + 0)), (1, .int a0), (2, .int a1), (3, .int a2)] [] w Q
  refine am_iload_n d_T_stays_0 1 rfl ?_
  refine am_iload_n d_T_stays_1 2 rfl ?_
  refine am_bipush (v := 24) d_T_stays_2 rfl ?_
  refine am_callS (d2 := d - 1) [.int a0, .int a1, .int (24 : Int32)] d_T_stays_4 mi_T_isTri wd_860 wd_861 (by omega) rfl rfl (Nat.le_of_ble_eq_true rfl) ?_
  refine Call.post ?_ (cf_T_isTri_ok (by omega) a0 a1 (24 : Int32)  w _ h)
  rintro _ _ ⟨r1, rfl, rfl, h⟩
  show wp g (fun _ => True) y_T_stays prog_1_method_42_code 6 (some FieldType.int) d 7 [(0, .ref (g.1 + 0)), (1, .int a0), (2, .int a1), (3, .int a2)] [.int r1] w Q
  refine am_if_eq (tgt := 22) d_T_stays_7 (by decide) (fun c7 => ?_) (fun c7 => ?_)
  · have h := h.1 c7
    refine am_iconst (v := -1) d_T_stays_22 rfl ?_
    exact am_ireturn d_T_stays_23 rfl rfl (hQ (-1 : Int32) w h)
  · have h := h.2 c7
    refine am_iload_n d_T_stays_10 3 rfl ?_
    refine am_iconst (v := 1) d_T_stays_11 rfl ?_
    refine am_icmp_lt (tgt := 22) d_T_stays_12 (by decide) (fun c12 => ?_) (fun c12 => ?_)
    · have h := h.1 c12
      refine am_iconst (v := -1) d_T_stays_22 rfl ?_
      exact am_ireturn d_T_stays_23 rfl rfl (hQ (-1 : Int32) w h)
    · have h := h.2 c12
      refine am_iload_n d_T_stays_15 3 rfl ?_
      refine am_sipush (v := 1000) d_T_stays_16 rfl ?_
      refine am_icmp_le (tgt := 24) d_T_stays_19 (by decide) (fun c19 => ?_) (fun c19 => ?_)
      · have h := h.1 c19
        refine am_iload_n d_T_stays_24 1 rfl ?_
        refine am_iload_n d_T_stays_25 2 rfl ?_
        refine am_callS (d2 := d - 1) [.int a0, .int a1] d_T_stays_26 mi_Polys_tri wd_972 wd_384 (by omega) rfl rfl (Nat.le_of_ble_eq_true rfl) ?_
        refine Call.post ?_ (cf_Polys_tri_ok (by omega) a0 a1  w _ h)
        rintro _ _ ⟨r2, rfl, rfl, h⟩
        show wp g (fun _ => True) y_T_stays prog_1_method_42_code 6 (some FieldType.int) d 29 [(0, .ref (g.1 + 0)), (1, .int a0), (2, .int a1), (3, .int a2)] [.long r2] w Q
        refine am_lstore (l' := [(4, .long r2), (0, .ref (g.1 + 0)), (1, .int a0), (2, .int a1), (3, .int a2)]) d_T_stays_29 (by decide) rfl ?_
        refine am_lload d_T_stays_31 0 rfl ?_
        refine am_callS (d2 := d - 1) [.long r2] d_T_stays_33 mi_Polys_isIrreducible wd_643 wd_644 (by omega) rfl rfl (Nat.le_of_ble_eq_true rfl) ?_
        refine Call.post ?_ (cf_Polys_isIrreducible_ok (by omega) r2  w _ h)
        rintro _ _ ⟨r3, rfl, rfl, h⟩
        show wp g (fun _ => True) y_T_stays prog_1_method_42_code 6 (some FieldType.int) d 36 [(4, .long r2), (0, .ref (g.1 + 0)), (1, .int a0), (2, .int a1), (3, .int a2)] [.int r3] w Q
        refine am_if_ne (tgt := 42) d_T_stays_36 (by decide) (fun c36 => ?_) (fun c36 => ?_)
        · have h := h.1 c36
          refine am_aload_n d_T_stays_42 1 rfl ?_
          refine am_getf (T := F_T) (fs := ob_T g w 0) (C := R_T) (N := 9) (ci := 0) 4 d_T_stays_43 wd_198 rfl (by decide) (el_T (show ay_sh 0 = _ from rfl)) rfl i_T (by decide) rfl ?_
          refine am_lload d_T_stays_46 0 rfl ?_
          refine am_iload_n d_T_stays_48 4 rfl ?_
          refine am_callV (C := "TriSplits$Orders") (d2 := d - 1) [.long r2, .int a2] d_T_stays_49 mi_Orders_staysRisen wd_973 wd_974 wd_975 (by decide) (el_Orders (show ay_sh 18 = _ from rfl)) rfl rfl (by omega) rfl rfl (Nat.le_of_ble_eq_true rfl) ?_
          refine Call.post ?_ (cf_Orders_staysRisen_ok (by omega) 18 r2 a2 (show ay_sh 18 = _ from rfl) w _ h)
          rintro _ w5 ⟨r4, rfl, h⟩
          show wp g (fun _ => True) y_T_stays prog_1_method_42_code 6 (some FieldType.int) d 52 [(4, .long r2), (0, .ref (g.1 + 0)), (1, .int a0), (2, .int a1), (3, .int a2)] [.int r4] w5 Q
          refine am_if_eq (tgt := 59) d_T_stays_52 (by decide) (fun c52 => ?_) (fun c52 => ?_)
          · have h := h.1 c52
            refine am_iconst (v := 0) d_T_stays_59 rfl ?_
            exact am_ireturn d_T_stays_60 rfl rfl (hQ (0 : Int32) w5 h)
          · have h := h.2 c52
            refine am_iconst (v := 1) d_T_stays_55 rfl ?_
            refine am_goto (tgt := 60) d_T_stays_56 (by decide) ?_
            exact am_ireturn d_T_stays_60 rfl rfl (hQ (1 : Int32) w5 h)
        · have h := h.2 c36
          refine am_bipush (v := -2) d_T_stays_39 rfl ?_
          exact am_ireturn d_T_stays_41 rfl rfl (hQ (-2 : Int32) w h)
      · have h := h.2 c19
        refine am_iconst (v := -1) d_T_stays_22 rfl ?_
        exact am_ireturn d_T_stays_23 rfl rfl (hQ (-1 : Int32) w h)
theorem d_T_bare_0 : decode prog_1_method_43_code 0 = .ok (.iload_n 1, 1) := by decide +kernel
theorem d_T_bare_1 : decode prog_1_method_43_code 1 = .ok (.iconst 2, 1) := by decide +kernel
theorem d_T_bare_2 : decode prog_1_method_43_code 2 = .ok (.if_icmp .lt 9, 3) := by decide +kernel
theorem d_T_bare_5 : decode prog_1_method_43_code 5 = .ok (.iload_n 1, 1) := by decide +kernel
theorem d_T_bare_6 : decode prog_1_method_43_code 6 = .ok (.bipush 24, 2) := by decide +kernel
theorem d_T_bare_8 : decode prog_1_method_43_code 8 = .ok (.if_icmp .le 5, 3) := by decide +kernel
theorem d_T_bare_11 : decode prog_1_method_43_code 11 = .ok (.iconst (-1), 1) := by decide +kernel
theorem d_T_bare_12 : decode prog_1_method_43_code 12 = .ok (.ireturn, 1) := by decide +kernel
theorem d_T_bare_13 : decode prog_1_method_43_code 13 = .ok (.iload_n 1, 1) := by decide +kernel
theorem d_T_bare_14 : decode prog_1_method_43_code 14 = .ok (.istore_n 2, 1) := by decide +kernel
theorem d_T_bare_15 : decode prog_1_method_43_code 15 = .ok (.iload_n 2, 1) := by decide +kernel
theorem d_T_bare_16 : decode prog_1_method_43_code 16 = .ok (.bipush 24, 2) := by decide +kernel
theorem d_T_bare_18 : decode prog_1_method_43_code 18 = .ok (.if_icmp .gt 24, 3) := by decide +kernel
theorem d_T_bare_21 : decode prog_1_method_43_code 21 = .ok (.aload_n 0, 1) := by decide +kernel
theorem d_T_bare_22 : decode prog_1_method_43_code 22 = .ok (.getfield 43, 3) := by decide +kernel
theorem d_T_bare_25 : decode prog_1_method_43_code 25 = .ok (.iload_n 2, 1) := by decide +kernel
theorem d_T_bare_26 : decode prog_1_method_43_code 26 = .ok (.iconst 0, 1) := by decide +kernel
theorem d_T_bare_27 : decode prog_1_method_43_code 27 = .ok (.iconst 0, 1) := by decide +kernel
theorem d_T_bare_28 : decode prog_1_method_43_code 28 = .ok (.invokevirtual 309, 3) := by decide +kernel
theorem d_T_bare_31 : decode prog_1_method_43_code 31 = .ok (.ifCond .ne 5, 3) := by decide +kernel
theorem d_T_bare_34 : decode prog_1_method_43_code 34 = .ok (.iload_n 2, 1) := by decide +kernel
theorem d_T_bare_35 : decode prog_1_method_43_code 35 = .ok (.ireturn, 1) := by decide +kernel
theorem d_T_bare_36 : decode prog_1_method_43_code 36 = .ok (.iinc 2 1, 3) := by decide +kernel
theorem d_T_bare_39 : decode prog_1_method_43_code 39 = .ok (.goto (-24), 3) := by decide +kernel
theorem d_T_bare_42 : decode prog_1_method_43_code 42 = .ok (.bipush (-2), 2) := by decide +kernel
theorem d_T_bare_44 : decode prog_1_method_43_code 44 = .ok (.ireturn, 1) := by decide +kernel
def cf_T_bare_B15  (K15 : Int32 → Wd → Prop) (P : Int32 → Wd → Prop) (x2 : Int32) (w : Wd) : Prop :=
  (((24 : Int32) < x2 → P (-2 : Int32) w) ∧ (¬ (24 : Int32) < x2 → cf_Families_triAt x2 (0 : Int32) (0 : Int32) w (fun r1 w2 => ((¬ r1 = 0 → ∀ v3, v3 = x2 + (1 : Int32) → K15 v3 w2) ∧ (r1 = 0 → P x2 w2)))))
def cf_T_bare_L15   (P : Int32 → Wd → Prop) : Nat → Int32 → Wd → Prop
  | 0 => fun x2 w => False
  | n + 1 => fun x2 w => cf_T_bare_B15 (cf_T_bare_L15 P n) P x2 w
def cf_T_bare (a0 : Int32) (w : Wd) (P : Int32 → Wd → Prop) : Prop :=
  ((a0 < (2 : Int32) → P (-1 : Int32) w) ∧ (¬ a0 < (2 : Int32) → ((a0 ≤ (24 : Int32) → ∃ n, cf_T_bare_L15 P n a0 w) ∧ (¬ a0 ≤ (24 : Int32) → P (-1 : Int32) w))))
theorem cf_T_bare_B15_ok {g : ayG} {d : Nat} (hd : 7 ≤ d)   (w : Wd) (K15 : Int32 → Wd → Prop) (P : Int32 → Wd → Prop) (Q : Option Value → Wd → Prop) (hQ : ∀ x w2, P x w2 → Q (some (.int x)) w2) (hK15 : ∀ (x2 : Int32) (w : Wd), (K15 x2 w → wp g (fun _ => True) y_T_bare prog_1_method_43_code 3 (some FieldType.int) d 15 [(0, .ref (g.1 + 0)), (2, .int x2)] [] w Q)) (x2 : Int32) (h : cf_T_bare_B15 K15 P x2 w) : wp g (fun _ => True) y_T_bare prog_1_method_43_code 3 (some FieldType.int) d 15 [(0, .ref (g.1 + 0)), (2, .int x2)] [] w Q := by
  unfold cf_T_bare_B15 at h
  refine am_iload_n d_T_bare_15 1 rfl ?_
  refine am_bipush (v := 24) d_T_bare_16 rfl ?_
  refine am_icmp_gt (tgt := 42) d_T_bare_18 (by decide) (fun c18 => ?_) (fun c18 => ?_)
  · have h := h.1 c18
    refine am_bipush (v := -2) d_T_bare_42 rfl ?_
    exact am_ireturn d_T_bare_44 rfl rfl (hQ (-2 : Int32) w h)
  · have h := h.2 c18
    refine am_aload_n d_T_bare_21 0 rfl ?_
    refine am_getf (T := F_T) (fs := ob_T g w 0) (C := R_T) (N := 9) (ci := 0) 5 d_T_bare_22 wd_199 rfl (by decide) (el_T (show ay_sh 0 = _ from rfl)) rfl i_T (by decide) rfl ?_
    refine am_iload_n d_T_bare_25 1 rfl ?_
    refine am_iconst (v := 0) d_T_bare_26 rfl ?_
    refine am_iconst (v := 0) d_T_bare_27 rfl ?_
    refine am_callV (C := "TriSplits$Families") (d2 := d - 1) [.int x2, .int (0 : Int32), .int (0 : Int32)] d_T_bare_28 mi_Families_triAt wd_930 wd_931 wd_932 (by decide) (el_Families (show ay_sh 20 = _ from rfl)) rfl rfl (by omega) rfl rfl (Nat.le_of_ble_eq_true rfl) ?_
    refine Call.post ?_ (cf_Families_triAt_ok (by omega) x2 (0 : Int32) (0 : Int32)  w _ h)
    rintro _ w2 ⟨r1, rfl, h⟩
    show wp g (fun _ => True) y_T_bare prog_1_method_43_code 3 (some FieldType.int) d 31 [(0, .ref (g.1 + 0)), (2, .int x2)] [.int r1] w2 Q
    refine am_if_ne (tgt := 36) d_T_bare_31 (by decide) (fun c31 => ?_) (fun c31 => ?_)
    · have h := h.1 c31
      obtain ⟨v3, ev3⟩ : ∃ z : Int32, z = x2 + (1 : Int32) := ⟨_, rfl⟩
      have h := h v3 ev3
      refine am_iinc (v := v3) (l' := [(2, .int v3), (0, .ref (g.1 + 0))]) d_T_bare_36 1 rfl (by rw [ev3]; rfl) (by decide) rfl ?_
      refine am_goto (tgt := 15) d_T_bare_39 (by decide) ?_
      refine am_sub [1, 0] rfl ?_
      exact hK15 v3 w2 h
    · have h := h.2 c31
      refine am_iload_n d_T_bare_34 1 rfl ?_
      exact am_ireturn d_T_bare_35 rfl rfl (hQ x2 w2 h)
theorem cf_T_bare_L15_ok {g : ayG} {d : Nat} (hd : 7 ≤ d)    (P : Int32 → Wd → Prop) (Q : Option Value → Wd → Prop) (hQ : ∀ x w2, P x w2 → Q (some (.int x)) w2)  : ∀ (n : Nat) (x2 : Int32) (w : Wd) (h : cf_T_bare_L15 P n x2 w), wp g (fun _ => True) y_T_bare prog_1_method_43_code 3 (some FieldType.int) d 15 [(0, .ref (g.1 + 0)), (2, .int x2)] [] w Q
  | 0, x2, w, h => False.elim h
  | n + 1, x2, w, h => cf_T_bare_B15_ok hd   w (cf_T_bare_L15 P n) P Q hQ (fun x2 w h => cf_T_bare_L15_ok hd    P Q hQ  n x2 w h) x2 h
theorem cf_T_bare_ok {g : ayG} {d : Nat} (hd : 7 ≤ d) (a0 : Int32)  (w : Wd) (P : Int32 → Wd → Prop) (h : cf_T_bare a0 w P) : Call g y_T_bare prog_1_method_43_code 3 (some FieldType.int) d [.ref (g.1 + 0), .int a0] w (fun (r : Option Value) (w2 : Wd) => ∃ x, r = some (.int x) ∧ P x w2) := by
  unfold cf_T_bare at h
  refine am_enter mi_T_bare (Nat.le_of_ble_eq_true rfl) ?_
  have hQ : ∀ x w2, P x w2 → (fun (r : Option Value) (w2 : Wd) => ∃ x, r = some (.int x) ∧ P x w2) (some (.int x)) w2 := fun x w2 h => ⟨x, rfl, h⟩
  generalize (fun (r : Option Value) (w2 : Wd) => ∃ x, r = some (.int x) ∧ P x w2) = Q at hQ ⊢
  show wp g (fun _ => True) y_T_bare prog_1_method_43_code 3 (some FieldType.int) d 0 [(0, .ref (g.1 + 0)), (1, .int a0)] [] w Q
  refine am_iload_n d_T_bare_0 1 rfl ?_
  refine am_iconst (v := 2) d_T_bare_1 rfl ?_
  refine am_icmp_lt (tgt := 11) d_T_bare_2 (by decide) (fun c2 => ?_) (fun c2 => ?_)
  · have h := h.1 c2
    refine am_iconst (v := -1) d_T_bare_11 rfl ?_
    exact am_ireturn d_T_bare_12 rfl rfl (hQ (-1 : Int32) w h)
  · have h := h.2 c2
    refine am_iload_n d_T_bare_5 1 rfl ?_
    refine am_bipush (v := 24) d_T_bare_6 rfl ?_
    refine am_icmp_le (tgt := 13) d_T_bare_8 (by decide) (fun c8 => ?_) (fun c8 => ?_)
    · have h := h.1 c8
      refine am_iload_n d_T_bare_13 1 rfl ?_
      refine am_istore_n (l' := [(2, .int a0), (0, .ref (g.1 + 0)), (1, .int a0)]) d_T_bare_14 (by decide) rfl ?_
      refine am_sub [1, 0] rfl ?_
      obtain ⟨n, h⟩ := h
      exact cf_T_bare_L15_ok (by omega)    P Q hQ  n a0 w h
    · have h := h.2 c8
      refine am_iconst (v := -1) d_T_bare_11 rfl ?_
      exact am_ireturn d_T_bare_12 rfl rfl (hQ (-1 : Int32) w h)
theorem d_T_next_0 : decode prog_1_method_44_code 0 = .ok (.iload_n 1, 1) := by decide +kernel
theorem d_T_next_1 : decode prog_1_method_44_code 1 = .ok (.invokestatic 109, 3) := by decide +kernel
theorem d_T_next_4 : decode prog_1_method_44_code 4 = .ok (.ifCond .ne 7, 3) := by decide +kernel
theorem d_T_next_7 : decode prog_1_method_44_code 7 = .ok (.ldc2_w 172, 3) := by decide +kernel
theorem d_T_next_10 : decode prog_1_method_44_code 10 = .ok (.lreturn, 1) := by decide +kernel
theorem d_T_next_11 : decode prog_1_method_44_code 11 = .ok (.aload_n 0, 1) := by decide +kernel
theorem d_T_next_12 : decode prog_1_method_44_code 12 = .ok (.getfield 43, 3) := by decide +kernel
theorem d_T_next_15 : decode prog_1_method_44_code 15 = .ok (.aload_n 0, 1) := by decide +kernel
theorem d_T_next_16 : decode prog_1_method_44_code 16 = .ok (.getfield 19, 3) := by decide +kernel
theorem d_T_next_19 : decode prog_1_method_44_code 19 = .ok (.iload_n 1, 1) := by decide +kernel
theorem d_T_next_20 : decode prog_1_method_44_code 20 = .ok (.invokevirtual 122, 3) := by decide +kernel
theorem d_T_next_23 : decode prog_1_method_44_code 23 = .ok (.iload_n 2, 1) := by decide +kernel
theorem d_T_next_24 : decode prog_1_method_44_code 24 = .ok (.invokevirtual 331, 3) := by decide +kernel
theorem d_T_next_27 : decode prog_1_method_44_code 27 = .ok (.lstore_n 3, 1) := by decide +kernel
theorem d_T_next_28 : decode prog_1_method_44_code 28 = .ok (.lload_n 3, 1) := by decide +kernel
theorem d_T_next_29 : decode prog_1_method_44_code 29 = .ok (.lconst 0, 1) := by decide +kernel
theorem d_T_next_30 : decode prog_1_method_44_code 30 = .ok (.lcmp, 1) := by decide +kernel
theorem d_T_next_31 : decode prog_1_method_44_code 31 = .ok (.ifCond .ne 9, 3) := by decide +kernel
theorem d_T_next_34 : decode prog_1_method_44_code 34 = .ok (.ldc2_w 178, 3) := by decide +kernel
theorem d_T_next_37 : decode prog_1_method_44_code 37 = .ok (.goto 4, 3) := by decide +kernel
theorem d_T_next_40 : decode prog_1_method_44_code 40 = .ok (.lload_n 3, 1) := by decide +kernel
theorem d_T_next_41 : decode prog_1_method_44_code 41 = .ok (.lreturn, 1) := by decide +kernel
def cf_T_next (a0 : Int32) (a1 : Int32) (w : Wd) (P : Int64 → Wd → Prop) : Prop :=
  cf_Store_isPlace a0 (fun r1 => ((¬ r1 = 0 → cf_Store_polyAt a0 w (fun r2 => cf_Families_nextAbove r2 a1 w (fun r3 w4 => ((¬ r3 = (0 : Int64) → P r3 w4) ∧ (r3 = (0 : Int64) → P (-2 : Int64) w4))))) ∧ (r1 = 0 → P (-1 : Int64) w)))
theorem cf_T_next_ok {g : ayG} {d : Nat} (hd : 7 ≤ d) (a0 : Int32) (a1 : Int32)  (w : Wd) (P : Int64 → Wd → Prop) (h : cf_T_next a0 a1 w P) : Call g y_T_next prog_1_method_44_code 5 (some FieldType.long) d [.ref (g.1 + 0), .int a0, .int a1] w (fun (r : Option Value) (w2 : Wd) => ∃ x, r = some (.long x) ∧ P x w2) := by
  unfold cf_T_next at h
  refine am_enter mi_T_next (Nat.le_of_ble_eq_true rfl) ?_
  have hQ : ∀ x w2, P x w2 → (fun (r : Option Value) (w2 : Wd) => ∃ x, r = some (.long x) ∧ P x w2) (some (.long x)) w2 := fun x w2 h => ⟨x, rfl, h⟩
  generalize (fun (r : Option Value) (w2 : Wd) => ∃ x, r = some (.long x) ∧ P x w2) = Q at hQ ⊢
  show wp g (fun _ => True) y_T_next prog_1_method_44_code 5 (some FieldType.long) d 0 [(0, .ref (g.1 + 0)), (1, .int a0), (2, .int a1)] [] w Q
  refine am_iload_n d_T_next_0 1 rfl ?_
  refine am_callS (d2 := d - 1) [.int a0] d_T_next_1 mi_Store_isPlace wd_453 wd_263 (by omega) rfl rfl (Nat.le_of_ble_eq_true rfl) ?_
  refine Call.post ?_ (cf_Store_isPlace_ok (by omega) a0  w _ h)
  rintro _ _ ⟨r1, rfl, rfl, h⟩
  show wp g (fun _ => True) y_T_next prog_1_method_44_code 5 (some FieldType.long) d 4 [(0, .ref (g.1 + 0)), (1, .int a0), (2, .int a1)] [.int r1] w Q
  refine am_if_ne (tgt := 11) d_T_next_4 (by decide) (fun c4 => ?_) (fun c4 => ?_)
  · have h := h.1 c4
    refine am_aload_n d_T_next_11 0 rfl ?_
    refine am_getf (T := F_T) (fs := ob_T g w 0) (C := R_T) (N := 9) (ci := 0) 5 d_T_next_12 wd_199 rfl (by decide) (el_T (show ay_sh 0 = _ from rfl)) rfl i_T (by decide) rfl ?_
    refine am_aload_n d_T_next_15 0 rfl ?_
    refine am_getf (T := F_T) (fs := ob_T g w 0) (C := R_T) (N := 9) (ci := 0) 1 d_T_next_16 wd_195 rfl (by decide) (el_T (show ay_sh 0 = _ from rfl)) rfl i_T (by decide) rfl ?_
    refine am_iload_n d_T_next_19 1 rfl ?_
    refine am_callV (C := "TriSplits$Store") (d2 := d - 1) [.int a0] d_T_next_20 mi_Store_polyAt wd_468 wd_259 wd_260 (by decide) (el_Store (show ay_sh 6 = _ from rfl)) rfl rfl (by omega) rfl rfl (Nat.le_of_ble_eq_true rfl) ?_
    refine Call.post ?_ (cf_Store_polyAt_ok (by omega) a0  w _ h)
    rintro _ _ ⟨r2, rfl, rfl, h⟩
    show wp g (fun _ => True) y_T_next prog_1_method_44_code 5 (some FieldType.long) d 23 [(0, .ref (g.1 + 0)), (1, .int a0), (2, .int a1)] [.long r2, .ref (g.1 + 20)] w Q
    refine am_iload_n d_T_next_23 2 rfl ?_
    refine am_callV (C := "TriSplits$Families") (d2 := d - 1) [.long r2, .int a1] d_T_next_24 mi_Families_nextAbove wd_985 wd_986 wd_987 (by decide) (el_Families (show ay_sh 20 = _ from rfl)) rfl rfl (by omega) rfl rfl (Nat.le_of_ble_eq_true rfl) ?_
    refine Call.post ?_ (cf_Families_nextAbove_ok (by omega) r2 a1  w _ h)
    rintro _ w4 ⟨r3, rfl, h⟩
    show wp g (fun _ => True) y_T_next prog_1_method_44_code 5 (some FieldType.long) d 27 [(0, .ref (g.1 + 0)), (1, .int a0), (2, .int a1)] [.long r3] w4 Q
    refine am_lstore_n (l' := [(3, .long r3), (0, .ref (g.1 + 0)), (1, .int a0), (2, .int a1)]) d_T_next_27 (by decide) rfl ?_
    refine am_lload_n d_T_next_28 0 rfl ?_
    refine am_lconst (v := 0) d_T_next_29 rfl ?_
    refine am_lif_ne (tgt := 40) d_T_next_30 d_T_next_31 (by decide) (fun c30 => ?_) (fun c30 => ?_)
    · have h := h.1 c30
      refine am_lload_n d_T_next_40 0 rfl ?_
      exact am_lreturn d_T_next_41 rfl (hQ r3 w4 h)
    · have h := h.2 c30
      refine am_ldc2 (v := -2) d_T_next_34 wd_565 ?_
      refine am_goto (tgt := 41) d_T_next_37 (by decide) ?_
      exact am_lreturn d_T_next_41 rfl (hQ (-2 : Int64) w4 h)
  · have h := h.2 c4
    refine am_ldc2 (v := -1) d_T_next_7 wd_560 ?_
    exact am_lreturn d_T_next_10 rfl (hQ (-1 : Int64) w h)
theorem d_T_isElement_0 : decode prog_1_method_54_code 0 = .ok (.aload_n 0, 1) := by decide +kernel
theorem d_T_isElement_1 : decode prog_1_method_54_code 1 = .ok (.getfield 19, 3) := by decide +kernel
theorem d_T_isElement_4 : decode prog_1_method_54_code 4 = .ok (.iload_n 2, 1) := by decide +kernel
theorem d_T_isElement_5 : decode prog_1_method_54_code 5 = .ok (.invokevirtual 122, 3) := by decide +kernel
theorem d_T_isElement_8 : decode prog_1_method_54_code 8 = .ok (.lstore_n 3, 1) := by decide +kernel
theorem d_T_isElement_9 : decode prog_1_method_54_code 9 = .ok (.aload_n 0, 1) := by decide +kernel
theorem d_T_isElement_10 : decode prog_1_method_54_code 10 = .ok (.getfield 19, 3) := by decide +kernel
theorem d_T_isElement_13 : decode prog_1_method_54_code 13 = .ok (.iload_n 1, 1) := by decide +kernel
theorem d_T_isElement_14 : decode prog_1_method_54_code 14 = .ok (.invokevirtual 122, 3) := by decide +kernel
theorem d_T_isElement_17 : decode prog_1_method_54_code 17 = .ok (.invokestatic 158, 3) := by decide +kernel
theorem d_T_isElement_20 : decode prog_1_method_54_code 20 = .ok (.lload_n 3, 1) := by decide +kernel
theorem d_T_isElement_21 : decode prog_1_method_54_code 21 = .ok (.invokestatic 158, 3) := by decide +kernel
theorem d_T_isElement_24 : decode prog_1_method_54_code 24 = .ok (.if_icmp .ge 14, 3) := by decide +kernel
theorem d_T_isElement_27 : decode prog_1_method_54_code 27 = .ok (.lload_n 3, 1) := by decide +kernel
theorem d_T_isElement_28 : decode prog_1_method_54_code 28 = .ok (.invokestatic 220, 3) := by decide +kernel
theorem d_T_isElement_31 : decode prog_1_method_54_code 31 = .ok (.ifCond .eq 7, 3) := by decide +kernel
theorem d_T_isElement_34 : decode prog_1_method_54_code 34 = .ok (.iconst 1, 1) := by decide +kernel
theorem d_T_isElement_35 : decode prog_1_method_54_code 35 = .ok (.goto 4, 3) := by decide +kernel
theorem d_T_isElement_38 : decode prog_1_method_54_code 38 = .ok (.iconst 0, 1) := by decide +kernel
theorem d_T_isElement_39 : decode prog_1_method_54_code 39 = .ok (.ireturn, 1) := by decide +kernel
def cf_T_isElement (a0 : Int32) (a1 : Int32) (w : Wd) (P : Int32 → Prop) : Prop :=
  cf_Store_polyAt a1 w (fun r1 => cf_Store_polyAt a0 w (fun r2 => cf_Polys_degree r2 (fun r3 => cf_Polys_degree r1 (fun r4 => ((r4 ≤ r3 → P (0 : Int32)) ∧ (¬ r4 ≤ r3 → cf_Polys_isIrreducible r1 (fun r5 => ((r5 = 0 → P (0 : Int32)) ∧ (¬ r5 = 0 → P (1 : Int32))))))))))
theorem cf_T_isElement_ok {g : ayG} {d : Nat} (hd : 5 ≤ d) (a0 : Int32) (a1 : Int32)  (w : Wd) (P : Int32 → Prop) (h : cf_T_isElement a0 a1 w P) : Call g y_T_isElement prog_1_method_54_code 5 (some FieldType.boolean) d [.ref (g.1 + 0), .int a0, .int a1] w (fun (r : Option Value) (w2 : Wd) => ∃ x, r = some (.int x) ∧ w = w2 ∧ P x) := by
  unfold cf_T_isElement at h
  refine am_enter mi_T_isElement (Nat.le_of_ble_eq_true rfl) ?_
  have hQ : ∀ x, P x → (fun (r : Option Value) (w2 : Wd) => ∃ x, r = some (.int x) ∧ w = w2 ∧ P x) (some (.int x)) w := fun x h => ⟨x, rfl, rfl, h⟩
  generalize (fun (r : Option Value) (w2 : Wd) => ∃ x, r = some (.int x) ∧ w = w2 ∧ P x) = Q at hQ ⊢
  show wp g (fun _ => True) y_T_isElement prog_1_method_54_code 5 (some FieldType.boolean) d 0 [(0, .ref (g.1 + 0)), (1, .int a0), (2, .int a1)] [] w Q
  refine am_aload_n d_T_isElement_0 0 rfl ?_
  refine am_getf (T := F_T) (fs := ob_T g w 0) (C := R_T) (N := 9) (ci := 0) 1 d_T_isElement_1 wd_195 rfl (by decide) (el_T (show ay_sh 0 = _ from rfl)) rfl i_T (by decide) rfl ?_
  refine am_iload_n d_T_isElement_4 2 rfl ?_
  refine am_callV (C := "TriSplits$Store") (d2 := d - 1) [.int a1] d_T_isElement_5 mi_Store_polyAt wd_468 wd_259 wd_260 (by decide) (el_Store (show ay_sh 6 = _ from rfl)) rfl rfl (by omega) rfl rfl (Nat.le_of_ble_eq_true rfl) ?_
  refine Call.post ?_ (cf_Store_polyAt_ok (by omega) a1  w _ h)
  rintro _ _ ⟨r1, rfl, rfl, h⟩
  show wp g (fun _ => True) y_T_isElement prog_1_method_54_code 5 (some FieldType.boolean) d 8 [(0, .ref (g.1 + 0)), (1, .int a0), (2, .int a1)] [.long r1] w Q
  refine am_lstore_n (l' := [(3, .long r1), (0, .ref (g.1 + 0)), (1, .int a0), (2, .int a1)]) d_T_isElement_8 (by decide) rfl ?_
  refine am_aload_n d_T_isElement_9 1 rfl ?_
  refine am_getf (T := F_T) (fs := ob_T g w 0) (C := R_T) (N := 9) (ci := 0) 1 d_T_isElement_10 wd_195 rfl (by decide) (el_T (show ay_sh 0 = _ from rfl)) rfl i_T (by decide) rfl ?_
  refine am_iload_n d_T_isElement_13 2 rfl ?_
  refine am_callV (C := "TriSplits$Store") (d2 := d - 1) [.int a0] d_T_isElement_14 mi_Store_polyAt wd_468 wd_259 wd_260 (by decide) (el_Store (show ay_sh 6 = _ from rfl)) rfl rfl (by omega) rfl rfl (Nat.le_of_ble_eq_true rfl) ?_
  refine Call.post ?_ (cf_Store_polyAt_ok (by omega) a0  w _ h)
  rintro _ _ ⟨r2, rfl, rfl, h⟩
  show wp g (fun _ => True) y_T_isElement prog_1_method_54_code 5 (some FieldType.boolean) d 17 [(3, .long r1), (0, .ref (g.1 + 0)), (1, .int a0), (2, .int a1)] [.long r2] w Q
  refine am_callS (d2 := d - 1) [.long r2] d_T_isElement_17 mi_Polys_degree wd_460 wd_391 (by omega) rfl rfl (Nat.le_of_ble_eq_true rfl) ?_
  refine Call.post ?_ (cf_Polys_degree_ok (by omega) r2  w _ h)
  rintro _ _ ⟨r3, rfl, rfl, h⟩
  show wp g (fun _ => True) y_T_isElement prog_1_method_54_code 5 (some FieldType.boolean) d 20 [(3, .long r1), (0, .ref (g.1 + 0)), (1, .int a0), (2, .int a1)] [.int r3] w Q
  refine am_lload_n d_T_isElement_20 0 rfl ?_
  refine am_callS (d2 := d - 1) [.long r1] d_T_isElement_21 mi_Polys_degree wd_460 wd_391 (by omega) rfl rfl (Nat.le_of_ble_eq_true rfl) ?_
  refine Call.post ?_ (cf_Polys_degree_ok (by omega) r1  w _ h)
  rintro _ _ ⟨r4, rfl, rfl, h⟩
  show wp g (fun _ => True) y_T_isElement prog_1_method_54_code 5 (some FieldType.boolean) d 24 [(3, .long r1), (0, .ref (g.1 + 0)), (1, .int a0), (2, .int a1)] [.int r4, .int r3] w Q
  refine am_icmp_ge (tgt := 38) d_T_isElement_24 (by decide) (fun c24 => ?_) (fun c24 => ?_)
  · have h := h.1 c24
    refine am_iconst (v := 0) d_T_isElement_38 rfl ?_
    exact am_ireturn d_T_isElement_39 rfl rfl (hQ (0 : Int32) h)
  · have h := h.2 c24
    refine am_lload_n d_T_isElement_27 0 rfl ?_
    refine am_callS (d2 := d - 1) [.long r1] d_T_isElement_28 mi_Polys_isIrreducible wd_643 wd_644 (by omega) rfl rfl (Nat.le_of_ble_eq_true rfl) ?_
    refine Call.post ?_ (cf_Polys_isIrreducible_ok (by omega) r1  w _ h)
    rintro _ _ ⟨r5, rfl, rfl, h⟩
    show wp g (fun _ => True) y_T_isElement prog_1_method_54_code 5 (some FieldType.boolean) d 31 [(3, .long r1), (0, .ref (g.1 + 0)), (1, .int a0), (2, .int a1)] [.int r5] w Q
    refine am_if_eq (tgt := 38) d_T_isElement_31 (by decide) (fun c31 => ?_) (fun c31 => ?_)
    · have h := h.1 c31
      refine am_iconst (v := 0) d_T_isElement_38 rfl ?_
      exact am_ireturn d_T_isElement_39 rfl rfl (hQ (0 : Int32) h)
    · have h := h.2 c31
      refine am_iconst (v := 1) d_T_isElement_34 rfl ?_
      refine am_goto (tgt := 39) d_T_isElement_35 (by decide) ?_
      exact am_ireturn d_T_isElement_39 rfl rfl (hQ (1 : Int32) h)
theorem d_T_minimal_0 : decode prog_1_method_45_code 0 = .ok (.iload_n 1, 1) := by decide +kernel
theorem d_T_minimal_1 : decode prog_1_method_45_code 1 = .ok (.iload_n 2, 1) := by decide +kernel
theorem d_T_minimal_2 : decode prog_1_method_45_code 2 = .ok (.iload_n 1, 1) := by decide +kernel
theorem d_T_minimal_3 : decode prog_1_method_45_code 3 = .ok (.invokestatic 118, 3) := by decide +kernel
theorem d_T_minimal_6 : decode prog_1_method_45_code 6 = .ok (.ifCond .ne 7, 3) := by decide +kernel
theorem d_T_minimal_9 : decode prog_1_method_45_code 9 = .ok (.ldc2_w 172, 3) := by decide +kernel
theorem d_T_minimal_12 : decode prog_1_method_45_code 12 = .ok (.lreturn, 1) := by decide +kernel
theorem d_T_minimal_13 : decode prog_1_method_45_code 13 = .ok (.aload_n 0, 1) := by decide +kernel
theorem d_T_minimal_14 : decode prog_1_method_45_code 14 = .ok (.iload_n 1, 1) := by decide +kernel
theorem d_T_minimal_15 : decode prog_1_method_45_code 15 = .ok (.iload_n 2, 1) := by decide +kernel
theorem d_T_minimal_16 : decode prog_1_method_45_code 16 = .ok (.invokevirtual 335, 3) := by decide +kernel
theorem d_T_minimal_19 : decode prog_1_method_45_code 19 = .ok (.ifCond .eq 29, 3) := by decide +kernel
theorem d_T_minimal_22 : decode prog_1_method_45_code 22 = .ok (.aload_n 0, 1) := by decide +kernel
theorem d_T_minimal_23 : decode prog_1_method_45_code 23 = .ok (.getfield 50, 3) := by decide +kernel
theorem d_T_minimal_26 : decode prog_1_method_45_code 26 = .ok (.aload_n 0, 1) := by decide +kernel
theorem d_T_minimal_27 : decode prog_1_method_45_code 27 = .ok (.getfield 19, 3) := by decide +kernel
theorem d_T_minimal_30 : decode prog_1_method_45_code 30 = .ok (.iload_n 1, 1) := by decide +kernel
theorem d_T_minimal_31 : decode prog_1_method_45_code 31 = .ok (.invokevirtual 122, 3) := by decide +kernel
theorem d_T_minimal_34 : decode prog_1_method_45_code 34 = .ok (.aload_n 0, 1) := by decide +kernel
theorem d_T_minimal_35 : decode prog_1_method_45_code 35 = .ok (.getfield 19, 3) := by decide +kernel
theorem d_T_minimal_38 : decode prog_1_method_45_code 38 = .ok (.iload_n 2, 1) := by decide +kernel
theorem d_T_minimal_39 : decode prog_1_method_45_code 39 = .ok (.invokevirtual 122, 3) := by decide +kernel
theorem d_T_minimal_42 : decode prog_1_method_45_code 42 = .ok (.invokevirtual 339, 3) := by decide +kernel
theorem d_T_minimal_45 : decode prog_1_method_45_code 45 = .ok (.goto 6, 3) := by decide +kernel
theorem d_T_minimal_48 : decode prog_1_method_45_code 48 = .ok (.ldc2_w 178, 3) := by decide +kernel
theorem d_T_minimal_51 : decode prog_1_method_45_code 51 = .ok (.lreturn, 1) := by decide +kernel
def cf_T_minimal (a0 : Int32) (a1 : Int32) (w : Wd) (P : Int64 → Wd → Prop) : Prop :=
  cf_T_arePlaces a0 a1 a0 (fun r1 => ((¬ r1 = 0 → cf_T_isElement a0 a1 w (fun r2 => ((r2 = 0 → P (-2 : Int64) w) ∧ (¬ r2 = 0 → cf_Store_polyAt a0 w (fun r3 => cf_Store_polyAt a1 w (fun r4 => cf_Field_leastPoly r3 r4 w (fun r5 w6 => P r5 w6))))))) ∧ (r1 = 0 → P (-1 : Int64) w)))
theorem cf_T_minimal_ok {g : ayG} {d : Nat} (hd : 6 ≤ d) (a0 : Int32) (a1 : Int32)  (w : Wd) (P : Int64 → Wd → Prop) (h : cf_T_minimal a0 a1 w P) : Call g y_T_minimal prog_1_method_45_code 3 (some FieldType.long) d [.ref (g.1 + 0), .int a0, .int a1] w (fun (r : Option Value) (w2 : Wd) => ∃ x, r = some (.long x) ∧ P x w2) := by
  unfold cf_T_minimal at h
  refine am_enter mi_T_minimal (Nat.le_of_ble_eq_true rfl) ?_
  have hQ : ∀ x w2, P x w2 → (fun (r : Option Value) (w2 : Wd) => ∃ x, r = some (.long x) ∧ P x w2) (some (.long x)) w2 := fun x w2 h => ⟨x, rfl, h⟩
  generalize (fun (r : Option Value) (w2 : Wd) => ∃ x, r = some (.long x) ∧ P x w2) = Q at hQ ⊢
  show wp g (fun _ => True) y_T_minimal prog_1_method_45_code 3 (some FieldType.long) d 0 [(0, .ref (g.1 + 0)), (1, .int a0), (2, .int a1)] [] w Q
  refine am_iload_n d_T_minimal_0 1 rfl ?_
  refine am_iload_n d_T_minimal_1 2 rfl ?_
  refine am_iload_n d_T_minimal_2 1 rfl ?_
  refine am_callS (d2 := d - 1) [.int a0, .int a1, .int a0] d_T_minimal_3 mi_T_arePlaces wd_465 wd_466 (by omega) rfl rfl (Nat.le_of_ble_eq_true rfl) ?_
  refine Call.post ?_ (cf_T_arePlaces_ok (by omega) a0 a1 a0  w _ h)
  rintro _ _ ⟨r1, rfl, rfl, h⟩
  show wp g (fun _ => True) y_T_minimal prog_1_method_45_code 3 (some FieldType.long) d 6 [(0, .ref (g.1 + 0)), (1, .int a0), (2, .int a1)] [.int r1] w Q
  refine am_if_ne (tgt := 13) d_T_minimal_6 (by decide) (fun c6 => ?_) (fun c6 => ?_)
  · have h := h.1 c6
    refine am_aload_n d_T_minimal_13 0 rfl ?_
    refine am_iload_n d_T_minimal_14 1 rfl ?_
    refine am_iload_n d_T_minimal_15 2 rfl ?_
    refine am_callV (C := y_T_isElement.cls) (d2 := d - 1) [.int a0, .int a1] d_T_minimal_16 mi_T_isElement wd_994 wd_996 ws_T_isElement (by decide) (el_T (show ay_sh 0 = _ from rfl)) rfl rfl (by omega) rfl rfl (Nat.le_of_ble_eq_true rfl) ?_
    refine Call.post ?_ (cf_T_isElement_ok (by omega) a0 a1  w _ h)
    rintro _ _ ⟨r2, rfl, rfl, h⟩
    show wp g (fun _ => True) y_T_minimal prog_1_method_45_code 3 (some FieldType.long) d 19 [(0, .ref (g.1 + 0)), (1, .int a0), (2, .int a1)] [.int r2] w Q
    refine am_if_eq (tgt := 48) d_T_minimal_19 (by decide) (fun c19 => ?_) (fun c19 => ?_)
    · have h := h.1 c19
      refine am_ldc2 (v := -2) d_T_minimal_48 wd_565 ?_
      exact am_lreturn d_T_minimal_51 rfl (hQ (-2 : Int64) w h)
    · have h := h.2 c19
      refine am_aload_n d_T_minimal_22 0 rfl ?_
      refine am_getf (T := F_T) (fs := ob_T g w 0) (C := R_T) (N := 9) (ci := 0) 6 d_T_minimal_23 wd_200 rfl (by decide) (el_T (show ay_sh 0 = _ from rfl)) rfl i_T (by decide) rfl ?_
      refine am_aload_n d_T_minimal_26 0 rfl ?_
      refine am_getf (T := F_T) (fs := ob_T g w 0) (C := R_T) (N := 9) (ci := 0) 1 d_T_minimal_27 wd_195 rfl (by decide) (el_T (show ay_sh 0 = _ from rfl)) rfl i_T (by decide) rfl ?_
      refine am_iload_n d_T_minimal_30 1 rfl ?_
      refine am_callV (C := "TriSplits$Store") (d2 := d - 1) [.int a0] d_T_minimal_31 mi_Store_polyAt wd_468 wd_259 wd_260 (by decide) (el_Store (show ay_sh 6 = _ from rfl)) rfl rfl (by omega) rfl rfl (Nat.le_of_ble_eq_true rfl) ?_
      refine Call.post ?_ (cf_Store_polyAt_ok (by omega) a0  w _ h)
      rintro _ _ ⟨r3, rfl, rfl, h⟩
      show wp g (fun _ => True) y_T_minimal prog_1_method_45_code 3 (some FieldType.long) d 34 [(0, .ref (g.1 + 0)), (1, .int a0), (2, .int a1)] [.long r3, .ref (g.1 + 23)] w Q
      refine am_aload_n d_T_minimal_34 0 rfl ?_
      refine am_getf (T := F_T) (fs := ob_T g w 0) (C := R_T) (N := 9) (ci := 0) 1 d_T_minimal_35 wd_195 rfl (by decide) (el_T (show ay_sh 0 = _ from rfl)) rfl i_T (by decide) rfl ?_
      refine am_iload_n d_T_minimal_38 2 rfl ?_
      refine am_callV (C := "TriSplits$Store") (d2 := d - 1) [.int a1] d_T_minimal_39 mi_Store_polyAt wd_468 wd_259 wd_260 (by decide) (el_Store (show ay_sh 6 = _ from rfl)) rfl rfl (by omega) rfl rfl (Nat.le_of_ble_eq_true rfl) ?_
      refine Call.post ?_ (cf_Store_polyAt_ok (by omega) a1  w _ h)
      rintro _ _ ⟨r4, rfl, rfl, h⟩
      show wp g (fun _ => True) y_T_minimal prog_1_method_45_code 3 (some FieldType.long) d 42 [(0, .ref (g.1 + 0)), (1, .int a0), (2, .int a1)] [.long r4, .long r3, .ref (g.1 + 23)] w Q
      refine am_callV (C := "TriSplits$Field") (d2 := d - 1) [.long r3, .long r4] d_T_minimal_42 mi_Field_leastPoly wd_998 wd_999 wd_1000 (by decide) (el_Field (show ay_sh 23 = _ from rfl)) rfl rfl (by omega) rfl rfl (Nat.le_of_ble_eq_true rfl) ?_
      refine Call.post ?_ (cf_Field_leastPoly_ok (by omega) r3 r4  w _ h)
      rintro _ w6 ⟨r5, rfl, h⟩
      show wp g (fun _ => True) y_T_minimal prog_1_method_45_code 3 (some FieldType.long) d 45 [(0, .ref (g.1 + 0)), (1, .int a0), (2, .int a1)] [.long r5] w6 Q
      refine am_goto (tgt := 51) d_T_minimal_45 (by decide) ?_
      exact am_lreturn d_T_minimal_51 rfl (hQ r5 w6 h)
  · have h := h.2 c6
    refine am_ldc2 (v := -1) d_T_minimal_9 wd_560 ?_
    exact am_lreturn d_T_minimal_12 rfl (hQ (-1 : Int64) w h)
theorem d_T_trace_0 : decode prog_1_method_46_code 0 = .ok (.iload_n 1, 1) := by decide +kernel
theorem d_T_trace_1 : decode prog_1_method_46_code 1 = .ok (.iload_n 2, 1) := by decide +kernel
theorem d_T_trace_2 : decode prog_1_method_46_code 2 = .ok (.iload_n 1, 1) := by decide +kernel
theorem d_T_trace_3 : decode prog_1_method_46_code 3 = .ok (.invokestatic 118, 3) := by decide +kernel
theorem d_T_trace_6 : decode prog_1_method_46_code 6 = .ok (.ifCond .ne 5, 3) := by decide +kernel
theorem d_T_trace_9 : decode prog_1_method_46_code 9 = .ok (.iconst (-1), 1) := by decide +kernel
theorem d_T_trace_10 : decode prog_1_method_46_code 10 = .ok (.ireturn, 1) := by decide +kernel
theorem d_T_trace_11 : decode prog_1_method_46_code 11 = .ok (.aload_n 0, 1) := by decide +kernel
theorem d_T_trace_12 : decode prog_1_method_46_code 12 = .ok (.iload_n 1, 1) := by decide +kernel
theorem d_T_trace_13 : decode prog_1_method_46_code 13 = .ok (.iload_n 2, 1) := by decide +kernel
theorem d_T_trace_14 : decode prog_1_method_46_code 14 = .ok (.invokevirtual 335, 3) := by decide +kernel
theorem d_T_trace_17 : decode prog_1_method_46_code 17 = .ok (.ifCond .eq 25, 3) := by decide +kernel
theorem d_T_trace_20 : decode prog_1_method_46_code 20 = .ok (.aload_n 0, 1) := by decide +kernel
theorem d_T_trace_21 : decode prog_1_method_46_code 21 = .ok (.getfield 19, 3) := by decide +kernel
theorem d_T_trace_24 : decode prog_1_method_46_code 24 = .ok (.iload_n 1, 1) := by decide +kernel
theorem d_T_trace_25 : decode prog_1_method_46_code 25 = .ok (.invokevirtual 122, 3) := by decide +kernel
theorem d_T_trace_28 : decode prog_1_method_46_code 28 = .ok (.aload_n 0, 1) := by decide +kernel
theorem d_T_trace_29 : decode prog_1_method_46_code 29 = .ok (.getfield 19, 3) := by decide +kernel
theorem d_T_trace_32 : decode prog_1_method_46_code 32 = .ok (.iload_n 2, 1) := by decide +kernel
theorem d_T_trace_33 : decode prog_1_method_46_code 33 = .ok (.invokevirtual 122, 3) := by decide +kernel
theorem d_T_trace_36 : decode prog_1_method_46_code 36 = .ok (.invokestatic 342, 3) := by decide +kernel
theorem d_T_trace_39 : decode prog_1_method_46_code 39 = .ok (.goto 5, 3) := by decide +kernel
theorem d_T_trace_42 : decode prog_1_method_46_code 42 = .ok (.bipush (-2), 2) := by decide +kernel
theorem d_T_trace_44 : decode prog_1_method_46_code 44 = .ok (.ireturn, 1) := by decide +kernel
def cf_T_trace (a0 : Int32) (a1 : Int32) (w : Wd) (P : Int32 → Prop) : Prop :=
  cf_T_arePlaces a0 a1 a0 (fun r1 => ((¬ r1 = 0 → cf_T_isElement a0 a1 w (fun r2 => ((r2 = 0 → P (-2 : Int32)) ∧ (¬ r2 = 0 → cf_Store_polyAt a0 w (fun r3 => cf_Store_polyAt a1 w (fun r4 => cf_Field_traceOf r3 r4 (fun r5 => P r5))))))) ∧ (r1 = 0 → P (-1 : Int32))))
theorem cf_T_trace_ok {g : ayG} {d : Nat} (hd : 6 ≤ d) (a0 : Int32) (a1 : Int32)  (w : Wd) (P : Int32 → Prop) (h : cf_T_trace a0 a1 w P) : Call g y_T_trace prog_1_method_46_code 3 (some FieldType.int) d [.ref (g.1 + 0), .int a0, .int a1] w (fun (r : Option Value) (w2 : Wd) => ∃ x, r = some (.int x) ∧ w = w2 ∧ P x) := by
  unfold cf_T_trace at h
  refine am_enter mi_T_trace (Nat.le_of_ble_eq_true rfl) ?_
  have hQ : ∀ x, P x → (fun (r : Option Value) (w2 : Wd) => ∃ x, r = some (.int x) ∧ w = w2 ∧ P x) (some (.int x)) w := fun x h => ⟨x, rfl, rfl, h⟩
  generalize (fun (r : Option Value) (w2 : Wd) => ∃ x, r = some (.int x) ∧ w = w2 ∧ P x) = Q at hQ ⊢
  show wp g (fun _ => True) y_T_trace prog_1_method_46_code 3 (some FieldType.int) d 0 [(0, .ref (g.1 + 0)), (1, .int a0), (2, .int a1)] [] w Q
  refine am_iload_n d_T_trace_0 1 rfl ?_
  refine am_iload_n d_T_trace_1 2 rfl ?_
  refine am_iload_n d_T_trace_2 1 rfl ?_
  refine am_callS (d2 := d - 1) [.int a0, .int a1, .int a0] d_T_trace_3 mi_T_arePlaces wd_465 wd_466 (by omega) rfl rfl (Nat.le_of_ble_eq_true rfl) ?_
  refine Call.post ?_ (cf_T_arePlaces_ok (by omega) a0 a1 a0  w _ h)
  rintro _ _ ⟨r1, rfl, rfl, h⟩
  show wp g (fun _ => True) y_T_trace prog_1_method_46_code 3 (some FieldType.int) d 6 [(0, .ref (g.1 + 0)), (1, .int a0), (2, .int a1)] [.int r1] w Q
  refine am_if_ne (tgt := 11) d_T_trace_6 (by decide) (fun c6 => ?_) (fun c6 => ?_)
  · have h := h.1 c6
    refine am_aload_n d_T_trace_11 0 rfl ?_
    refine am_iload_n d_T_trace_12 1 rfl ?_
    refine am_iload_n d_T_trace_13 2 rfl ?_
    refine am_callV (C := y_T_isElement.cls) (d2 := d - 1) [.int a0, .int a1] d_T_trace_14 mi_T_isElement wd_994 wd_996 ws_T_isElement (by decide) (el_T (show ay_sh 0 = _ from rfl)) rfl rfl (by omega) rfl rfl (Nat.le_of_ble_eq_true rfl) ?_
    refine Call.post ?_ (cf_T_isElement_ok (by omega) a0 a1  w _ h)
    rintro _ _ ⟨r2, rfl, rfl, h⟩
    show wp g (fun _ => True) y_T_trace prog_1_method_46_code 3 (some FieldType.int) d 17 [(0, .ref (g.1 + 0)), (1, .int a0), (2, .int a1)] [.int r2] w Q
    refine am_if_eq (tgt := 42) d_T_trace_17 (by decide) (fun c17 => ?_) (fun c17 => ?_)
    · have h := h.1 c17
      refine am_bipush (v := -2) d_T_trace_42 rfl ?_
      exact am_ireturn d_T_trace_44 rfl rfl (hQ (-2 : Int32) h)
    · have h := h.2 c17
      refine am_aload_n d_T_trace_20 0 rfl ?_
      refine am_getf (T := F_T) (fs := ob_T g w 0) (C := R_T) (N := 9) (ci := 0) 1 d_T_trace_21 wd_195 rfl (by decide) (el_T (show ay_sh 0 = _ from rfl)) rfl i_T (by decide) rfl ?_
      refine am_iload_n d_T_trace_24 1 rfl ?_
      refine am_callV (C := "TriSplits$Store") (d2 := d - 1) [.int a0] d_T_trace_25 mi_Store_polyAt wd_468 wd_259 wd_260 (by decide) (el_Store (show ay_sh 6 = _ from rfl)) rfl rfl (by omega) rfl rfl (Nat.le_of_ble_eq_true rfl) ?_
      refine Call.post ?_ (cf_Store_polyAt_ok (by omega) a0  w _ h)
      rintro _ _ ⟨r3, rfl, rfl, h⟩
      show wp g (fun _ => True) y_T_trace prog_1_method_46_code 3 (some FieldType.int) d 28 [(0, .ref (g.1 + 0)), (1, .int a0), (2, .int a1)] [.long r3] w Q
      refine am_aload_n d_T_trace_28 0 rfl ?_
      refine am_getf (T := F_T) (fs := ob_T g w 0) (C := R_T) (N := 9) (ci := 0) 1 d_T_trace_29 wd_195 rfl (by decide) (el_T (show ay_sh 0 = _ from rfl)) rfl i_T (by decide) rfl ?_
      refine am_iload_n d_T_trace_32 2 rfl ?_
      refine am_callV (C := "TriSplits$Store") (d2 := d - 1) [.int a1] d_T_trace_33 mi_Store_polyAt wd_468 wd_259 wd_260 (by decide) (el_Store (show ay_sh 6 = _ from rfl)) rfl rfl (by omega) rfl rfl (Nat.le_of_ble_eq_true rfl) ?_
      refine Call.post ?_ (cf_Store_polyAt_ok (by omega) a1  w _ h)
      rintro _ _ ⟨r4, rfl, rfl, h⟩
      show wp g (fun _ => True) y_T_trace prog_1_method_46_code 3 (some FieldType.int) d 36 [(0, .ref (g.1 + 0)), (1, .int a0), (2, .int a1)] [.long r4, .long r3] w Q
      refine am_callS (d2 := d - 1) [.long r3, .long r4] d_T_trace_36 mi_Field_traceOf wd_1012 wd_1013 (by omega) rfl rfl (Nat.le_of_ble_eq_true rfl) ?_
      refine Call.post ?_ (cf_Field_traceOf_ok (by omega) r3 r4  w _ h)
      rintro _ _ ⟨r5, rfl, rfl, h⟩
      show wp g (fun _ => True) y_T_trace prog_1_method_46_code 3 (some FieldType.int) d 39 [(0, .ref (g.1 + 0)), (1, .int a0), (2, .int a1)] [.int r5] w Q
      refine am_goto (tgt := 44) d_T_trace_39 (by decide) ?_
      exact am_ireturn d_T_trace_44 rfl rfl (hQ r5 h)
  · have h := h.2 c6
    refine am_iconst (v := -1) d_T_trace_9 rfl ?_
    exact am_ireturn d_T_trace_10 rfl rfl (hQ (-1 : Int32) h)
theorem d_T_conjugates_0 : decode prog_1_method_47_code 0 = .ok (.iload_n 1, 1) := by decide +kernel
theorem d_T_conjugates_1 : decode prog_1_method_47_code 1 = .ok (.iload_n 2, 1) := by decide +kernel
theorem d_T_conjugates_2 : decode prog_1_method_47_code 2 = .ok (.iload_n 1, 1) := by decide +kernel
theorem d_T_conjugates_3 : decode prog_1_method_47_code 3 = .ok (.invokestatic 118, 3) := by decide +kernel
theorem d_T_conjugates_6 : decode prog_1_method_47_code 6 = .ok (.ifCond .ne 5, 3) := by decide +kernel
theorem d_T_conjugates_9 : decode prog_1_method_47_code 9 = .ok (.iconst (-1), 1) := by decide +kernel
theorem d_T_conjugates_10 : decode prog_1_method_47_code 10 = .ok (.ireturn, 1) := by decide +kernel
theorem d_T_conjugates_11 : decode prog_1_method_47_code 11 = .ok (.aload_n 0, 1) := by decide +kernel
theorem d_T_conjugates_12 : decode prog_1_method_47_code 12 = .ok (.iload_n 1, 1) := by decide +kernel
theorem d_T_conjugates_13 : decode prog_1_method_47_code 13 = .ok (.iload_n 2, 1) := by decide +kernel
theorem d_T_conjugates_14 : decode prog_1_method_47_code 14 = .ok (.invokevirtual 335, 3) := by decide +kernel
theorem d_T_conjugates_17 : decode prog_1_method_47_code 17 = .ok (.ifCond .eq 25, 3) := by decide +kernel
theorem d_T_conjugates_20 : decode prog_1_method_47_code 20 = .ok (.aload_n 0, 1) := by decide +kernel
theorem d_T_conjugates_21 : decode prog_1_method_47_code 21 = .ok (.getfield 19, 3) := by decide +kernel
theorem d_T_conjugates_24 : decode prog_1_method_47_code 24 = .ok (.iload_n 1, 1) := by decide +kernel
theorem d_T_conjugates_25 : decode prog_1_method_47_code 25 = .ok (.invokevirtual 122, 3) := by decide +kernel
theorem d_T_conjugates_28 : decode prog_1_method_47_code 28 = .ok (.aload_n 0, 1) := by decide +kernel
theorem d_T_conjugates_29 : decode prog_1_method_47_code 29 = .ok (.getfield 19, 3) := by decide +kernel
theorem d_T_conjugates_32 : decode prog_1_method_47_code 32 = .ok (.iload_n 2, 1) := by decide +kernel
theorem d_T_conjugates_33 : decode prog_1_method_47_code 33 = .ok (.invokevirtual 122, 3) := by decide +kernel
theorem d_T_conjugates_36 : decode prog_1_method_47_code 36 = .ok (.invokestatic 346, 3) := by decide +kernel
theorem d_T_conjugates_39 : decode prog_1_method_47_code 39 = .ok (.goto 5, 3) := by decide +kernel
theorem d_T_conjugates_42 : decode prog_1_method_47_code 42 = .ok (.bipush (-2), 2) := by decide +kernel
theorem d_T_conjugates_44 : decode prog_1_method_47_code 44 = .ok (.ireturn, 1) := by decide +kernel
def cf_T_conjugates (a0 : Int32) (a1 : Int32) (w : Wd) (P : Int32 → Prop) : Prop :=
  cf_T_arePlaces a0 a1 a0 (fun r1 => ((¬ r1 = 0 → cf_T_isElement a0 a1 w (fun r2 => ((r2 = 0 → P (-2 : Int32)) ∧ (¬ r2 = 0 → cf_Store_polyAt a0 w (fun r3 => cf_Store_polyAt a1 w (fun r4 => cf_Field_unlikeConjugates r3 r4 (fun r5 => P r5))))))) ∧ (r1 = 0 → P (-1 : Int32))))
theorem cf_T_conjugates_ok {g : ayG} {d : Nat} (hd : 6 ≤ d) (a0 : Int32) (a1 : Int32)  (w : Wd) (P : Int32 → Prop) (h : cf_T_conjugates a0 a1 w P) : Call g y_T_conjugates prog_1_method_47_code 3 (some FieldType.int) d [.ref (g.1 + 0), .int a0, .int a1] w (fun (r : Option Value) (w2 : Wd) => ∃ x, r = some (.int x) ∧ w = w2 ∧ P x) := by
  unfold cf_T_conjugates at h
  refine am_enter mi_T_conjugates (Nat.le_of_ble_eq_true rfl) ?_
  have hQ : ∀ x, P x → (fun (r : Option Value) (w2 : Wd) => ∃ x, r = some (.int x) ∧ w = w2 ∧ P x) (some (.int x)) w := fun x h => ⟨x, rfl, rfl, h⟩
  generalize (fun (r : Option Value) (w2 : Wd) => ∃ x, r = some (.int x) ∧ w = w2 ∧ P x) = Q at hQ ⊢
  show wp g (fun _ => True) y_T_conjugates prog_1_method_47_code 3 (some FieldType.int) d 0 [(0, .ref (g.1 + 0)), (1, .int a0), (2, .int a1)] [] w Q
  refine am_iload_n d_T_conjugates_0 1 rfl ?_
  refine am_iload_n d_T_conjugates_1 2 rfl ?_
  refine am_iload_n d_T_conjugates_2 1 rfl ?_
  refine am_callS (d2 := d - 1) [.int a0, .int a1, .int a0] d_T_conjugates_3 mi_T_arePlaces wd_465 wd_466 (by omega) rfl rfl (Nat.le_of_ble_eq_true rfl) ?_
  refine Call.post ?_ (cf_T_arePlaces_ok (by omega) a0 a1 a0  w _ h)
  rintro _ _ ⟨r1, rfl, rfl, h⟩
  show wp g (fun _ => True) y_T_conjugates prog_1_method_47_code 3 (some FieldType.int) d 6 [(0, .ref (g.1 + 0)), (1, .int a0), (2, .int a1)] [.int r1] w Q
  refine am_if_ne (tgt := 11) d_T_conjugates_6 (by decide) (fun c6 => ?_) (fun c6 => ?_)
  · have h := h.1 c6
    refine am_aload_n d_T_conjugates_11 0 rfl ?_
    refine am_iload_n d_T_conjugates_12 1 rfl ?_
    refine am_iload_n d_T_conjugates_13 2 rfl ?_
    refine am_callV (C := y_T_isElement.cls) (d2 := d - 1) [.int a0, .int a1] d_T_conjugates_14 mi_T_isElement wd_994 wd_996 ws_T_isElement (by decide) (el_T (show ay_sh 0 = _ from rfl)) rfl rfl (by omega) rfl rfl (Nat.le_of_ble_eq_true rfl) ?_
    refine Call.post ?_ (cf_T_isElement_ok (by omega) a0 a1  w _ h)
    rintro _ _ ⟨r2, rfl, rfl, h⟩
    show wp g (fun _ => True) y_T_conjugates prog_1_method_47_code 3 (some FieldType.int) d 17 [(0, .ref (g.1 + 0)), (1, .int a0), (2, .int a1)] [.int r2] w Q
    refine am_if_eq (tgt := 42) d_T_conjugates_17 (by decide) (fun c17 => ?_) (fun c17 => ?_)
    · have h := h.1 c17
      refine am_bipush (v := -2) d_T_conjugates_42 rfl ?_
      exact am_ireturn d_T_conjugates_44 rfl rfl (hQ (-2 : Int32) h)
    · have h := h.2 c17
      refine am_aload_n d_T_conjugates_20 0 rfl ?_
      refine am_getf (T := F_T) (fs := ob_T g w 0) (C := R_T) (N := 9) (ci := 0) 1 d_T_conjugates_21 wd_195 rfl (by decide) (el_T (show ay_sh 0 = _ from rfl)) rfl i_T (by decide) rfl ?_
      refine am_iload_n d_T_conjugates_24 1 rfl ?_
      refine am_callV (C := "TriSplits$Store") (d2 := d - 1) [.int a0] d_T_conjugates_25 mi_Store_polyAt wd_468 wd_259 wd_260 (by decide) (el_Store (show ay_sh 6 = _ from rfl)) rfl rfl (by omega) rfl rfl (Nat.le_of_ble_eq_true rfl) ?_
      refine Call.post ?_ (cf_Store_polyAt_ok (by omega) a0  w _ h)
      rintro _ _ ⟨r3, rfl, rfl, h⟩
      show wp g (fun _ => True) y_T_conjugates prog_1_method_47_code 3 (some FieldType.int) d 28 [(0, .ref (g.1 + 0)), (1, .int a0), (2, .int a1)] [.long r3] w Q
      refine am_aload_n d_T_conjugates_28 0 rfl ?_
      refine am_getf (T := F_T) (fs := ob_T g w 0) (C := R_T) (N := 9) (ci := 0) 1 d_T_conjugates_29 wd_195 rfl (by decide) (el_T (show ay_sh 0 = _ from rfl)) rfl i_T (by decide) rfl ?_
      refine am_iload_n d_T_conjugates_32 2 rfl ?_
      refine am_callV (C := "TriSplits$Store") (d2 := d - 1) [.int a1] d_T_conjugates_33 mi_Store_polyAt wd_468 wd_259 wd_260 (by decide) (el_Store (show ay_sh 6 = _ from rfl)) rfl rfl (by omega) rfl rfl (Nat.le_of_ble_eq_true rfl) ?_
      refine Call.post ?_ (cf_Store_polyAt_ok (by omega) a1  w _ h)
      rintro _ _ ⟨r4, rfl, rfl, h⟩
      show wp g (fun _ => True) y_T_conjugates prog_1_method_47_code 3 (some FieldType.int) d 36 [(0, .ref (g.1 + 0)), (1, .int a0), (2, .int a1)] [.long r4, .long r3] w Q
      refine am_callS (d2 := d - 1) [.long r3, .long r4] d_T_conjugates_36 mi_Field_unlikeConjugates wd_1020 wd_1003 (by omega) rfl rfl (Nat.le_of_ble_eq_true rfl) ?_
      refine Call.post ?_ (cf_Field_unlikeConjugates_ok (by omega) r3 r4  w _ h)
      rintro _ _ ⟨r5, rfl, rfl, h⟩
      show wp g (fun _ => True) y_T_conjugates prog_1_method_47_code 3 (some FieldType.int) d 39 [(0, .ref (g.1 + 0)), (1, .int a0), (2, .int a1)] [.int r5] w Q
      refine am_goto (tgt := 44) d_T_conjugates_39 (by decide) ?_
      exact am_ireturn d_T_conjugates_44 rfl rfl (hQ r5 h)
  · have h := h.2 c6
    refine am_iconst (v := -1) d_T_conjugates_9 rfl ?_
    exact am_ireturn d_T_conjugates_10 rfl rfl (hQ (-1 : Int32) h)
theorem d_T_log_0 : decode prog_1_method_48_code 0 = .ok (.iload_n 1, 1) := by decide +kernel
theorem d_T_log_1 : decode prog_1_method_48_code 1 = .ok (.iload_n 2, 1) := by decide +kernel
theorem d_T_log_2 : decode prog_1_method_48_code 2 = .ok (.iload_n 3, 1) := by decide +kernel
theorem d_T_log_3 : decode prog_1_method_48_code 3 = .ok (.invokestatic 118, 3) := by decide +kernel
theorem d_T_log_6 : decode prog_1_method_48_code 6 = .ok (.ifCond .ne 7, 3) := by decide +kernel
theorem d_T_log_9 : decode prog_1_method_48_code 9 = .ok (.ldc2_w 172, 3) := by decide +kernel
theorem d_T_log_12 : decode prog_1_method_48_code 12 = .ok (.lreturn, 1) := by decide +kernel
theorem d_T_log_13 : decode prog_1_method_48_code 13 = .ok (.aload_n 0, 1) := by decide +kernel
theorem d_T_log_14 : decode prog_1_method_48_code 14 = .ok (.getfield 19, 3) := by decide +kernel
theorem d_T_log_17 : decode prog_1_method_48_code 17 = .ok (.iload_n 3, 1) := by decide +kernel
theorem d_T_log_18 : decode prog_1_method_48_code 18 = .ok (.invokevirtual 122, 3) := by decide +kernel
theorem d_T_log_21 : decode prog_1_method_48_code 21 = .ok (.lstore 4, 2) := by decide +kernel
theorem d_T_log_23 : decode prog_1_method_48_code 23 = .ok (.lload 4, 2) := by decide +kernel
theorem d_T_log_25 : decode prog_1_method_48_code 25 = .ok (.invokestatic 158, 3) := by decide +kernel
theorem d_T_log_28 : decode prog_1_method_48_code 28 = .ok (.bipush 16, 2) := by decide +kernel
theorem d_T_log_30 : decode prog_1_method_48_code 30 = .ok (.if_icmp .gt 21, 3) := by decide +kernel
theorem d_T_log_33 : decode prog_1_method_48_code 33 = .ok (.aload_n 0, 1) := by decide +kernel
theorem d_T_log_34 : decode prog_1_method_48_code 34 = .ok (.iload_n 1, 1) := by decide +kernel
theorem d_T_log_35 : decode prog_1_method_48_code 35 = .ok (.iload_n 3, 1) := by decide +kernel
theorem d_T_log_36 : decode prog_1_method_48_code 36 = .ok (.invokevirtual 335, 3) := by decide +kernel
theorem d_T_log_39 : decode prog_1_method_48_code 39 = .ok (.ifCond .eq 12, 3) := by decide +kernel
theorem d_T_log_42 : decode prog_1_method_48_code 42 = .ok (.aload_n 0, 1) := by decide +kernel
theorem d_T_log_43 : decode prog_1_method_48_code 43 = .ok (.iload_n 2, 1) := by decide +kernel
theorem d_T_log_44 : decode prog_1_method_48_code 44 = .ok (.iload_n 3, 1) := by decide +kernel
theorem d_T_log_45 : decode prog_1_method_48_code 45 = .ok (.invokevirtual 335, 3) := by decide +kernel
theorem d_T_log_48 : decode prog_1_method_48_code 48 = .ok (.ifCond .ne 7, 3) := by decide +kernel
theorem d_T_log_51 : decode prog_1_method_48_code 51 = .ok (.ldc2_w 178, 3) := by decide +kernel
theorem d_T_log_54 : decode prog_1_method_48_code 54 = .ok (.lreturn, 1) := by decide +kernel
theorem d_T_log_55 : decode prog_1_method_48_code 55 = .ok (.aload_n 0, 1) := by decide +kernel
theorem d_T_log_56 : decode prog_1_method_48_code 56 = .ok (.getfield 50, 3) := by decide +kernel
theorem d_T_log_59 : decode prog_1_method_48_code 59 = .ok (.aload_n 0, 1) := by decide +kernel
theorem d_T_log_60 : decode prog_1_method_48_code 60 = .ok (.getfield 19, 3) := by decide +kernel
theorem d_T_log_63 : decode prog_1_method_48_code 63 = .ok (.iload_n 1, 1) := by decide +kernel
theorem d_T_log_64 : decode prog_1_method_48_code 64 = .ok (.invokevirtual 122, 3) := by decide +kernel
theorem d_T_log_67 : decode prog_1_method_48_code 67 = .ok (.aload_n 0, 1) := by decide +kernel
theorem d_T_log_68 : decode prog_1_method_48_code 68 = .ok (.getfield 19, 3) := by decide +kernel
theorem d_T_log_71 : decode prog_1_method_48_code 71 = .ok (.iload_n 2, 1) := by decide +kernel
theorem d_T_log_72 : decode prog_1_method_48_code 72 = .ok (.invokevirtual 122, 3) := by decide +kernel
theorem d_T_log_75 : decode prog_1_method_48_code 75 = .ok (.lload 4, 2) := by decide +kernel
theorem d_T_log_77 : decode prog_1_method_48_code 77 = .ok (.invokevirtual 349, 3) := by decide +kernel
theorem d_T_log_80 : decode prog_1_method_48_code 80 = .ok (.lstore 6, 2) := by decide +kernel
theorem d_T_log_82 : decode prog_1_method_48_code 82 = .ok (.lload 6, 2) := by decide +kernel
theorem d_T_log_84 : decode prog_1_method_48_code 84 = .ok (.ldc2_w 172, 3) := by decide +kernel
theorem d_T_log_87 : decode prog_1_method_48_code 87 = .ok (.lcmp, 1) := by decide +kernel
theorem d_T_log_88 : decode prog_1_method_48_code 88 = .ok (.ifCond .ne 9, 3) := by decide +kernel
theorem d_T_log_91 : decode prog_1_method_48_code 91 = .ok (.ldc2_w 352, 3) := by decide +kernel
theorem d_T_log_94 : decode prog_1_method_48_code 94 = .ok (.goto 5, 3) := by decide +kernel
theorem d_T_log_97 : decode prog_1_method_48_code 97 = .ok (.lload 6, 2) := by decide +kernel
theorem d_T_log_99 : decode prog_1_method_48_code 99 = .ok (.lreturn, 1) := by decide +kernel
def cf_T_log (a0 : Int32) (a1 : Int32) (a2 : Int32) (w : Wd) (P : Int64 → Wd → Prop) : Prop :=
  cf_T_arePlaces a0 a1 a2 (fun r1 => ((¬ r1 = 0 → cf_Store_polyAt a2 w (fun r2 => cf_Polys_degree r2 (fun r3 => (((16 : Int32) < r3 → P (-2 : Int64) w) ∧ (¬ (16 : Int32) < r3 → cf_T_isElement a0 a2 w (fun r4 => ((r4 = 0 → P (-2 : Int64) w) ∧ (¬ r4 = 0 → cf_T_isElement a1 a2 w (fun r5 => ((¬ r5 = 0 → cf_Store_polyAt a0 w (fun r6 => cf_Store_polyAt a1 w (fun r7 => cf_Field_logarithm r6 r7 r2 w (fun r8 w9 => ((¬ r8 = (-1 : Int64) → P r8 w9) ∧ (r8 = (-1 : Int64) → P (-3 : Int64) w9)))))) ∧ (r5 = 0 → P (-2 : Int64) w))))))))))) ∧ (r1 = 0 → P (-1 : Int64) w)))
theorem cf_T_log_ok {g : ayG} {d : Nat} (hd : 6 ≤ d) (a0 : Int32) (a1 : Int32) (a2 : Int32)  (w : Wd) (P : Int64 → Wd → Prop) (h : cf_T_log a0 a1 a2 w P) : Call g y_T_log prog_1_method_48_code 8 (some FieldType.long) d [.ref (g.1 + 0), .int a0, .int a1, .int a2] w (fun (r : Option Value) (w2 : Wd) => ∃ x, r = some (.long x) ∧ P x w2) := by
  unfold cf_T_log at h
  refine am_enter mi_T_log (Nat.le_of_ble_eq_true rfl) ?_
  have hQ : ∀ x w2, P x w2 → (fun (r : Option Value) (w2 : Wd) => ∃ x, r = some (.long x) ∧ P x w2) (some (.long x)) w2 := fun x w2 h => ⟨x, rfl, h⟩
  generalize (fun (r : Option Value) (w2 : Wd) => ∃ x, r = some (.long x) ∧ P x w2) = Q at hQ ⊢
  show wp g (fun _ => True) y_T_log prog_1_method_48_code 8 (some FieldType.long) d 0 [(0, .ref (g.1 + 0)), (1, .int a0), (2, .int a1), (3, .int a2)] [] w Q
  refine am_iload_n d_T_log_0 1 rfl ?_
  refine am_iload_n d_T_log_1 2 rfl ?_
  refine am_iload_n d_T_log_2 3 rfl ?_
  refine am_callS (d2 := d - 1) [.int a0, .int a1, .int a2] d_T_log_3 mi_T_arePlaces wd_465 wd_466 (by omega) rfl rfl (Nat.le_of_ble_eq_true rfl) ?_
  refine Call.post ?_ (cf_T_arePlaces_ok (by omega) a0 a1 a2  w _ h)
  rintro _ _ ⟨r1, rfl, rfl, h⟩
  show wp g (fun _ => True) y_T_log prog_1_method_48_code 8 (some FieldType.long) d 6 [(0, .ref (g.1 + 0)), (1, .int a0), (2, .int a1), (3, .int a2)] [.int r1] w Q
  refine am_if_ne (tgt := 13) d_T_log_6 (by decide) (fun c6 => ?_) (fun c6 => ?_)
  · have h := h.1 c6
    refine am_aload_n d_T_log_13 0 rfl ?_
    refine am_getf (T := F_T) (fs := ob_T g w 0) (C := R_T) (N := 9) (ci := 0) 1 d_T_log_14 wd_195 rfl (by decide) (el_T (show ay_sh 0 = _ from rfl)) rfl i_T (by decide) rfl ?_
    refine am_iload_n d_T_log_17 3 rfl ?_
    refine am_callV (C := "TriSplits$Store") (d2 := d - 1) [.int a2] d_T_log_18 mi_Store_polyAt wd_468 wd_259 wd_260 (by decide) (el_Store (show ay_sh 6 = _ from rfl)) rfl rfl (by omega) rfl rfl (Nat.le_of_ble_eq_true rfl) ?_
    refine Call.post ?_ (cf_Store_polyAt_ok (by omega) a2  w _ h)
    rintro _ _ ⟨r2, rfl, rfl, h⟩
    show wp g (fun _ => True) y_T_log prog_1_method_48_code 8 (some FieldType.long) d 21 [(0, .ref (g.1 + 0)), (1, .int a0), (2, .int a1), (3, .int a2)] [.long r2] w Q
    refine am_lstore (l' := [(4, .long r2), (0, .ref (g.1 + 0)), (1, .int a0), (2, .int a1), (3, .int a2)]) d_T_log_21 (by decide) rfl ?_
    refine am_lload d_T_log_23 0 rfl ?_
    refine am_callS (d2 := d - 1) [.long r2] d_T_log_25 mi_Polys_degree wd_460 wd_391 (by omega) rfl rfl (Nat.le_of_ble_eq_true rfl) ?_
    refine Call.post ?_ (cf_Polys_degree_ok (by omega) r2  w _ h)
    rintro _ _ ⟨r3, rfl, rfl, h⟩
    show wp g (fun _ => True) y_T_log prog_1_method_48_code 8 (some FieldType.long) d 28 [(4, .long r2), (0, .ref (g.1 + 0)), (1, .int a0), (2, .int a1), (3, .int a2)] [.int r3] w Q
    refine am_bipush (v := 16) d_T_log_28 rfl ?_
    refine am_icmp_gt (tgt := 51) d_T_log_30 (by decide) (fun c30 => ?_) (fun c30 => ?_)
    · have h := h.1 c30
      refine am_ldc2 (v := -2) d_T_log_51 wd_565 ?_
      exact am_lreturn d_T_log_54 rfl (hQ (-2 : Int64) w h)
    · have h := h.2 c30
      refine am_aload_n d_T_log_33 1 rfl ?_
      refine am_iload_n d_T_log_34 2 rfl ?_
      refine am_iload_n d_T_log_35 4 rfl ?_
      refine am_callV (C := y_T_isElement.cls) (d2 := d - 1) [.int a0, .int a2] d_T_log_36 mi_T_isElement wd_994 wd_996 ws_T_isElement (by decide) (el_T (show ay_sh 0 = _ from rfl)) rfl rfl (by omega) rfl rfl (Nat.le_of_ble_eq_true rfl) ?_
      refine Call.post ?_ (cf_T_isElement_ok (by omega) a0 a2  w _ h)
      rintro _ _ ⟨r4, rfl, rfl, h⟩
      show wp g (fun _ => True) y_T_log prog_1_method_48_code 8 (some FieldType.long) d 39 [(4, .long r2), (0, .ref (g.1 + 0)), (1, .int a0), (2, .int a1), (3, .int a2)] [.int r4] w Q
      refine am_if_eq (tgt := 51) d_T_log_39 (by decide) (fun c39 => ?_) (fun c39 => ?_)
      · have h := h.1 c39
        refine am_ldc2 (v := -2) d_T_log_51 wd_565 ?_
        exact am_lreturn d_T_log_54 rfl (hQ (-2 : Int64) w h)
      · have h := h.2 c39
        refine am_aload_n d_T_log_42 1 rfl ?_
        refine am_iload_n d_T_log_43 3 rfl ?_
        refine am_iload_n d_T_log_44 4 rfl ?_
        refine am_callV (C := y_T_isElement.cls) (d2 := d - 1) [.int a1, .int a2] d_T_log_45 mi_T_isElement wd_994 wd_996 ws_T_isElement (by decide) (el_T (show ay_sh 0 = _ from rfl)) rfl rfl (by omega) rfl rfl (Nat.le_of_ble_eq_true rfl) ?_
        refine Call.post ?_ (cf_T_isElement_ok (by omega) a1 a2  w _ h)
        rintro _ _ ⟨r5, rfl, rfl, h⟩
        show wp g (fun _ => True) y_T_log prog_1_method_48_code 8 (some FieldType.long) d 48 [(4, .long r2), (0, .ref (g.1 + 0)), (1, .int a0), (2, .int a1), (3, .int a2)] [.int r5] w Q
        refine am_if_ne (tgt := 55) d_T_log_48 (by decide) (fun c48 => ?_) (fun c48 => ?_)
        · have h := h.1 c48
          refine am_aload_n d_T_log_55 1 rfl ?_
          refine am_getf (T := F_T) (fs := ob_T g w 0) (C := R_T) (N := 9) (ci := 0) 6 d_T_log_56 wd_200 rfl (by decide) (el_T (show ay_sh 0 = _ from rfl)) rfl i_T (by decide) rfl ?_
          refine am_aload_n d_T_log_59 1 rfl ?_
          refine am_getf (T := F_T) (fs := ob_T g w 0) (C := R_T) (N := 9) (ci := 0) 1 d_T_log_60 wd_195 rfl (by decide) (el_T (show ay_sh 0 = _ from rfl)) rfl i_T (by decide) rfl ?_
          refine am_iload_n d_T_log_63 2 rfl ?_
          refine am_callV (C := "TriSplits$Store") (d2 := d - 1) [.int a0] d_T_log_64 mi_Store_polyAt wd_468 wd_259 wd_260 (by decide) (el_Store (show ay_sh 6 = _ from rfl)) rfl rfl (by omega) rfl rfl (Nat.le_of_ble_eq_true rfl) ?_
          refine Call.post ?_ (cf_Store_polyAt_ok (by omega) a0  w _ h)
          rintro _ _ ⟨r6, rfl, rfl, h⟩
          show wp g (fun _ => True) y_T_log prog_1_method_48_code 8 (some FieldType.long) d 67 [(4, .long r2), (0, .ref (g.1 + 0)), (1, .int a0), (2, .int a1), (3, .int a2)] [.long r6, .ref (g.1 + 23)] w Q
          refine am_aload_n d_T_log_67 1 rfl ?_
          refine am_getf (T := F_T) (fs := ob_T g w 0) (C := R_T) (N := 9) (ci := 0) 1 d_T_log_68 wd_195 rfl (by decide) (el_T (show ay_sh 0 = _ from rfl)) rfl i_T (by decide) rfl ?_
          refine am_iload_n d_T_log_71 3 rfl ?_
          refine am_callV (C := "TriSplits$Store") (d2 := d - 1) [.int a1] d_T_log_72 mi_Store_polyAt wd_468 wd_259 wd_260 (by decide) (el_Store (show ay_sh 6 = _ from rfl)) rfl rfl (by omega) rfl rfl (Nat.le_of_ble_eq_true rfl) ?_
          refine Call.post ?_ (cf_Store_polyAt_ok (by omega) a1  w _ h)
          rintro _ _ ⟨r7, rfl, rfl, h⟩
          show wp g (fun _ => True) y_T_log prog_1_method_48_code 8 (some FieldType.long) d 75 [(4, .long r2), (0, .ref (g.1 + 0)), (1, .int a0), (2, .int a1), (3, .int a2)] [.long r7, .long r6, .ref (g.1 + 23)] w Q
          refine am_lload d_T_log_75 0 rfl ?_
          refine am_callV (C := "TriSplits$Field") (d2 := d - 1) [.long r6, .long r7, .long r2] d_T_log_77 mi_Field_logarithm wd_1025 wd_1026 wd_1027 (by decide) (el_Field (show ay_sh 23 = _ from rfl)) rfl rfl (by omega) rfl rfl (Nat.le_of_ble_eq_true rfl) ?_
          refine Call.post ?_ (cf_Field_logarithm_ok (by omega) r6 r7 r2  w _ h)
          rintro _ w9 ⟨r8, rfl, h⟩
          show wp g (fun _ => True) y_T_log prog_1_method_48_code 8 (some FieldType.long) d 80 [(4, .long r2), (0, .ref (g.1 + 0)), (1, .int a0), (2, .int a1), (3, .int a2)] [.long r8] w9 Q
          refine am_lstore (l' := [(6, .long r8), (4, .long r2), (0, .ref (g.1 + 0)), (1, .int a0), (2, .int a1), (3, .int a2)]) d_T_log_80 (by decide) rfl ?_
          refine am_lload d_T_log_82 0 rfl ?_
          refine am_ldc2 (v := -1) d_T_log_84 wd_560 ?_
          refine am_lif_ne (tgt := 97) d_T_log_87 d_T_log_88 (by decide) (fun c87 => ?_) (fun c87 => ?_)
          · have h := h.1 c87
            refine am_lload d_T_log_97 0 rfl ?_
            exact am_lreturn d_T_log_99 rfl (hQ r8 w9 h)
          · have h := h.2 c87
            refine am_ldc2 (v := -3) d_T_log_91 wd_1036 ?_
            refine am_goto (tgt := 99) d_T_log_94 (by decide) ?_
            exact am_lreturn d_T_log_99 rfl (hQ (-3 : Int64) w9 h)
        · have h := h.2 c48
          refine am_ldc2 (v := -2) d_T_log_51 wd_565 ?_
          exact am_lreturn d_T_log_54 rfl (hQ (-2 : Int64) w h)
  · have h := h.2 c6
    refine am_ldc2 (v := -1) d_T_log_9 wd_560 ?_
    exact am_lreturn d_T_log_12 rfl (hQ (-1 : Int64) w h)
theorem d_T_roots_0 : decode prog_1_method_49_code 0 = .ok (.iload_n 1, 1) := by decide +kernel
theorem d_T_roots_1 : decode prog_1_method_49_code 1 = .ok (.iload_n 2, 1) := by decide +kernel
theorem d_T_roots_2 : decode prog_1_method_49_code 2 = .ok (.iload_n 1, 1) := by decide +kernel
theorem d_T_roots_3 : decode prog_1_method_49_code 3 = .ok (.invokestatic 118, 3) := by decide +kernel
theorem d_T_roots_6 : decode prog_1_method_49_code 6 = .ok (.ifCond .ne 5, 3) := by decide +kernel
theorem d_T_roots_9 : decode prog_1_method_49_code 9 = .ok (.iconst (-1), 1) := by decide +kernel
theorem d_T_roots_10 : decode prog_1_method_49_code 10 = .ok (.ireturn, 1) := by decide +kernel
theorem d_T_roots_11 : decode prog_1_method_49_code 11 = .ok (.aload_n 0, 1) := by decide +kernel
theorem d_T_roots_12 : decode prog_1_method_49_code 12 = .ok (.getfield 19, 3) := by decide +kernel
theorem d_T_roots_15 : decode prog_1_method_49_code 15 = .ok (.iload_n 2, 1) := by decide +kernel
theorem d_T_roots_16 : decode prog_1_method_49_code 16 = .ok (.invokevirtual 122, 3) := by decide +kernel
theorem d_T_roots_19 : decode prog_1_method_49_code 19 = .ok (.invokestatic 158, 3) := by decide +kernel
theorem d_T_roots_22 : decode prog_1_method_49_code 22 = .ok (.istore_n 3, 1) := by decide +kernel
theorem d_T_roots_23 : decode prog_1_method_49_code 23 = .ok (.iload_n 3, 1) := by decide +kernel
theorem d_T_roots_24 : decode prog_1_method_49_code 24 = .ok (.bipush 12, 2) := by decide +kernel
theorem d_T_roots_26 : decode prog_1_method_49_code 26 = .ok (.if_icmp .gt 17, 3) := by decide +kernel
theorem d_T_roots_29 : decode prog_1_method_49_code 29 = .ok (.aload_n 0, 1) := by decide +kernel
theorem d_T_roots_30 : decode prog_1_method_49_code 30 = .ok (.getfield 19, 3) := by decide +kernel
theorem d_T_roots_33 : decode prog_1_method_49_code 33 = .ok (.iload_n 2, 1) := by decide +kernel
theorem d_T_roots_34 : decode prog_1_method_49_code 34 = .ok (.invokevirtual 122, 3) := by decide +kernel
theorem d_T_roots_37 : decode prog_1_method_49_code 37 = .ok (.invokestatic 220, 3) := by decide +kernel
theorem d_T_roots_40 : decode prog_1_method_49_code 40 = .ok (.ifCond .ne 6, 3) := by decide +kernel
theorem d_T_roots_43 : decode prog_1_method_49_code 43 = .ok (.bipush (-2), 2) := by decide +kernel
theorem d_T_roots_45 : decode prog_1_method_49_code 45 = .ok (.ireturn, 1) := by decide +kernel
theorem d_T_roots_46 : decode prog_1_method_49_code 46 = .ok (.aload_n 0, 1) := by decide +kernel
theorem d_T_roots_47 : decode prog_1_method_49_code 47 = .ok (.getfield 19, 3) := by decide +kernel
theorem d_T_roots_50 : decode prog_1_method_49_code 50 = .ok (.iload_n 1, 1) := by decide +kernel
theorem d_T_roots_51 : decode prog_1_method_49_code 51 = .ok (.invokevirtual 122, 3) := by decide +kernel
theorem d_T_roots_54 : decode prog_1_method_49_code 54 = .ok (.iload_n 3, 1) := by decide +kernel
theorem d_T_roots_55 : decode prog_1_method_49_code 55 = .ok (.invokestatic 354, 3) := by decide +kernel
theorem d_T_roots_58 : decode prog_1_method_49_code 58 = .ok (.ireturn, 1) := by decide +kernel
def cf_T_roots (a0 : Int32) (a1 : Int32) (w : Wd) (P : Int32 → Prop) : Prop :=
  cf_T_arePlaces a0 a1 a0 (fun r1 => ((¬ r1 = 0 → cf_Store_polyAt a1 w (fun r2 => cf_Polys_degree r2 (fun r3 => (((12 : Int32) < r3 → P (-2 : Int32)) ∧ (¬ (12 : Int32) < r3 → cf_Store_polyAt a1 w (fun r4 => cf_Polys_isIrreducible r4 (fun r5 => ((¬ r5 = 0 → cf_Store_polyAt a0 w (fun r6 => cf_Field_countRoots r6 r3 (fun r7 => P r7))) ∧ (r5 = 0 → P (-2 : Int32)))))))))) ∧ (r1 = 0 → P (-1 : Int32))))
theorem cf_T_roots_ok {g : ayG} {d : Nat} (hd : 5 ≤ d) (a0 : Int32) (a1 : Int32)  (w : Wd) (P : Int32 → Prop) (h : cf_T_roots a0 a1 w P) : Call g y_T_roots prog_1_method_49_code 4 (some FieldType.int) d [.ref (g.1 + 0), .int a0, .int a1] w (fun (r : Option Value) (w2 : Wd) => ∃ x, r = some (.int x) ∧ w = w2 ∧ P x) := by
  unfold cf_T_roots at h
  refine am_enter mi_T_roots (Nat.le_of_ble_eq_true rfl) ?_
  have hQ : ∀ x, P x → (fun (r : Option Value) (w2 : Wd) => ∃ x, r = some (.int x) ∧ w = w2 ∧ P x) (some (.int x)) w := fun x h => ⟨x, rfl, rfl, h⟩
  generalize (fun (r : Option Value) (w2 : Wd) => ∃ x, r = some (.int x) ∧ w = w2 ∧ P x) = Q at hQ ⊢
  show wp g (fun _ => True) y_T_roots prog_1_method_49_code 4 (some FieldType.int) d 0 [(0, .ref (g.1 + 0)), (1, .int a0), (2, .int a1)] [] w Q
  refine am_iload_n d_T_roots_0 1 rfl ?_
  refine am_iload_n d_T_roots_1 2 rfl ?_
  refine am_iload_n d_T_roots_2 1 rfl ?_
  refine am_callS (d2 := d - 1) [.int a0, .int a1, .int a0] d_T_roots_3 mi_T_arePlaces wd_465 wd_466 (by omega) rfl rfl (Nat.le_of_ble_eq_true rfl) ?_
  refine Call.post ?_ (cf_T_arePlaces_ok (by omega) a0 a1 a0  w _ h)
  rintro _ _ ⟨r1, rfl, rfl, h⟩
  show wp g (fun _ => True) y_T_roots prog_1_method_49_code 4 (some FieldType.int) d 6 [(0, .ref (g.1 + 0)), (1, .int a0), (2, .int a1)] [.int r1] w Q
  refine am_if_ne (tgt := 11) d_T_roots_6 (by decide) (fun c6 => ?_) (fun c6 => ?_)
  · have h := h.1 c6
    refine am_aload_n d_T_roots_11 0 rfl ?_
    refine am_getf (T := F_T) (fs := ob_T g w 0) (C := R_T) (N := 9) (ci := 0) 1 d_T_roots_12 wd_195 rfl (by decide) (el_T (show ay_sh 0 = _ from rfl)) rfl i_T (by decide) rfl ?_
    refine am_iload_n d_T_roots_15 2 rfl ?_
    refine am_callV (C := "TriSplits$Store") (d2 := d - 1) [.int a1] d_T_roots_16 mi_Store_polyAt wd_468 wd_259 wd_260 (by decide) (el_Store (show ay_sh 6 = _ from rfl)) rfl rfl (by omega) rfl rfl (Nat.le_of_ble_eq_true rfl) ?_
    refine Call.post ?_ (cf_Store_polyAt_ok (by omega) a1  w _ h)
    rintro _ _ ⟨r2, rfl, rfl, h⟩
    show wp g (fun _ => True) y_T_roots prog_1_method_49_code 4 (some FieldType.int) d 19 [(0, .ref (g.1 + 0)), (1, .int a0), (2, .int a1)] [.long r2] w Q
    refine am_callS (d2 := d - 1) [.long r2] d_T_roots_19 mi_Polys_degree wd_460 wd_391 (by omega) rfl rfl (Nat.le_of_ble_eq_true rfl) ?_
    refine Call.post ?_ (cf_Polys_degree_ok (by omega) r2  w _ h)
    rintro _ _ ⟨r3, rfl, rfl, h⟩
    show wp g (fun _ => True) y_T_roots prog_1_method_49_code 4 (some FieldType.int) d 22 [(0, .ref (g.1 + 0)), (1, .int a0), (2, .int a1)] [.int r3] w Q
    refine am_istore_n (l' := [(3, .int r3), (0, .ref (g.1 + 0)), (1, .int a0), (2, .int a1)]) d_T_roots_22 (by decide) rfl ?_
    refine am_iload_n d_T_roots_23 0 rfl ?_
    refine am_bipush (v := 12) d_T_roots_24 rfl ?_
    refine am_icmp_gt (tgt := 43) d_T_roots_26 (by decide) (fun c26 => ?_) (fun c26 => ?_)
    · have h := h.1 c26
      refine am_bipush (v := -2) d_T_roots_43 rfl ?_
      exact am_ireturn d_T_roots_45 rfl rfl (hQ (-2 : Int32) h)
    · have h := h.2 c26
      refine am_aload_n d_T_roots_29 1 rfl ?_
      refine am_getf (T := F_T) (fs := ob_T g w 0) (C := R_T) (N := 9) (ci := 0) 1 d_T_roots_30 wd_195 rfl (by decide) (el_T (show ay_sh 0 = _ from rfl)) rfl i_T (by decide) rfl ?_
      refine am_iload_n d_T_roots_33 3 rfl ?_
      refine am_callV (C := "TriSplits$Store") (d2 := d - 1) [.int a1] d_T_roots_34 mi_Store_polyAt wd_468 wd_259 wd_260 (by decide) (el_Store (show ay_sh 6 = _ from rfl)) rfl rfl (by omega) rfl rfl (Nat.le_of_ble_eq_true rfl) ?_
      refine Call.post ?_ (cf_Store_polyAt_ok (by omega) a1  w _ h)
      rintro _ _ ⟨r4, rfl, rfl, h⟩
      show wp g (fun _ => True) y_T_roots prog_1_method_49_code 4 (some FieldType.int) d 37 [(3, .int r3), (0, .ref (g.1 + 0)), (1, .int a0), (2, .int a1)] [.long r4] w Q
      refine am_callS (d2 := d - 1) [.long r4] d_T_roots_37 mi_Polys_isIrreducible wd_643 wd_644 (by omega) rfl rfl (Nat.le_of_ble_eq_true rfl) ?_
      refine Call.post ?_ (cf_Polys_isIrreducible_ok (by omega) r4  w _ h)
      rintro _ _ ⟨r5, rfl, rfl, h⟩
      show wp g (fun _ => True) y_T_roots prog_1_method_49_code 4 (some FieldType.int) d 40 [(3, .int r3), (0, .ref (g.1 + 0)), (1, .int a0), (2, .int a1)] [.int r5] w Q
      refine am_if_ne (tgt := 46) d_T_roots_40 (by decide) (fun c40 => ?_) (fun c40 => ?_)
      · have h := h.1 c40
        refine am_aload_n d_T_roots_46 1 rfl ?_
        refine am_getf (T := F_T) (fs := ob_T g w 0) (C := R_T) (N := 9) (ci := 0) 1 d_T_roots_47 wd_195 rfl (by decide) (el_T (show ay_sh 0 = _ from rfl)) rfl i_T (by decide) rfl ?_
        refine am_iload_n d_T_roots_50 2 rfl ?_
        refine am_callV (C := "TriSplits$Store") (d2 := d - 1) [.int a0] d_T_roots_51 mi_Store_polyAt wd_468 wd_259 wd_260 (by decide) (el_Store (show ay_sh 6 = _ from rfl)) rfl rfl (by omega) rfl rfl (Nat.le_of_ble_eq_true rfl) ?_
        refine Call.post ?_ (cf_Store_polyAt_ok (by omega) a0  w _ h)
        rintro _ _ ⟨r6, rfl, rfl, h⟩
        show wp g (fun _ => True) y_T_roots prog_1_method_49_code 4 (some FieldType.int) d 54 [(3, .int r3), (0, .ref (g.1 + 0)), (1, .int a0), (2, .int a1)] [.long r6] w Q
        refine am_iload_n d_T_roots_54 0 rfl ?_
        refine am_callS (d2 := d - 1) [.long r6, .int r3] d_T_roots_55 mi_Field_countRoots wd_1041 wd_1042 (by omega) rfl rfl (Nat.le_of_ble_eq_true rfl) ?_
        refine Call.post ?_ (cf_Field_countRoots_ok (by omega) r6 r3  w _ h)
        rintro _ _ ⟨r7, rfl, rfl, h⟩
        show wp g (fun _ => True) y_T_roots prog_1_method_49_code 4 (some FieldType.int) d 58 [(3, .int r3), (0, .ref (g.1 + 0)), (1, .int a0), (2, .int a1)] [.int r7] w Q
        exact am_ireturn d_T_roots_58 rfl rfl (hQ r7 h)
      · have h := h.2 c40
        refine am_bipush (v := -2) d_T_roots_43 rfl ?_
        exact am_ireturn d_T_roots_45 rfl rfl (hQ (-2 : Int32) h)
  · have h := h.2 c6
    refine am_iconst (v := -1) d_T_roots_9 rfl ?_
    exact am_ireturn d_T_roots_10 rfl rfl (hQ (-1 : Int32) h)
theorem d_T_count_0 : decode prog_1_method_50_code 0 = .ok (.iload_n 1, 1) := by decide +kernel
theorem d_T_count_1 : decode prog_1_method_50_code 1 = .ok (.tableswitch 90 0 5 #[39, 47, 55, 66, 74, 82], 39) := by decide +kernel
theorem d_T_count_40 : decode prog_1_method_50_code 40 = .ok (.aload_n 0, 1) := by decide +kernel
theorem d_T_count_41 : decode prog_1_method_50_code 41 = .ok (.getfield 19, 3) := by decide +kernel
theorem d_T_count_44 : decode prog_1_method_50_code 44 = .ok (.invokevirtual 358, 3) := by decide +kernel
theorem d_T_count_47 : decode prog_1_method_50_code 47 = .ok (.ireturn, 1) := by decide +kernel
theorem d_T_count_48 : decode prog_1_method_50_code 48 = .ok (.aload_n 0, 1) := by decide +kernel
theorem d_T_count_49 : decode prog_1_method_50_code 49 = .ok (.getfield 19, 3) := by decide +kernel
theorem d_T_count_52 : decode prog_1_method_50_code 52 = .ok (.invokevirtual 203, 3) := by decide +kernel
theorem d_T_count_55 : decode prog_1_method_50_code 55 = .ok (.ireturn, 1) := by decide +kernel
theorem d_T_count_56 : decode prog_1_method_50_code 56 = .ok (.aload_n 0, 1) := by decide +kernel
theorem d_T_count_57 : decode prog_1_method_50_code 57 = .ok (.getfield 10, 3) := by decide +kernel
theorem d_T_count_60 : decode prog_1_method_50_code 60 = .ok (.invokevirtual 68, 3) := by decide +kernel
theorem d_T_count_63 : decode prog_1_method_50_code 63 = .ok (.invokevirtual 82, 3) := by decide +kernel
theorem d_T_count_66 : decode prog_1_method_50_code 66 = .ok (.ireturn, 1) := by decide +kernel
theorem d_T_count_67 : decode prog_1_method_50_code 67 = .ok (.aload_n 0, 1) := by decide +kernel
theorem d_T_count_68 : decode prog_1_method_50_code 68 = .ok (.getfield 19, 3) := by decide +kernel
theorem d_T_count_71 : decode prog_1_method_50_code 71 = .ok (.invokevirtual 361, 3) := by decide +kernel
theorem d_T_count_74 : decode prog_1_method_50_code 74 = .ok (.ireturn, 1) := by decide +kernel
theorem d_T_count_75 : decode prog_1_method_50_code 75 = .ok (.aload_n 0, 1) := by decide +kernel
theorem d_T_count_76 : decode prog_1_method_50_code 76 = .ok (.getfield 19, 3) := by decide +kernel
theorem d_T_count_79 : decode prog_1_method_50_code 79 = .ok (.invokevirtual 364, 3) := by decide +kernel
theorem d_T_count_82 : decode prog_1_method_50_code 82 = .ok (.ireturn, 1) := by decide +kernel
theorem d_T_count_83 : decode prog_1_method_50_code 83 = .ok (.aload_n 0, 1) := by decide +kernel
theorem d_T_count_84 : decode prog_1_method_50_code 84 = .ok (.getfield 19, 3) := by decide +kernel
theorem d_T_count_87 : decode prog_1_method_50_code 87 = .ok (.invokevirtual 367, 3) := by decide +kernel
theorem d_T_count_90 : decode prog_1_method_50_code 90 = .ok (.ireturn, 1) := by decide +kernel
theorem d_T_count_91 : decode prog_1_method_50_code 91 = .ok (.iconst (-1), 1) := by decide +kernel
theorem d_T_count_92 : decode prog_1_method_50_code 92 = .ok (.ireturn, 1) := by decide +kernel
def cf_T_count (a0 : Int32) (w : Wd) (P : Int32 → Prop) : Prop :=
  ((a0 = 0 → cf_Store_nonzeroPlaces  w (fun r1 => P r1)) ∧ (a0 = 1 → cf_Store_undoable  w (fun r2 => P r2)) ∧ (a0 = 2 → cf_Reader_tape  w (cf_Tape_size  w (fun r3 => P r3))) ∧ (a0 = 3 → cf_Store_keptShelves  w (fun r4 => P r4)) ∧ (a0 = 4 → cf_Store_irreduciblePlaces  w (fun r5 => P r5)) ∧ (a0 = 5 → cf_Store_allWeights  w (fun r6 => P r6)) ∧ ((a0.toInt < 0 ∨ 5 < a0.toInt) → P (-1 : Int32)))
theorem cf_T_count_ok {g : ayG} {d : Nat} (hd : 6 ≤ d) (a0 : Int32)  (w : Wd) (P : Int32 → Prop) (h : cf_T_count a0 w P) : Call g y_T_count prog_1_method_50_code 2 (some FieldType.int) d [.ref (g.1 + 0), .int a0] w (fun (r : Option Value) (w2 : Wd) => ∃ x, r = some (.int x) ∧ w = w2 ∧ P x) := by
  unfold cf_T_count at h
  refine am_enter mi_T_count (Nat.le_of_ble_eq_true rfl) ?_
  have hQ : ∀ x, P x → (fun (r : Option Value) (w2 : Wd) => ∃ x, r = some (.int x) ∧ w = w2 ∧ P x) (some (.int x)) w := fun x h => ⟨x, rfl, rfl, h⟩
  generalize (fun (r : Option Value) (w2 : Wd) => ∃ x, r = some (.int x) ∧ w = w2 ∧ P x) = Q at hQ ⊢
  show wp g (fun _ => True) y_T_count prog_1_method_50_code 2 (some FieldType.int) d 0 [(0, .ref (g.1 + 0)), (1, .int a0)] [] w Q
  refine am_iload_n d_T_count_0 1 rfl ?_
  refine am_switch d_T_count_1 (by decide) (fun tgt ht hx => ?_) ⟨91, by decide⟩ (fun i off ho hx => ?_)
  · have h := h.2.2.2.2.2.2 hx
    obtain rfl : tgt = 91 := by omega
    refine am_iconst (v := -1) d_T_count_91 rfl ?_
    exact am_ireturn d_T_count_92 rfl rfl (hQ (-1 : Int32) h)
  · have hi : i < 6 := (Array.getElem?_eq_some_iff.mp ho).1
    match i, hi, ho, hx with
    | 0, _, ho, hx =>
      refine ⟨40, ?_, ?_⟩
      · have e := Option.some.inj ho; rw [← e]; decide
      · have h := h.1 (Int32.toInt_inj.mp (by rw [hx]; decide))
        refine am_aload_n d_T_count_40 0 rfl ?_
        refine am_getf (T := F_T) (fs := ob_T g w 0) (C := R_T) (N := 9) (ci := 0) 1 d_T_count_41 wd_195 rfl (by decide) (el_T (show ay_sh 0 = _ from rfl)) rfl i_T (by decide) rfl ?_
        refine am_callV (C := "TriSplits$Store") (d2 := d - 1) [] d_T_count_44 mi_Store_nonzeroPlaces wd_1051 wd_1052 wd_1053 (by decide) (el_Store (show ay_sh 6 = _ from rfl)) rfl rfl (by omega) rfl rfl (Nat.le_of_ble_eq_true rfl) ?_
        refine Call.post ?_ (cf_Store_nonzeroPlaces_ok (by omega)   w _ h)
        rintro _ _ ⟨r1, rfl, rfl, h⟩
        show wp g (fun _ => True) y_T_count prog_1_method_50_code 2 (some FieldType.int) d 47 [(0, .ref (g.1 + 0)), (1, .int a0)] [.int r1] w Q
        exact am_ireturn d_T_count_47 rfl rfl (hQ r1 h)
    | 1, _, ho, hx =>
      refine ⟨48, ?_, ?_⟩
      · have e := Option.some.inj ho; rw [← e]; decide
      · have h := h.2.1 (Int32.toInt_inj.mp (by rw [hx]; decide))
        refine am_aload_n d_T_count_48 0 rfl ?_
        refine am_getf (T := F_T) (fs := ob_T g w 0) (C := R_T) (N := 9) (ci := 0) 1 d_T_count_49 wd_195 rfl (by decide) (el_T (show ay_sh 0 = _ from rfl)) rfl i_T (by decide) rfl ?_
        refine am_callV (C := "TriSplits$Store") (d2 := d - 1) [] d_T_count_52 mi_Store_undoable wd_610 wd_611 wd_612 (by decide) (el_Store (show ay_sh 6 = _ from rfl)) rfl rfl (by omega) rfl rfl (Nat.le_of_ble_eq_true rfl) ?_
        refine Call.post ?_ (cf_Store_undoable_ok (by omega)   w _ h)
        rintro _ _ ⟨r2, rfl, rfl, h⟩
        show wp g (fun _ => True) y_T_count prog_1_method_50_code 2 (some FieldType.int) d 55 [(0, .ref (g.1 + 0)), (1, .int a0)] [.int r2] w Q
        exact am_ireturn d_T_count_55 rfl rfl (hQ r2 h)
    | 2, _, ho, hx =>
      refine ⟨56, ?_, ?_⟩
      · have e := Option.some.inj ho; rw [← e]; decide
      · have h := h.2.2.1 (Int32.toInt_inj.mp (by rw [hx]; decide))
        refine am_aload_n d_T_count_56 0 rfl ?_
        refine am_getf (T := F_T) (fs := ob_T g w 0) (C := R_T) (N := 9) (ci := 0) 0 d_T_count_57 wd_194 rfl (by decide) (el_T (show ay_sh 0 = _ from rfl)) rfl i_T (by decide) rfl ?_
        refine am_callV (C := "TriSplits$Reader") (d2 := d - 1) [] d_T_count_60 mi_Reader_tape wd_226 wd_227 wd_228 (by decide) (el_Reader (show ay_sh 1 = _ from rfl)) rfl rfl (by omega) rfl rfl (Nat.le_of_ble_eq_true rfl) ?_
        refine Call.post ?_ (cf_Reader_tape_ok (by omega)   w _ h)
        rintro _ _ ⟨rfl, rfl, h⟩
        show wp g (fun _ => True) y_T_count prog_1_method_50_code 2 (some FieldType.int) d 63 [(0, .ref (g.1 + 0)), (1, .int a0)] [.ref (g.1 + 2)] w Q
        refine am_callV (C := "TriSplits$Tape") (d2 := d - 1) [] d_T_count_63 mi_Tape_size wd_238 wd_239 wd_240 (by decide) (el_Tape (show ay_sh 2 = _ from rfl)) rfl rfl (by omega) rfl rfl (Nat.le_of_ble_eq_true rfl) ?_
        refine Call.post ?_ (cf_Tape_size_ok (by omega)   w _ h)
        rintro _ _ ⟨r3, rfl, rfl, h⟩
        show wp g (fun _ => True) y_T_count prog_1_method_50_code 2 (some FieldType.int) d 66 [(0, .ref (g.1 + 0)), (1, .int a0)] [.int r3] w Q
        exact am_ireturn d_T_count_66 rfl rfl (hQ r3 h)
    | 3, _, ho, hx =>
      refine ⟨67, ?_, ?_⟩
      · have e := Option.some.inj ho; rw [← e]; decide
      · have h := h.2.2.2.1 (Int32.toInt_inj.mp (by rw [hx]; decide))
        refine am_aload_n d_T_count_67 0 rfl ?_
        refine am_getf (T := F_T) (fs := ob_T g w 0) (C := R_T) (N := 9) (ci := 0) 1 d_T_count_68 wd_195 rfl (by decide) (el_T (show ay_sh 0 = _ from rfl)) rfl i_T (by decide) rfl ?_
        refine am_callV (C := "TriSplits$Store") (d2 := d - 1) [] d_T_count_71 mi_Store_keptShelves wd_1056 wd_1057 wd_1058 (by decide) (el_Store (show ay_sh 6 = _ from rfl)) rfl rfl (by omega) rfl rfl (Nat.le_of_ble_eq_true rfl) ?_
        refine Call.post ?_ (cf_Store_keptShelves_ok (by omega)   w _ h)
        rintro _ _ ⟨r4, rfl, rfl, h⟩
        show wp g (fun _ => True) y_T_count prog_1_method_50_code 2 (some FieldType.int) d 74 [(0, .ref (g.1 + 0)), (1, .int a0)] [.int r4] w Q
        exact am_ireturn d_T_count_74 rfl rfl (hQ r4 h)
    | 4, _, ho, hx =>
      refine ⟨75, ?_, ?_⟩
      · have e := Option.some.inj ho; rw [← e]; decide
      · have h := h.2.2.2.2.1 (Int32.toInt_inj.mp (by rw [hx]; decide))
        refine am_aload_n d_T_count_75 0 rfl ?_
        refine am_getf (T := F_T) (fs := ob_T g w 0) (C := R_T) (N := 9) (ci := 0) 1 d_T_count_76 wd_195 rfl (by decide) (el_T (show ay_sh 0 = _ from rfl)) rfl i_T (by decide) rfl ?_
        refine am_callV (C := "TriSplits$Store") (d2 := d - 1) [] d_T_count_79 mi_Store_irreduciblePlaces wd_1060 wd_1061 wd_1062 (by decide) (el_Store (show ay_sh 6 = _ from rfl)) rfl rfl (by omega) rfl rfl (Nat.le_of_ble_eq_true rfl) ?_
        refine Call.post ?_ (cf_Store_irreduciblePlaces_ok (by omega)   w _ h)
        rintro _ _ ⟨r5, rfl, rfl, h⟩
        show wp g (fun _ => True) y_T_count prog_1_method_50_code 2 (some FieldType.int) d 82 [(0, .ref (g.1 + 0)), (1, .int a0)] [.int r5] w Q
        exact am_ireturn d_T_count_82 rfl rfl (hQ r5 h)
    | 5, _, ho, hx =>
      refine ⟨83, ?_, ?_⟩
      · have e := Option.some.inj ho; rw [← e]; decide
      · have h := h.2.2.2.2.2.1 (Int32.toInt_inj.mp (by rw [hx]; decide))
        refine am_aload_n d_T_count_83 0 rfl ?_
        refine am_getf (T := F_T) (fs := ob_T g w 0) (C := R_T) (N := 9) (ci := 0) 1 d_T_count_84 wd_195 rfl (by decide) (el_T (show ay_sh 0 = _ from rfl)) rfl i_T (by decide) rfl ?_
        refine am_callV (C := "TriSplits$Store") (d2 := d - 1) [] d_T_count_87 mi_Store_allWeights wd_1065 wd_1066 wd_1067 (by decide) (el_Store (show ay_sh 6 = _ from rfl)) rfl rfl (by omega) rfl rfl (Nat.le_of_ble_eq_true rfl) ?_
        refine Call.post ?_ (cf_Store_allWeights_ok (by omega)   w _ h)
        rintro _ _ ⟨r6, rfl, rfl, h⟩
        show wp g (fun _ => True) y_T_count prog_1_method_50_code 2 (some FieldType.int) d 90 [(0, .ref (g.1 + 0)), (1, .int a0)] [.int r6] w Q
        exact am_ireturn d_T_count_90 rfl rfl (hQ r6 h)
    | n + 6, hi, _, _ => exact absurd hi (by omega)
