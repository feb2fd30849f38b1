-- bytecode as predicates, by program (wip/whole/gen/extract.py)
theorem mi_M_register : ay_MI y_M_register prog_14_method_62_code 4 (some FieldType.int) 2 := ⟨wd_1405, wd_11, by decide +kernel, by decide +kernel, by decide⟩
theorem mi_M_step : ay_MI y_M_step prog_14_method_63_code 5 (some FieldType.long) 1 := ⟨wd_1414, wd_11, by decide +kernel, by decide +kernel, by decide⟩
theorem mi_M_jump : ay_MI y_M_jump prog_14_method_64_code 2 (some FieldType.long) 1 := ⟨wd_1418, wd_11, by decide +kernel, by decide +kernel, by decide⟩
theorem mi_M_gets : ay_MI y_M_gets prog_14_method_66_code 4 (some FieldType.int) 2 := ⟨wd_1428, wd_11, by decide +kernel, by decide +kernel, by decide⟩
theorem mi_M_put : ay_MI y_M_put prog_14_method_67_code 4 (some FieldType.int) 2 := ⟨wd_1423, wd_11, by decide +kernel, by decide +kernel, by decide⟩
theorem mi_M_areThree : ay_MI y_M_areThree prog_14_method_68_code 3 (some FieldType.boolean) 3 := ⟨wd_1435, wd_11, by decide +kernel, by decide +kernel, by decide⟩
theorem mi_M_add : ay_MI y_M_add prog_14_method_69_code 4 (some FieldType.int) 3 := ⟨wd_1432, wd_11, by decide +kernel, by decide +kernel, by decide⟩
theorem mi_M_multiply : ay_MI y_M_multiply prog_14_method_70_code 6 (some FieldType.int) 3 := ⟨wd_1439, wd_11, by decide +kernel, by decide +kernel, by decide⟩
theorem mi_M_divide : ay_MI y_M_divide prog_14_method_71_code 4 (some FieldType.int) 3 := ⟨wd_1443, wd_11, by decide +kernel, by decide +kernel, by decide⟩
theorem mi_M_rest : ay_MI y_M_rest prog_14_method_72_code 4 (some FieldType.int) 3 := ⟨wd_1447, wd_11, by decide +kernel, by decide +kernel, by decide⟩
theorem mi_M_common : ay_MI y_M_common prog_14_method_73_code 4 (some FieldType.int) 3 := ⟨wd_1451, wd_11, by decide +kernel, by decide +kernel, by decide⟩
theorem mi_M_power : ay_MI y_M_power prog_14_method_74_code 6 (some FieldType.int) 4 := ⟨wd_1458, wd_11, by decide +kernel, by decide +kernel, by decide⟩
theorem mi_M_moved : ay_MI y_M_moved prog_14_method_75_code 3 (some FieldType.int) 2 := ⟨wd_1462, wd_11, by decide +kernel, by decide +kernel, by decide⟩
theorem mi_M_inside : ay_MI y_M_inside prog_14_method_76_code 5 (some FieldType.int) 4 := ⟨wd_1469, wd_11, by decide +kernel, by decide +kernel, by decide⟩
theorem mi_M_inverseOf : ay_MI y_M_inverseOf prog_14_method_77_code 18 (some FieldType.long) 2 := ⟨wd_1476, wd_11, by decide +kernel, by decide +kernel, by decide⟩
theorem mi_M_inverse : ay_MI y_M_inverse prog_14_method_78_code 6 (some FieldType.int) 3 := ⟨wd_1473, wd_11, by decide +kernel, by decide +kernel, by decide⟩
theorem mi_M_rise : ay_MI y_M_rise prog_14_method_79_code 4 (some FieldType.int) 3 := ⟨wd_1480, wd_11, by decide +kernel, by decide +kernel, by decide⟩
theorem mi_M_undo : ay_MI y_M_undo prog_14_method_80_code 2 (some FieldType.int) 0 := ⟨wd_1487, wd_11, by decide +kernel, by decide +kernel, by decide⟩
theorem mi_M_keep : ay_MI y_M_keep prog_14_method_81_code 3 (some FieldType.int) 1 := ⟨wd_1491, wd_11, by decide +kernel, by decide +kernel, by decide⟩
theorem mi_M_back : ay_MI y_M_back prog_14_method_82_code 3 (some FieldType.int) 1 := ⟨wd_1495, wd_11, by decide +kernel, by decide +kernel, by decide⟩
theorem mi_M_begins : ay_MI y_M_begins prog_14_method_83_code 2 none 1 := ⟨wd_1503, wd_11, by decide +kernel, by decide +kernel, by decide⟩
theorem mi_M_spellByte : ay_MI y_M_spellByte prog_14_method_84_code 2 none 1 := ⟨wd_1511, wd_11, by decide +kernel, by decide +kernel, by decide⟩
theorem mi_M_spellNumber : ay_MI y_M_spellNumber prog_14_method_85_code 2 none 1 := ⟨wd_1519, wd_11, by decide +kernel, by decide +kernel, by decide⟩
theorem mi_M_spellPower : ay_MI y_M_spellPower prog_14_method_86_code 2 none 1 := ⟨wd_1515, wd_11, by decide +kernel, by decide +kernel, by decide⟩
theorem mi_M_spellPoly : ay_MI y_M_spellPoly prog_14_method_87_code 4 none 1 := ⟨wd_1507, wd_11, by decide +kernel, by decide +kernel, by decide⟩
theorem mi_M_told : ay_MI y_M_told prog_14_method_88_code 2 (some FieldType.int) 1 := ⟨wd_1523, wd_11, by decide +kernel, by decide +kernel, by decide⟩
theorem mi_M_letter : ay_MI y_M_letter prog_14_method_89_code 3 (some FieldType.int) 2 := ⟨wd_1499, wd_11, by decide +kernel, by decide +kernel, by decide⟩
theorem mi_M_spell : ay_MI y_M_spell prog_14_method_90_code 5 (some FieldType.int) 2 := ⟨wd_1527, wd_11, by decide +kernel, by decide +kernel, by decide⟩
theorem mi_M_placesThat : ay_MI y_M_placesThat prog_14_method_91_code 4 (some FieldType.int) 1 := ⟨wd_1535, wd_11, by decide +kernel, by decide +kernel, by decide⟩
theorem mi_M_allWeights : ay_MI y_M_allWeights prog_14_method_92_code 3 (some FieldType.int) 0 := ⟨wd_1539, wd_11, by decide +kernel, by decide +kernel, by decide⟩
theorem mi_M_count : ay_MI y_M_count prog_14_method_93_code 2 (some FieldType.int) 1 := ⟨wd_1531, wd_11, by decide +kernel, by decide +kernel, by decide⟩
theorem mi_M_lays : ay_MI y_M_lays prog_14_method_94_code 3 none 1 := ⟨wd_1547, wd_11, by decide +kernel, by decide +kernel, by decide⟩
theorem mi_M_feed : ay_MI y_M_feed prog_14_method_95_code 6 (some FieldType.int) 5 := ⟨wd_1543, wd_11, by decide +kernel, by decide +kernel, by decide⟩
theorem mi_M_end : ay_MI y_M_end prog_14_method_96_code 2 (some FieldType.int) 1 := ⟨wd_1551, wd_11, by decide +kernel, by decide +kernel, by decide⟩
theorem mi_M_byteAt : ay_MI y_M_byteAt prog_14_method_97_code 2 (some FieldType.int) 1 := ⟨wd_1579, wd_11, by decide +kernel, by decide +kernel, by decide⟩
theorem mi_M_nextByte : ay_MI y_M_nextByte prog_14_method_98_code 1 (some FieldType.int) 0 := ⟨wd_1575, wd_11, by decide +kernel, by decide +kernel, by decide⟩
theorem mi_M_fails : ay_MI y_M_fails prog_14_method_99_code 3 (some FieldType.boolean) 2 := ⟨wd_1585, wd_11, by decide +kernel, by decide +kernel, by decide⟩
theorem mi_M_isWord : ay_MI y_M_isWord prog_14_method_100_code 4 (some FieldType.boolean) 1 := ⟨wd_1618, wd_11, by decide +kernel, by decide +kernel, by decide⟩
theorem mi_M_takesWord : ay_MI y_M_takesWord prog_14_method_101_code 3 (some FieldType.boolean) 1 := ⟨wd_1614, wd_11, by decide +kernel, by decide +kernel, by decide⟩
theorem mi_M_takesSign : ay_MI y_M_takesSign prog_14_method_102_code 3 (some FieldType.boolean) 1 := ⟨wd_1593, wd_11, by decide +kernel, by decide +kernel, by decide⟩
theorem mi_M_mustSign : ay_MI y_M_mustSign prog_14_method_103_code 2 (some FieldType.boolean) 1 := ⟨wd_1589, wd_11, by decide +kernel, by decide +kernel, by decide⟩
theorem mi_M_isDigitNext : ay_MI y_M_isDigitNext prog_14_method_104_code 1 (some FieldType.boolean) 0 := ⟨wd_1571, wd_11, by decide +kernel, by decide +kernel, by decide⟩
theorem mi_M_readsNumber : ay_MI y_M_readsNumber prog_14_method_105_code 3 (some FieldType.boolean) 2 := ⟨wd_1567, wd_11, by decide +kernel, by decide +kernel, by decide⟩
theorem mi_M_readsTri : ay_MI y_M_readsTri prog_14_method_107_code 2 (some FieldType.boolean) 0 := ⟨wd_1628, wd_11, by decide +kernel, by decide +kernel, by decide⟩
theorem mi_M_readsRev : ay_MI y_M_readsRev prog_14_method_108_code 1 (some FieldType.boolean) 0 := ⟨wd_1633, wd_11, by decide +kernel, by decide +kernel, by decide⟩
theorem mi_M_readsDer : ay_MI y_M_readsDer prog_14_method_109_code 1 (some FieldType.boolean) 0 := ⟨wd_1645, wd_11, by decide +kernel, by decide +kernel, by decide⟩
theorem mi_M_readsOne : ay_MI y_M_readsOne prog_14_method_110_code 2 (some FieldType.boolean) 0 := ⟨wd_1609, wd_11, by decide +kernel, by decide +kernel, by decide⟩
theorem mi_M_readsPower : ay_MI y_M_readsPower prog_14_method_111_code 6 (some FieldType.boolean) 0 := ⟨wd_1605, wd_11, by decide +kernel, by decide +kernel, by decide⟩
theorem mi_M_isOneNext : ay_MI y_M_isOneNext prog_14_method_112_code 2 (some FieldType.boolean) 0 := ⟨wd_1652, wd_11, by decide +kernel, by decide +kernel, by decide⟩
theorem mi_M_readsProduct : ay_MI y_M_readsProduct prog_14_method_113_code 5 (some FieldType.boolean) 0 := ⟨wd_1601, wd_11, by decide +kernel, by decide +kernel, by decide⟩
theorem mi_M_readsSum : ay_MI y_M_readsSum prog_14_method_114_code 3 (some FieldType.boolean) 0 := ⟨wd_1597, wd_11, by decide +kernel, by decide +kernel, by decide⟩
theorem mi_M_readsWithin : ay_MI y_M_readsWithin prog_14_method_106_code 1 (some FieldType.boolean) 0 := ⟨wd_1637, wd_11, by decide +kernel, by decide +kernel, by decide⟩
theorem mi_M_readsStatement : ay_MI y_M_readsStatement prog_14_method_115_code 2 (some FieldType.boolean) 0 := ⟨wd_1563, wd_11, by decide +kernel, by decide +kernel, by decide⟩
theorem mi_M_readsAll : ay_MI y_M_readsAll prog_14_method_116_code 2 (some FieldType.boolean) 0 := ⟨wd_1559, wd_11, by decide +kernel, by decide +kernel, by decide⟩
theorem mi_M_run : ay_MI y_M_run prog_14_method_117_code 3 (some FieldType.int) 0 := ⟨wd_1555, wd_11, by decide +kernel, by decide +kernel, by decide⟩
theorem mi_M_fault : ay_MI y_M_fault prog_14_method_118_code 2 (some FieldType.int) 1 := ⟨wd_1656, wd_11, by decide +kernel, by decide +kernel, by decide⟩
theorem mi_M_next : ay_MI y_M_next prog_14_method_119_code 5 (some FieldType.long) 2 := ⟨wd_1660, wd_11, by decide +kernel, by decide +kernel, by decide⟩
theorem mi_M_comes : ay_MI y_M_comes prog_14_method_120_code 4 none 1 := ⟨wd_1672, wd_11, by decide +kernel, by decide +kernel, by decide⟩
theorem mi_M_goesOn : ay_MI y_M_goesOn prog_14_method_121_code 8 none 2 := ⟨wd_1668, wd_11, by decide +kernel, by decide +kernel, by decide⟩
theorem mi_M_divisor : ay_MI y_M_divisor prog_14_method_122_code 3 (some FieldType.long) 2 := ⟨wd_1664, wd_11, by decide +kernel, by decide +kernel, by decide⟩
theorem mi_M_couples : ay_MI y_M_couples prog_14_method_123_code 3 (some FieldType.int) 1 := ⟨wd_1676, wd_11, by decide +kernel, by decide +kernel, by decide⟩
theorem mi_M_mirror : ay_MI y_M_mirror prog_14_method_124_code 5 (some FieldType.int) 2 := ⟨wd_1680, wd_11, by decide +kernel, by decide +kernel, by decide⟩
theorem d_M_register_0 : decode prog_14_method_62_code 0 = .ok (.iload_n 1, 1) := by decide +kernel
theorem d_M_register_1 : decode prog_14_method_62_code 1 = .ok (.invokestatic 150, 3) := by decide +kernel
theorem d_M_register_4 : decode prog_14_method_62_code 4 = .ok (.ifCond .eq 14, 3) := by decide +kernel
theorem d_M_register_7 : decode prog_14_method_62_code 7 = .ok (.lload_n 2, 1) := by decide +kernel
theorem d_M_register_8 : decode prog_14_method_62_code 8 = .ok (.lconst 0, 1) := by decide +kernel
theorem d_M_register_9 : decode prog_14_method_62_code 9 = .ok (.ldc2_w 238, 3) := by decide +kernel
theorem d_M_register_12 : decode prog_14_method_62_code 12 = .ok (.invokestatic 76, 3) := by decide +kernel
theorem d_M_register_15 : decode prog_14_method_62_code 15 = .ok (.ifCond .ne 5, 3) := by decide +kernel
theorem d_M_register_18 : decode prog_14_method_62_code 18 = .ok (.iconst (-1), 1) := by decide +kernel
theorem d_M_register_19 : decode prog_14_method_62_code 19 = .ok (.ireturn, 1) := by decide +kernel
theorem d_M_register_20 : decode prog_14_method_62_code 20 = .ok (.aload_n 0, 1) := by decide +kernel
theorem d_M_register_21 : decode prog_14_method_62_code 21 = .ok (.getfield 7, 3) := by decide +kernel
theorem d_M_register_24 : decode prog_14_method_62_code 24 = .ok (.iload_n 1, 1) := by decide +kernel
theorem d_M_register_25 : decode prog_14_method_62_code 25 = .ok (.laload, 1) := by decide +kernel
theorem d_M_register_26 : decode prog_14_method_62_code 26 = .ok (.invokestatic 136, 3) := by decide +kernel
theorem d_M_register_29 : decode prog_14_method_62_code 29 = .ok (.ifCond .ne 6, 3) := by decide +kernel
theorem d_M_register_32 : decode prog_14_method_62_code 32 = .ok (.bipush (-2), 2) := by decide +kernel
theorem d_M_register_34 : decode prog_14_method_62_code 34 = .ok (.ireturn, 1) := by decide +kernel
theorem d_M_register_35 : decode prog_14_method_62_code 35 = .ok (.lload_n 2, 1) := by decide +kernel
theorem d_M_register_36 : decode prog_14_method_62_code 36 = .ok (.aload_n 0, 1) := by decide +kernel
theorem d_M_register_37 : decode prog_14_method_62_code 37 = .ok (.getfield 7, 3) := by decide +kernel
theorem d_M_register_40 : decode prog_14_method_62_code 40 = .ok (.iload_n 1, 1) := by decide +kernel
theorem d_M_register_41 : decode prog_14_method_62_code 41 = .ok (.laload, 1) := by decide +kernel
theorem d_M_register_42 : decode prog_14_method_62_code 42 = .ok (.invokestatic 84, 3) := by decide +kernel
theorem d_M_register_45 : decode prog_14_method_62_code 45 = .ok (.invokestatic 122, 3) := by decide +kernel
theorem d_M_register_48 : decode prog_14_method_62_code 48 = .ok (.lcmp, 1) := by decide +kernel
theorem d_M_register_49 : decode prog_14_method_62_code 49 = .ok (.ifCond .le 5, 3) := by decide +kernel
theorem d_M_register_52 : decode prog_14_method_62_code 52 = .ok (.iconst (-1), 1) := by decide +kernel
theorem d_M_register_53 : decode prog_14_method_62_code 53 = .ok (.ireturn, 1) := by decide +kernel
theorem d_M_register_54 : decode prog_14_method_62_code 54 = .ok (.aload_n 0, 1) := by decide +kernel
theorem d_M_register_55 : decode prog_14_method_62_code 55 = .ok (.invokevirtual 240, 3) := by decide +kernel
theorem d_M_register_58 : decode prog_14_method_62_code 58 = .ok (.aload_n 0, 1) := by decide +kernel
theorem d_M_register_59 : decode prog_14_method_62_code 59 = .ok (.getfield 7, 3) := by decide +kernel
theorem d_M_register_62 : decode prog_14_method_62_code 62 = .ok (.bipush 10, 2) := by decide +kernel
theorem d_M_register_64 : decode prog_14_method_62_code 64 = .ok (.aload_n 0, 1) := by decide +kernel
theorem d_M_register_65 : decode prog_14_method_62_code 65 = .ok (.getfield 7, 3) := by decide +kernel
theorem d_M_register_68 : decode prog_14_method_62_code 68 = .ok (.iload_n 1, 1) := by decide +kernel
theorem d_M_register_69 : decode prog_14_method_62_code 69 = .ok (.laload, 1) := by decide +kernel
theorem d_M_register_70 : decode prog_14_method_62_code 70 = .ok (.lastore, 1) := by decide +kernel
theorem d_M_register_71 : decode prog_14_method_62_code 71 = .ok (.aload_n 0, 1) := by decide +kernel
theorem d_M_register_72 : decode prog_14_method_62_code 72 = .ok (.getfield 7, 3) := by decide +kernel
theorem d_M_register_75 : decode prog_14_method_62_code 75 = .ok (.bipush 11, 2) := by decide +kernel
theorem d_M_register_77 : decode prog_14_method_62_code 77 = .ok (.aload_n 0, 1) := by decide +kernel
theorem d_M_register_78 : decode prog_14_method_62_code 78 = .ok (.getfield 7, 3) := by decide +kernel
theorem d_M_register_81 : decode prog_14_method_62_code 81 = .ok (.iload_n 1, 1) := by decide +kernel
theorem d_M_register_82 : decode prog_14_method_62_code 82 = .ok (.laload, 1) := by decide +kernel
theorem d_M_register_83 : decode prog_14_method_62_code 83 = .ok (.invokestatic 84, 3) := by decide +kernel
theorem d_M_register_86 : decode prog_14_method_62_code 86 = .ok (.i2l, 1) := by decide +kernel
theorem d_M_register_87 : decode prog_14_method_62_code 87 = .ok (.lastore, 1) := by decide +kernel
theorem d_M_register_88 : decode prog_14_method_62_code 88 = .ok (.aload_n 0, 1) := by decide +kernel
theorem d_M_register_89 : decode prog_14_method_62_code 89 = .ok (.getfield 7, 3) := by decide +kernel
theorem d_M_register_92 : decode prog_14_method_62_code 92 = .ok (.bipush 12, 2) := by decide +kernel
theorem d_M_register_94 : decode prog_14_method_62_code 94 = .ok (.lload_n 2, 1) := by decide +kernel
theorem d_M_register_95 : decode prog_14_method_62_code 95 = .ok (.lastore, 1) := by decide +kernel
theorem d_M_register_96 : decode prog_14_method_62_code 96 = .ok (.aload_n 0, 1) := by decide +kernel
theorem d_M_register_97 : decode prog_14_method_62_code 97 = .ok (.getfield 7, 3) := by decide +kernel
theorem d_M_register_100 : decode prog_14_method_62_code 100 = .ok (.bipush 13, 2) := by decide +kernel
theorem d_M_register_102 : decode prog_14_method_62_code 102 = .ok (.lconst 0, 1) := by decide +kernel
theorem d_M_register_103 : decode prog_14_method_62_code 103 = .ok (.lastore, 1) := by decide +kernel
theorem d_M_register_104 : decode prog_14_method_62_code 104 = .ok (.aload_n 0, 1) := by decide +kernel
theorem d_M_register_105 : decode prog_14_method_62_code 105 = .ok (.getfield 7, 3) := by decide +kernel
theorem d_M_register_108 : decode prog_14_method_62_code 108 = .ok (.bipush 11, 2) := by decide +kernel
theorem d_M_register_110 : decode prog_14_method_62_code 110 = .ok (.laload, 1) := by decide +kernel
theorem d_M_register_111 : decode prog_14_method_62_code 111 = .ok (.l2i, 1) := by decide +kernel
theorem d_M_register_112 : decode prog_14_method_62_code 112 = .ok (.ireturn, 1) := by decide +kernel
def cf_M_register (a0 : Int32) (a1 : Int64) (w : Wd) (P : Int32 → Wd → Prop) : Prop :=
  cf_M_isPlace a0 (fun r1 => ((r1 = 0 → P (-1 : Int32) w) ∧ (¬ r1 = 0 → cf_M_in a1 (0 : Int64) (2147483647 : Int64) (fun r2 => ((¬ r2 = 0 → vp_in a0 14 ∧ cf_M_hasOrder (w.2 31 a0.toNatClampNeg) (fun r3 => ((¬ r3 = 0 → vp_in a0 14 ∧ cf_M_degree (w.2 31 a0.toNatClampNeg) (fun r4 => cf_M_allOnes r4 (fun r5 => ((a1 ≤ r5 → cf_M_keepsAct  w (fun w6 => vp_in a0 14 ∧ vp_in (10 : Int32) 14 ∧ ∀ w7, w7 = wL w6 31 (10 : Int32).toNatClampNeg (w6.2 31 a0.toNatClampNeg) → vp_in a0 14 ∧ cf_M_degree (w7.2 31 a0.toNatClampNeg) (fun r8 => vp_in (11 : Int32) 14 ∧ ∀ w9, w9 = wL w7 31 (11 : Int32).toNatClampNeg r8.toInt64 → vp_in (12 : Int32) 14 ∧ ∀ w10, w10 = wL w9 31 (12 : Int32).toNatClampNeg a1 → vp_in (13 : Int32) 14 ∧ ∀ w11, w11 = wL w10 31 (13 : Int32).toNatClampNeg (0 : Int64) → vp_in (11 : Int32) 14 ∧ P ((w11.2 31 (11 : Int32).toNatClampNeg).toInt32) w11))) ∧ (¬ a1 ≤ r5 → P (-1 : Int32) w))))) ∧ (r3 = 0 → P (-2 : Int32) w)))) ∧ (r2 = 0 → P (-1 : Int32) w))))))
theorem cf_M_register_ok {g : ayG} {d : Nat} (hd : 2 ≤ d) (a0 : Int32) (a1 : Int64)  (w : Wd) (P : Int32 → Wd → Prop) (h : cf_M_register a0 a1 w P) : Call g y_M_register prog_14_method_62_code 4 (some FieldType.int) d [.ref (g.1 + 30), .int a0, .long a1] w (fun (r : Option Value) (w2 : Wd) => ∃ x, r = some (.int x) ∧ P x w2) := by
  unfold cf_M_register at h
  refine am_enter mi_M_register (Nat.le_of_ble_eq_true rfl) ?_
  have hQ : ∀ x w2, P x w2 → (fun (r : Option Value) (w2 : Wd) => ∃ x, r = some (.int x) ∧ P x w2) (some (.int x)) w2 := fun x w2 h => ⟨x, rfl, h⟩
  generalize (fun (r : Option Value) (w2 : Wd) => ∃ x, r = some (.int x) ∧ P x w2) = Q at hQ ⊢
  show wp g (fun _ => True) y_M_register prog_14_method_62_code 4 (some FieldType.int) d 0 [(0, .ref (g.1 + 30)), (1, .int a0), (2, .long a1)] [] w Q
  refine am_iload_n d_M_register_0 1 rfl ?_
  refine am_callS (d2 := d - 1) [.int a0] d_M_register_1 mi_M_isPlace wd_1188 wd_1189 (by omega) rfl rfl (Nat.le_of_ble_eq_true rfl) ?_
  refine Call.post ?_ (cf_M_isPlace_ok (by omega) a0  w _ h)
  rintro _ _ ⟨r1, rfl, rfl, h⟩
  show wp g (fun _ => True) y_M_register prog_14_method_62_code 4 (some FieldType.int) d 4 [(0, .ref (g.1 + 30)), (1, .int a0), (2, .long a1)] [.int r1] w Q
  refine am_if_eq (tgt := 18) d_M_register_4 (by decide) (fun c4 => ?_) (fun c4 => ?_)
  · have h := h.1 c4
    refine am_iconst (v := -1) d_M_register_18 rfl ?_
    exact am_ireturn d_M_register_19 rfl rfl (hQ (-1 : Int32) w h)
  · have h := h.2 c4
    refine am_lload_n d_M_register_7 2 rfl ?_
    refine am_lconst (v := 0) d_M_register_8 rfl ?_
    refine am_ldc2 (v := 2147483647) d_M_register_9 wd_1406 ?_
    refine am_callS (d2 := d - 1) [.long a1, .long (0 : Int64), .long (2147483647 : Int64)] d_M_register_12 mi_M_in wd_1192 wd_1193 (by omega) rfl rfl (Nat.le_of_ble_eq_true rfl) ?_
    refine Call.post ?_ (cf_M_in_ok (by omega) a1 (0 : Int64) (2147483647 : Int64)  w _ h)
    rintro _ _ ⟨r2, rfl, rfl, h⟩
    show wp g (fun _ => True) y_M_register prog_14_method_62_code 4 (some FieldType.int) d 15 [(0, .ref (g.1 + 30)), (1, .int a0), (2, .long a1)] [.int r2] w Q
    refine am_if_ne (tgt := 20) d_M_register_15 (by decide) (fun c15 => ?_) (fun c15 => ?_)
    · have h := h.1 c15
      refine am_aload_n d_M_register_20 0 rfl ?_
      refine am_getf (T := F_M) (fs := ob_M g w 30) (C := R_M) (N := 35) (ci := 10) 0 d_M_register_21 wd_1077 rfl (by decide) (el_M (show ay_sh 30 = _ from rfl)) rfl i_M (by decide) rfl ?_
      refine am_iload_n d_M_register_24 1 rfl ?_
      have hi25 := h.1
      have h := h.2
      refine am_laload d_M_register_25 (show ay_sh 31 = _ from rfl) hi25 ?_
      refine am_callS (d2 := d - 1) [.long (w.2 31 a0.toNatClampNeg)] d_M_register_26 mi_M_hasOrder wd_1229 wd_1230 (by omega) rfl rfl (Nat.le_of_ble_eq_true rfl) ?_
      refine Call.post ?_ (cf_M_hasOrder_ok (by omega) (w.2 31 a0.toNatClampNeg)  w _ h)
      rintro _ _ ⟨r3, rfl, rfl, h⟩
      show wp g (fun _ => True) y_M_register prog_14_method_62_code 4 (some FieldType.int) d 29 [(0, .ref (g.1 + 30)), (1, .int a0), (2, .long a1)] [.int r3] w Q
      refine am_if_ne (tgt := 35) d_M_register_29 (by decide) (fun c29 => ?_) (fun c29 => ?_)
      · have h := h.1 c29
        refine am_lload_n d_M_register_35 2 rfl ?_
        refine am_aload_n d_M_register_36 0 rfl ?_
        refine am_getf (T := F_M) (fs := ob_M g w 30) (C := R_M) (N := 35) (ci := 10) 0 d_M_register_37 wd_1077 rfl (by decide) (el_M (show ay_sh 30 = _ from rfl)) rfl i_M (by decide) rfl ?_
        refine am_iload_n d_M_register_40 1 rfl ?_
        have hi41 := h.1
        have h := h.2
        refine am_laload d_M_register_41 (show ay_sh 31 = _ from rfl) hi41 ?_
        refine am_callS (d2 := d - 1) [.long (w.2 31 a0.toNatClampNeg)] d_M_register_42 mi_M_degree wd_1206 wd_1207 (by omega) rfl rfl (Nat.le_of_ble_eq_true rfl) ?_
        refine Call.post ?_ (cf_M_degree_ok (by omega) (w.2 31 a0.toNatClampNeg)  w _ h)
        rintro _ _ ⟨r4, rfl, rfl, h⟩
        show wp g (fun _ => True) y_M_register prog_14_method_62_code 4 (some FieldType.int) d 45 [(0, .ref (g.1 + 30)), (1, .int a0), (2, .long a1)] [.int r4, .long a1] w Q
        refine am_callS (d2 := d - 1) [.int r4] d_M_register_45 mi_M_allOnes wd_1240 wd_1241 (by omega) rfl rfl (Nat.le_of_ble_eq_true rfl) ?_
        refine Call.post ?_ (cf_M_allOnes_ok (by omega) r4  w _ h)
        rintro _ _ ⟨r5, rfl, rfl, h⟩
        show wp g (fun _ => True) y_M_register prog_14_method_62_code 4 (some FieldType.int) d 48 [(0, .ref (g.1 + 30)), (1, .int a0), (2, .long a1)] [.long r5, .long a1] w Q
        refine am_lif_le (tgt := 54) d_M_register_48 d_M_register_49 (by decide) (fun c48 => ?_) (fun c48 => ?_)
        · have h := h.1 c48
          refine am_aload_n d_M_register_54 0 rfl ?_
          refine am_callV (C := y_M_keepsAct.cls) (d2 := d - 1) [] d_M_register_55 mi_M_keepsAct wd_1407 wd_1409 ws_M_keepsAct (by decide) (el_M (show ay_sh 30 = _ from rfl)) rfl rfl (by omega) rfl rfl (Nat.le_of_ble_eq_true rfl) ?_
          refine Call.post ?_ (cf_M_keepsAct_ok (by omega)   w _ h)
          rintro _ w6 ⟨rfl, h⟩
          show wp g (fun _ => True) y_M_register prog_14_method_62_code 4 (some FieldType.int) d 58 [(0, .ref (g.1 + 30)), (1, .int a0), (2, .long a1)] [] w6 Q
          refine am_aload_n d_M_register_58 0 rfl ?_
          refine am_getf (T := F_M) (fs := ob_M g w6 30) (C := R_M) (N := 35) (ci := 10) 0 d_M_register_59 wd_1077 rfl (by decide) (el_M (show ay_sh 30 = _ from rfl)) rfl i_M (by decide) rfl ?_
          refine am_bipush (v := 10) d_M_register_62 rfl ?_
          refine am_aload_n d_M_register_64 0 rfl ?_
          refine am_getf (T := F_M) (fs := ob_M g w6 30) (C := R_M) (N := 35) (ci := 10) 0 d_M_register_65 wd_1077 rfl (by decide) (el_M (show ay_sh 30 = _ from rfl)) rfl i_M (by decide) rfl ?_
          refine am_iload_n d_M_register_68 1 rfl ?_
          have hi69 := h.1
          have h := h.2
          refine am_laload d_M_register_69 (show ay_sh 31 = _ from rfl) hi69 ?_
          have hi70 := h.1
          have h := h.2
          refine am_lastore d_M_register_70 (show ay_sh 31 = _ from rfl) hi70 ?_
          obtain ⟨w7, ew7⟩ : ∃ z, z = wL w6 31 (10 : Int32).toNatClampNeg (w6.2 31 a0.toNatClampNeg) := ⟨_, rfl⟩
          rw [← ew7]
          have h := h w7 ew7
          refine am_aload_n d_M_register_71 0 rfl ?_
          refine am_getf (T := F_M) (fs := ob_M g w7 30) (C := R_M) (N := 35) (ci := 10) 0 d_M_register_72 wd_1077 rfl (by decide) (el_M (show ay_sh 30 = _ from rfl)) rfl i_M (by decide) rfl ?_
          refine am_bipush (v := 11) d_M_register_75 rfl ?_
          refine am_aload_n d_M_register_77 0 rfl ?_
          refine am_getf (T := F_M) (fs := ob_M g w7 30) (C := R_M) (N := 35) (ci := 10) 0 d_M_register_78 wd_1077 rfl (by decide) (el_M (show ay_sh 30 = _ from rfl)) rfl i_M (by decide) rfl ?_
          refine am_iload_n d_M_register_81 1 rfl ?_
          have hi82 := h.1
          have h := h.2
          refine am_laload d_M_register_82 (show ay_sh 31 = _ from rfl) hi82 ?_
          refine am_callS (d2 := d - 1) [.long (w7.2 31 a0.toNatClampNeg)] d_M_register_83 mi_M_degree wd_1206 wd_1207 (by omega) rfl rfl (Nat.le_of_ble_eq_true rfl) ?_
          refine Call.post ?_ (cf_M_degree_ok (by omega) (w7.2 31 a0.toNatClampNeg)  w7 _ h)
          rintro _ _ ⟨r8, rfl, rfl, h⟩
          show wp g (fun _ => True) y_M_register prog_14_method_62_code 4 (some FieldType.int) d 86 [(0, .ref (g.1 + 30)), (1, .int a0), (2, .long a1)] [.int r8, .int (11 : Int32), .ref (g.1 + 31)] w7 Q
          refine am_i2l d_M_register_86 ?_
          have hi87 := h.1
          have h := h.2
          refine am_lastore d_M_register_87 (show ay_sh 31 = _ from rfl) hi87 ?_
          obtain ⟨w9, ew9⟩ : ∃ z, z = wL w7 31 (11 : Int32).toNatClampNeg r8.toInt64 := ⟨_, rfl⟩
          rw [← ew9]
          have h := h w9 ew9
          refine am_aload_n d_M_register_88 0 rfl ?_
          refine am_getf (T := F_M) (fs := ob_M g w9 30) (C := R_M) (N := 35) (ci := 10) 0 d_M_register_89 wd_1077 rfl (by decide) (el_M (show ay_sh 30 = _ from rfl)) rfl i_M (by decide) rfl ?_
          refine am_bipush (v := 12) d_M_register_92 rfl ?_
          refine am_lload_n d_M_register_94 2 rfl ?_
          have hi95 := h.1
          have h := h.2
          refine am_lastore d_M_register_95 (show ay_sh 31 = _ from rfl) hi95 ?_
          obtain ⟨w10, ew10⟩ : ∃ z, z = wL w9 31 (12 : Int32).toNatClampNeg a1 := ⟨_, rfl⟩
          rw [← ew10]
          have h := h w10 ew10
          refine am_aload_n d_M_register_96 0 rfl ?_
          refine am_getf (T := F_M) (fs := ob_M g w10 30) (C := R_M) (N := 35) (ci := 10) 0 d_M_register_97 wd_1077 rfl (by decide) (el_M (show ay_sh 30 = _ from rfl)) rfl i_M (by decide) rfl ?_
          refine am_bipush (v := 13) d_M_register_100 rfl ?_
          refine am_lconst (v := 0) d_M_register_102 rfl ?_
          have hi103 := h.1
          have h := h.2
          refine am_lastore d_M_register_103 (show ay_sh 31 = _ from rfl) hi103 ?_
          obtain ⟨w11, ew11⟩ : ∃ z, z = wL w10 31 (13 : Int32).toNatClampNeg (0 : Int64) := ⟨_, rfl⟩
          rw [← ew11]
          have h := h w11 ew11
          refine am_aload_n d_M_register_104 0 rfl ?_
          refine am_getf (T := F_M) (fs := ob_M g w11 30) (C := R_M) (N := 35) (ci := 10) 0 d_M_register_105 wd_1077 rfl (by decide) (el_M (show ay_sh 30 = _ from rfl)) rfl i_M (by decide) rfl ?_
          refine am_bipush (v := 11) d_M_register_108 rfl ?_
          have hi110 := h.1
          have h := h.2
          refine am_laload d_M_register_110 (show ay_sh 31 = _ from rfl) hi110 ?_
          refine am_l2i d_M_register_111 ?_
          exact am_ireturn d_M_register_112 rfl rfl (hQ ((w11.2 31 (11 : Int32).toNatClampNeg).toInt32) w11 h)
        · have h := h.2 c48
          refine am_iconst (v := -1) d_M_register_52 rfl ?_
          exact am_ireturn d_M_register_53 rfl rfl (hQ (-1 : Int32) w h)
      · have h := h.2 c29
        refine am_bipush (v := -2) d_M_register_32 rfl ?_
        exact am_ireturn d_M_register_34 rfl rfl (hQ (-2 : Int32) w h)
    · have h := h.2 c15
      refine am_iconst (v := -1) d_M_register_18 rfl ?_
      exact am_ireturn d_M_register_19 rfl rfl (hQ (-1 : Int32) w h)
theorem d_M_step_0 : decode prog_14_method_63_code 0 = .ok (.iload_n 1, 1) := by decide +kernel
theorem d_M_step_1 : decode prog_14_method_63_code 1 = .ok (.i2l, 1) := by decide +kernel
theorem d_M_step_2 : decode prog_14_method_63_code 2 = .ok (.lconst 1, 1) := by decide +kernel
theorem d_M_step_3 : decode prog_14_method_63_code 3 = .ok (.ldc2_w 214, 3) := by decide +kernel
theorem d_M_step_6 : decode prog_14_method_63_code 6 = .ok (.invokestatic 76, 3) := by decide +kernel
theorem d_M_step_9 : decode prog_14_method_63_code 9 = .ok (.ifCond .ne 7, 3) := by decide +kernel
theorem d_M_step_12 : decode prog_14_method_63_code 12 = .ok (.ldc2_w 26, 3) := by decide +kernel
theorem d_M_step_15 : decode prog_14_method_63_code 15 = .ok (.lreturn, 1) := by decide +kernel
theorem d_M_step_16 : decode prog_14_method_63_code 16 = .ok (.aload_n 0, 1) := by decide +kernel
theorem d_M_step_17 : decode prog_14_method_63_code 17 = .ok (.invokevirtual 230, 3) := by decide +kernel
theorem d_M_step_20 : decode prog_14_method_63_code 20 = .ok (.ifCond .ne 7, 3) := by decide +kernel
theorem d_M_step_23 : decode prog_14_method_63_code 23 = .ok (.ldc2_w 162, 3) := by decide +kernel
theorem d_M_step_26 : decode prog_14_method_63_code 26 = .ok (.lreturn, 1) := by decide +kernel
theorem d_M_step_27 : decode prog_14_method_63_code 27 = .ok (.aload_n 0, 1) := by decide +kernel
theorem d_M_step_28 : decode prog_14_method_63_code 28 = .ok (.invokevirtual 240, 3) := by decide +kernel
theorem d_M_step_31 : decode prog_14_method_63_code 31 = .ok (.lconst 0, 1) := by decide +kernel
theorem d_M_step_32 : decode prog_14_method_63_code 32 = .ok (.lstore_n 2, 1) := by decide +kernel
theorem d_M_step_33 : decode prog_14_method_63_code 33 = .ok (.iconst 0, 1) := by decide +kernel
theorem d_M_step_34 : decode prog_14_method_63_code 34 = .ok (.istore 4, 2) := by decide +kernel
theorem d_M_step_36 : decode prog_14_method_63_code 36 = .ok (.iload 4, 2) := by decide +kernel
theorem d_M_step_38 : decode prog_14_method_63_code 38 = .ok (.iload_n 1, 1) := by decide +kernel
theorem d_M_step_39 : decode prog_14_method_63_code 39 = .ok (.if_icmp .ge 42, 3) := by decide +kernel
theorem d_M_step_42 : decode prog_14_method_63_code 42 = .ok (.lload_n 2, 1) := by decide +kernel
theorem d_M_step_43 : decode prog_14_method_63_code 43 = .ok (.aload_n 0, 1) := by decide +kernel
theorem d_M_step_44 : decode prog_14_method_63_code 44 = .ok (.getfield 7, 3) := by decide +kernel
theorem d_M_step_47 : decode prog_14_method_63_code 47 = .ok (.bipush 12, 2) := by decide +kernel
theorem d_M_step_49 : decode prog_14_method_63_code 49 = .ok (.laload, 1) := by decide +kernel
theorem d_M_step_50 : decode prog_14_method_63_code 50 = .ok (.lconst 1, 1) := by decide +kernel
theorem d_M_step_51 : decode prog_14_method_63_code 51 = .ok (.land, 1) := by decide +kernel
theorem d_M_step_52 : decode prog_14_method_63_code 52 = .ok (.iload 4, 2) := by decide +kernel
theorem d_M_step_54 : decode prog_14_method_63_code 54 = .ok (.lshl, 1) := by decide +kernel
theorem d_M_step_55 : decode prog_14_method_63_code 55 = .ok (.lor, 1) := by decide +kernel
theorem d_M_step_56 : decode prog_14_method_63_code 56 = .ok (.lstore_n 2, 1) := by decide +kernel
theorem d_M_step_57 : decode prog_14_method_63_code 57 = .ok (.aload_n 0, 1) := by decide +kernel
theorem d_M_step_58 : decode prog_14_method_63_code 58 = .ok (.getfield 7, 3) := by decide +kernel
theorem d_M_step_61 : decode prog_14_method_63_code 61 = .ok (.bipush 12, 2) := by decide +kernel
theorem d_M_step_63 : decode prog_14_method_63_code 63 = .ok (.aload_n 0, 1) := by decide +kernel
theorem d_M_step_64 : decode prog_14_method_63_code 64 = .ok (.aload_n 0, 1) := by decide +kernel
theorem d_M_step_65 : decode prog_14_method_63_code 65 = .ok (.getfield 7, 3) := by decide +kernel
theorem d_M_step_68 : decode prog_14_method_63_code 68 = .ok (.bipush 12, 2) := by decide +kernel
theorem d_M_step_70 : decode prog_14_method_63_code 70 = .ok (.laload, 1) := by decide +kernel
theorem d_M_step_71 : decode prog_14_method_63_code 71 = .ok (.invokevirtual 220, 3) := by decide +kernel
theorem d_M_step_74 : decode prog_14_method_63_code 74 = .ok (.lastore, 1) := by decide +kernel
theorem d_M_step_75 : decode prog_14_method_63_code 75 = .ok (.iinc 4 1, 3) := by decide +kernel
theorem d_M_step_78 : decode prog_14_method_63_code 78 = .ok (.goto (-42), 3) := by decide +kernel
theorem d_M_step_81 : decode prog_14_method_63_code 81 = .ok (.aload_n 0, 1) := by decide +kernel
theorem d_M_step_82 : decode prog_14_method_63_code 82 = .ok (.getfield 7, 3) := by decide +kernel
theorem d_M_step_85 : decode prog_14_method_63_code 85 = .ok (.bipush 13, 2) := by decide +kernel
theorem d_M_step_87 : decode prog_14_method_63_code 87 = .ok (.dup2, 1) := by decide +kernel
theorem d_M_step_88 : decode prog_14_method_63_code 88 = .ok (.laload, 1) := by decide +kernel
theorem d_M_step_89 : decode prog_14_method_63_code 89 = .ok (.iload_n 1, 1) := by decide +kernel
theorem d_M_step_90 : decode prog_14_method_63_code 90 = .ok (.i2l, 1) := by decide +kernel
theorem d_M_step_91 : decode prog_14_method_63_code 91 = .ok (.ladd, 1) := by decide +kernel
theorem d_M_step_92 : decode prog_14_method_63_code 92 = .ok (.lastore, 1) := by decide +kernel
theorem d_M_step_93 : decode prog_14_method_63_code 93 = .ok (.lload_n 2, 1) := by decide +kernel
theorem d_M_step_94 : decode prog_14_method_63_code 94 = .ok (.lreturn, 1) := by decide +kernel
def cf_M_step_B36  (K36 : Int32 → Int64 → Int32 → Wd → Prop) (P : Int64 → Wd → Prop) (x1 : Int32) (x2 : Int64) (x4 : Int32) (w : Wd) : Prop :=
  ((x1 ≤ x4 → vp_in (13 : Int32) 14 ∧ vp_in (13 : Int32) 14 ∧ ∀ w4, w4 = wL w 31 (13 : Int32).toNatClampNeg ((w.2 31 (13 : Int32).toNatClampNeg) + x1.toInt64) → P x2 w4) ∧ (¬ x1 ≤ x4 → vp_in (12 : Int32) 14 ∧ ∀ v5, v5 = x2 ||| (lshl ((w.2 31 (12 : Int32).toNatClampNeg) &&& (1 : Int64)) x4) → vp_in (12 : Int32) 14 ∧ cf_M_stepped (w.2 31 (12 : Int32).toNatClampNeg) w (fun r6 => vp_in (12 : Int32) 14 ∧ ∀ w7, w7 = wL w 31 (12 : Int32).toNatClampNeg r6 → ∀ v8, v8 = x4 + (1 : Int32) → K36 x1 v5 v8 w7)))
def cf_M_step_L36   (P : Int64 → Wd → Prop) : Nat → Int32 → Int64 → Int32 → Wd → Prop
  | 0 => fun x1 x2 x4 w => False
  | n + 1 => fun x1 x2 x4 w => cf_M_step_B36 (cf_M_step_L36 P n) P x1 x2 x4 w
def cf_M_step (a0 : Int32) (w : Wd) (P : Int64 → Wd → Prop) : Prop :=
  cf_M_in a0.toInt64 (1 : Int64) (60 : Int64) (fun r1 => ((¬ r1 = 0 → cf_M_isRegister  w (fun r2 => ((¬ r2 = 0 → cf_M_keepsAct  w (fun w3 => ∃ n, cf_M_step_L36 P n a0 (0 : Int64) (0 : Int32) w3)) ∧ (r2 = 0 → P (-2 : Int64) w)))) ∧ (r1 = 0 → P (-1 : Int64) w)))
theorem cf_M_step_B36_ok {g : ayG} {d : Nat} (hd : 3 ≤ d)   (w : Wd) (K36 : Int32 → Int64 → Int32 → Wd → Prop) (P : Int64 → Wd → Prop) (Q : Option Value → Wd → Prop) (hQ : ∀ x w2, P x w2 → Q (some (.long x)) w2) (hK36 : ∀ (x1 : Int32) (x2 : Int64) (x4 : Int32) (w : Wd), (K36 x1 x2 x4 w → wp g (fun _ => True) y_M_step prog_14_method_63_code 5 (some FieldType.long) d 36 [(0, .ref (g.1 + 30)), (1, .int x1), (2, .long x2), (4, .int x4)] [] w Q)) (x1 : Int32) (x2 : Int64) (x4 : Int32) (h : cf_M_step_B36 K36 P x1 x2 x4 w) : wp g (fun _ => True) y_M_step prog_14_method_63_code 5 (some FieldType.long) d 36 [(0, .ref (g.1 + 30)), (1, .int x1), (2, .long x2), (4, .int x4)] [] w Q := by
  unfold cf_M_step_B36 at h
  refine am_iload d_M_step_36 3 rfl ?_
  refine am_iload_n d_M_step_38 1 rfl ?_
  refine am_icmp_ge (tgt := 81) d_M_step_39 (by decide) (fun c39 => ?_) (fun c39 => ?_)
  · have h := h.1 c39
    refine am_aload_n d_M_step_81 0 rfl ?_
    refine am_getf (T := F_M) (fs := ob_M g w 30) (C := R_M) (N := 35) (ci := 10) 0 d_M_step_82 wd_1077 rfl (by decide) (el_M (show ay_sh 30 = _ from rfl)) rfl i_M (by decide) rfl ?_
    refine am_bipush (v := 13) d_M_step_85 rfl ?_
    refine am_dup2_11 d_M_step_87 rfl rfl ?_
    have hi88 := h.1
    have h := h.2
    refine am_laload d_M_step_88 (show ay_sh 31 = _ from rfl) hi88 ?_
    refine am_iload_n d_M_step_89 1 rfl ?_
    refine am_i2l d_M_step_90 ?_
    refine am_ladd d_M_step_91 ?_
    have hi92 := h.1
    have h := h.2
    refine am_lastore d_M_step_92 (show ay_sh 31 = _ from rfl) hi92 ?_
    obtain ⟨w4, ew4⟩ : ∃ z, z = wL w 31 (13 : Int32).toNatClampNeg ((w.2 31 (13 : Int32).toNatClampNeg) + x1.toInt64) := ⟨_, rfl⟩
    rw [← ew4]
    have h := h w4 ew4
    refine am_lload_n d_M_step_93 2 rfl ?_
    exact am_lreturn d_M_step_94 rfl (hQ x2 w4 h)
  · have h := h.2 c39
    refine am_lload_n d_M_step_42 2 rfl ?_
    refine am_aload_n d_M_step_43 0 rfl ?_
    refine am_getf (T := F_M) (fs := ob_M g w 30) (C := R_M) (N := 35) (ci := 10) 0 d_M_step_44 wd_1077 rfl (by decide) (el_M (show ay_sh 30 = _ from rfl)) rfl i_M (by decide) rfl ?_
    refine am_bipush (v := 12) d_M_step_47 rfl ?_
    have hi49 := h.1
    have h := h.2
    refine am_laload d_M_step_49 (show ay_sh 31 = _ from rfl) hi49 ?_
    refine am_lconst (v := 1) d_M_step_50 rfl ?_
    refine am_land d_M_step_51 ?_
    refine am_iload d_M_step_52 3 rfl ?_
    refine am_lshl d_M_step_54 ?_
    refine am_lor d_M_step_55 ?_
    refine am_topl (fun v5 ev5 => ?_)
    have h := h v5 ev5
    refine am_lstore_n (l' := [(2, .long v5), (0, .ref (g.1 + 30)), (1, .int x1), (4, .int x4)]) d_M_step_56 (by decide) rfl ?_
    refine am_aload_n d_M_step_57 1 rfl ?_
    refine am_getf (T := F_M) (fs := ob_M g w 30) (C := R_M) (N := 35) (ci := 10) 0 d_M_step_58 wd_1077 rfl (by decide) (el_M (show ay_sh 30 = _ from rfl)) rfl i_M (by decide) rfl ?_
    refine am_bipush (v := 12) d_M_step_61 rfl ?_
    refine am_aload_n d_M_step_63 1 rfl ?_
    refine am_aload_n d_M_step_64 1 rfl ?_
    refine am_getf (T := F_M) (fs := ob_M g w 30) (C := R_M) (N := 35) (ci := 10) 0 d_M_step_65 wd_1077 rfl (by decide) (el_M (show ay_sh 30 = _ from rfl)) rfl i_M (by decide) rfl ?_
    refine am_bipush (v := 12) d_M_step_68 rfl ?_
    have hi70 := h.1
    have h := h.2
    refine am_laload d_M_step_70 (show ay_sh 31 = _ from rfl) hi70 ?_
    refine am_callV (C := y_M_stepped.cls) (d2 := d - 1) [.long (w.2 31 (12 : Int32).toNatClampNeg)] d_M_step_71 mi_M_stepped wd_1394 wd_1396 ws_M_stepped (by decide) (el_M (show ay_sh 30 = _ from rfl)) rfl rfl (by omega) rfl rfl (Nat.le_of_ble_eq_true rfl) ?_
    refine Call.post ?_ (cf_M_stepped_ok (by omega) (w.2 31 (12 : Int32).toNatClampNeg)  w _ h)
    rintro _ _ ⟨r6, rfl, rfl, h⟩
    show wp g (fun _ => True) y_M_step prog_14_method_63_code 5 (some FieldType.long) d 74 [(2, .long v5), (0, .ref (g.1 + 30)), (1, .int x1), (4, .int x4)] [.long r6, .int (12 : Int32), .ref (g.1 + 31)] w Q
    have hi74 := h.1
    have h := h.2
    refine am_lastore d_M_step_74 (show ay_sh 31 = _ from rfl) hi74 ?_
    obtain ⟨w7, ew7⟩ : ∃ z, z = wL w 31 (12 : Int32).toNatClampNeg r6 := ⟨_, rfl⟩
    rw [← ew7]
    have h := h w7 ew7
    obtain ⟨v8, ev8⟩ : ∃ z : Int32, z = x4 + (1 : Int32) := ⟨_, rfl⟩
    have h := h v8 ev8
    refine am_iinc (v := v8) (l' := [(4, .int v8), (2, .long v5), (0, .ref (g.1 + 30)), (1, .int x1)]) d_M_step_75 3 rfl (by rw [ev8]; rfl) (by decide) rfl ?_
    refine am_goto (tgt := 36) d_M_step_78 (by decide) ?_
    refine am_sub [2, 3, 1, 0] rfl ?_
    exact hK36 x1 v5 v8 w7 h
theorem cf_M_step_L36_ok {g : ayG} {d : Nat} (hd : 3 ≤ d)    (P : Int64 → Wd → Prop) (Q : Option Value → Wd → Prop) (hQ : ∀ x w2, P x w2 → Q (some (.long x)) w2)  : ∀ (n : Nat) (x1 : Int32) (x2 : Int64) (x4 : Int32) (w : Wd) (h : cf_M_step_L36 P n x1 x2 x4 w), wp g (fun _ => True) y_M_step prog_14_method_63_code 5 (some FieldType.long) d 36 [(0, .ref (g.1 + 30)), (1, .int x1), (2, .long x2), (4, .int x4)] [] w Q
  | 0, x1, x2, x4, w, h => False.elim h
  | n + 1, x1, x2, x4, w, h => cf_M_step_B36_ok hd   w (cf_M_step_L36 P n) P Q hQ (fun x1 x2 x4 w h => cf_M_step_L36_ok hd    P Q hQ  n x1 x2 x4 w h) x1 x2 x4 h
theorem cf_M_step_ok {g : ayG} {d : Nat} (hd : 3 ≤ d) (a0 : Int32)  (w : Wd) (P : Int64 → Wd → Prop) (h : cf_M_step a0 w P) : Call g y_M_step prog_14_method_63_code 5 (some FieldType.long) d [.ref (g.1 + 30), .int a0] w (fun (r : Option Value) (w2 : Wd) => ∃ x, r = some (.long x) ∧ P x w2) := by
  unfold cf_M_step at h
  refine am_enter mi_M_step (Nat.le_of_ble_eq_true rfl) ?_
  have hQ : ∀ x w2, P x w2 → (fun (r : Option Value) (w2 : Wd) => ∃ x, r = some (.long x) ∧ P x w2) (some (.long x)) w2 := fun x w2 h => ⟨x, rfl, h⟩
  generalize (fun (r : Option Value) (w2 : Wd) => ∃ x, r = some (.long x) ∧ P x w2) = Q at hQ ⊢
  show wp g (fun _ => True) y_M_step prog_14_method_63_code 5 (some FieldType.long) d 0 [(0, .ref (g.1 + 30)), (1, .int a0)] [] w Q
  refine am_iload_n d_M_step_0 1 rfl ?_
  refine am_i2l d_M_step_1 ?_
  refine am_lconst (v := 1) d_M_step_2 rfl ?_
  refine am_ldc2 (v := 60) d_M_step_3 wd_1372 ?_
  refine am_callS (d2 := d - 1) [.long a0.toInt64, .long (1 : Int64), .long (60 : Int64)] d_M_step_6 mi_M_in wd_1192 wd_1193 (by omega) rfl rfl (Nat.le_of_ble_eq_true rfl) ?_
  refine Call.post ?_ (cf_M_in_ok (by omega) a0.toInt64 (1 : Int64) (60 : Int64)  w _ h)
  rintro _ _ ⟨r1, rfl, rfl, h⟩
  show wp g (fun _ => True) y_M_step prog_14_method_63_code 5 (some FieldType.long) d 9 [(0, .ref (g.1 + 30)), (1, .int a0)] [.int r1] w Q
  refine am_if_ne (tgt := 16) d_M_step_9 (by decide) (fun c9 => ?_) (fun c9 => ?_)
  · have h := h.1 c9
    refine am_aload_n d_M_step_16 0 rfl ?_
    refine am_callV (C := y_M_isRegister.cls) (d2 := d - 1) [] d_M_step_17 mi_M_isRegister wd_1382 wd_1384 ws_M_isRegister (by decide) (el_M (show ay_sh 30 = _ from rfl)) rfl rfl (by omega) rfl rfl (Nat.le_of_ble_eq_true rfl) ?_
    refine Call.post ?_ (cf_M_isRegister_ok (by omega)   w _ h)
    rintro _ _ ⟨r2, rfl, rfl, h⟩
    show wp g (fun _ => True) y_M_step prog_14_method_63_code 5 (some FieldType.long) d 20 [(0, .ref (g.1 + 30)), (1, .int a0)] [.int r2] w Q
    refine am_if_ne (tgt := 27) d_M_step_20 (by decide) (fun c20 => ?_) (fun c20 => ?_)
    · have h := h.1 c20
      refine am_aload_n d_M_step_27 0 rfl ?_
      refine am_callV (C := y_M_keepsAct.cls) (d2 := d - 1) [] d_M_step_28 mi_M_keepsAct wd_1407 wd_1409 ws_M_keepsAct (by decide) (el_M (show ay_sh 30 = _ from rfl)) rfl rfl (by omega) rfl rfl (Nat.le_of_ble_eq_true rfl) ?_
      refine Call.post ?_ (cf_M_keepsAct_ok (by omega)   w _ h)
      rintro _ w3 ⟨rfl, h⟩
      show wp g (fun _ => True) y_M_step prog_14_method_63_code 5 (some FieldType.long) d 31 [(0, .ref (g.1 + 30)), (1, .int a0)] [] w3 Q
      refine am_lconst (v := 0) d_M_step_31 rfl ?_
      refine am_lstore_n (l' := [(2, .long (0 : Int64)), (0, .ref (g.1 + 30)), (1, .int a0)]) d_M_step_32 (by decide) rfl ?_
      refine am_iconst (v := 0) d_M_step_33 rfl ?_
      refine am_istore (l' := [(4, .int (0 : Int32)), (2, .long (0 : Int64)), (0, .ref (g.1 + 30)), (1, .int a0)]) d_M_step_34 (by decide) rfl ?_
      refine am_sub [2, 3, 1, 0] rfl ?_
      obtain ⟨n, h⟩ := h
      exact cf_M_step_L36_ok (by omega)    P Q hQ  n a0 (0 : Int64) (0 : Int32) w3 h
    · have h := h.2 c20
      refine am_ldc2 (v := -2) d_M_step_23 wd_1267 ?_
      exact am_lreturn d_M_step_26 rfl (hQ (-2 : Int64) w h)
  · have h := h.2 c9
    refine am_ldc2 (v := -1) d_M_step_12 wd_1076 ?_
    exact am_lreturn d_M_step_15 rfl (hQ (-1 : Int64) w h)
theorem d_M_jump_0 : decode prog_14_method_64_code 0 = .ok (.iload_n 1, 1) := by decide +kernel
theorem d_M_jump_1 : decode prog_14_method_64_code 1 = .ok (.i2l, 1) := by decide +kernel
theorem d_M_jump_2 : decode prog_14_method_64_code 2 = .ok (.lconst 1, 1) := by decide +kernel
theorem d_M_jump_3 : decode prog_14_method_64_code 3 = .ok (.ldc2_w 243, 3) := by decide +kernel
theorem d_M_jump_6 : decode prog_14_method_64_code 6 = .ok (.invokestatic 76, 3) := by decide +kernel
theorem d_M_jump_9 : decode prog_14_method_64_code 9 = .ok (.ifCond .ne 7, 3) := by decide +kernel
theorem d_M_jump_12 : decode prog_14_method_64_code 12 = .ok (.ldc2_w 26, 3) := by decide +kernel
theorem d_M_jump_15 : decode prog_14_method_64_code 15 = .ok (.lreturn, 1) := by decide +kernel
theorem d_M_jump_16 : decode prog_14_method_64_code 16 = .ok (.aload_n 0, 1) := by decide +kernel
theorem d_M_jump_17 : decode prog_14_method_64_code 17 = .ok (.invokevirtual 230, 3) := by decide +kernel
theorem d_M_jump_20 : decode prog_14_method_64_code 20 = .ok (.ifCond .ne 7, 3) := by decide +kernel
theorem d_M_jump_23 : decode prog_14_method_64_code 23 = .ok (.ldc2_w 162, 3) := by decide +kernel
theorem d_M_jump_26 : decode prog_14_method_64_code 26 = .ok (.lreturn, 1) := by decide +kernel
theorem d_M_jump_27 : decode prog_14_method_64_code 27 = .ok (.aload_n 0, 1) := by decide +kernel
theorem d_M_jump_28 : decode prog_14_method_64_code 28 = .ok (.invokevirtual 240, 3) := by decide +kernel
theorem d_M_jump_31 : decode prog_14_method_64_code 31 = .ok (.aload_n 0, 1) := by decide +kernel
theorem d_M_jump_32 : decode prog_14_method_64_code 32 = .ok (.getfield 7, 3) := by decide +kernel
theorem d_M_jump_35 : decode prog_14_method_64_code 35 = .ok (.bipush 12, 2) := by decide +kernel
theorem d_M_jump_37 : decode prog_14_method_64_code 37 = .ok (.aload_n 0, 1) := by decide +kernel
theorem d_M_jump_38 : decode prog_14_method_64_code 38 = .ok (.aload_n 0, 1) := by decide +kernel
theorem d_M_jump_39 : decode prog_14_method_64_code 39 = .ok (.getfield 7, 3) := by decide +kernel
theorem d_M_jump_42 : decode prog_14_method_64_code 42 = .ok (.bipush 12, 2) := by decide +kernel
theorem d_M_jump_44 : decode prog_14_method_64_code 44 = .ok (.laload, 1) := by decide +kernel
theorem d_M_jump_45 : decode prog_14_method_64_code 45 = .ok (.iload_n 1, 1) := by decide +kernel
theorem d_M_jump_46 : decode prog_14_method_64_code 46 = .ok (.i2l, 1) := by decide +kernel
theorem d_M_jump_47 : decode prog_14_method_64_code 47 = .ok (.invokevirtual 227, 3) := by decide +kernel
theorem d_M_jump_50 : decode prog_14_method_64_code 50 = .ok (.lastore, 1) := by decide +kernel
theorem d_M_jump_51 : decode prog_14_method_64_code 51 = .ok (.aload_n 0, 1) := by decide +kernel
theorem d_M_jump_52 : decode prog_14_method_64_code 52 = .ok (.getfield 7, 3) := by decide +kernel
theorem d_M_jump_55 : decode prog_14_method_64_code 55 = .ok (.bipush 13, 2) := by decide +kernel
theorem d_M_jump_57 : decode prog_14_method_64_code 57 = .ok (.dup2, 1) := by decide +kernel
theorem d_M_jump_58 : decode prog_14_method_64_code 58 = .ok (.laload, 1) := by decide +kernel
theorem d_M_jump_59 : decode prog_14_method_64_code 59 = .ok (.iload_n 1, 1) := by decide +kernel
theorem d_M_jump_60 : decode prog_14_method_64_code 60 = .ok (.i2l, 1) := by decide +kernel
theorem d_M_jump_61 : decode prog_14_method_64_code 61 = .ok (.ladd, 1) := by decide +kernel
theorem d_M_jump_62 : decode prog_14_method_64_code 62 = .ok (.lastore, 1) := by decide +kernel
theorem d_M_jump_63 : decode prog_14_method_64_code 63 = .ok (.aload_n 0, 1) := by decide +kernel
theorem d_M_jump_64 : decode prog_14_method_64_code 64 = .ok (.getfield 7, 3) := by decide +kernel
theorem d_M_jump_67 : decode prog_14_method_64_code 67 = .ok (.bipush 12, 2) := by decide +kernel
theorem d_M_jump_69 : decode prog_14_method_64_code 69 = .ok (.laload, 1) := by decide +kernel
theorem d_M_jump_70 : decode prog_14_method_64_code 70 = .ok (.lreturn, 1) := by decide +kernel
def cf_M_jump (a0 : Int32) (w : Wd) (P : Int64 → Wd → Prop) : Prop :=
  cf_M_in a0.toInt64 (1 : Int64) (1000000000 : Int64) (fun r1 => ((¬ r1 = 0 → cf_M_isRegister  w (fun r2 => ((¬ r2 = 0 → cf_M_keepsAct  w (fun w3 => vp_in (12 : Int32) 14 ∧ cf_M_steppedOn (w3.2 31 (12 : Int32).toNatClampNeg) a0.toInt64 w3 (fun r4 w5 => vp_in (12 : Int32) 14 ∧ ∀ w6, w6 = wL w5 31 (12 : Int32).toNatClampNeg r4 → vp_in (13 : Int32) 14 ∧ vp_in (13 : Int32) 14 ∧ ∀ w7, w7 = wL w6 31 (13 : Int32).toNatClampNeg ((w6.2 31 (13 : Int32).toNatClampNeg) + a0.toInt64) → vp_in (12 : Int32) 14 ∧ P (w7.2 31 (12 : Int32).toNatClampNeg) w7))) ∧ (r2 = 0 → P (-2 : Int64) w)))) ∧ (r1 = 0 → P (-1 : Int64) w)))
theorem cf_M_jump_ok {g : ayG} {d : Nat} (hd : 4 ≤ d) (a0 : Int32)  (w : Wd) (P : Int64 → Wd → Prop) (h : cf_M_jump a0 w P) : Call g y_M_jump prog_14_method_64_code 2 (some FieldType.long) d [.ref (g.1 + 30), .int a0] w (fun (r : Option Value) (w2 : Wd) => ∃ x, r = some (.long x) ∧ P x w2) := by
  unfold cf_M_jump at h
  refine am_enter mi_M_jump (Nat.le_of_ble_eq_true rfl) ?_
  have hQ : ∀ x w2, P x w2 → (fun (r : Option Value) (w2 : Wd) => ∃ x, r = some (.long x) ∧ P x w2) (some (.long x)) w2 := fun x w2 h => ⟨x, rfl, h⟩
  generalize (fun (r : Option Value) (w2 : Wd) => ∃ x, r = some (.long x) ∧ P x w2) = Q at hQ ⊢
  show wp g (fun _ => True) y_M_jump prog_14_method_64_code 2 (some FieldType.long) d 0 [(0, .ref (g.1 + 30)), (1, .int a0)] [] w Q
  refine am_iload_n d_M_jump_0 1 rfl ?_
  refine am_i2l d_M_jump_1 ?_
  refine am_lconst (v := 1) d_M_jump_2 rfl ?_
  refine am_ldc2 (v := 1000000000) d_M_jump_3 wd_1419 ?_
  refine am_callS (d2 := d - 1) [.long a0.toInt64, .long (1 : Int64), .long (1000000000 : Int64)] d_M_jump_6 mi_M_in wd_1192 wd_1193 (by omega) rfl rfl (Nat.le_of_ble_eq_true rfl) ?_
  refine Call.post ?_ (cf_M_in_ok (by omega) a0.toInt64 (1 : Int64) (1000000000 : Int64)  w _ h)
  rintro _ _ ⟨r1, rfl, rfl, h⟩
  show wp g (fun _ => True) y_M_jump prog_14_method_64_code 2 (some FieldType.long) d 9 [(0, .ref (g.1 + 30)), (1, .int a0)] [.int r1] w Q
  refine am_if_ne (tgt := 16) d_M_jump_9 (by decide) (fun c9 => ?_) (fun c9 => ?_)
  · have h := h.1 c9
    refine am_aload_n d_M_jump_16 0 rfl ?_
    refine am_callV (C := y_M_isRegister.cls) (d2 := d - 1) [] d_M_jump_17 mi_M_isRegister wd_1382 wd_1384 ws_M_isRegister (by decide) (el_M (show ay_sh 30 = _ from rfl)) rfl rfl (by omega) rfl rfl (Nat.le_of_ble_eq_true rfl) ?_
    refine Call.post ?_ (cf_M_isRegister_ok (by omega)   w _ h)
    rintro _ _ ⟨r2, rfl, rfl, h⟩
    show wp g (fun _ => True) y_M_jump prog_14_method_64_code 2 (some FieldType.long) d 20 [(0, .ref (g.1 + 30)), (1, .int a0)] [.int r2] w Q
    refine am_if_ne (tgt := 27) d_M_jump_20 (by decide) (fun c20 => ?_) (fun c20 => ?_)
    · have h := h.1 c20
      refine am_aload_n d_M_jump_27 0 rfl ?_
      refine am_callV (C := y_M_keepsAct.cls) (d2 := d - 1) [] d_M_jump_28 mi_M_keepsAct wd_1407 wd_1409 ws_M_keepsAct (by decide) (el_M (show ay_sh 30 = _ from rfl)) rfl rfl (by omega) rfl rfl (Nat.le_of_ble_eq_true rfl) ?_
      refine Call.post ?_ (cf_M_keepsAct_ok (by omega)   w _ h)
      rintro _ w3 ⟨rfl, h⟩
      show wp g (fun _ => True) y_M_jump prog_14_method_64_code 2 (some FieldType.long) d 31 [(0, .ref (g.1 + 30)), (1, .int a0)] [] w3 Q
      refine am_aload_n d_M_jump_31 0 rfl ?_
      refine am_getf (T := F_M) (fs := ob_M g w3 30) (C := R_M) (N := 35) (ci := 10) 0 d_M_jump_32 wd_1077 rfl (by decide) (el_M (show ay_sh 30 = _ from rfl)) rfl i_M (by decide) rfl ?_
      refine am_bipush (v := 12) d_M_jump_35 rfl ?_
      refine am_aload_n d_M_jump_37 0 rfl ?_
      refine am_aload_n d_M_jump_38 0 rfl ?_
      refine am_getf (T := F_M) (fs := ob_M g w3 30) (C := R_M) (N := 35) (ci := 10) 0 d_M_jump_39 wd_1077 rfl (by decide) (el_M (show ay_sh 30 = _ from rfl)) rfl i_M (by decide) rfl ?_
      refine am_bipush (v := 12) d_M_jump_42 rfl ?_
      have hi44 := h.1
      have h := h.2
      refine am_laload d_M_jump_44 (show ay_sh 31 = _ from rfl) hi44 ?_
      refine am_iload_n d_M_jump_45 1 rfl ?_
      refine am_i2l d_M_jump_46 ?_
      refine am_callV (C := y_M_steppedOn.cls) (d2 := d - 1) [.long (w3.2 31 (12 : Int32).toNatClampNeg), .long a0.toInt64] d_M_jump_47 mi_M_steppedOn wd_1390 wd_1392 ws_M_steppedOn (by decide) (el_M (show ay_sh 30 = _ from rfl)) rfl rfl (by omega) rfl rfl (Nat.le_of_ble_eq_true rfl) ?_
      refine Call.post ?_ (cf_M_steppedOn_ok (by omega) (w3.2 31 (12 : Int32).toNatClampNeg) a0.toInt64  w3 _ h)
      rintro _ w5 ⟨r4, rfl, h⟩
      show wp g (fun _ => True) y_M_jump prog_14_method_64_code 2 (some FieldType.long) d 50 [(0, .ref (g.1 + 30)), (1, .int a0)] [.long r4, .int (12 : Int32), .ref (g.1 + 31)] w5 Q
      have hi50 := h.1
      have h := h.2
      refine am_lastore d_M_jump_50 (show ay_sh 31 = _ from rfl) hi50 ?_
      obtain ⟨w6, ew6⟩ : ∃ z, z = wL w5 31 (12 : Int32).toNatClampNeg r4 := ⟨_, rfl⟩
      rw [← ew6]
      have h := h w6 ew6
      refine am_aload_n d_M_jump_51 0 rfl ?_
      refine am_getf (T := F_M) (fs := ob_M g w6 30) (C := R_M) (N := 35) (ci := 10) 0 d_M_jump_52 wd_1077 rfl (by decide) (el_M (show ay_sh 30 = _ from rfl)) rfl i_M (by decide) rfl ?_
      refine am_bipush (v := 13) d_M_jump_55 rfl ?_
      refine am_dup2_11 d_M_jump_57 rfl rfl ?_
      have hi58 := h.1
      have h := h.2
      refine am_laload d_M_jump_58 (show ay_sh 31 = _ from rfl) hi58 ?_
      refine am_iload_n d_M_jump_59 1 rfl ?_
      refine am_i2l d_M_jump_60 ?_
      refine am_ladd d_M_jump_61 ?_
      have hi62 := h.1
      have h := h.2
      refine am_lastore d_M_jump_62 (show ay_sh 31 = _ from rfl) hi62 ?_
      obtain ⟨w7, ew7⟩ : ∃ z, z = wL w6 31 (13 : Int32).toNatClampNeg ((w6.2 31 (13 : Int32).toNatClampNeg) + a0.toInt64) := ⟨_, rfl⟩
      rw [← ew7]
      have h := h w7 ew7
      refine am_aload_n d_M_jump_63 0 rfl ?_
      refine am_getf (T := F_M) (fs := ob_M g w7 30) (C := R_M) (N := 35) (ci := 10) 0 d_M_jump_64 wd_1077 rfl (by decide) (el_M (show ay_sh 30 = _ from rfl)) rfl i_M (by decide) rfl ?_
      refine am_bipush (v := 12) d_M_jump_67 rfl ?_
      have hi69 := h.1
      have h := h.2
      refine am_laload d_M_jump_69 (show ay_sh 31 = _ from rfl) hi69 ?_
      exact am_lreturn d_M_jump_70 rfl (hQ (w7.2 31 (12 : Int32).toNatClampNeg) w7 h)
    · have h := h.2 c20
      refine am_ldc2 (v := -2) d_M_jump_23 wd_1267 ?_
      exact am_lreturn d_M_jump_26 rfl (hQ (-2 : Int64) w h)
  · have h := h.2 c9
    refine am_ldc2 (v := -1) d_M_jump_12 wd_1076 ?_
    exact am_lreturn d_M_jump_15 rfl (hQ (-1 : Int64) w h)
theorem d_M_gets_0 : decode prog_14_method_66_code 0 = .ok (.aload_n 0, 1) := by decide +kernel
theorem d_M_gets_1 : decode prog_14_method_66_code 1 = .ok (.invokevirtual 240, 3) := by decide +kernel
theorem d_M_gets_4 : decode prog_14_method_66_code 4 = .ok (.aload_n 0, 1) := by decide +kernel
theorem d_M_gets_5 : decode prog_14_method_66_code 5 = .ok (.getfield 7, 3) := by decide +kernel
theorem d_M_gets_8 : decode prog_14_method_66_code 8 = .ok (.iload_n 1, 1) := by decide +kernel
theorem d_M_gets_9 : decode prog_14_method_66_code 9 = .ok (.lload_n 2, 1) := by decide +kernel
theorem d_M_gets_10 : decode prog_14_method_66_code 10 = .ok (.lastore, 1) := by decide +kernel
theorem d_M_gets_11 : decode prog_14_method_66_code 11 = .ok (.lload_n 2, 1) := by decide +kernel
theorem d_M_gets_12 : decode prog_14_method_66_code 12 = .ok (.invokestatic 84, 3) := by decide +kernel
theorem d_M_gets_15 : decode prog_14_method_66_code 15 = .ok (.ireturn, 1) := by decide +kernel
def cf_M_gets (a0 : Int32) (a1 : Int64) (w : Wd) (P : Int32 → Wd → Prop) : Prop :=
  cf_M_keepsAct  w (fun w1 => vp_in a0 14 ∧ ∀ w2, w2 = wL w1 31 a0.toNatClampNeg a1 → cf_M_degree a1 (fun r3 => P r3 w2))
theorem cf_M_gets_ok {g : ayG} {d : Nat} (hd : 1 ≤ d) (a0 : Int32) (a1 : Int64)  (w : Wd) (P : Int32 → Wd → Prop) (h : cf_M_gets a0 a1 w P) : Call g y_M_gets prog_14_method_66_code 4 (some FieldType.int) d [.ref (g.1 + 30), .int a0, .long a1] w (fun (r : Option Value) (w2 : Wd) => ∃ x, r = some (.int x) ∧ P x w2) := by
  unfold cf_M_gets at h
  refine am_enter mi_M_gets (Nat.le_of_ble_eq_true rfl) ?_
  have hQ : ∀ x w2, P x w2 → (fun (r : Option Value) (w2 : Wd) => ∃ x, r = some (.int x) ∧ P x w2) (some (.int x)) w2 := fun x w2 h => ⟨x, rfl, h⟩
  generalize (fun (r : Option Value) (w2 : Wd) => ∃ x, r = some (.int x) ∧ P x w2) = Q at hQ ⊢
  show wp g (fun _ => True) y_M_gets prog_14_method_66_code 4 (some FieldType.int) d 0 [(0, .ref (g.1 + 30)), (1, .int a0), (2, .long a1)] [] w Q
  refine am_aload_n d_M_gets_0 0 rfl ?_
  refine am_callV (C := y_M_keepsAct.cls) (d2 := d - 1) [] d_M_gets_1 mi_M_keepsAct wd_1407 wd_1409 ws_M_keepsAct (by decide) (el_M (show ay_sh 30 = _ from rfl)) rfl rfl (by omega) rfl rfl (Nat.le_of_ble_eq_true rfl) ?_
  refine Call.post ?_ (cf_M_keepsAct_ok (by omega)   w _ h)
  rintro _ w1 ⟨rfl, h⟩
  show wp g (fun _ => True) y_M_gets prog_14_method_66_code 4 (some FieldType.int) d 4 [(0, .ref (g.1 + 30)), (1, .int a0), (2, .long a1)] [] w1 Q
  refine am_aload_n d_M_gets_4 0 rfl ?_
  refine am_getf (T := F_M) (fs := ob_M g w1 30) (C := R_M) (N := 35) (ci := 10) 0 d_M_gets_5 wd_1077 rfl (by decide) (el_M (show ay_sh 30 = _ from rfl)) rfl i_M (by decide) rfl ?_
  refine am_iload_n d_M_gets_8 1 rfl ?_
  refine am_lload_n d_M_gets_9 2 rfl ?_
  have hi10 := h.1
  have h := h.2
  refine am_lastore d_M_gets_10 (show ay_sh 31 = _ from rfl) hi10 ?_
  obtain ⟨w2, ew2⟩ : ∃ z, z = wL w1 31 a0.toNatClampNeg a1 := ⟨_, rfl⟩
  rw [← ew2]
  have h := h w2 ew2
  refine am_lload_n d_M_gets_11 2 rfl ?_
  refine am_callS (d2 := d - 1) [.long a1] d_M_gets_12 mi_M_degree wd_1206 wd_1207 (by omega) rfl rfl (Nat.le_of_ble_eq_true rfl) ?_
  refine Call.post ?_ (cf_M_degree_ok (by omega) a1  w2 _ h)
  rintro _ _ ⟨r3, rfl, rfl, h⟩
  show wp g (fun _ => True) y_M_gets prog_14_method_66_code 4 (some FieldType.int) d 15 [(0, .ref (g.1 + 30)), (1, .int a0), (2, .long a1)] [.int r3] w2 Q
  exact am_ireturn d_M_gets_15 rfl rfl (hQ r3 w2 h)
theorem d_M_put_0 : decode prog_14_method_67_code 0 = .ok (.iload_n 1, 1) := by decide +kernel
theorem d_M_put_1 : decode prog_14_method_67_code 1 = .ok (.invokestatic 150, 3) := by decide +kernel
theorem d_M_put_4 : decode prog_14_method_67_code 4 = .ok (.ifCond .eq 23, 3) := by decide +kernel
theorem d_M_put_7 : decode prog_14_method_67_code 7 = .ok (.lload_n 2, 1) := by decide +kernel
theorem d_M_put_8 : decode prog_14_method_67_code 8 = .ok (.lconst 0, 1) := by decide +kernel
theorem d_M_put_9 : decode prog_14_method_67_code 9 = .ok (.ldc2_w 248, 3) := by decide +kernel
theorem d_M_put_12 : decode prog_14_method_67_code 12 = .ok (.invokestatic 76, 3) := by decide +kernel
theorem d_M_put_15 : decode prog_14_method_67_code 15 = .ok (.ifCond .eq 12, 3) := by decide +kernel
theorem d_M_put_18 : decode prog_14_method_67_code 18 = .ok (.aload_n 0, 1) := by decide +kernel
theorem d_M_put_19 : decode prog_14_method_67_code 19 = .ok (.iload_n 1, 1) := by decide +kernel
theorem d_M_put_20 : decode prog_14_method_67_code 20 = .ok (.lload_n 2, 1) := by decide +kernel
theorem d_M_put_21 : decode prog_14_method_67_code 21 = .ok (.invokevirtual 250, 3) := by decide +kernel
theorem d_M_put_24 : decode prog_14_method_67_code 24 = .ok (.goto 5, 3) := by decide +kernel
theorem d_M_put_27 : decode prog_14_method_67_code 27 = .ok (.bipush (-5), 2) := by decide +kernel
theorem d_M_put_29 : decode prog_14_method_67_code 29 = .ok (.ireturn, 1) := by decide +kernel
def cf_M_put (a0 : Int32) (a1 : Int64) (w : Wd) (P : Int32 → Wd → Prop) : Prop :=
  cf_M_isPlace a0 (fun r1 => ((r1 = 0 → P (-5 : Int32) w) ∧ (¬ r1 = 0 → cf_M_in a1 (0 : Int64) (4294967295 : Int64) (fun r2 => ((r2 = 0 → P (-5 : Int32) w) ∧ (¬ r2 = 0 → cf_M_gets a0 a1 w (fun r3 w4 => P r3 w4)))))))
theorem cf_M_put_ok {g : ayG} {d : Nat} (hd : 2 ≤ d) (a0 : Int32) (a1 : Int64)  (w : Wd) (P : Int32 → Wd → Prop) (h : cf_M_put a0 a1 w P) : Call g y_M_put prog_14_method_67_code 4 (some FieldType.int) d [.ref (g.1 + 30), .int a0, .long a1] w (fun (r : Option Value) (w2 : Wd) => ∃ x, r = some (.int x) ∧ P x w2) := by
  unfold cf_M_put at h
  refine am_enter mi_M_put (Nat.le_of_ble_eq_true rfl) ?_
  have hQ : ∀ x w2, P x w2 → (fun (r : Option Value) (w2 : Wd) => ∃ x, r = some (.int x) ∧ P x w2) (some (.int x)) w2 := fun x w2 h => ⟨x, rfl, h⟩
  generalize (fun (r : Option Value) (w2 : Wd) => ∃ x, r = some (.int x) ∧ P x w2) = Q at hQ ⊢
  show wp g (fun _ => True) y_M_put prog_14_method_67_code 4 (some FieldType.int) d 0 [(0, .ref (g.1 + 30)), (1, .int a0), (2, .long a1)] [] w Q
  refine am_iload_n d_M_put_0 1 rfl ?_
  refine am_callS (d2 := d - 1) [.int a0] d_M_put_1 mi_M_isPlace wd_1188 wd_1189 (by omega) rfl rfl (Nat.le_of_ble_eq_true rfl) ?_
  refine Call.post ?_ (cf_M_isPlace_ok (by omega) a0  w _ h)
  rintro _ _ ⟨r1, rfl, rfl, h⟩
  show wp g (fun _ => True) y_M_put prog_14_method_67_code 4 (some FieldType.int) d 4 [(0, .ref (g.1 + 30)), (1, .int a0), (2, .long a1)] [.int r1] w Q
  refine am_if_eq (tgt := 27) d_M_put_4 (by decide) (fun c4 => ?_) (fun c4 => ?_)
  · have h := h.1 c4
    refine am_bipush (v := -5) d_M_put_27 rfl ?_
    exact am_ireturn d_M_put_29 rfl rfl (hQ (-5 : Int32) w h)
  · have h := h.2 c4
    refine am_lload_n d_M_put_7 2 rfl ?_
    refine am_lconst (v := 0) d_M_put_8 rfl ?_
    refine am_ldc2 (v := 4294967295) d_M_put_9 wd_1424 ?_
    refine am_callS (d2 := d - 1) [.long a1, .long (0 : Int64), .long (4294967295 : Int64)] d_M_put_12 mi_M_in wd_1192 wd_1193 (by omega) rfl rfl (Nat.le_of_ble_eq_true rfl) ?_
    refine Call.post ?_ (cf_M_in_ok (by omega) a1 (0 : Int64) (4294967295 : Int64)  w _ h)
    rintro _ _ ⟨r2, rfl, rfl, h⟩
    show wp g (fun _ => True) y_M_put prog_14_method_67_code 4 (some FieldType.int) d 15 [(0, .ref (g.1 + 30)), (1, .int a0), (2, .long a1)] [.int r2] w Q
    refine am_if_eq (tgt := 27) d_M_put_15 (by decide) (fun c15 => ?_) (fun c15 => ?_)
    · have h := h.1 c15
      refine am_bipush (v := -5) d_M_put_27 rfl ?_
      exact am_ireturn d_M_put_29 rfl rfl (hQ (-5 : Int32) w h)
    · have h := h.2 c15
      refine am_aload_n d_M_put_18 0 rfl ?_
      refine am_iload_n d_M_put_19 1 rfl ?_
      refine am_lload_n d_M_put_20 2 rfl ?_
      refine am_callV (C := y_M_gets.cls) (d2 := d - 1) [.int a0, .long a1] d_M_put_21 mi_M_gets wd_1425 wd_1427 ws_M_gets (by decide) (el_M (show ay_sh 30 = _ from rfl)) rfl rfl (by omega) rfl rfl (Nat.le_of_ble_eq_true rfl) ?_
      refine Call.post ?_ (cf_M_gets_ok (by omega) a0 a1  w _ h)
      rintro _ w4 ⟨r3, rfl, h⟩
      show wp g (fun _ => True) y_M_put prog_14_method_67_code 4 (some FieldType.int) d 24 [(0, .ref (g.1 + 30)), (1, .int a0), (2, .long a1)] [.int r3] w4 Q
      refine am_goto (tgt := 29) d_M_put_24 (by decide) ?_
      exact am_ireturn d_M_put_29 rfl rfl (hQ r3 w4 h)
theorem d_M_areThree_0 : decode prog_14_method_68_code 0 = .ok (.iload_n 0, 1) := by decide +kernel
theorem d_M_areThree_1 : decode prog_14_method_68_code 1 = .ok (.invokestatic 150, 3) := by decide +kernel
theorem d_M_areThree_4 : decode prog_14_method_68_code 4 = .ok (.ifCond .eq 21, 3) := by decide +kernel
theorem d_M_areThree_7 : decode prog_14_method_68_code 7 = .ok (.iload_n 1, 1) := by decide +kernel
theorem d_M_areThree_8 : decode prog_14_method_68_code 8 = .ok (.invokestatic 150, 3) := by decide +kernel
theorem d_M_areThree_11 : decode prog_14_method_68_code 11 = .ok (.ifCond .eq 14, 3) := by decide +kernel
theorem d_M_areThree_14 : decode prog_14_method_68_code 14 = .ok (.iload_n 2, 1) := by decide +kernel
theorem d_M_areThree_15 : decode prog_14_method_68_code 15 = .ok (.invokestatic 150, 3) := by decide +kernel
theorem d_M_areThree_18 : decode prog_14_method_68_code 18 = .ok (.ifCond .eq 7, 3) := by decide +kernel
theorem d_M_areThree_21 : decode prog_14_method_68_code 21 = .ok (.iconst 1, 1) := by decide +kernel
theorem d_M_areThree_22 : decode prog_14_method_68_code 22 = .ok (.goto 4, 3) := by decide +kernel
theorem d_M_areThree_25 : decode prog_14_method_68_code 25 = .ok (.iconst 0, 1) := by decide +kernel
theorem d_M_areThree_26 : decode prog_14_method_68_code 26 = .ok (.ireturn, 1) := by decide +kernel
def cf_M_areThree (a0 : Int32) (a1 : Int32) (a2 : Int32) (P : Int32 → Prop) : Prop :=
  cf_M_isPlace a0 (fun r1 => ((r1 = 0 → P (0 : Int32)) ∧ (¬ r1 = 0 → cf_M_isPlace a1 (fun r2 => ((r2 = 0 → P (0 : Int32)) ∧ (¬ r2 = 0 → cf_M_isPlace a2 (fun r3 => ((r3 = 0 → P (0 : Int32)) ∧ (¬ r3 = 0 → P (1 : Int32))))))))))
theorem cf_M_areThree_ok {g : ayG} {d : Nat} (hd : 2 ≤ d) (a0 : Int32) (a1 : Int32) (a2 : Int32)  (w : Wd) (P : Int32 → Prop) (h : cf_M_areThree a0 a1 a2 P) : Call g y_M_areThree prog_14_method_68_code 3 (some FieldType.boolean) d [.int a0, .int a1, .int a2] w (fun (r : Option Value) (w2 : Wd) => ∃ x, r = some (.int x) ∧ w = w2 ∧ P x) := by
  unfold cf_M_areThree at h
  refine am_enter mi_M_areThree (Nat.le_of_ble_eq_true rfl) ?_
  have hQ : ∀ x, P x → (fun (r : Option Value) (w2 : Wd) => ∃ x, r = some (.int x) ∧ w = w2 ∧ P x) (some (.int x)) w := fun x h => ⟨x, rfl, rfl, h⟩
  generalize (fun (r : Option Value) (w2 : Wd) => ∃ x, r = some (.int x) ∧ w = w2 ∧ P x) = Q at hQ ⊢
  show wp g (fun _ => True) y_M_areThree prog_14_method_68_code 3 (some FieldType.boolean) d 0 [(0, .int a0), (1, .int a1), (2, .int a2)] [] w Q
  refine am_iload_n d_M_areThree_0 0 rfl ?_
  refine am_callS (d2 := d - 1) [.int a0] d_M_areThree_1 mi_M_isPlace wd_1188 wd_1189 (by omega) rfl rfl (Nat.le_of_ble_eq_true rfl) ?_
  refine Call.post ?_ (cf_M_isPlace_ok (by omega) a0  w _ h)
  rintro _ _ ⟨r1, rfl, rfl, h⟩
  show wp g (fun _ => True) y_M_areThree prog_14_method_68_code 3 (some FieldType.boolean) d 4 [(0, .int a0), (1, .int a1), (2, .int a2)] [.int r1] w Q
  refine am_if_eq (tgt := 25) d_M_areThree_4 (by decide) (fun c4 => ?_) (fun c4 => ?_)
  · have h := h.1 c4
    refine am_iconst (v := 0) d_M_areThree_25 rfl ?_
    exact am_ireturn d_M_areThree_26 rfl rfl (hQ (0 : Int32) h)
  · have h := h.2 c4
    refine am_iload_n d_M_areThree_7 1 rfl ?_
    refine am_callS (d2 := d - 1) [.int a1] d_M_areThree_8 mi_M_isPlace wd_1188 wd_1189 (by omega) rfl rfl (Nat.le_of_ble_eq_true rfl) ?_
    refine Call.post ?_ (cf_M_isPlace_ok (by omega) a1  w _ h)
    rintro _ _ ⟨r2, rfl, rfl, h⟩
    show wp g (fun _ => True) y_M_areThree prog_14_method_68_code 3 (some FieldType.boolean) d 11 [(0, .int a0), (1, .int a1), (2, .int a2)] [.int r2] w Q
    refine am_if_eq (tgt := 25) d_M_areThree_11 (by decide) (fun c11 => ?_) (fun c11 => ?_)
    · have h := h.1 c11
      refine am_iconst (v := 0) d_M_areThree_25 rfl ?_
      exact am_ireturn d_M_areThree_26 rfl rfl (hQ (0 : Int32) h)
    · have h := h.2 c11
      refine am_iload_n d_M_areThree_14 2 rfl ?_
      refine am_callS (d2 := d - 1) [.int a2] d_M_areThree_15 mi_M_isPlace wd_1188 wd_1189 (by omega) rfl rfl (Nat.le_of_ble_eq_true rfl) ?_
      refine Call.post ?_ (cf_M_isPlace_ok (by omega) a2  w _ h)
      rintro _ _ ⟨r3, rfl, rfl, h⟩
      show wp g (fun _ => True) y_M_areThree prog_14_method_68_code 3 (some FieldType.boolean) d 18 [(0, .int a0), (1, .int a1), (2, .int a2)] [.int r3] w Q
      refine am_if_eq (tgt := 25) d_M_areThree_18 (by decide) (fun c18 => ?_) (fun c18 => ?_)
      · have h := h.1 c18
        refine am_iconst (v := 0) d_M_areThree_25 rfl ?_
        exact am_ireturn d_M_areThree_26 rfl rfl (hQ (0 : Int32) h)
      · have h := h.2 c18
        refine am_iconst (v := 1) d_M_areThree_21 rfl ?_
        refine am_goto (tgt := 26) d_M_areThree_22 (by decide) ?_
        exact am_ireturn d_M_areThree_26 rfl rfl (hQ (1 : Int32) h)
theorem d_M_add_0 : decode prog_14_method_69_code 0 = .ok (.iload_n 1, 1) := by decide +kernel
theorem d_M_add_1 : decode prog_14_method_69_code 1 = .ok (.iload_n 2, 1) := by decide +kernel
theorem d_M_add_2 : decode prog_14_method_69_code 2 = .ok (.iload_n 3, 1) := by decide +kernel
theorem d_M_add_3 : decode prog_14_method_69_code 3 = .ok (.invokestatic 254, 3) := by decide +kernel
theorem d_M_add_6 : decode prog_14_method_69_code 6 = .ok (.ifCond .eq 24, 3) := by decide +kernel
theorem d_M_add_9 : decode prog_14_method_69_code 9 = .ok (.aload_n 0, 1) := by decide +kernel
theorem d_M_add_10 : decode prog_14_method_69_code 10 = .ok (.iload_n 3, 1) := by decide +kernel
theorem d_M_add_11 : decode prog_14_method_69_code 11 = .ok (.aload_n 0, 1) := by decide +kernel
theorem d_M_add_12 : decode prog_14_method_69_code 12 = .ok (.getfield 7, 3) := by decide +kernel
theorem d_M_add_15 : decode prog_14_method_69_code 15 = .ok (.iload_n 1, 1) := by decide +kernel
theorem d_M_add_16 : decode prog_14_method_69_code 16 = .ok (.laload, 1) := by decide +kernel
theorem d_M_add_17 : decode prog_14_method_69_code 17 = .ok (.aload_n 0, 1) := by decide +kernel
theorem d_M_add_18 : decode prog_14_method_69_code 18 = .ok (.getfield 7, 3) := by decide +kernel
theorem d_M_add_21 : decode prog_14_method_69_code 21 = .ok (.iload_n 2, 1) := by decide +kernel
theorem d_M_add_22 : decode prog_14_method_69_code 22 = .ok (.laload, 1) := by decide +kernel
theorem d_M_add_23 : decode prog_14_method_69_code 23 = .ok (.lxor, 1) := by decide +kernel
theorem d_M_add_24 : decode prog_14_method_69_code 24 = .ok (.invokevirtual 250, 3) := by decide +kernel
theorem d_M_add_27 : decode prog_14_method_69_code 27 = .ok (.goto 5, 3) := by decide +kernel
theorem d_M_add_30 : decode prog_14_method_69_code 30 = .ok (.bipush (-5), 2) := by decide +kernel
theorem d_M_add_32 : decode prog_14_method_69_code 32 = .ok (.ireturn, 1) := by decide +kernel
def cf_M_add (a0 : Int32) (a1 : Int32) (a2 : Int32) (w : Wd) (P : Int32 → Wd → Prop) : Prop :=
  cf_M_areThree a0 a1 a2 (fun r1 => ((r1 = 0 → P (-5 : Int32) w) ∧ (¬ r1 = 0 → vp_in a0 14 ∧ vp_in a1 14 ∧ cf_M_gets a2 ((w.2 31 a0.toNatClampNeg) ^^^ (w.2 31 a1.toNatClampNeg)) w (fun r2 w3 => P r2 w3))))
theorem cf_M_add_ok {g : ayG} {d : Nat} (hd : 3 ≤ d) (a0 : Int32) (a1 : Int32) (a2 : Int32)  (w : Wd) (P : Int32 → Wd → Prop) (h : cf_M_add a0 a1 a2 w P) : Call g y_M_add prog_14_method_69_code 4 (some FieldType.int) d [.ref (g.1 + 30), .int a0, .int a1, .int a2] w (fun (r : Option Value) (w2 : Wd) => ∃ x, r = some (.int x) ∧ P x w2) := by
  unfold cf_M_add at h
  refine am_enter mi_M_add (Nat.le_of_ble_eq_true rfl) ?_
  have hQ : ∀ x w2, P x w2 → (fun (r : Option Value) (w2 : Wd) => ∃ x, r = some (.int x) ∧ P x w2) (some (.int x)) w2 := fun x w2 h => ⟨x, rfl, h⟩
  generalize (fun (r : Option Value) (w2 : Wd) => ∃ x, r = some (.int x) ∧ P x w2) = Q at hQ ⊢
  show wp g (fun _ => True) y_M_add prog_14_method_69_code 4 (some FieldType.int) d 0 [(0, .ref (g.1 + 30)), (1, .int a0), (2, .int a1), (3, .int a2)] [] w Q
  refine am_iload_n d_M_add_0 1 rfl ?_
  refine am_iload_n d_M_add_1 2 rfl ?_
  refine am_iload_n d_M_add_2 3 rfl ?_
  refine am_callS (d2 := d - 1) [.int a0, .int a1, .int a2] d_M_add_3 mi_M_areThree wd_1433 wd_1434 (by omega) rfl rfl (Nat.le_of_ble_eq_true rfl) ?_
  refine Call.post ?_ (cf_M_areThree_ok (by omega) a0 a1 a2  w _ h)
  rintro _ _ ⟨r1, rfl, rfl, h⟩
  show wp g (fun _ => True) y_M_add prog_14_method_69_code 4 (some FieldType.int) d 6 [(0, .ref (g.1 + 30)), (1, .int a0), (2, .int a1), (3, .int a2)] [.int r1] w Q
  refine am_if_eq (tgt := 30) d_M_add_6 (by decide) (fun c6 => ?_) (fun c6 => ?_)
  · have h := h.1 c6
    refine am_bipush (v := -5) d_M_add_30 rfl ?_
    exact am_ireturn d_M_add_32 rfl rfl (hQ (-5 : Int32) w h)
  · have h := h.2 c6
    refine am_aload_n d_M_add_9 0 rfl ?_
    refine am_iload_n d_M_add_10 3 rfl ?_
    refine am_aload_n d_M_add_11 0 rfl ?_
    refine am_getf (T := F_M) (fs := ob_M g w 30) (C := R_M) (N := 35) (ci := 10) 0 d_M_add_12 wd_1077 rfl (by decide) (el_M (show ay_sh 30 = _ from rfl)) rfl i_M (by decide) rfl ?_
    refine am_iload_n d_M_add_15 1 rfl ?_
    have hi16 := h.1
    have h := h.2
    refine am_laload d_M_add_16 (show ay_sh 31 = _ from rfl) hi16 ?_
    refine am_aload_n d_M_add_17 0 rfl ?_
    refine am_getf (T := F_M) (fs := ob_M g w 30) (C := R_M) (N := 35) (ci := 10) 0 d_M_add_18 wd_1077 rfl (by decide) (el_M (show ay_sh 30 = _ from rfl)) rfl i_M (by decide) rfl ?_
    refine am_iload_n d_M_add_21 2 rfl ?_
    have hi22 := h.1
    have h := h.2
    refine am_laload d_M_add_22 (show ay_sh 31 = _ from rfl) hi22 ?_
    refine am_lxor d_M_add_23 ?_
    refine am_callV (C := y_M_gets.cls) (d2 := d - 1) [.int a2, .long ((w.2 31 a0.toNatClampNeg) ^^^ (w.2 31 a1.toNatClampNeg))] d_M_add_24 mi_M_gets wd_1425 wd_1427 ws_M_gets (by decide) (el_M (show ay_sh 30 = _ from rfl)) rfl rfl (by omega) rfl rfl (Nat.le_of_ble_eq_true rfl) ?_
    refine Call.post ?_ (cf_M_gets_ok (by omega) a2 ((w.2 31 a0.toNatClampNeg) ^^^ (w.2 31 a1.toNatClampNeg))  w _ h)
    rintro _ w3 ⟨r2, rfl, h⟩
    show wp g (fun _ => True) y_M_add prog_14_method_69_code 4 (some FieldType.int) d 27 [(0, .ref (g.1 + 30)), (1, .int a0), (2, .int a1), (3, .int a2)] [.int r2] w3 Q
    refine am_goto (tgt := 32) d_M_add_27 (by decide) ?_
    exact am_ireturn d_M_add_32 rfl rfl (hQ r2 w3 h)
theorem d_M_multiply_0 : decode prog_14_method_70_code 0 = .ok (.iload_n 1, 1) := by decide +kernel
theorem d_M_multiply_1 : decode prog_14_method_70_code 1 = .ok (.iload_n 2, 1) := by decide +kernel
theorem d_M_multiply_2 : decode prog_14_method_70_code 2 = .ok (.iload_n 3, 1) := by decide +kernel
theorem d_M_multiply_3 : decode prog_14_method_70_code 3 = .ok (.invokestatic 254, 3) := by decide +kernel
theorem d_M_multiply_6 : decode prog_14_method_70_code 6 = .ok (.ifCond .ne 6, 3) := by decide +kernel
theorem d_M_multiply_9 : decode prog_14_method_70_code 9 = .ok (.bipush (-5), 2) := by decide +kernel
theorem d_M_multiply_11 : decode prog_14_method_70_code 11 = .ok (.ireturn, 1) := by decide +kernel
theorem d_M_multiply_12 : decode prog_14_method_70_code 12 = .ok (.aload_n 0, 1) := by decide +kernel
theorem d_M_multiply_13 : decode prog_14_method_70_code 13 = .ok (.getfield 7, 3) := by decide +kernel
theorem d_M_multiply_16 : decode prog_14_method_70_code 16 = .ok (.iload_n 1, 1) := by decide +kernel
theorem d_M_multiply_17 : decode prog_14_method_70_code 17 = .ok (.laload, 1) := by decide +kernel
theorem d_M_multiply_18 : decode prog_14_method_70_code 18 = .ok (.aload_n 0, 1) := by decide +kernel
theorem d_M_multiply_19 : decode prog_14_method_70_code 19 = .ok (.getfield 7, 3) := by decide +kernel
theorem d_M_multiply_22 : decode prog_14_method_70_code 22 = .ok (.iload_n 2, 1) := by decide +kernel
theorem d_M_multiply_23 : decode prog_14_method_70_code 23 = .ok (.laload, 1) := by decide +kernel
theorem d_M_multiply_24 : decode prog_14_method_70_code 24 = .ok (.invokestatic 95, 3) := by decide +kernel
theorem d_M_multiply_27 : decode prog_14_method_70_code 27 = .ok (.lstore 4, 2) := by decide +kernel
theorem d_M_multiply_29 : decode prog_14_method_70_code 29 = .ok (.lload 4, 2) := by decide +kernel
theorem d_M_multiply_31 : decode prog_14_method_70_code 31 = .ok (.invokestatic 84, 3) := by decide +kernel
theorem d_M_multiply_34 : decode prog_14_method_70_code 34 = .ok (.bipush 31, 2) := by decide +kernel
theorem d_M_multiply_36 : decode prog_14_method_70_code 36 = .ok (.if_icmp .le 8, 3) := by decide +kernel
theorem d_M_multiply_39 : decode prog_14_method_70_code 39 = .ok (.bipush (-2), 2) := by decide +kernel
theorem d_M_multiply_41 : decode prog_14_method_70_code 41 = .ok (.goto 10, 3) := by decide +kernel
theorem d_M_multiply_44 : decode prog_14_method_70_code 44 = .ok (.aload_n 0, 1) := by decide +kernel
theorem d_M_multiply_45 : decode prog_14_method_70_code 45 = .ok (.iload_n 3, 1) := by decide +kernel
theorem d_M_multiply_46 : decode prog_14_method_70_code 46 = .ok (.lload 4, 2) := by decide +kernel
theorem d_M_multiply_48 : decode prog_14_method_70_code 48 = .ok (.invokevirtual 250, 3) := by decide +kernel
theorem d_M_multiply_51 : decode prog_14_method_70_code 51 = .ok (.ireturn, 1) := by decide +kernel
def cf_M_multiply (a0 : Int32) (a1 : Int32) (a2 : Int32) (w : Wd) (P : Int32 → Wd → Prop) : Prop :=
  cf_M_areThree a0 a1 a2 (fun r1 => ((¬ r1 = 0 → vp_in a0 14 ∧ vp_in a1 14 ∧ cf_M_product (w.2 31 a0.toNatClampNeg) (w.2 31 a1.toNatClampNeg) (fun r2 => cf_M_degree r2 (fun r3 => ((r3 ≤ (31 : Int32) → cf_M_gets a2 r2 w (fun r4 w5 => P r4 w5)) ∧ (¬ r3 ≤ (31 : Int32) → P (-2 : Int32) w))))) ∧ (r1 = 0 → P (-5 : Int32) w)))
theorem cf_M_multiply_ok {g : ayG} {d : Nat} (hd : 3 ≤ d) (a0 : Int32) (a1 : Int32) (a2 : Int32)  (w : Wd) (P : Int32 → Wd → Prop) (h : cf_M_multiply a0 a1 a2 w P) : Call g y_M_multiply prog_14_method_70_code 6 (some FieldType.int) d [.ref (g.1 + 30), .int a0, .int a1, .int a2] w (fun (r : Option Value) (w2 : Wd) => ∃ x, r = some (.int x) ∧ P x w2) := by
  unfold cf_M_multiply at h
  refine am_enter mi_M_multiply (Nat.le_of_ble_eq_true rfl) ?_
  have hQ : ∀ x w2, P x w2 → (fun (r : Option Value) (w2 : Wd) => ∃ x, r = some (.int x) ∧ P x w2) (some (.int x)) w2 := fun x w2 h => ⟨x, rfl, h⟩
  generalize (fun (r : Option Value) (w2 : Wd) => ∃ x, r = some (.int x) ∧ P x w2) = Q at hQ ⊢
  show wp g (fun _ => True) y_M_multiply prog_14_method_70_code 6 (some FieldType.int) d 0 [(0, .ref (g.1 + 30)), (1, .int a0), (2, .int a1), (3, .int a2)] [] w Q
  refine am_iload_n d_M_multiply_0 1 rfl ?_
  refine am_iload_n d_M_multiply_1 2 rfl ?_
  refine am_iload_n d_M_multiply_2 3 rfl ?_
  refine am_callS (d2 := d - 1) [.int a0, .int a1, .int a2] d_M_multiply_3 mi_M_areThree wd_1433 wd_1434 (by omega) rfl rfl (Nat.le_of_ble_eq_true rfl) ?_
  refine Call.post ?_ (cf_M_areThree_ok (by omega) a0 a1 a2  w _ h)
  rintro _ _ ⟨r1, rfl, rfl, h⟩
  show wp g (fun _ => True) y_M_multiply prog_14_method_70_code 6 (some FieldType.int) d 6 [(0, .ref (g.1 + 30)), (1, .int a0), (2, .int a1), (3, .int a2)] [.int r1] w Q
  refine am_if_ne (tgt := 12) d_M_multiply_6 (by decide) (fun c6 => ?_) (fun c6 => ?_)
  · have h := h.1 c6
    refine am_aload_n d_M_multiply_12 0 rfl ?_
    refine am_getf (T := F_M) (fs := ob_M g w 30) (C := R_M) (N := 35) (ci := 10) 0 d_M_multiply_13 wd_1077 rfl (by decide) (el_M (show ay_sh 30 = _ from rfl)) rfl i_M (by decide) rfl ?_
    refine am_iload_n d_M_multiply_16 1 rfl ?_
    have hi17 := h.1
    have h := h.2
    refine am_laload d_M_multiply_17 (show ay_sh 31 = _ from rfl) hi17 ?_
    refine am_aload_n d_M_multiply_18 0 rfl ?_
    refine am_getf (T := F_M) (fs := ob_M g w 30) (C := R_M) (N := 35) (ci := 10) 0 d_M_multiply_19 wd_1077 rfl (by decide) (el_M (show ay_sh 30 = _ from rfl)) rfl i_M (by decide) rfl ?_
    refine am_iload_n d_M_multiply_22 2 rfl ?_
    have hi23 := h.1
    have h := h.2
    refine am_laload d_M_multiply_23 (show ay_sh 31 = _ from rfl) hi23 ?_
    refine am_callS (d2 := d - 1) [.long (w.2 31 a0.toNatClampNeg), .long (w.2 31 a1.toNatClampNeg)] d_M_multiply_24 mi_M_product wd_1256 wd_1257 (by omega) rfl rfl (Nat.le_of_ble_eq_true rfl) ?_
    refine Call.post ?_ (cf_M_product_ok (by omega) (w.2 31 a0.toNatClampNeg) (w.2 31 a1.toNatClampNeg)  w _ h)
    rintro _ _ ⟨r2, rfl, rfl, h⟩
    show wp g (fun _ => True) y_M_multiply prog_14_method_70_code 6 (some FieldType.int) d 27 [(0, .ref (g.1 + 30)), (1, .int a0), (2, .int a1), (3, .int a2)] [.long r2] w Q
    refine am_lstore (l' := [(4, .long r2), (0, .ref (g.1 + 30)), (1, .int a0), (2, .int a1), (3, .int a2)]) d_M_multiply_27 (by decide) rfl ?_
    refine am_lload d_M_multiply_29 0 rfl ?_
    refine am_callS (d2 := d - 1) [.long r2] d_M_multiply_31 mi_M_degree wd_1206 wd_1207 (by omega) rfl rfl (Nat.le_of_ble_eq_true rfl) ?_
    refine Call.post ?_ (cf_M_degree_ok (by omega) r2  w _ h)
    rintro _ _ ⟨r3, rfl, rfl, h⟩
    show wp g (fun _ => True) y_M_multiply prog_14_method_70_code 6 (some FieldType.int) d 34 [(4, .long r2), (0, .ref (g.1 + 30)), (1, .int a0), (2, .int a1), (3, .int a2)] [.int r3] w Q
    refine am_bipush (v := 31) d_M_multiply_34 rfl ?_
    refine am_icmp_le (tgt := 44) d_M_multiply_36 (by decide) (fun c36 => ?_) (fun c36 => ?_)
    · have h := h.1 c36
      refine am_aload_n d_M_multiply_44 1 rfl ?_
      refine am_iload_n d_M_multiply_45 4 rfl ?_
      refine am_lload d_M_multiply_46 0 rfl ?_
      refine am_callV (C := y_M_gets.cls) (d2 := d - 1) [.int a2, .long r2] d_M_multiply_48 mi_M_gets wd_1425 wd_1427 ws_M_gets (by decide) (el_M (show ay_sh 30 = _ from rfl)) rfl rfl (by omega) rfl rfl (Nat.le_of_ble_eq_true rfl) ?_
      refine Call.post ?_ (cf_M_gets_ok (by omega) a2 r2  w _ h)
      rintro _ w5 ⟨r4, rfl, h⟩
      show wp g (fun _ => True) y_M_multiply prog_14_method_70_code 6 (some FieldType.int) d 51 [(4, .long r2), (0, .ref (g.1 + 30)), (1, .int a0), (2, .int a1), (3, .int a2)] [.int r4] w5 Q
      exact am_ireturn d_M_multiply_51 rfl rfl (hQ r4 w5 h)
    · have h := h.2 c36
      refine am_bipush (v := -2) d_M_multiply_39 rfl ?_
      refine am_goto (tgt := 51) d_M_multiply_41 (by decide) ?_
      exact am_ireturn d_M_multiply_51 rfl rfl (hQ (-2 : Int32) w h)
  · have h := h.2 c6
    refine am_bipush (v := -5) d_M_multiply_9 rfl ?_
    exact am_ireturn d_M_multiply_11 rfl rfl (hQ (-5 : Int32) w h)
theorem d_M_divide_0 : decode prog_14_method_71_code 0 = .ok (.iload_n 1, 1) := by decide +kernel
theorem d_M_divide_1 : decode prog_14_method_71_code 1 = .ok (.iload_n 2, 1) := by decide +kernel
theorem d_M_divide_2 : decode prog_14_method_71_code 2 = .ok (.iload_n 3, 1) := by decide +kernel
theorem d_M_divide_3 : decode prog_14_method_71_code 3 = .ok (.invokestatic 254, 3) := by decide +kernel
theorem d_M_divide_6 : decode prog_14_method_71_code 6 = .ok (.ifCond .ne 6, 3) := by decide +kernel
theorem d_M_divide_9 : decode prog_14_method_71_code 9 = .ok (.bipush (-5), 2) := by decide +kernel
theorem d_M_divide_11 : decode prog_14_method_71_code 11 = .ok (.ireturn, 1) := by decide +kernel
theorem d_M_divide_12 : decode prog_14_method_71_code 12 = .ok (.aload_n 0, 1) := by decide +kernel
theorem d_M_divide_13 : decode prog_14_method_71_code 13 = .ok (.getfield 7, 3) := by decide +kernel
theorem d_M_divide_16 : decode prog_14_method_71_code 16 = .ok (.iload_n 2, 1) := by decide +kernel
theorem d_M_divide_17 : decode prog_14_method_71_code 17 = .ok (.laload, 1) := by decide +kernel
theorem d_M_divide_18 : decode prog_14_method_71_code 18 = .ok (.lconst 0, 1) := by decide +kernel
theorem d_M_divide_19 : decode prog_14_method_71_code 19 = .ok (.lcmp, 1) := by decide +kernel
theorem d_M_divide_20 : decode prog_14_method_71_code 20 = .ok (.ifCond .ne 8, 3) := by decide +kernel
theorem d_M_divide_23 : decode prog_14_method_71_code 23 = .ok (.bipush (-2), 2) := by decide +kernel
theorem d_M_divide_25 : decode prog_14_method_71_code 25 = .ok (.goto 23, 3) := by decide +kernel
theorem d_M_divide_28 : decode prog_14_method_71_code 28 = .ok (.aload_n 0, 1) := by decide +kernel
theorem d_M_divide_29 : decode prog_14_method_71_code 29 = .ok (.iload_n 3, 1) := by decide +kernel
theorem d_M_divide_30 : decode prog_14_method_71_code 30 = .ok (.aload_n 0, 1) := by decide +kernel
theorem d_M_divide_31 : decode prog_14_method_71_code 31 = .ok (.getfield 7, 3) := by decide +kernel
theorem d_M_divide_34 : decode prog_14_method_71_code 34 = .ok (.iload_n 1, 1) := by decide +kernel
theorem d_M_divide_35 : decode prog_14_method_71_code 35 = .ok (.laload, 1) := by decide +kernel
theorem d_M_divide_36 : decode prog_14_method_71_code 36 = .ok (.aload_n 0, 1) := by decide +kernel
theorem d_M_divide_37 : decode prog_14_method_71_code 37 = .ok (.getfield 7, 3) := by decide +kernel
theorem d_M_divide_40 : decode prog_14_method_71_code 40 = .ok (.iload_n 2, 1) := by decide +kernel
theorem d_M_divide_41 : decode prog_14_method_71_code 41 = .ok (.laload, 1) := by decide +kernel
theorem d_M_divide_42 : decode prog_14_method_71_code 42 = .ok (.invokestatic 109, 3) := by decide +kernel
theorem d_M_divide_45 : decode prog_14_method_71_code 45 = .ok (.invokevirtual 250, 3) := by decide +kernel
theorem d_M_divide_48 : decode prog_14_method_71_code 48 = .ok (.ireturn, 1) := by decide +kernel
def cf_M_divide (a0 : Int32) (a1 : Int32) (a2 : Int32) (w : Wd) (P : Int32 → Wd → Prop) : Prop :=
  cf_M_areThree a0 a1 a2 (fun r1 => ((¬ r1 = 0 → vp_in a1 14 ∧ ((¬ (w.2 31 a1.toNatClampNeg) = (0 : Int64) → vp_in a0 14 ∧ vp_in a1 14 ∧ cf_M_quotient (w.2 31 a0.toNatClampNeg) (w.2 31 a1.toNatClampNeg) (fun r2 => cf_M_gets a2 r2 w (fun r3 w4 => P r3 w4))) ∧ ((w.2 31 a1.toNatClampNeg) = (0 : Int64) → P (-2 : Int32) w))) ∧ (r1 = 0 → P (-5 : Int32) w)))
theorem cf_M_divide_ok {g : ayG} {d : Nat} (hd : 3 ≤ d) (a0 : Int32) (a1 : Int32) (a2 : Int32)  (w : Wd) (P : Int32 → Wd → Prop) (h : cf_M_divide a0 a1 a2 w P) : Call g y_M_divide prog_14_method_71_code 4 (some FieldType.int) d [.ref (g.1 + 30), .int a0, .int a1, .int a2] w (fun (r : Option Value) (w2 : Wd) => ∃ x, r = some (.int x) ∧ P x w2) := by
  unfold cf_M_divide at h
  refine am_enter mi_M_divide (Nat.le_of_ble_eq_true rfl) ?_
  have hQ : ∀ x w2, P x w2 → (fun (r : Option Value) (w2 : Wd) => ∃ x, r = some (.int x) ∧ P x w2) (some (.int x)) w2 := fun x w2 h => ⟨x, rfl, h⟩
  generalize (fun (r : Option Value) (w2 : Wd) => ∃ x, r = some (.int x) ∧ P x w2) = Q at hQ ⊢
  show wp g (fun _ => True) y_M_divide prog_14_method_71_code 4 (some FieldType.int) d 0 [(0, .ref (g.1 + 30)), (1, .int a0), (2, .int a1), (3, .int a2)] [] w Q
  refine am_iload_n d_M_divide_0 1 rfl ?_
  refine am_iload_n d_M_divide_1 2 rfl ?_
  refine am_iload_n d_M_divide_2 3 rfl ?_
  refine am_callS (d2 := d - 1) [.int a0, .int a1, .int a2] d_M_divide_3 mi_M_areThree wd_1433 wd_1434 (by omega) rfl rfl (Nat.le_of_ble_eq_true rfl) ?_
  refine Call.post ?_ (cf_M_areThree_ok (by omega) a0 a1 a2  w _ h)
  rintro _ _ ⟨r1, rfl, rfl, h⟩
  show wp g (fun _ => True) y_M_divide prog_14_method_71_code 4 (some FieldType.int) d 6 [(0, .ref (g.1 + 30)), (1, .int a0), (2, .int a1), (3, .int a2)] [.int r1] w Q
  refine am_if_ne (tgt := 12) d_M_divide_6 (by decide) (fun c6 => ?_) (fun c6 => ?_)
  · have h := h.1 c6
    refine am_aload_n d_M_divide_12 0 rfl ?_
    refine am_getf (T := F_M) (fs := ob_M g w 30) (C := R_M) (N := 35) (ci := 10) 0 d_M_divide_13 wd_1077 rfl (by decide) (el_M (show ay_sh 30 = _ from rfl)) rfl i_M (by decide) rfl ?_
    refine am_iload_n d_M_divide_16 2 rfl ?_
    have hi17 := h.1
    have h := h.2
    refine am_laload d_M_divide_17 (show ay_sh 31 = _ from rfl) hi17 ?_
    refine am_lconst (v := 0) d_M_divide_18 rfl ?_
    refine am_lif_ne (tgt := 28) d_M_divide_19 d_M_divide_20 (by decide) (fun c19 => ?_) (fun c19 => ?_)
    · have h := h.1 c19
      refine am_aload_n d_M_divide_28 0 rfl ?_
      refine am_iload_n d_M_divide_29 3 rfl ?_
      refine am_aload_n d_M_divide_30 0 rfl ?_
      refine am_getf (T := F_M) (fs := ob_M g w 30) (C := R_M) (N := 35) (ci := 10) 0 d_M_divide_31 wd_1077 rfl (by decide) (el_M (show ay_sh 30 = _ from rfl)) rfl i_M (by decide) rfl ?_
      refine am_iload_n d_M_divide_34 1 rfl ?_
      have hi35 := h.1
      have h := h.2
      refine am_laload d_M_divide_35 (show ay_sh 31 = _ from rfl) hi35 ?_
      refine am_aload_n d_M_divide_36 0 rfl ?_
      refine am_getf (T := F_M) (fs := ob_M g w 30) (C := R_M) (N := 35) (ci := 10) 0 d_M_divide_37 wd_1077 rfl (by decide) (el_M (show ay_sh 30 = _ from rfl)) rfl i_M (by decide) rfl ?_
      refine am_iload_n d_M_divide_40 2 rfl ?_
      have hi41 := h.1
      have h := h.2
      refine am_laload d_M_divide_41 (show ay_sh 31 = _ from rfl) hi41 ?_
      refine am_callS (d2 := d - 1) [.long (w.2 31 a0.toNatClampNeg), .long (w.2 31 a1.toNatClampNeg)] d_M_divide_42 mi_M_quotient wd_1215 wd_1216 (by omega) rfl rfl (Nat.le_of_ble_eq_true rfl) ?_
      refine Call.post ?_ (cf_M_quotient_ok (by omega) (w.2 31 a0.toNatClampNeg) (w.2 31 a1.toNatClampNeg)  w _ h)
      rintro _ _ ⟨r2, rfl, rfl, h⟩
      show wp g (fun _ => True) y_M_divide prog_14_method_71_code 4 (some FieldType.int) d 45 [(0, .ref (g.1 + 30)), (1, .int a0), (2, .int a1), (3, .int a2)] [.long r2, .int a2, .ref (g.1 + 30)] w Q
      refine am_callV (C := y_M_gets.cls) (d2 := d - 1) [.int a2, .long r2] d_M_divide_45 mi_M_gets wd_1425 wd_1427 ws_M_gets (by decide) (el_M (show ay_sh 30 = _ from rfl)) rfl rfl (by omega) rfl rfl (Nat.le_of_ble_eq_true rfl) ?_
      refine Call.post ?_ (cf_M_gets_ok (by omega) a2 r2  w _ h)
      rintro _ w4 ⟨r3, rfl, h⟩
      show wp g (fun _ => True) y_M_divide prog_14_method_71_code 4 (some FieldType.int) d 48 [(0, .ref (g.1 + 30)), (1, .int a0), (2, .int a1), (3, .int a2)] [.int r3] w4 Q
      exact am_ireturn d_M_divide_48 rfl rfl (hQ r3 w4 h)
    · have h := h.2 c19
      refine am_bipush (v := -2) d_M_divide_23 rfl ?_
      refine am_goto (tgt := 48) d_M_divide_25 (by decide) ?_
      exact am_ireturn d_M_divide_48 rfl rfl (hQ (-2 : Int32) w h)
  · have h := h.2 c6
    refine am_bipush (v := -5) d_M_divide_9 rfl ?_
    exact am_ireturn d_M_divide_11 rfl rfl (hQ (-5 : Int32) w h)
theorem d_M_rest_0 : decode prog_14_method_72_code 0 = .ok (.iload_n 1, 1) := by decide +kernel
theorem d_M_rest_1 : decode prog_14_method_72_code 1 = .ok (.iload_n 2, 1) := by decide +kernel
theorem d_M_rest_2 : decode prog_14_method_72_code 2 = .ok (.iload_n 3, 1) := by decide +kernel
theorem d_M_rest_3 : decode prog_14_method_72_code 3 = .ok (.invokestatic 254, 3) := by decide +kernel
theorem d_M_rest_6 : decode prog_14_method_72_code 6 = .ok (.ifCond .ne 6, 3) := by decide +kernel
theorem d_M_rest_9 : decode prog_14_method_72_code 9 = .ok (.bipush (-5), 2) := by decide +kernel
theorem d_M_rest_11 : decode prog_14_method_72_code 11 = .ok (.ireturn, 1) := by decide +kernel
theorem d_M_rest_12 : decode prog_14_method_72_code 12 = .ok (.aload_n 0, 1) := by decide +kernel
theorem d_M_rest_13 : decode prog_14_method_72_code 13 = .ok (.getfield 7, 3) := by decide +kernel
theorem d_M_rest_16 : decode prog_14_method_72_code 16 = .ok (.iload_n 2, 1) := by decide +kernel
theorem d_M_rest_17 : decode prog_14_method_72_code 17 = .ok (.laload, 1) := by decide +kernel
theorem d_M_rest_18 : decode prog_14_method_72_code 18 = .ok (.lconst 0, 1) := by decide +kernel
theorem d_M_rest_19 : decode prog_14_method_72_code 19 = .ok (.lcmp, 1) := by decide +kernel
theorem d_M_rest_20 : decode prog_14_method_72_code 20 = .ok (.ifCond .ne 8, 3) := by decide +kernel
theorem d_M_rest_23 : decode prog_14_method_72_code 23 = .ok (.bipush (-2), 2) := by decide +kernel
theorem d_M_rest_25 : decode prog_14_method_72_code 25 = .ok (.goto 23, 3) := by decide +kernel
theorem d_M_rest_28 : decode prog_14_method_72_code 28 = .ok (.aload_n 0, 1) := by decide +kernel
theorem d_M_rest_29 : decode prog_14_method_72_code 29 = .ok (.iload_n 3, 1) := by decide +kernel
theorem d_M_rest_30 : decode prog_14_method_72_code 30 = .ok (.aload_n 0, 1) := by decide +kernel
theorem d_M_rest_31 : decode prog_14_method_72_code 31 = .ok (.getfield 7, 3) := by decide +kernel
theorem d_M_rest_34 : decode prog_14_method_72_code 34 = .ok (.iload_n 1, 1) := by decide +kernel
theorem d_M_rest_35 : decode prog_14_method_72_code 35 = .ok (.laload, 1) := by decide +kernel
theorem d_M_rest_36 : decode prog_14_method_72_code 36 = .ok (.aload_n 0, 1) := by decide +kernel
theorem d_M_rest_37 : decode prog_14_method_72_code 37 = .ok (.getfield 7, 3) := by decide +kernel
theorem d_M_rest_40 : decode prog_14_method_72_code 40 = .ok (.iload_n 2, 1) := by decide +kernel
theorem d_M_rest_41 : decode prog_14_method_72_code 41 = .ok (.laload, 1) := by decide +kernel
theorem d_M_rest_42 : decode prog_14_method_72_code 42 = .ok (.invokestatic 88, 3) := by decide +kernel
theorem d_M_rest_45 : decode prog_14_method_72_code 45 = .ok (.invokevirtual 250, 3) := by decide +kernel
theorem d_M_rest_48 : decode prog_14_method_72_code 48 = .ok (.ireturn, 1) := by decide +kernel
def cf_M_rest (a0 : Int32) (a1 : Int32) (a2 : Int32) (w : Wd) (P : Int32 → Wd → Prop) : Prop :=
  cf_M_areThree a0 a1 a2 (fun r1 => ((¬ r1 = 0 → vp_in a1 14 ∧ ((¬ (w.2 31 a1.toNatClampNeg) = (0 : Int64) → vp_in a0 14 ∧ vp_in a1 14 ∧ cf_M_restOf (w.2 31 a0.toNatClampNeg) (w.2 31 a1.toNatClampNeg) (fun r2 => cf_M_gets a2 r2 w (fun r3 w4 => P r3 w4))) ∧ ((w.2 31 a1.toNatClampNeg) = (0 : Int64) → P (-2 : Int32) w))) ∧ (r1 = 0 → P (-5 : Int32) w)))
theorem cf_M_rest_ok {g : ayG} {d : Nat} (hd : 3 ≤ d) (a0 : Int32) (a1 : Int32) (a2 : Int32)  (w : Wd) (P : Int32 → Wd → Prop) (h : cf_M_rest a0 a1 a2 w P) : Call g y_M_rest prog_14_method_72_code 4 (some FieldType.int) d [.ref (g.1 + 30), .int a0, .int a1, .int a2] w (fun (r : Option Value) (w2 : Wd) => ∃ x, r = some (.int x) ∧ P x w2) := by
  unfold cf_M_rest at h
  refine am_enter mi_M_rest (Nat.le_of_ble_eq_true rfl) ?_
  have hQ : ∀ x w2, P x w2 → (fun (r : Option Value) (w2 : Wd) => ∃ x, r = some (.int x) ∧ P x w2) (some (.int x)) w2 := fun x w2 h => ⟨x, rfl, h⟩
  generalize (fun (r : Option Value) (w2 : Wd) => ∃ x, r = some (.int x) ∧ P x w2) = Q at hQ ⊢
  show wp g (fun _ => True) y_M_rest prog_14_method_72_code 4 (some FieldType.int) d 0 [(0, .ref (g.1 + 30)), (1, .int a0), (2, .int a1), (3, .int a2)] [] w Q
  refine am_iload_n d_M_rest_0 1 rfl ?_
  refine am_iload_n d_M_rest_1 2 rfl ?_
  refine am_iload_n d_M_rest_2 3 rfl ?_
  refine am_callS (d2 := d - 1) [.int a0, .int a1, .int a2] d_M_rest_3 mi_M_areThree wd_1433 wd_1434 (by omega) rfl rfl (Nat.le_of_ble_eq_true rfl) ?_
  refine Call.post ?_ (cf_M_areThree_ok (by omega) a0 a1 a2  w _ h)
  rintro _ _ ⟨r1, rfl, rfl, h⟩
  show wp g (fun _ => True) y_M_rest prog_14_method_72_code 4 (some FieldType.int) d 6 [(0, .ref (g.1 + 30)), (1, .int a0), (2, .int a1), (3, .int a2)] [.int r1] w Q
  refine am_if_ne (tgt := 12) d_M_rest_6 (by decide) (fun c6 => ?_) (fun c6 => ?_)
  · have h := h.1 c6
    refine am_aload_n d_M_rest_12 0 rfl ?_
    refine am_getf (T := F_M) (fs := ob_M g w 30) (C := R_M) (N := 35) (ci := 10) 0 d_M_rest_13 wd_1077 rfl (by decide) (el_M (show ay_sh 30 = _ from rfl)) rfl i_M (by decide) rfl ?_
    refine am_iload_n d_M_rest_16 2 rfl ?_
    have hi17 := h.1
    have h := h.2
    refine am_laload d_M_rest_17 (show ay_sh 31 = _ from rfl) hi17 ?_
    refine am_lconst (v := 0) d_M_rest_18 rfl ?_
    refine am_lif_ne (tgt := 28) d_M_rest_19 d_M_rest_20 (by decide) (fun c19 => ?_) (fun c19 => ?_)
    · have h := h.1 c19
      refine am_aload_n d_M_rest_28 0 rfl ?_
      refine am_iload_n d_M_rest_29 3 rfl ?_
      refine am_aload_n d_M_rest_30 0 rfl ?_
      refine am_getf (T := F_M) (fs := ob_M g w 30) (C := R_M) (N := 35) (ci := 10) 0 d_M_rest_31 wd_1077 rfl (by decide) (el_M (show ay_sh 30 = _ from rfl)) rfl i_M (by decide) rfl ?_
      refine am_iload_n d_M_rest_34 1 rfl ?_
      have hi35 := h.1
      have h := h.2
      refine am_laload d_M_rest_35 (show ay_sh 31 = _ from rfl) hi35 ?_
      refine am_aload_n d_M_rest_36 0 rfl ?_
      refine am_getf (T := F_M) (fs := ob_M g w 30) (C := R_M) (N := 35) (ci := 10) 0 d_M_rest_37 wd_1077 rfl (by decide) (el_M (show ay_sh 30 = _ from rfl)) rfl i_M (by decide) rfl ?_
      refine am_iload_n d_M_rest_40 2 rfl ?_
      have hi41 := h.1
      have h := h.2
      refine am_laload d_M_rest_41 (show ay_sh 31 = _ from rfl) hi41 ?_
      refine am_callS (d2 := d - 1) [.long (w.2 31 a0.toNatClampNeg), .long (w.2 31 a1.toNatClampNeg)] d_M_rest_42 mi_M_restOf wd_1209 wd_1210 (by omega) rfl rfl (Nat.le_of_ble_eq_true rfl) ?_
      refine Call.post ?_ (cf_M_restOf_ok (by omega) (w.2 31 a0.toNatClampNeg) (w.2 31 a1.toNatClampNeg)  w _ h)
      rintro _ _ ⟨r2, rfl, rfl, h⟩
      show wp g (fun _ => True) y_M_rest prog_14_method_72_code 4 (some FieldType.int) d 45 [(0, .ref (g.1 + 30)), (1, .int a0), (2, .int a1), (3, .int a2)] [.long r2, .int a2, .ref (g.1 + 30)] w Q
      refine am_callV (C := y_M_gets.cls) (d2 := d - 1) [.int a2, .long r2] d_M_rest_45 mi_M_gets wd_1425 wd_1427 ws_M_gets (by decide) (el_M (show ay_sh 30 = _ from rfl)) rfl rfl (by omega) rfl rfl (Nat.le_of_ble_eq_true rfl) ?_
      refine Call.post ?_ (cf_M_gets_ok (by omega) a2 r2  w _ h)
      rintro _ w4 ⟨r3, rfl, h⟩
      show wp g (fun _ => True) y_M_rest prog_14_method_72_code 4 (some FieldType.int) d 48 [(0, .ref (g.1 + 30)), (1, .int a0), (2, .int a1), (3, .int a2)] [.int r3] w4 Q
      exact am_ireturn d_M_rest_48 rfl rfl (hQ r3 w4 h)
    · have h := h.2 c19
      refine am_bipush (v := -2) d_M_rest_23 rfl ?_
      refine am_goto (tgt := 48) d_M_rest_25 (by decide) ?_
      exact am_ireturn d_M_rest_48 rfl rfl (hQ (-2 : Int32) w h)
  · have h := h.2 c6
    refine am_bipush (v := -5) d_M_rest_9 rfl ?_
    exact am_ireturn d_M_rest_11 rfl rfl (hQ (-5 : Int32) w h)
theorem d_M_common_0 : decode prog_14_method_73_code 0 = .ok (.iload_n 1, 1) := by decide +kernel
theorem d_M_common_1 : decode prog_14_method_73_code 1 = .ok (.iload_n 2, 1) := by decide +kernel
theorem d_M_common_2 : decode prog_14_method_73_code 2 = .ok (.iload_n 3, 1) := by decide +kernel
theorem d_M_common_3 : decode prog_14_method_73_code 3 = .ok (.invokestatic 254, 3) := by decide +kernel
theorem d_M_common_6 : decode prog_14_method_73_code 6 = .ok (.ifCond .eq 26, 3) := by decide +kernel
theorem d_M_common_9 : decode prog_14_method_73_code 9 = .ok (.aload_n 0, 1) := by decide +kernel
theorem d_M_common_10 : decode prog_14_method_73_code 10 = .ok (.iload_n 3, 1) := by decide +kernel
theorem d_M_common_11 : decode prog_14_method_73_code 11 = .ok (.aload_n 0, 1) := by decide +kernel
theorem d_M_common_12 : decode prog_14_method_73_code 12 = .ok (.getfield 7, 3) := by decide +kernel
theorem d_M_common_15 : decode prog_14_method_73_code 15 = .ok (.iload_n 1, 1) := by decide +kernel
theorem d_M_common_16 : decode prog_14_method_73_code 16 = .ok (.laload, 1) := by decide +kernel
theorem d_M_common_17 : decode prog_14_method_73_code 17 = .ok (.aload_n 0, 1) := by decide +kernel
theorem d_M_common_18 : decode prog_14_method_73_code 18 = .ok (.getfield 7, 3) := by decide +kernel
theorem d_M_common_21 : decode prog_14_method_73_code 21 = .ok (.iload_n 2, 1) := by decide +kernel
theorem d_M_common_22 : decode prog_14_method_73_code 22 = .ok (.laload, 1) := by decide +kernel
theorem d_M_common_23 : decode prog_14_method_73_code 23 = .ok (.invokestatic 92, 3) := by decide +kernel
theorem d_M_common_26 : decode prog_14_method_73_code 26 = .ok (.invokevirtual 250, 3) := by decide +kernel
theorem d_M_common_29 : decode prog_14_method_73_code 29 = .ok (.goto 5, 3) := by decide +kernel
theorem d_M_common_32 : decode prog_14_method_73_code 32 = .ok (.bipush (-5), 2) := by decide +kernel
theorem d_M_common_34 : decode prog_14_method_73_code 34 = .ok (.ireturn, 1) := by decide +kernel
def cf_M_common (a0 : Int32) (a1 : Int32) (a2 : Int32) (w : Wd) (P : Int32 → Wd → Prop) : Prop :=
  cf_M_areThree a0 a1 a2 (fun r1 => ((r1 = 0 → P (-5 : Int32) w) ∧ (¬ r1 = 0 → vp_in a0 14 ∧ vp_in a1 14 ∧ cf_M_commonOf_W (w.2 31 a0.toNatClampNeg) (w.2 31 a1.toNatClampNeg) (fun r2 => cf_M_gets a2 r2 w (fun r3 w4 => P r3 w4)))))
theorem cf_M_common_ok {g : ayG} {d : Nat} (hd : 163 ≤ d) (a0 : Int32) (a1 : Int32) (a2 : Int32)  (w : Wd) (P : Int32 → Wd → Prop) (h : cf_M_common a0 a1 a2 w P) : Call g y_M_common prog_14_method_73_code 4 (some FieldType.int) d [.ref (g.1 + 30), .int a0, .int a1, .int a2] w (fun (r : Option Value) (w2 : Wd) => ∃ x, r = some (.int x) ∧ P x w2) := by
  unfold cf_M_common at h
  refine am_enter mi_M_common (Nat.le_of_ble_eq_true rfl) ?_
  have hQ : ∀ x w2, P x w2 → (fun (r : Option Value) (w2 : Wd) => ∃ x, r = some (.int x) ∧ P x w2) (some (.int x)) w2 := fun x w2 h => ⟨x, rfl, h⟩
  generalize (fun (r : Option Value) (w2 : Wd) => ∃ x, r = some (.int x) ∧ P x w2) = Q at hQ ⊢
  show wp g (fun _ => True) y_M_common prog_14_method_73_code 4 (some FieldType.int) d 0 [(0, .ref (g.1 + 30)), (1, .int a0), (2, .int a1), (3, .int a2)] [] w Q
  refine am_iload_n d_M_common_0 1 rfl ?_
  refine am_iload_n d_M_common_1 2 rfl ?_
  refine am_iload_n d_M_common_2 3 rfl ?_
  refine am_callS (d2 := d - 1) [.int a0, .int a1, .int a2] d_M_common_3 mi_M_areThree wd_1433 wd_1434 (by omega) rfl rfl (Nat.le_of_ble_eq_true rfl) ?_
  refine Call.post ?_ (cf_M_areThree_ok (by omega) a0 a1 a2  w _ h)
  rintro _ _ ⟨r1, rfl, rfl, h⟩
  show wp g (fun _ => True) y_M_common prog_14_method_73_code 4 (some FieldType.int) d 6 [(0, .ref (g.1 + 30)), (1, .int a0), (2, .int a1), (3, .int a2)] [.int r1] w Q
  refine am_if_eq (tgt := 32) d_M_common_6 (by decide) (fun c6 => ?_) (fun c6 => ?_)
  · have h := h.1 c6
    refine am_bipush (v := -5) d_M_common_32 rfl ?_
    exact am_ireturn d_M_common_34 rfl rfl (hQ (-5 : Int32) w h)
  · have h := h.2 c6
    refine am_aload_n d_M_common_9 0 rfl ?_
    refine am_iload_n d_M_common_10 3 rfl ?_
    refine am_aload_n d_M_common_11 0 rfl ?_
    refine am_getf (T := F_M) (fs := ob_M g w 30) (C := R_M) (N := 35) (ci := 10) 0 d_M_common_12 wd_1077 rfl (by decide) (el_M (show ay_sh 30 = _ from rfl)) rfl i_M (by decide) rfl ?_
    refine am_iload_n d_M_common_15 1 rfl ?_
    have hi16 := h.1
    have h := h.2
    refine am_laload d_M_common_16 (show ay_sh 31 = _ from rfl) hi16 ?_
    refine am_aload_n d_M_common_17 0 rfl ?_
    refine am_getf (T := F_M) (fs := ob_M g w 30) (C := R_M) (N := 35) (ci := 10) 0 d_M_common_18 wd_1077 rfl (by decide) (el_M (show ay_sh 30 = _ from rfl)) rfl i_M (by decide) rfl ?_
    refine am_iload_n d_M_common_21 2 rfl ?_
    have hi22 := h.1
    have h := h.2
    refine am_laload d_M_common_22 (show ay_sh 31 = _ from rfl) hi22 ?_
    refine am_callS (d2 := d - 1) [.long (w.2 31 a0.toNatClampNeg), .long (w.2 31 a1.toNatClampNeg)] d_M_common_23 mi_M_commonOf wd_1452 wd_1453 (by omega) rfl rfl (Nat.le_of_ble_eq_true rfl) ?_
    refine Call.post ?_ (cf_M_commonOf_W_ok (by omega) (w.2 31 a0.toNatClampNeg) (w.2 31 a1.toNatClampNeg)  w _ h)
    rintro _ _ ⟨r2, rfl, rfl, h⟩
    show wp g (fun _ => True) y_M_common prog_14_method_73_code 4 (some FieldType.int) d 26 [(0, .ref (g.1 + 30)), (1, .int a0), (2, .int a1), (3, .int a2)] [.long r2, .int a2, .ref (g.1 + 30)] w Q
    refine am_callV (C := y_M_gets.cls) (d2 := d - 1) [.int a2, .long r2] d_M_common_26 mi_M_gets wd_1425 wd_1427 ws_M_gets (by decide) (el_M (show ay_sh 30 = _ from rfl)) rfl rfl (by omega) rfl rfl (Nat.le_of_ble_eq_true rfl) ?_
    refine Call.post ?_ (cf_M_gets_ok (by omega) a2 r2  w _ h)
    rintro _ w4 ⟨r3, rfl, h⟩
    show wp g (fun _ => True) y_M_common prog_14_method_73_code 4 (some FieldType.int) d 29 [(0, .ref (g.1 + 30)), (1, .int a0), (2, .int a1), (3, .int a2)] [.int r3] w4 Q
    refine am_goto (tgt := 34) d_M_common_29 (by decide) ?_
    exact am_ireturn d_M_common_34 rfl rfl (hQ r3 w4 h)
theorem d_M_power_0 : decode prog_14_method_74_code 0 = .ok (.iload_n 1, 1) := by decide +kernel
theorem d_M_power_1 : decode prog_14_method_74_code 1 = .ok (.iload 4, 2) := by decide +kernel
theorem d_M_power_3 : decode prog_14_method_74_code 3 = .ok (.iload 5, 2) := by decide +kernel
theorem d_M_power_5 : decode prog_14_method_74_code 5 = .ok (.invokestatic 254, 3) := by decide +kernel
theorem d_M_power_8 : decode prog_14_method_74_code 8 = .ok (.ifCond .eq 9, 3) := by decide +kernel
theorem d_M_power_11 : decode prog_14_method_74_code 11 = .ok (.lload_n 2, 1) := by decide +kernel
theorem d_M_power_12 : decode prog_14_method_74_code 12 = .ok (.lconst 0, 1) := by decide +kernel
theorem d_M_power_13 : decode prog_14_method_74_code 13 = .ok (.lcmp, 1) := by decide +kernel
theorem d_M_power_14 : decode prog_14_method_74_code 14 = .ok (.ifCond .ge 6, 3) := by decide +kernel
theorem d_M_power_17 : decode prog_14_method_74_code 17 = .ok (.bipush (-5), 2) := by decide +kernel
theorem d_M_power_19 : decode prog_14_method_74_code 19 = .ok (.ireturn, 1) := by decide +kernel
theorem d_M_power_20 : decode prog_14_method_74_code 20 = .ok (.aload_n 0, 1) := by decide +kernel
theorem d_M_power_21 : decode prog_14_method_74_code 21 = .ok (.getfield 7, 3) := by decide +kernel
theorem d_M_power_24 : decode prog_14_method_74_code 24 = .ok (.iload 4, 2) := by decide +kernel
theorem d_M_power_26 : decode prog_14_method_74_code 26 = .ok (.laload, 1) := by decide +kernel
theorem d_M_power_27 : decode prog_14_method_74_code 27 = .ok (.invokestatic 84, 3) := by decide +kernel
theorem d_M_power_30 : decode prog_14_method_74_code 30 = .ok (.iconst 1, 1) := by decide +kernel
theorem d_M_power_31 : decode prog_14_method_74_code 31 = .ok (.if_icmp .ge 8, 3) := by decide +kernel
theorem d_M_power_34 : decode prog_14_method_74_code 34 = .ok (.bipush (-2), 2) := by decide +kernel
theorem d_M_power_36 : decode prog_14_method_74_code 36 = .ok (.goto 26, 3) := by decide +kernel
theorem d_M_power_39 : decode prog_14_method_74_code 39 = .ok (.aload_n 0, 1) := by decide +kernel
theorem d_M_power_40 : decode prog_14_method_74_code 40 = .ok (.iload 5, 2) := by decide +kernel
theorem d_M_power_42 : decode prog_14_method_74_code 42 = .ok (.aload_n 0, 1) := by decide +kernel
theorem d_M_power_43 : decode prog_14_method_74_code 43 = .ok (.getfield 7, 3) := by decide +kernel
theorem d_M_power_46 : decode prog_14_method_74_code 46 = .ok (.iload_n 1, 1) := by decide +kernel
theorem d_M_power_47 : decode prog_14_method_74_code 47 = .ok (.laload, 1) := by decide +kernel
theorem d_M_power_48 : decode prog_14_method_74_code 48 = .ok (.lload_n 2, 1) := by decide +kernel
theorem d_M_power_49 : decode prog_14_method_74_code 49 = .ok (.aload_n 0, 1) := by decide +kernel
theorem d_M_power_50 : decode prog_14_method_74_code 50 = .ok (.getfield 7, 3) := by decide +kernel
theorem d_M_power_53 : decode prog_14_method_74_code 53 = .ok (.iload 4, 2) := by decide +kernel
theorem d_M_power_55 : decode prog_14_method_74_code 55 = .ok (.laload, 1) := by decide +kernel
theorem d_M_power_56 : decode prog_14_method_74_code 56 = .ok (.invokestatic 133, 3) := by decide +kernel
theorem d_M_power_59 : decode prog_14_method_74_code 59 = .ok (.invokevirtual 250, 3) := by decide +kernel
theorem d_M_power_62 : decode prog_14_method_74_code 62 = .ok (.ireturn, 1) := by decide +kernel
def cf_M_power (a0 : Int32) (a1 : Int64) (a2 : Int32) (a3 : Int32) (w : Wd) (P : Int32 → Wd → Prop) : Prop :=
  cf_M_areThree a0 a2 a3 (fun r1 => ((r1 = 0 → P (-5 : Int32) w) ∧ (¬ r1 = 0 → (((0 : Int64) ≤ a1 → vp_in a2 14 ∧ cf_M_degree (w.2 31 a2.toNatClampNeg) (fun r2 => (((1 : Int32) ≤ r2 → vp_in a0 14 ∧ vp_in a2 14 ∧ cf_M_powerBy (w.2 31 a0.toNatClampNeg) a1 (w.2 31 a2.toNatClampNeg) (fun r3 => cf_M_gets a3 r3 w (fun r4 w5 => P r4 w5))) ∧ (¬ (1 : Int32) ≤ r2 → P (-2 : Int32) w)))) ∧ (¬ (0 : Int64) ≤ a1 → P (-5 : Int32) w)))))
theorem cf_M_power_ok {g : ayG} {d : Nat} (hd : 4 ≤ d) (a0 : Int32) (a1 : Int64) (a2 : Int32) (a3 : Int32)  (w : Wd) (P : Int32 → Wd → Prop) (h : cf_M_power a0 a1 a2 a3 w P) : Call g y_M_power prog_14_method_74_code 6 (some FieldType.int) d [.ref (g.1 + 30), .int a0, .long a1, .int a2, .int a3] w (fun (r : Option Value) (w2 : Wd) => ∃ x, r = some (.int x) ∧ P x w2) := by
  unfold cf_M_power at h
  refine am_enter mi_M_power (Nat.le_of_ble_eq_true rfl) ?_
  have hQ : ∀ x w2, P x w2 → (fun (r : Option Value) (w2 : Wd) => ∃ x, r = some (.int x) ∧ P x w2) (some (.int x)) w2 := fun x w2 h => ⟨x, rfl, h⟩
  generalize (fun (r : Option Value) (w2 : Wd) => ∃ x, r = some (.int x) ∧ P x w2) = Q at hQ ⊢
  show wp g (fun _ => True) y_M_power prog_14_method_74_code 6 (some FieldType.int) d 0 [(0, .ref (g.1 + 30)), (1, .int a0), (2, .long a1), (4, .int a2), (5, .int a3)] [] w Q
  refine am_iload_n d_M_power_0 1 rfl ?_
  refine am_iload d_M_power_1 3 rfl ?_
  refine am_iload d_M_power_3 4 rfl ?_
  refine am_callS (d2 := d - 1) [.int a0, .int a2, .int a3] d_M_power_5 mi_M_areThree wd_1433 wd_1434 (by omega) rfl rfl (Nat.le_of_ble_eq_true rfl) ?_
  refine Call.post ?_ (cf_M_areThree_ok (by omega) a0 a2 a3  w _ h)
  rintro _ _ ⟨r1, rfl, rfl, h⟩
  show wp g (fun _ => True) y_M_power prog_14_method_74_code 6 (some FieldType.int) d 8 [(0, .ref (g.1 + 30)), (1, .int a0), (2, .long a1), (4, .int a2), (5, .int a3)] [.int r1] w Q
  refine am_if_eq (tgt := 17) d_M_power_8 (by decide) (fun c8 => ?_) (fun c8 => ?_)
  · have h := h.1 c8
    refine am_bipush (v := -5) d_M_power_17 rfl ?_
    exact am_ireturn d_M_power_19 rfl rfl (hQ (-5 : Int32) w h)
  · have h := h.2 c8
    refine am_lload_n d_M_power_11 2 rfl ?_
    refine am_lconst (v := 0) d_M_power_12 rfl ?_
    refine am_lif_ge (tgt := 20) d_M_power_13 d_M_power_14 (by decide) (fun c13 => ?_) (fun c13 => ?_)
    · have h := h.1 c13
      refine am_aload_n d_M_power_20 0 rfl ?_
      refine am_getf (T := F_M) (fs := ob_M g w 30) (C := R_M) (N := 35) (ci := 10) 0 d_M_power_21 wd_1077 rfl (by decide) (el_M (show ay_sh 30 = _ from rfl)) rfl i_M (by decide) rfl ?_
      refine am_iload d_M_power_24 3 rfl ?_
      have hi26 := h.1
      have h := h.2
      refine am_laload d_M_power_26 (show ay_sh 31 = _ from rfl) hi26 ?_
      refine am_callS (d2 := d - 1) [.long (w.2 31 a2.toNatClampNeg)] d_M_power_27 mi_M_degree wd_1206 wd_1207 (by omega) rfl rfl (Nat.le_of_ble_eq_true rfl) ?_
      refine Call.post ?_ (cf_M_degree_ok (by omega) (w.2 31 a2.toNatClampNeg)  w _ h)
      rintro _ _ ⟨r2, rfl, rfl, h⟩
      show wp g (fun _ => True) y_M_power prog_14_method_74_code 6 (some FieldType.int) d 30 [(0, .ref (g.1 + 30)), (1, .int a0), (2, .long a1), (4, .int a2), (5, .int a3)] [.int r2] w Q
      refine am_iconst (v := 1) d_M_power_30 rfl ?_
      refine am_icmp_ge (tgt := 39) d_M_power_31 (by decide) (fun c31 => ?_) (fun c31 => ?_)
      · have h := h.1 c31
        refine am_aload_n d_M_power_39 0 rfl ?_
        refine am_iload d_M_power_40 4 rfl ?_
        refine am_aload_n d_M_power_42 0 rfl ?_
        refine am_getf (T := F_M) (fs := ob_M g w 30) (C := R_M) (N := 35) (ci := 10) 0 d_M_power_43 wd_1077 rfl (by decide) (el_M (show ay_sh 30 = _ from rfl)) rfl i_M (by decide) rfl ?_
        refine am_iload_n d_M_power_46 1 rfl ?_
        have hi47 := h.1
        have h := h.2
        refine am_laload d_M_power_47 (show ay_sh 31 = _ from rfl) hi47 ?_
        refine am_lload_n d_M_power_48 2 rfl ?_
        refine am_aload_n d_M_power_49 0 rfl ?_
        refine am_getf (T := F_M) (fs := ob_M g w 30) (C := R_M) (N := 35) (ci := 10) 0 d_M_power_50 wd_1077 rfl (by decide) (el_M (show ay_sh 30 = _ from rfl)) rfl i_M (by decide) rfl ?_
        refine am_iload d_M_power_53 3 rfl ?_
        have hi55 := h.1
        have h := h.2
        refine am_laload d_M_power_55 (show ay_sh 31 = _ from rfl) hi55 ?_
        refine am_callS (d2 := d - 1) [.long (w.2 31 a0.toNatClampNeg), .long a1, .long (w.2 31 a2.toNatClampNeg)] d_M_power_56 mi_M_powerBy wd_1250 wd_1251 (by omega) rfl rfl (Nat.le_of_ble_eq_true rfl) ?_
        refine Call.post ?_ (cf_M_powerBy_ok (by omega) (w.2 31 a0.toNatClampNeg) a1 (w.2 31 a2.toNatClampNeg)  w _ h)
        rintro _ _ ⟨r3, rfl, rfl, h⟩
        show wp g (fun _ => True) y_M_power prog_14_method_74_code 6 (some FieldType.int) d 59 [(0, .ref (g.1 + 30)), (1, .int a0), (2, .long a1), (4, .int a2), (5, .int a3)] [.long r3, .int a3, .ref (g.1 + 30)] w Q
        refine am_callV (C := y_M_gets.cls) (d2 := d - 1) [.int a3, .long r3] d_M_power_59 mi_M_gets wd_1425 wd_1427 ws_M_gets (by decide) (el_M (show ay_sh 30 = _ from rfl)) rfl rfl (by omega) rfl rfl (Nat.le_of_ble_eq_true rfl) ?_
        refine Call.post ?_ (cf_M_gets_ok (by omega) a3 r3  w _ h)
        rintro _ w5 ⟨r4, rfl, h⟩
        show wp g (fun _ => True) y_M_power prog_14_method_74_code 6 (some FieldType.int) d 62 [(0, .ref (g.1 + 30)), (1, .int a0), (2, .long a1), (4, .int a2), (5, .int a3)] [.int r4] w5 Q
        exact am_ireturn d_M_power_62 rfl rfl (hQ r4 w5 h)
      · have h := h.2 c31
        refine am_bipush (v := -2) d_M_power_34 rfl ?_
        refine am_goto (tgt := 62) d_M_power_36 (by decide) ?_
        exact am_ireturn d_M_power_62 rfl rfl (hQ (-2 : Int32) w h)
    · have h := h.2 c13
      refine am_bipush (v := -5) d_M_power_17 rfl ?_
      exact am_ireturn d_M_power_19 rfl rfl (hQ (-5 : Int32) w h)
theorem d_M_moved_0 : decode prog_14_method_75_code 0 = .ok (.iload_n 1, 1) := by decide +kernel
theorem d_M_moved_1 : decode prog_14_method_75_code 1 = .ok (.invokestatic 150, 3) := by decide +kernel
theorem d_M_moved_4 : decode prog_14_method_75_code 4 = .ok (.ifCond .eq 27, 3) := by decide +kernel
theorem d_M_moved_7 : decode prog_14_method_75_code 7 = .ok (.iload_n 2, 1) := by decide +kernel
theorem d_M_moved_8 : decode prog_14_method_75_code 8 = .ok (.invokestatic 150, 3) := by decide +kernel
theorem d_M_moved_11 : decode prog_14_method_75_code 11 = .ok (.ifCond .eq 20, 3) := by decide +kernel
theorem d_M_moved_14 : decode prog_14_method_75_code 14 = .ok (.aload_n 0, 1) := by decide +kernel
theorem d_M_moved_15 : decode prog_14_method_75_code 15 = .ok (.iload_n 2, 1) := by decide +kernel
theorem d_M_moved_16 : decode prog_14_method_75_code 16 = .ok (.aload_n 0, 1) := by decide +kernel
theorem d_M_moved_17 : decode prog_14_method_75_code 17 = .ok (.getfield 7, 3) := by decide +kernel
theorem d_M_moved_20 : decode prog_14_method_75_code 20 = .ok (.iload_n 1, 1) := by decide +kernel
theorem d_M_moved_21 : decode prog_14_method_75_code 21 = .ok (.laload, 1) := by decide +kernel
theorem d_M_moved_22 : decode prog_14_method_75_code 22 = .ok (.invokestatic 258, 3) := by decide +kernel
theorem d_M_moved_25 : decode prog_14_method_75_code 25 = .ok (.invokevirtual 250, 3) := by decide +kernel
theorem d_M_moved_28 : decode prog_14_method_75_code 28 = .ok (.goto 5, 3) := by decide +kernel
theorem d_M_moved_31 : decode prog_14_method_75_code 31 = .ok (.bipush (-5), 2) := by decide +kernel
theorem d_M_moved_33 : decode prog_14_method_75_code 33 = .ok (.ireturn, 1) := by decide +kernel
def cf_M_moved (a0 : Int32) (a1 : Int32) (w : Wd) (P : Int32 → Wd → Prop) : Prop :=
  cf_M_isPlace a0 (fun r1 => ((r1 = 0 → P (-5 : Int32) w) ∧ (¬ r1 = 0 → cf_M_isPlace a1 (fun r2 => ((r2 = 0 → P (-5 : Int32) w) ∧ (¬ r2 = 0 → vp_in a0 14 ∧ cf_M_movedOf (w.2 31 a0.toNatClampNeg) (fun r3 => cf_M_gets a1 r3 w (fun r4 w5 => P r4 w5))))))))
theorem cf_M_moved_ok {g : ayG} {d : Nat} (hd : 3 ≤ d) (a0 : Int32) (a1 : Int32)  (w : Wd) (P : Int32 → Wd → Prop) (h : cf_M_moved a0 a1 w P) : Call g y_M_moved prog_14_method_75_code 3 (some FieldType.int) d [.ref (g.1 + 30), .int a0, .int a1] w (fun (r : Option Value) (w2 : Wd) => ∃ x, r = some (.int x) ∧ P x w2) := by
  unfold cf_M_moved at h
  refine am_enter mi_M_moved (Nat.le_of_ble_eq_true rfl) ?_
  have hQ : ∀ x w2, P x w2 → (fun (r : Option Value) (w2 : Wd) => ∃ x, r = some (.int x) ∧ P x w2) (some (.int x)) w2 := fun x w2 h => ⟨x, rfl, h⟩
  generalize (fun (r : Option Value) (w2 : Wd) => ∃ x, r = some (.int x) ∧ P x w2) = Q at hQ ⊢
  show wp g (fun _ => True) y_M_moved prog_14_method_75_code 3 (some FieldType.int) d 0 [(0, .ref (g.1 + 30)), (1, .int a0), (2, .int a1)] [] w Q
  refine am_iload_n d_M_moved_0 1 rfl ?_
  refine am_callS (d2 := d - 1) [.int a0] d_M_moved_1 mi_M_isPlace wd_1188 wd_1189 (by omega) rfl rfl (Nat.le_of_ble_eq_true rfl) ?_
  refine Call.post ?_ (cf_M_isPlace_ok (by omega) a0  w _ h)
  rintro _ _ ⟨r1, rfl, rfl, h⟩
  show wp g (fun _ => True) y_M_moved prog_14_method_75_code 3 (some FieldType.int) d 4 [(0, .ref (g.1 + 30)), (1, .int a0), (2, .int a1)] [.int r1] w Q
  refine am_if_eq (tgt := 31) d_M_moved_4 (by decide) (fun c4 => ?_) (fun c4 => ?_)
  · have h := h.1 c4
    refine am_bipush (v := -5) d_M_moved_31 rfl ?_
    exact am_ireturn d_M_moved_33 rfl rfl (hQ (-5 : Int32) w h)
  · have h := h.2 c4
    refine am_iload_n d_M_moved_7 2 rfl ?_
    refine am_callS (d2 := d - 1) [.int a1] d_M_moved_8 mi_M_isPlace wd_1188 wd_1189 (by omega) rfl rfl (Nat.le_of_ble_eq_true rfl) ?_
    refine Call.post ?_ (cf_M_isPlace_ok (by omega) a1  w _ h)
    rintro _ _ ⟨r2, rfl, rfl, h⟩
    show wp g (fun _ => True) y_M_moved prog_14_method_75_code 3 (some FieldType.int) d 11 [(0, .ref (g.1 + 30)), (1, .int a0), (2, .int a1)] [.int r2] w Q
    refine am_if_eq (tgt := 31) d_M_moved_11 (by decide) (fun c11 => ?_) (fun c11 => ?_)
    · have h := h.1 c11
      refine am_bipush (v := -5) d_M_moved_31 rfl ?_
      exact am_ireturn d_M_moved_33 rfl rfl (hQ (-5 : Int32) w h)
    · have h := h.2 c11
      refine am_aload_n d_M_moved_14 0 rfl ?_
      refine am_iload_n d_M_moved_15 2 rfl ?_
      refine am_aload_n d_M_moved_16 0 rfl ?_
      refine am_getf (T := F_M) (fs := ob_M g w 30) (C := R_M) (N := 35) (ci := 10) 0 d_M_moved_17 wd_1077 rfl (by decide) (el_M (show ay_sh 30 = _ from rfl)) rfl i_M (by decide) rfl ?_
      refine am_iload_n d_M_moved_20 1 rfl ?_
      have hi21 := h.1
      have h := h.2
      refine am_laload d_M_moved_21 (show ay_sh 31 = _ from rfl) hi21 ?_
      refine am_callS (d2 := d - 1) [.long (w.2 31 a0.toNatClampNeg)] d_M_moved_22 mi_M_movedOf wd_1463 wd_1464 (by omega) rfl rfl (Nat.le_of_ble_eq_true rfl) ?_
      refine Call.post ?_ (cf_M_movedOf_ok (by omega) (w.2 31 a0.toNatClampNeg)  w _ h)
      rintro _ _ ⟨r3, rfl, rfl, h⟩
      show wp g (fun _ => True) y_M_moved prog_14_method_75_code 3 (some FieldType.int) d 25 [(0, .ref (g.1 + 30)), (1, .int a0), (2, .int a1)] [.long r3, .int a1, .ref (g.1 + 30)] w Q
      refine am_callV (C := y_M_gets.cls) (d2 := d - 1) [.int a1, .long r3] d_M_moved_25 mi_M_gets wd_1425 wd_1427 ws_M_gets (by decide) (el_M (show ay_sh 30 = _ from rfl)) rfl rfl (by omega) rfl rfl (Nat.le_of_ble_eq_true rfl) ?_
      refine Call.post ?_ (cf_M_gets_ok (by omega) a1 r3  w _ h)
      rintro _ w5 ⟨r4, rfl, h⟩
      show wp g (fun _ => True) y_M_moved prog_14_method_75_code 3 (some FieldType.int) d 28 [(0, .ref (g.1 + 30)), (1, .int a0), (2, .int a1)] [.int r4] w5 Q
      refine am_goto (tgt := 33) d_M_moved_28 (by decide) ?_
      exact am_ireturn d_M_moved_33 rfl rfl (hQ r4 w5 h)
theorem d_M_inside_0 : decode prog_14_method_76_code 0 = .ok (.iload_n 1, 1) := by decide +kernel
theorem d_M_inside_1 : decode prog_14_method_76_code 1 = .ok (.iload_n 2, 1) := by decide +kernel
theorem d_M_inside_2 : decode prog_14_method_76_code 2 = .ok (.iload 4, 2) := by decide +kernel
theorem d_M_inside_4 : decode prog_14_method_76_code 4 = .ok (.invokestatic 254, 3) := by decide +kernel
theorem d_M_inside_7 : decode prog_14_method_76_code 7 = .ok (.ifCond .eq 10, 3) := by decide +kernel
theorem d_M_inside_10 : decode prog_14_method_76_code 10 = .ok (.iload_n 3, 1) := by decide +kernel
theorem d_M_inside_11 : decode prog_14_method_76_code 11 = .ok (.invokestatic 150, 3) := by decide +kernel
theorem d_M_inside_14 : decode prog_14_method_76_code 14 = .ok (.ifCond .ne 6, 3) := by decide +kernel
theorem d_M_inside_17 : decode prog_14_method_76_code 17 = .ok (.bipush (-5), 2) := by decide +kernel
theorem d_M_inside_19 : decode prog_14_method_76_code 19 = .ok (.ireturn, 1) := by decide +kernel
theorem d_M_inside_20 : decode prog_14_method_76_code 20 = .ok (.aload_n 0, 1) := by decide +kernel
theorem d_M_inside_21 : decode prog_14_method_76_code 21 = .ok (.getfield 7, 3) := by decide +kernel
theorem d_M_inside_24 : decode prog_14_method_76_code 24 = .ok (.iload_n 3, 1) := by decide +kernel
theorem d_M_inside_25 : decode prog_14_method_76_code 25 = .ok (.laload, 1) := by decide +kernel
theorem d_M_inside_26 : decode prog_14_method_76_code 26 = .ok (.invokestatic 84, 3) := by decide +kernel
theorem d_M_inside_29 : decode prog_14_method_76_code 29 = .ok (.iconst 1, 1) := by decide +kernel
theorem d_M_inside_30 : decode prog_14_method_76_code 30 = .ok (.if_icmp .ge 8, 3) := by decide +kernel
theorem d_M_inside_33 : decode prog_14_method_76_code 33 = .ok (.bipush (-2), 2) := by decide +kernel
theorem d_M_inside_35 : decode prog_14_method_76_code 35 = .ok (.goto 30, 3) := by decide +kernel
theorem d_M_inside_38 : decode prog_14_method_76_code 38 = .ok (.aload_n 0, 1) := by decide +kernel
theorem d_M_inside_39 : decode prog_14_method_76_code 39 = .ok (.iload 4, 2) := by decide +kernel
theorem d_M_inside_41 : decode prog_14_method_76_code 41 = .ok (.aload_n 0, 1) := by decide +kernel
theorem d_M_inside_42 : decode prog_14_method_76_code 42 = .ok (.getfield 7, 3) := by decide +kernel
theorem d_M_inside_45 : decode prog_14_method_76_code 45 = .ok (.iload_n 1, 1) := by decide +kernel
theorem d_M_inside_46 : decode prog_14_method_76_code 46 = .ok (.laload, 1) := by decide +kernel
theorem d_M_inside_47 : decode prog_14_method_76_code 47 = .ok (.aload_n 0, 1) := by decide +kernel
theorem d_M_inside_48 : decode prog_14_method_76_code 48 = .ok (.getfield 7, 3) := by decide +kernel
theorem d_M_inside_51 : decode prog_14_method_76_code 51 = .ok (.iload_n 2, 1) := by decide +kernel
theorem d_M_inside_52 : decode prog_14_method_76_code 52 = .ok (.laload, 1) := by decide +kernel
theorem d_M_inside_53 : decode prog_14_method_76_code 53 = .ok (.aload_n 0, 1) := by decide +kernel
theorem d_M_inside_54 : decode prog_14_method_76_code 54 = .ok (.getfield 7, 3) := by decide +kernel
theorem d_M_inside_57 : decode prog_14_method_76_code 57 = .ok (.iload_n 3, 1) := by decide +kernel
theorem d_M_inside_58 : decode prog_14_method_76_code 58 = .ok (.laload, 1) := by decide +kernel
theorem d_M_inside_59 : decode prog_14_method_76_code 59 = .ok (.invokestatic 206, 3) := by decide +kernel
theorem d_M_inside_62 : decode prog_14_method_76_code 62 = .ok (.invokevirtual 250, 3) := by decide +kernel
theorem d_M_inside_65 : decode prog_14_method_76_code 65 = .ok (.ireturn, 1) := by decide +kernel
def cf_M_inside (a0 : Int32) (a1 : Int32) (a2 : Int32) (a3 : Int32) (w : Wd) (P : Int32 → Wd → Prop) : Prop :=
  cf_M_areThree a0 a1 a3 (fun r1 => ((r1 = 0 → P (-5 : Int32) w) ∧ (¬ r1 = 0 → cf_M_isPlace a2 (fun r2 => ((¬ r2 = 0 → vp_in a2 14 ∧ cf_M_degree (w.2 31 a2.toNatClampNeg) (fun r3 => (((1 : Int32) ≤ r3 → vp_in a0 14 ∧ vp_in a1 14 ∧ vp_in a2 14 ∧ cf_M_insideBy (w.2 31 a0.toNatClampNeg) (w.2 31 a1.toNatClampNeg) (w.2 31 a2.toNatClampNeg) (fun r4 => cf_M_gets a3 r4 w (fun r5 w6 => P r5 w6))) ∧ (¬ (1 : Int32) ≤ r3 → P (-2 : Int32) w)))) ∧ (r2 = 0 → P (-5 : Int32) w))))))
theorem cf_M_inside_ok {g : ayG} {d : Nat} (hd : 4 ≤ d) (a0 : Int32) (a1 : Int32) (a2 : Int32) (a3 : Int32)  (w : Wd) (P : Int32 → Wd → Prop) (h : cf_M_inside a0 a1 a2 a3 w P) : Call g y_M_inside prog_14_method_76_code 5 (some FieldType.int) d [.ref (g.1 + 30), .int a0, .int a1, .int a2, .int a3] w (fun (r : Option Value) (w2 : Wd) => ∃ x, r = some (.int x) ∧ P x w2) := by
  unfold cf_M_inside at h
  refine am_enter mi_M_inside (Nat.le_of_ble_eq_true rfl) ?_
  have hQ : ∀ x w2, P x w2 → (fun (r : Option Value) (w2 : Wd) => ∃ x, r = some (.int x) ∧ P x w2) (some (.int x)) w2 := fun x w2 h => ⟨x, rfl, h⟩
  generalize (fun (r : Option Value) (w2 : Wd) => ∃ x, r = some (.int x) ∧ P x w2) = Q at hQ ⊢
  show wp g (fun _ => True) y_M_inside prog_14_method_76_code 5 (some FieldType.int) d 0 [(0, .ref (g.1 + 30)), (1, .int a0), (2, .int a1), (3, .int a2), (4, .int a3)] [] w Q
  refine am_iload_n d_M_inside_0 1 rfl ?_
  refine am_iload_n d_M_inside_1 2 rfl ?_
  refine am_iload d_M_inside_2 4 rfl ?_
  refine am_callS (d2 := d - 1) [.int a0, .int a1, .int a3] d_M_inside_4 mi_M_areThree wd_1433 wd_1434 (by omega) rfl rfl (Nat.le_of_ble_eq_true rfl) ?_
  refine Call.post ?_ (cf_M_areThree_ok (by omega) a0 a1 a3  w _ h)
  rintro _ _ ⟨r1, rfl, rfl, h⟩
  show wp g (fun _ => True) y_M_inside prog_14_method_76_code 5 (some FieldType.int) d 7 [(0, .ref (g.1 + 30)), (1, .int a0), (2, .int a1), (3, .int a2), (4, .int a3)] [.int r1] w Q
  refine am_if_eq (tgt := 17) d_M_inside_7 (by decide) (fun c7 => ?_) (fun c7 => ?_)
  · have h := h.1 c7
    refine am_bipush (v := -5) d_M_inside_17 rfl ?_
    exact am_ireturn d_M_inside_19 rfl rfl (hQ (-5 : Int32) w h)
  · have h := h.2 c7
    refine am_iload_n d_M_inside_10 3 rfl ?_
    refine am_callS (d2 := d - 1) [.int a2] d_M_inside_11 mi_M_isPlace wd_1188 wd_1189 (by omega) rfl rfl (Nat.le_of_ble_eq_true rfl) ?_
    refine Call.post ?_ (cf_M_isPlace_ok (by omega) a2  w _ h)
    rintro _ _ ⟨r2, rfl, rfl, h⟩
    show wp g (fun _ => True) y_M_inside prog_14_method_76_code 5 (some FieldType.int) d 14 [(0, .ref (g.1 + 30)), (1, .int a0), (2, .int a1), (3, .int a2), (4, .int a3)] [.int r2] w Q
    refine am_if_ne (tgt := 20) d_M_inside_14 (by decide) (fun c14 => ?_) (fun c14 => ?_)
    · have h := h.1 c14
      refine am_aload_n d_M_inside_20 0 rfl ?_
      refine am_getf (T := F_M) (fs := ob_M g w 30) (C := R_M) (N := 35) (ci := 10) 0 d_M_inside_21 wd_1077 rfl (by decide) (el_M (show ay_sh 30 = _ from rfl)) rfl i_M (by decide) rfl ?_
      refine am_iload_n d_M_inside_24 3 rfl ?_
      have hi25 := h.1
      have h := h.2
      refine am_laload d_M_inside_25 (show ay_sh 31 = _ from rfl) hi25 ?_
      refine am_callS (d2 := d - 1) [.long (w.2 31 a2.toNatClampNeg)] d_M_inside_26 mi_M_degree wd_1206 wd_1207 (by omega) rfl rfl (Nat.le_of_ble_eq_true rfl) ?_
      refine Call.post ?_ (cf_M_degree_ok (by omega) (w.2 31 a2.toNatClampNeg)  w _ h)
      rintro _ _ ⟨r3, rfl, rfl, h⟩
      show wp g (fun _ => True) y_M_inside prog_14_method_76_code 5 (some FieldType.int) d 29 [(0, .ref (g.1 + 30)), (1, .int a0), (2, .int a1), (3, .int a2), (4, .int a3)] [.int r3] w Q
      refine am_iconst (v := 1) d_M_inside_29 rfl ?_
      refine am_icmp_ge (tgt := 38) d_M_inside_30 (by decide) (fun c30 => ?_) (fun c30 => ?_)
      · have h := h.1 c30
        refine am_aload_n d_M_inside_38 0 rfl ?_
        refine am_iload d_M_inside_39 4 rfl ?_
        refine am_aload_n d_M_inside_41 0 rfl ?_
        refine am_getf (T := F_M) (fs := ob_M g w 30) (C := R_M) (N := 35) (ci := 10) 0 d_M_inside_42 wd_1077 rfl (by decide) (el_M (show ay_sh 30 = _ from rfl)) rfl i_M (by decide) rfl ?_
        refine am_iload_n d_M_inside_45 1 rfl ?_
        have hi46 := h.1
        have h := h.2
        refine am_laload d_M_inside_46 (show ay_sh 31 = _ from rfl) hi46 ?_
        refine am_aload_n d_M_inside_47 0 rfl ?_
        refine am_getf (T := F_M) (fs := ob_M g w 30) (C := R_M) (N := 35) (ci := 10) 0 d_M_inside_48 wd_1077 rfl (by decide) (el_M (show ay_sh 30 = _ from rfl)) rfl i_M (by decide) rfl ?_
        refine am_iload_n d_M_inside_51 2 rfl ?_
        have hi52 := h.1
        have h := h.2
        refine am_laload d_M_inside_52 (show ay_sh 31 = _ from rfl) hi52 ?_
        refine am_aload_n d_M_inside_53 0 rfl ?_
        refine am_getf (T := F_M) (fs := ob_M g w 30) (C := R_M) (N := 35) (ci := 10) 0 d_M_inside_54 wd_1077 rfl (by decide) (el_M (show ay_sh 30 = _ from rfl)) rfl i_M (by decide) rfl ?_
        refine am_iload_n d_M_inside_57 3 rfl ?_
        have hi58 := h.1
        have h := h.2
        refine am_laload d_M_inside_58 (show ay_sh 31 = _ from rfl) hi58 ?_
        refine am_callS (d2 := d - 1) [.long (w.2 31 a0.toNatClampNeg), .long (w.2 31 a1.toNatClampNeg), .long (w.2 31 a2.toNatClampNeg)] d_M_inside_59 mi_M_insideBy wd_1365 wd_1366 (by omega) rfl rfl (Nat.le_of_ble_eq_true rfl) ?_
        refine Call.post ?_ (cf_M_insideBy_ok (by omega) (w.2 31 a0.toNatClampNeg) (w.2 31 a1.toNatClampNeg) (w.2 31 a2.toNatClampNeg)  w _ h)
        rintro _ _ ⟨r4, rfl, rfl, h⟩
        show wp g (fun _ => True) y_M_inside prog_14_method_76_code 5 (some FieldType.int) d 62 [(0, .ref (g.1 + 30)), (1, .int a0), (2, .int a1), (3, .int a2), (4, .int a3)] [.long r4, .int a3, .ref (g.1 + 30)] w Q
        refine am_callV (C := y_M_gets.cls) (d2 := d - 1) [.int a3, .long r4] d_M_inside_62 mi_M_gets wd_1425 wd_1427 ws_M_gets (by decide) (el_M (show ay_sh 30 = _ from rfl)) rfl rfl (by omega) rfl rfl (Nat.le_of_ble_eq_true rfl) ?_
        refine Call.post ?_ (cf_M_gets_ok (by omega) a3 r4  w _ h)
        rintro _ w6 ⟨r5, rfl, h⟩
        show wp g (fun _ => True) y_M_inside prog_14_method_76_code 5 (some FieldType.int) d 65 [(0, .ref (g.1 + 30)), (1, .int a0), (2, .int a1), (3, .int a2), (4, .int a3)] [.int r5] w6 Q
        exact am_ireturn d_M_inside_65 rfl rfl (hQ r5 w6 h)
      · have h := h.2 c30
        refine am_bipush (v := -2) d_M_inside_33 rfl ?_
        refine am_goto (tgt := 65) d_M_inside_35 (by decide) ?_
        exact am_ireturn d_M_inside_65 rfl rfl (hQ (-2 : Int32) w h)
    · have h := h.2 c14
      refine am_bipush (v := -5) d_M_inside_17 rfl ?_
      exact am_ireturn d_M_inside_19 rfl rfl (hQ (-5 : Int32) w h)
theorem d_M_inverseOf_0 : decode prog_14_method_77_code 0 = .ok (.lload_n 2, 1) := by decide +kernel
theorem d_M_inverseOf_1 : decode prog_14_method_77_code 1 = .ok (.lstore 4, 2) := by decide +kernel
theorem d_M_inverseOf_3 : decode prog_14_method_77_code 3 = .ok (.lload_n 0, 1) := by decide +kernel
theorem d_M_inverseOf_4 : decode prog_14_method_77_code 4 = .ok (.lload_n 2, 1) := by decide +kernel
theorem d_M_inverseOf_5 : decode prog_14_method_77_code 5 = .ok (.invokestatic 88, 3) := by decide +kernel
theorem d_M_inverseOf_8 : decode prog_14_method_77_code 8 = .ok (.lstore 6, 2) := by decide +kernel
theorem d_M_inverseOf_10 : decode prog_14_method_77_code 10 = .ok (.lconst 0, 1) := by decide +kernel
theorem d_M_inverseOf_11 : decode prog_14_method_77_code 11 = .ok (.lstore 8, 2) := by decide +kernel
theorem d_M_inverseOf_13 : decode prog_14_method_77_code 13 = .ok (.lconst 1, 1) := by decide +kernel
theorem d_M_inverseOf_14 : decode prog_14_method_77_code 14 = .ok (.lstore 10, 2) := by decide +kernel
theorem d_M_inverseOf_16 : decode prog_14_method_77_code 16 = .ok (.lload 6, 2) := by decide +kernel
theorem d_M_inverseOf_18 : decode prog_14_method_77_code 18 = .ok (.lconst 0, 1) := by decide +kernel
theorem d_M_inverseOf_19 : decode prog_14_method_77_code 19 = .ok (.lcmp, 1) := by decide +kernel
theorem d_M_inverseOf_20 : decode prog_14_method_77_code 20 = .ok (.ifCond .eq 56, 3) := by decide +kernel
theorem d_M_inverseOf_23 : decode prog_14_method_77_code 23 = .ok (.lload 4, 2) := by decide +kernel
theorem d_M_inverseOf_25 : decode prog_14_method_77_code 25 = .ok (.lload 6, 2) := by decide +kernel
theorem d_M_inverseOf_27 : decode prog_14_method_77_code 27 = .ok (.invokestatic 109, 3) := by decide +kernel
theorem d_M_inverseOf_30 : decode prog_14_method_77_code 30 = .ok (.lstore 12, 2) := by decide +kernel
theorem d_M_inverseOf_32 : decode prog_14_method_77_code 32 = .ok (.lload 4, 2) := by decide +kernel
theorem d_M_inverseOf_34 : decode prog_14_method_77_code 34 = .ok (.lload 6, 2) := by decide +kernel
theorem d_M_inverseOf_36 : decode prog_14_method_77_code 36 = .ok (.invokestatic 88, 3) := by decide +kernel
theorem d_M_inverseOf_39 : decode prog_14_method_77_code 39 = .ok (.lstore 14, 2) := by decide +kernel
theorem d_M_inverseOf_41 : decode prog_14_method_77_code 41 = .ok (.lload 8, 2) := by decide +kernel
theorem d_M_inverseOf_43 : decode prog_14_method_77_code 43 = .ok (.lload 12, 2) := by decide +kernel
theorem d_M_inverseOf_45 : decode prog_14_method_77_code 45 = .ok (.lload 10, 2) := by decide +kernel
theorem d_M_inverseOf_47 : decode prog_14_method_77_code 47 = .ok (.invokestatic 95, 3) := by decide +kernel
theorem d_M_inverseOf_50 : decode prog_14_method_77_code 50 = .ok (.lload_n 2, 1) := by decide +kernel
theorem d_M_inverseOf_51 : decode prog_14_method_77_code 51 = .ok (.invokestatic 88, 3) := by decide +kernel
theorem d_M_inverseOf_54 : decode prog_14_method_77_code 54 = .ok (.lxor, 1) := by decide +kernel
theorem d_M_inverseOf_55 : decode prog_14_method_77_code 55 = .ok (.lstore 16, 2) := by decide +kernel
theorem d_M_inverseOf_57 : decode prog_14_method_77_code 57 = .ok (.lload 6, 2) := by decide +kernel
theorem d_M_inverseOf_59 : decode prog_14_method_77_code 59 = .ok (.lstore 4, 2) := by decide +kernel
theorem d_M_inverseOf_61 : decode prog_14_method_77_code 61 = .ok (.lload 14, 2) := by decide +kernel
theorem d_M_inverseOf_63 : decode prog_14_method_77_code 63 = .ok (.lstore 6, 2) := by decide +kernel
theorem d_M_inverseOf_65 : decode prog_14_method_77_code 65 = .ok (.lload 10, 2) := by decide +kernel
theorem d_M_inverseOf_67 : decode prog_14_method_77_code 67 = .ok (.lstore 8, 2) := by decide +kernel
theorem d_M_inverseOf_69 : decode prog_14_method_77_code 69 = .ok (.lload 16, 2) := by decide +kernel
theorem d_M_inverseOf_71 : decode prog_14_method_77_code 71 = .ok (.lstore 10, 2) := by decide +kernel
theorem d_M_inverseOf_73 : decode prog_14_method_77_code 73 = .ok (.goto (-57), 3) := by decide +kernel
theorem d_M_inverseOf_76 : decode prog_14_method_77_code 76 = .ok (.lload 4, 2) := by decide +kernel
theorem d_M_inverseOf_78 : decode prog_14_method_77_code 78 = .ok (.lconst 1, 1) := by decide +kernel
theorem d_M_inverseOf_79 : decode prog_14_method_77_code 79 = .ok (.lcmp, 1) := by decide +kernel
theorem d_M_inverseOf_80 : decode prog_14_method_77_code 80 = .ok (.ifCond .ne 12, 3) := by decide +kernel
theorem d_M_inverseOf_83 : decode prog_14_method_77_code 83 = .ok (.lload 8, 2) := by decide +kernel
theorem d_M_inverseOf_85 : decode prog_14_method_77_code 85 = .ok (.lload_n 2, 1) := by decide +kernel
theorem d_M_inverseOf_86 : decode prog_14_method_77_code 86 = .ok (.invokestatic 88, 3) := by decide +kernel
theorem d_M_inverseOf_89 : decode prog_14_method_77_code 89 = .ok (.goto 4, 3) := by decide +kernel
theorem d_M_inverseOf_92 : decode prog_14_method_77_code 92 = .ok (.lconst 0, 1) := by decide +kernel
theorem d_M_inverseOf_93 : decode prog_14_method_77_code 93 = .ok (.lreturn, 1) := by decide +kernel
def cf_M_inverseOf_B16  (K16 : Int64 → Int64 → Int64 → Int64 → Int64 → Prop) (P : Int64 → Prop) (x2 : Int64) (x4 : Int64) (x6 : Int64) (x8 : Int64) (x10 : Int64)  : Prop :=
  ((x6 = (0 : Int64) → ((¬ x4 = (1 : Int64) → P (0 : Int64)) ∧ (x4 = (1 : Int64) → cf_M_restOf x8 x2 (fun r2 => P r2)))) ∧ (¬ x6 = (0 : Int64) → cf_M_quotient x4 x6 (fun r3 => cf_M_restOf x4 x6 (fun r4 => cf_M_product r3 x10 (fun r5 => cf_M_restOf r5 x2 (fun r6 => ∀ v7, v7 = x8 ^^^ r6 → K16 x2 x6 r4 x10 v7))))))
def cf_M_inverseOf_L16   (P : Int64 → Prop) : Nat → Int64 → Int64 → Int64 → Int64 → Int64 → Prop
  | 0 => fun x2 x4 x6 x8 x10 => False
  | n + 1 => fun x2 x4 x6 x8 x10 => cf_M_inverseOf_B16 (cf_M_inverseOf_L16 P n) P x2 x4 x6 x8 x10
def cf_M_inverseOf (a0 : Int64) (a1 : Int64) (P : Int64 → Prop) : Prop :=
  cf_M_restOf a0 a1 (fun r1 => ∃ n, cf_M_inverseOf_L16 P n a1 a1 r1 (0 : Int64) (1 : Int64))
theorem cf_M_inverseOf_B16_ok {g : ayG} {d : Nat} (hd : 2 ≤ d)   (w : Wd) (K16 : Int64 → Int64 → Int64 → Int64 → Int64 → Prop) (P : Int64 → Prop) (Q : Option Value → Wd → Prop) (hQ : ∀ x, P x → Q (some (.long x)) w) (hK16 : ∀ (x2 : Int64) (x4 : Int64) (x6 : Int64) (x8 : Int64) (x10 : Int64), (K16 x2 x4 x6 x8 x10 → wp g (fun _ => True) y_M_inverseOf prog_14_method_77_code 18 (some FieldType.long) d 16 [(2, .long x2), (4, .long x4), (6, .long x6), (8, .long x8), (10, .long x10)] [] w Q)) (x2 : Int64) (x4 : Int64) (x6 : Int64) (x8 : Int64) (x10 : Int64) (h : cf_M_inverseOf_B16 K16 P x2 x4 x6 x8 x10) : wp g (fun _ => True) y_M_inverseOf prog_14_method_77_code 18 (some FieldType.long) d 16 [(2, .long x2), (4, .long x4), (6, .long x6), (8, .long x8), (10, .long x10)] [] w Q := by
  unfold cf_M_inverseOf_B16 at h
  refine am_lload d_M_inverseOf_16 2 rfl ?_
  refine am_lconst (v := 0) d_M_inverseOf_18 rfl ?_
  refine am_lif_eq (tgt := 76) d_M_inverseOf_19 d_M_inverseOf_20 (by decide) (fun c19 => ?_) (fun c19 => ?_)
  · have h := h.1 c19
    refine am_lload d_M_inverseOf_76 1 rfl ?_
    refine am_lconst (v := 1) d_M_inverseOf_78 rfl ?_
    refine am_lif_ne (tgt := 92) d_M_inverseOf_79 d_M_inverseOf_80 (by decide) (fun c79 => ?_) (fun c79 => ?_)
    · have h := h.1 c79
      refine am_lconst (v := 0) d_M_inverseOf_92 rfl ?_
      exact am_lreturn d_M_inverseOf_93 rfl (hQ (0 : Int64) h)
    · have h := h.2 c79
      refine am_lload d_M_inverseOf_83 3 rfl ?_
      refine am_lload_n d_M_inverseOf_85 0 rfl ?_
      refine am_callS (d2 := d - 1) [.long x8, .long x2] d_M_inverseOf_86 mi_M_restOf wd_1209 wd_1210 (by omega) rfl rfl (Nat.le_of_ble_eq_true rfl) ?_
      refine Call.post ?_ (cf_M_restOf_ok (by omega) x8 x2  w _ h)
      rintro _ _ ⟨r2, rfl, rfl, h⟩
      show wp g (fun _ => True) y_M_inverseOf prog_14_method_77_code 18 (some FieldType.long) d 89 [(2, .long x2), (4, .long x4), (6, .long x6), (8, .long x8), (10, .long x10)] [.long r2] w Q
      refine am_goto (tgt := 93) d_M_inverseOf_89 (by decide) ?_
      exact am_lreturn d_M_inverseOf_93 rfl (hQ r2 h)
  · have h := h.2 c19
    refine am_lload d_M_inverseOf_23 1 rfl ?_
    refine am_lload d_M_inverseOf_25 2 rfl ?_
    refine am_callS (d2 := d - 1) [.long x4, .long x6] d_M_inverseOf_27 mi_M_quotient wd_1215 wd_1216 (by omega) rfl rfl (Nat.le_of_ble_eq_true rfl) ?_
    refine Call.post ?_ (cf_M_quotient_ok (by omega) x4 x6  w _ h)
    rintro _ _ ⟨r3, rfl, rfl, h⟩
    show wp g (fun _ => True) y_M_inverseOf prog_14_method_77_code 18 (some FieldType.long) d 30 [(2, .long x2), (4, .long x4), (6, .long x6), (8, .long x8), (10, .long x10)] [.long r3] w Q
    refine am_lstore (l' := [(12, .long r3), (2, .long x2), (4, .long x4), (6, .long x6), (8, .long x8), (10, .long x10)]) d_M_inverseOf_30 (by decide) rfl ?_
    refine am_lload d_M_inverseOf_32 2 rfl ?_
    refine am_lload d_M_inverseOf_34 3 rfl ?_
    refine am_callS (d2 := d - 1) [.long x4, .long x6] d_M_inverseOf_36 mi_M_restOf wd_1209 wd_1210 (by omega) rfl rfl (Nat.le_of_ble_eq_true rfl) ?_
    refine Call.post ?_ (cf_M_restOf_ok (by omega) x4 x6  w _ h)
    rintro _ _ ⟨r4, rfl, rfl, h⟩
    show wp g (fun _ => True) y_M_inverseOf prog_14_method_77_code 18 (some FieldType.long) d 39 [(12, .long r3), (2, .long x2), (4, .long x4), (6, .long x6), (8, .long x8), (10, .long x10)] [.long r4] w Q
    refine am_lstore (l' := [(14, .long r4), (12, .long r3), (2, .long x2), (4, .long x4), (6, .long x6), (8, .long x8), (10, .long x10)]) d_M_inverseOf_39 (by decide) rfl ?_
    refine am_lload d_M_inverseOf_41 5 rfl ?_
    refine am_lload d_M_inverseOf_43 1 rfl ?_
    refine am_lload d_M_inverseOf_45 6 rfl ?_
    refine am_callS (d2 := d - 1) [.long r3, .long x10] d_M_inverseOf_47 mi_M_product wd_1256 wd_1257 (by omega) rfl rfl (Nat.le_of_ble_eq_true rfl) ?_
    refine Call.post ?_ (cf_M_product_ok (by omega) r3 x10  w _ h)
    rintro _ _ ⟨r5, rfl, rfl, h⟩
    show wp g (fun _ => True) y_M_inverseOf prog_14_method_77_code 18 (some FieldType.long) d 50 [(14, .long r4), (12, .long r3), (2, .long x2), (4, .long x4), (6, .long x6), (8, .long x8), (10, .long x10)] [.long r5, .long x8] w Q
    refine am_lload_n d_M_inverseOf_50 2 rfl ?_
    refine am_callS (d2 := d - 1) [.long r5, .long x2] d_M_inverseOf_51 mi_M_restOf wd_1209 wd_1210 (by omega) rfl rfl (Nat.le_of_ble_eq_true rfl) ?_
    refine Call.post ?_ (cf_M_restOf_ok (by omega) r5 x2  w _ h)
    rintro _ _ ⟨r6, rfl, rfl, h⟩
    show wp g (fun _ => True) y_M_inverseOf prog_14_method_77_code 18 (some FieldType.long) d 54 [(14, .long r4), (12, .long r3), (2, .long x2), (4, .long x4), (6, .long x6), (8, .long x8), (10, .long x10)] [.long r6, .long x8] w Q
    refine am_lxor d_M_inverseOf_54 ?_
    refine am_topl (fun v7 ev7 => ?_)
    have h := h v7 ev7
    refine am_lstore (l' := [(16, .long v7), (14, .long r4), (12, .long r3), (2, .long x2), (4, .long x4), (6, .long x6), (8, .long x8), (10, .long x10)]) d_M_inverseOf_55 (by decide) rfl ?_
    refine am_lload d_M_inverseOf_57 5 rfl ?_
    refine am_lstore (l' := [(4, .long x6), (16, .long v7), (14, .long r4), (12, .long r3), (2, .long x2), (6, .long x6), (8, .long x8), (10, .long x10)]) d_M_inverseOf_59 (by decide) rfl ?_
    refine am_lload d_M_inverseOf_61 2 rfl ?_
    refine am_lstore (l' := [(6, .long r4), (4, .long x6), (16, .long v7), (14, .long r4), (12, .long r3), (2, .long x2), (8, .long x8), (10, .long x10)]) d_M_inverseOf_63 (by decide) rfl ?_
    refine am_lload d_M_inverseOf_65 7 rfl ?_
    refine am_lstore (l' := [(8, .long x10), (6, .long r4), (4, .long x6), (16, .long v7), (14, .long r4), (12, .long r3), (2, .long x2), (10, .long x10)]) d_M_inverseOf_67 (by decide) rfl ?_
    refine am_lload d_M_inverseOf_69 3 rfl ?_
    refine am_lstore (l' := [(10, .long v7), (8, .long x10), (6, .long r4), (4, .long x6), (16, .long v7), (14, .long r4), (12, .long r3), (2, .long x2)]) d_M_inverseOf_71 (by decide) rfl ?_
    refine am_goto (tgt := 16) d_M_inverseOf_73 (by decide) ?_
    refine am_sub [7, 3, 2, 1, 0] rfl ?_
    exact hK16 x2 x6 r4 x10 v7 h
theorem cf_M_inverseOf_L16_ok {g : ayG} {d : Nat} (hd : 2 ≤ d)   (w : Wd)  (P : Int64 → Prop) (Q : Option Value → Wd → Prop) (hQ : ∀ x, P x → Q (some (.long x)) w)  : ∀ (n : Nat) (x2 : Int64) (x4 : Int64) (x6 : Int64) (x8 : Int64) (x10 : Int64) (h : cf_M_inverseOf_L16 P n x2 x4 x6 x8 x10), wp g (fun _ => True) y_M_inverseOf prog_14_method_77_code 18 (some FieldType.long) d 16 [(2, .long x2), (4, .long x4), (6, .long x6), (8, .long x8), (10, .long x10)] [] w Q
  | 0, x2, x4, x6, x8, x10, h => False.elim h
  | n + 1, x2, x4, x6, x8, x10, h => cf_M_inverseOf_B16_ok hd   w (cf_M_inverseOf_L16 P n) P Q hQ (fun x2 x4 x6 x8 x10 h => cf_M_inverseOf_L16_ok hd   w  P Q hQ  n x2 x4 x6 x8 x10 h) x2 x4 x6 x8 x10 h
theorem cf_M_inverseOf_ok {g : ayG} {d : Nat} (hd : 2 ≤ d) (a0 : Int64) (a1 : Int64)  (w : Wd) (P : Int64 → Prop) (h : cf_M_inverseOf a0 a1 P) : Call g y_M_inverseOf prog_14_method_77_code 18 (some FieldType.long) d [.long a0, .long a1] w (fun (r : Option Value) (w2 : Wd) => ∃ x, r = some (.long x) ∧ w = w2 ∧ P x) := by
  unfold cf_M_inverseOf at h
  refine am_enter mi_M_inverseOf (Nat.le_of_ble_eq_true rfl) ?_
  have hQ : ∀ x, P x → (fun (r : Option Value) (w2 : Wd) => ∃ x, r = some (.long x) ∧ w = w2 ∧ P x) (some (.long x)) w := fun x h => ⟨x, rfl, rfl, h⟩
  generalize (fun (r : Option Value) (w2 : Wd) => ∃ x, r = some (.long x) ∧ w = w2 ∧ P x) = Q at hQ ⊢
  show wp g (fun _ => True) y_M_inverseOf prog_14_method_77_code 18 (some FieldType.long) d 0 [(0, .long a0), (2, .long a1)] [] w Q
  refine am_lload_n d_M_inverseOf_0 1 rfl ?_
  refine am_lstore (l' := [(4, .long a1), (0, .long a0), (2, .long a1)]) d_M_inverseOf_1 (by decide) rfl ?_
  refine am_lload_n d_M_inverseOf_3 1 rfl ?_
  refine am_lload_n d_M_inverseOf_4 2 rfl ?_
  refine am_callS (d2 := d - 1) [.long a0, .long a1] d_M_inverseOf_5 mi_M_restOf wd_1209 wd_1210 (by omega) rfl rfl (Nat.le_of_ble_eq_true rfl) ?_
  refine Call.post ?_ (cf_M_restOf_ok (by omega) a0 a1  w _ h)
  rintro _ _ ⟨r1, rfl, rfl, h⟩
  show wp g (fun _ => True) y_M_inverseOf prog_14_method_77_code 18 (some FieldType.long) d 8 [(4, .long a1), (0, .long a0), (2, .long a1)] [.long r1] w Q
  refine am_lstore (l' := [(6, .long r1), (4, .long a1), (0, .long a0), (2, .long a1)]) d_M_inverseOf_8 (by decide) rfl ?_
  refine am_lconst (v := 0) d_M_inverseOf_10 rfl ?_
  refine am_lstore (l' := [(8, .long (0 : Int64)), (6, .long r1), (4, .long a1), (0, .long a0), (2, .long a1)]) d_M_inverseOf_11 (by decide) rfl ?_
  refine am_lconst (v := 1) d_M_inverseOf_13 rfl ?_
  refine am_lstore (l' := [(10, .long (1 : Int64)), (8, .long (0 : Int64)), (6, .long r1), (4, .long a1), (0, .long a0), (2, .long a1)]) d_M_inverseOf_14 (by decide) rfl ?_
  refine am_sub [5, 3, 2, 1, 0] rfl ?_
  obtain ⟨n, h⟩ := h
  exact cf_M_inverseOf_L16_ok (by omega)   w  P Q hQ  n a1 a1 r1 (0 : Int64) (1 : Int64) h
theorem d_M_inverse_0 : decode prog_14_method_78_code 0 = .ok (.iload_n 1, 1) := by decide +kernel
theorem d_M_inverse_1 : decode prog_14_method_78_code 1 = .ok (.iload_n 2, 1) := by decide +kernel
theorem d_M_inverse_2 : decode prog_14_method_78_code 2 = .ok (.iload_n 3, 1) := by decide +kernel
theorem d_M_inverse_3 : decode prog_14_method_78_code 3 = .ok (.invokestatic 254, 3) := by decide +kernel
theorem d_M_inverse_6 : decode prog_14_method_78_code 6 = .ok (.ifCond .ne 6, 3) := by decide +kernel
theorem d_M_inverse_9 : decode prog_14_method_78_code 9 = .ok (.bipush (-5), 2) := by decide +kernel
theorem d_M_inverse_11 : decode prog_14_method_78_code 11 = .ok (.ireturn, 1) := by decide +kernel
theorem d_M_inverse_12 : decode prog_14_method_78_code 12 = .ok (.aload_n 0, 1) := by decide +kernel
theorem d_M_inverse_13 : decode prog_14_method_78_code 13 = .ok (.getfield 7, 3) := by decide +kernel
theorem d_M_inverse_16 : decode prog_14_method_78_code 16 = .ok (.iload_n 2, 1) := by decide +kernel
theorem d_M_inverse_17 : decode prog_14_method_78_code 17 = .ok (.laload, 1) := by decide +kernel
theorem d_M_inverse_18 : decode prog_14_method_78_code 18 = .ok (.invokestatic 84, 3) := by decide +kernel
theorem d_M_inverse_21 : decode prog_14_method_78_code 21 = .ok (.iconst 1, 1) := by decide +kernel
theorem d_M_inverse_22 : decode prog_14_method_78_code 22 = .ok (.if_icmp .ge 6, 3) := by decide +kernel
theorem d_M_inverse_25 : decode prog_14_method_78_code 25 = .ok (.bipush (-2), 2) := by decide +kernel
theorem d_M_inverse_27 : decode prog_14_method_78_code 27 = .ok (.ireturn, 1) := by decide +kernel
theorem d_M_inverse_28 : decode prog_14_method_78_code 28 = .ok (.aload_n 0, 1) := by decide +kernel
theorem d_M_inverse_29 : decode prog_14_method_78_code 29 = .ok (.getfield 7, 3) := by decide +kernel
theorem d_M_inverse_32 : decode prog_14_method_78_code 32 = .ok (.iload_n 1, 1) := by decide +kernel
theorem d_M_inverse_33 : decode prog_14_method_78_code 33 = .ok (.laload, 1) := by decide +kernel
theorem d_M_inverse_34 : decode prog_14_method_78_code 34 = .ok (.aload_n 0, 1) := by decide +kernel
theorem d_M_inverse_35 : decode prog_14_method_78_code 35 = .ok (.getfield 7, 3) := by decide +kernel
theorem d_M_inverse_38 : decode prog_14_method_78_code 38 = .ok (.iload_n 2, 1) := by decide +kernel
theorem d_M_inverse_39 : decode prog_14_method_78_code 39 = .ok (.laload, 1) := by decide +kernel
theorem d_M_inverse_40 : decode prog_14_method_78_code 40 = .ok (.invokestatic 261, 3) := by decide +kernel
theorem d_M_inverse_43 : decode prog_14_method_78_code 43 = .ok (.lstore 4, 2) := by decide +kernel
theorem d_M_inverse_45 : decode prog_14_method_78_code 45 = .ok (.lload 4, 2) := by decide +kernel
theorem d_M_inverse_47 : decode prog_14_method_78_code 47 = .ok (.lconst 0, 1) := by decide +kernel
theorem d_M_inverse_48 : decode prog_14_method_78_code 48 = .ok (.lcmp, 1) := by decide +kernel
theorem d_M_inverse_49 : decode prog_14_method_78_code 49 = .ok (.ifCond .ne 8, 3) := by decide +kernel
theorem d_M_inverse_52 : decode prog_14_method_78_code 52 = .ok (.bipush (-3), 2) := by decide +kernel
theorem d_M_inverse_54 : decode prog_14_method_78_code 54 = .ok (.goto 10, 3) := by decide +kernel
theorem d_M_inverse_57 : decode prog_14_method_78_code 57 = .ok (.aload_n 0, 1) := by decide +kernel
theorem d_M_inverse_58 : decode prog_14_method_78_code 58 = .ok (.iload_n 3, 1) := by decide +kernel
theorem d_M_inverse_59 : decode prog_14_method_78_code 59 = .ok (.lload 4, 2) := by decide +kernel
theorem d_M_inverse_61 : decode prog_14_method_78_code 61 = .ok (.invokevirtual 250, 3) := by decide +kernel
theorem d_M_inverse_64 : decode prog_14_method_78_code 64 = .ok (.ireturn, 1) := by decide +kernel
def cf_M_inverse (a0 : Int32) (a1 : Int32) (a2 : Int32) (w : Wd) (P : Int32 → Wd → Prop) : Prop :=
  cf_M_areThree a0 a1 a2 (fun r1 => ((¬ r1 = 0 → vp_in a1 14 ∧ cf_M_degree (w.2 31 a1.toNatClampNeg) (fun r2 => (((1 : Int32) ≤ r2 → vp_in a0 14 ∧ vp_in a1 14 ∧ cf_M_inverseOf (w.2 31 a0.toNatClampNeg) (w.2 31 a1.toNatClampNeg) (fun r3 => ((¬ r3 = (0 : Int64) → cf_M_gets a2 r3 w (fun r4 w5 => P r4 w5)) ∧ (r3 = (0 : Int64) → P (-3 : Int32) w)))) ∧ (¬ (1 : Int32) ≤ r2 → P (-2 : Int32) w)))) ∧ (r1 = 0 → P (-5 : Int32) w)))
theorem cf_M_inverse_ok {g : ayG} {d : Nat} (hd : 3 ≤ d) (a0 : Int32) (a1 : Int32) (a2 : Int32)  (w : Wd) (P : Int32 → Wd → Prop) (h : cf_M_inverse a0 a1 a2 w P) : Call g y_M_inverse prog_14_method_78_code 6 (some FieldType.int) d [.ref (g.1 + 30), .int a0, .int a1, .int a2] w (fun (r : Option Value) (w2 : Wd) => ∃ x, r = some (.int x) ∧ P x w2) := by
  unfold cf_M_inverse at h
  refine am_enter mi_M_inverse (Nat.le_of_ble_eq_true rfl) ?_
  have hQ : ∀ x w2, P x w2 → (fun (r : Option Value) (w2 : Wd) => ∃ x, r = some (.int x) ∧ P x w2) (some (.int x)) w2 := fun x w2 h => ⟨x, rfl, h⟩
  generalize (fun (r : Option Value) (w2 : Wd) => ∃ x, r = some (.int x) ∧ P x w2) = Q at hQ ⊢
  show wp g (fun _ => True) y_M_inverse prog_14_method_78_code 6 (some FieldType.int) d 0 [(0, .ref (g.1 + 30)), (1, .int a0), (2, .int a1), (3, .int a2)] [] w Q
  refine am_iload_n d_M_inverse_0 1 rfl ?_
  refine am_iload_n d_M_inverse_1 2 rfl ?_
  refine am_iload_n d_M_inverse_2 3 rfl ?_
  refine am_callS (d2 := d - 1) [.int a0, .int a1, .int a2] d_M_inverse_3 mi_M_areThree wd_1433 wd_1434 (by omega) rfl rfl (Nat.le_of_ble_eq_true rfl) ?_
  refine Call.post ?_ (cf_M_areThree_ok (by omega) a0 a1 a2  w _ h)
  rintro _ _ ⟨r1, rfl, rfl, h⟩
  show wp g (fun _ => True) y_M_inverse prog_14_method_78_code 6 (some FieldType.int) d 6 [(0, .ref (g.1 + 30)), (1, .int a0), (2, .int a1), (3, .int a2)] [.int r1] w Q
  refine am_if_ne (tgt := 12) d_M_inverse_6 (by decide) (fun c6 => ?_) (fun c6 => ?_)
  · have h := h.1 c6
    refine am_aload_n d_M_inverse_12 0 rfl ?_
    refine am_getf (T := F_M) (fs := ob_M g w 30) (C := R_M) (N := 35) (ci := 10) 0 d_M_inverse_13 wd_1077 rfl (by decide) (el_M (show ay_sh 30 = _ from rfl)) rfl i_M (by decide) rfl ?_
    refine am_iload_n d_M_inverse_16 2 rfl ?_
    have hi17 := h.1
    have h := h.2
    refine am_laload d_M_inverse_17 (show ay_sh 31 = _ from rfl) hi17 ?_
    refine am_callS (d2 := d - 1) [.long (w.2 31 a1.toNatClampNeg)] d_M_inverse_18 mi_M_degree wd_1206 wd_1207 (by omega) rfl rfl (Nat.le_of_ble_eq_true rfl) ?_
    refine Call.post ?_ (cf_M_degree_ok (by omega) (w.2 31 a1.toNatClampNeg)  w _ h)
    rintro _ _ ⟨r2, rfl, rfl, h⟩
    show wp g (fun _ => True) y_M_inverse prog_14_method_78_code 6 (some FieldType.int) d 21 [(0, .ref (g.1 + 30)), (1, .int a0), (2, .int a1), (3, .int a2)] [.int r2] w Q
    refine am_iconst (v := 1) d_M_inverse_21 rfl ?_
    refine am_icmp_ge (tgt := 28) d_M_inverse_22 (by decide) (fun c22 => ?_) (fun c22 => ?_)
    · have h := h.1 c22
      refine am_aload_n d_M_inverse_28 0 rfl ?_
      refine am_getf (T := F_M) (fs := ob_M g w 30) (C := R_M) (N := 35) (ci := 10) 0 d_M_inverse_29 wd_1077 rfl (by decide) (el_M (show ay_sh 30 = _ from rfl)) rfl i_M (by decide) rfl ?_
      refine am_iload_n d_M_inverse_32 1 rfl ?_
      have hi33 := h.1
      have h := h.2
      refine am_laload d_M_inverse_33 (show ay_sh 31 = _ from rfl) hi33 ?_
      refine am_aload_n d_M_inverse_34 0 rfl ?_
      refine am_getf (T := F_M) (fs := ob_M g w 30) (C := R_M) (N := 35) (ci := 10) 0 d_M_inverse_35 wd_1077 rfl (by decide) (el_M (show ay_sh 30 = _ from rfl)) rfl i_M (by decide) rfl ?_
      refine am_iload_n d_M_inverse_38 2 rfl ?_
      have hi39 := h.1
      have h := h.2
      refine am_laload d_M_inverse_39 (show ay_sh 31 = _ from rfl) hi39 ?_
      refine am_callS (d2 := d - 1) [.long (w.2 31 a0.toNatClampNeg), .long (w.2 31 a1.toNatClampNeg)] d_M_inverse_40 mi_M_inverseOf wd_1474 wd_1475 (by omega) rfl rfl (Nat.le_of_ble_eq_true rfl) ?_
      refine Call.post ?_ (cf_M_inverseOf_ok (by omega) (w.2 31 a0.toNatClampNeg) (w.2 31 a1.toNatClampNeg)  w _ h)
      rintro _ _ ⟨r3, rfl, rfl, h⟩
      show wp g (fun _ => True) y_M_inverse prog_14_method_78_code 6 (some FieldType.int) d 43 [(0, .ref (g.1 + 30)), (1, .int a0), (2, .int a1), (3, .int a2)] [.long r3] w Q
      refine am_lstore (l' := [(4, .long r3), (0, .ref (g.1 + 30)), (1, .int a0), (2, .int a1), (3, .int a2)]) d_M_inverse_43 (by decide) rfl ?_
      refine am_lload d_M_inverse_45 0 rfl ?_
      refine am_lconst (v := 0) d_M_inverse_47 rfl ?_
      refine am_lif_ne (tgt := 57) d_M_inverse_48 d_M_inverse_49 (by decide) (fun c48 => ?_) (fun c48 => ?_)
      · have h := h.1 c48
        refine am_aload_n d_M_inverse_57 1 rfl ?_
        refine am_iload_n d_M_inverse_58 4 rfl ?_
        refine am_lload d_M_inverse_59 0 rfl ?_
        refine am_callV (C := y_M_gets.cls) (d2 := d - 1) [.int a2, .long r3] d_M_inverse_61 mi_M_gets wd_1425 wd_1427 ws_M_gets (by decide) (el_M (show ay_sh 30 = _ from rfl)) rfl rfl (by omega) rfl rfl (Nat.le_of_ble_eq_true rfl) ?_
        refine Call.post ?_ (cf_M_gets_ok (by omega) a2 r3  w _ h)
        rintro _ w5 ⟨r4, rfl, h⟩
        show wp g (fun _ => True) y_M_inverse prog_14_method_78_code 6 (some FieldType.int) d 64 [(4, .long r3), (0, .ref (g.1 + 30)), (1, .int a0), (2, .int a1), (3, .int a2)] [.int r4] w5 Q
        exact am_ireturn d_M_inverse_64 rfl rfl (hQ r4 w5 h)
      · have h := h.2 c48
        refine am_bipush (v := -3) d_M_inverse_52 rfl ?_
        refine am_goto (tgt := 64) d_M_inverse_54 (by decide) ?_
        exact am_ireturn d_M_inverse_64 rfl rfl (hQ (-3 : Int32) w h)
    · have h := h.2 c22
      refine am_bipush (v := -2) d_M_inverse_25 rfl ?_
      exact am_ireturn d_M_inverse_27 rfl rfl (hQ (-2 : Int32) w h)
  · have h := h.2 c6
    refine am_bipush (v := -5) d_M_inverse_9 rfl ?_
    exact am_ireturn d_M_inverse_11 rfl rfl (hQ (-5 : Int32) w h)
theorem d_M_rise_0 : decode prog_14_method_79_code 0 = .ok (.iload_n 1, 1) := by decide +kernel
theorem d_M_rise_1 : decode prog_14_method_79_code 1 = .ok (.invokestatic 150, 3) := by decide +kernel
theorem d_M_rise_4 : decode prog_14_method_79_code 4 = .ok (.ifCond .eq 22, 3) := by decide +kernel
theorem d_M_rise_7 : decode prog_14_method_79_code 7 = .ok (.iload_n 3, 1) := by decide +kernel
theorem d_M_rise_8 : decode prog_14_method_79_code 8 = .ok (.invokestatic 150, 3) := by decide +kernel
theorem d_M_rise_11 : decode prog_14_method_79_code 11 = .ok (.ifCond .eq 15, 3) := by decide +kernel
theorem d_M_rise_14 : decode prog_14_method_79_code 14 = .ok (.iload_n 2, 1) := by decide +kernel
theorem d_M_rise_15 : decode prog_14_method_79_code 15 = .ok (.i2l, 1) := by decide +kernel
theorem d_M_rise_16 : decode prog_14_method_79_code 16 = .ok (.lconst 1, 1) := by decide +kernel
theorem d_M_rise_17 : decode prog_14_method_79_code 17 = .ok (.ldc2_w 164, 3) := by decide +kernel
theorem d_M_rise_20 : decode prog_14_method_79_code 20 = .ok (.invokestatic 76, 3) := by decide +kernel
theorem d_M_rise_23 : decode prog_14_method_79_code 23 = .ok (.ifCond .ne 6, 3) := by decide +kernel
theorem d_M_rise_26 : decode prog_14_method_79_code 26 = .ok (.bipush (-5), 2) := by decide +kernel
theorem d_M_rise_28 : decode prog_14_method_79_code 28 = .ok (.ireturn, 1) := by decide +kernel
theorem d_M_rise_29 : decode prog_14_method_79_code 29 = .ok (.aload_n 0, 1) := by decide +kernel
theorem d_M_rise_30 : decode prog_14_method_79_code 30 = .ok (.getfield 7, 3) := by decide +kernel
theorem d_M_rise_33 : decode prog_14_method_79_code 33 = .ok (.iload_n 1, 1) := by decide +kernel
theorem d_M_rise_34 : decode prog_14_method_79_code 34 = .ok (.laload, 1) := by decide +kernel
theorem d_M_rise_35 : decode prog_14_method_79_code 35 = .ok (.invokestatic 84, 3) := by decide +kernel
theorem d_M_rise_38 : decode prog_14_method_79_code 38 = .ok (.iload_n 2, 1) := by decide +kernel
theorem d_M_rise_39 : decode prog_14_method_79_code 39 = .ok (.imul, 1) := by decide +kernel
theorem d_M_rise_40 : decode prog_14_method_79_code 40 = .ok (.bipush 31, 2) := by decide +kernel
theorem d_M_rise_42 : decode prog_14_method_79_code 42 = .ok (.if_icmp .le 8, 3) := by decide +kernel
theorem d_M_rise_45 : decode prog_14_method_79_code 45 = .ok (.bipush (-2), 2) := by decide +kernel
theorem d_M_rise_47 : decode prog_14_method_79_code 47 = .ok (.goto 18, 3) := by decide +kernel
theorem d_M_rise_50 : decode prog_14_method_79_code 50 = .ok (.aload_n 0, 1) := by decide +kernel
theorem d_M_rise_51 : decode prog_14_method_79_code 51 = .ok (.iload_n 3, 1) := by decide +kernel
theorem d_M_rise_52 : decode prog_14_method_79_code 52 = .ok (.aload_n 0, 1) := by decide +kernel
theorem d_M_rise_53 : decode prog_14_method_79_code 53 = .ok (.getfield 7, 3) := by decide +kernel
theorem d_M_rise_56 : decode prog_14_method_79_code 56 = .ok (.iload_n 1, 1) := by decide +kernel
theorem d_M_rise_57 : decode prog_14_method_79_code 57 = .ok (.laload, 1) := by decide +kernel
theorem d_M_rise_58 : decode prog_14_method_79_code 58 = .ok (.iload_n 2, 1) := by decide +kernel
theorem d_M_rise_59 : decode prog_14_method_79_code 59 = .ok (.invokestatic 264, 3) := by decide +kernel
theorem d_M_rise_62 : decode prog_14_method_79_code 62 = .ok (.invokevirtual 250, 3) := by decide +kernel
theorem d_M_rise_65 : decode prog_14_method_79_code 65 = .ok (.ireturn, 1) := by decide +kernel
def cf_M_rise (a0 : Int32) (a1 : Int32) (a2 : Int32) (w : Wd) (P : Int32 → Wd → Prop) : Prop :=
  cf_M_isPlace a0 (fun r1 => ((r1 = 0 → P (-5 : Int32) w) ∧ (¬ r1 = 0 → cf_M_isPlace a2 (fun r2 => ((r2 = 0 → P (-5 : Int32) w) ∧ (¬ r2 = 0 → cf_M_in a1.toInt64 (1 : Int64) (31 : Int64) (fun r3 => ((¬ r3 = 0 → vp_in a0 14 ∧ cf_M_degree (w.2 31 a0.toNatClampNeg) (fun r4 => (((r4 * a1) ≤ (31 : Int32) → vp_in a0 14 ∧ cf_M_risenOf (w.2 31 a0.toNatClampNeg) a1 (fun r5 => cf_M_gets a2 r5 w (fun r6 w7 => P r6 w7))) ∧ (¬ (r4 * a1) ≤ (31 : Int32) → P (-2 : Int32) w)))) ∧ (r3 = 0 → P (-5 : Int32) w)))))))))
theorem cf_M_rise_ok {g : ayG} {d : Nat} (hd : 2 ≤ d) (a0 : Int32) (a1 : Int32) (a2 : Int32)  (w : Wd) (P : Int32 → Wd → Prop) (h : cf_M_rise a0 a1 a2 w P) : Call g y_M_rise prog_14_method_79_code 4 (some FieldType.int) d [.ref (g.1 + 30), .int a0, .int a1, .int a2] w (fun (r : Option Value) (w2 : Wd) => ∃ x, r = some (.int x) ∧ P x w2) := by
  unfold cf_M_rise at h
  refine am_enter mi_M_rise (Nat.le_of_ble_eq_true rfl) ?_
  have hQ : ∀ x w2, P x w2 → (fun (r : Option Value) (w2 : Wd) => ∃ x, r = some (.int x) ∧ P x w2) (some (.int x)) w2 := fun x w2 h => ⟨x, rfl, h⟩
  generalize (fun (r : Option Value) (w2 : Wd) => ∃ x, r = some (.int x) ∧ P x w2) = Q at hQ ⊢
  show wp g (fun _ => True) y_M_rise prog_14_method_79_code 4 (some FieldType.int) d 0 [(0, .ref (g.1 + 30)), (1, .int a0), (2, .int a1), (3, .int a2)] [] w Q
  refine am_iload_n d_M_rise_0 1 rfl ?_
  refine am_callS (d2 := d - 1) [.int a0] d_M_rise_1 mi_M_isPlace wd_1188 wd_1189 (by omega) rfl rfl (Nat.le_of_ble_eq_true rfl) ?_
  refine Call.post ?_ (cf_M_isPlace_ok (by omega) a0  w _ h)
  rintro _ _ ⟨r1, rfl, rfl, h⟩
  show wp g (fun _ => True) y_M_rise prog_14_method_79_code 4 (some FieldType.int) d 4 [(0, .ref (g.1 + 30)), (1, .int a0), (2, .int a1), (3, .int a2)] [.int r1] w Q
  refine am_if_eq (tgt := 26) d_M_rise_4 (by decide) (fun c4 => ?_) (fun c4 => ?_)
  · have h := h.1 c4
    refine am_bipush (v := -5) d_M_rise_26 rfl ?_
    exact am_ireturn d_M_rise_28 rfl rfl (hQ (-5 : Int32) w h)
  · have h := h.2 c4
    refine am_iload_n d_M_rise_7 3 rfl ?_
    refine am_callS (d2 := d - 1) [.int a2] d_M_rise_8 mi_M_isPlace wd_1188 wd_1189 (by omega) rfl rfl (Nat.le_of_ble_eq_true rfl) ?_
    refine Call.post ?_ (cf_M_isPlace_ok (by omega) a2  w _ h)
    rintro _ _ ⟨r2, rfl, rfl, h⟩
    show wp g (fun _ => True) y_M_rise prog_14_method_79_code 4 (some FieldType.int) d 11 [(0, .ref (g.1 + 30)), (1, .int a0), (2, .int a1), (3, .int a2)] [.int r2] w Q
    refine am_if_eq (tgt := 26) d_M_rise_11 (by decide) (fun c11 => ?_) (fun c11 => ?_)
    · have h := h.1 c11
      refine am_bipush (v := -5) d_M_rise_26 rfl ?_
      exact am_ireturn d_M_rise_28 rfl rfl (hQ (-5 : Int32) w h)
    · have h := h.2 c11
      refine am_iload_n d_M_rise_14 2 rfl ?_
      refine am_i2l d_M_rise_15 ?_
      refine am_lconst (v := 1) d_M_rise_16 rfl ?_
      refine am_ldc2 (v := 31) d_M_rise_17 wd_1272 ?_
      refine am_callS (d2 := d - 1) [.long a1.toInt64, .long (1 : Int64), .long (31 : Int64)] d_M_rise_20 mi_M_in wd_1192 wd_1193 (by omega) rfl rfl (Nat.le_of_ble_eq_true rfl) ?_
      refine Call.post ?_ (cf_M_in_ok (by omega) a1.toInt64 (1 : Int64) (31 : Int64)  w _ h)
      rintro _ _ ⟨r3, rfl, rfl, h⟩
      show wp g (fun _ => True) y_M_rise prog_14_method_79_code 4 (some FieldType.int) d 23 [(0, .ref (g.1 + 30)), (1, .int a0), (2, .int a1), (3, .int a2)] [.int r3] w Q
      refine am_if_ne (tgt := 29) d_M_rise_23 (by decide) (fun c23 => ?_) (fun c23 => ?_)
      · have h := h.1 c23
        refine am_aload_n d_M_rise_29 0 rfl ?_
        refine am_getf (T := F_M) (fs := ob_M g w 30) (C := R_M) (N := 35) (ci := 10) 0 d_M_rise_30 wd_1077 rfl (by decide) (el_M (show ay_sh 30 = _ from rfl)) rfl i_M (by decide) rfl ?_
        refine am_iload_n d_M_rise_33 1 rfl ?_
        have hi34 := h.1
        have h := h.2
        refine am_laload d_M_rise_34 (show ay_sh 31 = _ from rfl) hi34 ?_
        refine am_callS (d2 := d - 1) [.long (w.2 31 a0.toNatClampNeg)] d_M_rise_35 mi_M_degree wd_1206 wd_1207 (by omega) rfl rfl (Nat.le_of_ble_eq_true rfl) ?_
        refine Call.post ?_ (cf_M_degree_ok (by omega) (w.2 31 a0.toNatClampNeg)  w _ h)
        rintro _ _ ⟨r4, rfl, rfl, h⟩
        show wp g (fun _ => True) y_M_rise prog_14_method_79_code 4 (some FieldType.int) d 38 [(0, .ref (g.1 + 30)), (1, .int a0), (2, .int a1), (3, .int a2)] [.int r4] w Q
        refine am_iload_n d_M_rise_38 2 rfl ?_
        refine am_imul d_M_rise_39 ?_
        refine am_bipush (v := 31) d_M_rise_40 rfl ?_
        refine am_icmp_le (tgt := 50) d_M_rise_42 (by decide) (fun c42 => ?_) (fun c42 => ?_)
        · have h := h.1 c42
          refine am_aload_n d_M_rise_50 0 rfl ?_
          refine am_iload_n d_M_rise_51 3 rfl ?_
          refine am_aload_n d_M_rise_52 0 rfl ?_
          refine am_getf (T := F_M) (fs := ob_M g w 30) (C := R_M) (N := 35) (ci := 10) 0 d_M_rise_53 wd_1077 rfl (by decide) (el_M (show ay_sh 30 = _ from rfl)) rfl i_M (by decide) rfl ?_
          refine am_iload_n d_M_rise_56 1 rfl ?_
          have hi57 := h.1
          have h := h.2
          refine am_laload d_M_rise_57 (show ay_sh 31 = _ from rfl) hi57 ?_
          refine am_iload_n d_M_rise_58 2 rfl ?_
          refine am_callS (d2 := d - 1) [.long (w.2 31 a0.toNatClampNeg), .int a1] d_M_rise_59 mi_M_risenOf wd_1481 wd_1482 (by omega) rfl rfl (Nat.le_of_ble_eq_true rfl) ?_
          refine Call.post ?_ (cf_M_risenOf_ok (by omega) (w.2 31 a0.toNatClampNeg) a1  w _ h)
          rintro _ _ ⟨r5, rfl, rfl, h⟩
          show wp g (fun _ => True) y_M_rise prog_14_method_79_code 4 (some FieldType.int) d 62 [(0, .ref (g.1 + 30)), (1, .int a0), (2, .int a1), (3, .int a2)] [.long r5, .int a2, .ref (g.1 + 30)] w Q
          refine am_callV (C := y_M_gets.cls) (d2 := d - 1) [.int a2, .long r5] d_M_rise_62 mi_M_gets wd_1425 wd_1427 ws_M_gets (by decide) (el_M (show ay_sh 30 = _ from rfl)) rfl rfl (by omega) rfl rfl (Nat.le_of_ble_eq_true rfl) ?_
          refine Call.post ?_ (cf_M_gets_ok (by omega) a2 r5  w _ h)
          rintro _ w7 ⟨r6, rfl, h⟩
          show wp g (fun _ => True) y_M_rise prog_14_method_79_code 4 (some FieldType.int) d 65 [(0, .ref (g.1 + 30)), (1, .int a0), (2, .int a1), (3, .int a2)] [.int r6] w7 Q
          exact am_ireturn d_M_rise_65 rfl rfl (hQ r6 w7 h)
        · have h := h.2 c42
          refine am_bipush (v := -2) d_M_rise_45 rfl ?_
          refine am_goto (tgt := 65) d_M_rise_47 (by decide) ?_
          exact am_ireturn d_M_rise_65 rfl rfl (hQ (-2 : Int32) w h)
      · have h := h.2 c23
        refine am_bipush (v := -5) d_M_rise_26 rfl ?_
        exact am_ireturn d_M_rise_28 rfl rfl (hQ (-5 : Int32) w h)
theorem d_M_undo_0 : decode prog_14_method_80_code 0 = .ok (.aload_n 0, 1) := by decide +kernel
theorem d_M_undo_1 : decode prog_14_method_80_code 1 = .ok (.getfield 245, 3) := by decide +kernel
theorem d_M_undo_4 : decode prog_14_method_80_code 4 = .ok (.ifCond .ne 5, 3) := by decide +kernel
theorem d_M_undo_7 : decode prog_14_method_80_code 7 = .ok (.iconst (-1), 1) := by decide +kernel
theorem d_M_undo_8 : decode prog_14_method_80_code 8 = .ok (.ireturn, 1) := by decide +kernel
theorem d_M_undo_9 : decode prog_14_method_80_code 9 = .ok (.aload_n 0, 1) := by decide +kernel
theorem d_M_undo_10 : decode prog_14_method_80_code 10 = .ok (.dup, 1) := by decide +kernel
theorem d_M_undo_11 : decode prog_14_method_80_code 11 = .ok (.getfield 245, 3) := by decide +kernel
theorem d_M_undo_14 : decode prog_14_method_80_code 14 = .ok (.iconst 1, 1) := by decide +kernel
theorem d_M_undo_15 : decode prog_14_method_80_code 15 = .ok (.isub, 1) := by decide +kernel
theorem d_M_undo_16 : decode prog_14_method_80_code 16 = .ok (.putfield 245, 3) := by decide +kernel
theorem d_M_undo_19 : decode prog_14_method_80_code 19 = .ok (.iconst 0, 1) := by decide +kernel
theorem d_M_undo_20 : decode prog_14_method_80_code 20 = .ok (.istore_n 1, 1) := by decide +kernel
theorem d_M_undo_21 : decode prog_14_method_80_code 21 = .ok (.iload_n 1, 1) := by decide +kernel
theorem d_M_undo_22 : decode prog_14_method_80_code 22 = .ok (.bipush 14, 2) := by decide +kernel
theorem d_M_undo_24 : decode prog_14_method_80_code 24 = .ok (.if_icmp .ge 29, 3) := by decide +kernel
theorem d_M_undo_27 : decode prog_14_method_80_code 27 = .ok (.aload_n 0, 1) := by decide +kernel
theorem d_M_undo_28 : decode prog_14_method_80_code 28 = .ok (.getfield 7, 3) := by decide +kernel
theorem d_M_undo_31 : decode prog_14_method_80_code 31 = .ok (.iload_n 1, 1) := by decide +kernel
theorem d_M_undo_32 : decode prog_14_method_80_code 32 = .ok (.aload_n 0, 1) := by decide +kernel
theorem d_M_undo_33 : decode prog_14_method_80_code 33 = .ok (.getfield 13, 3) := by decide +kernel
theorem d_M_undo_36 : decode prog_14_method_80_code 36 = .ok (.bipush 14, 2) := by decide +kernel
theorem d_M_undo_38 : decode prog_14_method_80_code 38 = .ok (.aload_n 0, 1) := by decide +kernel
theorem d_M_undo_39 : decode prog_14_method_80_code 39 = .ok (.getfield 245, 3) := by decide +kernel
theorem d_M_undo_42 : decode prog_14_method_80_code 42 = .ok (.imul, 1) := by decide +kernel
theorem d_M_undo_43 : decode prog_14_method_80_code 43 = .ok (.iload_n 1, 1) := by decide +kernel
theorem d_M_undo_44 : decode prog_14_method_80_code 44 = .ok (.iadd, 1) := by decide +kernel
theorem d_M_undo_45 : decode prog_14_method_80_code 45 = .ok (.laload, 1) := by decide +kernel
theorem d_M_undo_46 : decode prog_14_method_80_code 46 = .ok (.lastore, 1) := by decide +kernel
theorem d_M_undo_47 : decode prog_14_method_80_code 47 = .ok (.iinc 1 1, 3) := by decide +kernel
theorem d_M_undo_50 : decode prog_14_method_80_code 50 = .ok (.goto (-29), 3) := by decide +kernel
theorem d_M_undo_53 : decode prog_14_method_80_code 53 = .ok (.aload_n 0, 1) := by decide +kernel
theorem d_M_undo_54 : decode prog_14_method_80_code 54 = .ok (.getfield 245, 3) := by decide +kernel
theorem d_M_undo_57 : decode prog_14_method_80_code 57 = .ok (.ireturn, 1) := by decide +kernel
def cf_M_undo_B21  (K21 : Int32 → Wd → Prop) (P : Int32 → Wd → Prop) (x1 : Int32) (w : Wd) : Prop :=
  (((14 : Int32) ≤ x1 → P (w.1 30 2) w) ∧ (¬ (14 : Int32) ≤ x1 → vp_in (((14 : Int32) * (w.1 30 2)) + x1) 140 ∧ vp_in x1 14 ∧ ∀ w2, w2 = wL w 31 x1.toNatClampNeg (w.2 32 (((14 : Int32) * (w.1 30 2)) + x1).toNatClampNeg) → ∀ v3, v3 = x1 + (1 : Int32) → K21 v3 w2))
def cf_M_undo_L21   (P : Int32 → Wd → Prop) : Nat → Int32 → Wd → Prop
  | 0 => fun x1 w => False
  | n + 1 => fun x1 w => cf_M_undo_B21 (cf_M_undo_L21 P n) P x1 w
def cf_M_undo  (w : Wd) (P : Int32 → Wd → Prop) : Prop :=
  ((¬ (w.1 30 2) = 0 → ∀ w1, w1 = wI w 30 2 ((w.1 30 2) - (1 : Int32)) → ∃ n, cf_M_undo_L21 P n (0 : Int32) w1) ∧ ((w.1 30 2) = 0 → P (-1 : Int32) w))
theorem cf_M_undo_B21_ok {g : ayG} {d : Nat} (hd : 0 ≤ d)   (w : Wd) (K21 : Int32 → Wd → Prop) (P : Int32 → Wd → Prop) (Q : Option Value → Wd → Prop) (hQ : ∀ x w2, P x w2 → Q (some (.int x)) w2) (hK21 : ∀ (x1 : Int32) (w : Wd), (K21 x1 w → wp g (fun _ => True) y_M_undo prog_14_method_80_code 2 (some FieldType.int) d 21 [(0, .ref (g.1 + 30)), (1, .int x1)] [] w Q)) (x1 : Int32) (h : cf_M_undo_B21 K21 P x1 w) : wp g (fun _ => True) y_M_undo prog_14_method_80_code 2 (some FieldType.int) d 21 [(0, .ref (g.1 + 30)), (1, .int x1)] [] w Q := by
  unfold cf_M_undo_B21 at h
  refine am_iload_n d_M_undo_21 1 rfl ?_
  refine am_bipush (v := 14) d_M_undo_22 rfl ?_
  refine am_icmp_ge (tgt := 53) d_M_undo_24 (by decide) (fun c24 => ?_) (fun c24 => ?_)
  · have h := h.1 c24
    refine am_aload_n d_M_undo_53 0 rfl ?_
    refine am_getf (T := F_M) (fs := ob_M g w 30) (C := R_M) (N := 35) (ci := 10) 2 d_M_undo_54 wd_1079 rfl (by decide) (el_M (show ay_sh 30 = _ from rfl)) rfl i_M (by decide) rfl ?_
    exact am_ireturn d_M_undo_57 rfl rfl (hQ (w.1 30 2) w h)
  · have h := h.2 c24
    refine am_aload_n d_M_undo_27 0 rfl ?_
    refine am_getf (T := F_M) (fs := ob_M g w 30) (C := R_M) (N := 35) (ci := 10) 0 d_M_undo_28 wd_1077 rfl (by decide) (el_M (show ay_sh 30 = _ from rfl)) rfl i_M (by decide) rfl ?_
    refine am_iload_n d_M_undo_31 1 rfl ?_
    refine am_aload_n d_M_undo_32 0 rfl ?_
    refine am_getf (T := F_M) (fs := ob_M g w 30) (C := R_M) (N := 35) (ci := 10) 1 d_M_undo_33 wd_1078 rfl (by decide) (el_M (show ay_sh 30 = _ from rfl)) rfl i_M (by decide) rfl ?_
    refine am_bipush (v := 14) d_M_undo_36 rfl ?_
    refine am_aload_n d_M_undo_38 0 rfl ?_
    refine am_getf (T := F_M) (fs := ob_M g w 30) (C := R_M) (N := 35) (ci := 10) 2 d_M_undo_39 wd_1079 rfl (by decide) (el_M (show ay_sh 30 = _ from rfl)) rfl i_M (by decide) rfl ?_
    refine am_imul d_M_undo_42 ?_
    refine am_iload_n d_M_undo_43 1 rfl ?_
    refine am_iadd d_M_undo_44 ?_
    have hi45 := h.1
    have h := h.2
    refine am_laload d_M_undo_45 (show ay_sh 32 = _ from rfl) hi45 ?_
    have hi46 := h.1
    have h := h.2
    refine am_lastore d_M_undo_46 (show ay_sh 31 = _ from rfl) hi46 ?_
    obtain ⟨w2, ew2⟩ : ∃ z, z = wL w 31 x1.toNatClampNeg (w.2 32 (((14 : Int32) * (w.1 30 2)) + x1).toNatClampNeg) := ⟨_, rfl⟩
    rw [← ew2]
    have h := h w2 ew2
    obtain ⟨v3, ev3⟩ : ∃ z : Int32, z = x1 + (1 : Int32) := ⟨_, rfl⟩
    have h := h v3 ev3
    refine am_iinc (v := v3) (l' := [(1, .int v3), (0, .ref (g.1 + 30))]) d_M_undo_47 1 rfl (by rw [ev3]; rfl) (by decide) rfl ?_
    refine am_goto (tgt := 21) d_M_undo_50 (by decide) ?_
    refine am_sub [1, 0] rfl ?_
    exact hK21 v3 w2 h
theorem cf_M_undo_L21_ok {g : ayG} {d : Nat} (hd : 0 ≤ d)    (P : Int32 → Wd → Prop) (Q : Option Value → Wd → Prop) (hQ : ∀ x w2, P x w2 → Q (some (.int x)) w2)  : ∀ (n : Nat) (x1 : Int32) (w : Wd) (h : cf_M_undo_L21 P n x1 w), wp g (fun _ => True) y_M_undo prog_14_method_80_code 2 (some FieldType.int) d 21 [(0, .ref (g.1 + 30)), (1, .int x1)] [] w Q
  | 0, x1, w, h => False.elim h
  | n + 1, x1, w, h => cf_M_undo_B21_ok hd   w (cf_M_undo_L21 P n) P Q hQ (fun x1 w h => cf_M_undo_L21_ok hd    P Q hQ  n x1 w h) x1 h
theorem cf_M_undo_ok {g : ayG} {d : Nat} (hd : 0 ≤ d)   (w : Wd) (P : Int32 → Wd → Prop) (h : cf_M_undo w P) : Call g y_M_undo prog_14_method_80_code 2 (some FieldType.int) d [.ref (g.1 + 30)] w (fun (r : Option Value) (w2 : Wd) => ∃ x, r = some (.int x) ∧ P x w2) := by
  unfold cf_M_undo at h
  refine am_enter mi_M_undo (Nat.le_of_ble_eq_true rfl) ?_
  have hQ : ∀ x w2, P x w2 → (fun (r : Option Value) (w2 : Wd) => ∃ x, r = some (.int x) ∧ P x w2) (some (.int x)) w2 := fun x w2 h => ⟨x, rfl, h⟩
  generalize (fun (r : Option Value) (w2 : Wd) => ∃ x, r = some (.int x) ∧ P x w2) = Q at hQ ⊢
  show wp g (fun _ => True) y_M_undo prog_14_method_80_code 2 (some FieldType.int) d 0 [(0, .ref (g.1 + 30))] [] w Q
  refine am_aload_n d_M_undo_0 0 rfl ?_
  refine am_getf (T := F_M) (fs := ob_M g w 30) (C := R_M) (N := 35) (ci := 10) 2 d_M_undo_1 wd_1079 rfl (by decide) (el_M (show ay_sh 30 = _ from rfl)) rfl i_M (by decide) rfl ?_
  refine am_if_ne (tgt := 9) d_M_undo_4 (by decide) (fun c4 => ?_) (fun c4 => ?_)
  · have h := h.1 c4
    refine am_aload_n d_M_undo_9 0 rfl ?_
    refine am_dup d_M_undo_10 rfl ?_
    refine am_getf (T := F_M) (fs := ob_M g w 30) (C := R_M) (N := 35) (ci := 10) 2 d_M_undo_11 wd_1079 rfl (by decide) (el_M (show ay_sh 30 = _ from rfl)) rfl i_M (by decide) rfl ?_
    refine am_iconst (v := 1) d_M_undo_14 rfl ?_
    refine am_isub d_M_undo_15 ?_
    refine am_putf (w' := wI w 30 2 ((w.1 30 2) - (1 : Int32))) (ty := .int) (T := F_M) (fs := ob_M g w 30) (C := R_M) (N := 35) (ci := 10) 2 d_M_undo_16 wd_1079 rfl (by decide) (el_M (show ay_sh 30 = _ from rfl)) rfl i_M (by decide) G_M ty_M n_M rfl (ty_M 2 (by decide)) rfl rfl (Nat.le_of_ble_eq_true rfl) ((el_M (show ay_sh 30 = _ from rfl)).trans (by rw [pf_M_undone])) wI_o ?_
    obtain ⟨w1, ew1⟩ : ∃ z, z = wI w 30 2 ((w.1 30 2) - (1 : Int32)) := ⟨_, rfl⟩
    rw [← ew1]
    have h := h w1 ew1
    refine am_iconst (v := 0) d_M_undo_19 rfl ?_
    refine am_istore_n (l' := [(1, .int (0 : Int32)), (0, .ref (g.1 + 30))]) d_M_undo_20 (by decide) rfl ?_
    refine am_sub [1, 0] rfl ?_
    obtain ⟨n, h⟩ := h
    exact cf_M_undo_L21_ok (by omega)    P Q hQ  n (0 : Int32) w1 h
  · have h := h.2 c4
    refine am_iconst (v := -1) d_M_undo_7 rfl ?_
    exact am_ireturn d_M_undo_8 rfl rfl (hQ (-1 : Int32) w h)
theorem d_M_keep_0 : decode prog_14_method_81_code 0 = .ok (.iload_n 1, 1) := by decide +kernel
theorem d_M_keep_1 : decode prog_14_method_81_code 1 = .ok (.i2l, 1) := by decide +kernel
theorem d_M_keep_2 : decode prog_14_method_81_code 2 = .ok (.lconst 0, 1) := by decide +kernel
theorem d_M_keep_3 : decode prog_14_method_81_code 3 = .ok (.lconst 1, 1) := by decide +kernel
theorem d_M_keep_4 : decode prog_14_method_81_code 4 = .ok (.invokestatic 76, 3) := by decide +kernel
theorem d_M_keep_7 : decode prog_14_method_81_code 7 = .ok (.ifCond .ne 5, 3) := by decide +kernel
theorem d_M_keep_10 : decode prog_14_method_81_code 10 = .ok (.iconst (-1), 1) := by decide +kernel
theorem d_M_keep_11 : decode prog_14_method_81_code 11 = .ok (.ireturn, 1) := by decide +kernel
theorem d_M_keep_12 : decode prog_14_method_81_code 12 = .ok (.iconst 0, 1) := by decide +kernel
theorem d_M_keep_13 : decode prog_14_method_81_code 13 = .ok (.istore_n 2, 1) := by decide +kernel
theorem d_M_keep_14 : decode prog_14_method_81_code 14 = .ok (.iload_n 2, 1) := by decide +kernel
theorem d_M_keep_15 : decode prog_14_method_81_code 15 = .ok (.bipush 14, 2) := by decide +kernel
theorem d_M_keep_17 : decode prog_14_method_81_code 17 = .ok (.if_icmp .ge 26, 3) := by decide +kernel
theorem d_M_keep_20 : decode prog_14_method_81_code 20 = .ok (.aload_n 0, 1) := by decide +kernel
theorem d_M_keep_21 : decode prog_14_method_81_code 21 = .ok (.getfield 16, 3) := by decide +kernel
theorem d_M_keep_24 : decode prog_14_method_81_code 24 = .ok (.bipush 14, 2) := by decide +kernel
theorem d_M_keep_26 : decode prog_14_method_81_code 26 = .ok (.iload_n 1, 1) := by decide +kernel
theorem d_M_keep_27 : decode prog_14_method_81_code 27 = .ok (.imul, 1) := by decide +kernel
theorem d_M_keep_28 : decode prog_14_method_81_code 28 = .ok (.iload_n 2, 1) := by decide +kernel
theorem d_M_keep_29 : decode prog_14_method_81_code 29 = .ok (.iadd, 1) := by decide +kernel
theorem d_M_keep_30 : decode prog_14_method_81_code 30 = .ok (.aload_n 0, 1) := by decide +kernel
theorem d_M_keep_31 : decode prog_14_method_81_code 31 = .ok (.getfield 7, 3) := by decide +kernel
theorem d_M_keep_34 : decode prog_14_method_81_code 34 = .ok (.iload_n 2, 1) := by decide +kernel
theorem d_M_keep_35 : decode prog_14_method_81_code 35 = .ok (.laload, 1) := by decide +kernel
theorem d_M_keep_36 : decode prog_14_method_81_code 36 = .ok (.lastore, 1) := by decide +kernel
theorem d_M_keep_37 : decode prog_14_method_81_code 37 = .ok (.iinc 2 1, 3) := by decide +kernel
theorem d_M_keep_40 : decode prog_14_method_81_code 40 = .ok (.goto (-26), 3) := by decide +kernel
theorem d_M_keep_43 : decode prog_14_method_81_code 43 = .ok (.aload_n 0, 1) := by decide +kernel
theorem d_M_keep_44 : decode prog_14_method_81_code 44 = .ok (.getfield 19, 3) := by decide +kernel
theorem d_M_keep_47 : decode prog_14_method_81_code 47 = .ok (.iload_n 1, 1) := by decide +kernel
theorem d_M_keep_48 : decode prog_14_method_81_code 48 = .ok (.iconst 1, 1) := by decide +kernel
theorem d_M_keep_49 : decode prog_14_method_81_code 49 = .ok (.bastore, 1) := by decide +kernel
theorem d_M_keep_50 : decode prog_14_method_81_code 50 = .ok (.iconst 1, 1) := by decide +kernel
theorem d_M_keep_51 : decode prog_14_method_81_code 51 = .ok (.ireturn, 1) := by decide +kernel
def cf_M_keep_B14  (K14 : Int32 → Int32 → Wd → Prop) (P : Int32 → Wd → Prop) (x1 : Int32) (x2 : Int32) (w : Wd) : Prop :=
  (((14 : Int32) ≤ x2 → vp_in x1 2 ∧ ∀ w2, w2 = wI w 34 x1.toNatClampNeg (vp_nar .boolean (1 : Int32)) → P (1 : Int32) w2) ∧ (¬ (14 : Int32) ≤ x2 → vp_in x2 14 ∧ vp_in (((14 : Int32) * x1) + x2) 28 ∧ ∀ w3, w3 = wL w 33 (((14 : Int32) * x1) + x2).toNatClampNeg (w.2 31 x2.toNatClampNeg) → ∀ v4, v4 = x2 + (1 : Int32) → K14 x1 v4 w3))
def cf_M_keep_L14   (P : Int32 → Wd → Prop) : Nat → Int32 → Int32 → Wd → Prop
  | 0 => fun x1 x2 w => False
  | n + 1 => fun x1 x2 w => cf_M_keep_B14 (cf_M_keep_L14 P n) P x1 x2 w
def cf_M_keep (a0 : Int32) (w : Wd) (P : Int32 → Wd → Prop) : Prop :=
  cf_M_in a0.toInt64 (0 : Int64) (1 : Int64) (fun r1 => ((¬ r1 = 0 → ∃ n, cf_M_keep_L14 P n a0 (0 : Int32) w) ∧ (r1 = 0 → P (-1 : Int32) w)))
theorem cf_M_keep_B14_ok {g : ayG} {d : Nat} (hd : 1 ≤ d)   (w : Wd) (K14 : Int32 → Int32 → Wd → Prop) (P : Int32 → Wd → Prop) (Q : Option Value → Wd → Prop) (hQ : ∀ x w2, P x w2 → Q (some (.int x)) w2) (hK14 : ∀ (x1 : Int32) (x2 : Int32) (w : Wd), (K14 x1 x2 w → wp g (fun _ => True) y_M_keep prog_14_method_81_code 3 (some FieldType.int) d 14 [(0, .ref (g.1 + 30)), (1, .int x1), (2, .int x2)] [] w Q)) (x1 : Int32) (x2 : Int32) (h : cf_M_keep_B14 K14 P x1 x2 w) : wp g (fun _ => True) y_M_keep prog_14_method_81_code 3 (some FieldType.int) d 14 [(0, .ref (g.1 + 30)), (1, .int x1), (2, .int x2)] [] w Q := by
  unfold cf_M_keep_B14 at h
  refine am_iload_n d_M_keep_14 2 rfl ?_
  refine am_bipush (v := 14) d_M_keep_15 rfl ?_
  refine am_icmp_ge (tgt := 43) d_M_keep_17 (by decide) (fun c17 => ?_) (fun c17 => ?_)
  · have h := h.1 c17
    refine am_aload_n d_M_keep_43 0 rfl ?_
    refine am_getf (T := F_M) (fs := ob_M g w 30) (C := R_M) (N := 35) (ci := 10) 4 d_M_keep_44 wd_1081 rfl (by decide) (el_M (show ay_sh 30 = _ from rfl)) rfl i_M (by decide) rfl ?_
    refine am_iload_n d_M_keep_47 1 rfl ?_
    refine am_iconst (v := 1) d_M_keep_48 rfl ?_
    have hi49 := h.1
    have h := h.2
    refine am_zastore d_M_keep_49 (show ay_sh 34 = _ from rfl) hi49 ?_
    obtain ⟨w2, ew2⟩ : ∃ z, z = wI w 34 x1.toNatClampNeg (vp_nar .boolean (1 : Int32)) := ⟨_, rfl⟩
    rw [← ew2]
    have h := h w2 ew2
    refine am_iconst (v := 1) d_M_keep_50 rfl ?_
    exact am_ireturn d_M_keep_51 rfl rfl (hQ (1 : Int32) w2 h)
  · have h := h.2 c17
    refine am_aload_n d_M_keep_20 0 rfl ?_
    refine am_getf (T := F_M) (fs := ob_M g w 30) (C := R_M) (N := 35) (ci := 10) 3 d_M_keep_21 wd_1080 rfl (by decide) (el_M (show ay_sh 30 = _ from rfl)) rfl i_M (by decide) rfl ?_
    refine am_bipush (v := 14) d_M_keep_24 rfl ?_
    refine am_iload_n d_M_keep_26 1 rfl ?_
    refine am_imul d_M_keep_27 ?_
    refine am_iload_n d_M_keep_28 2 rfl ?_
    refine am_iadd d_M_keep_29 ?_
    refine am_aload_n d_M_keep_30 0 rfl ?_
    refine am_getf (T := F_M) (fs := ob_M g w 30) (C := R_M) (N := 35) (ci := 10) 0 d_M_keep_31 wd_1077 rfl (by decide) (el_M (show ay_sh 30 = _ from rfl)) rfl i_M (by decide) rfl ?_
    refine am_iload_n d_M_keep_34 2 rfl ?_
    have hi35 := h.1
    have h := h.2
    refine am_laload d_M_keep_35 (show ay_sh 31 = _ from rfl) hi35 ?_
    have hi36 := h.1
    have h := h.2
    refine am_lastore d_M_keep_36 (show ay_sh 33 = _ from rfl) hi36 ?_
    obtain ⟨w3, ew3⟩ : ∃ z, z = wL w 33 (((14 : Int32) * x1) + x2).toNatClampNeg (w.2 31 x2.toNatClampNeg) := ⟨_, rfl⟩
    rw [← ew3]
    have h := h w3 ew3
    obtain ⟨v4, ev4⟩ : ∃ z : Int32, z = x2 + (1 : Int32) := ⟨_, rfl⟩
    have h := h v4 ev4
    refine am_iinc (v := v4) (l' := [(2, .int v4), (0, .ref (g.1 + 30)), (1, .int x1)]) d_M_keep_37 2 rfl (by rw [ev4]; rfl) (by decide) rfl ?_
    refine am_goto (tgt := 14) d_M_keep_40 (by decide) ?_
    refine am_sub [1, 2, 0] rfl ?_
    exact hK14 x1 v4 w3 h
theorem cf_M_keep_L14_ok {g : ayG} {d : Nat} (hd : 1 ≤ d)    (P : Int32 → Wd → Prop) (Q : Option Value → Wd → Prop) (hQ : ∀ x w2, P x w2 → Q (some (.int x)) w2)  : ∀ (n : Nat) (x1 : Int32) (x2 : Int32) (w : Wd) (h : cf_M_keep_L14 P n x1 x2 w), wp g (fun _ => True) y_M_keep prog_14_method_81_code 3 (some FieldType.int) d 14 [(0, .ref (g.1 + 30)), (1, .int x1), (2, .int x2)] [] w Q
  | 0, x1, x2, w, h => False.elim h
  | n + 1, x1, x2, w, h => cf_M_keep_B14_ok hd   w (cf_M_keep_L14 P n) P Q hQ (fun x1 x2 w h => cf_M_keep_L14_ok hd    P Q hQ  n x1 x2 w h) x1 x2 h
theorem cf_M_keep_ok {g : ayG} {d : Nat} (hd : 1 ≤ d) (a0 : Int32)  (w : Wd) (P : Int32 → Wd → Prop) (h : cf_M_keep a0 w P) : Call g y_M_keep prog_14_method_81_code 3 (some FieldType.int) d [.ref (g.1 + 30), .int a0] w (fun (r : Option Value) (w2 : Wd) => ∃ x, r = some (.int x) ∧ P x w2) := by
  unfold cf_M_keep at h
  refine am_enter mi_M_keep (Nat.le_of_ble_eq_true rfl) ?_
  have hQ : ∀ x w2, P x w2 → (fun (r : Option Value) (w2 : Wd) => ∃ x, r = some (.int x) ∧ P x w2) (some (.int x)) w2 := fun x w2 h => ⟨x, rfl, h⟩
  generalize (fun (r : Option Value) (w2 : Wd) => ∃ x, r = some (.int x) ∧ P x w2) = Q at hQ ⊢
  show wp g (fun _ => True) y_M_keep prog_14_method_81_code 3 (some FieldType.int) d 0 [(0, .ref (g.1 + 30)), (1, .int a0)] [] w Q
  refine am_iload_n d_M_keep_0 1 rfl ?_
  refine am_i2l d_M_keep_1 ?_
  refine am_lconst (v := 0) d_M_keep_2 rfl ?_
  refine am_lconst (v := 1) d_M_keep_3 rfl ?_
  refine am_callS (d2 := d - 1) [.long a0.toInt64, .long (0 : Int64), .long (1 : Int64)] d_M_keep_4 mi_M_in wd_1192 wd_1193 (by omega) rfl rfl (Nat.le_of_ble_eq_true rfl) ?_
  refine Call.post ?_ (cf_M_in_ok (by omega) a0.toInt64 (0 : Int64) (1 : Int64)  w _ h)
  rintro _ _ ⟨r1, rfl, rfl, h⟩
  show wp g (fun _ => True) y_M_keep prog_14_method_81_code 3 (some FieldType.int) d 7 [(0, .ref (g.1 + 30)), (1, .int a0)] [.int r1] w Q
  refine am_if_ne (tgt := 12) d_M_keep_7 (by decide) (fun c7 => ?_) (fun c7 => ?_)
  · have h := h.1 c7
    refine am_iconst (v := 0) d_M_keep_12 rfl ?_
    refine am_istore_n (l' := [(2, .int (0 : Int32)), (0, .ref (g.1 + 30)), (1, .int a0)]) d_M_keep_13 (by decide) rfl ?_
    refine am_sub [1, 2, 0] rfl ?_
    obtain ⟨n, h⟩ := h
    exact cf_M_keep_L14_ok (by omega)    P Q hQ  n a0 (0 : Int32) w h
  · have h := h.2 c7
    refine am_iconst (v := -1) d_M_keep_10 rfl ?_
    exact am_ireturn d_M_keep_11 rfl rfl (hQ (-1 : Int32) w h)
theorem d_M_back_0 : decode prog_14_method_82_code 0 = .ok (.iload_n 1, 1) := by decide +kernel
theorem d_M_back_1 : decode prog_14_method_82_code 1 = .ok (.i2l, 1) := by decide +kernel
theorem d_M_back_2 : decode prog_14_method_82_code 2 = .ok (.lconst 0, 1) := by decide +kernel
theorem d_M_back_3 : decode prog_14_method_82_code 3 = .ok (.lconst 1, 1) := by decide +kernel
theorem d_M_back_4 : decode prog_14_method_82_code 4 = .ok (.invokestatic 76, 3) := by decide +kernel
theorem d_M_back_7 : decode prog_14_method_82_code 7 = .ok (.ifCond .ne 5, 3) := by decide +kernel
theorem d_M_back_10 : decode prog_14_method_82_code 10 = .ok (.iconst (-1), 1) := by decide +kernel
theorem d_M_back_11 : decode prog_14_method_82_code 11 = .ok (.ireturn, 1) := by decide +kernel
theorem d_M_back_12 : decode prog_14_method_82_code 12 = .ok (.aload_n 0, 1) := by decide +kernel
theorem d_M_back_13 : decode prog_14_method_82_code 13 = .ok (.getfield 19, 3) := by decide +kernel
theorem d_M_back_16 : decode prog_14_method_82_code 16 = .ok (.iload_n 1, 1) := by decide +kernel
theorem d_M_back_17 : decode prog_14_method_82_code 17 = .ok (.baload, 1) := by decide +kernel
theorem d_M_back_18 : decode prog_14_method_82_code 18 = .ok (.ifCond .ne 6, 3) := by decide +kernel
theorem d_M_back_21 : decode prog_14_method_82_code 21 = .ok (.bipush (-2), 2) := by decide +kernel
theorem d_M_back_23 : decode prog_14_method_82_code 23 = .ok (.ireturn, 1) := by decide +kernel
theorem d_M_back_24 : decode prog_14_method_82_code 24 = .ok (.iconst 0, 1) := by decide +kernel
theorem d_M_back_25 : decode prog_14_method_82_code 25 = .ok (.istore_n 2, 1) := by decide +kernel
theorem d_M_back_26 : decode prog_14_method_82_code 26 = .ok (.iload_n 2, 1) := by decide +kernel
theorem d_M_back_27 : decode prog_14_method_82_code 27 = .ok (.bipush 14, 2) := by decide +kernel
theorem d_M_back_29 : decode prog_14_method_82_code 29 = .ok (.if_icmp .ge 26, 3) := by decide +kernel
theorem d_M_back_32 : decode prog_14_method_82_code 32 = .ok (.aload_n 0, 1) := by decide +kernel
theorem d_M_back_33 : decode prog_14_method_82_code 33 = .ok (.getfield 7, 3) := by decide +kernel
theorem d_M_back_36 : decode prog_14_method_82_code 36 = .ok (.iload_n 2, 1) := by decide +kernel
theorem d_M_back_37 : decode prog_14_method_82_code 37 = .ok (.aload_n 0, 1) := by decide +kernel
theorem d_M_back_38 : decode prog_14_method_82_code 38 = .ok (.getfield 16, 3) := by decide +kernel
theorem d_M_back_41 : decode prog_14_method_82_code 41 = .ok (.bipush 14, 2) := by decide +kernel
theorem d_M_back_43 : decode prog_14_method_82_code 43 = .ok (.iload_n 1, 1) := by decide +kernel
theorem d_M_back_44 : decode prog_14_method_82_code 44 = .ok (.imul, 1) := by decide +kernel
theorem d_M_back_45 : decode prog_14_method_82_code 45 = .ok (.iload_n 2, 1) := by decide +kernel
theorem d_M_back_46 : decode prog_14_method_82_code 46 = .ok (.iadd, 1) := by decide +kernel
theorem d_M_back_47 : decode prog_14_method_82_code 47 = .ok (.laload, 1) := by decide +kernel
theorem d_M_back_48 : decode prog_14_method_82_code 48 = .ok (.lastore, 1) := by decide +kernel
theorem d_M_back_49 : decode prog_14_method_82_code 49 = .ok (.iinc 2 1, 3) := by decide +kernel
theorem d_M_back_52 : decode prog_14_method_82_code 52 = .ok (.goto (-26), 3) := by decide +kernel
theorem d_M_back_55 : decode prog_14_method_82_code 55 = .ok (.aload_n 0, 1) := by decide +kernel
theorem d_M_back_56 : decode prog_14_method_82_code 56 = .ok (.iconst 0, 1) := by decide +kernel
theorem d_M_back_57 : decode prog_14_method_82_code 57 = .ok (.putfield 245, 3) := by decide +kernel
theorem d_M_back_60 : decode prog_14_method_82_code 60 = .ok (.iconst 1, 1) := by decide +kernel
theorem d_M_back_61 : decode prog_14_method_82_code 61 = .ok (.ireturn, 1) := by decide +kernel
def cf_M_back_B26  (K26 : Int32 → Int32 → Wd → Prop) (P : Int32 → Wd → Prop) (x1 : Int32) (x2 : Int32) (w : Wd) : Prop :=
  (((14 : Int32) ≤ x2 → ∀ w2, w2 = wI w 30 2 (0 : Int32) → P (1 : Int32) w2) ∧ (¬ (14 : Int32) ≤ x2 → vp_in (((14 : Int32) * x1) + x2) 28 ∧ vp_in x2 14 ∧ ∀ w3, w3 = wL w 31 x2.toNatClampNeg (w.2 33 (((14 : Int32) * x1) + x2).toNatClampNeg) → ∀ v4, v4 = x2 + (1 : Int32) → K26 x1 v4 w3))
def cf_M_back_L26   (P : Int32 → Wd → Prop) : Nat → Int32 → Int32 → Wd → Prop
  | 0 => fun x1 x2 w => False
  | n + 1 => fun x1 x2 w => cf_M_back_B26 (cf_M_back_L26 P n) P x1 x2 w
def cf_M_back (a0 : Int32) (w : Wd) (P : Int32 → Wd → Prop) : Prop :=
  cf_M_in a0.toInt64 (0 : Int64) (1 : Int64) (fun r1 => ((¬ r1 = 0 → vp_in a0 2 ∧ ((¬ (w.1 34 a0.toNatClampNeg) = 0 → ∃ n, cf_M_back_L26 P n a0 (0 : Int32) w) ∧ ((w.1 34 a0.toNatClampNeg) = 0 → P (-2 : Int32) w))) ∧ (r1 = 0 → P (-1 : Int32) w)))
theorem cf_M_back_B26_ok {g : ayG} {d : Nat} (hd : 1 ≤ d)   (w : Wd) (K26 : Int32 → Int32 → Wd → Prop) (P : Int32 → Wd → Prop) (Q : Option Value → Wd → Prop) (hQ : ∀ x w2, P x w2 → Q (some (.int x)) w2) (hK26 : ∀ (x1 : Int32) (x2 : Int32) (w : Wd), (K26 x1 x2 w → wp g (fun _ => True) y_M_back prog_14_method_82_code 3 (some FieldType.int) d 26 [(0, .ref (g.1 + 30)), (1, .int x1), (2, .int x2)] [] w Q)) (x1 : Int32) (x2 : Int32) (h : cf_M_back_B26 K26 P x1 x2 w) : wp g (fun _ => True) y_M_back prog_14_method_82_code 3 (some FieldType.int) d 26 [(0, .ref (g.1 + 30)), (1, .int x1), (2, .int x2)] [] w Q := by
  unfold cf_M_back_B26 at h
  refine am_iload_n d_M_back_26 2 rfl ?_
  refine am_bipush (v := 14) d_M_back_27 rfl ?_
  refine am_icmp_ge (tgt := 55) d_M_back_29 (by decide) (fun c29 => ?_) (fun c29 => ?_)
  · have h := h.1 c29
    refine am_aload_n d_M_back_55 0 rfl ?_
    refine am_iconst (v := 0) d_M_back_56 rfl ?_
    refine am_putf (w' := wI w 30 2 (0 : Int32)) (ty := .int) (T := F_M) (fs := ob_M g w 30) (C := R_M) (N := 35) (ci := 10) 2 d_M_back_57 wd_1079 rfl (by decide) (el_M (show ay_sh 30 = _ from rfl)) rfl i_M (by decide) G_M ty_M n_M rfl (ty_M 2 (by decide)) rfl rfl (Nat.le_of_ble_eq_true rfl) ((el_M (show ay_sh 30 = _ from rfl)).trans (by rw [pf_M_undone])) wI_o ?_
    obtain ⟨w2, ew2⟩ : ∃ z, z = wI w 30 2 (0 : Int32) := ⟨_, rfl⟩
    rw [← ew2]
    have h := h w2 ew2
    refine am_iconst (v := 1) d_M_back_60 rfl ?_
    exact am_ireturn d_M_back_61 rfl rfl (hQ (1 : Int32) w2 h)
  · have h := h.2 c29
    refine am_aload_n d_M_back_32 0 rfl ?_
    refine am_getf (T := F_M) (fs := ob_M g w 30) (C := R_M) (N := 35) (ci := 10) 0 d_M_back_33 wd_1077 rfl (by decide) (el_M (show ay_sh 30 = _ from rfl)) rfl i_M (by decide) rfl ?_
    refine am_iload_n d_M_back_36 2 rfl ?_
    refine am_aload_n d_M_back_37 0 rfl ?_
    refine am_getf (T := F_M) (fs := ob_M g w 30) (C := R_M) (N := 35) (ci := 10) 3 d_M_back_38 wd_1080 rfl (by decide) (el_M (show ay_sh 30 = _ from rfl)) rfl i_M (by decide) rfl ?_
    refine am_bipush (v := 14) d_M_back_41 rfl ?_
    refine am_iload_n d_M_back_43 1 rfl ?_
    refine am_imul d_M_back_44 ?_
    refine am_iload_n d_M_back_45 2 rfl ?_
    refine am_iadd d_M_back_46 ?_
    have hi47 := h.1
    have h := h.2
    refine am_laload d_M_back_47 (show ay_sh 33 = _ from rfl) hi47 ?_
    have hi48 := h.1
    have h := h.2
    refine am_lastore d_M_back_48 (show ay_sh 31 = _ from rfl) hi48 ?_
    obtain ⟨w3, ew3⟩ : ∃ z, z = wL w 31 x2.toNatClampNeg (w.2 33 (((14 : Int32) * x1) + x2).toNatClampNeg) := ⟨_, rfl⟩
    rw [← ew3]
    have h := h w3 ew3
    obtain ⟨v4, ev4⟩ : ∃ z : Int32, z = x2 + (1 : Int32) := ⟨_, rfl⟩
    have h := h v4 ev4
    refine am_iinc (v := v4) (l' := [(2, .int v4), (0, .ref (g.1 + 30)), (1, .int x1)]) d_M_back_49 2 rfl (by rw [ev4]; rfl) (by decide) rfl ?_
    refine am_goto (tgt := 26) d_M_back_52 (by decide) ?_
    refine am_sub [1, 2, 0] rfl ?_
    exact hK26 x1 v4 w3 h
theorem cf_M_back_L26_ok {g : ayG} {d : Nat} (hd : 1 ≤ d)    (P : Int32 → Wd → Prop) (Q : Option Value → Wd → Prop) (hQ : ∀ x w2, P x w2 → Q (some (.int x)) w2)  : ∀ (n : Nat) (x1 : Int32) (x2 : Int32) (w : Wd) (h : cf_M_back_L26 P n x1 x2 w), wp g (fun _ => True) y_M_back prog_14_method_82_code 3 (some FieldType.int) d 26 [(0, .ref (g.1 + 30)), (1, .int x1), (2, .int x2)] [] w Q
  | 0, x1, x2, w, h => False.elim h
  | n + 1, x1, x2, w, h => cf_M_back_B26_ok hd   w (cf_M_back_L26 P n) P Q hQ (fun x1 x2 w h => cf_M_back_L26_ok hd    P Q hQ  n x1 x2 w h) x1 x2 h
theorem cf_M_back_ok {g : ayG} {d : Nat} (hd : 1 ≤ d) (a0 : Int32)  (w : Wd) (P : Int32 → Wd → Prop) (h : cf_M_back a0 w P) : Call g y_M_back prog_14_method_82_code 3 (some FieldType.int) d [.ref (g.1 + 30), .int a0] w (fun (r : Option Value) (w2 : Wd) => ∃ x, r = some (.int x) ∧ P x w2) := by
  unfold cf_M_back at h
  refine am_enter mi_M_back (Nat.le_of_ble_eq_true rfl) ?_
  have hQ : ∀ x w2, P x w2 → (fun (r : Option Value) (w2 : Wd) => ∃ x, r = some (.int x) ∧ P x w2) (some (.int x)) w2 := fun x w2 h => ⟨x, rfl, h⟩
  generalize (fun (r : Option Value) (w2 : Wd) => ∃ x, r = some (.int x) ∧ P x w2) = Q at hQ ⊢
  show wp g (fun _ => True) y_M_back prog_14_method_82_code 3 (some FieldType.int) d 0 [(0, .ref (g.1 + 30)), (1, .int a0)] [] w Q
  refine am_iload_n d_M_back_0 1 rfl ?_
  refine am_i2l d_M_back_1 ?_
  refine am_lconst (v := 0) d_M_back_2 rfl ?_
  refine am_lconst (v := 1) d_M_back_3 rfl ?_
  refine am_callS (d2 := d - 1) [.long a0.toInt64, .long (0 : Int64), .long (1 : Int64)] d_M_back_4 mi_M_in wd_1192 wd_1193 (by omega) rfl rfl (Nat.le_of_ble_eq_true rfl) ?_
  refine Call.post ?_ (cf_M_in_ok (by omega) a0.toInt64 (0 : Int64) (1 : Int64)  w _ h)
  rintro _ _ ⟨r1, rfl, rfl, h⟩
  show wp g (fun _ => True) y_M_back prog_14_method_82_code 3 (some FieldType.int) d 7 [(0, .ref (g.1 + 30)), (1, .int a0)] [.int r1] w Q
  refine am_if_ne (tgt := 12) d_M_back_7 (by decide) (fun c7 => ?_) (fun c7 => ?_)
  · have h := h.1 c7
    refine am_aload_n d_M_back_12 0 rfl ?_
    refine am_getf (T := F_M) (fs := ob_M g w 30) (C := R_M) (N := 35) (ci := 10) 4 d_M_back_13 wd_1081 rfl (by decide) (el_M (show ay_sh 30 = _ from rfl)) rfl i_M (by decide) rfl ?_
    refine am_iload_n d_M_back_16 1 rfl ?_
    have hi17 := h.1
    have h := h.2
    refine am_zaload d_M_back_17 (show ay_sh 34 = _ from rfl) hi17 ?_
    refine am_if_ne (tgt := 24) d_M_back_18 (by decide) (fun c18 => ?_) (fun c18 => ?_)
    · have h := h.1 c18
      refine am_iconst (v := 0) d_M_back_24 rfl ?_
      refine am_istore_n (l' := [(2, .int (0 : Int32)), (0, .ref (g.1 + 30)), (1, .int a0)]) d_M_back_25 (by decide) rfl ?_
      refine am_sub [1, 2, 0] rfl ?_
      obtain ⟨n, h⟩ := h
      exact cf_M_back_L26_ok (by omega)    P Q hQ  n a0 (0 : Int32) w h
    · have h := h.2 c18
      refine am_bipush (v := -2) d_M_back_21 rfl ?_
      exact am_ireturn d_M_back_23 rfl rfl (hQ (-2 : Int32) w h)
  · have h := h.2 c7
    refine am_iconst (v := -1) d_M_back_10 rfl ?_
    exact am_ireturn d_M_back_11 rfl rfl (hQ (-1 : Int32) w h)
theorem d_M_begins_0 : decode prog_14_method_83_code 0 = .ok (.aload_n 0, 1) := by decide +kernel
theorem d_M_begins_1 : decode prog_14_method_83_code 1 = .ok (.iconst 0, 1) := by decide +kernel
theorem d_M_begins_2 : decode prog_14_method_83_code 2 = .ok (.putfield 268, 3) := by decide +kernel
theorem d_M_begins_5 : decode prog_14_method_83_code 5 = .ok (.aload_n 0, 1) := by decide +kernel
theorem d_M_begins_6 : decode prog_14_method_83_code 6 = .ok (.iload_n 1, 1) := by decide +kernel
theorem d_M_begins_7 : decode prog_14_method_83_code 7 = .ok (.putfield 271, 3) := by decide +kernel
theorem d_M_begins_10 : decode prog_14_method_83_code 10 = .ok (.aload_n 0, 1) := by decide +kernel
theorem d_M_begins_11 : decode prog_14_method_83_code 11 = .ok (.bipush (-2), 2) := by decide +kernel
theorem d_M_begins_13 : decode prog_14_method_83_code 13 = .ok (.putfield 274, 3) := by decide +kernel
theorem d_M_begins_16 : decode prog_14_method_83_code 16 = .ok (.return_, 1) := by decide +kernel
def cf_M_begins (a0 : Int32) (w : Wd) (P : Wd → Prop) : Prop :=
  ∀ w1, w1 = wI w 30 17 (0 : Int32) → ∀ w2, w2 = wI w1 30 18 a0 → ∀ w3, w3 = wI w2 30 19 (-2 : Int32) → P w3
theorem cf_M_begins_ok {g : ayG} {d : Nat} (hd : 0 ≤ d) (a0 : Int32)  (w : Wd) (P : Wd → Prop) (h : cf_M_begins a0 w P) : Call g y_M_begins prog_14_method_83_code 2 none d [.ref (g.1 + 30), .int a0] w (fun (r : Option Value) (w2 : Wd) => r = none ∧ P w2) := by
  unfold cf_M_begins at h
  refine am_enter mi_M_begins (Nat.le_of_ble_eq_true rfl) ?_
  have hQ : ∀ w2, P w2 → (fun (r : Option Value) (w2 : Wd) => r = none ∧ P w2) none w2 := fun w2 h => ⟨rfl, h⟩
  generalize (fun (r : Option Value) (w2 : Wd) => r = none ∧ P w2) = Q at hQ ⊢
  show wp g (fun _ => True) y_M_begins prog_14_method_83_code 2 none d 0 [(0, .ref (g.1 + 30)), (1, .int a0)] [] w Q
  refine am_aload_n d_M_begins_0 0 rfl ?_
  refine am_iconst (v := 0) d_M_begins_1 rfl ?_
  refine am_putf (w' := wI w 30 17 (0 : Int32)) (ty := .int) (T := F_M) (fs := ob_M g w 30) (C := R_M) (N := 35) (ci := 10) 17 d_M_begins_2 wd_1094 rfl (by decide) (el_M (show ay_sh 30 = _ from rfl)) rfl i_M (by decide) G_M ty_M n_M rfl (ty_M 17 (by decide)) rfl rfl (Nat.le_of_ble_eq_true rfl) ((el_M (show ay_sh 30 = _ from rfl)).trans (by rw [pf_M_spelt])) wI_o ?_
  obtain ⟨w1, ew1⟩ : ∃ z, z = wI w 30 17 (0 : Int32) := ⟨_, rfl⟩
  rw [← ew1]
  have h := h w1 ew1
  refine am_aload_n d_M_begins_5 0 rfl ?_
  refine am_iload_n d_M_begins_6 1 rfl ?_
  refine am_putf (w' := wI w1 30 18 a0) (ty := .int) (T := F_M) (fs := ob_M g w1 30) (C := R_M) (N := 35) (ci := 10) 18 d_M_begins_7 wd_1095 rfl (by decide) (el_M (show ay_sh 30 = _ from rfl)) rfl i_M (by decide) G_M ty_M n_M rfl (ty_M 18 (by decide)) rfl rfl (Nat.le_of_ble_eq_true rfl) ((el_M (show ay_sh 30 = _ from rfl)).trans (by rw [pf_M_wanted])) wI_o ?_
  obtain ⟨w2, ew2⟩ : ∃ z, z = wI w1 30 18 a0 := ⟨_, rfl⟩
  rw [← ew2]
  have h := h w2 ew2
  refine am_aload_n d_M_begins_10 0 rfl ?_
  refine am_bipush (v := -2) d_M_begins_11 rfl ?_
  refine am_putf (w' := wI w2 30 19 (-2 : Int32)) (ty := .int) (T := F_M) (fs := ob_M g w2 30) (C := R_M) (N := 35) (ci := 10) 19 d_M_begins_13 wd_1096 rfl (by decide) (el_M (show ay_sh 30 = _ from rfl)) rfl i_M (by decide) G_M ty_M n_M rfl (ty_M 19 (by decide)) rfl rfl (Nat.le_of_ble_eq_true rfl) ((el_M (show ay_sh 30 = _ from rfl)).trans (by rw [pf_M_found])) wI_o ?_
  obtain ⟨w3, ew3⟩ : ∃ z, z = wI w2 30 19 (-2 : Int32) := ⟨_, rfl⟩
  rw [← ew3]
  have h := h w3 ew3
  exact am_return d_M_begins_16 rfl (hQ w3 h)
theorem d_M_spellByte_0 : decode prog_14_method_84_code 0 = .ok (.aload_n 0, 1) := by decide +kernel
theorem d_M_spellByte_1 : decode prog_14_method_84_code 1 = .ok (.getfield 268, 3) := by decide +kernel
theorem d_M_spellByte_4 : decode prog_14_method_84_code 4 = .ok (.aload_n 0, 1) := by decide +kernel
theorem d_M_spellByte_5 : decode prog_14_method_84_code 5 = .ok (.getfield 271, 3) := by decide +kernel
theorem d_M_spellByte_8 : decode prog_14_method_84_code 8 = .ok (.if_icmp .ne 8, 3) := by decide +kernel
theorem d_M_spellByte_11 : decode prog_14_method_84_code 11 = .ok (.aload_n 0, 1) := by decide +kernel
theorem d_M_spellByte_12 : decode prog_14_method_84_code 12 = .ok (.iload_n 1, 1) := by decide +kernel
theorem d_M_spellByte_13 : decode prog_14_method_84_code 13 = .ok (.putfield 274, 3) := by decide +kernel
theorem d_M_spellByte_16 : decode prog_14_method_84_code 16 = .ok (.aload_n 0, 1) := by decide +kernel
theorem d_M_spellByte_17 : decode prog_14_method_84_code 17 = .ok (.dup, 1) := by decide +kernel
theorem d_M_spellByte_18 : decode prog_14_method_84_code 18 = .ok (.getfield 268, 3) := by decide +kernel
theorem d_M_spellByte_21 : decode prog_14_method_84_code 21 = .ok (.iconst 1, 1) := by decide +kernel
theorem d_M_spellByte_22 : decode prog_14_method_84_code 22 = .ok (.iadd, 1) := by decide +kernel
theorem d_M_spellByte_23 : decode prog_14_method_84_code 23 = .ok (.putfield 268, 3) := by decide +kernel
theorem d_M_spellByte_26 : decode prog_14_method_84_code 26 = .ok (.return_, 1) := by decide +kernel
def cf_M_spellByte (a0 : Int32) (w : Wd) (P : Wd → Prop) : Prop :=
  ((¬ (w.1 30 17) = (w.1 30 18) → ∀ w1, w1 = wI w 30 17 ((w.1 30 17) + (1 : Int32)) → P w1) ∧ ((w.1 30 17) = (w.1 30 18) → ∀ w2, w2 = wI w 30 19 a0 → ∀ w3, w3 = wI w2 30 17 ((w2.1 30 17) + (1 : Int32)) → P w3))
theorem cf_M_spellByte_ok {g : ayG} {d : Nat} (hd : 0 ≤ d) (a0 : Int32)  (w : Wd) (P : Wd → Prop) (h : cf_M_spellByte a0 w P) : Call g y_M_spellByte prog_14_method_84_code 2 none d [.ref (g.1 + 30), .int a0] w (fun (r : Option Value) (w2 : Wd) => r = none ∧ P w2) := by
  unfold cf_M_spellByte at h
  refine am_enter mi_M_spellByte (Nat.le_of_ble_eq_true rfl) ?_
  have hQ : ∀ w2, P w2 → (fun (r : Option Value) (w2 : Wd) => r = none ∧ P w2) none w2 := fun w2 h => ⟨rfl, h⟩
  generalize (fun (r : Option Value) (w2 : Wd) => r = none ∧ P w2) = Q at hQ ⊢
  show wp g (fun _ => True) y_M_spellByte prog_14_method_84_code 2 none d 0 [(0, .ref (g.1 + 30)), (1, .int a0)] [] w Q
  refine am_aload_n d_M_spellByte_0 0 rfl ?_
  refine am_getf (T := F_M) (fs := ob_M g w 30) (C := R_M) (N := 35) (ci := 10) 17 d_M_spellByte_1 wd_1094 rfl (by decide) (el_M (show ay_sh 30 = _ from rfl)) rfl i_M (by decide) rfl ?_
  refine am_aload_n d_M_spellByte_4 0 rfl ?_
  refine am_getf (T := F_M) (fs := ob_M g w 30) (C := R_M) (N := 35) (ci := 10) 18 d_M_spellByte_5 wd_1095 rfl (by decide) (el_M (show ay_sh 30 = _ from rfl)) rfl i_M (by decide) rfl ?_
  refine am_icmp_ne (tgt := 16) d_M_spellByte_8 (by decide) (fun c8 => ?_) (fun c8 => ?_)
  · have h := h.1 c8
    refine am_aload_n d_M_spellByte_16 0 rfl ?_
    refine am_dup d_M_spellByte_17 rfl ?_
    refine am_getf (T := F_M) (fs := ob_M g w 30) (C := R_M) (N := 35) (ci := 10) 17 d_M_spellByte_18 wd_1094 rfl (by decide) (el_M (show ay_sh 30 = _ from rfl)) rfl i_M (by decide) rfl ?_
    refine am_iconst (v := 1) d_M_spellByte_21 rfl ?_
    refine am_iadd d_M_spellByte_22 ?_
    refine am_putf (w' := wI w 30 17 ((w.1 30 17) + (1 : Int32))) (ty := .int) (T := F_M) (fs := ob_M g w 30) (C := R_M) (N := 35) (ci := 10) 17 d_M_spellByte_23 wd_1094 rfl (by decide) (el_M (show ay_sh 30 = _ from rfl)) rfl i_M (by decide) G_M ty_M n_M rfl (ty_M 17 (by decide)) rfl rfl (Nat.le_of_ble_eq_true rfl) ((el_M (show ay_sh 30 = _ from rfl)).trans (by rw [pf_M_spelt])) wI_o ?_
    obtain ⟨w1, ew1⟩ : ∃ z, z = wI w 30 17 ((w.1 30 17) + (1 : Int32)) := ⟨_, rfl⟩
    rw [← ew1]
    have h := h w1 ew1
    exact am_return d_M_spellByte_26 rfl (hQ w1 h)
  · have h := h.2 c8
    refine am_aload_n d_M_spellByte_11 0 rfl ?_
    refine am_iload_n d_M_spellByte_12 1 rfl ?_
    refine am_putf (w' := wI w 30 19 a0) (ty := .int) (T := F_M) (fs := ob_M g w 30) (C := R_M) (N := 35) (ci := 10) 19 d_M_spellByte_13 wd_1096 rfl (by decide) (el_M (show ay_sh 30 = _ from rfl)) rfl i_M (by decide) G_M ty_M n_M rfl (ty_M 19 (by decide)) rfl rfl (Nat.le_of_ble_eq_true rfl) ((el_M (show ay_sh 30 = _ from rfl)).trans (by rw [pf_M_found])) wI_o ?_
    obtain ⟨w2, ew2⟩ : ∃ z, z = wI w 30 19 a0 := ⟨_, rfl⟩
    rw [← ew2]
    have h := h w2 ew2
    refine am_aload_n d_M_spellByte_16 0 rfl ?_
    refine am_dup d_M_spellByte_17 rfl ?_
    refine am_getf (T := F_M) (fs := ob_M g w2 30) (C := R_M) (N := 35) (ci := 10) 17 d_M_spellByte_18 wd_1094 rfl (by decide) (el_M (show ay_sh 30 = _ from rfl)) rfl i_M (by decide) rfl ?_
    refine am_iconst (v := 1) d_M_spellByte_21 rfl ?_
    refine am_iadd d_M_spellByte_22 ?_
    refine am_putf (w' := wI w2 30 17 ((w2.1 30 17) + (1 : Int32))) (ty := .int) (T := F_M) (fs := ob_M g w2 30) (C := R_M) (N := 35) (ci := 10) 17 d_M_spellByte_23 wd_1094 rfl (by decide) (el_M (show ay_sh 30 = _ from rfl)) rfl i_M (by decide) G_M ty_M n_M rfl (ty_M 17 (by decide)) rfl rfl (Nat.le_of_ble_eq_true rfl) ((el_M (show ay_sh 30 = _ from rfl)).trans (by rw [pf_M_spelt])) wI_o ?_
    obtain ⟨w3, ew3⟩ : ∃ z, z = wI w2 30 17 ((w2.1 30 17) + (1 : Int32)) := ⟨_, rfl⟩
    rw [← ew3]
    have h := h w3 ew3
    exact am_return d_M_spellByte_26 rfl (hQ w3 h)
theorem d_M_spellNumber_0 : decode prog_14_method_85_code 0 = .ok (.iload_n 1, 1) := by decide +kernel
theorem d_M_spellNumber_1 : decode prog_14_method_85_code 1 = .ok (.bipush 9, 2) := by decide +kernel
theorem d_M_spellNumber_3 : decode prog_14_method_85_code 3 = .ok (.if_icmp .le 11, 3) := by decide +kernel
theorem d_M_spellNumber_6 : decode prog_14_method_85_code 6 = .ok (.aload_n 0, 1) := by decide +kernel
theorem d_M_spellNumber_7 : decode prog_14_method_85_code 7 = .ok (.iload_n 1, 1) := by decide +kernel
theorem d_M_spellNumber_8 : decode prog_14_method_85_code 8 = .ok (.bipush 10, 2) := by decide +kernel
theorem d_M_spellNumber_10 : decode prog_14_method_85_code 10 = .ok (.idiv, 1) := by decide +kernel
theorem d_M_spellNumber_11 : decode prog_14_method_85_code 11 = .ok (.invokevirtual 277, 3) := by decide +kernel
theorem d_M_spellNumber_14 : decode prog_14_method_85_code 14 = .ok (.aload_n 0, 1) := by decide +kernel
theorem d_M_spellNumber_15 : decode prog_14_method_85_code 15 = .ok (.bipush 48, 2) := by decide +kernel
theorem d_M_spellNumber_17 : decode prog_14_method_85_code 17 = .ok (.iload_n 1, 1) := by decide +kernel
theorem d_M_spellNumber_18 : decode prog_14_method_85_code 18 = .ok (.bipush 10, 2) := by decide +kernel
theorem d_M_spellNumber_20 : decode prog_14_method_85_code 20 = .ok (.irem, 1) := by decide +kernel
theorem d_M_spellNumber_21 : decode prog_14_method_85_code 21 = .ok (.iadd, 1) := by decide +kernel
theorem d_M_spellNumber_22 : decode prog_14_method_85_code 22 = .ok (.invokevirtual 281, 3) := by decide +kernel
theorem d_M_spellNumber_25 : decode prog_14_method_85_code 25 = .ok (.return_, 1) := by decide +kernel
def cf_M_spellNumber_E (NR : Int32 → Wd → (Wd → Prop) → Prop) (a0 : Int32) (w : Wd) (P : Wd → Prop) : Prop :=
  ((a0 ≤ (9 : Int32) → cf_M_spellByte ((48 : Int32) + (irem a0 (10 : Int32))) w (fun w1 => P w1)) ∧ (¬ a0 ≤ (9 : Int32) → NR (a0 / (10 : Int32)) w (fun w2 => cf_M_spellByte ((48 : Int32) + (irem a0 (10 : Int32))) w2 (fun w3 => P w3))))
def cf_M_spellNumber : Nat → Int32 → Wd → (Wd → Prop) → Prop
  | 0 => fun a0 w P => False
  | n + 1 => fun a0 w P => cf_M_spellNumber_E (cf_M_spellNumber n) a0 w P
theorem cf_M_spellNumber_ok {g : ayG} : ∀ (n d : Nat) (hd : 1 * n + 1 ≤ d) (a0 : Int32)  (w : Wd) (P : Wd → Prop) (h : cf_M_spellNumber n a0 w P), Call g y_M_spellNumber prog_14_method_85_code 2 none d [.ref (g.1 + 30), .int a0] w (fun (r : Option Value) (w2 : Wd) => r = none ∧ P w2)
  | 0, d, hd, a0, w, P, h => False.elim h
  | n + 1, d, hd, a0, w, P, h => by
    have h : cf_M_spellNumber_E (cf_M_spellNumber n) a0 w P := h
    have hNR : ∀ (d2 : Nat) (hd2 : 1 * n + 1 ≤ d2) (a0 : Int32)  (w : Wd) (P : Wd → Prop) (h : (cf_M_spellNumber n) a0 w P), Call g y_M_spellNumber prog_14_method_85_code 2 none d2 [.ref (g.1 + 30), .int a0] w (fun (r : Option Value) (w2 : Wd) => r = none ∧ P w2) := fun  d2 hd2 => cf_M_spellNumber_ok n d2 hd2 
    generalize cf_M_spellNumber n = NR at h hNR
    unfold cf_M_spellNumber_E at h
    refine am_enter mi_M_spellNumber (Nat.le_of_ble_eq_true rfl) ?_
    have hQ : ∀ w2, P w2 → (fun (r : Option Value) (w2 : Wd) => r = none ∧ P w2) none w2 := fun w2 h => ⟨rfl, h⟩
    generalize (fun (r : Option Value) (w2 : Wd) => r = none ∧ P w2) = Q at hQ ⊢
    show wp g (fun _ => True) y_M_spellNumber prog_14_method_85_code 2 none d 0 [(0, .ref (g.1 + 30)), (1, .int a0)] [] w Q
    refine am_iload_n d_M_spellNumber_0 1 rfl ?_
    refine am_bipush (v := 9) d_M_spellNumber_1 rfl ?_
    refine am_icmp_le (tgt := 14) d_M_spellNumber_3 (by decide) (fun c3 => ?_) (fun c3 => ?_)
    · have h := h.1 c3
      refine am_aload_n d_M_spellNumber_14 0 rfl ?_
      refine am_bipush (v := 48) d_M_spellNumber_15 rfl ?_
      refine am_iload_n d_M_spellNumber_17 1 rfl ?_
      refine am_bipush (v := 10) d_M_spellNumber_18 rfl ?_
      refine am_irem d_M_spellNumber_20 (by decide) ?_
      refine am_iadd d_M_spellNumber_21 ?_
      refine am_callV (C := y_M_spellByte.cls) (d2 := d - 1) [.int ((48 : Int32) + (irem a0 (10 : Int32)))] d_M_spellNumber_22 mi_M_spellByte wd_1508 wd_1510 ws_M_spellByte (by decide) (el_M (show ay_sh 30 = _ from rfl)) rfl rfl (by omega) rfl rfl (Nat.le_of_ble_eq_true rfl) ?_
      refine Call.post ?_ (cf_M_spellByte_ok (by omega) ((48 : Int32) + (irem a0 (10 : Int32)))  w _ h)
      rintro _ w1 ⟨rfl, h⟩
      show wp g (fun _ => True) y_M_spellNumber prog_14_method_85_code 2 none d 25 [(0, .ref (g.1 + 30)), (1, .int a0)] [] w1 Q
      exact am_return d_M_spellNumber_25 rfl (hQ w1 h)
    · have h := h.2 c3
      refine am_aload_n d_M_spellNumber_6 0 rfl ?_
      refine am_iload_n d_M_spellNumber_7 1 rfl ?_
      refine am_bipush (v := 10) d_M_spellNumber_8 rfl ?_
      refine am_idiv d_M_spellNumber_10 (by decide) ?_
      refine am_callV (C := y_M_spellNumber.cls) (d2 := d - 1) [.int (a0 / (10 : Int32))] d_M_spellNumber_11 mi_M_spellNumber wd_1516 wd_1518 ws_M_spellNumber (by decide) (el_M (show ay_sh 30 = _ from rfl)) rfl rfl (by omega) rfl rfl (Nat.le_of_ble_eq_true rfl) ?_
      refine Call.post ?_ (hNR (d - 1) (by omega) (a0 / (10 : Int32))  w _ h)
      rintro _ w2 ⟨rfl, h⟩
      show wp g (fun _ => True) y_M_spellNumber prog_14_method_85_code 2 none d 14 [(0, .ref (g.1 + 30)), (1, .int a0)] [] w2 Q
      refine am_aload_n d_M_spellNumber_14 0 rfl ?_
      refine am_bipush (v := 48) d_M_spellNumber_15 rfl ?_
      refine am_iload_n d_M_spellNumber_17 1 rfl ?_
      refine am_bipush (v := 10) d_M_spellNumber_18 rfl ?_
      refine am_irem d_M_spellNumber_20 (by decide) ?_
      refine am_iadd d_M_spellNumber_21 ?_
      refine am_callV (C := y_M_spellByte.cls) (d2 := d - 1) [.int ((48 : Int32) + (irem a0 (10 : Int32)))] d_M_spellNumber_22 mi_M_spellByte wd_1508 wd_1510 ws_M_spellByte (by decide) (el_M (show ay_sh 30 = _ from rfl)) rfl rfl (by omega) rfl rfl (Nat.le_of_ble_eq_true rfl) ?_
      refine Call.post ?_ (cf_M_spellByte_ok (by omega) ((48 : Int32) + (irem a0 (10 : Int32)))  w2 _ h)
      rintro _ w3 ⟨rfl, h⟩
      show wp g (fun _ => True) y_M_spellNumber prog_14_method_85_code 2 none d 25 [(0, .ref (g.1 + 30)), (1, .int a0)] [] w3 Q
      exact am_return d_M_spellNumber_25 rfl (hQ w3 h)
def cf_M_spellNumber_W (a0 : Int32) (w : Wd) (P : Wd → Prop) : Prop := ∃ n, n ≤ 12 ∧ cf_M_spellNumber n a0 w P
theorem cf_M_spellNumber_W_ok {g : ayG} {d : Nat} (hd : 13 ≤ d) (a0 : Int32)  (w : Wd) (P : Wd → Prop) (h : cf_M_spellNumber_W a0 w P) : Call g y_M_spellNumber prog_14_method_85_code 2 none d [.ref (g.1 + 30), .int a0] w (fun (r : Option Value) (w2 : Wd) => r = none ∧ P w2) := by
  obtain ⟨n, hn, h⟩ := h
  exact cf_M_spellNumber_ok n d (by omega) a0  w P h
theorem d_M_spellPower_0 : decode prog_14_method_86_code 0 = .ok (.iload_n 1, 1) := by decide +kernel
theorem d_M_spellPower_1 : decode prog_14_method_86_code 1 = .ok (.ifCond .ne 10, 3) := by decide +kernel
theorem d_M_spellPower_4 : decode prog_14_method_86_code 4 = .ok (.aload_n 0, 1) := by decide +kernel
theorem d_M_spellPower_5 : decode prog_14_method_86_code 5 = .ok (.bipush 49, 2) := by decide +kernel
theorem d_M_spellPower_7 : decode prog_14_method_86_code 7 = .ok (.invokevirtual 281, 3) := by decide +kernel
theorem d_M_spellPower_10 : decode prog_14_method_86_code 10 = .ok (.return_, 1) := by decide +kernel
theorem d_M_spellPower_11 : decode prog_14_method_86_code 11 = .ok (.aload_n 0, 1) := by decide +kernel
theorem d_M_spellPower_12 : decode prog_14_method_86_code 12 = .ok (.bipush 120, 2) := by decide +kernel
theorem d_M_spellPower_14 : decode prog_14_method_86_code 14 = .ok (.invokevirtual 281, 3) := by decide +kernel
theorem d_M_spellPower_17 : decode prog_14_method_86_code 17 = .ok (.iload_n 1, 1) := by decide +kernel
theorem d_M_spellPower_18 : decode prog_14_method_86_code 18 = .ok (.iconst 1, 1) := by decide +kernel
theorem d_M_spellPower_19 : decode prog_14_method_86_code 19 = .ok (.if_icmp .ne 4, 3) := by decide +kernel
theorem d_M_spellPower_22 : decode prog_14_method_86_code 22 = .ok (.return_, 1) := by decide +kernel
theorem d_M_spellPower_23 : decode prog_14_method_86_code 23 = .ok (.aload_n 0, 1) := by decide +kernel
theorem d_M_spellPower_24 : decode prog_14_method_86_code 24 = .ok (.bipush 94, 2) := by decide +kernel
theorem d_M_spellPower_26 : decode prog_14_method_86_code 26 = .ok (.invokevirtual 281, 3) := by decide +kernel
theorem d_M_spellPower_29 : decode prog_14_method_86_code 29 = .ok (.aload_n 0, 1) := by decide +kernel
theorem d_M_spellPower_30 : decode prog_14_method_86_code 30 = .ok (.iload_n 1, 1) := by decide +kernel
theorem d_M_spellPower_31 : decode prog_14_method_86_code 31 = .ok (.invokevirtual 277, 3) := by decide +kernel
theorem d_M_spellPower_34 : decode prog_14_method_86_code 34 = .ok (.return_, 1) := by decide +kernel
def cf_M_spellPower (a0 : Int32) (w : Wd) (P : Wd → Prop) : Prop :=
  ((¬ a0 = 0 → cf_M_spellByte (120 : Int32) w (fun w1 => ((¬ a0 = (1 : Int32) → cf_M_spellByte (94 : Int32) w1 (fun w2 => cf_M_spellNumber_W a0 w2 (fun w3 => P w3))) ∧ (a0 = (1 : Int32) → P w1)))) ∧ (a0 = 0 → cf_M_spellByte (49 : Int32) w (fun w4 => P w4)))
theorem cf_M_spellPower_ok {g : ayG} {d : Nat} (hd : 14 ≤ d) (a0 : Int32)  (w : Wd) (P : Wd → Prop) (h : cf_M_spellPower a0 w P) : Call g y_M_spellPower prog_14_method_86_code 2 none d [.ref (g.1 + 30), .int a0] w (fun (r : Option Value) (w2 : Wd) => r = none ∧ P w2) := by
  unfold cf_M_spellPower at h
  refine am_enter mi_M_spellPower (Nat.le_of_ble_eq_true rfl) ?_
  have hQ : ∀ w2, P w2 → (fun (r : Option Value) (w2 : Wd) => r = none ∧ P w2) none w2 := fun w2 h => ⟨rfl, h⟩
  generalize (fun (r : Option Value) (w2 : Wd) => r = none ∧ P w2) = Q at hQ ⊢
  show wp g (fun _ => True) y_M_spellPower prog_14_method_86_code 2 none d 0 [(0, .ref (g.1 + 30)), (1, .int a0)] [] w Q
  refine am_iload_n d_M_spellPower_0 1 rfl ?_
  refine am_if_ne (tgt := 11) d_M_spellPower_1 (by decide) (fun c1 => ?_) (fun c1 => ?_)
  · have h := h.1 c1
    refine am_aload_n d_M_spellPower_11 0 rfl ?_
    refine am_bipush (v := 120) d_M_spellPower_12 rfl ?_
    refine am_callV (C := y_M_spellByte.cls) (d2 := d - 1) [.int (120 : Int32)] d_M_spellPower_14 mi_M_spellByte wd_1508 wd_1510 ws_M_spellByte (by decide) (el_M (show ay_sh 30 = _ from rfl)) rfl rfl (by omega) rfl rfl (Nat.le_of_ble_eq_true rfl) ?_
    refine Call.post ?_ (cf_M_spellByte_ok (by omega) (120 : Int32)  w _ h)
    rintro _ w1 ⟨rfl, h⟩
    show wp g (fun _ => True) y_M_spellPower prog_14_method_86_code 2 none d 17 [(0, .ref (g.1 + 30)), (1, .int a0)] [] w1 Q
    refine am_iload_n d_M_spellPower_17 1 rfl ?_
    refine am_iconst (v := 1) d_M_spellPower_18 rfl ?_
    refine am_icmp_ne (tgt := 23) d_M_spellPower_19 (by decide) (fun c19 => ?_) (fun c19 => ?_)
    · have h := h.1 c19
      refine am_aload_n d_M_spellPower_23 0 rfl ?_
      refine am_bipush (v := 94) d_M_spellPower_24 rfl ?_
      refine am_callV (C := y_M_spellByte.cls) (d2 := d - 1) [.int (94 : Int32)] d_M_spellPower_26 mi_M_spellByte wd_1508 wd_1510 ws_M_spellByte (by decide) (el_M (show ay_sh 30 = _ from rfl)) rfl rfl (by omega) rfl rfl (Nat.le_of_ble_eq_true rfl) ?_
      refine Call.post ?_ (cf_M_spellByte_ok (by omega) (94 : Int32)  w1 _ h)
      rintro _ w2 ⟨rfl, h⟩
      show wp g (fun _ => True) y_M_spellPower prog_14_method_86_code 2 none d 29 [(0, .ref (g.1 + 30)), (1, .int a0)] [] w2 Q
      refine am_aload_n d_M_spellPower_29 0 rfl ?_
      refine am_iload_n d_M_spellPower_30 1 rfl ?_
      refine am_callV (C := y_M_spellNumber.cls) (d2 := d - 1) [.int a0] d_M_spellPower_31 mi_M_spellNumber wd_1516 wd_1518 ws_M_spellNumber (by decide) (el_M (show ay_sh 30 = _ from rfl)) rfl rfl (by omega) rfl rfl (Nat.le_of_ble_eq_true rfl) ?_
      refine Call.post ?_ (cf_M_spellNumber_W_ok (by omega) a0  w2 _ h)
      rintro _ w3 ⟨rfl, h⟩
      show wp g (fun _ => True) y_M_spellPower prog_14_method_86_code 2 none d 34 [(0, .ref (g.1 + 30)), (1, .int a0)] [] w3 Q
      exact am_return d_M_spellPower_34 rfl (hQ w3 h)
    · have h := h.2 c19
      exact am_return d_M_spellPower_22 rfl (hQ w1 h)
  · have h := h.2 c1
    refine am_aload_n d_M_spellPower_4 0 rfl ?_
    refine am_bipush (v := 49) d_M_spellPower_5 rfl ?_
    refine am_callV (C := y_M_spellByte.cls) (d2 := d - 1) [.int (49 : Int32)] d_M_spellPower_7 mi_M_spellByte wd_1508 wd_1510 ws_M_spellByte (by decide) (el_M (show ay_sh 30 = _ from rfl)) rfl rfl (by omega) rfl rfl (Nat.le_of_ble_eq_true rfl) ?_
    refine Call.post ?_ (cf_M_spellByte_ok (by omega) (49 : Int32)  w _ h)
    rintro _ w4 ⟨rfl, h⟩
    show wp g (fun _ => True) y_M_spellPower prog_14_method_86_code 2 none d 10 [(0, .ref (g.1 + 30)), (1, .int a0)] [] w4 Q
    exact am_return d_M_spellPower_10 rfl (hQ w4 h)
theorem d_M_spellPoly_0 : decode prog_14_method_87_code 0 = .ok (.lload_n 1, 1) := by decide +kernel
theorem d_M_spellPoly_1 : decode prog_14_method_87_code 1 = .ok (.lconst 0, 1) := by decide +kernel
theorem d_M_spellPoly_2 : decode prog_14_method_87_code 2 = .ok (.lcmp, 1) := by decide +kernel
theorem d_M_spellPoly_3 : decode prog_14_method_87_code 3 = .ok (.ifCond .ne 9, 3) := by decide +kernel
theorem d_M_spellPoly_6 : decode prog_14_method_87_code 6 = .ok (.aload_n 0, 1) := by decide +kernel
theorem d_M_spellPoly_7 : decode prog_14_method_87_code 7 = .ok (.bipush 48, 2) := by decide +kernel
theorem d_M_spellPoly_9 : decode prog_14_method_87_code 9 = .ok (.invokevirtual 281, 3) := by decide +kernel
theorem d_M_spellPoly_12 : decode prog_14_method_87_code 12 = .ok (.lload_n 1, 1) := by decide +kernel
theorem d_M_spellPoly_13 : decode prog_14_method_87_code 13 = .ok (.invokestatic 84, 3) := by decide +kernel
theorem d_M_spellPoly_16 : decode prog_14_method_87_code 16 = .ok (.istore_n 3, 1) := by decide +kernel
theorem d_M_spellPoly_17 : decode prog_14_method_87_code 17 = .ok (.iload_n 3, 1) := by decide +kernel
theorem d_M_spellPoly_18 : decode prog_14_method_87_code 18 = .ok (.ifCond .lt 39, 3) := by decide +kernel
theorem d_M_spellPoly_21 : decode prog_14_method_87_code 21 = .ok (.lload_n 1, 1) := by decide +kernel
theorem d_M_spellPoly_22 : decode prog_14_method_87_code 22 = .ok (.iload_n 3, 1) := by decide +kernel
theorem d_M_spellPoly_23 : decode prog_14_method_87_code 23 = .ok (.invokestatic 80, 3) := by decide +kernel
theorem d_M_spellPoly_26 : decode prog_14_method_87_code 26 = .ok (.ifCond .ne 6, 3) := by decide +kernel
theorem d_M_spellPoly_29 : decode prog_14_method_87_code 29 = .ok (.goto 22, 3) := by decide +kernel
theorem d_M_spellPoly_32 : decode prog_14_method_87_code 32 = .ok (.iload_n 3, 1) := by decide +kernel
theorem d_M_spellPoly_33 : decode prog_14_method_87_code 33 = .ok (.lload_n 1, 1) := by decide +kernel
theorem d_M_spellPoly_34 : decode prog_14_method_87_code 34 = .ok (.invokestatic 84, 3) := by decide +kernel
theorem d_M_spellPoly_37 : decode prog_14_method_87_code 37 = .ok (.if_icmp .ge 9, 3) := by decide +kernel
theorem d_M_spellPoly_40 : decode prog_14_method_87_code 40 = .ok (.aload_n 0, 1) := by decide +kernel
theorem d_M_spellPoly_41 : decode prog_14_method_87_code 41 = .ok (.bipush 43, 2) := by decide +kernel
theorem d_M_spellPoly_43 : decode prog_14_method_87_code 43 = .ok (.invokevirtual 281, 3) := by decide +kernel
theorem d_M_spellPoly_46 : decode prog_14_method_87_code 46 = .ok (.aload_n 0, 1) := by decide +kernel
theorem d_M_spellPoly_47 : decode prog_14_method_87_code 47 = .ok (.iload_n 3, 1) := by decide +kernel
theorem d_M_spellPoly_48 : decode prog_14_method_87_code 48 = .ok (.invokevirtual 284, 3) := by decide +kernel
theorem d_M_spellPoly_51 : decode prog_14_method_87_code 51 = .ok (.iinc 3 (-1), 3) := by decide +kernel
theorem d_M_spellPoly_54 : decode prog_14_method_87_code 54 = .ok (.goto (-37), 3) := by decide +kernel
theorem d_M_spellPoly_57 : decode prog_14_method_87_code 57 = .ok (.return_, 1) := by decide +kernel
def cf_M_spellPoly_B17  (K17 : Int64 → Int32 → Wd → Prop) (P : Wd → Prop) (x1 : Int64) (x3 : Int32) (w : Wd) : Prop :=
  ((x3 < 0 → P w) ∧ (¬ x3 < 0 → cf_M_has x1 x3 (fun r2 => ((¬ r2 = 0 → cf_M_degree x1 (fun r3 => ((r3 ≤ x3 → cf_M_spellPower x3 w (fun w4 => ∀ v5, v5 = x3 + (-1 : Int32) → K17 x1 v5 w4)) ∧ (¬ r3 ≤ x3 → cf_M_spellByte (43 : Int32) w (fun w6 => cf_M_spellPower x3 w6 (fun w7 => ∀ v8, v8 = x3 + (-1 : Int32) → K17 x1 v8 w7)))))) ∧ (r2 = 0 → ∀ v9, v9 = x3 + (-1 : Int32) → K17 x1 v9 w)))))
def cf_M_spellPoly_L17   (P : Wd → Prop) : Nat → Int64 → Int32 → Wd → Prop
  | 0 => fun x1 x3 w => False
  | n + 1 => fun x1 x3 w => cf_M_spellPoly_B17 (cf_M_spellPoly_L17 P n) P x1 x3 w
def cf_M_spellPoly (a0 : Int64) (w : Wd) (P : Wd → Prop) : Prop :=
  ((¬ a0 = (0 : Int64) → cf_M_degree a0 (fun r1 => ∃ n, cf_M_spellPoly_L17 P n a0 r1 w)) ∧ (a0 = (0 : Int64) → cf_M_spellByte (48 : Int32) w (fun w10 => cf_M_degree a0 (fun r11 => ∃ n, cf_M_spellPoly_L17 P n a0 r11 w10))))
theorem cf_M_spellPoly_B17_ok {g : ayG} {d : Nat} (hd : 15 ≤ d)   (w : Wd) (K17 : Int64 → Int32 → Wd → Prop) (P : Wd → Prop) (Q : Option Value → Wd → Prop) (hQ : ∀ w2, P w2 → Q none w2) (hK17 : ∀ (x1 : Int64) (x3 : Int32) (w : Wd), (K17 x1 x3 w → wp g (fun _ => True) y_M_spellPoly prog_14_method_87_code 4 none d 17 [(0, .ref (g.1 + 30)), (1, .long x1), (3, .int x3)] [] w Q)) (x1 : Int64) (x3 : Int32) (h : cf_M_spellPoly_B17 K17 P x1 x3 w) : wp g (fun _ => True) y_M_spellPoly prog_14_method_87_code 4 none d 17 [(0, .ref (g.1 + 30)), (1, .long x1), (3, .int x3)] [] w Q := by
  unfold cf_M_spellPoly_B17 at h
  refine am_iload_n d_M_spellPoly_17 2 rfl ?_
  refine am_if_lt (tgt := 57) d_M_spellPoly_18 (by decide) (fun c18 => ?_) (fun c18 => ?_)
  · have h := h.1 c18
    exact am_return d_M_spellPoly_57 rfl (hQ w h)
  · have h := h.2 c18
    refine am_lload_n d_M_spellPoly_21 1 rfl ?_
    refine am_iload_n d_M_spellPoly_22 2 rfl ?_
    refine am_callS (d2 := d - 1) [.long x1, .int x3] d_M_spellPoly_23 mi_M_has wd_1212 wd_1213 (by omega) rfl rfl (Nat.le_of_ble_eq_true rfl) ?_
    refine Call.post ?_ (cf_M_has_ok (by omega) x1 x3  w _ h)
    rintro _ _ ⟨r2, rfl, rfl, h⟩
    show wp g (fun _ => True) y_M_spellPoly prog_14_method_87_code 4 none d 26 [(0, .ref (g.1 + 30)), (1, .long x1), (3, .int x3)] [.int r2] w Q
    refine am_if_ne (tgt := 32) d_M_spellPoly_26 (by decide) (fun c26 => ?_) (fun c26 => ?_)
    · have h := h.1 c26
      refine am_iload_n d_M_spellPoly_32 2 rfl ?_
      refine am_lload_n d_M_spellPoly_33 1 rfl ?_
      refine am_callS (d2 := d - 1) [.long x1] d_M_spellPoly_34 mi_M_degree wd_1206 wd_1207 (by omega) rfl rfl (Nat.le_of_ble_eq_true rfl) ?_
      refine Call.post ?_ (cf_M_degree_ok (by omega) x1  w _ h)
      rintro _ _ ⟨r3, rfl, rfl, h⟩
      show wp g (fun _ => True) y_M_spellPoly prog_14_method_87_code 4 none d 37 [(0, .ref (g.1 + 30)), (1, .long x1), (3, .int x3)] [.int r3, .int x3] w Q
      refine am_icmp_ge (tgt := 46) d_M_spellPoly_37 (by decide) (fun c37 => ?_) (fun c37 => ?_)
      · have h := h.1 c37
        refine am_aload_n d_M_spellPoly_46 0 rfl ?_
        refine am_iload_n d_M_spellPoly_47 2 rfl ?_
        refine am_callV (C := y_M_spellPower.cls) (d2 := d - 1) [.int x3] d_M_spellPoly_48 mi_M_spellPower wd_1512 wd_1514 ws_M_spellPower (by decide) (el_M (show ay_sh 30 = _ from rfl)) rfl rfl (by omega) rfl rfl (Nat.le_of_ble_eq_true rfl) ?_
        refine Call.post ?_ (cf_M_spellPower_ok (by omega) x3  w _ h)
        rintro _ w4 ⟨rfl, h⟩
        show wp g (fun _ => True) y_M_spellPoly prog_14_method_87_code 4 none d 51 [(0, .ref (g.1 + 30)), (1, .long x1), (3, .int x3)] [] w4 Q
        obtain ⟨v5, ev5⟩ : ∃ z : Int32, z = x3 + (-1 : Int32) := ⟨_, rfl⟩
        have h := h v5 ev5
        refine am_iinc (v := v5) (l' := [(3, .int v5), (0, .ref (g.1 + 30)), (1, .long x1)]) d_M_spellPoly_51 2 rfl (by rw [ev5]; rfl) (by decide) rfl ?_
        refine am_goto (tgt := 17) d_M_spellPoly_54 (by decide) ?_
        refine am_sub [1, 2, 0] rfl ?_
        exact hK17 x1 v5 w4 h
      · have h := h.2 c37
        refine am_aload_n d_M_spellPoly_40 0 rfl ?_
        refine am_bipush (v := 43) d_M_spellPoly_41 rfl ?_
        refine am_callV (C := y_M_spellByte.cls) (d2 := d - 1) [.int (43 : Int32)] d_M_spellPoly_43 mi_M_spellByte wd_1508 wd_1510 ws_M_spellByte (by decide) (el_M (show ay_sh 30 = _ from rfl)) rfl rfl (by omega) rfl rfl (Nat.le_of_ble_eq_true rfl) ?_
        refine Call.post ?_ (cf_M_spellByte_ok (by omega) (43 : Int32)  w _ h)
        rintro _ w6 ⟨rfl, h⟩
        show wp g (fun _ => True) y_M_spellPoly prog_14_method_87_code 4 none d 46 [(0, .ref (g.1 + 30)), (1, .long x1), (3, .int x3)] [] w6 Q
        refine am_aload_n d_M_spellPoly_46 0 rfl ?_
        refine am_iload_n d_M_spellPoly_47 2 rfl ?_
        refine am_callV (C := y_M_spellPower.cls) (d2 := d - 1) [.int x3] d_M_spellPoly_48 mi_M_spellPower wd_1512 wd_1514 ws_M_spellPower (by decide) (el_M (show ay_sh 30 = _ from rfl)) rfl rfl (by omega) rfl rfl (Nat.le_of_ble_eq_true rfl) ?_
        refine Call.post ?_ (cf_M_spellPower_ok (by omega) x3  w6 _ h)
        rintro _ w7 ⟨rfl, h⟩
        show wp g (fun _ => True) y_M_spellPoly prog_14_method_87_code 4 none d 51 [(0, .ref (g.1 + 30)), (1, .long x1), (3, .int x3)] [] w7 Q
        obtain ⟨v8, ev8⟩ : ∃ z : Int32, z = x3 + (-1 : Int32) := ⟨_, rfl⟩
        have h := h v8 ev8
        refine am_iinc (v := v8) (l' := [(3, .int v8), (0, .ref (g.1 + 30)), (1, .long x1)]) d_M_spellPoly_51 2 rfl (by rw [ev8]; rfl) (by decide) rfl ?_
        refine am_goto (tgt := 17) d_M_spellPoly_54 (by decide) ?_
        refine am_sub [1, 2, 0] rfl ?_
        exact hK17 x1 v8 w7 h
    · have h := h.2 c26
      refine am_goto (tgt := 51) d_M_spellPoly_29 (by decide) ?_
      obtain ⟨v9, ev9⟩ : ∃ z : Int32, z = x3 + (-1 : Int32) := ⟨_, rfl⟩
      have h := h v9 ev9
      refine am_iinc (v := v9) (l' := [(3, .int v9), (0, .ref (g.1 + 30)), (1, .long x1)]) d_M_spellPoly_51 2 rfl (by rw [ev9]; rfl) (by decide) rfl ?_
      refine am_goto (tgt := 17) d_M_spellPoly_54 (by decide) ?_
      refine am_sub [1, 2, 0] rfl ?_
      exact hK17 x1 v9 w h
theorem cf_M_spellPoly_L17_ok {g : ayG} {d : Nat} (hd : 15 ≤ d)    (P : Wd → Prop) (Q : Option Value → Wd → Prop) (hQ : ∀ w2, P w2 → Q none w2)  : ∀ (n : Nat) (x1 : Int64) (x3 : Int32) (w : Wd) (h : cf_M_spellPoly_L17 P n x1 x3 w), wp g (fun _ => True) y_M_spellPoly prog_14_method_87_code 4 none d 17 [(0, .ref (g.1 + 30)), (1, .long x1), (3, .int x3)] [] w Q
  | 0, x1, x3, w, h => False.elim h
  | n + 1, x1, x3, w, h => cf_M_spellPoly_B17_ok hd   w (cf_M_spellPoly_L17 P n) P Q hQ (fun x1 x3 w h => cf_M_spellPoly_L17_ok hd    P Q hQ  n x1 x3 w h) x1 x3 h
theorem cf_M_spellPoly_ok {g : ayG} {d : Nat} (hd : 15 ≤ d) (a0 : Int64)  (w : Wd) (P : Wd → Prop) (h : cf_M_spellPoly a0 w P) : Call g y_M_spellPoly prog_14_method_87_code 4 none d [.ref (g.1 + 30), .long a0] w (fun (r : Option Value) (w2 : Wd) => r = none ∧ P w2) := by
  unfold cf_M_spellPoly at h
  refine am_enter mi_M_spellPoly (Nat.le_of_ble_eq_true rfl) ?_
  have hQ : ∀ w2, P w2 → (fun (r : Option Value) (w2 : Wd) => r = none ∧ P w2) none w2 := fun w2 h => ⟨rfl, h⟩
  generalize (fun (r : Option Value) (w2 : Wd) => r = none ∧ P w2) = Q at hQ ⊢
  show wp g (fun _ => True) y_M_spellPoly prog_14_method_87_code 4 none d 0 [(0, .ref (g.1 + 30)), (1, .long a0)] [] w Q
  refine am_lload_n d_M_spellPoly_0 1 rfl ?_
  refine am_lconst (v := 0) d_M_spellPoly_1 rfl ?_
  refine am_lif_ne (tgt := 12) d_M_spellPoly_2 d_M_spellPoly_3 (by decide) (fun c2 => ?_) (fun c2 => ?_)
  · have h := h.1 c2
    refine am_lload_n d_M_spellPoly_12 1 rfl ?_
    refine am_callS (d2 := d - 1) [.long a0] d_M_spellPoly_13 mi_M_degree wd_1206 wd_1207 (by omega) rfl rfl (Nat.le_of_ble_eq_true rfl) ?_
    refine Call.post ?_ (cf_M_degree_ok (by omega) a0  w _ h)
    rintro _ _ ⟨r1, rfl, rfl, h⟩
    show wp g (fun _ => True) y_M_spellPoly prog_14_method_87_code 4 none d 16 [(0, .ref (g.1 + 30)), (1, .long a0)] [.int r1] w Q
    refine am_istore_n (l' := [(3, .int r1), (0, .ref (g.1 + 30)), (1, .long a0)]) d_M_spellPoly_16 (by decide) rfl ?_
    refine am_sub [1, 2, 0] rfl ?_
    obtain ⟨n, h⟩ := h
    exact cf_M_spellPoly_L17_ok (by omega)    P Q hQ  n a0 r1 w h
  · have h := h.2 c2
    refine am_aload_n d_M_spellPoly_6 0 rfl ?_
    refine am_bipush (v := 48) d_M_spellPoly_7 rfl ?_
    refine am_callV (C := y_M_spellByte.cls) (d2 := d - 1) [.int (48 : Int32)] d_M_spellPoly_9 mi_M_spellByte wd_1508 wd_1510 ws_M_spellByte (by decide) (el_M (show ay_sh 30 = _ from rfl)) rfl rfl (by omega) rfl rfl (Nat.le_of_ble_eq_true rfl) ?_
    refine Call.post ?_ (cf_M_spellByte_ok (by omega) (48 : Int32)  w _ h)
    rintro _ w10 ⟨rfl, h⟩
    show wp g (fun _ => True) y_M_spellPoly prog_14_method_87_code 4 none d 12 [(0, .ref (g.1 + 30)), (1, .long a0)] [] w10 Q
    refine am_lload_n d_M_spellPoly_12 1 rfl ?_
    refine am_callS (d2 := d - 1) [.long a0] d_M_spellPoly_13 mi_M_degree wd_1206 wd_1207 (by omega) rfl rfl (Nat.le_of_ble_eq_true rfl) ?_
    refine Call.post ?_ (cf_M_degree_ok (by omega) a0  w10 _ h)
    rintro _ _ ⟨r11, rfl, rfl, h⟩
    show wp g (fun _ => True) y_M_spellPoly prog_14_method_87_code 4 none d 16 [(0, .ref (g.1 + 30)), (1, .long a0)] [.int r11] w10 Q
    refine am_istore_n (l' := [(3, .int r11), (0, .ref (g.1 + 30)), (1, .long a0)]) d_M_spellPoly_16 (by decide) rfl ?_
    refine am_sub [1, 2, 0] rfl ?_
    obtain ⟨n, h⟩ := h
    exact cf_M_spellPoly_L17_ok (by omega)    P Q hQ  n a0 r11 w10 h
theorem d_M_told_0 : decode prog_14_method_88_code 0 = .ok (.iload_n 1, 1) := by decide +kernel
theorem d_M_told_1 : decode prog_14_method_88_code 1 = .ok (.iconst (-1), 1) := by decide +kernel
theorem d_M_told_2 : decode prog_14_method_88_code 2 = .ok (.if_icmp .ne 10, 3) := by decide +kernel
theorem d_M_told_5 : decode prog_14_method_88_code 5 = .ok (.aload_n 0, 1) := by decide +kernel
theorem d_M_told_6 : decode prog_14_method_88_code 6 = .ok (.getfield 268, 3) := by decide +kernel
theorem d_M_told_9 : decode prog_14_method_88_code 9 = .ok (.goto 7, 3) := by decide +kernel
theorem d_M_told_12 : decode prog_14_method_88_code 12 = .ok (.aload_n 0, 1) := by decide +kernel
theorem d_M_told_13 : decode prog_14_method_88_code 13 = .ok (.getfield 274, 3) := by decide +kernel
theorem d_M_told_16 : decode prog_14_method_88_code 16 = .ok (.ireturn, 1) := by decide +kernel
def cf_M_told (a0 : Int32) (w : Wd) (P : Int32 → Prop) : Prop :=
  ((¬ a0 = (-1 : Int32) → P (w.1 30 19)) ∧ (a0 = (-1 : Int32) → P (w.1 30 17)))
theorem cf_M_told_ok {g : ayG} {d : Nat} (hd : 0 ≤ d) (a0 : Int32)  (w : Wd) (P : Int32 → Prop) (h : cf_M_told a0 w P) : Call g y_M_told prog_14_method_88_code 2 (some FieldType.int) d [.ref (g.1 + 30), .int a0] w (fun (r : Option Value) (w2 : Wd) => ∃ x, r = some (.int x) ∧ w = w2 ∧ P x) := by
  unfold cf_M_told at h
  refine am_enter mi_M_told (Nat.le_of_ble_eq_true rfl) ?_
  have hQ : ∀ x, P x → (fun (r : Option Value) (w2 : Wd) => ∃ x, r = some (.int x) ∧ w = w2 ∧ P x) (some (.int x)) w := fun x h => ⟨x, rfl, rfl, h⟩
  generalize (fun (r : Option Value) (w2 : Wd) => ∃ x, r = some (.int x) ∧ w = w2 ∧ P x) = Q at hQ ⊢
  show wp g (fun _ => True) y_M_told prog_14_method_88_code 2 (some FieldType.int) d 0 [(0, .ref (g.1 + 30)), (1, .int a0)] [] w Q
  refine am_iload_n d_M_told_0 1 rfl ?_
  refine am_iconst (v := -1) d_M_told_1 rfl ?_
  refine am_icmp_ne (tgt := 12) d_M_told_2 (by decide) (fun c2 => ?_) (fun c2 => ?_)
  · have h := h.1 c2
    refine am_aload_n d_M_told_12 0 rfl ?_
    refine am_getf (T := F_M) (fs := ob_M g w 30) (C := R_M) (N := 35) (ci := 10) 19 d_M_told_13 wd_1096 rfl (by decide) (el_M (show ay_sh 30 = _ from rfl)) rfl i_M (by decide) rfl ?_
    exact am_ireturn d_M_told_16 rfl rfl (hQ (w.1 30 19) h)
  · have h := h.2 c2
    refine am_aload_n d_M_told_5 0 rfl ?_
    refine am_getf (T := F_M) (fs := ob_M g w 30) (C := R_M) (N := 35) (ci := 10) 17 d_M_told_6 wd_1094 rfl (by decide) (el_M (show ay_sh 30 = _ from rfl)) rfl i_M (by decide) rfl ?_
    refine am_goto (tgt := 16) d_M_told_9 (by decide) ?_
    exact am_ireturn d_M_told_16 rfl rfl (hQ (w.1 30 17) h)
theorem d_M_letter_0 : decode prog_14_method_89_code 0 = .ok (.iload_n 1, 1) := by decide +kernel
theorem d_M_letter_1 : decode prog_14_method_89_code 1 = .ok (.invokestatic 150, 3) := by decide +kernel
theorem d_M_letter_4 : decode prog_14_method_89_code 4 = .ok (.ifCond .eq 8, 3) := by decide +kernel
theorem d_M_letter_7 : decode prog_14_method_89_code 7 = .ok (.iload_n 2, 1) := by decide +kernel
theorem d_M_letter_8 : decode prog_14_method_89_code 8 = .ok (.iconst (-1), 1) := by decide +kernel
theorem d_M_letter_9 : decode prog_14_method_89_code 9 = .ok (.if_icmp .ge 5, 3) := by decide +kernel
theorem d_M_letter_12 : decode prog_14_method_89_code 12 = .ok (.iconst (-1), 1) := by decide +kernel
theorem d_M_letter_13 : decode prog_14_method_89_code 13 = .ok (.ireturn, 1) := by decide +kernel
theorem d_M_letter_14 : decode prog_14_method_89_code 14 = .ok (.aload_n 0, 1) := by decide +kernel
theorem d_M_letter_15 : decode prog_14_method_89_code 15 = .ok (.iload_n 2, 1) := by decide +kernel
theorem d_M_letter_16 : decode prog_14_method_89_code 16 = .ok (.invokevirtual 287, 3) := by decide +kernel
theorem d_M_letter_19 : decode prog_14_method_89_code 19 = .ok (.aload_n 0, 1) := by decide +kernel
theorem d_M_letter_20 : decode prog_14_method_89_code 20 = .ok (.aload_n 0, 1) := by decide +kernel
theorem d_M_letter_21 : decode prog_14_method_89_code 21 = .ok (.getfield 7, 3) := by decide +kernel
theorem d_M_letter_24 : decode prog_14_method_89_code 24 = .ok (.iload_n 1, 1) := by decide +kernel
theorem d_M_letter_25 : decode prog_14_method_89_code 25 = .ok (.laload, 1) := by decide +kernel
theorem d_M_letter_26 : decode prog_14_method_89_code 26 = .ok (.invokevirtual 290, 3) := by decide +kernel
theorem d_M_letter_29 : decode prog_14_method_89_code 29 = .ok (.aload_n 0, 1) := by decide +kernel
theorem d_M_letter_30 : decode prog_14_method_89_code 30 = .ok (.iload_n 2, 1) := by decide +kernel
theorem d_M_letter_31 : decode prog_14_method_89_code 31 = .ok (.invokevirtual 293, 3) := by decide +kernel
theorem d_M_letter_34 : decode prog_14_method_89_code 34 = .ok (.ireturn, 1) := by decide +kernel
def cf_M_letter (a0 : Int32) (a1 : Int32) (w : Wd) (P : Int32 → Wd → Prop) : Prop :=
  cf_M_isPlace a0 (fun r1 => ((r1 = 0 → P (-1 : Int32) w) ∧ (¬ r1 = 0 → (((-1 : Int32) ≤ a1 → cf_M_begins a1 w (fun w2 => vp_in a0 14 ∧ cf_M_spellPoly (w2.2 31 a0.toNatClampNeg) w2 (fun w3 => cf_M_told a1 w3 (fun r4 => P r4 w3)))) ∧ (¬ (-1 : Int32) ≤ a1 → P (-1 : Int32) w)))))
theorem cf_M_letter_ok {g : ayG} {d : Nat} (hd : 16 ≤ d) (a0 : Int32) (a1 : Int32)  (w : Wd) (P : Int32 → Wd → Prop) (h : cf_M_letter a0 a1 w P) : Call g y_M_letter prog_14_method_89_code 3 (some FieldType.int) d [.ref (g.1 + 30), .int a0, .int a1] w (fun (r : Option Value) (w2 : Wd) => ∃ x, r = some (.int x) ∧ P x w2) := by
  unfold cf_M_letter at h
  refine am_enter mi_M_letter (Nat.le_of_ble_eq_true rfl) ?_
  have hQ : ∀ x w2, P x w2 → (fun (r : Option Value) (w2 : Wd) => ∃ x, r = some (.int x) ∧ P x w2) (some (.int x)) w2 := fun x w2 h => ⟨x, rfl, h⟩
  generalize (fun (r : Option Value) (w2 : Wd) => ∃ x, r = some (.int x) ∧ P x w2) = Q at hQ ⊢
  show wp g (fun _ => True) y_M_letter prog_14_method_89_code 3 (some FieldType.int) d 0 [(0, .ref (g.1 + 30)), (1, .int a0), (2, .int a1)] [] w Q
  refine am_iload_n d_M_letter_0 1 rfl ?_
  refine am_callS (d2 := d - 1) [.int a0] d_M_letter_1 mi_M_isPlace wd_1188 wd_1189 (by omega) rfl rfl (Nat.le_of_ble_eq_true rfl) ?_
  refine Call.post ?_ (cf_M_isPlace_ok (by omega) a0  w _ h)
  rintro _ _ ⟨r1, rfl, rfl, h⟩
  show wp g (fun _ => True) y_M_letter prog_14_method_89_code 3 (some FieldType.int) d 4 [(0, .ref (g.1 + 30)), (1, .int a0), (2, .int a1)] [.int r1] w Q
  refine am_if_eq (tgt := 12) d_M_letter_4 (by decide) (fun c4 => ?_) (fun c4 => ?_)
  · have h := h.1 c4
    refine am_iconst (v := -1) d_M_letter_12 rfl ?_
    exact am_ireturn d_M_letter_13 rfl rfl (hQ (-1 : Int32) w h)
  · have h := h.2 c4
    refine am_iload_n d_M_letter_7 2 rfl ?_
    refine am_iconst (v := -1) d_M_letter_8 rfl ?_
    refine am_icmp_ge (tgt := 14) d_M_letter_9 (by decide) (fun c9 => ?_) (fun c9 => ?_)
    · have h := h.1 c9
      refine am_aload_n d_M_letter_14 0 rfl ?_
      refine am_iload_n d_M_letter_15 2 rfl ?_
      refine am_callV (C := y_M_begins.cls) (d2 := d - 1) [.int a1] d_M_letter_16 mi_M_begins wd_1500 wd_1502 ws_M_begins (by decide) (el_M (show ay_sh 30 = _ from rfl)) rfl rfl (by omega) rfl rfl (Nat.le_of_ble_eq_true rfl) ?_
      refine Call.post ?_ (cf_M_begins_ok (by omega) a1  w _ h)
      rintro _ w2 ⟨rfl, h⟩
      show wp g (fun _ => True) y_M_letter prog_14_method_89_code 3 (some FieldType.int) d 19 [(0, .ref (g.1 + 30)), (1, .int a0), (2, .int a1)] [] w2 Q
      refine am_aload_n d_M_letter_19 0 rfl ?_
      refine am_aload_n d_M_letter_20 0 rfl ?_
      refine am_getf (T := F_M) (fs := ob_M g w2 30) (C := R_M) (N := 35) (ci := 10) 0 d_M_letter_21 wd_1077 rfl (by decide) (el_M (show ay_sh 30 = _ from rfl)) rfl i_M (by decide) rfl ?_
      refine am_iload_n d_M_letter_24 1 rfl ?_
      have hi25 := h.1
      have h := h.2
      refine am_laload d_M_letter_25 (show ay_sh 31 = _ from rfl) hi25 ?_
      refine am_callV (C := y_M_spellPoly.cls) (d2 := d - 1) [.long (w2.2 31 a0.toNatClampNeg)] d_M_letter_26 mi_M_spellPoly wd_1504 wd_1506 ws_M_spellPoly (by decide) (el_M (show ay_sh 30 = _ from rfl)) rfl rfl (by omega) rfl rfl (Nat.le_of_ble_eq_true rfl) ?_
      refine Call.post ?_ (cf_M_spellPoly_ok (by omega) (w2.2 31 a0.toNatClampNeg)  w2 _ h)
      rintro _ w3 ⟨rfl, h⟩
      show wp g (fun _ => True) y_M_letter prog_14_method_89_code 3 (some FieldType.int) d 29 [(0, .ref (g.1 + 30)), (1, .int a0), (2, .int a1)] [] w3 Q
      refine am_aload_n d_M_letter_29 0 rfl ?_
      refine am_iload_n d_M_letter_30 2 rfl ?_
      refine am_callV (C := y_M_told.cls) (d2 := d - 1) [.int a1] d_M_letter_31 mi_M_told wd_1520 wd_1522 ws_M_told (by decide) (el_M (show ay_sh 30 = _ from rfl)) rfl rfl (by omega) rfl rfl (Nat.le_of_ble_eq_true rfl) ?_
      refine Call.post ?_ (cf_M_told_ok (by omega) a1  w3 _ h)
      rintro _ _ ⟨r4, rfl, rfl, h⟩
      show wp g (fun _ => True) y_M_letter prog_14_method_89_code 3 (some FieldType.int) d 34 [(0, .ref (g.1 + 30)), (1, .int a0), (2, .int a1)] [.int r4] w3 Q
      exact am_ireturn d_M_letter_34 rfl rfl (hQ r4 w3 h)
    · have h := h.2 c9
      refine am_iconst (v := -1) d_M_letter_12 rfl ?_
      exact am_ireturn d_M_letter_13 rfl rfl (hQ (-1 : Int32) w h)
theorem d_M_spell_0 : decode prog_14_method_90_code 0 = .ok (.iload_n 1, 1) := by decide +kernel
theorem d_M_spell_1 : decode prog_14_method_90_code 1 = .ok (.invokestatic 150, 3) := by decide +kernel
theorem d_M_spell_4 : decode prog_14_method_90_code 4 = .ok (.ifCond .eq 8, 3) := by decide +kernel
theorem d_M_spell_7 : decode prog_14_method_90_code 7 = .ok (.iload_n 2, 1) := by decide +kernel
theorem d_M_spell_8 : decode prog_14_method_90_code 8 = .ok (.iconst (-1), 1) := by decide +kernel
theorem d_M_spell_9 : decode prog_14_method_90_code 9 = .ok (.if_icmp .ge 5, 3) := by decide +kernel
theorem d_M_spell_12 : decode prog_14_method_90_code 12 = .ok (.iconst (-1), 1) := by decide +kernel
theorem d_M_spell_13 : decode prog_14_method_90_code 13 = .ok (.ireturn, 1) := by decide +kernel
theorem d_M_spell_14 : decode prog_14_method_90_code 14 = .ok (.aload_n 0, 1) := by decide +kernel
theorem d_M_spell_15 : decode prog_14_method_90_code 15 = .ok (.iload_n 2, 1) := by decide +kernel
theorem d_M_spell_16 : decode prog_14_method_90_code 16 = .ok (.invokevirtual 287, 3) := by decide +kernel
theorem d_M_spell_19 : decode prog_14_method_90_code 19 = .ok (.aload_n 0, 1) := by decide +kernel
theorem d_M_spell_20 : decode prog_14_method_90_code 20 = .ok (.aload_n 0, 1) := by decide +kernel
theorem d_M_spell_21 : decode prog_14_method_90_code 21 = .ok (.getfield 7, 3) := by decide +kernel
theorem d_M_spell_24 : decode prog_14_method_90_code 24 = .ok (.iload_n 1, 1) := by decide +kernel
theorem d_M_spell_25 : decode prog_14_method_90_code 25 = .ok (.laload, 1) := by decide +kernel
theorem d_M_spell_26 : decode prog_14_method_90_code 26 = .ok (.invokevirtual 112, 3) := by decide +kernel
theorem d_M_spell_29 : decode prog_14_method_90_code 29 = .ok (.aload_n 0, 1) := by decide +kernel
theorem d_M_spell_30 : decode prog_14_method_90_code 30 = .ok (.getfield 104, 3) := by decide +kernel
theorem d_M_spell_33 : decode prog_14_method_90_code 33 = .ok (.ifCond .ne 13, 3) := by decide +kernel
theorem d_M_spell_36 : decode prog_14_method_90_code 36 = .ok (.aload_n 0, 1) := by decide +kernel
theorem d_M_spell_37 : decode prog_14_method_90_code 37 = .ok (.aload_n 0, 1) := by decide +kernel
theorem d_M_spell_38 : decode prog_14_method_90_code 38 = .ok (.getfield 7, 3) := by decide +kernel
theorem d_M_spell_41 : decode prog_14_method_90_code 41 = .ok (.iload_n 1, 1) := by decide +kernel
theorem d_M_spell_42 : decode prog_14_method_90_code 42 = .ok (.laload, 1) := by decide +kernel
theorem d_M_spell_43 : decode prog_14_method_90_code 43 = .ok (.invokevirtual 290, 3) := by decide +kernel
theorem d_M_spell_46 : decode prog_14_method_90_code 46 = .ok (.iconst 0, 1) := by decide +kernel
theorem d_M_spell_47 : decode prog_14_method_90_code 47 = .ok (.istore_n 3, 1) := by decide +kernel
theorem d_M_spell_48 : decode prog_14_method_90_code 48 = .ok (.iload_n 3, 1) := by decide +kernel
theorem d_M_spell_49 : decode prog_14_method_90_code 49 = .ok (.aload_n 0, 1) := by decide +kernel
theorem d_M_spell_50 : decode prog_14_method_90_code 50 = .ok (.getfield 104, 3) := by decide +kernel
theorem d_M_spell_53 : decode prog_14_method_90_code 53 = .ok (.if_icmp .ge 92, 3) := by decide +kernel
theorem d_M_spell_56 : decode prog_14_method_90_code 56 = .ok (.iconst 1, 1) := by decide +kernel
theorem d_M_spell_57 : decode prog_14_method_90_code 57 = .ok (.istore 4, 2) := by decide +kernel
theorem d_M_spell_59 : decode prog_14_method_90_code 59 = .ok (.iload_n 3, 1) := by decide +kernel
theorem d_M_spell_60 : decode prog_14_method_90_code 60 = .ok (.iconst 1, 1) := by decide +kernel
theorem d_M_spell_61 : decode prog_14_method_90_code 61 = .ok (.iadd, 1) := by decide +kernel
theorem d_M_spell_62 : decode prog_14_method_90_code 62 = .ok (.aload_n 0, 1) := by decide +kernel
theorem d_M_spell_63 : decode prog_14_method_90_code 63 = .ok (.getfield 104, 3) := by decide +kernel
theorem d_M_spell_66 : decode prog_14_method_90_code 66 = .ok (.if_icmp .ge 30, 3) := by decide +kernel
theorem d_M_spell_69 : decode prog_14_method_90_code 69 = .ok (.aload_n 0, 1) := by decide +kernel
theorem d_M_spell_70 : decode prog_14_method_90_code 70 = .ok (.getfield 23, 3) := by decide +kernel
theorem d_M_spell_73 : decode prog_14_method_90_code 73 = .ok (.iload_n 3, 1) := by decide +kernel
theorem d_M_spell_74 : decode prog_14_method_90_code 74 = .ok (.iconst 1, 1) := by decide +kernel
theorem d_M_spell_75 : decode prog_14_method_90_code 75 = .ok (.iadd, 1) := by decide +kernel
theorem d_M_spell_76 : decode prog_14_method_90_code 76 = .ok (.laload, 1) := by decide +kernel
theorem d_M_spell_77 : decode prog_14_method_90_code 77 = .ok (.aload_n 0, 1) := by decide +kernel
theorem d_M_spell_78 : decode prog_14_method_90_code 78 = .ok (.getfield 23, 3) := by decide +kernel
theorem d_M_spell_81 : decode prog_14_method_90_code 81 = .ok (.iload_n 3, 1) := by decide +kernel
theorem d_M_spell_82 : decode prog_14_method_90_code 82 = .ok (.laload, 1) := by decide +kernel
theorem d_M_spell_83 : decode prog_14_method_90_code 83 = .ok (.lcmp, 1) := by decide +kernel
theorem d_M_spell_84 : decode prog_14_method_90_code 84 = .ok (.ifCond .ne 12, 3) := by decide +kernel
theorem d_M_spell_87 : decode prog_14_method_90_code 87 = .ok (.iinc 3 1, 3) := by decide +kernel
theorem d_M_spell_90 : decode prog_14_method_90_code 90 = .ok (.iinc 4 1, 3) := by decide +kernel
theorem d_M_spell_93 : decode prog_14_method_90_code 93 = .ok (.goto (-34), 3) := by decide +kernel
theorem d_M_spell_96 : decode prog_14_method_90_code 96 = .ok (.aload_n 0, 1) := by decide +kernel
theorem d_M_spell_97 : decode prog_14_method_90_code 97 = .ok (.bipush 40, 2) := by decide +kernel
theorem d_M_spell_99 : decode prog_14_method_90_code 99 = .ok (.invokevirtual 281, 3) := by decide +kernel
theorem d_M_spell_102 : decode prog_14_method_90_code 102 = .ok (.aload_n 0, 1) := by decide +kernel
theorem d_M_spell_103 : decode prog_14_method_90_code 103 = .ok (.aload_n 0, 1) := by decide +kernel
theorem d_M_spell_104 : decode prog_14_method_90_code 104 = .ok (.getfield 23, 3) := by decide +kernel
theorem d_M_spell_107 : decode prog_14_method_90_code 107 = .ok (.iload_n 3, 1) := by decide +kernel
theorem d_M_spell_108 : decode prog_14_method_90_code 108 = .ok (.laload, 1) := by decide +kernel
theorem d_M_spell_109 : decode prog_14_method_90_code 109 = .ok (.invokevirtual 290, 3) := by decide +kernel
theorem d_M_spell_112 : decode prog_14_method_90_code 112 = .ok (.aload_n 0, 1) := by decide +kernel
theorem d_M_spell_113 : decode prog_14_method_90_code 113 = .ok (.bipush 41, 2) := by decide +kernel
theorem d_M_spell_115 : decode prog_14_method_90_code 115 = .ok (.invokevirtual 281, 3) := by decide +kernel
theorem d_M_spell_118 : decode prog_14_method_90_code 118 = .ok (.iload 4, 2) := by decide +kernel
theorem d_M_spell_120 : decode prog_14_method_90_code 120 = .ok (.iconst 1, 1) := by decide +kernel
theorem d_M_spell_121 : decode prog_14_method_90_code 121 = .ok (.if_icmp .ne 6, 3) := by decide +kernel
theorem d_M_spell_124 : decode prog_14_method_90_code 124 = .ok (.goto 15, 3) := by decide +kernel
theorem d_M_spell_127 : decode prog_14_method_90_code 127 = .ok (.aload_n 0, 1) := by decide +kernel
theorem d_M_spell_128 : decode prog_14_method_90_code 128 = .ok (.bipush 94, 2) := by decide +kernel
theorem d_M_spell_130 : decode prog_14_method_90_code 130 = .ok (.invokevirtual 281, 3) := by decide +kernel
theorem d_M_spell_133 : decode prog_14_method_90_code 133 = .ok (.aload_n 0, 1) := by decide +kernel
theorem d_M_spell_134 : decode prog_14_method_90_code 134 = .ok (.iload 4, 2) := by decide +kernel
theorem d_M_spell_136 : decode prog_14_method_90_code 136 = .ok (.invokevirtual 277, 3) := by decide +kernel
theorem d_M_spell_139 : decode prog_14_method_90_code 139 = .ok (.iinc 3 1, 3) := by decide +kernel
theorem d_M_spell_142 : decode prog_14_method_90_code 142 = .ok (.goto (-94), 3) := by decide +kernel
theorem d_M_spell_145 : decode prog_14_method_90_code 145 = .ok (.aload_n 0, 1) := by decide +kernel
theorem d_M_spell_146 : decode prog_14_method_90_code 146 = .ok (.iload_n 2, 1) := by decide +kernel
theorem d_M_spell_147 : decode prog_14_method_90_code 147 = .ok (.invokevirtual 293, 3) := by decide +kernel
theorem d_M_spell_150 : decode prog_14_method_90_code 150 = .ok (.ireturn, 1) := by decide +kernel
def cf_M_spell_B96  (K48 : Int32 → Int32 → Wd → Prop) (P : Int32 → Wd → Prop) (x2 : Int32) (x3 : Int32) (x4 : Int32) (w : Wd) : Prop :=
  cf_M_spellByte (40 : Int32) w (fun w5 => vp_in x3 32 ∧ cf_M_spellPoly (w5.2 35 x3.toNatClampNeg) w5 (fun w6 => cf_M_spellByte (41 : Int32) w6 (fun w7 => ((¬ x4 = (1 : Int32) → cf_M_spellByte (94 : Int32) w7 (fun w8 => cf_M_spellNumber_W x4 w8 (fun w9 => ∀ v10, v10 = x3 + (1 : Int32) → K48 x2 v10 w9))) ∧ (x4 = (1 : Int32) → ∀ v11, v11 = x3 + (1 : Int32) → K48 x2 v11 w7)))))
def cf_M_spell_B59  (K48 : Int32 → Int32 → Wd → Prop) (K59 : Int32 → Int32 → Int32 → Wd → Prop) (P : Int32 → Wd → Prop) (x2 : Int32) (x3 : Int32) (x4 : Int32) (w : Wd) : Prop :=
  (((w.1 30 6) ≤ (x3 + (1 : Int32)) → cf_M_spell_B96 K48 P x2 x3 x4 w) ∧ (¬ (w.1 30 6) ≤ (x3 + (1 : Int32)) → vp_in (x3 + (1 : Int32)) 32 ∧ vp_in x3 32 ∧ ((¬ (w.2 35 (x3 + (1 : Int32)).toNatClampNeg) = (w.2 35 x3.toNatClampNeg) → cf_M_spell_B96 K48 P x2 x3 x4 w) ∧ ((w.2 35 (x3 + (1 : Int32)).toNatClampNeg) = (w.2 35 x3.toNatClampNeg) → ∀ v12, v12 = x3 + (1 : Int32) → ∀ v13, v13 = x4 + (1 : Int32) → K59 x2 v12 v13 w))))
def cf_M_spell_L59  (K48 : Int32 → Int32 → Wd → Prop) (P : Int32 → Wd → Prop) : Nat → Int32 → Int32 → Int32 → Wd → Prop
  | 0 => fun x2 x3 x4 w => False
  | n + 1 => fun x2 x3 x4 w => cf_M_spell_B59 K48 (cf_M_spell_L59 K48 P n) P x2 x3 x4 w
def cf_M_spell_B48  (K48 : Int32 → Int32 → Wd → Prop) (P : Int32 → Wd → Prop) (x2 : Int32) (x3 : Int32) (w : Wd) : Prop :=
  (((w.1 30 6) ≤ x3 → cf_M_told x2 w (fun r4 => P r4 w)) ∧ (¬ (w.1 30 6) ≤ x3 → ∃ n, cf_M_spell_L59 K48 P n x2 x3 (1 : Int32) w))
def cf_M_spell_L48   (P : Int32 → Wd → Prop) : Nat → Int32 → Int32 → Wd → Prop
  | 0 => fun x2 x3 w => False
  | n + 1 => fun x2 x3 w => cf_M_spell_B48 (cf_M_spell_L48 P n) P x2 x3 w
def cf_M_spell (a0 : Int32) (a1 : Int32) (w : Wd) (P : Int32 → Wd → Prop) : Prop :=
  cf_M_isPlace a0 (fun r1 => ((r1 = 0 → P (-1 : Int32) w) ∧ (¬ r1 = 0 → (((-1 : Int32) ≤ a1 → cf_M_begins a1 w (fun w2 => vp_in a0 14 ∧ cf_M_laysFactors (w2.2 31 a0.toNatClampNeg) w2 (fun w3 => ((¬ (w3.1 30 6) = 0 → ∃ n, cf_M_spell_L48 P n a1 (0 : Int32) w3) ∧ ((w3.1 30 6) = 0 → vp_in a0 14 ∧ cf_M_spellPoly (w3.2 31 a0.toNatClampNeg) w3 (fun w14 => ∃ n, cf_M_spell_L48 P n a1 (0 : Int32) w14)))))) ∧ (¬ (-1 : Int32) ≤ a1 → P (-1 : Int32) w)))))
theorem cf_M_spell_B96_ok {g : ayG} {d : Nat} (hd : 16 ≤ d)   (w : Wd) (K48 : Int32 → Int32 → Wd → Prop) (P : Int32 → Wd → Prop) (Q : Option Value → Wd → Prop) (hQ : ∀ x w2, P x w2 → Q (some (.int x)) w2) (hK48 : ∀ (x2 : Int32) (x3 : Int32) (w : Wd), (K48 x2 x3 w → wp g (fun _ => True) y_M_spell prog_14_method_90_code 5 (some FieldType.int) d 48 [(0, .ref (g.1 + 30)), (2, .int x2), (3, .int x3)] [] w Q)) (x2 : Int32) (x3 : Int32) (x4 : Int32) (h : cf_M_spell_B96 K48 P x2 x3 x4 w) : wp g (fun _ => True) y_M_spell prog_14_method_90_code 5 (some FieldType.int) d 96 [(0, .ref (g.1 + 30)), (2, .int x2), (3, .int x3), (4, .int x4)] [] w Q := by
  unfold cf_M_spell_B96 at h
  refine am_aload_n d_M_spell_96 0 rfl ?_
  refine am_bipush (v := 40) d_M_spell_97 rfl ?_
  refine am_callV (C := y_M_spellByte.cls) (d2 := d - 1) [.int (40 : Int32)] d_M_spell_99 mi_M_spellByte wd_1508 wd_1510 ws_M_spellByte (by decide) (el_M (show ay_sh 30 = _ from rfl)) rfl rfl (by omega) rfl rfl (Nat.le_of_ble_eq_true rfl) ?_
  refine Call.post ?_ (cf_M_spellByte_ok (by omega) (40 : Int32)  w _ h)
  rintro _ w5 ⟨rfl, h⟩
  show wp g (fun _ => True) y_M_spell prog_14_method_90_code 5 (some FieldType.int) d 102 [(0, .ref (g.1 + 30)), (2, .int x2), (3, .int x3), (4, .int x4)] [] w5 Q
  refine am_aload_n d_M_spell_102 0 rfl ?_
  refine am_aload_n d_M_spell_103 0 rfl ?_
  refine am_getf (T := F_M) (fs := ob_M g w5 30) (C := R_M) (N := 35) (ci := 10) 5 d_M_spell_104 wd_1082 rfl (by decide) (el_M (show ay_sh 30 = _ from rfl)) rfl i_M (by decide) rfl ?_
  refine am_iload_n d_M_spell_107 2 rfl ?_
  have hi108 := h.1
  have h := h.2
  refine am_laload d_M_spell_108 (show ay_sh 35 = _ from rfl) hi108 ?_
  refine am_callV (C := y_M_spellPoly.cls) (d2 := d - 1) [.long (w5.2 35 x3.toNatClampNeg)] d_M_spell_109 mi_M_spellPoly wd_1504 wd_1506 ws_M_spellPoly (by decide) (el_M (show ay_sh 30 = _ from rfl)) rfl rfl (by omega) rfl rfl (Nat.le_of_ble_eq_true rfl) ?_
  refine Call.post ?_ (cf_M_spellPoly_ok (by omega) (w5.2 35 x3.toNatClampNeg)  w5 _ h)
  rintro _ w6 ⟨rfl, h⟩
  show wp g (fun _ => True) y_M_spell prog_14_method_90_code 5 (some FieldType.int) d 112 [(0, .ref (g.1 + 30)), (2, .int x2), (3, .int x3), (4, .int x4)] [] w6 Q
  refine am_aload_n d_M_spell_112 0 rfl ?_
  refine am_bipush (v := 41) d_M_spell_113 rfl ?_
  refine am_callV (C := y_M_spellByte.cls) (d2 := d - 1) [.int (41 : Int32)] d_M_spell_115 mi_M_spellByte wd_1508 wd_1510 ws_M_spellByte (by decide) (el_M (show ay_sh 30 = _ from rfl)) rfl rfl (by omega) rfl rfl (Nat.le_of_ble_eq_true rfl) ?_
  refine Call.post ?_ (cf_M_spellByte_ok (by omega) (41 : Int32)  w6 _ h)
  rintro _ w7 ⟨rfl, h⟩
  show wp g (fun _ => True) y_M_spell prog_14_method_90_code 5 (some FieldType.int) d 118 [(0, .ref (g.1 + 30)), (2, .int x2), (3, .int x3), (4, .int x4)] [] w7 Q
  refine am_iload d_M_spell_118 3 rfl ?_
  refine am_iconst (v := 1) d_M_spell_120 rfl ?_
  refine am_icmp_ne (tgt := 127) d_M_spell_121 (by decide) (fun c121 => ?_) (fun c121 => ?_)
  · have h := h.1 c121
    refine am_aload_n d_M_spell_127 0 rfl ?_
    refine am_bipush (v := 94) d_M_spell_128 rfl ?_
    refine am_callV (C := y_M_spellByte.cls) (d2 := d - 1) [.int (94 : Int32)] d_M_spell_130 mi_M_spellByte wd_1508 wd_1510 ws_M_spellByte (by decide) (el_M (show ay_sh 30 = _ from rfl)) rfl rfl (by omega) rfl rfl (Nat.le_of_ble_eq_true rfl) ?_
    refine Call.post ?_ (cf_M_spellByte_ok (by omega) (94 : Int32)  w7 _ h)
    rintro _ w8 ⟨rfl, h⟩
    show wp g (fun _ => True) y_M_spell prog_14_method_90_code 5 (some FieldType.int) d 133 [(0, .ref (g.1 + 30)), (2, .int x2), (3, .int x3), (4, .int x4)] [] w8 Q
    refine am_aload_n d_M_spell_133 0 rfl ?_
    refine am_iload d_M_spell_134 3 rfl ?_
    refine am_callV (C := y_M_spellNumber.cls) (d2 := d - 1) [.int x4] d_M_spell_136 mi_M_spellNumber wd_1516 wd_1518 ws_M_spellNumber (by decide) (el_M (show ay_sh 30 = _ from rfl)) rfl rfl (by omega) rfl rfl (Nat.le_of_ble_eq_true rfl) ?_
    refine Call.post ?_ (cf_M_spellNumber_W_ok (by omega) x4  w8 _ h)
    rintro _ w9 ⟨rfl, h⟩
    show wp g (fun _ => True) y_M_spell prog_14_method_90_code 5 (some FieldType.int) d 139 [(0, .ref (g.1 + 30)), (2, .int x2), (3, .int x3), (4, .int x4)] [] w9 Q
    obtain ⟨v10, ev10⟩ : ∃ z : Int32, z = x3 + (1 : Int32) := ⟨_, rfl⟩
    have h := h v10 ev10
    refine am_iinc (v := v10) (l' := [(3, .int v10), (0, .ref (g.1 + 30)), (2, .int x2), (4, .int x4)]) d_M_spell_139 2 rfl (by rw [ev10]; rfl) (by decide) rfl ?_
    refine am_goto (tgt := 48) d_M_spell_142 (by decide) ?_
    refine am_sub [1, 2, 0] rfl ?_
    exact hK48 x2 v10 w9 h
  · have h := h.2 c121
    refine am_goto (tgt := 139) d_M_spell_124 (by decide) ?_
    obtain ⟨v11, ev11⟩ : ∃ z : Int32, z = x3 + (1 : Int32) := ⟨_, rfl⟩
    have h := h v11 ev11
    refine am_iinc (v := v11) (l' := [(3, .int v11), (0, .ref (g.1 + 30)), (2, .int x2), (4, .int x4)]) d_M_spell_139 2 rfl (by rw [ev11]; rfl) (by decide) rfl ?_
    refine am_goto (tgt := 48) d_M_spell_142 (by decide) ?_
    refine am_sub [1, 2, 0] rfl ?_
    exact hK48 x2 v11 w7 h
theorem cf_M_spell_B59_ok {g : ayG} {d : Nat} (hd : 16 ≤ d)   (w : Wd) (K48 : Int32 → Int32 → Wd → Prop) (K59 : Int32 → Int32 → Int32 → Wd → Prop) (P : Int32 → Wd → Prop) (Q : Option Value → Wd → Prop) (hQ : ∀ x w2, P x w2 → Q (some (.int x)) w2) (hK48 : ∀ (x2 : Int32) (x3 : Int32) (w : Wd), (K48 x2 x3 w → wp g (fun _ => True) y_M_spell prog_14_method_90_code 5 (some FieldType.int) d 48 [(0, .ref (g.1 + 30)), (2, .int x2), (3, .int x3)] [] w Q)) (hK59 : ∀ (x2 : Int32) (x3 : Int32) (x4 : Int32) (w : Wd), (K59 x2 x3 x4 w → wp g (fun _ => True) y_M_spell prog_14_method_90_code 5 (some FieldType.int) d 59 [(0, .ref (g.1 + 30)), (2, .int x2), (3, .int x3), (4, .int x4)] [] w Q)) (x2 : Int32) (x3 : Int32) (x4 : Int32) (h : cf_M_spell_B59 K48 K59 P x2 x3 x4 w) : wp g (fun _ => True) y_M_spell prog_14_method_90_code 5 (some FieldType.int) d 59 [(0, .ref (g.1 + 30)), (2, .int x2), (3, .int x3), (4, .int x4)] [] w Q := by
  unfold cf_M_spell_B59 at h
  refine am_iload_n d_M_spell_59 2 rfl ?_
  refine am_iconst (v := 1) d_M_spell_60 rfl ?_
  refine am_iadd d_M_spell_61 ?_
  refine am_aload_n d_M_spell_62 0 rfl ?_
  refine am_getf (T := F_M) (fs := ob_M g w 30) (C := R_M) (N := 35) (ci := 10) 6 d_M_spell_63 wd_1083 rfl (by decide) (el_M (show ay_sh 30 = _ from rfl)) rfl i_M (by decide) rfl ?_
  refine am_icmp_ge (tgt := 96) d_M_spell_66 (by decide) (fun c66 => ?_) (fun c66 => ?_)
  · have h := h.1 c66
    refine am_sub [0, 1, 2, 3] rfl ?_
    exact cf_M_spell_B96_ok (by omega)   w K48 P Q hQ hK48 x2 x3 x4 h
  · have h := h.2 c66
    refine am_aload_n d_M_spell_69 0 rfl ?_
    refine am_getf (T := F_M) (fs := ob_M g w 30) (C := R_M) (N := 35) (ci := 10) 5 d_M_spell_70 wd_1082 rfl (by decide) (el_M (show ay_sh 30 = _ from rfl)) rfl i_M (by decide) rfl ?_
    refine am_iload_n d_M_spell_73 2 rfl ?_
    refine am_iconst (v := 1) d_M_spell_74 rfl ?_
    refine am_iadd d_M_spell_75 ?_
    have hi76 := h.1
    have h := h.2
    refine am_laload d_M_spell_76 (show ay_sh 35 = _ from rfl) hi76 ?_
    refine am_aload_n d_M_spell_77 0 rfl ?_
    refine am_getf (T := F_M) (fs := ob_M g w 30) (C := R_M) (N := 35) (ci := 10) 5 d_M_spell_78 wd_1082 rfl (by decide) (el_M (show ay_sh 30 = _ from rfl)) rfl i_M (by decide) rfl ?_
    refine am_iload_n d_M_spell_81 2 rfl ?_
    have hi82 := h.1
    have h := h.2
    refine am_laload d_M_spell_82 (show ay_sh 35 = _ from rfl) hi82 ?_
    refine am_lif_ne (tgt := 96) d_M_spell_83 d_M_spell_84 (by decide) (fun c83 => ?_) (fun c83 => ?_)
    · have h := h.1 c83
      refine am_sub [0, 1, 2, 3] rfl ?_
      exact cf_M_spell_B96_ok (by omega)   w K48 P Q hQ hK48 x2 x3 x4 h
    · have h := h.2 c83
      obtain ⟨v12, ev12⟩ : ∃ z : Int32, z = x3 + (1 : Int32) := ⟨_, rfl⟩
      have h := h v12 ev12
      refine am_iinc (v := v12) (l' := [(3, .int v12), (0, .ref (g.1 + 30)), (2, .int x2), (4, .int x4)]) d_M_spell_87 2 rfl (by rw [ev12]; rfl) (by decide) rfl ?_
      obtain ⟨v13, ev13⟩ : ∃ z : Int32, z = x4 + (1 : Int32) := ⟨_, rfl⟩
      have h := h v13 ev13
      refine am_iinc (v := v13) (l' := [(4, .int v13), (3, .int v12), (0, .ref (g.1 + 30)), (2, .int x2)]) d_M_spell_90 3 rfl (by rw [ev13]; rfl) (by decide) rfl ?_
      refine am_goto (tgt := 59) d_M_spell_93 (by decide) ?_
      refine am_sub [2, 3, 1, 0] rfl ?_
      exact hK59 x2 v12 v13 w h
theorem cf_M_spell_L59_ok {g : ayG} {d : Nat} (hd : 16 ≤ d)   (K48 : Int32 → Int32 → Wd → Prop) (P : Int32 → Wd → Prop) (Q : Option Value → Wd → Prop) (hQ : ∀ x w2, P x w2 → Q (some (.int x)) w2) (hK48 : ∀ (x2 : Int32) (x3 : Int32) (w : Wd), (K48 x2 x3 w → wp g (fun _ => True) y_M_spell prog_14_method_90_code 5 (some FieldType.int) d 48 [(0, .ref (g.1 + 30)), (2, .int x2), (3, .int x3)] [] w Q)) : ∀ (n : Nat) (x2 : Int32) (x3 : Int32) (x4 : Int32) (w : Wd) (h : cf_M_spell_L59 K48 P n x2 x3 x4 w), wp g (fun _ => True) y_M_spell prog_14_method_90_code 5 (some FieldType.int) d 59 [(0, .ref (g.1 + 30)), (2, .int x2), (3, .int x3), (4, .int x4)] [] w Q
  | 0, x2, x3, x4, w, h => False.elim h
  | n + 1, x2, x3, x4, w, h => cf_M_spell_B59_ok hd   w K48 (cf_M_spell_L59 K48 P n) P Q hQ hK48 (fun x2 x3 x4 w h => cf_M_spell_L59_ok hd   K48 P Q hQ hK48 n x2 x3 x4 w h) x2 x3 x4 h
theorem cf_M_spell_B48_ok {g : ayG} {d : Nat} (hd : 16 ≤ d)   (w : Wd) (K48 : Int32 → Int32 → Wd → Prop) (P : Int32 → Wd → Prop) (Q : Option Value → Wd → Prop) (hQ : ∀ x w2, P x w2 → Q (some (.int x)) w2) (hK48 : ∀ (x2 : Int32) (x3 : Int32) (w : Wd), (K48 x2 x3 w → wp g (fun _ => True) y_M_spell prog_14_method_90_code 5 (some FieldType.int) d 48 [(0, .ref (g.1 + 30)), (2, .int x2), (3, .int x3)] [] w Q)) (x2 : Int32) (x3 : Int32) (h : cf_M_spell_B48 K48 P x2 x3 w) : wp g (fun _ => True) y_M_spell prog_14_method_90_code 5 (some FieldType.int) d 48 [(0, .ref (g.1 + 30)), (2, .int x2), (3, .int x3)] [] w Q := by
  unfold cf_M_spell_B48 at h
  refine am_iload_n d_M_spell_48 2 rfl ?_
  refine am_aload_n d_M_spell_49 0 rfl ?_
  refine am_getf (T := F_M) (fs := ob_M g w 30) (C := R_M) (N := 35) (ci := 10) 6 d_M_spell_50 wd_1083 rfl (by decide) (el_M (show ay_sh 30 = _ from rfl)) rfl i_M (by decide) rfl ?_
  refine am_icmp_ge (tgt := 145) d_M_spell_53 (by decide) (fun c53 => ?_) (fun c53 => ?_)
  · have h := h.1 c53
    refine am_aload_n d_M_spell_145 0 rfl ?_
    refine am_iload_n d_M_spell_146 1 rfl ?_
    refine am_callV (C := y_M_told.cls) (d2 := d - 1) [.int x2] d_M_spell_147 mi_M_told wd_1520 wd_1522 ws_M_told (by decide) (el_M (show ay_sh 30 = _ from rfl)) rfl rfl (by omega) rfl rfl (Nat.le_of_ble_eq_true rfl) ?_
    refine Call.post ?_ (cf_M_told_ok (by omega) x2  w _ h)
    rintro _ _ ⟨r4, rfl, rfl, h⟩
    show wp g (fun _ => True) y_M_spell prog_14_method_90_code 5 (some FieldType.int) d 150 [(0, .ref (g.1 + 30)), (2, .int x2), (3, .int x3)] [.int r4] w Q
    exact am_ireturn d_M_spell_150 rfl rfl (hQ r4 w h)
  · have h := h.2 c53
    refine am_iconst (v := 1) d_M_spell_56 rfl ?_
    refine am_istore (l' := [(4, .int (1 : Int32)), (0, .ref (g.1 + 30)), (2, .int x2), (3, .int x3)]) d_M_spell_57 (by decide) rfl ?_
    refine am_sub [1, 2, 3, 0] rfl ?_
    obtain ⟨n, h⟩ := h
    exact cf_M_spell_L59_ok (by omega)   K48 P Q hQ hK48 n x2 x3 (1 : Int32) w h
theorem cf_M_spell_L48_ok {g : ayG} {d : Nat} (hd : 16 ≤ d)    (P : Int32 → Wd → Prop) (Q : Option Value → Wd → Prop) (hQ : ∀ x w2, P x w2 → Q (some (.int x)) w2)  : ∀ (n : Nat) (x2 : Int32) (x3 : Int32) (w : Wd) (h : cf_M_spell_L48 P n x2 x3 w), wp g (fun _ => True) y_M_spell prog_14_method_90_code 5 (some FieldType.int) d 48 [(0, .ref (g.1 + 30)), (2, .int x2), (3, .int x3)] [] w Q
  | 0, x2, x3, w, h => False.elim h
  | n + 1, x2, x3, w, h => cf_M_spell_B48_ok hd   w (cf_M_spell_L48 P n) P Q hQ (fun x2 x3 w h => cf_M_spell_L48_ok hd    P Q hQ  n x2 x3 w h) x2 x3 h
theorem cf_M_spell_ok {g : ayG} {d : Nat} (hd : 16 ≤ d) (a0 : Int32) (a1 : Int32)  (w : Wd) (P : Int32 → Wd → Prop) (h : cf_M_spell a0 a1 w P) : Call g y_M_spell prog_14_method_90_code 5 (some FieldType.int) d [.ref (g.1 + 30), .int a0, .int a1] w (fun (r : Option Value) (w2 : Wd) => ∃ x, r = some (.int x) ∧ P x w2) := by
  unfold cf_M_spell at h
  refine am_enter mi_M_spell (Nat.le_of_ble_eq_true rfl) ?_
  have hQ : ∀ x w2, P x w2 → (fun (r : Option Value) (w2 : Wd) => ∃ x, r = some (.int x) ∧ P x w2) (some (.int x)) w2 := fun x w2 h => ⟨x, rfl, h⟩
  generalize (fun (r : Option Value) (w2 : Wd) => ∃ x, r = some (.int x) ∧ P x w2) = Q at hQ ⊢
  show wp g (fun _ => True) y_M_spell prog_14_method_90_code 5 (some FieldType.int) d 0 [(0, .ref (g.1 + 30)), (1, .int a0), (2, .int a1)] [] w Q
  refine am_iload_n d_M_spell_0 1 rfl ?_
  refine am_callS (d2 := d - 1) [.int a0] d_M_spell_1 mi_M_isPlace wd_1188 wd_1189 (by omega) rfl rfl (Nat.le_of_ble_eq_true rfl) ?_
  refine Call.post ?_ (cf_M_isPlace_ok (by omega) a0  w _ h)
  rintro _ _ ⟨r1, rfl, rfl, h⟩
  show wp g (fun _ => True) y_M_spell prog_14_method_90_code 5 (some FieldType.int) d 4 [(0, .ref (g.1 + 30)), (1, .int a0), (2, .int a1)] [.int r1] w Q
  refine am_if_eq (tgt := 12) d_M_spell_4 (by decide) (fun c4 => ?_) (fun c4 => ?_)
  · have h := h.1 c4
    refine am_iconst (v := -1) d_M_spell_12 rfl ?_
    exact am_ireturn d_M_spell_13 rfl rfl (hQ (-1 : Int32) w h)
  · have h := h.2 c4
    refine am_iload_n d_M_spell_7 2 rfl ?_
    refine am_iconst (v := -1) d_M_spell_8 rfl ?_
    refine am_icmp_ge (tgt := 14) d_M_spell_9 (by decide) (fun c9 => ?_) (fun c9 => ?_)
    · have h := h.1 c9
      refine am_aload_n d_M_spell_14 0 rfl ?_
      refine am_iload_n d_M_spell_15 2 rfl ?_
      refine am_callV (C := y_M_begins.cls) (d2 := d - 1) [.int a1] d_M_spell_16 mi_M_begins wd_1500 wd_1502 ws_M_begins (by decide) (el_M (show ay_sh 30 = _ from rfl)) rfl rfl (by omega) rfl rfl (Nat.le_of_ble_eq_true rfl) ?_
      refine Call.post ?_ (cf_M_begins_ok (by omega) a1  w _ h)
      rintro _ w2 ⟨rfl, h⟩
      show wp g (fun _ => True) y_M_spell prog_14_method_90_code 5 (some FieldType.int) d 19 [(0, .ref (g.1 + 30)), (1, .int a0), (2, .int a1)] [] w2 Q
      refine am_aload_n d_M_spell_19 0 rfl ?_
      refine am_aload_n d_M_spell_20 0 rfl ?_
      refine am_getf (T := F_M) (fs := ob_M g w2 30) (C := R_M) (N := 35) (ci := 10) 0 d_M_spell_21 wd_1077 rfl (by decide) (el_M (show ay_sh 30 = _ from rfl)) rfl i_M (by decide) rfl ?_
      refine am_iload_n d_M_spell_24 1 rfl ?_
      have hi25 := h.1
      have h := h.2
      refine am_laload d_M_spell_25 (show ay_sh 31 = _ from rfl) hi25 ?_
      refine am_callV (C := y_M_laysFactors.cls) (d2 := d - 1) [.long (w2.2 31 a0.toNatClampNeg)] d_M_spell_26 mi_M_laysFactors wd_1201 wd_1203 ws_M_laysFactors (by decide) (el_M (show ay_sh 30 = _ from rfl)) rfl rfl (by omega) rfl rfl (Nat.le_of_ble_eq_true rfl) ?_
      refine Call.post ?_ (cf_M_laysFactors_ok (by omega) (w2.2 31 a0.toNatClampNeg)  w2 _ h)
      rintro _ w3 ⟨rfl, h⟩
      show wp g (fun _ => True) y_M_spell prog_14_method_90_code 5 (some FieldType.int) d 29 [(0, .ref (g.1 + 30)), (1, .int a0), (2, .int a1)] [] w3 Q
      refine am_aload_n d_M_spell_29 0 rfl ?_
      refine am_getf (T := F_M) (fs := ob_M g w3 30) (C := R_M) (N := 35) (ci := 10) 6 d_M_spell_30 wd_1083 rfl (by decide) (el_M (show ay_sh 30 = _ from rfl)) rfl i_M (by decide) rfl ?_
      refine am_if_ne (tgt := 46) d_M_spell_33 (by decide) (fun c33 => ?_) (fun c33 => ?_)
      · have h := h.1 c33
        refine am_iconst (v := 0) d_M_spell_46 rfl ?_
        refine am_istore_n (l' := [(3, .int (0 : Int32)), (0, .ref (g.1 + 30)), (1, .int a0), (2, .int a1)]) d_M_spell_47 (by decide) rfl ?_
        refine am_sub [1, 3, 0] rfl ?_
        obtain ⟨n, h⟩ := h
        exact cf_M_spell_L48_ok (by omega)    P Q hQ  n a1 (0 : Int32) w3 h
      · have h := h.2 c33
        refine am_aload_n d_M_spell_36 0 rfl ?_
        refine am_aload_n d_M_spell_37 0 rfl ?_
        refine am_getf (T := F_M) (fs := ob_M g w3 30) (C := R_M) (N := 35) (ci := 10) 0 d_M_spell_38 wd_1077 rfl (by decide) (el_M (show ay_sh 30 = _ from rfl)) rfl i_M (by decide) rfl ?_
        refine am_iload_n d_M_spell_41 1 rfl ?_
        have hi42 := h.1
        have h := h.2
        refine am_laload d_M_spell_42 (show ay_sh 31 = _ from rfl) hi42 ?_
        refine am_callV (C := y_M_spellPoly.cls) (d2 := d - 1) [.long (w3.2 31 a0.toNatClampNeg)] d_M_spell_43 mi_M_spellPoly wd_1504 wd_1506 ws_M_spellPoly (by decide) (el_M (show ay_sh 30 = _ from rfl)) rfl rfl (by omega) rfl rfl (Nat.le_of_ble_eq_true rfl) ?_
        refine Call.post ?_ (cf_M_spellPoly_ok (by omega) (w3.2 31 a0.toNatClampNeg)  w3 _ h)
        rintro _ w14 ⟨rfl, h⟩
        show wp g (fun _ => True) y_M_spell prog_14_method_90_code 5 (some FieldType.int) d 46 [(0, .ref (g.1 + 30)), (1, .int a0), (2, .int a1)] [] w14 Q
        refine am_iconst (v := 0) d_M_spell_46 rfl ?_
        refine am_istore_n (l' := [(3, .int (0 : Int32)), (0, .ref (g.1 + 30)), (1, .int a0), (2, .int a1)]) d_M_spell_47 (by decide) rfl ?_
        refine am_sub [1, 3, 0] rfl ?_
        obtain ⟨n, h⟩ := h
        exact cf_M_spell_L48_ok (by omega)    P Q hQ  n a1 (0 : Int32) w14 h
    · have h := h.2 c9
      refine am_iconst (v := -1) d_M_spell_12 rfl ?_
      exact am_ireturn d_M_spell_13 rfl rfl (hQ (-1 : Int32) w h)
theorem d_M_placesThat_0 : decode prog_14_method_91_code 0 = .ok (.iconst 0, 1) := by decide +kernel
theorem d_M_placesThat_1 : decode prog_14_method_91_code 1 = .ok (.istore_n 2, 1) := by decide +kernel
theorem d_M_placesThat_2 : decode prog_14_method_91_code 2 = .ok (.iconst 0, 1) := by decide +kernel
theorem d_M_placesThat_3 : decode prog_14_method_91_code 3 = .ok (.istore_n 3, 1) := by decide +kernel
theorem d_M_placesThat_4 : decode prog_14_method_91_code 4 = .ok (.iload_n 3, 1) := by decide +kernel
theorem d_M_placesThat_5 : decode prog_14_method_91_code 5 = .ok (.bipush 10, 2) := by decide +kernel
theorem d_M_placesThat_7 : decode prog_14_method_91_code 7 = .ok (.if_icmp .ge 50, 3) := by decide +kernel
theorem d_M_placesThat_10 : decode prog_14_method_91_code 10 = .ok (.iload_n 2, 1) := by decide +kernel
theorem d_M_placesThat_11 : decode prog_14_method_91_code 11 = .ok (.iload_n 1, 1) := by decide +kernel
theorem d_M_placesThat_12 : decode prog_14_method_91_code 12 = .ok (.ifCond .eq 19, 3) := by decide +kernel
theorem d_M_placesThat_15 : decode prog_14_method_91_code 15 = .ok (.aload_n 0, 1) := by decide +kernel
theorem d_M_placesThat_16 : decode prog_14_method_91_code 16 = .ok (.aload_n 0, 1) := by decide +kernel
theorem d_M_placesThat_17 : decode prog_14_method_91_code 17 = .ok (.getfield 7, 3) := by decide +kernel
theorem d_M_placesThat_20 : decode prog_14_method_91_code 20 = .ok (.iload_n 3, 1) := by decide +kernel
theorem d_M_placesThat_21 : decode prog_14_method_91_code 21 = .ok (.laload, 1) := by decide +kernel
theorem d_M_placesThat_22 : decode prog_14_method_91_code 22 = .ok (.invokevirtual 140, 3) := by decide +kernel
theorem d_M_placesThat_25 : decode prog_14_method_91_code 25 = .ok (.ifCond .eq 23, 3) := by decide +kernel
theorem d_M_placesThat_28 : decode prog_14_method_91_code 28 = .ok (.goto 14, 3) := by decide +kernel
theorem d_M_placesThat_31 : decode prog_14_method_91_code 31 = .ok (.aload_n 0, 1) := by decide +kernel
theorem d_M_placesThat_32 : decode prog_14_method_91_code 32 = .ok (.getfield 7, 3) := by decide +kernel
theorem d_M_placesThat_35 : decode prog_14_method_91_code 35 = .ok (.iload_n 3, 1) := by decide +kernel
theorem d_M_placesThat_36 : decode prog_14_method_91_code 36 = .ok (.laload, 1) := by decide +kernel
theorem d_M_placesThat_37 : decode prog_14_method_91_code 37 = .ok (.lconst 0, 1) := by decide +kernel
theorem d_M_placesThat_38 : decode prog_14_method_91_code 38 = .ok (.lcmp, 1) := by decide +kernel
theorem d_M_placesThat_39 : decode prog_14_method_91_code 39 = .ok (.ifCond .eq 9, 3) := by decide +kernel
theorem d_M_placesThat_42 : decode prog_14_method_91_code 42 = .ok (.iconst 1, 1) := by decide +kernel
theorem d_M_placesThat_43 : decode prog_14_method_91_code 43 = .ok (.iload_n 3, 1) := by decide +kernel
theorem d_M_placesThat_44 : decode prog_14_method_91_code 44 = .ok (.ishl, 1) := by decide +kernel
theorem d_M_placesThat_45 : decode prog_14_method_91_code 45 = .ok (.goto 4, 3) := by decide +kernel
theorem d_M_placesThat_48 : decode prog_14_method_91_code 48 = .ok (.iconst 0, 1) := by decide +kernel
theorem d_M_placesThat_49 : decode prog_14_method_91_code 49 = .ok (.ior, 1) := by decide +kernel
theorem d_M_placesThat_50 : decode prog_14_method_91_code 50 = .ok (.istore_n 2, 1) := by decide +kernel
theorem d_M_placesThat_51 : decode prog_14_method_91_code 51 = .ok (.iinc 3 1, 3) := by decide +kernel
theorem d_M_placesThat_54 : decode prog_14_method_91_code 54 = .ok (.goto (-50), 3) := by decide +kernel
theorem d_M_placesThat_57 : decode prog_14_method_91_code 57 = .ok (.iload_n 2, 1) := by decide +kernel
theorem d_M_placesThat_58 : decode prog_14_method_91_code 58 = .ok (.ireturn, 1) := by decide +kernel
def cf_M_placesThat_B4  (K4 : Int32 → Int32 → Int32 → Wd → Prop) (P : Int32 → Wd → Prop) (x1 : Int32) (x2 : Int32) (x3 : Int32) (w : Wd) : Prop :=
  (((10 : Int32) ≤ x3 → P x2 w) ∧ (¬ (10 : Int32) ≤ x3 → ((x1 = 0 → vp_in x3 14 ∧ (((w.2 31 x3.toNatClampNeg) = (0 : Int64) → ∀ v1, v1 = x2 ||| (0 : Int32) → ∀ v2, v2 = x3 + (1 : Int32) → K4 x1 v1 v2 w) ∧ (¬ (w.2 31 x3.toNatClampNeg) = (0 : Int64) → ∀ v3, v3 = x2 ||| (ishl (1 : Int32) x3) → ∀ v4, v4 = x3 + (1 : Int32) → K4 x1 v3 v4 w))) ∧ (¬ x1 = 0 → vp_in x3 14 ∧ cf_M_isIrreducible (w.2 31 x3.toNatClampNeg) w (fun r5 w6 => ((r5 = 0 → ∀ v7, v7 = x2 ||| (0 : Int32) → ∀ v8, v8 = x3 + (1 : Int32) → K4 x1 v7 v8 w6) ∧ (¬ r5 = 0 → ∀ v9, v9 = x2 ||| (ishl (1 : Int32) x3) → ∀ v10, v10 = x3 + (1 : Int32) → K4 x1 v9 v10 w6)))))))
def cf_M_placesThat_L4   (P : Int32 → Wd → Prop) : Nat → Int32 → Int32 → Int32 → Wd → Prop
  | 0 => fun x1 x2 x3 w => False
  | n + 1 => fun x1 x2 x3 w => cf_M_placesThat_B4 (cf_M_placesThat_L4 P n) P x1 x2 x3 w
def cf_M_placesThat (a0 : Int32) (w : Wd) (P : Int32 → Wd → Prop) : Prop :=
  ∃ n, cf_M_placesThat_L4 P n a0 (0 : Int32) (0 : Int32) w
theorem cf_M_placesThat_B4_ok {g : ayG} {d : Nat} (hd : 4 ≤ d)   (w : Wd) (K4 : Int32 → Int32 → Int32 → Wd → Prop) (P : Int32 → Wd → Prop) (Q : Option Value → Wd → Prop) (hQ : ∀ x w2, P x w2 → Q (some (.int x)) w2) (hK4 : ∀ (x1 : Int32) (x2 : Int32) (x3 : Int32) (w : Wd), (K4 x1 x2 x3 w → wp g (fun _ => True) y_M_placesThat prog_14_method_91_code 4 (some FieldType.int) d 4 [(0, .ref (g.1 + 30)), (1, .int x1), (2, .int x2), (3, .int x3)] [] w Q)) (x1 : Int32) (x2 : Int32) (x3 : Int32) (h : cf_M_placesThat_B4 K4 P x1 x2 x3 w) : wp g (fun _ => True) y_M_placesThat prog_14_method_91_code 4 (some FieldType.int) d 4 [(0, .ref (g.1 + 30)), (1, .int x1), (2, .int x2), (3, .int x3)] [] w Q := by
  unfold cf_M_placesThat_B4 at h
  refine am_iload_n d_M_placesThat_4 3 rfl ?_
  refine am_bipush (v := 10) d_M_placesThat_5 rfl ?_
  refine am_icmp_ge (tgt := 57) d_M_placesThat_7 (by decide) (fun c7 => ?_) (fun c7 => ?_)
  · have h := h.1 c7
    refine am_iload_n d_M_placesThat_57 2 rfl ?_
    exact am_ireturn d_M_placesThat_58 rfl rfl (hQ x2 w h)
  · have h := h.2 c7
    refine am_iload_n d_M_placesThat_10 2 rfl ?_
    refine am_iload_n d_M_placesThat_11 1 rfl ?_
    refine am_if_eq (tgt := 31) d_M_placesThat_12 (by decide) (fun c12 => ?_) (fun c12 => ?_)
    · have h := h.1 c12
      refine am_aload_n d_M_placesThat_31 0 rfl ?_
      refine am_getf (T := F_M) (fs := ob_M g w 30) (C := R_M) (N := 35) (ci := 10) 0 d_M_placesThat_32 wd_1077 rfl (by decide) (el_M (show ay_sh 30 = _ from rfl)) rfl i_M (by decide) rfl ?_
      refine am_iload_n d_M_placesThat_35 3 rfl ?_
      have hi36 := h.1
      have h := h.2
      refine am_laload d_M_placesThat_36 (show ay_sh 31 = _ from rfl) hi36 ?_
      refine am_lconst (v := 0) d_M_placesThat_37 rfl ?_
      refine am_lif_eq (tgt := 48) d_M_placesThat_38 d_M_placesThat_39 (by decide) (fun c38 => ?_) (fun c38 => ?_)
      · have h := h.1 c38
        refine am_iconst (v := 0) d_M_placesThat_48 rfl ?_
        refine am_ior d_M_placesThat_49 ?_
        refine am_topi (fun v1 ev1 => ?_)
        have h := h v1 ev1
        refine am_istore_n (l' := [(2, .int v1), (0, .ref (g.1 + 30)), (1, .int x1), (3, .int x3)]) d_M_placesThat_50 (by decide) rfl ?_
        obtain ⟨v2, ev2⟩ : ∃ z : Int32, z = x3 + (1 : Int32) := ⟨_, rfl⟩
        have h := h v2 ev2
        refine am_iinc (v := v2) (l' := [(3, .int v2), (2, .int v1), (0, .ref (g.1 + 30)), (1, .int x1)]) d_M_placesThat_51 3 rfl (by rw [ev2]; rfl) (by decide) rfl ?_
        refine am_goto (tgt := 4) d_M_placesThat_54 (by decide) ?_
        refine am_sub [2, 3, 1, 0] rfl ?_
        exact hK4 x1 v1 v2 w h
      · have h := h.2 c38
        refine am_iconst (v := 1) d_M_placesThat_42 rfl ?_
        refine am_iload_n d_M_placesThat_43 3 rfl ?_
        refine am_ishl d_M_placesThat_44 ?_
        refine am_goto (tgt := 49) d_M_placesThat_45 (by decide) ?_
        refine am_ior d_M_placesThat_49 ?_
        refine am_topi (fun v3 ev3 => ?_)
        have h := h v3 ev3
        refine am_istore_n (l' := [(2, .int v3), (0, .ref (g.1 + 30)), (1, .int x1), (3, .int x3)]) d_M_placesThat_50 (by decide) rfl ?_
        obtain ⟨v4, ev4⟩ : ∃ z : Int32, z = x3 + (1 : Int32) := ⟨_, rfl⟩
        have h := h v4 ev4
        refine am_iinc (v := v4) (l' := [(3, .int v4), (2, .int v3), (0, .ref (g.1 + 30)), (1, .int x1)]) d_M_placesThat_51 3 rfl (by rw [ev4]; rfl) (by decide) rfl ?_
        refine am_goto (tgt := 4) d_M_placesThat_54 (by decide) ?_
        refine am_sub [2, 3, 1, 0] rfl ?_
        exact hK4 x1 v3 v4 w h
    · have h := h.2 c12
      refine am_aload_n d_M_placesThat_15 0 rfl ?_
      refine am_aload_n d_M_placesThat_16 0 rfl ?_
      refine am_getf (T := F_M) (fs := ob_M g w 30) (C := R_M) (N := 35) (ci := 10) 0 d_M_placesThat_17 wd_1077 rfl (by decide) (el_M (show ay_sh 30 = _ from rfl)) rfl i_M (by decide) rfl ?_
      refine am_iload_n d_M_placesThat_20 3 rfl ?_
      have hi21 := h.1
      have h := h.2
      refine am_laload d_M_placesThat_21 (show ay_sh 31 = _ from rfl) hi21 ?_
      refine am_callV (C := y_M_isIrreducible.cls) (d2 := d - 1) [.long (w.2 31 x3.toNatClampNeg)] d_M_placesThat_22 mi_M_isIrreducible wd_1232 wd_1234 ws_M_isIrreducible (by decide) (el_M (show ay_sh 30 = _ from rfl)) rfl rfl (by omega) rfl rfl (Nat.le_of_ble_eq_true rfl) ?_
      refine Call.post ?_ (cf_M_isIrreducible_ok (by omega) (w.2 31 x3.toNatClampNeg)  w _ h)
      rintro _ w6 ⟨r5, rfl, h⟩
      show wp g (fun _ => True) y_M_placesThat prog_14_method_91_code 4 (some FieldType.int) d 25 [(0, .ref (g.1 + 30)), (1, .int x1), (2, .int x2), (3, .int x3)] [.int r5, .int x2] w6 Q
      refine am_if_eq (tgt := 48) d_M_placesThat_25 (by decide) (fun c25 => ?_) (fun c25 => ?_)
      · have h := h.1 c25
        refine am_iconst (v := 0) d_M_placesThat_48 rfl ?_
        refine am_ior d_M_placesThat_49 ?_
        refine am_topi (fun v7 ev7 => ?_)
        have h := h v7 ev7
        refine am_istore_n (l' := [(2, .int v7), (0, .ref (g.1 + 30)), (1, .int x1), (3, .int x3)]) d_M_placesThat_50 (by decide) rfl ?_
        obtain ⟨v8, ev8⟩ : ∃ z : Int32, z = x3 + (1 : Int32) := ⟨_, rfl⟩
        have h := h v8 ev8
        refine am_iinc (v := v8) (l' := [(3, .int v8), (2, .int v7), (0, .ref (g.1 + 30)), (1, .int x1)]) d_M_placesThat_51 3 rfl (by rw [ev8]; rfl) (by decide) rfl ?_
        refine am_goto (tgt := 4) d_M_placesThat_54 (by decide) ?_
        refine am_sub [2, 3, 1, 0] rfl ?_
        exact hK4 x1 v7 v8 w6 h
      · have h := h.2 c25
        refine am_goto (tgt := 42) d_M_placesThat_28 (by decide) ?_
        refine am_iconst (v := 1) d_M_placesThat_42 rfl ?_
        refine am_iload_n d_M_placesThat_43 3 rfl ?_
        refine am_ishl d_M_placesThat_44 ?_
        refine am_goto (tgt := 49) d_M_placesThat_45 (by decide) ?_
        refine am_ior d_M_placesThat_49 ?_
        refine am_topi (fun v9 ev9 => ?_)
        have h := h v9 ev9
        refine am_istore_n (l' := [(2, .int v9), (0, .ref (g.1 + 30)), (1, .int x1), (3, .int x3)]) d_M_placesThat_50 (by decide) rfl ?_
        obtain ⟨v10, ev10⟩ : ∃ z : Int32, z = x3 + (1 : Int32) := ⟨_, rfl⟩
        have h := h v10 ev10
        refine am_iinc (v := v10) (l' := [(3, .int v10), (2, .int v9), (0, .ref (g.1 + 30)), (1, .int x1)]) d_M_placesThat_51 3 rfl (by rw [ev10]; rfl) (by decide) rfl ?_
        refine am_goto (tgt := 4) d_M_placesThat_54 (by decide) ?_
        refine am_sub [2, 3, 1, 0] rfl ?_
        exact hK4 x1 v9 v10 w6 h
theorem cf_M_placesThat_L4_ok {g : ayG} {d : Nat} (hd : 4 ≤ d)    (P : Int32 → Wd → Prop) (Q : Option Value → Wd → Prop) (hQ : ∀ x w2, P x w2 → Q (some (.int x)) w2)  : ∀ (n : Nat) (x1 : Int32) (x2 : Int32) (x3 : Int32) (w : Wd) (h : cf_M_placesThat_L4 P n x1 x2 x3 w), wp g (fun _ => True) y_M_placesThat prog_14_method_91_code 4 (some FieldType.int) d 4 [(0, .ref (g.1 + 30)), (1, .int x1), (2, .int x2), (3, .int x3)] [] w Q
  | 0, x1, x2, x3, w, h => False.elim h
  | n + 1, x1, x2, x3, w, h => cf_M_placesThat_B4_ok hd   w (cf_M_placesThat_L4 P n) P Q hQ (fun x1 x2 x3 w h => cf_M_placesThat_L4_ok hd    P Q hQ  n x1 x2 x3 w h) x1 x2 x3 h
theorem cf_M_placesThat_ok {g : ayG} {d : Nat} (hd : 4 ≤ d) (a0 : Int32)  (w : Wd) (P : Int32 → Wd → Prop) (h : cf_M_placesThat a0 w P) : Call g y_M_placesThat prog_14_method_91_code 4 (some FieldType.int) d [.ref (g.1 + 30), .int a0] w (fun (r : Option Value) (w2 : Wd) => ∃ x, r = some (.int x) ∧ P x w2) := by
  unfold cf_M_placesThat at h
  refine am_enter mi_M_placesThat (Nat.le_of_ble_eq_true rfl) ?_
  have hQ : ∀ x w2, P x w2 → (fun (r : Option Value) (w2 : Wd) => ∃ x, r = some (.int x) ∧ P x w2) (some (.int x)) w2 := fun x w2 h => ⟨x, rfl, h⟩
  generalize (fun (r : Option Value) (w2 : Wd) => ∃ x, r = some (.int x) ∧ P x w2) = Q at hQ ⊢
  show wp g (fun _ => True) y_M_placesThat prog_14_method_91_code 4 (some FieldType.int) d 0 [(0, .ref (g.1 + 30)), (1, .int a0)] [] w Q
  refine am_iconst (v := 0) d_M_placesThat_0 rfl ?_
  refine am_istore_n (l' := [(2, .int (0 : Int32)), (0, .ref (g.1 + 30)), (1, .int a0)]) d_M_placesThat_1 (by decide) rfl ?_
  refine am_iconst (v := 0) d_M_placesThat_2 rfl ?_
  refine am_istore_n (l' := [(3, .int (0 : Int32)), (2, .int (0 : Int32)), (0, .ref (g.1 + 30)), (1, .int a0)]) d_M_placesThat_3 (by decide) rfl ?_
  refine am_sub [2, 3, 1, 0] rfl ?_
  obtain ⟨n, h⟩ := h
  exact cf_M_placesThat_L4_ok (by omega)    P Q hQ  n a0 (0 : Int32) (0 : Int32) w h
theorem d_M_allWeights_0 : decode prog_14_method_92_code 0 = .ok (.iconst 0, 1) := by decide +kernel
theorem d_M_allWeights_1 : decode prog_14_method_92_code 1 = .ok (.istore_n 1, 1) := by decide +kernel
theorem d_M_allWeights_2 : decode prog_14_method_92_code 2 = .ok (.iconst 0, 1) := by decide +kernel
theorem d_M_allWeights_3 : decode prog_14_method_92_code 3 = .ok (.istore_n 2, 1) := by decide +kernel
theorem d_M_allWeights_4 : decode prog_14_method_92_code 4 = .ok (.iload_n 2, 1) := by decide +kernel
theorem d_M_allWeights_5 : decode prog_14_method_92_code 5 = .ok (.bipush 10, 2) := by decide +kernel
theorem d_M_allWeights_7 : decode prog_14_method_92_code 7 = .ok (.if_icmp .ge 21, 3) := by decide +kernel
theorem d_M_allWeights_10 : decode prog_14_method_92_code 10 = .ok (.iload_n 1, 1) := by decide +kernel
theorem d_M_allWeights_11 : decode prog_14_method_92_code 11 = .ok (.aload_n 0, 1) := by decide +kernel
theorem d_M_allWeights_12 : decode prog_14_method_92_code 12 = .ok (.getfield 7, 3) := by decide +kernel
theorem d_M_allWeights_15 : decode prog_14_method_92_code 15 = .ok (.iload_n 2, 1) := by decide +kernel
theorem d_M_allWeights_16 : decode prog_14_method_92_code 16 = .ok (.laload, 1) := by decide +kernel
theorem d_M_allWeights_17 : decode prog_14_method_92_code 17 = .ok (.invokestatic 156, 3) := by decide +kernel
theorem d_M_allWeights_20 : decode prog_14_method_92_code 20 = .ok (.iadd, 1) := by decide +kernel
theorem d_M_allWeights_21 : decode prog_14_method_92_code 21 = .ok (.istore_n 1, 1) := by decide +kernel
theorem d_M_allWeights_22 : decode prog_14_method_92_code 22 = .ok (.iinc 2 1, 3) := by decide +kernel
theorem d_M_allWeights_25 : decode prog_14_method_92_code 25 = .ok (.goto (-21), 3) := by decide +kernel
theorem d_M_allWeights_28 : decode prog_14_method_92_code 28 = .ok (.iload_n 1, 1) := by decide +kernel
theorem d_M_allWeights_29 : decode prog_14_method_92_code 29 = .ok (.ireturn, 1) := by decide +kernel
def cf_M_allWeights_B4  (w : Wd) (K4 : Int32 → Int32 → Prop) (P : Int32 → Prop) (x1 : Int32) (x2 : Int32)  : Prop :=
  (((10 : Int32) ≤ x2 → P x1) ∧ (¬ (10 : Int32) ≤ x2 → vp_in x2 14 ∧ cf_M_weight (w.2 31 x2.toNatClampNeg) (fun r1 => ∀ v2, v2 = x1 + r1 → ∀ v3, v3 = x2 + (1 : Int32) → K4 v2 v3)))
def cf_M_allWeights_L4  (w : Wd)  (P : Int32 → Prop) : Nat → Int32 → Int32 → Prop
  | 0 => fun x1 x2 => False
  | n + 1 => fun x1 x2 => cf_M_allWeights_B4 w (cf_M_allWeights_L4 w P n) P x1 x2
def cf_M_allWeights  (w : Wd) (P : Int32 → Prop) : Prop :=
  ∃ n, cf_M_allWeights_L4 w P n (0 : Int32) (0 : Int32)
theorem cf_M_allWeights_B4_ok {g : ayG} {d : Nat} (hd : 2 ≤ d)   (w : Wd) (K4 : Int32 → Int32 → Prop) (P : Int32 → Prop) (Q : Option Value → Wd → Prop) (hQ : ∀ x, P x → Q (some (.int x)) w) (hK4 : ∀ (x1 : Int32) (x2 : Int32), (K4 x1 x2 → wp g (fun _ => True) y_M_allWeights prog_14_method_92_code 3 (some FieldType.int) d 4 [(0, .ref (g.1 + 30)), (1, .int x1), (2, .int x2)] [] w Q)) (x1 : Int32) (x2 : Int32) (h : cf_M_allWeights_B4 w K4 P x1 x2) : wp g (fun _ => True) y_M_allWeights prog_14_method_92_code 3 (some FieldType.int) d 4 [(0, .ref (g.1 + 30)), (1, .int x1), (2, .int x2)] [] w Q := by
  unfold cf_M_allWeights_B4 at h
  refine am_iload_n d_M_allWeights_4 2 rfl ?_
  refine am_bipush (v := 10) d_M_allWeights_5 rfl ?_
  refine am_icmp_ge (tgt := 28) d_M_allWeights_7 (by decide) (fun c7 => ?_) (fun c7 => ?_)
  · have h := h.1 c7
    refine am_iload_n d_M_allWeights_28 1 rfl ?_
    exact am_ireturn d_M_allWeights_29 rfl rfl (hQ x1 h)
  · have h := h.2 c7
    refine am_iload_n d_M_allWeights_10 1 rfl ?_
    refine am_aload_n d_M_allWeights_11 0 rfl ?_
    refine am_getf (T := F_M) (fs := ob_M g w 30) (C := R_M) (N := 35) (ci := 10) 0 d_M_allWeights_12 wd_1077 rfl (by decide) (el_M (show ay_sh 30 = _ from rfl)) rfl i_M (by decide) rfl ?_
    refine am_iload_n d_M_allWeights_15 2 rfl ?_
    have hi16 := h.1
    have h := h.2
    refine am_laload d_M_allWeights_16 (show ay_sh 31 = _ from rfl) hi16 ?_
    refine am_callS (d2 := d - 1) [.long (w.2 31 x2.toNatClampNeg)] d_M_allWeights_17 mi_M_weight wd_1218 wd_1219 (by omega) rfl rfl (Nat.le_of_ble_eq_true rfl) ?_
    refine Call.post ?_ (cf_M_weight_ok (by omega) (w.2 31 x2.toNatClampNeg)  w _ h)
    rintro _ _ ⟨r1, rfl, rfl, h⟩
    show wp g (fun _ => True) y_M_allWeights prog_14_method_92_code 3 (some FieldType.int) d 20 [(0, .ref (g.1 + 30)), (1, .int x1), (2, .int x2)] [.int r1, .int x1] w Q
    refine am_iadd d_M_allWeights_20 ?_
    refine am_topi (fun v2 ev2 => ?_)
    have h := h v2 ev2
    refine am_istore_n (l' := [(1, .int v2), (0, .ref (g.1 + 30)), (2, .int x2)]) d_M_allWeights_21 (by decide) rfl ?_
    obtain ⟨v3, ev3⟩ : ∃ z : Int32, z = x2 + (1 : Int32) := ⟨_, rfl⟩
    have h := h v3 ev3
    refine am_iinc (v := v3) (l' := [(2, .int v3), (1, .int v2), (0, .ref (g.1 + 30))]) d_M_allWeights_22 2 rfl (by rw [ev3]; rfl) (by decide) rfl ?_
    refine am_goto (tgt := 4) d_M_allWeights_25 (by decide) ?_
    refine am_sub [2, 1, 0] rfl ?_
    exact hK4 v2 v3 h
theorem cf_M_allWeights_L4_ok {g : ayG} {d : Nat} (hd : 2 ≤ d)   (w : Wd)  (P : Int32 → Prop) (Q : Option Value → Wd → Prop) (hQ : ∀ x, P x → Q (some (.int x)) w)  : ∀ (n : Nat) (x1 : Int32) (x2 : Int32) (h : cf_M_allWeights_L4 w P n x1 x2), wp g (fun _ => True) y_M_allWeights prog_14_method_92_code 3 (some FieldType.int) d 4 [(0, .ref (g.1 + 30)), (1, .int x1), (2, .int x2)] [] w Q
  | 0, x1, x2, h => False.elim h
  | n + 1, x1, x2, h => cf_M_allWeights_B4_ok hd   w (cf_M_allWeights_L4 w P n) P Q hQ (fun x1 x2 h => cf_M_allWeights_L4_ok hd   w  P Q hQ  n x1 x2 h) x1 x2 h
theorem cf_M_allWeights_ok {g : ayG} {d : Nat} (hd : 2 ≤ d)   (w : Wd) (P : Int32 → Prop) (h : cf_M_allWeights w P) : Call g y_M_allWeights prog_14_method_92_code 3 (some FieldType.int) d [.ref (g.1 + 30)] w (fun (r : Option Value) (w2 : Wd) => ∃ x, r = some (.int x) ∧ w = w2 ∧ P x) := by
  unfold cf_M_allWeights at h
  refine am_enter mi_M_allWeights (Nat.le_of_ble_eq_true rfl) ?_
  have hQ : ∀ x, P x → (fun (r : Option Value) (w2 : Wd) => ∃ x, r = some (.int x) ∧ w = w2 ∧ P x) (some (.int x)) w := fun x h => ⟨x, rfl, rfl, h⟩
  generalize (fun (r : Option Value) (w2 : Wd) => ∃ x, r = some (.int x) ∧ w = w2 ∧ P x) = Q at hQ ⊢
  show wp g (fun _ => True) y_M_allWeights prog_14_method_92_code 3 (some FieldType.int) d 0 [(0, .ref (g.1 + 30))] [] w Q
  refine am_iconst (v := 0) d_M_allWeights_0 rfl ?_
  refine am_istore_n (l' := [(1, .int (0 : Int32)), (0, .ref (g.1 + 30))]) d_M_allWeights_1 (by decide) rfl ?_
  refine am_iconst (v := 0) d_M_allWeights_2 rfl ?_
  refine am_istore_n (l' := [(2, .int (0 : Int32)), (1, .int (0 : Int32)), (0, .ref (g.1 + 30))]) d_M_allWeights_3 (by decide) rfl ?_
  refine am_sub [2, 1, 0] rfl ?_
  obtain ⟨n, h⟩ := h
  exact cf_M_allWeights_L4_ok (by omega)   w  P Q hQ  n (0 : Int32) (0 : Int32) h
theorem d_M_count_0 : decode prog_14_method_93_code 0 = .ok (.iload_n 1, 1) := by decide +kernel
theorem d_M_count_1 : decode prog_14_method_93_code 1 = .ok (.tableswitch 96 0 5 #[39, 45, 50, 55, 85, 91], 39) := by decide +kernel
theorem d_M_count_40 : decode prog_14_method_93_code 40 = .ok (.aload_n 0, 1) := by decide +kernel
theorem d_M_count_41 : decode prog_14_method_93_code 41 = .ok (.iconst 0, 1) := by decide +kernel
theorem d_M_count_42 : decode prog_14_method_93_code 42 = .ok (.invokevirtual 296, 3) := by decide +kernel
theorem d_M_count_45 : decode prog_14_method_93_code 45 = .ok (.ireturn, 1) := by decide +kernel
theorem d_M_count_46 : decode prog_14_method_93_code 46 = .ok (.aload_n 0, 1) := by decide +kernel
theorem d_M_count_47 : decode prog_14_method_93_code 47 = .ok (.getfield 245, 3) := by decide +kernel
theorem d_M_count_50 : decode prog_14_method_93_code 50 = .ok (.ireturn, 1) := by decide +kernel
theorem d_M_count_51 : decode prog_14_method_93_code 51 = .ok (.aload_n 0, 1) := by decide +kernel
theorem d_M_count_52 : decode prog_14_method_93_code 52 = .ok (.getfield 300, 3) := by decide +kernel
theorem d_M_count_55 : decode prog_14_method_93_code 55 = .ok (.ireturn, 1) := by decide +kernel
theorem d_M_count_56 : decode prog_14_method_93_code 56 = .ok (.aload_n 0, 1) := by decide +kernel
theorem d_M_count_57 : decode prog_14_method_93_code 57 = .ok (.getfield 19, 3) := by decide +kernel
theorem d_M_count_60 : decode prog_14_method_93_code 60 = .ok (.iconst 0, 1) := by decide +kernel
theorem d_M_count_61 : decode prog_14_method_93_code 61 = .ok (.baload, 1) := by decide +kernel
theorem d_M_count_62 : decode prog_14_method_93_code 62 = .ok (.ifCond .eq 7, 3) := by decide +kernel
theorem d_M_count_65 : decode prog_14_method_93_code 65 = .ok (.iconst 1, 1) := by decide +kernel
theorem d_M_count_66 : decode prog_14_method_93_code 66 = .ok (.goto 4, 3) := by decide +kernel
theorem d_M_count_69 : decode prog_14_method_93_code 69 = .ok (.iconst 0, 1) := by decide +kernel
theorem d_M_count_70 : decode prog_14_method_93_code 70 = .ok (.aload_n 0, 1) := by decide +kernel
theorem d_M_count_71 : decode prog_14_method_93_code 71 = .ok (.getfield 19, 3) := by decide +kernel
theorem d_M_count_74 : decode prog_14_method_93_code 74 = .ok (.iconst 1, 1) := by decide +kernel
theorem d_M_count_75 : decode prog_14_method_93_code 75 = .ok (.baload, 1) := by decide +kernel
theorem d_M_count_76 : decode prog_14_method_93_code 76 = .ok (.ifCond .eq 7, 3) := by decide +kernel
theorem d_M_count_79 : decode prog_14_method_93_code 79 = .ok (.iconst 2, 1) := by decide +kernel
theorem d_M_count_80 : decode prog_14_method_93_code 80 = .ok (.goto 4, 3) := by decide +kernel
theorem d_M_count_83 : decode prog_14_method_93_code 83 = .ok (.iconst 0, 1) := by decide +kernel
theorem d_M_count_84 : decode prog_14_method_93_code 84 = .ok (.iadd, 1) := by decide +kernel
theorem d_M_count_85 : decode prog_14_method_93_code 85 = .ok (.ireturn, 1) := by decide +kernel
theorem d_M_count_86 : decode prog_14_method_93_code 86 = .ok (.aload_n 0, 1) := by decide +kernel
theorem d_M_count_87 : decode prog_14_method_93_code 87 = .ok (.iconst 1, 1) := by decide +kernel
theorem d_M_count_88 : decode prog_14_method_93_code 88 = .ok (.invokevirtual 296, 3) := by decide +kernel
theorem d_M_count_91 : decode prog_14_method_93_code 91 = .ok (.ireturn, 1) := by decide +kernel
theorem d_M_count_92 : decode prog_14_method_93_code 92 = .ok (.aload_n 0, 1) := by decide +kernel
theorem d_M_count_93 : decode prog_14_method_93_code 93 = .ok (.invokevirtual 303, 3) := by decide +kernel
theorem d_M_count_96 : decode prog_14_method_93_code 96 = .ok (.ireturn, 1) := by decide +kernel
theorem d_M_count_97 : decode prog_14_method_93_code 97 = .ok (.iconst (-1), 1) := by decide +kernel
theorem d_M_count_98 : decode prog_14_method_93_code 98 = .ok (.ireturn, 1) := by decide +kernel
def cf_M_count (a0 : Int32) (w : Wd) (P : Int32 → Wd → Prop) : Prop :=
  ((a0 = 0 → cf_M_placesThat (0 : Int32) w (fun r1 w2 => P r1 w2)) ∧ (a0 = 1 → P (w.1 30 2) w) ∧ (a0 = 2 → P (w.1 30 21) w) ∧ (a0 = 3 → vp_in (0 : Int32) 2 ∧ (((w.1 34 (0 : Int32).toNatClampNeg) = 0 → vp_in (1 : Int32) 2 ∧ (((w.1 34 (1 : Int32).toNatClampNeg) = 0 → P ((0 : Int32) + (0 : Int32)) w) ∧ (¬ (w.1 34 (1 : Int32).toNatClampNeg) = 0 → P ((0 : Int32) + (2 : Int32)) w))) ∧ (¬ (w.1 34 (0 : Int32).toNatClampNeg) = 0 → vp_in (1 : Int32) 2 ∧ (((w.1 34 (1 : Int32).toNatClampNeg) = 0 → P ((1 : Int32) + (0 : Int32)) w) ∧ (¬ (w.1 34 (1 : Int32).toNatClampNeg) = 0 → P ((1 : Int32) + (2 : Int32)) w))))) ∧ (a0 = 4 → cf_M_placesThat (1 : Int32) w (fun r3 w4 => P r3 w4)) ∧ (a0 = 5 → cf_M_allWeights  w (fun r5 => P r5 w)) ∧ ((a0.toInt < 0 ∨ 5 < a0.toInt) → P (-1 : Int32) w))
theorem cf_M_count_ok {g : ayG} {d : Nat} (hd : 5 ≤ d) (a0 : Int32)  (w : Wd) (P : Int32 → Wd → Prop) (h : cf_M_count a0 w P) : Call g y_M_count prog_14_method_93_code 2 (some FieldType.int) d [.ref (g.1 + 30), .int a0] w (fun (r : Option Value) (w2 : Wd) => ∃ x, r = some (.int x) ∧ P x w2) := by
  unfold cf_M_count at h
  refine am_enter mi_M_count (Nat.le_of_ble_eq_true rfl) ?_
  have hQ : ∀ x w2, P x w2 → (fun (r : Option Value) (w2 : Wd) => ∃ x, r = some (.int x) ∧ P x w2) (some (.int x)) w2 := fun x w2 h => ⟨x, rfl, h⟩
  generalize (fun (r : Option Value) (w2 : Wd) => ∃ x, r = some (.int x) ∧ P x w2) = Q at hQ ⊢
  show wp g (fun _ => True) y_M_count prog_14_method_93_code 2 (some FieldType.int) d 0 [(0, .ref (g.1 + 30)), (1, .int a0)] [] w Q
  refine am_iload_n d_M_count_0 1 rfl ?_
  refine am_switch d_M_count_1 (by decide) (fun tgt ht hx => ?_) ⟨97, by decide⟩ (fun i off ho hx => ?_)
  · have h := h.2.2.2.2.2.2 hx
    obtain rfl : tgt = 97 := by omega
    refine am_iconst (v := -1) d_M_count_97 rfl ?_
    exact am_ireturn d_M_count_98 rfl rfl (hQ (-1 : Int32) w h)
  · have hi : i < 6 := (Array.getElem?_eq_some_iff.mp ho).1
    match i, hi, ho, hx with
    | 0, _, ho, hx =>
      refine ⟨40, ?_, ?_⟩
      · have e := Option.some.inj ho; rw [← e]; decide
      · have h := h.1 (Int32.toInt_inj.mp (by rw [hx]; decide))
        refine am_aload_n d_M_count_40 0 rfl ?_
        refine am_iconst (v := 0) d_M_count_41 rfl ?_
        refine am_callV (C := y_M_placesThat.cls) (d2 := d - 1) [.int (0 : Int32)] d_M_count_42 mi_M_placesThat wd_1532 wd_1534 ws_M_placesThat (by decide) (el_M (show ay_sh 30 = _ from rfl)) rfl rfl (by omega) rfl rfl (Nat.le_of_ble_eq_true rfl) ?_
        refine Call.post ?_ (cf_M_placesThat_ok (by omega) (0 : Int32)  w _ h)
        rintro _ w2 ⟨r1, rfl, h⟩
        show wp g (fun _ => True) y_M_count prog_14_method_93_code 2 (some FieldType.int) d 45 [(0, .ref (g.1 + 30)), (1, .int a0)] [.int r1] w2 Q
        exact am_ireturn d_M_count_45 rfl rfl (hQ r1 w2 h)
    | 1, _, ho, hx =>
      refine ⟨46, ?_, ?_⟩
      · have e := Option.some.inj ho; rw [← e]; decide
      · have h := h.2.1 (Int32.toInt_inj.mp (by rw [hx]; decide))
        refine am_aload_n d_M_count_46 0 rfl ?_
        refine am_getf (T := F_M) (fs := ob_M g w 30) (C := R_M) (N := 35) (ci := 10) 2 d_M_count_47 wd_1079 rfl (by decide) (el_M (show ay_sh 30 = _ from rfl)) rfl i_M (by decide) rfl ?_
        exact am_ireturn d_M_count_50 rfl rfl (hQ (w.1 30 2) w h)
    | 2, _, ho, hx =>
      refine ⟨51, ?_, ?_⟩
      · have e := Option.some.inj ho; rw [← e]; decide
      · have h := h.2.2.1 (Int32.toInt_inj.mp (by rw [hx]; decide))
        refine am_aload_n d_M_count_51 0 rfl ?_
        refine am_getf (T := F_M) (fs := ob_M g w 30) (C := R_M) (N := 35) (ci := 10) 21 d_M_count_52 wd_1098 rfl (by decide) (el_M (show ay_sh 30 = _ from rfl)) rfl i_M (by decide) rfl ?_
        exact am_ireturn d_M_count_55 rfl rfl (hQ (w.1 30 21) w h)
    | 3, _, ho, hx =>
      refine ⟨56, ?_, ?_⟩
      · have e := Option.some.inj ho; rw [← e]; decide
      · have h := h.2.2.2.1 (Int32.toInt_inj.mp (by rw [hx]; decide))
        refine am_aload_n d_M_count_56 0 rfl ?_
        refine am_getf (T := F_M) (fs := ob_M g w 30) (C := R_M) (N := 35) (ci := 10) 4 d_M_count_57 wd_1081 rfl (by decide) (el_M (show ay_sh 30 = _ from rfl)) rfl i_M (by decide) rfl ?_
        refine am_iconst (v := 0) d_M_count_60 rfl ?_
        have hi61 := h.1
        have h := h.2
        refine am_zaload d_M_count_61 (show ay_sh 34 = _ from rfl) hi61 ?_
        refine am_if_eq (tgt := 69) d_M_count_62 (by decide) (fun c62 => ?_) (fun c62 => ?_)
        · have h := h.1 c62
          refine am_iconst (v := 0) d_M_count_69 rfl ?_
          refine am_aload_n d_M_count_70 0 rfl ?_
          refine am_getf (T := F_M) (fs := ob_M g w 30) (C := R_M) (N := 35) (ci := 10) 4 d_M_count_71 wd_1081 rfl (by decide) (el_M (show ay_sh 30 = _ from rfl)) rfl i_M (by decide) rfl ?_
          refine am_iconst (v := 1) d_M_count_74 rfl ?_
          have hi75 := h.1
          have h := h.2
          refine am_zaload d_M_count_75 (show ay_sh 34 = _ from rfl) hi75 ?_
          refine am_if_eq (tgt := 83) d_M_count_76 (by decide) (fun c76 => ?_) (fun c76 => ?_)
          · have h := h.1 c76
            refine am_iconst (v := 0) d_M_count_83 rfl ?_
            refine am_iadd d_M_count_84 ?_
            exact am_ireturn d_M_count_85 rfl rfl (hQ ((0 : Int32) + (0 : Int32)) w h)
          · have h := h.2 c76
            refine am_iconst (v := 2) d_M_count_79 rfl ?_
            refine am_goto (tgt := 84) d_M_count_80 (by decide) ?_
            refine am_iadd d_M_count_84 ?_
            exact am_ireturn d_M_count_85 rfl rfl (hQ ((0 : Int32) + (2 : Int32)) w h)
        · have h := h.2 c62
          refine am_iconst (v := 1) d_M_count_65 rfl ?_
          refine am_goto (tgt := 70) d_M_count_66 (by decide) ?_
          refine am_aload_n d_M_count_70 0 rfl ?_
          refine am_getf (T := F_M) (fs := ob_M g w 30) (C := R_M) (N := 35) (ci := 10) 4 d_M_count_71 wd_1081 rfl (by decide) (el_M (show ay_sh 30 = _ from rfl)) rfl i_M (by decide) rfl ?_
          refine am_iconst (v := 1) d_M_count_74 rfl ?_
          have hi75 := h.1
          have h := h.2
          refine am_zaload d_M_count_75 (show ay_sh 34 = _ from rfl) hi75 ?_
          refine am_if_eq (tgt := 83) d_M_count_76 (by decide) (fun c76 => ?_) (fun c76 => ?_)
          · have h := h.1 c76
            refine am_iconst (v := 0) d_M_count_83 rfl ?_
            refine am_iadd d_M_count_84 ?_
            exact am_ireturn d_M_count_85 rfl rfl (hQ ((1 : Int32) + (0 : Int32)) w h)
          · have h := h.2 c76
            refine am_iconst (v := 2) d_M_count_79 rfl ?_
            refine am_goto (tgt := 84) d_M_count_80 (by decide) ?_
            refine am_iadd d_M_count_84 ?_
            exact am_ireturn d_M_count_85 rfl rfl (hQ ((1 : Int32) + (2 : Int32)) w h)
    | 4, _, ho, hx =>
      refine ⟨86, ?_, ?_⟩
      · have e := Option.some.inj ho; rw [← e]; decide
      · have h := h.2.2.2.2.1 (Int32.toInt_inj.mp (by rw [hx]; decide))
        refine am_aload_n d_M_count_86 0 rfl ?_
        refine am_iconst (v := 1) d_M_count_87 rfl ?_
        refine am_callV (C := y_M_placesThat.cls) (d2 := d - 1) [.int (1 : Int32)] d_M_count_88 mi_M_placesThat wd_1532 wd_1534 ws_M_placesThat (by decide) (el_M (show ay_sh 30 = _ from rfl)) rfl rfl (by omega) rfl rfl (Nat.le_of_ble_eq_true rfl) ?_
        refine Call.post ?_ (cf_M_placesThat_ok (by omega) (1 : Int32)  w _ h)
        rintro _ w4 ⟨r3, rfl, h⟩
        show wp g (fun _ => True) y_M_count prog_14_method_93_code 2 (some FieldType.int) d 91 [(0, .ref (g.1 + 30)), (1, .int a0)] [.int r3] w4 Q
        exact am_ireturn d_M_count_91 rfl rfl (hQ r3 w4 h)
    | 5, _, ho, hx =>
      refine ⟨92, ?_, ?_⟩
      · have e := Option.some.inj ho; rw [← e]; decide
      · have h := h.2.2.2.2.2.1 (Int32.toInt_inj.mp (by rw [hx]; decide))
        refine am_aload_n d_M_count_92 0 rfl ?_
        refine am_callV (C := y_M_allWeights.cls) (d2 := d - 1) [] d_M_count_93 mi_M_allWeights wd_1536 wd_1538 ws_M_allWeights (by decide) (el_M (show ay_sh 30 = _ from rfl)) rfl rfl (by omega) rfl rfl (Nat.le_of_ble_eq_true rfl) ?_
        refine Call.post ?_ (cf_M_allWeights_ok (by omega)   w _ h)
        rintro _ _ ⟨r5, rfl, rfl, h⟩
        show wp g (fun _ => True) y_M_count prog_14_method_93_code 2 (some FieldType.int) d 96 [(0, .ref (g.1 + 30)), (1, .int a0)] [.int r5] w Q
        exact am_ireturn d_M_count_96 rfl rfl (hQ r5 w h)
    | n + 6, hi, _, _ => exact absurd hi (by omega)
theorem d_M_lays_0 : decode prog_14_method_94_code 0 = .ok (.bipush 24, 2) := by decide +kernel
theorem d_M_lays_2 : decode prog_14_method_94_code 2 = .ok (.istore_n 2, 1) := by decide +kernel
theorem d_M_lays_3 : decode prog_14_method_94_code 3 = .ok (.iload_n 2, 1) := by decide +kernel
theorem d_M_lays_4 : decode prog_14_method_94_code 4 = .ok (.ifCond .lt 32, 3) := by decide +kernel
theorem d_M_lays_7 : decode prog_14_method_94_code 7 = .ok (.aload_n 0, 1) := by decide +kernel
theorem d_M_lays_8 : decode prog_14_method_94_code 8 = .ok (.getfield 54, 3) := by decide +kernel
theorem d_M_lays_11 : decode prog_14_method_94_code 11 = .ok (.aload_n 0, 1) := by decide +kernel
theorem d_M_lays_12 : decode prog_14_method_94_code 12 = .ok (.getfield 300, 3) := by decide +kernel
theorem d_M_lays_15 : decode prog_14_method_94_code 15 = .ok (.iload_n 1, 1) := by decide +kernel
theorem d_M_lays_16 : decode prog_14_method_94_code 16 = .ok (.iload_n 2, 1) := by decide +kernel
theorem d_M_lays_17 : decode prog_14_method_94_code 17 = .ok (.ishr, 1) := by decide +kernel
theorem d_M_lays_18 : decode prog_14_method_94_code 18 = .ok (.i2b, 1) := by decide +kernel
theorem d_M_lays_19 : decode prog_14_method_94_code 19 = .ok (.bastore, 1) := by decide +kernel
theorem d_M_lays_20 : decode prog_14_method_94_code 20 = .ok (.aload_n 0, 1) := by decide +kernel
theorem d_M_lays_21 : decode prog_14_method_94_code 21 = .ok (.dup, 1) := by decide +kernel
theorem d_M_lays_22 : decode prog_14_method_94_code 22 = .ok (.getfield 300, 3) := by decide +kernel
theorem d_M_lays_25 : decode prog_14_method_94_code 25 = .ok (.iconst 1, 1) := by decide +kernel
theorem d_M_lays_26 : decode prog_14_method_94_code 26 = .ok (.iadd, 1) := by decide +kernel
theorem d_M_lays_27 : decode prog_14_method_94_code 27 = .ok (.putfield 300, 3) := by decide +kernel
theorem d_M_lays_30 : decode prog_14_method_94_code 30 = .ok (.iinc 2 (-8), 3) := by decide +kernel
theorem d_M_lays_33 : decode prog_14_method_94_code 33 = .ok (.goto (-30), 3) := by decide +kernel
theorem d_M_lays_36 : decode prog_14_method_94_code 36 = .ok (.return_, 1) := by decide +kernel
def cf_M_lays_B3  (K3 : Int32 → Int32 → Wd → Prop) (P : Wd → Prop) (x1 : Int32) (x2 : Int32) (w : Wd) : Prop :=
  ((x2 < 0 → P w) ∧ (¬ x2 < 0 → vp_in (w.1 30 21) 300 ∧ ∀ w1, w1 = wI w 43 (w.1 30 21).toNatClampNeg ((ishr x1 x2).toInt8.toInt32).toInt8.toInt32 → ∀ w2, w2 = wI w1 30 21 ((w1.1 30 21) + (1 : Int32)) → ∀ v3, v3 = x2 + (-8 : Int32) → K3 x1 v3 w2))
def cf_M_lays_L3   (P : Wd → Prop) : Nat → Int32 → Int32 → Wd → Prop
  | 0 => fun x1 x2 w => False
  | n + 1 => fun x1 x2 w => cf_M_lays_B3 (cf_M_lays_L3 P n) P x1 x2 w
def cf_M_lays (a0 : Int32) (w : Wd) (P : Wd → Prop) : Prop :=
  ∃ n, cf_M_lays_L3 P n a0 (24 : Int32) w
theorem cf_M_lays_B3_ok {g : ayG} {d : Nat} (hd : 0 ≤ d)   (w : Wd) (K3 : Int32 → Int32 → Wd → Prop) (P : Wd → Prop) (Q : Option Value → Wd → Prop) (hQ : ∀ w2, P w2 → Q none w2) (hK3 : ∀ (x1 : Int32) (x2 : Int32) (w : Wd), (K3 x1 x2 w → wp g (fun _ => True) y_M_lays prog_14_method_94_code 3 none d 3 [(0, .ref (g.1 + 30)), (1, .int x1), (2, .int x2)] [] w Q)) (x1 : Int32) (x2 : Int32) (h : cf_M_lays_B3 K3 P x1 x2 w) : wp g (fun _ => True) y_M_lays prog_14_method_94_code 3 none d 3 [(0, .ref (g.1 + 30)), (1, .int x1), (2, .int x2)] [] w Q := by
  unfold cf_M_lays_B3 at h
  refine am_iload_n d_M_lays_3 2 rfl ?_
  refine am_if_lt (tgt := 36) d_M_lays_4 (by decide) (fun c4 => ?_) (fun c4 => ?_)
  · have h := h.1 c4
    exact am_return d_M_lays_36 rfl (hQ w h)
  · have h := h.2 c4
    refine am_aload_n d_M_lays_7 0 rfl ?_
    refine am_getf (T := F_M) (fs := ob_M g w 30) (C := R_M) (N := 35) (ci := 10) 20 d_M_lays_8 wd_1097 rfl (by decide) (el_M (show ay_sh 30 = _ from rfl)) rfl i_M (by decide) rfl ?_
    refine am_aload_n d_M_lays_11 0 rfl ?_
    refine am_getf (T := F_M) (fs := ob_M g w 30) (C := R_M) (N := 35) (ci := 10) 21 d_M_lays_12 wd_1098 rfl (by decide) (el_M (show ay_sh 30 = _ from rfl)) rfl i_M (by decide) rfl ?_
    refine am_iload_n d_M_lays_15 1 rfl ?_
    refine am_iload_n d_M_lays_16 2 rfl ?_
    refine am_ishr d_M_lays_17 ?_
    refine am_i2b d_M_lays_18 ?_
    have hi19 := h.1
    have h := h.2
    refine am_bastore d_M_lays_19 (show ay_sh 43 = _ from rfl) hi19 ?_
    obtain ⟨w1, ew1⟩ : ∃ z, z = wI w 43 (w.1 30 21).toNatClampNeg ((ishr x1 x2).toInt8.toInt32).toInt8.toInt32 := ⟨_, rfl⟩
    rw [← ew1]
    have h := h w1 ew1
    refine am_aload_n d_M_lays_20 0 rfl ?_
    refine am_dup d_M_lays_21 rfl ?_
    refine am_getf (T := F_M) (fs := ob_M g w1 30) (C := R_M) (N := 35) (ci := 10) 21 d_M_lays_22 wd_1098 rfl (by decide) (el_M (show ay_sh 30 = _ from rfl)) rfl i_M (by decide) rfl ?_
    refine am_iconst (v := 1) d_M_lays_25 rfl ?_
    refine am_iadd d_M_lays_26 ?_
    refine am_putf (w' := wI w1 30 21 ((w1.1 30 21) + (1 : Int32))) (ty := .int) (T := F_M) (fs := ob_M g w1 30) (C := R_M) (N := 35) (ci := 10) 21 d_M_lays_27 wd_1098 rfl (by decide) (el_M (show ay_sh 30 = _ from rfl)) rfl i_M (by decide) G_M ty_M n_M rfl (ty_M 21 (by decide)) rfl rfl (Nat.le_of_ble_eq_true rfl) ((el_M (show ay_sh 30 = _ from rfl)).trans (by rw [pf_M_taped])) wI_o ?_
    obtain ⟨w2, ew2⟩ : ∃ z, z = wI w1 30 21 ((w1.1 30 21) + (1 : Int32)) := ⟨_, rfl⟩
    rw [← ew2]
    have h := h w2 ew2
    obtain ⟨v3, ev3⟩ : ∃ z : Int32, z = x2 + (-8 : Int32) := ⟨_, rfl⟩
    have h := h v3 ev3
    refine am_iinc (v := v3) (l' := [(2, .int v3), (0, .ref (g.1 + 30)), (1, .int x1)]) d_M_lays_30 2 rfl (by rw [ev3]; rfl) (by decide) rfl ?_
    refine am_goto (tgt := 3) d_M_lays_33 (by decide) ?_
    refine am_sub [1, 2, 0] rfl ?_
    exact hK3 x1 v3 w2 h
theorem cf_M_lays_L3_ok {g : ayG} {d : Nat} (hd : 0 ≤ d)    (P : Wd → Prop) (Q : Option Value → Wd → Prop) (hQ : ∀ w2, P w2 → Q none w2)  : ∀ (n : Nat) (x1 : Int32) (x2 : Int32) (w : Wd) (h : cf_M_lays_L3 P n x1 x2 w), wp g (fun _ => True) y_M_lays prog_14_method_94_code 3 none d 3 [(0, .ref (g.1 + 30)), (1, .int x1), (2, .int x2)] [] w Q
  | 0, x1, x2, w, h => False.elim h
  | n + 1, x1, x2, w, h => cf_M_lays_B3_ok hd   w (cf_M_lays_L3 P n) P Q hQ (fun x1 x2 w h => cf_M_lays_L3_ok hd    P Q hQ  n x1 x2 w h) x1 x2 h
theorem cf_M_lays_ok {g : ayG} {d : Nat} (hd : 0 ≤ d) (a0 : Int32)  (w : Wd) (P : Wd → Prop) (h : cf_M_lays a0 w P) : Call g y_M_lays prog_14_method_94_code 3 none d [.ref (g.1 + 30), .int a0] w (fun (r : Option Value) (w2 : Wd) => r = none ∧ P w2) := by
  unfold cf_M_lays at h
  refine am_enter mi_M_lays (Nat.le_of_ble_eq_true rfl) ?_
  have hQ : ∀ w2, P w2 → (fun (r : Option Value) (w2 : Wd) => r = none ∧ P w2) none w2 := fun w2 h => ⟨rfl, h⟩
  generalize (fun (r : Option Value) (w2 : Wd) => r = none ∧ P w2) = Q at hQ ⊢
  show wp g (fun _ => True) y_M_lays prog_14_method_94_code 3 none d 0 [(0, .ref (g.1 + 30)), (1, .int a0)] [] w Q
  refine am_bipush (v := 24) d_M_lays_0 rfl ?_
  refine am_istore_n (l' := [(2, .int (24 : Int32)), (0, .ref (g.1 + 30)), (1, .int a0)]) d_M_lays_2 (by decide) rfl ?_
  refine am_sub [1, 2, 0] rfl ?_
  obtain ⟨n, h⟩ := h
  exact cf_M_lays_L3_ok (by omega)    P Q hQ  n a0 (24 : Int32) w h
theorem d_M_feed_0 : decode prog_14_method_95_code 0 = .ok (.aload_n 0, 1) := by decide +kernel
theorem d_M_feed_1 : decode prog_14_method_95_code 1 = .ok (.getfield 300, 3) := by decide +kernel
theorem d_M_feed_4 : decode prog_14_method_95_code 4 = .ok (.sipush 280, 3) := by decide +kernel
theorem d_M_feed_7 : decode prog_14_method_95_code 7 = .ok (.if_icmp .le 5, 3) := by decide +kernel
theorem d_M_feed_10 : decode prog_14_method_95_code 10 = .ok (.iconst (-1), 1) := by decide +kernel
theorem d_M_feed_11 : decode prog_14_method_95_code 11 = .ok (.ireturn, 1) := by decide +kernel
theorem d_M_feed_12 : decode prog_14_method_95_code 12 = .ok (.aload_n 0, 1) := by decide +kernel
theorem d_M_feed_13 : decode prog_14_method_95_code 13 = .ok (.iload_n 1, 1) := by decide +kernel
theorem d_M_feed_14 : decode prog_14_method_95_code 14 = .ok (.invokevirtual 306, 3) := by decide +kernel
theorem d_M_feed_17 : decode prog_14_method_95_code 17 = .ok (.aload_n 0, 1) := by decide +kernel
theorem d_M_feed_18 : decode prog_14_method_95_code 18 = .ok (.iload_n 2, 1) := by decide +kernel
theorem d_M_feed_19 : decode prog_14_method_95_code 19 = .ok (.invokevirtual 306, 3) := by decide +kernel
theorem d_M_feed_22 : decode prog_14_method_95_code 22 = .ok (.aload_n 0, 1) := by decide +kernel
theorem d_M_feed_23 : decode prog_14_method_95_code 23 = .ok (.iload_n 3, 1) := by decide +kernel
theorem d_M_feed_24 : decode prog_14_method_95_code 24 = .ok (.invokevirtual 306, 3) := by decide +kernel
theorem d_M_feed_27 : decode prog_14_method_95_code 27 = .ok (.aload_n 0, 1) := by decide +kernel
theorem d_M_feed_28 : decode prog_14_method_95_code 28 = .ok (.iload 4, 2) := by decide +kernel
theorem d_M_feed_30 : decode prog_14_method_95_code 30 = .ok (.invokevirtual 306, 3) := by decide +kernel
theorem d_M_feed_33 : decode prog_14_method_95_code 33 = .ok (.aload_n 0, 1) := by decide +kernel
theorem d_M_feed_34 : decode prog_14_method_95_code 34 = .ok (.iload 5, 2) := by decide +kernel
theorem d_M_feed_36 : decode prog_14_method_95_code 36 = .ok (.invokevirtual 306, 3) := by decide +kernel
theorem d_M_feed_39 : decode prog_14_method_95_code 39 = .ok (.aload_n 0, 1) := by decide +kernel
theorem d_M_feed_40 : decode prog_14_method_95_code 40 = .ok (.getfield 300, 3) := by decide +kernel
theorem d_M_feed_43 : decode prog_14_method_95_code 43 = .ok (.ireturn, 1) := by decide +kernel
def cf_M_feed (a0 : Int32) (a1 : Int32) (a2 : Int32) (a3 : Int32) (a4 : Int32) (w : Wd) (P : Int32 → Wd → Prop) : Prop :=
  (((w.1 30 21) ≤ (280 : Int32) → cf_M_lays a0 w (fun w1 => cf_M_lays a1 w1 (fun w2 => cf_M_lays a2 w2 (fun w3 => cf_M_lays a3 w3 (fun w4 => cf_M_lays a4 w4 (fun w5 => P (w5.1 30 21) w5)))))) ∧ (¬ (w.1 30 21) ≤ (280 : Int32) → P (-1 : Int32) w))
theorem cf_M_feed_ok {g : ayG} {d : Nat} (hd : 1 ≤ d) (a0 : Int32) (a1 : Int32) (a2 : Int32) (a3 : Int32) (a4 : Int32)  (w : Wd) (P : Int32 → Wd → Prop) (h : cf_M_feed a0 a1 a2 a3 a4 w P) : Call g y_M_feed prog_14_method_95_code 6 (some FieldType.int) d [.ref (g.1 + 30), .int a0, .int a1, .int a2, .int a3, .int a4] w (fun (r : Option Value) (w2 : Wd) => ∃ x, r = some (.int x) ∧ P x w2) := by
  unfold cf_M_feed at h
  refine am_enter mi_M_feed (Nat.le_of_ble_eq_true rfl) ?_
  have hQ : ∀ x w2, P x w2 → (fun (r : Option Value) (w2 : Wd) => ∃ x, r = some (.int x) ∧ P x w2) (some (.int x)) w2 := fun x w2 h => ⟨x, rfl, h⟩
  generalize (fun (r : Option Value) (w2 : Wd) => ∃ x, r = some (.int x) ∧ P x w2) = Q at hQ ⊢
  show wp g (fun _ => True) y_M_feed prog_14_method_95_code 6 (some FieldType.int) d 0 [(0, .ref (g.1 + 30)), (1, .int a0), (2, .int a1), (3, .int a2), (4, .int a3), (5, .int a4)] [] w Q
  refine am_aload_n d_M_feed_0 0 rfl ?_
  refine am_getf (T := F_M) (fs := ob_M g w 30) (C := R_M) (N := 35) (ci := 10) 21 d_M_feed_1 wd_1098 rfl (by decide) (el_M (show ay_sh 30 = _ from rfl)) rfl i_M (by decide) rfl ?_
  refine am_sipush (v := 280) d_M_feed_4 rfl ?_
  refine am_icmp_le (tgt := 12) d_M_feed_7 (by decide) (fun c7 => ?_) (fun c7 => ?_)
  · have h := h.1 c7
    refine am_aload_n d_M_feed_12 0 rfl ?_
    refine am_iload_n d_M_feed_13 1 rfl ?_
    refine am_callV (C := y_M_lays.cls) (d2 := d - 1) [.int a0] d_M_feed_14 mi_M_lays wd_1544 wd_1546 ws_M_lays (by decide) (el_M (show ay_sh 30 = _ from rfl)) rfl rfl (by omega) rfl rfl (Nat.le_of_ble_eq_true rfl) ?_
    refine Call.post ?_ (cf_M_lays_ok (by omega) a0  w _ h)
    rintro _ w1 ⟨rfl, h⟩
    show wp g (fun _ => True) y_M_feed prog_14_method_95_code 6 (some FieldType.int) d 17 [(0, .ref (g.1 + 30)), (1, .int a0), (2, .int a1), (3, .int a2), (4, .int a3), (5, .int a4)] [] w1 Q
    refine am_aload_n d_M_feed_17 0 rfl ?_
    refine am_iload_n d_M_feed_18 2 rfl ?_
    refine am_callV (C := y_M_lays.cls) (d2 := d - 1) [.int a1] d_M_feed_19 mi_M_lays wd_1544 wd_1546 ws_M_lays (by decide) (el_M (show ay_sh 30 = _ from rfl)) rfl rfl (by omega) rfl rfl (Nat.le_of_ble_eq_true rfl) ?_
    refine Call.post ?_ (cf_M_lays_ok (by omega) a1  w1 _ h)
    rintro _ w2 ⟨rfl, h⟩
    show wp g (fun _ => True) y_M_feed prog_14_method_95_code 6 (some FieldType.int) d 22 [(0, .ref (g.1 + 30)), (1, .int a0), (2, .int a1), (3, .int a2), (4, .int a3), (5, .int a4)] [] w2 Q
    refine am_aload_n d_M_feed_22 0 rfl ?_
    refine am_iload_n d_M_feed_23 3 rfl ?_
    refine am_callV (C := y_M_lays.cls) (d2 := d - 1) [.int a2] d_M_feed_24 mi_M_lays wd_1544 wd_1546 ws_M_lays (by decide) (el_M (show ay_sh 30 = _ from rfl)) rfl rfl (by omega) rfl rfl (Nat.le_of_ble_eq_true rfl) ?_
    refine Call.post ?_ (cf_M_lays_ok (by omega) a2  w2 _ h)
    rintro _ w3 ⟨rfl, h⟩
    show wp g (fun _ => True) y_M_feed prog_14_method_95_code 6 (some FieldType.int) d 27 [(0, .ref (g.1 + 30)), (1, .int a0), (2, .int a1), (3, .int a2), (4, .int a3), (5, .int a4)] [] w3 Q
    refine am_aload_n d_M_feed_27 0 rfl ?_
    refine am_iload d_M_feed_28 4 rfl ?_
    refine am_callV (C := y_M_lays.cls) (d2 := d - 1) [.int a3] d_M_feed_30 mi_M_lays wd_1544 wd_1546 ws_M_lays (by decide) (el_M (show ay_sh 30 = _ from rfl)) rfl rfl (by omega) rfl rfl (Nat.le_of_ble_eq_true rfl) ?_
    refine Call.post ?_ (cf_M_lays_ok (by omega) a3  w3 _ h)
    rintro _ w4 ⟨rfl, h⟩
    show wp g (fun _ => True) y_M_feed prog_14_method_95_code 6 (some FieldType.int) d 33 [(0, .ref (g.1 + 30)), (1, .int a0), (2, .int a1), (3, .int a2), (4, .int a3), (5, .int a4)] [] w4 Q
    refine am_aload_n d_M_feed_33 0 rfl ?_
    refine am_iload d_M_feed_34 5 rfl ?_
    refine am_callV (C := y_M_lays.cls) (d2 := d - 1) [.int a4] d_M_feed_36 mi_M_lays wd_1544 wd_1546 ws_M_lays (by decide) (el_M (show ay_sh 30 = _ from rfl)) rfl rfl (by omega) rfl rfl (Nat.le_of_ble_eq_true rfl) ?_
    refine Call.post ?_ (cf_M_lays_ok (by omega) a4  w4 _ h)
    rintro _ w5 ⟨rfl, h⟩
    show wp g (fun _ => True) y_M_feed prog_14_method_95_code 6 (some FieldType.int) d 39 [(0, .ref (g.1 + 30)), (1, .int a0), (2, .int a1), (3, .int a2), (4, .int a3), (5, .int a4)] [] w5 Q
    refine am_aload_n d_M_feed_39 0 rfl ?_
    refine am_getf (T := F_M) (fs := ob_M g w5 30) (C := R_M) (N := 35) (ci := 10) 21 d_M_feed_40 wd_1098 rfl (by decide) (el_M (show ay_sh 30 = _ from rfl)) rfl i_M (by decide) rfl ?_
    exact am_ireturn d_M_feed_43 rfl rfl (hQ (w5.1 30 21) w5 h)
  · have h := h.2 c7
    refine am_iconst (v := -1) d_M_feed_10 rfl ?_
    exact am_ireturn d_M_feed_11 rfl rfl (hQ (-1 : Int32) w h)
theorem d_M_end_0 : decode prog_14_method_96_code 0 = .ok (.iload_n 1, 1) := by decide +kernel
theorem d_M_end_1 : decode prog_14_method_96_code 1 = .ok (.i2l, 1) := by decide +kernel
theorem d_M_end_2 : decode prog_14_method_96_code 2 = .ok (.lconst 0, 1) := by decide +kernel
theorem d_M_end_3 : decode prog_14_method_96_code 3 = .ok (.aload_n 0, 1) := by decide +kernel
theorem d_M_end_4 : decode prog_14_method_96_code 4 = .ok (.getfield 300, 3) := by decide +kernel
theorem d_M_end_7 : decode prog_14_method_96_code 7 = .ok (.i2l, 1) := by decide +kernel
theorem d_M_end_8 : decode prog_14_method_96_code 8 = .ok (.invokestatic 76, 3) := by decide +kernel
theorem d_M_end_11 : decode prog_14_method_96_code 11 = .ok (.ifCond .ne 5, 3) := by decide +kernel
theorem d_M_end_14 : decode prog_14_method_96_code 14 = .ok (.iconst (-1), 1) := by decide +kernel
theorem d_M_end_15 : decode prog_14_method_96_code 15 = .ok (.ireturn, 1) := by decide +kernel
theorem d_M_end_16 : decode prog_14_method_96_code 16 = .ok (.aload_n 0, 1) := by decide +kernel
theorem d_M_end_17 : decode prog_14_method_96_code 17 = .ok (.iload_n 1, 1) := by decide +kernel
theorem d_M_end_18 : decode prog_14_method_96_code 18 = .ok (.putfield 300, 3) := by decide +kernel
theorem d_M_end_21 : decode prog_14_method_96_code 21 = .ok (.iload_n 1, 1) := by decide +kernel
theorem d_M_end_22 : decode prog_14_method_96_code 22 = .ok (.ireturn, 1) := by decide +kernel
def cf_M_end (a0 : Int32) (w : Wd) (P : Int32 → Wd → Prop) : Prop :=
  cf_M_in a0.toInt64 (0 : Int64) ((w.1 30 21).toInt64) (fun r1 => ((¬ r1 = 0 → ∀ w2, w2 = wI w 30 21 a0 → P a0 w2) ∧ (r1 = 0 → P (-1 : Int32) w)))
theorem cf_M_end_ok {g : ayG} {d : Nat} (hd : 1 ≤ d) (a0 : Int32)  (w : Wd) (P : Int32 → Wd → Prop) (h : cf_M_end a0 w P) : Call g y_M_end prog_14_method_96_code 2 (some FieldType.int) d [.ref (g.1 + 30), .int a0] w (fun (r : Option Value) (w2 : Wd) => ∃ x, r = some (.int x) ∧ P x w2) := by
  unfold cf_M_end at h
  refine am_enter mi_M_end (Nat.le_of_ble_eq_true rfl) ?_
  have hQ : ∀ x w2, P x w2 → (fun (r : Option Value) (w2 : Wd) => ∃ x, r = some (.int x) ∧ P x w2) (some (.int x)) w2 := fun x w2 h => ⟨x, rfl, h⟩
  generalize (fun (r : Option Value) (w2 : Wd) => ∃ x, r = some (.int x) ∧ P x w2) = Q at hQ ⊢
  show wp g (fun _ => True) y_M_end prog_14_method_96_code 2 (some FieldType.int) d 0 [(0, .ref (g.1 + 30)), (1, .int a0)] [] w Q
  refine am_iload_n d_M_end_0 1 rfl ?_
  refine am_i2l d_M_end_1 ?_
  refine am_lconst (v := 0) d_M_end_2 rfl ?_
  refine am_aload_n d_M_end_3 0 rfl ?_
  refine am_getf (T := F_M) (fs := ob_M g w 30) (C := R_M) (N := 35) (ci := 10) 21 d_M_end_4 wd_1098 rfl (by decide) (el_M (show ay_sh 30 = _ from rfl)) rfl i_M (by decide) rfl ?_
  refine am_i2l d_M_end_7 ?_
  refine am_callS (d2 := d - 1) [.long a0.toInt64, .long (0 : Int64), .long ((w.1 30 21).toInt64)] d_M_end_8 mi_M_in wd_1192 wd_1193 (by omega) rfl rfl (Nat.le_of_ble_eq_true rfl) ?_
  refine Call.post ?_ (cf_M_in_ok (by omega) a0.toInt64 (0 : Int64) ((w.1 30 21).toInt64)  w _ h)
  rintro _ _ ⟨r1, rfl, rfl, h⟩
  show wp g (fun _ => True) y_M_end prog_14_method_96_code 2 (some FieldType.int) d 11 [(0, .ref (g.1 + 30)), (1, .int a0)] [.int r1] w Q
  refine am_if_ne (tgt := 16) d_M_end_11 (by decide) (fun c11 => ?_) (fun c11 => ?_)
  · have h := h.1 c11
    refine am_aload_n d_M_end_16 0 rfl ?_
    refine am_iload_n d_M_end_17 1 rfl ?_
    refine am_putf (w' := wI w 30 21 a0) (ty := .int) (T := F_M) (fs := ob_M g w 30) (C := R_M) (N := 35) (ci := 10) 21 d_M_end_18 wd_1098 rfl (by decide) (el_M (show ay_sh 30 = _ from rfl)) rfl i_M (by decide) G_M ty_M n_M rfl (ty_M 21 (by decide)) rfl rfl (Nat.le_of_ble_eq_true rfl) ((el_M (show ay_sh 30 = _ from rfl)).trans (by rw [pf_M_taped])) wI_o ?_
    obtain ⟨w2, ew2⟩ : ∃ z, z = wI w 30 21 a0 := ⟨_, rfl⟩
    rw [← ew2]
    have h := h w2 ew2
    refine am_iload_n d_M_end_21 1 rfl ?_
    exact am_ireturn d_M_end_22 rfl rfl (hQ a0 w2 h)
  · have h := h.2 c11
    refine am_iconst (v := -1) d_M_end_14 rfl ?_
    exact am_ireturn d_M_end_15 rfl rfl (hQ (-1 : Int32) w h)
theorem d_M_byteAt_0 : decode prog_14_method_97_code 0 = .ok (.iload_n 1, 1) := by decide +kernel
theorem d_M_byteAt_1 : decode prog_14_method_97_code 1 = .ok (.aload_n 0, 1) := by decide +kernel
theorem d_M_byteAt_2 : decode prog_14_method_97_code 2 = .ok (.getfield 300, 3) := by decide +kernel
theorem d_M_byteAt_5 : decode prog_14_method_97_code 5 = .ok (.if_icmp .ge 16, 3) := by decide +kernel
theorem d_M_byteAt_8 : decode prog_14_method_97_code 8 = .ok (.aload_n 0, 1) := by decide +kernel
theorem d_M_byteAt_9 : decode prog_14_method_97_code 9 = .ok (.getfield 54, 3) := by decide +kernel
theorem d_M_byteAt_12 : decode prog_14_method_97_code 12 = .ok (.iload_n 1, 1) := by decide +kernel
theorem d_M_byteAt_13 : decode prog_14_method_97_code 13 = .ok (.baload, 1) := by decide +kernel
theorem d_M_byteAt_14 : decode prog_14_method_97_code 14 = .ok (.sipush 255, 3) := by decide +kernel
theorem d_M_byteAt_17 : decode prog_14_method_97_code 17 = .ok (.iand, 1) := by decide +kernel
theorem d_M_byteAt_18 : decode prog_14_method_97_code 18 = .ok (.goto 4, 3) := by decide +kernel
theorem d_M_byteAt_21 : decode prog_14_method_97_code 21 = .ok (.iconst (-1), 1) := by decide +kernel
theorem d_M_byteAt_22 : decode prog_14_method_97_code 22 = .ok (.ireturn, 1) := by decide +kernel
def cf_M_byteAt (a0 : Int32) (w : Wd) (P : Int32 → Prop) : Prop :=
  (((w.1 30 21) ≤ a0 → P (-1 : Int32)) ∧ (¬ (w.1 30 21) ≤ a0 → vp_in a0 300 ∧ P ((w.1 43 a0.toNatClampNeg) &&& (255 : Int32))))
theorem cf_M_byteAt_ok {g : ayG} {d : Nat} (hd : 0 ≤ d) (a0 : Int32)  (w : Wd) (P : Int32 → Prop) (h : cf_M_byteAt a0 w P) : Call g y_M_byteAt prog_14_method_97_code 2 (some FieldType.int) d [.ref (g.1 + 30), .int a0] w (fun (r : Option Value) (w2 : Wd) => ∃ x, r = some (.int x) ∧ w = w2 ∧ P x) := by
  unfold cf_M_byteAt at h
  refine am_enter mi_M_byteAt (Nat.le_of_ble_eq_true rfl) ?_
  have hQ : ∀ x, P x → (fun (r : Option Value) (w2 : Wd) => ∃ x, r = some (.int x) ∧ w = w2 ∧ P x) (some (.int x)) w := fun x h => ⟨x, rfl, rfl, h⟩
  generalize (fun (r : Option Value) (w2 : Wd) => ∃ x, r = some (.int x) ∧ w = w2 ∧ P x) = Q at hQ ⊢
  show wp g (fun _ => True) y_M_byteAt prog_14_method_97_code 2 (some FieldType.int) d 0 [(0, .ref (g.1 + 30)), (1, .int a0)] [] w Q
  refine am_iload_n d_M_byteAt_0 1 rfl ?_
  refine am_aload_n d_M_byteAt_1 0 rfl ?_
  refine am_getf (T := F_M) (fs := ob_M g w 30) (C := R_M) (N := 35) (ci := 10) 21 d_M_byteAt_2 wd_1098 rfl (by decide) (el_M (show ay_sh 30 = _ from rfl)) rfl i_M (by decide) rfl ?_
  refine am_icmp_ge (tgt := 21) d_M_byteAt_5 (by decide) (fun c5 => ?_) (fun c5 => ?_)
  · have h := h.1 c5
    refine am_iconst (v := -1) d_M_byteAt_21 rfl ?_
    exact am_ireturn d_M_byteAt_22 rfl rfl (hQ (-1 : Int32) h)
  · have h := h.2 c5
    refine am_aload_n d_M_byteAt_8 0 rfl ?_
    refine am_getf (T := F_M) (fs := ob_M g w 30) (C := R_M) (N := 35) (ci := 10) 20 d_M_byteAt_9 wd_1097 rfl (by decide) (el_M (show ay_sh 30 = _ from rfl)) rfl i_M (by decide) rfl ?_
    refine am_iload_n d_M_byteAt_12 1 rfl ?_
    have hi13 := h.1
    have h := h.2
    refine am_baload d_M_byteAt_13 (show ay_sh 43 = _ from rfl) hi13 ?_
    refine am_sipush (v := 255) d_M_byteAt_14 rfl ?_
    refine am_iand d_M_byteAt_17 ?_
    refine am_goto (tgt := 22) d_M_byteAt_18 (by decide) ?_
    exact am_ireturn d_M_byteAt_22 rfl rfl (hQ ((w.1 43 a0.toNatClampNeg) &&& (255 : Int32)) h)
theorem d_M_nextByte_0 : decode prog_14_method_98_code 0 = .ok (.aload_n 0, 1) := by decide +kernel
theorem d_M_nextByte_1 : decode prog_14_method_98_code 1 = .ok (.aload_n 0, 1) := by decide +kernel
theorem d_M_nextByte_2 : decode prog_14_method_98_code 2 = .ok (.getfield 309, 3) := by decide +kernel
theorem d_M_nextByte_5 : decode prog_14_method_98_code 5 = .ok (.invokevirtual 312, 3) := by decide +kernel
theorem d_M_nextByte_8 : decode prog_14_method_98_code 8 = .ok (.bipush 32, 2) := by decide +kernel
theorem d_M_nextByte_10 : decode prog_14_method_98_code 10 = .ok (.if_icmp .ne 16, 3) := by decide +kernel
theorem d_M_nextByte_13 : decode prog_14_method_98_code 13 = .ok (.aload_n 0, 1) := by decide +kernel
theorem d_M_nextByte_14 : decode prog_14_method_98_code 14 = .ok (.dup, 1) := by decide +kernel
theorem d_M_nextByte_15 : decode prog_14_method_98_code 15 = .ok (.getfield 309, 3) := by decide +kernel
theorem d_M_nextByte_18 : decode prog_14_method_98_code 18 = .ok (.iconst 1, 1) := by decide +kernel
theorem d_M_nextByte_19 : decode prog_14_method_98_code 19 = .ok (.iadd, 1) := by decide +kernel
theorem d_M_nextByte_20 : decode prog_14_method_98_code 20 = .ok (.putfield 309, 3) := by decide +kernel
theorem d_M_nextByte_23 : decode prog_14_method_98_code 23 = .ok (.goto (-23), 3) := by decide +kernel
theorem d_M_nextByte_26 : decode prog_14_method_98_code 26 = .ok (.aload_n 0, 1) := by decide +kernel
theorem d_M_nextByte_27 : decode prog_14_method_98_code 27 = .ok (.aload_n 0, 1) := by decide +kernel
theorem d_M_nextByte_28 : decode prog_14_method_98_code 28 = .ok (.getfield 309, 3) := by decide +kernel
theorem d_M_nextByte_31 : decode prog_14_method_98_code 31 = .ok (.invokevirtual 312, 3) := by decide +kernel
theorem d_M_nextByte_34 : decode prog_14_method_98_code 34 = .ok (.ireturn, 1) := by decide +kernel
def cf_M_nextByte_B0  (K0 : Wd → Prop) (P : Int32 → Wd → Prop)  (w : Wd) : Prop :=
  cf_M_byteAt (w.1 30 22) w (fun r1 => ((¬ r1 = (32 : Int32) → cf_M_byteAt (w.1 30 22) w (fun r2 => P r2 w)) ∧ (r1 = (32 : Int32) → ∀ w3, w3 = wI w 30 22 ((w.1 30 22) + (1 : Int32)) → K0  w3)))
def cf_M_nextByte_L0   (P : Int32 → Wd → Prop) : Nat → Wd → Prop
  | 0 => fun w => False
  | n + 1 => fun w => cf_M_nextByte_B0 (cf_M_nextByte_L0 P n) P w
def cf_M_nextByte  (w : Wd) (P : Int32 → Wd → Prop) : Prop :=
  ∃ n, cf_M_nextByte_L0 P n  w
theorem cf_M_nextByte_B0_ok {g : ayG} {d : Nat} (hd : 1 ≤ d)   (w : Wd) (K0 : Wd → Prop) (P : Int32 → Wd → Prop) (Q : Option Value → Wd → Prop) (hQ : ∀ x w2, P x w2 → Q (some (.int x)) w2) (hK0 : ∀  (w : Wd), (K0  w → wp g (fun _ => True) y_M_nextByte prog_14_method_98_code 1 (some FieldType.int) d 0 [(0, .ref (g.1 + 30))] [] w Q))  (h : cf_M_nextByte_B0 K0 P w) : wp g (fun _ => True) y_M_nextByte prog_14_method_98_code 1 (some FieldType.int) d 0 [(0, .ref (g.1 + 30))] [] w Q := by
  unfold cf_M_nextByte_B0 at h
  refine am_aload_n d_M_nextByte_0 0 rfl ?_
  refine am_aload_n d_M_nextByte_1 0 rfl ?_
  refine am_getf (T := F_M) (fs := ob_M g w 30) (C := R_M) (N := 35) (ci := 10) 22 d_M_nextByte_2 wd_1099 rfl (by decide) (el_M (show ay_sh 30 = _ from rfl)) rfl i_M (by decide) rfl ?_
  refine am_callV (C := y_M_byteAt.cls) (d2 := d - 1) [.int (w.1 30 22)] d_M_nextByte_5 mi_M_byteAt wd_1576 wd_1578 ws_M_byteAt (by decide) (el_M (show ay_sh 30 = _ from rfl)) rfl rfl (by omega) rfl rfl (Nat.le_of_ble_eq_true rfl) ?_
  refine Call.post ?_ (cf_M_byteAt_ok (by omega) (w.1 30 22)  w _ h)
  rintro _ _ ⟨r1, rfl, rfl, h⟩
  show wp g (fun _ => True) y_M_nextByte prog_14_method_98_code 1 (some FieldType.int) d 8 [(0, .ref (g.1 + 30))] [.int r1] w Q
  refine am_bipush (v := 32) d_M_nextByte_8 rfl ?_
  refine am_icmp_ne (tgt := 26) d_M_nextByte_10 (by decide) (fun c10 => ?_) (fun c10 => ?_)
  · have h := h.1 c10
    refine am_aload_n d_M_nextByte_26 0 rfl ?_
    refine am_aload_n d_M_nextByte_27 0 rfl ?_
    refine am_getf (T := F_M) (fs := ob_M g w 30) (C := R_M) (N := 35) (ci := 10) 22 d_M_nextByte_28 wd_1099 rfl (by decide) (el_M (show ay_sh 30 = _ from rfl)) rfl i_M (by decide) rfl ?_
    refine am_callV (C := y_M_byteAt.cls) (d2 := d - 1) [.int (w.1 30 22)] d_M_nextByte_31 mi_M_byteAt wd_1576 wd_1578 ws_M_byteAt (by decide) (el_M (show ay_sh 30 = _ from rfl)) rfl rfl (by omega) rfl rfl (Nat.le_of_ble_eq_true rfl) ?_
    refine Call.post ?_ (cf_M_byteAt_ok (by omega) (w.1 30 22)  w _ h)
    rintro _ _ ⟨r2, rfl, rfl, h⟩
    show wp g (fun _ => True) y_M_nextByte prog_14_method_98_code 1 (some FieldType.int) d 34 [(0, .ref (g.1 + 30))] [.int r2] w Q
    exact am_ireturn d_M_nextByte_34 rfl rfl (hQ r2 w h)
  · have h := h.2 c10
    refine am_aload_n d_M_nextByte_13 0 rfl ?_
    refine am_dup d_M_nextByte_14 rfl ?_
    refine am_getf (T := F_M) (fs := ob_M g w 30) (C := R_M) (N := 35) (ci := 10) 22 d_M_nextByte_15 wd_1099 rfl (by decide) (el_M (show ay_sh 30 = _ from rfl)) rfl i_M (by decide) rfl ?_
    refine am_iconst (v := 1) d_M_nextByte_18 rfl ?_
    refine am_iadd d_M_nextByte_19 ?_
    refine am_putf (w' := wI w 30 22 ((w.1 30 22) + (1 : Int32))) (ty := .int) (T := F_M) (fs := ob_M g w 30) (C := R_M) (N := 35) (ci := 10) 22 d_M_nextByte_20 wd_1099 rfl (by decide) (el_M (show ay_sh 30 = _ from rfl)) rfl i_M (by decide) G_M ty_M n_M rfl (ty_M 22 (by decide)) rfl rfl (Nat.le_of_ble_eq_true rfl) ((el_M (show ay_sh 30 = _ from rfl)).trans (by rw [pf_M_spot])) wI_o ?_
    obtain ⟨w3, ew3⟩ : ∃ z, z = wI w 30 22 ((w.1 30 22) + (1 : Int32)) := ⟨_, rfl⟩
    rw [← ew3]
    have h := h w3 ew3
    refine am_goto (tgt := 0) d_M_nextByte_23 (by decide) ?_
    refine am_sub [0] rfl ?_
    exact hK0  w3 h
theorem cf_M_nextByte_L0_ok {g : ayG} {d : Nat} (hd : 1 ≤ d)    (P : Int32 → Wd → Prop) (Q : Option Value → Wd → Prop) (hQ : ∀ x w2, P x w2 → Q (some (.int x)) w2)  : ∀ (n : Nat)  (w : Wd) (h : cf_M_nextByte_L0 P n w), wp g (fun _ => True) y_M_nextByte prog_14_method_98_code 1 (some FieldType.int) d 0 [(0, .ref (g.1 + 30))] [] w Q
  | 0, w, h => False.elim h
  | n + 1, w, h => cf_M_nextByte_B0_ok hd   w (cf_M_nextByte_L0 P n) P Q hQ (fun w h => cf_M_nextByte_L0_ok hd    P Q hQ  n w h)  h
theorem cf_M_nextByte_ok {g : ayG} {d : Nat} (hd : 1 ≤ d)   (w : Wd) (P : Int32 → Wd → Prop) (h : cf_M_nextByte w P) : Call g y_M_nextByte prog_14_method_98_code 1 (some FieldType.int) d [.ref (g.1 + 30)] w (fun (r : Option Value) (w2 : Wd) => ∃ x, r = some (.int x) ∧ P x w2) := by
  unfold cf_M_nextByte at h
  refine am_enter mi_M_nextByte (Nat.le_of_ble_eq_true rfl) ?_
  have hQ : ∀ x w2, P x w2 → (fun (r : Option Value) (w2 : Wd) => ∃ x, r = some (.int x) ∧ P x w2) (some (.int x)) w2 := fun x w2 h => ⟨x, rfl, h⟩
  generalize (fun (r : Option Value) (w2 : Wd) => ∃ x, r = some (.int x) ∧ P x w2) = Q at hQ ⊢
  show wp g (fun _ => True) y_M_nextByte prog_14_method_98_code 1 (some FieldType.int) d 0 [(0, .ref (g.1 + 30))] [] w Q
  refine am_sub [0] rfl ?_
  obtain ⟨n, h⟩ := h
  exact cf_M_nextByte_L0_ok (by omega)    P Q hQ  n  w h
theorem d_M_fails_0 : decode prog_14_method_99_code 0 = .ok (.aload_n 0, 1) := by decide +kernel
theorem d_M_fails_1 : decode prog_14_method_99_code 1 = .ok (.bipush 8, 2) := by decide +kernel
theorem d_M_fails_3 : decode prog_14_method_99_code 3 = .ok (.iload_n 2, 1) := by decide +kernel
theorem d_M_fails_4 : decode prog_14_method_99_code 4 = .ok (.imul, 1) := by decide +kernel
theorem d_M_fails_5 : decode prog_14_method_99_code 5 = .ok (.iload_n 1, 1) := by decide +kernel
theorem d_M_fails_6 : decode prog_14_method_99_code 6 = .ok (.iadd, 1) := by decide +kernel
theorem d_M_fails_7 : decode prog_14_method_99_code 7 = .ok (.putfield 58, 3) := by decide +kernel
theorem d_M_fails_10 : decode prog_14_method_99_code 10 = .ok (.aload_n 0, 1) := by decide +kernel
theorem d_M_fails_11 : decode prog_14_method_99_code 11 = .ok (.aload_n 0, 1) := by decide +kernel
theorem d_M_fails_12 : decode prog_14_method_99_code 12 = .ok (.getfield 315, 3) := by decide +kernel
theorem d_M_fails_15 : decode prog_14_method_99_code 15 = .ok (.putfield 318, 3) := by decide +kernel
theorem d_M_fails_18 : decode prog_14_method_99_code 18 = .ok (.aload_n 0, 1) := by decide +kernel
theorem d_M_fails_19 : decode prog_14_method_99_code 19 = .ok (.aload_n 0, 1) := by decide +kernel
theorem d_M_fails_20 : decode prog_14_method_99_code 20 = .ok (.getfield 315, 3) := by decide +kernel
theorem d_M_fails_23 : decode prog_14_method_99_code 23 = .ok (.ifCond .ne 7, 3) := by decide +kernel
theorem d_M_fails_26 : decode prog_14_method_99_code 26 = .ok (.iconst (-1), 1) := by decide +kernel
theorem d_M_fails_27 : decode prog_14_method_99_code 27 = .ok (.goto 14, 3) := by decide +kernel
theorem d_M_fails_30 : decode prog_14_method_99_code 30 = .ok (.aload_n 0, 1) := by decide +kernel
theorem d_M_fails_31 : decode prog_14_method_99_code 31 = .ok (.getfield 65, 3) := by decide +kernel
theorem d_M_fails_34 : decode prog_14_method_99_code 34 = .ok (.aload_n 0, 1) := by decide +kernel
theorem d_M_fails_35 : decode prog_14_method_99_code 35 = .ok (.getfield 315, 3) := by decide +kernel
theorem d_M_fails_38 : decode prog_14_method_99_code 38 = .ok (.iconst 1, 1) := by decide +kernel
theorem d_M_fails_39 : decode prog_14_method_99_code 39 = .ok (.isub, 1) := by decide +kernel
theorem d_M_fails_40 : decode prog_14_method_99_code 40 = .ok (.iaload, 1) := by decide +kernel
theorem d_M_fails_41 : decode prog_14_method_99_code 41 = .ok (.putfield 62, 3) := by decide +kernel
theorem d_M_fails_44 : decode prog_14_method_99_code 44 = .ok (.iconst 0, 1) := by decide +kernel
theorem d_M_fails_45 : decode prog_14_method_99_code 45 = .ok (.ireturn, 1) := by decide +kernel
def cf_M_fails (a0 : Int32) (a1 : Int32) (w : Wd) (P : Int32 → Wd → Prop) : Prop :=
  ∀ w1, w1 = wI w 30 23 (((8 : Int32) * a1) + a0) → ∀ w2, w2 = wI w1 30 24 (w1.1 30 28) → ((¬ (w2.1 30 28) = 0 → vp_in ((w2.1 30 28) - (1 : Int32)) 6 ∧ ∀ w3, w3 = wI w2 30 25 (w2.1 44 ((w2.1 30 28) - (1 : Int32)).toNatClampNeg) → P (0 : Int32) w3) ∧ ((w2.1 30 28) = 0 → ∀ w4, w4 = wI w2 30 25 (-1 : Int32) → P (0 : Int32) w4))
theorem cf_M_fails_ok {g : ayG} {d : Nat} (hd : 0 ≤ d) (a0 : Int32) (a1 : Int32)  (w : Wd) (P : Int32 → Wd → Prop) (h : cf_M_fails a0 a1 w P) : Call g y_M_fails prog_14_method_99_code 3 (some FieldType.boolean) d [.ref (g.1 + 30), .int a0, .int a1] w (fun (r : Option Value) (w2 : Wd) => ∃ x, r = some (.int x) ∧ P x w2) := by
  unfold cf_M_fails at h
  refine am_enter mi_M_fails (Nat.le_of_ble_eq_true rfl) ?_
  have hQ : ∀ x w2, P x w2 → (fun (r : Option Value) (w2 : Wd) => ∃ x, r = some (.int x) ∧ P x w2) (some (.int x)) w2 := fun x w2 h => ⟨x, rfl, h⟩
  generalize (fun (r : Option Value) (w2 : Wd) => ∃ x, r = some (.int x) ∧ P x w2) = Q at hQ ⊢
  show wp g (fun _ => True) y_M_fails prog_14_method_99_code 3 (some FieldType.boolean) d 0 [(0, .ref (g.1 + 30)), (1, .int a0), (2, .int a1)] [] w Q
  refine am_aload_n d_M_fails_0 0 rfl ?_
  refine am_bipush (v := 8) d_M_fails_1 rfl ?_
  refine am_iload_n d_M_fails_3 2 rfl ?_
  refine am_imul d_M_fails_4 ?_
  refine am_iload_n d_M_fails_5 1 rfl ?_
  refine am_iadd d_M_fails_6 ?_
  refine am_putf (w' := wI w 30 23 (((8 : Int32) * a1) + a0)) (ty := .int) (T := F_M) (fs := ob_M g w 30) (C := R_M) (N := 35) (ci := 10) 23 d_M_fails_7 wd_1100 rfl (by decide) (el_M (show ay_sh 30 = _ from rfl)) rfl i_M (by decide) G_M ty_M n_M rfl (ty_M 23 (by decide)) rfl rfl (Nat.le_of_ble_eq_true rfl) ((el_M (show ay_sh 30 = _ from rfl)).trans (by rw [pf_M_wrong])) wI_o ?_
  obtain ⟨w1, ew1⟩ : ∃ z, z = wI w 30 23 (((8 : Int32) * a1) + a0) := ⟨_, rfl⟩
  rw [← ew1]
  have h := h w1 ew1
  refine am_aload_n d_M_fails_10 0 rfl ?_
  refine am_aload_n d_M_fails_11 0 rfl ?_
  refine am_getf (T := F_M) (fs := ob_M g w1 30) (C := R_M) (N := 35) (ci := 10) 28 d_M_fails_12 wd_1105 rfl (by decide) (el_M (show ay_sh 30 = _ from rfl)) rfl i_M (by decide) rfl ?_
  refine am_putf (w' := wI w1 30 24 (w1.1 30 28)) (ty := .int) (T := F_M) (fs := ob_M g w1 30) (C := R_M) (N := 35) (ci := 10) 24 d_M_fails_15 wd_1101 rfl (by decide) (el_M (show ay_sh 30 = _ from rfl)) rfl i_M (by decide) G_M ty_M n_M rfl (ty_M 24 (by decide)) rfl rfl (Nat.le_of_ble_eq_true rfl) ((el_M (show ay_sh 30 = _ from rfl)).trans (by rw [pf_M_wrongOpen])) wI_o ?_
  obtain ⟨w2, ew2⟩ : ∃ z, z = wI w1 30 24 (w1.1 30 28) := ⟨_, rfl⟩
  rw [← ew2]
  have h := h w2 ew2
  refine am_aload_n d_M_fails_18 0 rfl ?_
  refine am_aload_n d_M_fails_19 0 rfl ?_
  refine am_getf (T := F_M) (fs := ob_M g w2 30) (C := R_M) (N := 35) (ci := 10) 28 d_M_fails_20 wd_1105 rfl (by decide) (el_M (show ay_sh 30 = _ from rfl)) rfl i_M (by decide) rfl ?_
  refine am_if_ne (tgt := 30) d_M_fails_23 (by decide) (fun c23 => ?_) (fun c23 => ?_)
  · have h := h.1 c23
    refine am_aload_n d_M_fails_30 0 rfl ?_
    refine am_getf (T := F_M) (fs := ob_M g w2 30) (C := R_M) (N := 35) (ci := 10) 29 d_M_fails_31 wd_1106 rfl (by decide) (el_M (show ay_sh 30 = _ from rfl)) rfl i_M (by decide) rfl ?_
    refine am_aload_n d_M_fails_34 0 rfl ?_
    refine am_getf (T := F_M) (fs := ob_M g w2 30) (C := R_M) (N := 35) (ci := 10) 28 d_M_fails_35 wd_1105 rfl (by decide) (el_M (show ay_sh 30 = _ from rfl)) rfl i_M (by decide) rfl ?_
    refine am_iconst (v := 1) d_M_fails_38 rfl ?_
    refine am_isub d_M_fails_39 ?_
    have hi40 := h.1
    have h := h.2
    refine am_iaload d_M_fails_40 (show ay_sh 44 = _ from rfl) hi40 ?_
    refine am_putf (w' := wI w2 30 25 (w2.1 44 ((w2.1 30 28) - (1 : Int32)).toNatClampNeg)) (ty := .int) (T := F_M) (fs := ob_M g w2 30) (C := R_M) (N := 35) (ci := 10) 25 d_M_fails_41 wd_1102 rfl (by decide) (el_M (show ay_sh 30 = _ from rfl)) rfl i_M (by decide) G_M ty_M n_M rfl (ty_M 25 (by decide)) rfl rfl (Nat.le_of_ble_eq_true rfl) ((el_M (show ay_sh 30 = _ from rfl)).trans (by rw [pf_M_wrongAt])) wI_o ?_
    obtain ⟨w3, ew3⟩ : ∃ z, z = wI w2 30 25 (w2.1 44 ((w2.1 30 28) - (1 : Int32)).toNatClampNeg) := ⟨_, rfl⟩
    rw [← ew3]
    have h := h w3 ew3
    refine am_iconst (v := 0) d_M_fails_44 rfl ?_
    exact am_ireturn d_M_fails_45 rfl rfl (hQ (0 : Int32) w3 h)
  · have h := h.2 c23
    refine am_iconst (v := -1) d_M_fails_26 rfl ?_
    refine am_goto (tgt := 41) d_M_fails_27 (by decide) ?_
    refine am_putf (w' := wI w2 30 25 (-1 : Int32)) (ty := .int) (T := F_M) (fs := ob_M g w2 30) (C := R_M) (N := 35) (ci := 10) 25 d_M_fails_41 wd_1102 rfl (by decide) (el_M (show ay_sh 30 = _ from rfl)) rfl i_M (by decide) G_M ty_M n_M rfl (ty_M 25 (by decide)) rfl rfl (Nat.le_of_ble_eq_true rfl) ((el_M (show ay_sh 30 = _ from rfl)).trans (by rw [pf_M_wrongAt])) wI_o ?_
    obtain ⟨w4, ew4⟩ : ∃ z, z = wI w2 30 25 (-1 : Int32) := ⟨_, rfl⟩
    rw [← ew4]
    have h := h w4 ew4
    refine am_iconst (v := 0) d_M_fails_44 rfl ?_
    exact am_ireturn d_M_fails_45 rfl rfl (hQ (0 : Int32) w4 h)
theorem d_M_isWord_0 : decode prog_14_method_100_code 0 = .ok (.aload_n 0, 1) := by decide +kernel
theorem d_M_isWord_1 : decode prog_14_method_100_code 1 = .ok (.invokevirtual 321, 3) := by decide +kernel
theorem d_M_isWord_4 : decode prog_14_method_100_code 4 = .ok (.iconst (-1), 1) := by decide +kernel
theorem d_M_isWord_5 : decode prog_14_method_100_code 5 = .ok (.if_icmp .ne 10, 3) := by decide +kernel
theorem d_M_isWord_8 : decode prog_14_method_100_code 8 = .ok (.aload_n 0, 1) := by decide +kernel
theorem d_M_isWord_9 : decode prog_14_method_100_code 9 = .ok (.getfield 300, 3) := by decide +kernel
theorem d_M_isWord_12 : decode prog_14_method_100_code 12 = .ok (.goto 7, 3) := by decide +kernel
theorem d_M_isWord_15 : decode prog_14_method_100_code 15 = .ok (.aload_n 0, 1) := by decide +kernel
theorem d_M_isWord_16 : decode prog_14_method_100_code 16 = .ok (.getfield 309, 3) := by decide +kernel
theorem d_M_isWord_19 : decode prog_14_method_100_code 19 = .ok (.istore_n 2, 1) := by decide +kernel
theorem d_M_isWord_20 : decode prog_14_method_100_code 20 = .ok (.iconst 0, 1) := by decide +kernel
theorem d_M_isWord_21 : decode prog_14_method_100_code 21 = .ok (.istore_n 3, 1) := by decide +kernel
theorem d_M_isWord_22 : decode prog_14_method_100_code 22 = .ok (.iload_n 3, 1) := by decide +kernel
theorem d_M_isWord_23 : decode prog_14_method_100_code 23 = .ok (.aload_n 1, 1) := by decide +kernel
theorem d_M_isWord_24 : decode prog_14_method_100_code 24 = .ok (.invokevirtual 324, 3) := by decide +kernel
theorem d_M_isWord_27 : decode prog_14_method_100_code 27 = .ok (.if_icmp .ge 24, 3) := by decide +kernel
theorem d_M_isWord_30 : decode prog_14_method_100_code 30 = .ok (.aload_n 0, 1) := by decide +kernel
theorem d_M_isWord_31 : decode prog_14_method_100_code 31 = .ok (.iload_n 2, 1) := by decide +kernel
theorem d_M_isWord_32 : decode prog_14_method_100_code 32 = .ok (.iload_n 3, 1) := by decide +kernel
theorem d_M_isWord_33 : decode prog_14_method_100_code 33 = .ok (.iadd, 1) := by decide +kernel
theorem d_M_isWord_34 : decode prog_14_method_100_code 34 = .ok (.invokevirtual 312, 3) := by decide +kernel
theorem d_M_isWord_37 : decode prog_14_method_100_code 37 = .ok (.aload_n 1, 1) := by decide +kernel
theorem d_M_isWord_38 : decode prog_14_method_100_code 38 = .ok (.iload_n 3, 1) := by decide +kernel
theorem d_M_isWord_39 : decode prog_14_method_100_code 39 = .ok (.invokevirtual 329, 3) := by decide +kernel
theorem d_M_isWord_42 : decode prog_14_method_100_code 42 = .ok (.if_icmp .ne 9, 3) := by decide +kernel
theorem d_M_isWord_45 : decode prog_14_method_100_code 45 = .ok (.iinc 3 1, 3) := by decide +kernel
theorem d_M_isWord_48 : decode prog_14_method_100_code 48 = .ok (.goto (-26), 3) := by decide +kernel
theorem d_M_isWord_51 : decode prog_14_method_100_code 51 = .ok (.iload_n 3, 1) := by decide +kernel
theorem d_M_isWord_52 : decode prog_14_method_100_code 52 = .ok (.aload_n 1, 1) := by decide +kernel
theorem d_M_isWord_53 : decode prog_14_method_100_code 53 = .ok (.invokevirtual 324, 3) := by decide +kernel
theorem d_M_isWord_56 : decode prog_14_method_100_code 56 = .ok (.if_icmp .ne 27, 3) := by decide +kernel
theorem d_M_isWord_59 : decode prog_14_method_100_code 59 = .ok (.aload_n 0, 1) := by decide +kernel
theorem d_M_isWord_60 : decode prog_14_method_100_code 60 = .ok (.iload_n 2, 1) := by decide +kernel
theorem d_M_isWord_61 : decode prog_14_method_100_code 61 = .ok (.iload_n 3, 1) := by decide +kernel
theorem d_M_isWord_62 : decode prog_14_method_100_code 62 = .ok (.iadd, 1) := by decide +kernel
theorem d_M_isWord_63 : decode prog_14_method_100_code 63 = .ok (.invokevirtual 312, 3) := by decide +kernel
theorem d_M_isWord_66 : decode prog_14_method_100_code 66 = .ok (.i2l, 1) := by decide +kernel
theorem d_M_isWord_67 : decode prog_14_method_100_code 67 = .ok (.ldc2_w 333, 3) := by decide +kernel
theorem d_M_isWord_70 : decode prog_14_method_100_code 70 = .ok (.ldc2_w 335, 3) := by decide +kernel
theorem d_M_isWord_73 : decode prog_14_method_100_code 73 = .ok (.invokestatic 76, 3) := by decide +kernel
theorem d_M_isWord_76 : decode prog_14_method_100_code 76 = .ok (.ifCond .ne 7, 3) := by decide +kernel
theorem d_M_isWord_79 : decode prog_14_method_100_code 79 = .ok (.iconst 1, 1) := by decide +kernel
theorem d_M_isWord_80 : decode prog_14_method_100_code 80 = .ok (.goto 4, 3) := by decide +kernel
theorem d_M_isWord_83 : decode prog_14_method_100_code 83 = .ok (.iconst 0, 1) := by decide +kernel
theorem d_M_isWord_84 : decode prog_14_method_100_code 84 = .ok (.ireturn, 1) := by decide +kernel
def cf_M_isWord_B51 (i0 : Nat)  (P : Int32 → Wd → Prop) (x2 : Int32) (x3 : Int32) (w : Wd) : Prop :=
  cf_String_length i0 (fun r5 => ((¬ x3 = r5 → P (0 : Int32) w) ∧ (x3 = r5 → cf_M_byteAt (x2 + x3) w (fun r6 => cf_M_in r6.toInt64 (97 : Int64) (122 : Int64) (fun r7 => ((¬ r7 = 0 → P (0 : Int32) w) ∧ (r7 = 0 → P (1 : Int32) w)))))))
def cf_M_isWord_B22 (i0 : Nat) (K22 : Int32 → Int32 → Wd → Prop) (P : Int32 → Wd → Prop) (x2 : Int32) (x3 : Int32) (w : Wd) : Prop :=
  cf_String_length i0 (fun r4 => ((r4 ≤ x3 → cf_M_isWord_B51 i0 P x2 x3 w) ∧ (¬ r4 ≤ x3 → cf_M_byteAt (x2 + x3) w (fun r8 => cf_String_charAt i0 x3 (fun r9 => ((¬ r8 = r9 → cf_M_isWord_B51 i0 P x2 x3 w) ∧ (r8 = r9 → ∀ v10, v10 = x3 + (1 : Int32) → K22 x2 v10 w)))))))
def cf_M_isWord_L22 (i0 : Nat)  (P : Int32 → Wd → Prop) : Nat → Int32 → Int32 → Wd → Prop
  | 0 => fun x2 x3 w => False
  | n + 1 => fun x2 x3 w => cf_M_isWord_B22 i0 (cf_M_isWord_L22 i0 P n) P x2 x3 w
def cf_M_isWord (i0 : Nat) (w : Wd) (P : Int32 → Wd → Prop) : Prop :=
  cf_M_nextByte  w (fun r1 w2 => ((¬ r1 = (-1 : Int32) → ∀ v3, v3 = w2.1 30 22 → ∃ n, cf_M_isWord_L22 i0 P n v3 (0 : Int32) w2) ∧ (r1 = (-1 : Int32) → ∀ v11, v11 = w2.1 30 21 → ∃ n, cf_M_isWord_L22 i0 P n v11 (0 : Int32) w2)))
theorem cf_M_isWord_B51_ok {g : ayG} {d : Nat} (hd : 7 ≤ d) (i0 : Nat) (hi0 : i0 < 5) (w : Wd)  (P : Int32 → Wd → Prop) (Q : Option Value → Wd → Prop) (hQ : ∀ x w2, P x w2 → Q (some (.int x)) w2)  (x2 : Int32) (x3 : Int32) (h : cf_M_isWord_B51 i0 P x2 x3 w) : wp g (fun _ => True) y_M_isWord prog_14_method_100_code 4 (some FieldType.boolean) d 51 [(0, .ref (g.1 + 30)), (1, .ref (g.2.2.2.1 i0)), (2, .int x2), (3, .int x3)] [] w Q := by
  unfold cf_M_isWord_B51 at h
  refine am_iload_n d_M_isWord_51 3 rfl ?_
  refine am_aload_n d_M_isWord_52 1 rfl ?_
  refine am_String_length (by omega) d_M_isWord_53 wd_1619 hi0 rfl (Nat.le_of_ble_eq_true rfl) h (fun r5 h => ?_)
  show wp g (fun _ => True) y_M_isWord prog_14_method_100_code 4 (some FieldType.boolean) d 56 [(0, .ref (g.1 + 30)), (1, .ref (g.2.2.2.1 i0)), (2, .int x2), (3, .int x3)] [.int r5, .int x3] w Q
  refine am_icmp_ne (tgt := 83) d_M_isWord_56 (by decide) (fun c56 => ?_) (fun c56 => ?_)
  · have h := h.1 c56
    refine am_iconst (v := 0) d_M_isWord_83 rfl ?_
    exact am_ireturn d_M_isWord_84 rfl rfl (hQ (0 : Int32) w h)
  · have h := h.2 c56
    refine am_aload_n d_M_isWord_59 0 rfl ?_
    refine am_iload_n d_M_isWord_60 2 rfl ?_
    refine am_iload_n d_M_isWord_61 3 rfl ?_
    refine am_iadd d_M_isWord_62 ?_
    refine am_callV (C := y_M_byteAt.cls) (d2 := d - 1) [.int (x2 + x3)] d_M_isWord_63 mi_M_byteAt wd_1576 wd_1578 ws_M_byteAt (by decide) (el_M (show ay_sh 30 = _ from rfl)) rfl rfl (by omega) rfl rfl (Nat.le_of_ble_eq_true rfl) ?_
    refine Call.post ?_ (cf_M_byteAt_ok (by omega) (x2 + x3)  w _ h)
    rintro _ _ ⟨r6, rfl, rfl, h⟩
    show wp g (fun _ => True) y_M_isWord prog_14_method_100_code 4 (some FieldType.boolean) d 66 [(0, .ref (g.1 + 30)), (1, .ref (g.2.2.2.1 i0)), (2, .int x2), (3, .int x3)] [.int r6] w Q
    refine am_i2l d_M_isWord_66 ?_
    refine am_ldc2 (v := 97) d_M_isWord_67 wd_1621 ?_
    refine am_ldc2 (v := 122) d_M_isWord_70 wd_1622 ?_
    refine am_callS (d2 := d - 1) [.long r6.toInt64, .long (97 : Int64), .long (122 : Int64)] d_M_isWord_73 mi_M_in wd_1192 wd_1193 (by omega) rfl rfl (Nat.le_of_ble_eq_true rfl) ?_
    refine Call.post ?_ (cf_M_in_ok (by omega) r6.toInt64 (97 : Int64) (122 : Int64)  w _ h)
    rintro _ _ ⟨r7, rfl, rfl, h⟩
    show wp g (fun _ => True) y_M_isWord prog_14_method_100_code 4 (some FieldType.boolean) d 76 [(0, .ref (g.1 + 30)), (1, .ref (g.2.2.2.1 i0)), (2, .int x2), (3, .int x3)] [.int r7] w Q
    refine am_if_ne (tgt := 83) d_M_isWord_76 (by decide) (fun c76 => ?_) (fun c76 => ?_)
    · have h := h.1 c76
      refine am_iconst (v := 0) d_M_isWord_83 rfl ?_
      exact am_ireturn d_M_isWord_84 rfl rfl (hQ (0 : Int32) w h)
    · have h := h.2 c76
      refine am_iconst (v := 1) d_M_isWord_79 rfl ?_
      refine am_goto (tgt := 84) d_M_isWord_80 (by decide) ?_
      exact am_ireturn d_M_isWord_84 rfl rfl (hQ (1 : Int32) w h)
theorem cf_M_isWord_B22_ok {g : ayG} {d : Nat} (hd : 7 ≤ d) (i0 : Nat) (hi0 : i0 < 5) (w : Wd) (K22 : Int32 → Int32 → Wd → Prop) (P : Int32 → Wd → Prop) (Q : Option Value → Wd → Prop) (hQ : ∀ x w2, P x w2 → Q (some (.int x)) w2) (hK22 : ∀ (x2 : Int32) (x3 : Int32) (w : Wd), (K22 x2 x3 w → wp g (fun _ => True) y_M_isWord prog_14_method_100_code 4 (some FieldType.boolean) d 22 [(0, .ref (g.1 + 30)), (1, .ref (g.2.2.2.1 i0)), (2, .int x2), (3, .int x3)] [] w Q)) (x2 : Int32) (x3 : Int32) (h : cf_M_isWord_B22 i0 K22 P x2 x3 w) : wp g (fun _ => True) y_M_isWord prog_14_method_100_code 4 (some FieldType.boolean) d 22 [(0, .ref (g.1 + 30)), (1, .ref (g.2.2.2.1 i0)), (2, .int x2), (3, .int x3)] [] w Q := by
  unfold cf_M_isWord_B22 at h
  refine am_iload_n d_M_isWord_22 3 rfl ?_
  refine am_aload_n d_M_isWord_23 1 rfl ?_
  refine am_String_length (by omega) d_M_isWord_24 wd_1619 hi0 rfl (Nat.le_of_ble_eq_true rfl) h (fun r4 h => ?_)
  show wp g (fun _ => True) y_M_isWord prog_14_method_100_code 4 (some FieldType.boolean) d 27 [(0, .ref (g.1 + 30)), (1, .ref (g.2.2.2.1 i0)), (2, .int x2), (3, .int x3)] [.int r4, .int x3] w Q
  refine am_icmp_ge (tgt := 51) d_M_isWord_27 (by decide) (fun c27 => ?_) (fun c27 => ?_)
  · have h := h.1 c27
    refine am_sub [0, 1, 2, 3] rfl ?_
    exact cf_M_isWord_B51_ok (by omega) i0 hi0 w  P Q hQ  x2 x3 h
  · have h := h.2 c27
    refine am_aload_n d_M_isWord_30 0 rfl ?_
    refine am_iload_n d_M_isWord_31 2 rfl ?_
    refine am_iload_n d_M_isWord_32 3 rfl ?_
    refine am_iadd d_M_isWord_33 ?_
    refine am_callV (C := y_M_byteAt.cls) (d2 := d - 1) [.int (x2 + x3)] d_M_isWord_34 mi_M_byteAt wd_1576 wd_1578 ws_M_byteAt (by decide) (el_M (show ay_sh 30 = _ from rfl)) rfl rfl (by omega) rfl rfl (Nat.le_of_ble_eq_true rfl) ?_
    refine Call.post ?_ (cf_M_byteAt_ok (by omega) (x2 + x3)  w _ h)
    rintro _ _ ⟨r8, rfl, rfl, h⟩
    show wp g (fun _ => True) y_M_isWord prog_14_method_100_code 4 (some FieldType.boolean) d 37 [(0, .ref (g.1 + 30)), (1, .ref (g.2.2.2.1 i0)), (2, .int x2), (3, .int x3)] [.int r8] w Q
    refine am_aload_n d_M_isWord_37 1 rfl ?_
    refine am_iload_n d_M_isWord_38 3 rfl ?_
    refine am_String_charAt (by omega) d_M_isWord_39 wd_1620 hi0 rfl (Nat.le_of_ble_eq_true rfl) h (fun r9 h => ?_)
    show wp g (fun _ => True) y_M_isWord prog_14_method_100_code 4 (some FieldType.boolean) d 42 [(0, .ref (g.1 + 30)), (1, .ref (g.2.2.2.1 i0)), (2, .int x2), (3, .int x3)] [.int r9, .int r8] w Q
    refine am_icmp_ne (tgt := 51) d_M_isWord_42 (by decide) (fun c42 => ?_) (fun c42 => ?_)
    · have h := h.1 c42
      refine am_sub [0, 1, 2, 3] rfl ?_
      exact cf_M_isWord_B51_ok (by omega) i0 hi0 w  P Q hQ  x2 x3 h
    · have h := h.2 c42
      obtain ⟨v10, ev10⟩ : ∃ z : Int32, z = x3 + (1 : Int32) := ⟨_, rfl⟩
      have h := h v10 ev10
      refine am_iinc (v := v10) (l' := [(3, .int v10), (0, .ref (g.1 + 30)), (1, .ref (g.2.2.2.1 i0)), (2, .int x2)]) d_M_isWord_45 3 rfl (by rw [ev10]; rfl) (by decide) rfl ?_
      refine am_goto (tgt := 22) d_M_isWord_48 (by decide) ?_
      refine am_sub [1, 2, 3, 0] rfl ?_
      exact hK22 x2 v10 w h
theorem cf_M_isWord_L22_ok {g : ayG} {d : Nat} (hd : 7 ≤ d) (i0 : Nat) (hi0 : i0 < 5)  (P : Int32 → Wd → Prop) (Q : Option Value → Wd → Prop) (hQ : ∀ x w2, P x w2 → Q (some (.int x)) w2)  : ∀ (n : Nat) (x2 : Int32) (x3 : Int32) (w : Wd) (h : cf_M_isWord_L22 i0 P n x2 x3 w), wp g (fun _ => True) y_M_isWord prog_14_method_100_code 4 (some FieldType.boolean) d 22 [(0, .ref (g.1 + 30)), (1, .ref (g.2.2.2.1 i0)), (2, .int x2), (3, .int x3)] [] w Q
  | 0, x2, x3, w, h => False.elim h
  | n + 1, x2, x3, w, h => cf_M_isWord_B22_ok hd i0 hi0 w (cf_M_isWord_L22 i0 P n) P Q hQ (fun x2 x3 w h => cf_M_isWord_L22_ok hd i0 hi0  P Q hQ  n x2 x3 w h) x2 x3 h
theorem cf_M_isWord_ok {g : ayG} {d : Nat} (hd : 7 ≤ d) (i0 : Nat) (hi0 : i0 < 5) (w : Wd) (P : Int32 → Wd → Prop) (h : cf_M_isWord i0 w P) : Call g y_M_isWord prog_14_method_100_code 4 (some FieldType.boolean) d [.ref (g.1 + 30), .ref (g.2.2.2.1 i0)] w (fun (r : Option Value) (w2 : Wd) => ∃ x, r = some (.int x) ∧ P x w2) := by
  unfold cf_M_isWord at h
  refine am_enter mi_M_isWord (Nat.le_of_ble_eq_true rfl) ?_
  have hQ : ∀ x w2, P x w2 → (fun (r : Option Value) (w2 : Wd) => ∃ x, r = some (.int x) ∧ P x w2) (some (.int x)) w2 := fun x w2 h => ⟨x, rfl, h⟩
  generalize (fun (r : Option Value) (w2 : Wd) => ∃ x, r = some (.int x) ∧ P x w2) = Q at hQ ⊢
  show wp g (fun _ => True) y_M_isWord prog_14_method_100_code 4 (some FieldType.boolean) d 0 [(0, .ref (g.1 + 30)), (1, .ref (g.2.2.2.1 i0))] [] w Q
  refine am_aload_n d_M_isWord_0 0 rfl ?_
  refine am_callV (C := y_M_nextByte.cls) (d2 := d - 1) [] d_M_isWord_1 mi_M_nextByte wd_1572 wd_1574 ws_M_nextByte (by decide) (el_M (show ay_sh 30 = _ from rfl)) rfl rfl (by omega) rfl rfl (Nat.le_of_ble_eq_true rfl) ?_
  refine Call.post ?_ (cf_M_nextByte_ok (by omega)   w _ h)
  rintro _ w2 ⟨r1, rfl, h⟩
  show wp g (fun _ => True) y_M_isWord prog_14_method_100_code 4 (some FieldType.boolean) d 4 [(0, .ref (g.1 + 30)), (1, .ref (g.2.2.2.1 i0))] [.int r1] w2 Q
  refine am_iconst (v := -1) d_M_isWord_4 rfl ?_
  refine am_icmp_ne (tgt := 15) d_M_isWord_5 (by decide) (fun c5 => ?_) (fun c5 => ?_)
  · have h := h.1 c5
    refine am_aload_n d_M_isWord_15 0 rfl ?_
    refine am_getf (T := F_M) (fs := ob_M g w2 30) (C := R_M) (N := 35) (ci := 10) 22 d_M_isWord_16 wd_1099 rfl (by decide) (el_M (show ay_sh 30 = _ from rfl)) rfl i_M (by decide) rfl ?_
    refine am_topi (fun v3 ev3 => ?_)
    have h := h v3 ev3
    refine am_istore_n (l' := [(2, .int v3), (0, .ref (g.1 + 30)), (1, .ref (g.2.2.2.1 i0))]) d_M_isWord_19 (by decide) rfl ?_
    refine am_iconst (v := 0) d_M_isWord_20 rfl ?_
    refine am_istore_n (l' := [(3, .int (0 : Int32)), (2, .int v3), (0, .ref (g.1 + 30)), (1, .ref (g.2.2.2.1 i0))]) d_M_isWord_21 (by decide) rfl ?_
    refine am_sub [2, 3, 1, 0] rfl ?_
    obtain ⟨n, h⟩ := h
    exact cf_M_isWord_L22_ok (by omega) i0 hi0  P Q hQ  n v3 (0 : Int32) w2 h
  · have h := h.2 c5
    refine am_aload_n d_M_isWord_8 0 rfl ?_
    refine am_getf (T := F_M) (fs := ob_M g w2 30) (C := R_M) (N := 35) (ci := 10) 21 d_M_isWord_9 wd_1098 rfl (by decide) (el_M (show ay_sh 30 = _ from rfl)) rfl i_M (by decide) rfl ?_
    refine am_goto (tgt := 19) d_M_isWord_12 (by decide) ?_
    refine am_topi (fun v11 ev11 => ?_)
    have h := h v11 ev11
    refine am_istore_n (l' := [(2, .int v11), (0, .ref (g.1 + 30)), (1, .ref (g.2.2.2.1 i0))]) d_M_isWord_19 (by decide) rfl ?_
    refine am_iconst (v := 0) d_M_isWord_20 rfl ?_
    refine am_istore_n (l' := [(3, .int (0 : Int32)), (2, .int v11), (0, .ref (g.1 + 30)), (1, .ref (g.2.2.2.1 i0))]) d_M_isWord_21 (by decide) rfl ?_
    refine am_sub [2, 3, 1, 0] rfl ?_
    obtain ⟨n, h⟩ := h
    exact cf_M_isWord_L22_ok (by omega) i0 hi0  P Q hQ  n v11 (0 : Int32) w2 h
theorem d_M_takesWord_0 : decode prog_14_method_101_code 0 = .ok (.aload_n 0, 1) := by decide +kernel
theorem d_M_takesWord_1 : decode prog_14_method_101_code 1 = .ok (.aload_n 1, 1) := by decide +kernel
theorem d_M_takesWord_2 : decode prog_14_method_101_code 2 = .ok (.invokevirtual 337, 3) := by decide +kernel
theorem d_M_takesWord_5 : decode prog_14_method_101_code 5 = .ok (.istore_n 2, 1) := by decide +kernel
theorem d_M_takesWord_6 : decode prog_14_method_101_code 6 = .ok (.iload_n 2, 1) := by decide +kernel
theorem d_M_takesWord_7 : decode prog_14_method_101_code 7 = .ok (.ifCond .eq 16, 3) := by decide +kernel
theorem d_M_takesWord_10 : decode prog_14_method_101_code 10 = .ok (.aload_n 0, 1) := by decide +kernel
theorem d_M_takesWord_11 : decode prog_14_method_101_code 11 = .ok (.dup, 1) := by decide +kernel
theorem d_M_takesWord_12 : decode prog_14_method_101_code 12 = .ok (.getfield 309, 3) := by decide +kernel
theorem d_M_takesWord_15 : decode prog_14_method_101_code 15 = .ok (.aload_n 1, 1) := by decide +kernel
theorem d_M_takesWord_16 : decode prog_14_method_101_code 16 = .ok (.invokevirtual 324, 3) := by decide +kernel
theorem d_M_takesWord_19 : decode prog_14_method_101_code 19 = .ok (.iadd, 1) := by decide +kernel
theorem d_M_takesWord_20 : decode prog_14_method_101_code 20 = .ok (.putfield 309, 3) := by decide +kernel
theorem d_M_takesWord_23 : decode prog_14_method_101_code 23 = .ok (.iload_n 2, 1) := by decide +kernel
theorem d_M_takesWord_24 : decode prog_14_method_101_code 24 = .ok (.ireturn, 1) := by decide +kernel
def cf_M_takesWord (i0 : Nat) (w : Wd) (P : Int32 → Wd → Prop) : Prop :=
  cf_M_isWord i0 w (fun r1 w2 => ((r1 = 0 → (r1 = 0 ∨ r1 = 1) ∧ P r1 w2) ∧ (¬ r1 = 0 → cf_String_length i0 (fun r3 => ∀ w4, w4 = wI w2 30 22 ((w2.1 30 22) + r3) → (r1 = 0 ∨ r1 = 1) ∧ P r1 w4))))
theorem cf_M_takesWord_ok {g : ayG} {d : Nat} (hd : 8 ≤ d) (i0 : Nat) (hi0 : i0 < 5) (w : Wd) (P : Int32 → Wd → Prop) (h : cf_M_takesWord i0 w P) : Call g y_M_takesWord prog_14_method_101_code 3 (some FieldType.boolean) d [.ref (g.1 + 30), .ref (g.2.2.2.1 i0)] w (fun (r : Option Value) (w2 : Wd) => ∃ x, r = some (.int x) ∧ P x w2) := by
  unfold cf_M_takesWord at h
  refine am_enter mi_M_takesWord (Nat.le_of_ble_eq_true rfl) ?_
  have hQ : ∀ x w2, P x w2 → (fun (r : Option Value) (w2 : Wd) => ∃ x, r = some (.int x) ∧ P x w2) (some (.int x)) w2 := fun x w2 h => ⟨x, rfl, h⟩
  generalize (fun (r : Option Value) (w2 : Wd) => ∃ x, r = some (.int x) ∧ P x w2) = Q at hQ ⊢
  show wp g (fun _ => True) y_M_takesWord prog_14_method_101_code 3 (some FieldType.boolean) d 0 [(0, .ref (g.1 + 30)), (1, .ref (g.2.2.2.1 i0))] [] w Q
  refine am_aload_n d_M_takesWord_0 0 rfl ?_
  refine am_aload_n d_M_takesWord_1 1 rfl ?_
  refine am_callV (C := y_M_isWord.cls) (d2 := d - 1) [.ref (g.2.2.2.1 i0)] d_M_takesWord_2 mi_M_isWord wd_1615 wd_1617 ws_M_isWord (by decide) (el_M (show ay_sh 30 = _ from rfl)) rfl rfl (by omega) rfl rfl (Nat.le_of_ble_eq_true rfl) ?_
  refine Call.post ?_ (cf_M_isWord_ok (by omega) i0 hi0 w _ h)
  rintro _ w2 ⟨r1, rfl, h⟩
  show wp g (fun _ => True) y_M_takesWord prog_14_method_101_code 3 (some FieldType.boolean) d 5 [(0, .ref (g.1 + 30)), (1, .ref (g.2.2.2.1 i0))] [.int r1] w2 Q
  refine am_istore_n (l' := [(2, .int r1), (0, .ref (g.1 + 30)), (1, .ref (g.2.2.2.1 i0))]) d_M_takesWord_5 (by decide) rfl ?_
  refine am_iload_n d_M_takesWord_6 0 rfl ?_
  refine am_if_eq (tgt := 23) d_M_takesWord_7 (by decide) (fun c7 => ?_) (fun c7 => ?_)
  · have h := h.1 c7
    refine am_iload_n d_M_takesWord_23 0 rfl ?_
    exact am_ireturn d_M_takesWord_24 rfl (ay_nb h.1) (hQ r1 w2 h.2)
  · have h := h.2 c7
    refine am_aload_n d_M_takesWord_10 1 rfl ?_
    refine am_dup d_M_takesWord_11 rfl ?_
    refine am_getf (T := F_M) (fs := ob_M g w2 30) (C := R_M) (N := 35) (ci := 10) 22 d_M_takesWord_12 wd_1099 rfl (by decide) (el_M (show ay_sh 30 = _ from rfl)) rfl i_M (by decide) rfl ?_
    refine am_aload_n d_M_takesWord_15 2 rfl ?_
    refine am_String_length (by omega) d_M_takesWord_16 wd_1619 hi0 rfl (Nat.le_of_ble_eq_true rfl) h (fun r3 h => ?_)
    show wp g (fun _ => True) y_M_takesWord prog_14_method_101_code 3 (some FieldType.boolean) d 19 [(2, .int r1), (0, .ref (g.1 + 30)), (1, .ref (g.2.2.2.1 i0))] [.int r3, .int (w2.1 30 22), .ref (g.1 + 30)] w2 Q
    refine am_iadd d_M_takesWord_19 ?_
    refine am_putf (w' := wI w2 30 22 ((w2.1 30 22) + r3)) (ty := .int) (T := F_M) (fs := ob_M g w2 30) (C := R_M) (N := 35) (ci := 10) 22 d_M_takesWord_20 wd_1099 rfl (by decide) (el_M (show ay_sh 30 = _ from rfl)) rfl i_M (by decide) G_M ty_M n_M rfl (ty_M 22 (by decide)) rfl rfl (Nat.le_of_ble_eq_true rfl) ((el_M (show ay_sh 30 = _ from rfl)).trans (by rw [pf_M_spot])) wI_o ?_
    obtain ⟨w4, ew4⟩ : ∃ z, z = wI w2 30 22 ((w2.1 30 22) + r3) := ⟨_, rfl⟩
    rw [← ew4]
    have h := h w4 ew4
    refine am_iload_n d_M_takesWord_23 0 rfl ?_
    exact am_ireturn d_M_takesWord_24 rfl (ay_nb h.1) (hQ r1 w4 h.2)
theorem d_M_takesSign_0 : decode prog_14_method_102_code 0 = .ok (.aload_n 0, 1) := by decide +kernel
theorem d_M_takesSign_1 : decode prog_14_method_102_code 1 = .ok (.invokevirtual 321, 3) := by decide +kernel
theorem d_M_takesSign_4 : decode prog_14_method_102_code 4 = .ok (.iload_n 1, 1) := by decide +kernel
theorem d_M_takesSign_5 : decode prog_14_method_102_code 5 = .ok (.if_icmp .ne 7, 3) := by decide +kernel
theorem d_M_takesSign_8 : decode prog_14_method_102_code 8 = .ok (.iconst 1, 1) := by decide +kernel
theorem d_M_takesSign_9 : decode prog_14_method_102_code 9 = .ok (.goto 4, 3) := by decide +kernel
theorem d_M_takesSign_12 : decode prog_14_method_102_code 12 = .ok (.iconst 0, 1) := by decide +kernel
theorem d_M_takesSign_13 : decode prog_14_method_102_code 13 = .ok (.istore_n 2, 1) := by decide +kernel
theorem d_M_takesSign_14 : decode prog_14_method_102_code 14 = .ok (.iload_n 2, 1) := by decide +kernel
theorem d_M_takesSign_15 : decode prog_14_method_102_code 15 = .ok (.ifCond .eq 13, 3) := by decide +kernel
theorem d_M_takesSign_18 : decode prog_14_method_102_code 18 = .ok (.aload_n 0, 1) := by decide +kernel
theorem d_M_takesSign_19 : decode prog_14_method_102_code 19 = .ok (.dup, 1) := by decide +kernel
theorem d_M_takesSign_20 : decode prog_14_method_102_code 20 = .ok (.getfield 309, 3) := by decide +kernel
theorem d_M_takesSign_23 : decode prog_14_method_102_code 23 = .ok (.iconst 1, 1) := by decide +kernel
theorem d_M_takesSign_24 : decode prog_14_method_102_code 24 = .ok (.iadd, 1) := by decide +kernel
theorem d_M_takesSign_25 : decode prog_14_method_102_code 25 = .ok (.putfield 309, 3) := by decide +kernel
theorem d_M_takesSign_28 : decode prog_14_method_102_code 28 = .ok (.iload_n 2, 1) := by decide +kernel
theorem d_M_takesSign_29 : decode prog_14_method_102_code 29 = .ok (.ireturn, 1) := by decide +kernel
def cf_M_takesSign (a0 : Int32) (w : Wd) (P : Int32 → Wd → Prop) : Prop :=
  cf_M_nextByte  w (fun r1 w2 => ((¬ r1 = a0 → (((0 : Int32) = 0 → P (0 : Int32) w2) ∧ (¬ (0 : Int32) = 0 → ∀ w3, w3 = wI w2 30 22 ((w2.1 30 22) + (1 : Int32)) → P (0 : Int32) w3))) ∧ (r1 = a0 → (((1 : Int32) = 0 → P (1 : Int32) w2) ∧ (¬ (1 : Int32) = 0 → ∀ w4, w4 = wI w2 30 22 ((w2.1 30 22) + (1 : Int32)) → P (1 : Int32) w4)))))
theorem cf_M_takesSign_ok {g : ayG} {d : Nat} (hd : 2 ≤ d) (a0 : Int32)  (w : Wd) (P : Int32 → Wd → Prop) (h : cf_M_takesSign a0 w P) : Call g y_M_takesSign prog_14_method_102_code 3 (some FieldType.boolean) d [.ref (g.1 + 30), .int a0] w (fun (r : Option Value) (w2 : Wd) => ∃ x, r = some (.int x) ∧ P x w2) := by
  unfold cf_M_takesSign at h
  refine am_enter mi_M_takesSign (Nat.le_of_ble_eq_true rfl) ?_
  have hQ : ∀ x w2, P x w2 → (fun (r : Option Value) (w2 : Wd) => ∃ x, r = some (.int x) ∧ P x w2) (some (.int x)) w2 := fun x w2 h => ⟨x, rfl, h⟩
  generalize (fun (r : Option Value) (w2 : Wd) => ∃ x, r = some (.int x) ∧ P x w2) = Q at hQ ⊢
  show wp g (fun _ => True) y_M_takesSign prog_14_method_102_code 3 (some FieldType.boolean) d 0 [(0, .ref (g.1 + 30)), (1, .int a0)] [] w Q
  refine am_aload_n d_M_takesSign_0 0 rfl ?_
  refine am_callV (C := y_M_nextByte.cls) (d2 := d - 1) [] d_M_takesSign_1 mi_M_nextByte wd_1572 wd_1574 ws_M_nextByte (by decide) (el_M (show ay_sh 30 = _ from rfl)) rfl rfl (by omega) rfl rfl (Nat.le_of_ble_eq_true rfl) ?_
  refine Call.post ?_ (cf_M_nextByte_ok (by omega)   w _ h)
  rintro _ w2 ⟨r1, rfl, h⟩
  show wp g (fun _ => True) y_M_takesSign prog_14_method_102_code 3 (some FieldType.boolean) d 4 [(0, .ref (g.1 + 30)), (1, .int a0)] [.int r1] w2 Q
  refine am_iload_n d_M_takesSign_4 1 rfl ?_
  refine am_icmp_ne (tgt := 12) d_M_takesSign_5 (by decide) (fun c5 => ?_) (fun c5 => ?_)
  · have h := h.1 c5
    refine am_iconst (v := 0) d_M_takesSign_12 rfl ?_
    refine am_istore_n (l' := [(2, .int (0 : Int32)), (0, .ref (g.1 + 30)), (1, .int a0)]) d_M_takesSign_13 (by decide) rfl ?_
    refine am_iload_n d_M_takesSign_14 0 rfl ?_
    refine am_if_eq (tgt := 28) d_M_takesSign_15 (by decide) (fun c15 => ?_) (fun c15 => ?_)
    · have h := h.1 c15
      refine am_iload_n d_M_takesSign_28 0 rfl ?_
      exact am_ireturn d_M_takesSign_29 rfl rfl (hQ (0 : Int32) w2 h)
    · have h := h.2 c15
      refine am_aload_n d_M_takesSign_18 1 rfl ?_
      refine am_dup d_M_takesSign_19 rfl ?_
      refine am_getf (T := F_M) (fs := ob_M g w2 30) (C := R_M) (N := 35) (ci := 10) 22 d_M_takesSign_20 wd_1099 rfl (by decide) (el_M (show ay_sh 30 = _ from rfl)) rfl i_M (by decide) rfl ?_
      refine am_iconst (v := 1) d_M_takesSign_23 rfl ?_
      refine am_iadd d_M_takesSign_24 ?_
      refine am_putf (w' := wI w2 30 22 ((w2.1 30 22) + (1 : Int32))) (ty := .int) (T := F_M) (fs := ob_M g w2 30) (C := R_M) (N := 35) (ci := 10) 22 d_M_takesSign_25 wd_1099 rfl (by decide) (el_M (show ay_sh 30 = _ from rfl)) rfl i_M (by decide) G_M ty_M n_M rfl (ty_M 22 (by decide)) rfl rfl (Nat.le_of_ble_eq_true rfl) ((el_M (show ay_sh 30 = _ from rfl)).trans (by rw [pf_M_spot])) wI_o ?_
      obtain ⟨w3, ew3⟩ : ∃ z, z = wI w2 30 22 ((w2.1 30 22) + (1 : Int32)) := ⟨_, rfl⟩
      rw [← ew3]
      have h := h w3 ew3
      refine am_iload_n d_M_takesSign_28 0 rfl ?_
      exact am_ireturn d_M_takesSign_29 rfl rfl (hQ (0 : Int32) w3 h)
  · have h := h.2 c5
    refine am_iconst (v := 1) d_M_takesSign_8 rfl ?_
    refine am_goto (tgt := 13) d_M_takesSign_9 (by decide) ?_
    refine am_istore_n (l' := [(2, .int (1 : Int32)), (0, .ref (g.1 + 30)), (1, .int a0)]) d_M_takesSign_13 (by decide) rfl ?_
    refine am_iload_n d_M_takesSign_14 0 rfl ?_
    refine am_if_eq (tgt := 28) d_M_takesSign_15 (by decide) (fun c15 => ?_) (fun c15 => ?_)
    · have h := h.1 c15
      refine am_iload_n d_M_takesSign_28 0 rfl ?_
      exact am_ireturn d_M_takesSign_29 rfl rfl (hQ (1 : Int32) w2 h)
    · have h := h.2 c15
      refine am_aload_n d_M_takesSign_18 1 rfl ?_
      refine am_dup d_M_takesSign_19 rfl ?_
      refine am_getf (T := F_M) (fs := ob_M g w2 30) (C := R_M) (N := 35) (ci := 10) 22 d_M_takesSign_20 wd_1099 rfl (by decide) (el_M (show ay_sh 30 = _ from rfl)) rfl i_M (by decide) rfl ?_
      refine am_iconst (v := 1) d_M_takesSign_23 rfl ?_
      refine am_iadd d_M_takesSign_24 ?_
      refine am_putf (w' := wI w2 30 22 ((w2.1 30 22) + (1 : Int32))) (ty := .int) (T := F_M) (fs := ob_M g w2 30) (C := R_M) (N := 35) (ci := 10) 22 d_M_takesSign_25 wd_1099 rfl (by decide) (el_M (show ay_sh 30 = _ from rfl)) rfl i_M (by decide) G_M ty_M n_M rfl (ty_M 22 (by decide)) rfl rfl (Nat.le_of_ble_eq_true rfl) ((el_M (show ay_sh 30 = _ from rfl)).trans (by rw [pf_M_spot])) wI_o ?_
      obtain ⟨w4, ew4⟩ : ∃ z, z = wI w2 30 22 ((w2.1 30 22) + (1 : Int32)) := ⟨_, rfl⟩
      rw [← ew4]
      have h := h w4 ew4
      refine am_iload_n d_M_takesSign_28 0 rfl ?_
      exact am_ireturn d_M_takesSign_29 rfl rfl (hQ (1 : Int32) w4 h)
theorem d_M_mustSign_0 : decode prog_14_method_103_code 0 = .ok (.aload_n 0, 1) := by decide +kernel
theorem d_M_mustSign_1 : decode prog_14_method_103_code 1 = .ok (.iload_n 1, 1) := by decide +kernel
theorem d_M_mustSign_2 : decode prog_14_method_103_code 2 = .ok (.invokevirtual 341, 3) := by decide +kernel
theorem d_M_mustSign_5 : decode prog_14_method_103_code 5 = .ok (.ifCond .ne 15, 3) := by decide +kernel
theorem d_M_mustSign_8 : decode prog_14_method_103_code 8 = .ok (.aload_n 0, 1) := by decide +kernel
theorem d_M_mustSign_9 : decode prog_14_method_103_code 9 = .ok (.iconst 1, 1) := by decide +kernel
theorem d_M_mustSign_10 : decode prog_14_method_103_code 10 = .ok (.aload_n 0, 1) := by decide +kernel
theorem d_M_mustSign_11 : decode prog_14_method_103_code 11 = .ok (.getfield 309, 3) := by decide +kernel
theorem d_M_mustSign_14 : decode prog_14_method_103_code 14 = .ok (.invokevirtual 344, 3) := by decide +kernel
theorem d_M_mustSign_17 : decode prog_14_method_103_code 17 = .ok (.ifCond .eq 7, 3) := by decide +kernel
theorem d_M_mustSign_20 : decode prog_14_method_103_code 20 = .ok (.iconst 1, 1) := by decide +kernel
theorem d_M_mustSign_21 : decode prog_14_method_103_code 21 = .ok (.goto 4, 3) := by decide +kernel
theorem d_M_mustSign_24 : decode prog_14_method_103_code 24 = .ok (.iconst 0, 1) := by decide +kernel
theorem d_M_mustSign_25 : decode prog_14_method_103_code 25 = .ok (.ireturn, 1) := by decide +kernel
def cf_M_mustSign (a0 : Int32) (w : Wd) (P : Int32 → Wd → Prop) : Prop :=
  cf_M_takesSign a0 w (fun r1 w2 => ((¬ r1 = 0 → P (1 : Int32) w2) ∧ (r1 = 0 → cf_M_fails (1 : Int32) (w2.1 30 22) w2 (fun r3 w4 => ((r3 = 0 → P (0 : Int32) w4) ∧ (¬ r3 = 0 → P (1 : Int32) w4))))))
theorem cf_M_mustSign_ok {g : ayG} {d : Nat} (hd : 3 ≤ d) (a0 : Int32)  (w : Wd) (P : Int32 → Wd → Prop) (h : cf_M_mustSign a0 w P) : Call g y_M_mustSign prog_14_method_103_code 2 (some FieldType.boolean) d [.ref (g.1 + 30), .int a0] w (fun (r : Option Value) (w2 : Wd) => ∃ x, r = some (.int x) ∧ P x w2) := by
  unfold cf_M_mustSign at h
  refine am_enter mi_M_mustSign (Nat.le_of_ble_eq_true rfl) ?_
  have hQ : ∀ x w2, P x w2 → (fun (r : Option Value) (w2 : Wd) => ∃ x, r = some (.int x) ∧ P x w2) (some (.int x)) w2 := fun x w2 h => ⟨x, rfl, h⟩
  generalize (fun (r : Option Value) (w2 : Wd) => ∃ x, r = some (.int x) ∧ P x w2) = Q at hQ ⊢
  show wp g (fun _ => True) y_M_mustSign prog_14_method_103_code 2 (some FieldType.boolean) d 0 [(0, .ref (g.1 + 30)), (1, .int a0)] [] w Q
  refine am_aload_n d_M_mustSign_0 0 rfl ?_
  refine am_iload_n d_M_mustSign_1 1 rfl ?_
  refine am_callV (C := y_M_takesSign.cls) (d2 := d - 1) [.int a0] d_M_mustSign_2 mi_M_takesSign wd_1590 wd_1592 ws_M_takesSign (by decide) (el_M (show ay_sh 30 = _ from rfl)) rfl rfl (by omega) rfl rfl (Nat.le_of_ble_eq_true rfl) ?_
  refine Call.post ?_ (cf_M_takesSign_ok (by omega) a0  w _ h)
  rintro _ w2 ⟨r1, rfl, h⟩
  show wp g (fun _ => True) y_M_mustSign prog_14_method_103_code 2 (some FieldType.boolean) d 5 [(0, .ref (g.1 + 30)), (1, .int a0)] [.int r1] w2 Q
  refine am_if_ne (tgt := 20) d_M_mustSign_5 (by decide) (fun c5 => ?_) (fun c5 => ?_)
  · have h := h.1 c5
    refine am_iconst (v := 1) d_M_mustSign_20 rfl ?_
    refine am_goto (tgt := 25) d_M_mustSign_21 (by decide) ?_
    exact am_ireturn d_M_mustSign_25 rfl rfl (hQ (1 : Int32) w2 h)
  · have h := h.2 c5
    refine am_aload_n d_M_mustSign_8 0 rfl ?_
    refine am_iconst (v := 1) d_M_mustSign_9 rfl ?_
    refine am_aload_n d_M_mustSign_10 0 rfl ?_
    refine am_getf (T := F_M) (fs := ob_M g w2 30) (C := R_M) (N := 35) (ci := 10) 22 d_M_mustSign_11 wd_1099 rfl (by decide) (el_M (show ay_sh 30 = _ from rfl)) rfl i_M (by decide) rfl ?_
    refine am_callV (C := y_M_fails.cls) (d2 := d - 1) [.int (1 : Int32), .int (w2.1 30 22)] d_M_mustSign_14 mi_M_fails wd_1582 wd_1584 ws_M_fails (by decide) (el_M (show ay_sh 30 = _ from rfl)) rfl rfl (by omega) rfl rfl (Nat.le_of_ble_eq_true rfl) ?_
    refine Call.post ?_ (cf_M_fails_ok (by omega) (1 : Int32) (w2.1 30 22)  w2 _ h)
    rintro _ w4 ⟨r3, rfl, h⟩
    show wp g (fun _ => True) y_M_mustSign prog_14_method_103_code 2 (some FieldType.boolean) d 17 [(0, .ref (g.1 + 30)), (1, .int a0)] [.int r3] w4 Q
    refine am_if_eq (tgt := 24) d_M_mustSign_17 (by decide) (fun c17 => ?_) (fun c17 => ?_)
    · have h := h.1 c17
      refine am_iconst (v := 0) d_M_mustSign_24 rfl ?_
      exact am_ireturn d_M_mustSign_25 rfl rfl (hQ (0 : Int32) w4 h)
    · have h := h.2 c17
      refine am_iconst (v := 1) d_M_mustSign_20 rfl ?_
      refine am_goto (tgt := 25) d_M_mustSign_21 (by decide) ?_
      exact am_ireturn d_M_mustSign_25 rfl rfl (hQ (1 : Int32) w4 h)
theorem d_M_isDigitNext_0 : decode prog_14_method_104_code 0 = .ok (.aload_n 0, 1) := by decide +kernel
theorem d_M_isDigitNext_1 : decode prog_14_method_104_code 1 = .ok (.invokevirtual 321, 3) := by decide +kernel
theorem d_M_isDigitNext_4 : decode prog_14_method_104_code 4 = .ok (.i2l, 1) := by decide +kernel
theorem d_M_isDigitNext_5 : decode prog_14_method_104_code 5 = .ok (.ldc2_w 347, 3) := by decide +kernel
theorem d_M_isDigitNext_8 : decode prog_14_method_104_code 8 = .ok (.ldc2_w 349, 3) := by decide +kernel
theorem d_M_isDigitNext_11 : decode prog_14_method_104_code 11 = .ok (.invokestatic 76, 3) := by decide +kernel
theorem d_M_isDigitNext_14 : decode prog_14_method_104_code 14 = .ok (.ireturn, 1) := by decide +kernel
def cf_M_isDigitNext  (w : Wd) (P : Int32 → Wd → Prop) : Prop :=
  cf_M_nextByte  w (fun r1 w2 => cf_M_in r1.toInt64 (48 : Int64) (57 : Int64) (fun r3 => (r3 = 0 ∨ r3 = 1) ∧ P r3 w2))
theorem cf_M_isDigitNext_ok {g : ayG} {d : Nat} (hd : 2 ≤ d)   (w : Wd) (P : Int32 → Wd → Prop) (h : cf_M_isDigitNext w P) : Call g y_M_isDigitNext prog_14_method_104_code 1 (some FieldType.boolean) d [.ref (g.1 + 30)] w (fun (r : Option Value) (w2 : Wd) => ∃ x, r = some (.int x) ∧ P x w2) := by
  unfold cf_M_isDigitNext at h
  refine am_enter mi_M_isDigitNext (Nat.le_of_ble_eq_true rfl) ?_
  have hQ : ∀ x w2, P x w2 → (fun (r : Option Value) (w2 : Wd) => ∃ x, r = some (.int x) ∧ P x w2) (some (.int x)) w2 := fun x w2 h => ⟨x, rfl, h⟩
  generalize (fun (r : Option Value) (w2 : Wd) => ∃ x, r = some (.int x) ∧ P x w2) = Q at hQ ⊢
  show wp g (fun _ => True) y_M_isDigitNext prog_14_method_104_code 1 (some FieldType.boolean) d 0 [(0, .ref (g.1 + 30))] [] w Q
  refine am_aload_n d_M_isDigitNext_0 0 rfl ?_
  refine am_callV (C := y_M_nextByte.cls) (d2 := d - 1) [] d_M_isDigitNext_1 mi_M_nextByte wd_1572 wd_1574 ws_M_nextByte (by decide) (el_M (show ay_sh 30 = _ from rfl)) rfl rfl (by omega) rfl rfl (Nat.le_of_ble_eq_true rfl) ?_
  refine Call.post ?_ (cf_M_nextByte_ok (by omega)   w _ h)
  rintro _ w2 ⟨r1, rfl, h⟩
  show wp g (fun _ => True) y_M_isDigitNext prog_14_method_104_code 1 (some FieldType.boolean) d 4 [(0, .ref (g.1 + 30))] [.int r1] w2 Q
  refine am_i2l d_M_isDigitNext_4 ?_
  refine am_ldc2 (v := 48) d_M_isDigitNext_5 wd_1580 ?_
  refine am_ldc2 (v := 57) d_M_isDigitNext_8 wd_1581 ?_
  refine am_callS (d2 := d - 1) [.long r1.toInt64, .long (48 : Int64), .long (57 : Int64)] d_M_isDigitNext_11 mi_M_in wd_1192 wd_1193 (by omega) rfl rfl (Nat.le_of_ble_eq_true rfl) ?_
  refine Call.post ?_ (cf_M_in_ok (by omega) r1.toInt64 (48 : Int64) (57 : Int64)  w2 _ h)
  rintro _ _ ⟨r3, rfl, rfl, h⟩
  show wp g (fun _ => True) y_M_isDigitNext prog_14_method_104_code 1 (some FieldType.boolean) d 14 [(0, .ref (g.1 + 30))] [.int r3] w2 Q
  exact am_ireturn d_M_isDigitNext_14 rfl (ay_nb h.1) (hQ r3 w2 h.2)
theorem d_M_readsNumber_0 : decode prog_14_method_105_code 0 = .ok (.aload_n 0, 1) := by decide +kernel
theorem d_M_readsNumber_1 : decode prog_14_method_105_code 1 = .ok (.invokevirtual 351, 3) := by decide +kernel
theorem d_M_readsNumber_4 : decode prog_14_method_105_code 4 = .ok (.ifCond .ne 13, 3) := by decide +kernel
theorem d_M_readsNumber_7 : decode prog_14_method_105_code 7 = .ok (.aload_n 0, 1) := by decide +kernel
theorem d_M_readsNumber_8 : decode prog_14_method_105_code 8 = .ok (.iconst 1, 1) := by decide +kernel
theorem d_M_readsNumber_9 : decode prog_14_method_105_code 9 = .ok (.aload_n 0, 1) := by decide +kernel
theorem d_M_readsNumber_10 : decode prog_14_method_105_code 10 = .ok (.getfield 309, 3) := by decide +kernel
theorem d_M_readsNumber_13 : decode prog_14_method_105_code 13 = .ok (.invokevirtual 344, 3) := by decide +kernel
theorem d_M_readsNumber_16 : decode prog_14_method_105_code 16 = .ok (.ireturn, 1) := by decide +kernel
theorem d_M_readsNumber_17 : decode prog_14_method_105_code 17 = .ok (.aload_n 0, 1) := by decide +kernel
theorem d_M_readsNumber_18 : decode prog_14_method_105_code 18 = .ok (.aload_n 0, 1) := by decide +kernel
theorem d_M_readsNumber_19 : decode prog_14_method_105_code 19 = .ok (.getfield 309, 3) := by decide +kernel
theorem d_M_readsNumber_22 : decode prog_14_method_105_code 22 = .ok (.putfield 354, 3) := by decide +kernel
theorem d_M_readsNumber_25 : decode prog_14_method_105_code 25 = .ok (.aload_n 0, 1) := by decide +kernel
theorem d_M_readsNumber_26 : decode prog_14_method_105_code 26 = .ok (.iconst 0, 1) := by decide +kernel
theorem d_M_readsNumber_27 : decode prog_14_method_105_code 27 = .ok (.putfield 357, 3) := by decide +kernel
theorem d_M_readsNumber_30 : decode prog_14_method_105_code 30 = .ok (.aload_n 0, 1) := by decide +kernel
theorem d_M_readsNumber_31 : decode prog_14_method_105_code 31 = .ok (.aload_n 0, 1) := by decide +kernel
theorem d_M_readsNumber_32 : decode prog_14_method_105_code 32 = .ok (.getfield 309, 3) := by decide +kernel
theorem d_M_readsNumber_35 : decode prog_14_method_105_code 35 = .ok (.invokevirtual 312, 3) := by decide +kernel
theorem d_M_readsNumber_38 : decode prog_14_method_105_code 38 = .ok (.i2l, 1) := by decide +kernel
theorem d_M_readsNumber_39 : decode prog_14_method_105_code 39 = .ok (.ldc2_w 347, 3) := by decide +kernel
theorem d_M_readsNumber_42 : decode prog_14_method_105_code 42 = .ok (.ldc2_w 349, 3) := by decide +kernel
theorem d_M_readsNumber_45 : decode prog_14_method_105_code 45 = .ok (.invokestatic 76, 3) := by decide +kernel
theorem d_M_readsNumber_48 : decode prog_14_method_105_code 48 = .ok (.ifCond .eq 49, 3) := by decide +kernel
theorem d_M_readsNumber_51 : decode prog_14_method_105_code 51 = .ok (.aload_n 0, 1) := by decide +kernel
theorem d_M_readsNumber_52 : decode prog_14_method_105_code 52 = .ok (.getfield 357, 3) := by decide +kernel
theorem d_M_readsNumber_55 : decode prog_14_method_105_code 55 = .ok (.sipush 10000, 3) := by decide +kernel
theorem d_M_readsNumber_58 : decode prog_14_method_105_code 58 = .ok (.if_icmp .ge 26, 3) := by decide +kernel
theorem d_M_readsNumber_61 : decode prog_14_method_105_code 61 = .ok (.aload_n 0, 1) := by decide +kernel
theorem d_M_readsNumber_62 : decode prog_14_method_105_code 62 = .ok (.bipush 10, 2) := by decide +kernel
theorem d_M_readsNumber_64 : decode prog_14_method_105_code 64 = .ok (.aload_n 0, 1) := by decide +kernel
theorem d_M_readsNumber_65 : decode prog_14_method_105_code 65 = .ok (.getfield 357, 3) := by decide +kernel
theorem d_M_readsNumber_68 : decode prog_14_method_105_code 68 = .ok (.imul, 1) := by decide +kernel
theorem d_M_readsNumber_69 : decode prog_14_method_105_code 69 = .ok (.aload_n 0, 1) := by decide +kernel
theorem d_M_readsNumber_70 : decode prog_14_method_105_code 70 = .ok (.aload_n 0, 1) := by decide +kernel
theorem d_M_readsNumber_71 : decode prog_14_method_105_code 71 = .ok (.getfield 309, 3) := by decide +kernel
theorem d_M_readsNumber_74 : decode prog_14_method_105_code 74 = .ok (.invokevirtual 312, 3) := by decide +kernel
theorem d_M_readsNumber_77 : decode prog_14_method_105_code 77 = .ok (.iadd, 1) := by decide +kernel
theorem d_M_readsNumber_78 : decode prog_14_method_105_code 78 = .ok (.bipush 48, 2) := by decide +kernel
theorem d_M_readsNumber_80 : decode prog_14_method_105_code 80 = .ok (.isub, 1) := by decide +kernel
theorem d_M_readsNumber_81 : decode prog_14_method_105_code 81 = .ok (.putfield 357, 3) := by decide +kernel
theorem d_M_readsNumber_84 : decode prog_14_method_105_code 84 = .ok (.aload_n 0, 1) := by decide +kernel
theorem d_M_readsNumber_85 : decode prog_14_method_105_code 85 = .ok (.dup, 1) := by decide +kernel
theorem d_M_readsNumber_86 : decode prog_14_method_105_code 86 = .ok (.getfield 309, 3) := by decide +kernel
theorem d_M_readsNumber_89 : decode prog_14_method_105_code 89 = .ok (.iconst 1, 1) := by decide +kernel
theorem d_M_readsNumber_90 : decode prog_14_method_105_code 90 = .ok (.iadd, 1) := by decide +kernel
theorem d_M_readsNumber_91 : decode prog_14_method_105_code 91 = .ok (.putfield 309, 3) := by decide +kernel
theorem d_M_readsNumber_94 : decode prog_14_method_105_code 94 = .ok (.goto (-64), 3) := by decide +kernel
theorem d_M_readsNumber_97 : decode prog_14_method_105_code 97 = .ok (.aload_n 0, 1) := by decide +kernel
theorem d_M_readsNumber_98 : decode prog_14_method_105_code 98 = .ok (.getfield 357, 3) := by decide +kernel
theorem d_M_readsNumber_101 : decode prog_14_method_105_code 101 = .ok (.i2l, 1) := by decide +kernel
theorem d_M_readsNumber_102 : decode prog_14_method_105_code 102 = .ok (.iload_n 1, 1) := by decide +kernel
theorem d_M_readsNumber_103 : decode prog_14_method_105_code 103 = .ok (.i2l, 1) := by decide +kernel
theorem d_M_readsNumber_104 : decode prog_14_method_105_code 104 = .ok (.iload_n 2, 1) := by decide +kernel
theorem d_M_readsNumber_105 : decode prog_14_method_105_code 105 = .ok (.i2l, 1) := by decide +kernel
theorem d_M_readsNumber_106 : decode prog_14_method_105_code 106 = .ok (.invokestatic 76, 3) := by decide +kernel
theorem d_M_readsNumber_109 : decode prog_14_method_105_code 109 = .ok (.ifCond .ne 15, 3) := by decide +kernel
theorem d_M_readsNumber_112 : decode prog_14_method_105_code 112 = .ok (.aload_n 0, 1) := by decide +kernel
theorem d_M_readsNumber_113 : decode prog_14_method_105_code 113 = .ok (.iconst 2, 1) := by decide +kernel
theorem d_M_readsNumber_114 : decode prog_14_method_105_code 114 = .ok (.aload_n 0, 1) := by decide +kernel
theorem d_M_readsNumber_115 : decode prog_14_method_105_code 115 = .ok (.getfield 354, 3) := by decide +kernel
theorem d_M_readsNumber_118 : decode prog_14_method_105_code 118 = .ok (.invokevirtual 344, 3) := by decide +kernel
theorem d_M_readsNumber_121 : decode prog_14_method_105_code 121 = .ok (.ifCond .eq 7, 3) := by decide +kernel
theorem d_M_readsNumber_124 : decode prog_14_method_105_code 124 = .ok (.iconst 1, 1) := by decide +kernel
theorem d_M_readsNumber_125 : decode prog_14_method_105_code 125 = .ok (.goto 4, 3) := by decide +kernel
theorem d_M_readsNumber_128 : decode prog_14_method_105_code 128 = .ok (.iconst 0, 1) := by decide +kernel
theorem d_M_readsNumber_129 : decode prog_14_method_105_code 129 = .ok (.ireturn, 1) := by decide +kernel
def cf_M_readsNumber_B30  (K30 : Int32 → Int32 → Wd → Prop) (P : Int32 → Wd → Prop) (x1 : Int32) (x2 : Int32) (w : Wd) : Prop :=
  cf_M_byteAt (w.1 30 22) w (fun r5 => cf_M_in r5.toInt64 (48 : Int64) (57 : Int64) (fun r6 => ((r6 = 0 → cf_M_in ((w.1 30 26).toInt64) x1.toInt64 x2.toInt64 (fun r7 => ((¬ r7 = 0 → P (1 : Int32) w) ∧ (r7 = 0 → cf_M_fails (2 : Int32) (w.1 30 27) w (fun r8 w9 => ((r8 = 0 → P (0 : Int32) w9) ∧ (¬ r8 = 0 → P (1 : Int32) w9))))))) ∧ (¬ r6 = 0 → (((10000 : Int32) ≤ (w.1 30 26) → ∀ w10, w10 = wI w 30 22 ((w.1 30 22) + (1 : Int32)) → K30 x1 x2 w10) ∧ (¬ (10000 : Int32) ≤ (w.1 30 26) → cf_M_byteAt (w.1 30 22) w (fun r11 => ∀ w12, w12 = wI w 30 26 ((((10 : Int32) * (w.1 30 26)) + r11) - (48 : Int32)) → ∀ w13, w13 = wI w12 30 22 ((w12.1 30 22) + (1 : Int32)) → K30 x1 x2 w13)))))))
def cf_M_readsNumber_L30   (P : Int32 → Wd → Prop) : Nat → Int32 → Int32 → Wd → Prop
  | 0 => fun x1 x2 w => False
  | n + 1 => fun x1 x2 w => cf_M_readsNumber_B30 (cf_M_readsNumber_L30 P n) P x1 x2 w
def cf_M_readsNumber (a0 : Int32) (a1 : Int32) (w : Wd) (P : Int32 → Wd → Prop) : Prop :=
  cf_M_isDigitNext  w (fun r1 w2 => ((¬ r1 = 0 → ∀ w3, w3 = wI w2 30 27 (w2.1 30 22) → ∀ w4, w4 = wI w3 30 26 (0 : Int32) → ∃ n, cf_M_readsNumber_L30 P n a0 a1 w4) ∧ (r1 = 0 → cf_M_fails (1 : Int32) (w2.1 30 22) w2 (fun r14 w15 => (r14 = 0 ∨ r14 = 1) ∧ P r14 w15))))
theorem cf_M_readsNumber_B30_ok {g : ayG} {d : Nat} (hd : 3 ≤ d)   (w : Wd) (K30 : Int32 → Int32 → Wd → Prop) (P : Int32 → Wd → Prop) (Q : Option Value → Wd → Prop) (hQ : ∀ x w2, P x w2 → Q (some (.int x)) w2) (hK30 : ∀ (x1 : Int32) (x2 : Int32) (w : Wd), (K30 x1 x2 w → wp g (fun _ => True) y_M_readsNumber prog_14_method_105_code 3 (some FieldType.boolean) d 30 [(0, .ref (g.1 + 30)), (1, .int x1), (2, .int x2)] [] w Q)) (x1 : Int32) (x2 : Int32) (h : cf_M_readsNumber_B30 K30 P x1 x2 w) : wp g (fun _ => True) y_M_readsNumber prog_14_method_105_code 3 (some FieldType.boolean) d 30 [(0, .ref (g.1 + 30)), (1, .int x1), (2, .int x2)] [] w Q := by
  unfold cf_M_readsNumber_B30 at h
  refine am_aload_n d_M_readsNumber_30 0 rfl ?_
  refine am_aload_n d_M_readsNumber_31 0 rfl ?_
  refine am_getf (T := F_M) (fs := ob_M g w 30) (C := R_M) (N := 35) (ci := 10) 22 d_M_readsNumber_32 wd_1099 rfl (by decide) (el_M (show ay_sh 30 = _ from rfl)) rfl i_M (by decide) rfl ?_
  refine am_callV (C := y_M_byteAt.cls) (d2 := d - 1) [.int (w.1 30 22)] d_M_readsNumber_35 mi_M_byteAt wd_1576 wd_1578 ws_M_byteAt (by decide) (el_M (show ay_sh 30 = _ from rfl)) rfl rfl (by omega) rfl rfl (Nat.le_of_ble_eq_true rfl) ?_
  refine Call.post ?_ (cf_M_byteAt_ok (by omega) (w.1 30 22)  w _ h)
  rintro _ _ ⟨r5, rfl, rfl, h⟩
  show wp g (fun _ => True) y_M_readsNumber prog_14_method_105_code 3 (some FieldType.boolean) d 38 [(0, .ref (g.1 + 30)), (1, .int x1), (2, .int x2)] [.int r5] w Q
  refine am_i2l d_M_readsNumber_38 ?_
  refine am_ldc2 (v := 48) d_M_readsNumber_39 wd_1580 ?_
  refine am_ldc2 (v := 57) d_M_readsNumber_42 wd_1581 ?_
  refine am_callS (d2 := d - 1) [.long r5.toInt64, .long (48 : Int64), .long (57 : Int64)] d_M_readsNumber_45 mi_M_in wd_1192 wd_1193 (by omega) rfl rfl (Nat.le_of_ble_eq_true rfl) ?_
  refine Call.post ?_ (cf_M_in_ok (by omega) r5.toInt64 (48 : Int64) (57 : Int64)  w _ h)
  rintro _ _ ⟨r6, rfl, rfl, h⟩
  show wp g (fun _ => True) y_M_readsNumber prog_14_method_105_code 3 (some FieldType.boolean) d 48 [(0, .ref (g.1 + 30)), (1, .int x1), (2, .int x2)] [.int r6] w Q
  refine am_if_eq (tgt := 97) d_M_readsNumber_48 (by decide) (fun c48 => ?_) (fun c48 => ?_)
  · have h := h.1 c48
    refine am_aload_n d_M_readsNumber_97 0 rfl ?_
    refine am_getf (T := F_M) (fs := ob_M g w 30) (C := R_M) (N := 35) (ci := 10) 26 d_M_readsNumber_98 wd_1103 rfl (by decide) (el_M (show ay_sh 30 = _ from rfl)) rfl i_M (by decide) rfl ?_
    refine am_i2l d_M_readsNumber_101 ?_
    refine am_iload_n d_M_readsNumber_102 1 rfl ?_
    refine am_i2l d_M_readsNumber_103 ?_
    refine am_iload_n d_M_readsNumber_104 2 rfl ?_
    refine am_i2l d_M_readsNumber_105 ?_
    refine am_callS (d2 := d - 1) [.long ((w.1 30 26).toInt64), .long x1.toInt64, .long x2.toInt64] d_M_readsNumber_106 mi_M_in wd_1192 wd_1193 (by omega) rfl rfl (Nat.le_of_ble_eq_true rfl) ?_
    refine Call.post ?_ (cf_M_in_ok (by omega) ((w.1 30 26).toInt64) x1.toInt64 x2.toInt64  w _ h)
    rintro _ _ ⟨r7, rfl, rfl, h⟩
    show wp g (fun _ => True) y_M_readsNumber prog_14_method_105_code 3 (some FieldType.boolean) d 109 [(0, .ref (g.1 + 30)), (1, .int x1), (2, .int x2)] [.int r7] w Q
    refine am_if_ne (tgt := 124) d_M_readsNumber_109 (by decide) (fun c109 => ?_) (fun c109 => ?_)
    · have h := h.1 c109
      refine am_iconst (v := 1) d_M_readsNumber_124 rfl ?_
      refine am_goto (tgt := 129) d_M_readsNumber_125 (by decide) ?_
      exact am_ireturn d_M_readsNumber_129 rfl rfl (hQ (1 : Int32) w h)
    · have h := h.2 c109
      refine am_aload_n d_M_readsNumber_112 0 rfl ?_
      refine am_iconst (v := 2) d_M_readsNumber_113 rfl ?_
      refine am_aload_n d_M_readsNumber_114 0 rfl ?_
      refine am_getf (T := F_M) (fs := ob_M g w 30) (C := R_M) (N := 35) (ci := 10) 27 d_M_readsNumber_115 wd_1104 rfl (by decide) (el_M (show ay_sh 30 = _ from rfl)) rfl i_M (by decide) rfl ?_
      refine am_callV (C := y_M_fails.cls) (d2 := d - 1) [.int (2 : Int32), .int (w.1 30 27)] d_M_readsNumber_118 mi_M_fails wd_1582 wd_1584 ws_M_fails (by decide) (el_M (show ay_sh 30 = _ from rfl)) rfl rfl (by omega) rfl rfl (Nat.le_of_ble_eq_true rfl) ?_
      refine Call.post ?_ (cf_M_fails_ok (by omega) (2 : Int32) (w.1 30 27)  w _ h)
      rintro _ w9 ⟨r8, rfl, h⟩
      show wp g (fun _ => True) y_M_readsNumber prog_14_method_105_code 3 (some FieldType.boolean) d 121 [(0, .ref (g.1 + 30)), (1, .int x1), (2, .int x2)] [.int r8] w9 Q
      refine am_if_eq (tgt := 128) d_M_readsNumber_121 (by decide) (fun c121 => ?_) (fun c121 => ?_)
      · have h := h.1 c121
        refine am_iconst (v := 0) d_M_readsNumber_128 rfl ?_
        exact am_ireturn d_M_readsNumber_129 rfl rfl (hQ (0 : Int32) w9 h)
      · have h := h.2 c121
        refine am_iconst (v := 1) d_M_readsNumber_124 rfl ?_
        refine am_goto (tgt := 129) d_M_readsNumber_125 (by decide) ?_
        exact am_ireturn d_M_readsNumber_129 rfl rfl (hQ (1 : Int32) w9 h)
  · have h := h.2 c48
    refine am_aload_n d_M_readsNumber_51 0 rfl ?_
    refine am_getf (T := F_M) (fs := ob_M g w 30) (C := R_M) (N := 35) (ci := 10) 26 d_M_readsNumber_52 wd_1103 rfl (by decide) (el_M (show ay_sh 30 = _ from rfl)) rfl i_M (by decide) rfl ?_
    refine am_sipush (v := 10000) d_M_readsNumber_55 rfl ?_
    refine am_icmp_ge (tgt := 84) d_M_readsNumber_58 (by decide) (fun c58 => ?_) (fun c58 => ?_)
    · have h := h.1 c58
      refine am_aload_n d_M_readsNumber_84 0 rfl ?_
      refine am_dup d_M_readsNumber_85 rfl ?_
      refine am_getf (T := F_M) (fs := ob_M g w 30) (C := R_M) (N := 35) (ci := 10) 22 d_M_readsNumber_86 wd_1099 rfl (by decide) (el_M (show ay_sh 30 = _ from rfl)) rfl i_M (by decide) rfl ?_
      refine am_iconst (v := 1) d_M_readsNumber_89 rfl ?_
      refine am_iadd d_M_readsNumber_90 ?_
      refine am_putf (w' := wI w 30 22 ((w.1 30 22) + (1 : Int32))) (ty := .int) (T := F_M) (fs := ob_M g w 30) (C := R_M) (N := 35) (ci := 10) 22 d_M_readsNumber_91 wd_1099 rfl (by decide) (el_M (show ay_sh 30 = _ from rfl)) rfl i_M (by decide) G_M ty_M n_M rfl (ty_M 22 (by decide)) rfl rfl (Nat.le_of_ble_eq_true rfl) ((el_M (show ay_sh 30 = _ from rfl)).trans (by rw [pf_M_spot])) wI_o ?_
      obtain ⟨w10, ew10⟩ : ∃ z, z = wI w 30 22 ((w.1 30 22) + (1 : Int32)) := ⟨_, rfl⟩
      rw [← ew10]
      have h := h w10 ew10
      refine am_goto (tgt := 30) d_M_readsNumber_94 (by decide) ?_
      refine am_sub [0, 1, 2] rfl ?_
      exact hK30 x1 x2 w10 h
    · have h := h.2 c58
      refine am_aload_n d_M_readsNumber_61 0 rfl ?_
      refine am_bipush (v := 10) d_M_readsNumber_62 rfl ?_
      refine am_aload_n d_M_readsNumber_64 0 rfl ?_
      refine am_getf (T := F_M) (fs := ob_M g w 30) (C := R_M) (N := 35) (ci := 10) 26 d_M_readsNumber_65 wd_1103 rfl (by decide) (el_M (show ay_sh 30 = _ from rfl)) rfl i_M (by decide) rfl ?_
      refine am_imul d_M_readsNumber_68 ?_
      refine am_aload_n d_M_readsNumber_69 0 rfl ?_
      refine am_aload_n d_M_readsNumber_70 0 rfl ?_
      refine am_getf (T := F_M) (fs := ob_M g w 30) (C := R_M) (N := 35) (ci := 10) 22 d_M_readsNumber_71 wd_1099 rfl (by decide) (el_M (show ay_sh 30 = _ from rfl)) rfl i_M (by decide) rfl ?_
      refine am_callV (C := y_M_byteAt.cls) (d2 := d - 1) [.int (w.1 30 22)] d_M_readsNumber_74 mi_M_byteAt wd_1576 wd_1578 ws_M_byteAt (by decide) (el_M (show ay_sh 30 = _ from rfl)) rfl rfl (by omega) rfl rfl (Nat.le_of_ble_eq_true rfl) ?_
      refine Call.post ?_ (cf_M_byteAt_ok (by omega) (w.1 30 22)  w _ h)
      rintro _ _ ⟨r11, rfl, rfl, h⟩
      show wp g (fun _ => True) y_M_readsNumber prog_14_method_105_code 3 (some FieldType.boolean) d 77 [(0, .ref (g.1 + 30)), (1, .int x1), (2, .int x2)] [.int r11, .int ((10 : Int32) * (w.1 30 26)), .ref (g.1 + 30)] w Q
      refine am_iadd d_M_readsNumber_77 ?_
      refine am_bipush (v := 48) d_M_readsNumber_78 rfl ?_
      refine am_isub d_M_readsNumber_80 ?_
      refine am_putf (w' := wI w 30 26 ((((10 : Int32) * (w.1 30 26)) + r11) - (48 : Int32))) (ty := .int) (T := F_M) (fs := ob_M g w 30) (C := R_M) (N := 35) (ci := 10) 26 d_M_readsNumber_81 wd_1103 rfl (by decide) (el_M (show ay_sh 30 = _ from rfl)) rfl i_M (by decide) G_M ty_M n_M rfl (ty_M 26 (by decide)) rfl rfl (Nat.le_of_ble_eq_true rfl) ((el_M (show ay_sh 30 = _ from rfl)).trans (by rw [pf_M_number])) wI_o ?_
      obtain ⟨w12, ew12⟩ : ∃ z, z = wI w 30 26 ((((10 : Int32) * (w.1 30 26)) + r11) - (48 : Int32)) := ⟨_, rfl⟩
      rw [← ew12]
      have h := h w12 ew12
      refine am_aload_n d_M_readsNumber_84 0 rfl ?_
      refine am_dup d_M_readsNumber_85 rfl ?_
      refine am_getf (T := F_M) (fs := ob_M g w12 30) (C := R_M) (N := 35) (ci := 10) 22 d_M_readsNumber_86 wd_1099 rfl (by decide) (el_M (show ay_sh 30 = _ from rfl)) rfl i_M (by decide) rfl ?_
      refine am_iconst (v := 1) d_M_readsNumber_89 rfl ?_
      refine am_iadd d_M_readsNumber_90 ?_
      refine am_putf (w' := wI w12 30 22 ((w12.1 30 22) + (1 : Int32))) (ty := .int) (T := F_M) (fs := ob_M g w12 30) (C := R_M) (N := 35) (ci := 10) 22 d_M_readsNumber_91 wd_1099 rfl (by decide) (el_M (show ay_sh 30 = _ from rfl)) rfl i_M (by decide) G_M ty_M n_M rfl (ty_M 22 (by decide)) rfl rfl (Nat.le_of_ble_eq_true rfl) ((el_M (show ay_sh 30 = _ from rfl)).trans (by rw [pf_M_spot])) wI_o ?_
      obtain ⟨w13, ew13⟩ : ∃ z, z = wI w12 30 22 ((w12.1 30 22) + (1 : Int32)) := ⟨_, rfl⟩
      rw [← ew13]
      have h := h w13 ew13
      refine am_goto (tgt := 30) d_M_readsNumber_94 (by decide) ?_
      refine am_sub [0, 1, 2] rfl ?_
      exact hK30 x1 x2 w13 h
theorem cf_M_readsNumber_L30_ok {g : ayG} {d : Nat} (hd : 3 ≤ d)    (P : Int32 → Wd → Prop) (Q : Option Value → Wd → Prop) (hQ : ∀ x w2, P x w2 → Q (some (.int x)) w2)  : ∀ (n : Nat) (x1 : Int32) (x2 : Int32) (w : Wd) (h : cf_M_readsNumber_L30 P n x1 x2 w), wp g (fun _ => True) y_M_readsNumber prog_14_method_105_code 3 (some FieldType.boolean) d 30 [(0, .ref (g.1 + 30)), (1, .int x1), (2, .int x2)] [] w Q
  | 0, x1, x2, w, h => False.elim h
  | n + 1, x1, x2, w, h => cf_M_readsNumber_B30_ok hd   w (cf_M_readsNumber_L30 P n) P Q hQ (fun x1 x2 w h => cf_M_readsNumber_L30_ok hd    P Q hQ  n x1 x2 w h) x1 x2 h
theorem cf_M_readsNumber_ok {g : ayG} {d : Nat} (hd : 3 ≤ d) (a0 : Int32) (a1 : Int32)  (w : Wd) (P : Int32 → Wd → Prop) (h : cf_M_readsNumber a0 a1 w P) : Call g y_M_readsNumber prog_14_method_105_code 3 (some FieldType.boolean) d [.ref (g.1 + 30), .int a0, .int a1] w (fun (r : Option Value) (w2 : Wd) => ∃ x, r = some (.int x) ∧ P x w2) := by
  unfold cf_M_readsNumber at h
  refine am_enter mi_M_readsNumber (Nat.le_of_ble_eq_true rfl) ?_
  have hQ : ∀ x w2, P x w2 → (fun (r : Option Value) (w2 : Wd) => ∃ x, r = some (.int x) ∧ P x w2) (some (.int x)) w2 := fun x w2 h => ⟨x, rfl, h⟩
  generalize (fun (r : Option Value) (w2 : Wd) => ∃ x, r = some (.int x) ∧ P x w2) = Q at hQ ⊢
  show wp g (fun _ => True) y_M_readsNumber prog_14_method_105_code 3 (some FieldType.boolean) d 0 [(0, .ref (g.1 + 30)), (1, .int a0), (2, .int a1)] [] w Q
  refine am_aload_n d_M_readsNumber_0 0 rfl ?_
  refine am_callV (C := y_M_isDigitNext.cls) (d2 := d - 1) [] d_M_readsNumber_1 mi_M_isDigitNext wd_1568 wd_1570 ws_M_isDigitNext (by decide) (el_M (show ay_sh 30 = _ from rfl)) rfl rfl (by omega) rfl rfl (Nat.le_of_ble_eq_true rfl) ?_
  refine Call.post ?_ (cf_M_isDigitNext_ok (by omega)   w _ h)
  rintro _ w2 ⟨r1, rfl, h⟩
  show wp g (fun _ => True) y_M_readsNumber prog_14_method_105_code 3 (some FieldType.boolean) d 4 [(0, .ref (g.1 + 30)), (1, .int a0), (2, .int a1)] [.int r1] w2 Q
  refine am_if_ne (tgt := 17) d_M_readsNumber_4 (by decide) (fun c4 => ?_) (fun c4 => ?_)
  · have h := h.1 c4
    refine am_aload_n d_M_readsNumber_17 0 rfl ?_
    refine am_aload_n d_M_readsNumber_18 0 rfl ?_
    refine am_getf (T := F_M) (fs := ob_M g w2 30) (C := R_M) (N := 35) (ci := 10) 22 d_M_readsNumber_19 wd_1099 rfl (by decide) (el_M (show ay_sh 30 = _ from rfl)) rfl i_M (by decide) rfl ?_
    refine am_putf (w' := wI w2 30 27 (w2.1 30 22)) (ty := .int) (T := F_M) (fs := ob_M g w2 30) (C := R_M) (N := 35) (ci := 10) 27 d_M_readsNumber_22 wd_1104 rfl (by decide) (el_M (show ay_sh 30 = _ from rfl)) rfl i_M (by decide) G_M ty_M n_M rfl (ty_M 27 (by decide)) rfl rfl (Nat.le_of_ble_eq_true rfl) ((el_M (show ay_sh 30 = _ from rfl)).trans (by rw [pf_M_numberAt])) wI_o ?_
    obtain ⟨w3, ew3⟩ : ∃ z, z = wI w2 30 27 (w2.1 30 22) := ⟨_, rfl⟩
    rw [← ew3]
    have h := h w3 ew3
    refine am_aload_n d_M_readsNumber_25 0 rfl ?_
    refine am_iconst (v := 0) d_M_readsNumber_26 rfl ?_
    refine am_putf (w' := wI w3 30 26 (0 : Int32)) (ty := .int) (T := F_M) (fs := ob_M g w3 30) (C := R_M) (N := 35) (ci := 10) 26 d_M_readsNumber_27 wd_1103 rfl (by decide) (el_M (show ay_sh 30 = _ from rfl)) rfl i_M (by decide) G_M ty_M n_M rfl (ty_M 26 (by decide)) rfl rfl (Nat.le_of_ble_eq_true rfl) ((el_M (show ay_sh 30 = _ from rfl)).trans (by rw [pf_M_number])) wI_o ?_
    obtain ⟨w4, ew4⟩ : ∃ z, z = wI w3 30 26 (0 : Int32) := ⟨_, rfl⟩
    rw [← ew4]
    have h := h w4 ew4
    refine am_sub [0, 1, 2] rfl ?_
    obtain ⟨n, h⟩ := h
    exact cf_M_readsNumber_L30_ok (by omega)    P Q hQ  n a0 a1 w4 h
  · have h := h.2 c4
    refine am_aload_n d_M_readsNumber_7 0 rfl ?_
    refine am_iconst (v := 1) d_M_readsNumber_8 rfl ?_
    refine am_aload_n d_M_readsNumber_9 0 rfl ?_
    refine am_getf (T := F_M) (fs := ob_M g w2 30) (C := R_M) (N := 35) (ci := 10) 22 d_M_readsNumber_10 wd_1099 rfl (by decide) (el_M (show ay_sh 30 = _ from rfl)) rfl i_M (by decide) rfl ?_
    refine am_callV (C := y_M_fails.cls) (d2 := d - 1) [.int (1 : Int32), .int (w2.1 30 22)] d_M_readsNumber_13 mi_M_fails wd_1582 wd_1584 ws_M_fails (by decide) (el_M (show ay_sh 30 = _ from rfl)) rfl rfl (by omega) rfl rfl (Nat.le_of_ble_eq_true rfl) ?_
    refine Call.post ?_ (cf_M_fails_ok (by omega) (1 : Int32) (w2.1 30 22)  w2 _ h)
    rintro _ w15 ⟨r14, rfl, h⟩
    show wp g (fun _ => True) y_M_readsNumber prog_14_method_105_code 3 (some FieldType.boolean) d 16 [(0, .ref (g.1 + 30)), (1, .int a0), (2, .int a1)] [.int r14] w15 Q
    exact am_ireturn d_M_readsNumber_16 rfl (ay_nb h.1) (hQ r14 w15 h.2)
theorem d_M_readsTri_0 : decode prog_14_method_107_code 0 = .ok (.aload_n 0, 1) := by decide +kernel
theorem d_M_readsTri_1 : decode prog_14_method_107_code 1 = .ok (.iconst 2, 1) := by decide +kernel
theorem d_M_readsTri_2 : decode prog_14_method_107_code 2 = .ok (.bipush 31, 2) := by decide +kernel
theorem d_M_readsTri_4 : decode prog_14_method_107_code 4 = .ok (.invokevirtual 366, 3) := by decide +kernel
theorem d_M_readsTri_7 : decode prog_14_method_107_code 7 = .ok (.ifCond .ne 5, 3) := by decide +kernel
theorem d_M_readsTri_10 : decode prog_14_method_107_code 10 = .ok (.iconst 0, 1) := by decide +kernel
theorem d_M_readsTri_11 : decode prog_14_method_107_code 11 = .ok (.ireturn, 1) := by decide +kernel
theorem d_M_readsTri_12 : decode prog_14_method_107_code 12 = .ok (.aload_n 0, 1) := by decide +kernel
theorem d_M_readsTri_13 : decode prog_14_method_107_code 13 = .ok (.getfield 357, 3) := by decide +kernel
theorem d_M_readsTri_16 : decode prog_14_method_107_code 16 = .ok (.istore_n 1, 1) := by decide +kernel
theorem d_M_readsTri_17 : decode prog_14_method_107_code 17 = .ok (.aload_n 0, 1) := by decide +kernel
theorem d_M_readsTri_18 : decode prog_14_method_107_code 18 = .ok (.iconst 1, 1) := by decide +kernel
theorem d_M_readsTri_19 : decode prog_14_method_107_code 19 = .ok (.iload_n 1, 1) := by decide +kernel
theorem d_M_readsTri_20 : decode prog_14_method_107_code 20 = .ok (.iconst 1, 1) := by decide +kernel
theorem d_M_readsTri_21 : decode prog_14_method_107_code 21 = .ok (.isub, 1) := by decide +kernel
theorem d_M_readsTri_22 : decode prog_14_method_107_code 22 = .ok (.invokevirtual 366, 3) := by decide +kernel
theorem d_M_readsTri_25 : decode prog_14_method_107_code 25 = .ok (.ifCond .ne 5, 3) := by decide +kernel
theorem d_M_readsTri_28 : decode prog_14_method_107_code 28 = .ok (.iconst 0, 1) := by decide +kernel
theorem d_M_readsTri_29 : decode prog_14_method_107_code 29 = .ok (.ireturn, 1) := by decide +kernel
theorem d_M_readsTri_30 : decode prog_14_method_107_code 30 = .ok (.aload_n 0, 1) := by decide +kernel
theorem d_M_readsTri_31 : decode prog_14_method_107_code 31 = .ok (.iload_n 1, 1) := by decide +kernel
theorem d_M_readsTri_32 : decode prog_14_method_107_code 32 = .ok (.aload_n 0, 1) := by decide +kernel
theorem d_M_readsTri_33 : decode prog_14_method_107_code 33 = .ok (.getfield 357, 3) := by decide +kernel
theorem d_M_readsTri_36 : decode prog_14_method_107_code 36 = .ok (.invokestatic 177, 3) := by decide +kernel
theorem d_M_readsTri_39 : decode prog_14_method_107_code 39 = .ok (.putfield 369, 3) := by decide +kernel
theorem d_M_readsTri_42 : decode prog_14_method_107_code 42 = .ok (.iconst 1, 1) := by decide +kernel
theorem d_M_readsTri_43 : decode prog_14_method_107_code 43 = .ok (.ireturn, 1) := by decide +kernel
def cf_M_readsTri  (w : Wd) (P : Int32 → Wd → Prop) : Prop :=
  cf_M_readsNumber (2 : Int32) (31 : Int32) w (fun r1 w2 => ((¬ r1 = 0 → ∀ v3, v3 = w2.1 30 26 → cf_M_readsNumber (1 : Int32) (v3 - (1 : Int32)) w2 (fun r4 w5 => ((¬ r4 = 0 → cf_M_tri v3 (w5.1 30 26) (fun r6 => ∀ w7, w7 = wL w5 30 30 r6 → P (1 : Int32) w7)) ∧ (r4 = 0 → P (0 : Int32) w5)))) ∧ (r1 = 0 → P (0 : Int32) w2)))
theorem cf_M_readsTri_ok {g : ayG} {d : Nat} (hd : 4 ≤ d)   (w : Wd) (P : Int32 → Wd → Prop) (h : cf_M_readsTri w P) : Call g y_M_readsTri prog_14_method_107_code 2 (some FieldType.boolean) d [.ref (g.1 + 30)] w (fun (r : Option Value) (w2 : Wd) => ∃ x, r = some (.int x) ∧ P x w2) := by
  unfold cf_M_readsTri at h
  refine am_enter mi_M_readsTri (Nat.le_of_ble_eq_true rfl) ?_
  have hQ : ∀ x w2, P x w2 → (fun (r : Option Value) (w2 : Wd) => ∃ x, r = some (.int x) ∧ P x w2) (some (.int x)) w2 := fun x w2 h => ⟨x, rfl, h⟩
  generalize (fun (r : Option Value) (w2 : Wd) => ∃ x, r = some (.int x) ∧ P x w2) = Q at hQ ⊢
  show wp g (fun _ => True) y_M_readsTri prog_14_method_107_code 2 (some FieldType.boolean) d 0 [(0, .ref (g.1 + 30))] [] w Q
  refine am_aload_n d_M_readsTri_0 0 rfl ?_
  refine am_iconst (v := 2) d_M_readsTri_1 rfl ?_
  refine am_bipush (v := 31) d_M_readsTri_2 rfl ?_
  refine am_callV (C := y_M_readsNumber.cls) (d2 := d - 1) [.int (2 : Int32), .int (31 : Int32)] d_M_readsTri_4 mi_M_readsNumber wd_1564 wd_1566 ws_M_readsNumber (by decide) (el_M (show ay_sh 30 = _ from rfl)) rfl rfl (by omega) rfl rfl (Nat.le_of_ble_eq_true rfl) ?_
  refine Call.post ?_ (cf_M_readsNumber_ok (by omega) (2 : Int32) (31 : Int32)  w _ h)
  rintro _ w2 ⟨r1, rfl, h⟩
  show wp g (fun _ => True) y_M_readsTri prog_14_method_107_code 2 (some FieldType.boolean) d 7 [(0, .ref (g.1 + 30))] [.int r1] w2 Q
  refine am_if_ne (tgt := 12) d_M_readsTri_7 (by decide) (fun c7 => ?_) (fun c7 => ?_)
  · have h := h.1 c7
    refine am_aload_n d_M_readsTri_12 0 rfl ?_
    refine am_getf (T := F_M) (fs := ob_M g w2 30) (C := R_M) (N := 35) (ci := 10) 26 d_M_readsTri_13 wd_1103 rfl (by decide) (el_M (show ay_sh 30 = _ from rfl)) rfl i_M (by decide) rfl ?_
    refine am_topi (fun v3 ev3 => ?_)
    have h := h v3 ev3
    refine am_istore_n (l' := [(1, .int v3), (0, .ref (g.1 + 30))]) d_M_readsTri_16 (by decide) rfl ?_
    refine am_aload_n d_M_readsTri_17 1 rfl ?_
    refine am_iconst (v := 1) d_M_readsTri_18 rfl ?_
    refine am_iload_n d_M_readsTri_19 0 rfl ?_
    refine am_iconst (v := 1) d_M_readsTri_20 rfl ?_
    refine am_isub d_M_readsTri_21 ?_
    refine am_callV (C := y_M_readsNumber.cls) (d2 := d - 1) [.int (1 : Int32), .int (v3 - (1 : Int32))] d_M_readsTri_22 mi_M_readsNumber wd_1564 wd_1566 ws_M_readsNumber (by decide) (el_M (show ay_sh 30 = _ from rfl)) rfl rfl (by omega) rfl rfl (Nat.le_of_ble_eq_true rfl) ?_
    refine Call.post ?_ (cf_M_readsNumber_ok (by omega) (1 : Int32) (v3 - (1 : Int32))  w2 _ h)
    rintro _ w5 ⟨r4, rfl, h⟩
    show wp g (fun _ => True) y_M_readsTri prog_14_method_107_code 2 (some FieldType.boolean) d 25 [(1, .int v3), (0, .ref (g.1 + 30))] [.int r4] w5 Q
    refine am_if_ne (tgt := 30) d_M_readsTri_25 (by decide) (fun c25 => ?_) (fun c25 => ?_)
    · have h := h.1 c25
      refine am_aload_n d_M_readsTri_30 1 rfl ?_
      refine am_iload_n d_M_readsTri_31 0 rfl ?_
      refine am_aload_n d_M_readsTri_32 1 rfl ?_
      refine am_getf (T := F_M) (fs := ob_M g w5 30) (C := R_M) (N := 35) (ci := 10) 26 d_M_readsTri_33 wd_1103 rfl (by decide) (el_M (show ay_sh 30 = _ from rfl)) rfl i_M (by decide) rfl ?_
      refine am_callS (d2 := d - 1) [.int v3, .int (w5.1 30 26)] d_M_readsTri_36 mi_M_tri wd_1306 wd_1307 (by omega) rfl rfl (Nat.le_of_ble_eq_true rfl) ?_
      refine Call.post ?_ (cf_M_tri_ok (by omega) v3 (w5.1 30 26)  w5 _ h)
      rintro _ _ ⟨r6, rfl, rfl, h⟩
      show wp g (fun _ => True) y_M_readsTri prog_14_method_107_code 2 (some FieldType.boolean) d 39 [(1, .int v3), (0, .ref (g.1 + 30))] [.long r6, .ref (g.1 + 30)] w5 Q
      refine am_putf (w' := wL w5 30 30 r6) (ty := .long) (T := F_M) (fs := ob_M g w5 30) (C := R_M) (N := 35) (ci := 10) 30 d_M_readsTri_39 wd_1107 rfl (by decide) (el_M (show ay_sh 30 = _ from rfl)) rfl i_M (by decide) G_M ty_M n_M rfl (ty_M 30 (by decide)) rfl rfl (Nat.le_of_ble_eq_true rfl) ((el_M (show ay_sh 30 = _ from rfl)).trans (by rw [pf_M_value])) wL_o ?_
      obtain ⟨w7, ew7⟩ : ∃ z, z = wL w5 30 30 r6 := ⟨_, rfl⟩
      rw [← ew7]
      have h := h w7 ew7
      refine am_iconst (v := 1) d_M_readsTri_42 rfl ?_
      exact am_ireturn d_M_readsTri_43 rfl rfl (hQ (1 : Int32) w7 h)
    · have h := h.2 c25
      refine am_iconst (v := 0) d_M_readsTri_28 rfl ?_
      exact am_ireturn d_M_readsTri_29 rfl rfl (hQ (0 : Int32) w5 h)
  · have h := h.2 c7
    refine am_iconst (v := 0) d_M_readsTri_10 rfl ?_
    exact am_ireturn d_M_readsTri_11 rfl rfl (hQ (0 : Int32) w2 h)
theorem d_M_readsRev_0 : decode prog_14_method_108_code 0 = .ok (.aload_n 0, 1) := by decide +kernel
theorem d_M_readsRev_1 : decode prog_14_method_108_code 1 = .ok (.invokevirtual 372, 3) := by decide +kernel
theorem d_M_readsRev_4 : decode prog_14_method_108_code 4 = .ok (.ifCond .ne 5, 3) := by decide +kernel
theorem d_M_readsRev_7 : decode prog_14_method_108_code 7 = .ok (.iconst 0, 1) := by decide +kernel
theorem d_M_readsRev_8 : decode prog_14_method_108_code 8 = .ok (.ireturn, 1) := by decide +kernel
theorem d_M_readsRev_9 : decode prog_14_method_108_code 9 = .ok (.aload_n 0, 1) := by decide +kernel
theorem d_M_readsRev_10 : decode prog_14_method_108_code 10 = .ok (.aload_n 0, 1) := by decide +kernel
theorem d_M_readsRev_11 : decode prog_14_method_108_code 11 = .ok (.getfield 369, 3) := by decide +kernel
theorem d_M_readsRev_14 : decode prog_14_method_108_code 14 = .ok (.invokestatic 375, 3) := by decide +kernel
theorem d_M_readsRev_17 : decode prog_14_method_108_code 17 = .ok (.putfield 369, 3) := by decide +kernel
theorem d_M_readsRev_20 : decode prog_14_method_108_code 20 = .ok (.iconst 1, 1) := by decide +kernel
theorem d_M_readsRev_21 : decode prog_14_method_108_code 21 = .ok (.ireturn, 1) := by decide +kernel
def cf_M_readsRev (NR : Wd → (Int32 → Wd → Prop) → Prop)  (w : Wd) (P : Int32 → Wd → Prop) : Prop :=
  NR  w (fun r1 w2 => ((¬ r1 = 0 → cf_M_reversed (w2.2 30 30) (fun r3 => ∀ w4, w4 = wL w2 30 30 r3 → P (1 : Int32) w4)) ∧ (r1 = 0 → P (0 : Int32) w2)))
theorem cf_M_readsRev_ok {g : ayG} {d : Nat} {NR : Wd → (Int32 → Wd → Prop) → Prop} (D0 : Nat) (hNR : ∀ (d2 : Nat) (hd2 : D0 ≤ d2)   (w : Wd) (P : Int32 → Wd → Prop) (h : NR w P), Call g y_M_readsWithin prog_14_method_106_code 1 (some FieldType.boolean) d2 [.ref (g.1 + 30)] w (fun (r : Option Value) (w2 : Wd) => ∃ x, r = some (.int x) ∧ P x w2)) (hd : D0 + 2 ≤ d)   (w : Wd) (P : Int32 → Wd → Prop) (h : cf_M_readsRev NR w P) : Call g y_M_readsRev prog_14_method_108_code 1 (some FieldType.boolean) d [.ref (g.1 + 30)] w (fun (r : Option Value) (w2 : Wd) => ∃ x, r = some (.int x) ∧ P x w2) := by
  unfold cf_M_readsRev at h
  refine am_enter mi_M_readsRev (Nat.le_of_ble_eq_true rfl) ?_
  have hQ : ∀ x w2, P x w2 → (fun (r : Option Value) (w2 : Wd) => ∃ x, r = some (.int x) ∧ P x w2) (some (.int x)) w2 := fun x w2 h => ⟨x, rfl, h⟩
  generalize (fun (r : Option Value) (w2 : Wd) => ∃ x, r = some (.int x) ∧ P x w2) = Q at hQ ⊢
  show wp g (fun _ => True) y_M_readsRev prog_14_method_108_code 1 (some FieldType.boolean) d 0 [(0, .ref (g.1 + 30))] [] w Q
  refine am_aload_n d_M_readsRev_0 0 rfl ?_
  refine am_callV (C := y_M_readsWithin.cls) (d2 := d - 1) [] d_M_readsRev_1 mi_M_readsWithin wd_1634 wd_1636 ws_M_readsWithin (by decide) (el_M (show ay_sh 30 = _ from rfl)) rfl rfl (by omega) rfl rfl (Nat.le_of_ble_eq_true rfl) ?_
  refine Call.post ?_ (hNR (d - 1) (by omega)   w _ h)
  rintro _ w2 ⟨r1, rfl, h⟩
  show wp g (fun _ => True) y_M_readsRev prog_14_method_108_code 1 (some FieldType.boolean) d 4 [(0, .ref (g.1 + 30))] [.int r1] w2 Q
  refine am_if_ne (tgt := 9) d_M_readsRev_4 (by decide) (fun c4 => ?_) (fun c4 => ?_)
  · have h := h.1 c4
    refine am_aload_n d_M_readsRev_9 0 rfl ?_
    refine am_aload_n d_M_readsRev_10 0 rfl ?_
    refine am_getf (T := F_M) (fs := ob_M g w2 30) (C := R_M) (N := 35) (ci := 10) 30 d_M_readsRev_11 wd_1107 rfl (by decide) (el_M (show ay_sh 30 = _ from rfl)) rfl i_M (by decide) rfl ?_
    refine am_callS (d2 := d - 1) [.long (w2.2 30 30)] d_M_readsRev_14 mi_M_reversed wd_1638 wd_1639 (by omega) rfl rfl (Nat.le_of_ble_eq_true rfl) ?_
    refine Call.post ?_ (cf_M_reversed_ok (by omega) (w2.2 30 30)  w2 _ h)
    rintro _ _ ⟨r3, rfl, rfl, h⟩
    show wp g (fun _ => True) y_M_readsRev prog_14_method_108_code 1 (some FieldType.boolean) d 17 [(0, .ref (g.1 + 30))] [.long r3, .ref (g.1 + 30)] w2 Q
    refine am_putf (w' := wL w2 30 30 r3) (ty := .long) (T := F_M) (fs := ob_M g w2 30) (C := R_M) (N := 35) (ci := 10) 30 d_M_readsRev_17 wd_1107 rfl (by decide) (el_M (show ay_sh 30 = _ from rfl)) rfl i_M (by decide) G_M ty_M n_M rfl (ty_M 30 (by decide)) rfl rfl (Nat.le_of_ble_eq_true rfl) ((el_M (show ay_sh 30 = _ from rfl)).trans (by rw [pf_M_value])) wL_o ?_
    obtain ⟨w4, ew4⟩ : ∃ z, z = wL w2 30 30 r3 := ⟨_, rfl⟩
    rw [← ew4]
    have h := h w4 ew4
    refine am_iconst (v := 1) d_M_readsRev_20 rfl ?_
    exact am_ireturn d_M_readsRev_21 rfl rfl (hQ (1 : Int32) w4 h)
  · have h := h.2 c4
    refine am_iconst (v := 0) d_M_readsRev_7 rfl ?_
    exact am_ireturn d_M_readsRev_8 rfl rfl (hQ (0 : Int32) w2 h)
theorem d_M_readsDer_0 : decode prog_14_method_109_code 0 = .ok (.aload_n 0, 1) := by decide +kernel
theorem d_M_readsDer_1 : decode prog_14_method_109_code 1 = .ok (.invokevirtual 372, 3) := by decide +kernel
theorem d_M_readsDer_4 : decode prog_14_method_109_code 4 = .ok (.ifCond .ne 5, 3) := by decide +kernel
theorem d_M_readsDer_7 : decode prog_14_method_109_code 7 = .ok (.iconst 0, 1) := by decide +kernel
theorem d_M_readsDer_8 : decode prog_14_method_109_code 8 = .ok (.ireturn, 1) := by decide +kernel
theorem d_M_readsDer_9 : decode prog_14_method_109_code 9 = .ok (.aload_n 0, 1) := by decide +kernel
theorem d_M_readsDer_10 : decode prog_14_method_109_code 10 = .ok (.aload_n 0, 1) := by decide +kernel
theorem d_M_readsDer_11 : decode prog_14_method_109_code 11 = .ok (.getfield 369, 3) := by decide +kernel
theorem d_M_readsDer_14 : decode prog_14_method_109_code 14 = .ok (.invokestatic 378, 3) := by decide +kernel
theorem d_M_readsDer_17 : decode prog_14_method_109_code 17 = .ok (.putfield 369, 3) := by decide +kernel
theorem d_M_readsDer_20 : decode prog_14_method_109_code 20 = .ok (.iconst 1, 1) := by decide +kernel
theorem d_M_readsDer_21 : decode prog_14_method_109_code 21 = .ok (.ireturn, 1) := by decide +kernel
def cf_M_readsDer (NR : Wd → (Int32 → Wd → Prop) → Prop)  (w : Wd) (P : Int32 → Wd → Prop) : Prop :=
  NR  w (fun r1 w2 => ((¬ r1 = 0 → cf_M_derived (w2.2 30 30) (fun r3 => ∀ w4, w4 = wL w2 30 30 r3 → P (1 : Int32) w4)) ∧ (r1 = 0 → P (0 : Int32) w2)))
theorem cf_M_readsDer_ok {g : ayG} {d : Nat} {NR : Wd → (Int32 → Wd → Prop) → Prop} (D0 : Nat) (hNR : ∀ (d2 : Nat) (hd2 : D0 ≤ d2)   (w : Wd) (P : Int32 → Wd → Prop) (h : NR w P), Call g y_M_readsWithin prog_14_method_106_code 1 (some FieldType.boolean) d2 [.ref (g.1 + 30)] w (fun (r : Option Value) (w2 : Wd) => ∃ x, r = some (.int x) ∧ P x w2)) (hd : D0 + 2 ≤ d)   (w : Wd) (P : Int32 → Wd → Prop) (h : cf_M_readsDer NR w P) : Call g y_M_readsDer prog_14_method_109_code 1 (some FieldType.boolean) d [.ref (g.1 + 30)] w (fun (r : Option Value) (w2 : Wd) => ∃ x, r = some (.int x) ∧ P x w2) := by
  unfold cf_M_readsDer at h
  refine am_enter mi_M_readsDer (Nat.le_of_ble_eq_true rfl) ?_
  have hQ : ∀ x w2, P x w2 → (fun (r : Option Value) (w2 : Wd) => ∃ x, r = some (.int x) ∧ P x w2) (some (.int x)) w2 := fun x w2 h => ⟨x, rfl, h⟩
  generalize (fun (r : Option Value) (w2 : Wd) => ∃ x, r = some (.int x) ∧ P x w2) = Q at hQ ⊢
  show wp g (fun _ => True) y_M_readsDer prog_14_method_109_code 1 (some FieldType.boolean) d 0 [(0, .ref (g.1 + 30))] [] w Q
  refine am_aload_n d_M_readsDer_0 0 rfl ?_
  refine am_callV (C := y_M_readsWithin.cls) (d2 := d - 1) [] d_M_readsDer_1 mi_M_readsWithin wd_1634 wd_1636 ws_M_readsWithin (by decide) (el_M (show ay_sh 30 = _ from rfl)) rfl rfl (by omega) rfl rfl (Nat.le_of_ble_eq_true rfl) ?_
  refine Call.post ?_ (hNR (d - 1) (by omega)   w _ h)
  rintro _ w2 ⟨r1, rfl, h⟩
  show wp g (fun _ => True) y_M_readsDer prog_14_method_109_code 1 (some FieldType.boolean) d 4 [(0, .ref (g.1 + 30))] [.int r1] w2 Q
  refine am_if_ne (tgt := 9) d_M_readsDer_4 (by decide) (fun c4 => ?_) (fun c4 => ?_)
  · have h := h.1 c4
    refine am_aload_n d_M_readsDer_9 0 rfl ?_
    refine am_aload_n d_M_readsDer_10 0 rfl ?_
    refine am_getf (T := F_M) (fs := ob_M g w2 30) (C := R_M) (N := 35) (ci := 10) 30 d_M_readsDer_11 wd_1107 rfl (by decide) (el_M (show ay_sh 30 = _ from rfl)) rfl i_M (by decide) rfl ?_
    refine am_callS (d2 := d - 1) [.long (w2.2 30 30)] d_M_readsDer_14 mi_M_derived wd_1646 wd_1647 (by omega) rfl rfl (Nat.le_of_ble_eq_true rfl) ?_
    refine Call.post ?_ (cf_M_derived_ok (by omega) (w2.2 30 30)  w2 _ h)
    rintro _ _ ⟨r3, rfl, rfl, h⟩
    show wp g (fun _ => True) y_M_readsDer prog_14_method_109_code 1 (some FieldType.boolean) d 17 [(0, .ref (g.1 + 30))] [.long r3, .ref (g.1 + 30)] w2 Q
    refine am_putf (w' := wL w2 30 30 r3) (ty := .long) (T := F_M) (fs := ob_M g w2 30) (C := R_M) (N := 35) (ci := 10) 30 d_M_readsDer_17 wd_1107 rfl (by decide) (el_M (show ay_sh 30 = _ from rfl)) rfl i_M (by decide) G_M ty_M n_M rfl (ty_M 30 (by decide)) rfl rfl (Nat.le_of_ble_eq_true rfl) ((el_M (show ay_sh 30 = _ from rfl)).trans (by rw [pf_M_value])) wL_o ?_
    obtain ⟨w4, ew4⟩ : ∃ z, z = wL w2 30 30 r3 := ⟨_, rfl⟩
    rw [← ew4]
    have h := h w4 ew4
    refine am_iconst (v := 1) d_M_readsDer_20 rfl ?_
    exact am_ireturn d_M_readsDer_21 rfl rfl (hQ (1 : Int32) w4 h)
  · have h := h.2 c4
    refine am_iconst (v := 0) d_M_readsDer_7 rfl ?_
    exact am_ireturn d_M_readsDer_8 rfl rfl (hQ (0 : Int32) w2 h)
theorem d_M_readsOne_0 : decode prog_14_method_110_code 0 = .ok (.aload_n 0, 1) := by decide +kernel
theorem d_M_readsOne_1 : decode prog_14_method_110_code 1 = .ok (.invokevirtual 351, 3) := by decide +kernel
theorem d_M_readsOne_4 : decode prog_14_method_110_code 4 = .ok (.ifCond .eq 21, 3) := by decide +kernel
theorem d_M_readsOne_7 : decode prog_14_method_110_code 7 = .ok (.aload_n 0, 1) := by decide +kernel
theorem d_M_readsOne_8 : decode prog_14_method_110_code 8 = .ok (.iconst 0, 1) := by decide +kernel
theorem d_M_readsOne_9 : decode prog_14_method_110_code 9 = .ok (.iconst 1, 1) := by decide +kernel
theorem d_M_readsOne_10 : decode prog_14_method_110_code 10 = .ok (.invokevirtual 366, 3) := by decide +kernel
theorem d_M_readsOne_13 : decode prog_14_method_110_code 13 = .ok (.istore_n 1, 1) := by decide +kernel
theorem d_M_readsOne_14 : decode prog_14_method_110_code 14 = .ok (.aload_n 0, 1) := by decide +kernel
theorem d_M_readsOne_15 : decode prog_14_method_110_code 15 = .ok (.aload_n 0, 1) := by decide +kernel
theorem d_M_readsOne_16 : decode prog_14_method_110_code 16 = .ok (.getfield 357, 3) := by decide +kernel
theorem d_M_readsOne_19 : decode prog_14_method_110_code 19 = .ok (.i2l, 1) := by decide +kernel
theorem d_M_readsOne_20 : decode prog_14_method_110_code 20 = .ok (.putfield 369, 3) := by decide +kernel
theorem d_M_readsOne_23 : decode prog_14_method_110_code 23 = .ok (.iload_n 1, 1) := by decide +kernel
theorem d_M_readsOne_24 : decode prog_14_method_110_code 24 = .ok (.ireturn, 1) := by decide +kernel
theorem d_M_readsOne_25 : decode prog_14_method_110_code 25 = .ok (.aload_n 0, 1) := by decide +kernel
theorem d_M_readsOne_26 : decode prog_14_method_110_code 26 = .ok (.ldc_w 381, 3) := by decide +kernel
theorem d_M_readsOne_29 : decode prog_14_method_110_code 29 = .ok (.invokevirtual 383, 3) := by decide +kernel
theorem d_M_readsOne_32 : decode prog_14_method_110_code 32 = .ok (.ifCond .eq 12, 3) := by decide +kernel
theorem d_M_readsOne_35 : decode prog_14_method_110_code 35 = .ok (.aload_n 0, 1) := by decide +kernel
theorem d_M_readsOne_36 : decode prog_14_method_110_code 36 = .ok (.ldc2_w 107, 3) := by decide +kernel
theorem d_M_readsOne_39 : decode prog_14_method_110_code 39 = .ok (.putfield 369, 3) := by decide +kernel
theorem d_M_readsOne_42 : decode prog_14_method_110_code 42 = .ok (.iconst 1, 1) := by decide +kernel
theorem d_M_readsOne_43 : decode prog_14_method_110_code 43 = .ok (.ireturn, 1) := by decide +kernel
theorem d_M_readsOne_44 : decode prog_14_method_110_code 44 = .ok (.aload_n 0, 1) := by decide +kernel
theorem d_M_readsOne_45 : decode prog_14_method_110_code 45 = .ok (.ldc_w 386, 3) := by decide +kernel
theorem d_M_readsOne_48 : decode prog_14_method_110_code 48 = .ok (.invokevirtual 383, 3) := by decide +kernel
theorem d_M_readsOne_51 : decode prog_14_method_110_code 51 = .ok (.ifCond .eq 34, 3) := by decide +kernel
theorem d_M_readsOne_54 : decode prog_14_method_110_code 54 = .ok (.aload_n 0, 1) := by decide +kernel
theorem d_M_readsOne_55 : decode prog_14_method_110_code 55 = .ok (.iconst 0, 1) := by decide +kernel
theorem d_M_readsOne_56 : decode prog_14_method_110_code 56 = .ok (.bipush 9, 2) := by decide +kernel
theorem d_M_readsOne_58 : decode prog_14_method_110_code 58 = .ok (.invokevirtual 366, 3) := by decide +kernel
theorem d_M_readsOne_61 : decode prog_14_method_110_code 61 = .ok (.istore_n 1, 1) := by decide +kernel
theorem d_M_readsOne_62 : decode prog_14_method_110_code 62 = .ok (.aload_n 0, 1) := by decide +kernel
theorem d_M_readsOne_63 : decode prog_14_method_110_code 63 = .ok (.iload_n 1, 1) := by decide +kernel
theorem d_M_readsOne_64 : decode prog_14_method_110_code 64 = .ok (.ifCond .eq 15, 3) := by decide +kernel
theorem d_M_readsOne_67 : decode prog_14_method_110_code 67 = .ok (.aload_n 0, 1) := by decide +kernel
theorem d_M_readsOne_68 : decode prog_14_method_110_code 68 = .ok (.getfield 68, 3) := by decide +kernel
theorem d_M_readsOne_71 : decode prog_14_method_110_code 71 = .ok (.aload_n 0, 1) := by decide +kernel
theorem d_M_readsOne_72 : decode prog_14_method_110_code 72 = .ok (.getfield 357, 3) := by decide +kernel
theorem d_M_readsOne_75 : decode prog_14_method_110_code 75 = .ok (.laload, 1) := by decide +kernel
theorem d_M_readsOne_76 : decode prog_14_method_110_code 76 = .ok (.goto 4, 3) := by decide +kernel
theorem d_M_readsOne_79 : decode prog_14_method_110_code 79 = .ok (.lconst 0, 1) := by decide +kernel
theorem d_M_readsOne_80 : decode prog_14_method_110_code 80 = .ok (.putfield 369, 3) := by decide +kernel
theorem d_M_readsOne_83 : decode prog_14_method_110_code 83 = .ok (.iload_n 1, 1) := by decide +kernel
theorem d_M_readsOne_84 : decode prog_14_method_110_code 84 = .ok (.ireturn, 1) := by decide +kernel
theorem d_M_readsOne_85 : decode prog_14_method_110_code 85 = .ok (.aload_n 0, 1) := by decide +kernel
theorem d_M_readsOne_86 : decode prog_14_method_110_code 86 = .ok (.ldc_w 388, 3) := by decide +kernel
theorem d_M_readsOne_89 : decode prog_14_method_110_code 89 = .ok (.invokevirtual 383, 3) := by decide +kernel
theorem d_M_readsOne_92 : decode prog_14_method_110_code 92 = .ok (.ifCond .eq 8, 3) := by decide +kernel
theorem d_M_readsOne_95 : decode prog_14_method_110_code 95 = .ok (.aload_n 0, 1) := by decide +kernel
theorem d_M_readsOne_96 : decode prog_14_method_110_code 96 = .ok (.invokevirtual 389, 3) := by decide +kernel
theorem d_M_readsOne_99 : decode prog_14_method_110_code 99 = .ok (.ireturn, 1) := by decide +kernel
theorem d_M_readsOne_100 : decode prog_14_method_110_code 100 = .ok (.aload_n 0, 1) := by decide +kernel
theorem d_M_readsOne_101 : decode prog_14_method_110_code 101 = .ok (.ldc_w 392, 3) := by decide +kernel
theorem d_M_readsOne_104 : decode prog_14_method_110_code 104 = .ok (.invokevirtual 383, 3) := by decide +kernel
theorem d_M_readsOne_107 : decode prog_14_method_110_code 107 = .ok (.ifCond .eq 8, 3) := by decide +kernel
theorem d_M_readsOne_110 : decode prog_14_method_110_code 110 = .ok (.aload_n 0, 1) := by decide +kernel
theorem d_M_readsOne_111 : decode prog_14_method_110_code 111 = .ok (.invokevirtual 394, 3) := by decide +kernel
theorem d_M_readsOne_114 : decode prog_14_method_110_code 114 = .ok (.ireturn, 1) := by decide +kernel
theorem d_M_readsOne_115 : decode prog_14_method_110_code 115 = .ok (.aload_n 0, 1) := by decide +kernel
theorem d_M_readsOne_116 : decode prog_14_method_110_code 116 = .ok (.ldc_w 397, 3) := by decide +kernel
theorem d_M_readsOne_119 : decode prog_14_method_110_code 119 = .ok (.invokevirtual 383, 3) := by decide +kernel
theorem d_M_readsOne_122 : decode prog_14_method_110_code 122 = .ok (.ifCond .eq 8, 3) := by decide +kernel
theorem d_M_readsOne_125 : decode prog_14_method_110_code 125 = .ok (.aload_n 0, 1) := by decide +kernel
theorem d_M_readsOne_126 : decode prog_14_method_110_code 126 = .ok (.invokevirtual 399, 3) := by decide +kernel
theorem d_M_readsOne_129 : decode prog_14_method_110_code 129 = .ok (.ireturn, 1) := by decide +kernel
theorem d_M_readsOne_130 : decode prog_14_method_110_code 130 = .ok (.aload_n 0, 1) := by decide +kernel
theorem d_M_readsOne_131 : decode prog_14_method_110_code 131 = .ok (.invokevirtual 372, 3) := by decide +kernel
theorem d_M_readsOne_134 : decode prog_14_method_110_code 134 = .ok (.ireturn, 1) := by decide +kernel
def cf_M_readsOne (NR : Wd → (Int32 → Wd → Prop) → Prop)  (w : Wd) (P : Int32 → Wd → Prop) : Prop :=
  cf_M_isDigitNext  w (fun r1 w2 => ((r1 = 0 → cf_M_takesWord 0 w2 (fun r3 w4 => ((r3 = 0 → cf_M_takesWord 1 w4 (fun r5 w6 => ((r5 = 0 → cf_M_takesWord 2 w6 (fun r7 w8 => ((r7 = 0 → cf_M_takesWord 3 w8 (fun r9 w10 => ((r9 = 0 → cf_M_takesWord 4 w10 (fun r11 w12 => ((r11 = 0 → NR  w12 (fun r13 w14 => (r13 = 0 ∨ r13 = 1) ∧ P r13 w14)) ∧ (¬ r11 = 0 → cf_M_readsDer NR  w12 (fun r15 w16 => (r15 = 0 ∨ r15 = 1) ∧ P r15 w16))))) ∧ (¬ r9 = 0 → cf_M_readsRev NR  w10 (fun r17 w18 => (r17 = 0 ∨ r17 = 1) ∧ P r17 w18))))) ∧ (¬ r7 = 0 → cf_M_readsTri  w8 (fun r19 w20 => (r19 = 0 ∨ r19 = 1) ∧ P r19 w20))))) ∧ (¬ r5 = 0 → cf_M_readsNumber (0 : Int32) (9 : Int32) w6 (fun r21 w22 => ((r21 = 0 → ∀ w23, w23 = wL w22 30 30 (0 : Int64) → (r21 = 0 ∨ r21 = 1) ∧ P r21 w23) ∧ (¬ r21 = 0 → vp_in (w22.1 30 26) 10 ∧ ∀ w24, w24 = wL w22 30 30 (w22.2 45 (w22.1 30 26).toNatClampNeg) → (r21 = 0 ∨ r21 = 1) ∧ P r21 w24))))))) ∧ (¬ r3 = 0 → ∀ w25, w25 = wL w4 30 30 (2 : Int64) → P (1 : Int32) w25)))) ∧ (¬ r1 = 0 → cf_M_readsNumber (0 : Int32) (1 : Int32) w2 (fun r26 w27 => ∀ w28, w28 = wL w27 30 30 ((w27.1 30 26).toInt64) → (r26 = 0 ∨ r26 = 1) ∧ P r26 w28))))
theorem cf_M_readsOne_ok {g : ayG} {d : Nat} {NR : Wd → (Int32 → Wd → Prop) → Prop} (D0 : Nat) (hNR : ∀ (d2 : Nat) (hd2 : D0 ≤ d2)   (w : Wd) (P : Int32 → Wd → Prop) (h : NR w P), Call g y_M_readsWithin prog_14_method_106_code 1 (some FieldType.boolean) d2 [.ref (g.1 + 30)] w (fun (r : Option Value) (w2 : Wd) => ∃ x, r = some (.int x) ∧ P x w2)) (hd : D0 + 9 ≤ d)   (w : Wd) (P : Int32 → Wd → Prop) (h : cf_M_readsOne NR w P) : Call g y_M_readsOne prog_14_method_110_code 2 (some FieldType.boolean) d [.ref (g.1 + 30)] w (fun (r : Option Value) (w2 : Wd) => ∃ x, r = some (.int x) ∧ P x w2) := by
  unfold cf_M_readsOne at h
  refine am_enter mi_M_readsOne (Nat.le_of_ble_eq_true rfl) ?_
  have hQ : ∀ x w2, P x w2 → (fun (r : Option Value) (w2 : Wd) => ∃ x, r = some (.int x) ∧ P x w2) (some (.int x)) w2 := fun x w2 h => ⟨x, rfl, h⟩
  generalize (fun (r : Option Value) (w2 : Wd) => ∃ x, r = some (.int x) ∧ P x w2) = Q at hQ ⊢
  show wp g (fun _ => True) y_M_readsOne prog_14_method_110_code 2 (some FieldType.boolean) d 0 [(0, .ref (g.1 + 30))] [] w Q
  refine am_aload_n d_M_readsOne_0 0 rfl ?_
  refine am_callV (C := y_M_isDigitNext.cls) (d2 := d - 1) [] d_M_readsOne_1 mi_M_isDigitNext wd_1568 wd_1570 ws_M_isDigitNext (by decide) (el_M (show ay_sh 30 = _ from rfl)) rfl rfl (by omega) rfl rfl (Nat.le_of_ble_eq_true rfl) ?_
  refine Call.post ?_ (cf_M_isDigitNext_ok (by omega)   w _ h)
  rintro _ w2 ⟨r1, rfl, h⟩
  show wp g (fun _ => True) y_M_readsOne prog_14_method_110_code 2 (some FieldType.boolean) d 4 [(0, .ref (g.1 + 30))] [.int r1] w2 Q
  refine am_if_eq (tgt := 25) d_M_readsOne_4 (by decide) (fun c4 => ?_) (fun c4 => ?_)
  · have h := h.1 c4
    refine am_aload_n d_M_readsOne_25 0 rfl ?_
    refine am_ldcSw 5 rfl rfl d_M_readsOne_26 ?_
    refine am_callV (C := y_M_takesWord.cls) (d2 := d - 1) [.ref (g.2.2.2.1 0)] d_M_readsOne_29 mi_M_takesWord wd_1611 wd_1613 ws_M_takesWord (by decide) (el_M (show ay_sh 30 = _ from rfl)) rfl rfl (by omega) rfl rfl (Nat.le_of_ble_eq_true rfl) ?_
    refine Call.post ?_ (cf_M_takesWord_ok (by omega) 0 (by decide) w2 _ h)
    rintro _ w4 ⟨r3, rfl, h⟩
    show wp g (fun _ => True) y_M_readsOne prog_14_method_110_code 2 (some FieldType.boolean) d 32 [(0, .ref (g.1 + 30))] [.int r3] w4 Q
    refine am_if_eq (tgt := 44) d_M_readsOne_32 (by decide) (fun c32 => ?_) (fun c32 => ?_)
    · have h := h.1 c32
      refine am_aload_n d_M_readsOne_44 0 rfl ?_
      refine am_ldcSw 6 rfl rfl d_M_readsOne_45 ?_
      refine am_callV (C := y_M_takesWord.cls) (d2 := d - 1) [.ref (g.2.2.2.1 1)] d_M_readsOne_48 mi_M_takesWord wd_1611 wd_1613 ws_M_takesWord (by decide) (el_M (show ay_sh 30 = _ from rfl)) rfl rfl (by omega) rfl rfl (Nat.le_of_ble_eq_true rfl) ?_
      refine Call.post ?_ (cf_M_takesWord_ok (by omega) 1 (by decide) w4 _ h)
      rintro _ w6 ⟨r5, rfl, h⟩
      show wp g (fun _ => True) y_M_readsOne prog_14_method_110_code 2 (some FieldType.boolean) d 51 [(0, .ref (g.1 + 30))] [.int r5] w6 Q
      refine am_if_eq (tgt := 85) d_M_readsOne_51 (by decide) (fun c51 => ?_) (fun c51 => ?_)
      · have h := h.1 c51
        refine am_aload_n d_M_readsOne_85 0 rfl ?_
        refine am_ldcSw 7 rfl rfl d_M_readsOne_86 ?_
        refine am_callV (C := y_M_takesWord.cls) (d2 := d - 1) [.ref (g.2.2.2.1 2)] d_M_readsOne_89 mi_M_takesWord wd_1611 wd_1613 ws_M_takesWord (by decide) (el_M (show ay_sh 30 = _ from rfl)) rfl rfl (by omega) rfl rfl (Nat.le_of_ble_eq_true rfl) ?_
        refine Call.post ?_ (cf_M_takesWord_ok (by omega) 2 (by decide) w6 _ h)
        rintro _ w8 ⟨r7, rfl, h⟩
        show wp g (fun _ => True) y_M_readsOne prog_14_method_110_code 2 (some FieldType.boolean) d 92 [(0, .ref (g.1 + 30))] [.int r7] w8 Q
        refine am_if_eq (tgt := 100) d_M_readsOne_92 (by decide) (fun c92 => ?_) (fun c92 => ?_)
        · have h := h.1 c92
          refine am_aload_n d_M_readsOne_100 0 rfl ?_
          refine am_ldcSw 8 rfl rfl d_M_readsOne_101 ?_
          refine am_callV (C := y_M_takesWord.cls) (d2 := d - 1) [.ref (g.2.2.2.1 3)] d_M_readsOne_104 mi_M_takesWord wd_1611 wd_1613 ws_M_takesWord (by decide) (el_M (show ay_sh 30 = _ from rfl)) rfl rfl (by omega) rfl rfl (Nat.le_of_ble_eq_true rfl) ?_
          refine Call.post ?_ (cf_M_takesWord_ok (by omega) 3 (by decide) w8 _ h)
          rintro _ w10 ⟨r9, rfl, h⟩
          show wp g (fun _ => True) y_M_readsOne prog_14_method_110_code 2 (some FieldType.boolean) d 107 [(0, .ref (g.1 + 30))] [.int r9] w10 Q
          refine am_if_eq (tgt := 115) d_M_readsOne_107 (by decide) (fun c107 => ?_) (fun c107 => ?_)
          · have h := h.1 c107
            refine am_aload_n d_M_readsOne_115 0 rfl ?_
            refine am_ldcSw 9 rfl rfl d_M_readsOne_116 ?_
            refine am_callV (C := y_M_takesWord.cls) (d2 := d - 1) [.ref (g.2.2.2.1 4)] d_M_readsOne_119 mi_M_takesWord wd_1611 wd_1613 ws_M_takesWord (by decide) (el_M (show ay_sh 30 = _ from rfl)) rfl rfl (by omega) rfl rfl (Nat.le_of_ble_eq_true rfl) ?_
            refine Call.post ?_ (cf_M_takesWord_ok (by omega) 4 (by decide) w10 _ h)
            rintro _ w12 ⟨r11, rfl, h⟩
            show wp g (fun _ => True) y_M_readsOne prog_14_method_110_code 2 (some FieldType.boolean) d 122 [(0, .ref (g.1 + 30))] [.int r11] w12 Q
            refine am_if_eq (tgt := 130) d_M_readsOne_122 (by decide) (fun c122 => ?_) (fun c122 => ?_)
            · have h := h.1 c122
              refine am_aload_n d_M_readsOne_130 0 rfl ?_
              refine am_callV (C := y_M_readsWithin.cls) (d2 := d - 1) [] d_M_readsOne_131 mi_M_readsWithin wd_1634 wd_1636 ws_M_readsWithin (by decide) (el_M (show ay_sh 30 = _ from rfl)) rfl rfl (by omega) rfl rfl (Nat.le_of_ble_eq_true rfl) ?_
              refine Call.post ?_ (hNR (d - 1) (by omega)   w12 _ h)
              rintro _ w14 ⟨r13, rfl, h⟩
              show wp g (fun _ => True) y_M_readsOne prog_14_method_110_code 2 (some FieldType.boolean) d 134 [(0, .ref (g.1 + 30))] [.int r13] w14 Q
              exact am_ireturn d_M_readsOne_134 rfl (ay_nb h.1) (hQ r13 w14 h.2)
            · have h := h.2 c122
              refine am_aload_n d_M_readsOne_125 0 rfl ?_
              refine am_callV (C := y_M_readsDer.cls) (d2 := d - 1) [] d_M_readsOne_126 mi_M_readsDer wd_1642 wd_1644 ws_M_readsDer (by decide) (el_M (show ay_sh 30 = _ from rfl)) rfl rfl (by omega) rfl rfl (Nat.le_of_ble_eq_true rfl) ?_
              refine Call.post ?_ (cf_M_readsDer_ok _ hNR (by omega)   w12 _ h)
              rintro _ w16 ⟨r15, rfl, h⟩
              show wp g (fun _ => True) y_M_readsOne prog_14_method_110_code 2 (some FieldType.boolean) d 129 [(0, .ref (g.1 + 30))] [.int r15] w16 Q
              exact am_ireturn d_M_readsOne_129 rfl (ay_nb h.1) (hQ r15 w16 h.2)
          · have h := h.2 c107
            refine am_aload_n d_M_readsOne_110 0 rfl ?_
            refine am_callV (C := y_M_readsRev.cls) (d2 := d - 1) [] d_M_readsOne_111 mi_M_readsRev wd_1630 wd_1632 ws_M_readsRev (by decide) (el_M (show ay_sh 30 = _ from rfl)) rfl rfl (by omega) rfl rfl (Nat.le_of_ble_eq_true rfl) ?_
            refine Call.post ?_ (cf_M_readsRev_ok _ hNR (by omega)   w10 _ h)
            rintro _ w18 ⟨r17, rfl, h⟩
            show wp g (fun _ => True) y_M_readsOne prog_14_method_110_code 2 (some FieldType.boolean) d 114 [(0, .ref (g.1 + 30))] [.int r17] w18 Q
            exact am_ireturn d_M_readsOne_114 rfl (ay_nb h.1) (hQ r17 w18 h.2)
        · have h := h.2 c92
          refine am_aload_n d_M_readsOne_95 0 rfl ?_
          refine am_callV (C := y_M_readsTri.cls) (d2 := d - 1) [] d_M_readsOne_96 mi_M_readsTri wd_1625 wd_1627 ws_M_readsTri (by decide) (el_M (show ay_sh 30 = _ from rfl)) rfl rfl (by omega) rfl rfl (Nat.le_of_ble_eq_true rfl) ?_
          refine Call.post ?_ (cf_M_readsTri_ok (by omega)   w8 _ h)
          rintro _ w20 ⟨r19, rfl, h⟩
          show wp g (fun _ => True) y_M_readsOne prog_14_method_110_code 2 (some FieldType.boolean) d 99 [(0, .ref (g.1 + 30))] [.int r19] w20 Q
          exact am_ireturn d_M_readsOne_99 rfl (ay_nb h.1) (hQ r19 w20 h.2)
      · have h := h.2 c51
        refine am_aload_n d_M_readsOne_54 0 rfl ?_
        refine am_iconst (v := 0) d_M_readsOne_55 rfl ?_
        refine am_bipush (v := 9) d_M_readsOne_56 rfl ?_
        refine am_callV (C := y_M_readsNumber.cls) (d2 := d - 1) [.int (0 : Int32), .int (9 : Int32)] d_M_readsOne_58 mi_M_readsNumber wd_1564 wd_1566 ws_M_readsNumber (by decide) (el_M (show ay_sh 30 = _ from rfl)) rfl rfl (by omega) rfl rfl (Nat.le_of_ble_eq_true rfl) ?_
        refine Call.post ?_ (cf_M_readsNumber_ok (by omega) (0 : Int32) (9 : Int32)  w6 _ h)
        rintro _ w22 ⟨r21, rfl, h⟩
        show wp g (fun _ => True) y_M_readsOne prog_14_method_110_code 2 (some FieldType.boolean) d 61 [(0, .ref (g.1 + 30))] [.int r21] w22 Q
        refine am_istore_n (l' := [(1, .int r21), (0, .ref (g.1 + 30))]) d_M_readsOne_61 (by decide) rfl ?_
        refine am_aload_n d_M_readsOne_62 1 rfl ?_
        refine am_iload_n d_M_readsOne_63 0 rfl ?_
        refine am_if_eq (tgt := 79) d_M_readsOne_64 (by decide) (fun c64 => ?_) (fun c64 => ?_)
        · have h := h.1 c64
          refine am_lconst (v := 0) d_M_readsOne_79 rfl ?_
          refine am_putf (w' := wL w22 30 30 (0 : Int64)) (ty := .long) (T := F_M) (fs := ob_M g w22 30) (C := R_M) (N := 35) (ci := 10) 30 d_M_readsOne_80 wd_1107 rfl (by decide) (el_M (show ay_sh 30 = _ from rfl)) rfl i_M (by decide) G_M ty_M n_M rfl (ty_M 30 (by decide)) rfl rfl (Nat.le_of_ble_eq_true rfl) ((el_M (show ay_sh 30 = _ from rfl)).trans (by rw [pf_M_value])) wL_o ?_
          obtain ⟨w23, ew23⟩ : ∃ z, z = wL w22 30 30 (0 : Int64) := ⟨_, rfl⟩
          rw [← ew23]
          have h := h w23 ew23
          refine am_iload_n d_M_readsOne_83 0 rfl ?_
          exact am_ireturn d_M_readsOne_84 rfl (ay_nb h.1) (hQ r21 w23 h.2)
        · have h := h.2 c64
          refine am_aload_n d_M_readsOne_67 1 rfl ?_
          refine am_getf (T := F_M) (fs := ob_M g w22 30) (C := R_M) (N := 35) (ci := 10) 31 d_M_readsOne_68 wd_1108 rfl (by decide) (el_M (show ay_sh 30 = _ from rfl)) rfl i_M (by decide) rfl ?_
          refine am_aload_n d_M_readsOne_71 1 rfl ?_
          refine am_getf (T := F_M) (fs := ob_M g w22 30) (C := R_M) (N := 35) (ci := 10) 26 d_M_readsOne_72 wd_1103 rfl (by decide) (el_M (show ay_sh 30 = _ from rfl)) rfl i_M (by decide) rfl ?_
          have hi75 := h.1
          have h := h.2
          refine am_laload d_M_readsOne_75 (show ay_sh 45 = _ from rfl) hi75 ?_
          refine am_goto (tgt := 80) d_M_readsOne_76 (by decide) ?_
          refine am_putf (w' := wL w22 30 30 (w22.2 45 (w22.1 30 26).toNatClampNeg)) (ty := .long) (T := F_M) (fs := ob_M g w22 30) (C := R_M) (N := 35) (ci := 10) 30 d_M_readsOne_80 wd_1107 rfl (by decide) (el_M (show ay_sh 30 = _ from rfl)) rfl i_M (by decide) G_M ty_M n_M rfl (ty_M 30 (by decide)) rfl rfl (Nat.le_of_ble_eq_true rfl) ((el_M (show ay_sh 30 = _ from rfl)).trans (by rw [pf_M_value])) wL_o ?_
          obtain ⟨w24, ew24⟩ : ∃ z, z = wL w22 30 30 (w22.2 45 (w22.1 30 26).toNatClampNeg) := ⟨_, rfl⟩
          rw [← ew24]
          have h := h w24 ew24
          refine am_iload_n d_M_readsOne_83 0 rfl ?_
          exact am_ireturn d_M_readsOne_84 rfl (ay_nb h.1) (hQ r21 w24 h.2)
    · have h := h.2 c32
      refine am_aload_n d_M_readsOne_35 0 rfl ?_
      refine am_ldc2 (v := 2) d_M_readsOne_36 wd_1205 ?_
      refine am_putf (w' := wL w4 30 30 (2 : Int64)) (ty := .long) (T := F_M) (fs := ob_M g w4 30) (C := R_M) (N := 35) (ci := 10) 30 d_M_readsOne_39 wd_1107 rfl (by decide) (el_M (show ay_sh 30 = _ from rfl)) rfl i_M (by decide) G_M ty_M n_M rfl (ty_M 30 (by decide)) rfl rfl (Nat.le_of_ble_eq_true rfl) ((el_M (show ay_sh 30 = _ from rfl)).trans (by rw [pf_M_value])) wL_o ?_
      obtain ⟨w25, ew25⟩ : ∃ z, z = wL w4 30 30 (2 : Int64) := ⟨_, rfl⟩
      rw [← ew25]
      have h := h w25 ew25
      refine am_iconst (v := 1) d_M_readsOne_42 rfl ?_
      exact am_ireturn d_M_readsOne_43 rfl rfl (hQ (1 : Int32) w25 h)
  · have h := h.2 c4
    refine am_aload_n d_M_readsOne_7 0 rfl ?_
    refine am_iconst (v := 0) d_M_readsOne_8 rfl ?_
    refine am_iconst (v := 1) d_M_readsOne_9 rfl ?_
    refine am_callV (C := y_M_readsNumber.cls) (d2 := d - 1) [.int (0 : Int32), .int (1 : Int32)] d_M_readsOne_10 mi_M_readsNumber wd_1564 wd_1566 ws_M_readsNumber (by decide) (el_M (show ay_sh 30 = _ from rfl)) rfl rfl (by omega) rfl rfl (Nat.le_of_ble_eq_true rfl) ?_
    refine Call.post ?_ (cf_M_readsNumber_ok (by omega) (0 : Int32) (1 : Int32)  w2 _ h)
    rintro _ w27 ⟨r26, rfl, h⟩
    show wp g (fun _ => True) y_M_readsOne prog_14_method_110_code 2 (some FieldType.boolean) d 13 [(0, .ref (g.1 + 30))] [.int r26] w27 Q
    refine am_istore_n (l' := [(1, .int r26), (0, .ref (g.1 + 30))]) d_M_readsOne_13 (by decide) rfl ?_
    refine am_aload_n d_M_readsOne_14 1 rfl ?_
    refine am_aload_n d_M_readsOne_15 1 rfl ?_
    refine am_getf (T := F_M) (fs := ob_M g w27 30) (C := R_M) (N := 35) (ci := 10) 26 d_M_readsOne_16 wd_1103 rfl (by decide) (el_M (show ay_sh 30 = _ from rfl)) rfl i_M (by decide) rfl ?_
    refine am_i2l d_M_readsOne_19 ?_
    refine am_putf (w' := wL w27 30 30 ((w27.1 30 26).toInt64)) (ty := .long) (T := F_M) (fs := ob_M g w27 30) (C := R_M) (N := 35) (ci := 10) 30 d_M_readsOne_20 wd_1107 rfl (by decide) (el_M (show ay_sh 30 = _ from rfl)) rfl i_M (by decide) G_M ty_M n_M rfl (ty_M 30 (by decide)) rfl rfl (Nat.le_of_ble_eq_true rfl) ((el_M (show ay_sh 30 = _ from rfl)).trans (by rw [pf_M_value])) wL_o ?_
    obtain ⟨w28, ew28⟩ : ∃ z, z = wL w27 30 30 ((w27.1 30 26).toInt64) := ⟨_, rfl⟩
    rw [← ew28]
    have h := h w28 ew28
    refine am_iload_n d_M_readsOne_23 0 rfl ?_
    exact am_ireturn d_M_readsOne_24 rfl (ay_nb h.1) (hQ r26 w28 h.2)
theorem d_M_readsPower_0 : decode prog_14_method_111_code 0 = .ok (.aload_n 0, 1) := by decide +kernel
theorem d_M_readsPower_1 : decode prog_14_method_111_code 1 = .ok (.invokevirtual 321, 3) := by decide +kernel
theorem d_M_readsPower_4 : decode prog_14_method_111_code 4 = .ok (.istore_n 1, 1) := by decide +kernel
theorem d_M_readsPower_5 : decode prog_14_method_111_code 5 = .ok (.aload_n 0, 1) := by decide +kernel
theorem d_M_readsPower_6 : decode prog_14_method_111_code 6 = .ok (.getfield 309, 3) := by decide +kernel
theorem d_M_readsPower_9 : decode prog_14_method_111_code 9 = .ok (.istore_n 2, 1) := by decide +kernel
theorem d_M_readsPower_10 : decode prog_14_method_111_code 10 = .ok (.aload_n 0, 1) := by decide +kernel
theorem d_M_readsPower_11 : decode prog_14_method_111_code 11 = .ok (.invokevirtual 402, 3) := by decide +kernel
theorem d_M_readsPower_14 : decode prog_14_method_111_code 14 = .ok (.ifCond .ne 5, 3) := by decide +kernel
theorem d_M_readsPower_17 : decode prog_14_method_111_code 17 = .ok (.iconst 0, 1) := by decide +kernel
theorem d_M_readsPower_18 : decode prog_14_method_111_code 18 = .ok (.ireturn, 1) := by decide +kernel
theorem d_M_readsPower_19 : decode prog_14_method_111_code 19 = .ok (.aload_n 0, 1) := by decide +kernel
theorem d_M_readsPower_20 : decode prog_14_method_111_code 20 = .ok (.bipush 94, 2) := by decide +kernel
theorem d_M_readsPower_22 : decode prog_14_method_111_code 22 = .ok (.invokevirtual 341, 3) := by decide +kernel
theorem d_M_readsPower_25 : decode prog_14_method_111_code 25 = .ok (.ifCond .ne 5, 3) := by decide +kernel
theorem d_M_readsPower_28 : decode prog_14_method_111_code 28 = .ok (.iconst 1, 1) := by decide +kernel
theorem d_M_readsPower_29 : decode prog_14_method_111_code 29 = .ok (.ireturn, 1) := by decide +kernel
theorem d_M_readsPower_30 : decode prog_14_method_111_code 30 = .ok (.aload_n 0, 1) := by decide +kernel
theorem d_M_readsPower_31 : decode prog_14_method_111_code 31 = .ok (.getfield 369, 3) := by decide +kernel
theorem d_M_readsPower_34 : decode prog_14_method_111_code 34 = .ok (.lstore_n 3, 1) := by decide +kernel
theorem d_M_readsPower_35 : decode prog_14_method_111_code 35 = .ok (.aload_n 0, 1) := by decide +kernel
theorem d_M_readsPower_36 : decode prog_14_method_111_code 36 = .ok (.iconst 0, 1) := by decide +kernel
theorem d_M_readsPower_37 : decode prog_14_method_111_code 37 = .ok (.bipush 31, 2) := by decide +kernel
theorem d_M_readsPower_39 : decode prog_14_method_111_code 39 = .ok (.invokevirtual 366, 3) := by decide +kernel
theorem d_M_readsPower_42 : decode prog_14_method_111_code 42 = .ok (.ifCond .ne 5, 3) := by decide +kernel
theorem d_M_readsPower_45 : decode prog_14_method_111_code 45 = .ok (.iconst 0, 1) := by decide +kernel
theorem d_M_readsPower_46 : decode prog_14_method_111_code 46 = .ok (.ireturn, 1) := by decide +kernel
theorem d_M_readsPower_47 : decode prog_14_method_111_code 47 = .ok (.aload_n 0, 1) := by decide +kernel
theorem d_M_readsPower_48 : decode prog_14_method_111_code 48 = .ok (.lconst 1, 1) := by decide +kernel
theorem d_M_readsPower_49 : decode prog_14_method_111_code 49 = .ok (.putfield 369, 3) := by decide +kernel
theorem d_M_readsPower_52 : decode prog_14_method_111_code 52 = .ok (.iconst 0, 1) := by decide +kernel
theorem d_M_readsPower_53 : decode prog_14_method_111_code 53 = .ok (.istore 5, 2) := by decide +kernel
theorem d_M_readsPower_55 : decode prog_14_method_111_code 55 = .ok (.iload 5, 2) := by decide +kernel
theorem d_M_readsPower_57 : decode prog_14_method_111_code 57 = .ok (.aload_n 0, 1) := by decide +kernel
theorem d_M_readsPower_58 : decode prog_14_method_111_code 58 = .ok (.getfield 357, 3) := by decide +kernel
theorem d_M_readsPower_61 : decode prog_14_method_111_code 61 = .ok (.if_icmp .ge 60, 3) := by decide +kernel
theorem d_M_readsPower_64 : decode prog_14_method_111_code 64 = .ok (.aload_n 0, 1) := by decide +kernel
theorem d_M_readsPower_65 : decode prog_14_method_111_code 65 = .ok (.getfield 369, 3) := by decide +kernel
theorem d_M_readsPower_68 : decode prog_14_method_111_code 68 = .ok (.invokestatic 84, 3) := by decide +kernel
theorem d_M_readsPower_71 : decode prog_14_method_111_code 71 = .ok (.lload_n 3, 1) := by decide +kernel
theorem d_M_readsPower_72 : decode prog_14_method_111_code 72 = .ok (.invokestatic 84, 3) := by decide +kernel
theorem d_M_readsPower_75 : decode prog_14_method_111_code 75 = .ok (.iadd, 1) := by decide +kernel
theorem d_M_readsPower_76 : decode prog_14_method_111_code 76 = .ok (.bipush 31, 2) := by decide +kernel
theorem d_M_readsPower_78 : decode prog_14_method_111_code 78 = .ok (.if_icmp .le 25, 3) := by decide +kernel
theorem d_M_readsPower_81 : decode prog_14_method_111_code 81 = .ok (.aload_n 0, 1) := by decide +kernel
theorem d_M_readsPower_82 : decode prog_14_method_111_code 82 = .ok (.getfield 369, 3) := by decide +kernel
theorem d_M_readsPower_85 : decode prog_14_method_111_code 85 = .ok (.lconst 0, 1) := by decide +kernel
theorem d_M_readsPower_86 : decode prog_14_method_111_code 86 = .ok (.lcmp, 1) := by decide +kernel
theorem d_M_readsPower_87 : decode prog_14_method_111_code 87 = .ok (.ifCond .eq 16, 3) := by decide +kernel
theorem d_M_readsPower_90 : decode prog_14_method_111_code 90 = .ok (.lload_n 3, 1) := by decide +kernel
theorem d_M_readsPower_91 : decode prog_14_method_111_code 91 = .ok (.lconst 0, 1) := by decide +kernel
theorem d_M_readsPower_92 : decode prog_14_method_111_code 92 = .ok (.lcmp, 1) := by decide +kernel
theorem d_M_readsPower_93 : decode prog_14_method_111_code 93 = .ok (.ifCond .eq 10, 3) := by decide +kernel
theorem d_M_readsPower_96 : decode prog_14_method_111_code 96 = .ok (.aload_n 0, 1) := by decide +kernel
theorem d_M_readsPower_97 : decode prog_14_method_111_code 97 = .ok (.iconst 3, 1) := by decide +kernel
theorem d_M_readsPower_98 : decode prog_14_method_111_code 98 = .ok (.iload_n 2, 1) := by decide +kernel
theorem d_M_readsPower_99 : decode prog_14_method_111_code 99 = .ok (.invokevirtual 344, 3) := by decide +kernel
theorem d_M_readsPower_102 : decode prog_14_method_111_code 102 = .ok (.ireturn, 1) := by decide +kernel
theorem d_M_readsPower_103 : decode prog_14_method_111_code 103 = .ok (.aload_n 0, 1) := by decide +kernel
theorem d_M_readsPower_104 : decode prog_14_method_111_code 104 = .ok (.aload_n 0, 1) := by decide +kernel
theorem d_M_readsPower_105 : decode prog_14_method_111_code 105 = .ok (.getfield 369, 3) := by decide +kernel
theorem d_M_readsPower_108 : decode prog_14_method_111_code 108 = .ok (.lload_n 3, 1) := by decide +kernel
theorem d_M_readsPower_109 : decode prog_14_method_111_code 109 = .ok (.invokestatic 95, 3) := by decide +kernel
theorem d_M_readsPower_112 : decode prog_14_method_111_code 112 = .ok (.putfield 369, 3) := by decide +kernel
theorem d_M_readsPower_115 : decode prog_14_method_111_code 115 = .ok (.iinc 5 1, 3) := by decide +kernel
theorem d_M_readsPower_118 : decode prog_14_method_111_code 118 = .ok (.goto (-63), 3) := by decide +kernel
theorem d_M_readsPower_121 : decode prog_14_method_111_code 121 = .ok (.iconst 1, 1) := by decide +kernel
theorem d_M_readsPower_122 : decode prog_14_method_111_code 122 = .ok (.ireturn, 1) := by decide +kernel
def cf_M_readsPower_B55 (NR : Wd → (Int32 → Wd → Prop) → Prop)  (K55 : Int32 → Int64 → Int32 → Wd → Prop) (P : Int32 → Wd → Prop) (x2 : Int32) (x3 : Int64) (x5 : Int32) (w : Wd) : Prop :=
  (((w.1 30 26) ≤ x5 → P (1 : Int32) w) ∧ (¬ (w.1 30 26) ≤ x5 → cf_M_degree (w.2 30 30) (fun r12 => cf_M_degree x3 (fun r13 => (((r12 + r13) ≤ (31 : Int32) → cf_M_product (w.2 30 30) x3 (fun r14 => ∀ w15, w15 = wL w 30 30 r14 → ∀ v16, v16 = x5 + (1 : Int32) → K55 x2 x3 v16 w15)) ∧ (¬ (r12 + r13) ≤ (31 : Int32) → (((w.2 30 30) = (0 : Int64) → cf_M_product (w.2 30 30) x3 (fun r17 => ∀ w18, w18 = wL w 30 30 r17 → ∀ v19, v19 = x5 + (1 : Int32) → K55 x2 x3 v19 w18)) ∧ (¬ (w.2 30 30) = (0 : Int64) → ((x3 = (0 : Int64) → cf_M_product (w.2 30 30) x3 (fun r20 => ∀ w21, w21 = wL w 30 30 r20 → ∀ v22, v22 = x5 + (1 : Int32) → K55 x2 x3 v22 w21)) ∧ (¬ x3 = (0 : Int64) → cf_M_fails (3 : Int32) x2 w (fun r23 w24 => (r23 = 0 ∨ r23 = 1) ∧ P r23 w24)))))))))))
def cf_M_readsPower_L55 (NR : Wd → (Int32 → Wd → Prop) → Prop)   (P : Int32 → Wd → Prop) : Nat → Int32 → Int64 → Int32 → Wd → Prop
  | 0 => fun x2 x3 x5 w => False
  | n + 1 => fun x2 x3 x5 w => cf_M_readsPower_B55 NR (cf_M_readsPower_L55 NR P n) P x2 x3 x5 w
def cf_M_readsPower (NR : Wd → (Int32 → Wd → Prop) → Prop)  (w : Wd) (P : Int32 → Wd → Prop) : Prop :=
  cf_M_nextByte  w (fun r1 w2 => ∀ v3, v3 = w2.1 30 22 → cf_M_readsOne NR  w2 (fun r4 w5 => ((¬ r4 = 0 → cf_M_takesSign (94 : Int32) w5 (fun r6 w7 => ((¬ r6 = 0 → ∀ v8, v8 = w7.2 30 30 → cf_M_readsNumber (0 : Int32) (31 : Int32) w7 (fun r9 w10 => ((¬ r9 = 0 → ∀ w11, w11 = wL w10 30 30 (1 : Int64) → ∃ n, cf_M_readsPower_L55 NR P n v3 v8 (0 : Int32) w11) ∧ (r9 = 0 → P (0 : Int32) w10)))) ∧ (r6 = 0 → P (1 : Int32) w7)))) ∧ (r4 = 0 → P (0 : Int32) w5))))
theorem cf_M_readsPower_B55_ok {g : ayG} {d : Nat} {NR : Wd → (Int32 → Wd → Prop) → Prop} (D0 : Nat) (hNR : ∀ (d2 : Nat) (hd2 : D0 ≤ d2)   (w : Wd) (P : Int32 → Wd → Prop) (h : NR w P), Call g y_M_readsWithin prog_14_method_106_code 1 (some FieldType.boolean) d2 [.ref (g.1 + 30)] w (fun (r : Option Value) (w2 : Wd) => ∃ x, r = some (.int x) ∧ P x w2)) (hd : D0 + 10 ≤ d)   (w : Wd) (K55 : Int32 → Int64 → Int32 → Wd → Prop) (P : Int32 → Wd → Prop) (Q : Option Value → Wd → Prop) (hQ : ∀ x w2, P x w2 → Q (some (.int x)) w2) (hK55 : ∀ (x2 : Int32) (x3 : Int64) (x5 : Int32) (w : Wd), (K55 x2 x3 x5 w → wp g (fun _ => True) y_M_readsPower prog_14_method_111_code 6 (some FieldType.boolean) d 55 [(0, .ref (g.1 + 30)), (2, .int x2), (3, .long x3), (5, .int x5)] [] w Q)) (x2 : Int32) (x3 : Int64) (x5 : Int32) (h : cf_M_readsPower_B55 NR K55 P x2 x3 x5 w) : wp g (fun _ => True) y_M_readsPower prog_14_method_111_code 6 (some FieldType.boolean) d 55 [(0, .ref (g.1 + 30)), (2, .int x2), (3, .long x3), (5, .int x5)] [] w Q := by
  unfold cf_M_readsPower_B55 at h
  refine am_iload d_M_readsPower_55 3 rfl ?_
  refine am_aload_n d_M_readsPower_57 0 rfl ?_
  refine am_getf (T := F_M) (fs := ob_M g w 30) (C := R_M) (N := 35) (ci := 10) 26 d_M_readsPower_58 wd_1103 rfl (by decide) (el_M (show ay_sh 30 = _ from rfl)) rfl i_M (by decide) rfl ?_
  refine am_icmp_ge (tgt := 121) d_M_readsPower_61 (by decide) (fun c61 => ?_) (fun c61 => ?_)
  · have h := h.1 c61
    refine am_iconst (v := 1) d_M_readsPower_121 rfl ?_
    exact am_ireturn d_M_readsPower_122 rfl rfl (hQ (1 : Int32) w h)
  · have h := h.2 c61
    refine am_aload_n d_M_readsPower_64 0 rfl ?_
    refine am_getf (T := F_M) (fs := ob_M g w 30) (C := R_M) (N := 35) (ci := 10) 30 d_M_readsPower_65 wd_1107 rfl (by decide) (el_M (show ay_sh 30 = _ from rfl)) rfl i_M (by decide) rfl ?_
    refine am_callS (d2 := d - 1) [.long (w.2 30 30)] d_M_readsPower_68 mi_M_degree wd_1206 wd_1207 (by omega) rfl rfl (Nat.le_of_ble_eq_true rfl) ?_
    refine Call.post ?_ (cf_M_degree_ok (by omega) (w.2 30 30)  w _ h)
    rintro _ _ ⟨r12, rfl, rfl, h⟩
    show wp g (fun _ => True) y_M_readsPower prog_14_method_111_code 6 (some FieldType.boolean) d 71 [(0, .ref (g.1 + 30)), (2, .int x2), (3, .long x3), (5, .int x5)] [.int r12] w Q
    refine am_lload_n d_M_readsPower_71 2 rfl ?_
    refine am_callS (d2 := d - 1) [.long x3] d_M_readsPower_72 mi_M_degree wd_1206 wd_1207 (by omega) rfl rfl (Nat.le_of_ble_eq_true rfl) ?_
    refine Call.post ?_ (cf_M_degree_ok (by omega) x3  w _ h)
    rintro _ _ ⟨r13, rfl, rfl, h⟩
    show wp g (fun _ => True) y_M_readsPower prog_14_method_111_code 6 (some FieldType.boolean) d 75 [(0, .ref (g.1 + 30)), (2, .int x2), (3, .long x3), (5, .int x5)] [.int r13, .int r12] w Q
    refine am_iadd d_M_readsPower_75 ?_
    refine am_bipush (v := 31) d_M_readsPower_76 rfl ?_
    refine am_icmp_le (tgt := 103) d_M_readsPower_78 (by decide) (fun c78 => ?_) (fun c78 => ?_)
    · have h := h.1 c78
      refine am_aload_n d_M_readsPower_103 0 rfl ?_
      refine am_aload_n d_M_readsPower_104 0 rfl ?_
      refine am_getf (T := F_M) (fs := ob_M g w 30) (C := R_M) (N := 35) (ci := 10) 30 d_M_readsPower_105 wd_1107 rfl (by decide) (el_M (show ay_sh 30 = _ from rfl)) rfl i_M (by decide) rfl ?_
      refine am_lload_n d_M_readsPower_108 2 rfl ?_
      refine am_callS (d2 := d - 1) [.long (w.2 30 30), .long x3] d_M_readsPower_109 mi_M_product wd_1256 wd_1257 (by omega) rfl rfl (Nat.le_of_ble_eq_true rfl) ?_
      refine Call.post ?_ (cf_M_product_ok (by omega) (w.2 30 30) x3  w _ h)
      rintro _ _ ⟨r14, rfl, rfl, h⟩
      show wp g (fun _ => True) y_M_readsPower prog_14_method_111_code 6 (some FieldType.boolean) d 112 [(0, .ref (g.1 + 30)), (2, .int x2), (3, .long x3), (5, .int x5)] [.long r14, .ref (g.1 + 30)] w Q
      refine am_putf (w' := wL w 30 30 r14) (ty := .long) (T := F_M) (fs := ob_M g w 30) (C := R_M) (N := 35) (ci := 10) 30 d_M_readsPower_112 wd_1107 rfl (by decide) (el_M (show ay_sh 30 = _ from rfl)) rfl i_M (by decide) G_M ty_M n_M rfl (ty_M 30 (by decide)) rfl rfl (Nat.le_of_ble_eq_true rfl) ((el_M (show ay_sh 30 = _ from rfl)).trans (by rw [pf_M_value])) wL_o ?_
      obtain ⟨w15, ew15⟩ : ∃ z, z = wL w 30 30 r14 := ⟨_, rfl⟩
      rw [← ew15]
      have h := h w15 ew15
      obtain ⟨v16, ev16⟩ : ∃ z : Int32, z = x5 + (1 : Int32) := ⟨_, rfl⟩
      have h := h v16 ev16
      refine am_iinc (v := v16) (l' := [(5, .int v16), (0, .ref (g.1 + 30)), (2, .int x2), (3, .long x3)]) d_M_readsPower_115 3 rfl (by rw [ev16]; rfl) (by decide) rfl ?_
      refine am_goto (tgt := 55) d_M_readsPower_118 (by decide) ?_
      refine am_sub [1, 2, 3, 0] rfl ?_
      exact hK55 x2 x3 v16 w15 h
    · have h := h.2 c78
      refine am_aload_n d_M_readsPower_81 0 rfl ?_
      refine am_getf (T := F_M) (fs := ob_M g w 30) (C := R_M) (N := 35) (ci := 10) 30 d_M_readsPower_82 wd_1107 rfl (by decide) (el_M (show ay_sh 30 = _ from rfl)) rfl i_M (by decide) rfl ?_
      refine am_lconst (v := 0) d_M_readsPower_85 rfl ?_
      refine am_lif_eq (tgt := 103) d_M_readsPower_86 d_M_readsPower_87 (by decide) (fun c86 => ?_) (fun c86 => ?_)
      · have h := h.1 c86
        refine am_aload_n d_M_readsPower_103 0 rfl ?_
        refine am_aload_n d_M_readsPower_104 0 rfl ?_
        refine am_getf (T := F_M) (fs := ob_M g w 30) (C := R_M) (N := 35) (ci := 10) 30 d_M_readsPower_105 wd_1107 rfl (by decide) (el_M (show ay_sh 30 = _ from rfl)) rfl i_M (by decide) rfl ?_
        refine am_lload_n d_M_readsPower_108 2 rfl ?_
        refine am_callS (d2 := d - 1) [.long (w.2 30 30), .long x3] d_M_readsPower_109 mi_M_product wd_1256 wd_1257 (by omega) rfl rfl (Nat.le_of_ble_eq_true rfl) ?_
        refine Call.post ?_ (cf_M_product_ok (by omega) (w.2 30 30) x3  w _ h)
        rintro _ _ ⟨r17, rfl, rfl, h⟩
        show wp g (fun _ => True) y_M_readsPower prog_14_method_111_code 6 (some FieldType.boolean) d 112 [(0, .ref (g.1 + 30)), (2, .int x2), (3, .long x3), (5, .int x5)] [.long r17, .ref (g.1 + 30)] w Q
        refine am_putf (w' := wL w 30 30 r17) (ty := .long) (T := F_M) (fs := ob_M g w 30) (C := R_M) (N := 35) (ci := 10) 30 d_M_readsPower_112 wd_1107 rfl (by decide) (el_M (show ay_sh 30 = _ from rfl)) rfl i_M (by decide) G_M ty_M n_M rfl (ty_M 30 (by decide)) rfl rfl (Nat.le_of_ble_eq_true rfl) ((el_M (show ay_sh 30 = _ from rfl)).trans (by rw [pf_M_value])) wL_o ?_
        obtain ⟨w18, ew18⟩ : ∃ z, z = wL w 30 30 r17 := ⟨_, rfl⟩
        rw [← ew18]
        have h := h w18 ew18
        obtain ⟨v19, ev19⟩ : ∃ z : Int32, z = x5 + (1 : Int32) := ⟨_, rfl⟩
        have h := h v19 ev19
        refine am_iinc (v := v19) (l' := [(5, .int v19), (0, .ref (g.1 + 30)), (2, .int x2), (3, .long x3)]) d_M_readsPower_115 3 rfl (by rw [ev19]; rfl) (by decide) rfl ?_
        refine am_goto (tgt := 55) d_M_readsPower_118 (by decide) ?_
        refine am_sub [1, 2, 3, 0] rfl ?_
        exact hK55 x2 x3 v19 w18 h
      · have h := h.2 c86
        refine am_lload_n d_M_readsPower_90 2 rfl ?_
        refine am_lconst (v := 0) d_M_readsPower_91 rfl ?_
        refine am_lif_eq (tgt := 103) d_M_readsPower_92 d_M_readsPower_93 (by decide) (fun c92 => ?_) (fun c92 => ?_)
        · have h := h.1 c92
          refine am_aload_n d_M_readsPower_103 0 rfl ?_
          refine am_aload_n d_M_readsPower_104 0 rfl ?_
          refine am_getf (T := F_M) (fs := ob_M g w 30) (C := R_M) (N := 35) (ci := 10) 30 d_M_readsPower_105 wd_1107 rfl (by decide) (el_M (show ay_sh 30 = _ from rfl)) rfl i_M (by decide) rfl ?_
          refine am_lload_n d_M_readsPower_108 2 rfl ?_
          refine am_callS (d2 := d - 1) [.long (w.2 30 30), .long x3] d_M_readsPower_109 mi_M_product wd_1256 wd_1257 (by omega) rfl rfl (Nat.le_of_ble_eq_true rfl) ?_
          refine Call.post ?_ (cf_M_product_ok (by omega) (w.2 30 30) x3  w _ h)
          rintro _ _ ⟨r20, rfl, rfl, h⟩
          show wp g (fun _ => True) y_M_readsPower prog_14_method_111_code 6 (some FieldType.boolean) d 112 [(0, .ref (g.1 + 30)), (2, .int x2), (3, .long x3), (5, .int x5)] [.long r20, .ref (g.1 + 30)] w Q
          refine am_putf (w' := wL w 30 30 r20) (ty := .long) (T := F_M) (fs := ob_M g w 30) (C := R_M) (N := 35) (ci := 10) 30 d_M_readsPower_112 wd_1107 rfl (by decide) (el_M (show ay_sh 30 = _ from rfl)) rfl i_M (by decide) G_M ty_M n_M rfl (ty_M 30 (by decide)) rfl rfl (Nat.le_of_ble_eq_true rfl) ((el_M (show ay_sh 30 = _ from rfl)).trans (by rw [pf_M_value])) wL_o ?_
          obtain ⟨w21, ew21⟩ : ∃ z, z = wL w 30 30 r20 := ⟨_, rfl⟩
          rw [← ew21]
          have h := h w21 ew21
          obtain ⟨v22, ev22⟩ : ∃ z : Int32, z = x5 + (1 : Int32) := ⟨_, rfl⟩
          have h := h v22 ev22
          refine am_iinc (v := v22) (l' := [(5, .int v22), (0, .ref (g.1 + 30)), (2, .int x2), (3, .long x3)]) d_M_readsPower_115 3 rfl (by rw [ev22]; rfl) (by decide) rfl ?_
          refine am_goto (tgt := 55) d_M_readsPower_118 (by decide) ?_
          refine am_sub [1, 2, 3, 0] rfl ?_
          exact hK55 x2 x3 v22 w21 h
        · have h := h.2 c92
          refine am_aload_n d_M_readsPower_96 0 rfl ?_
          refine am_iconst (v := 3) d_M_readsPower_97 rfl ?_
          refine am_iload_n d_M_readsPower_98 1 rfl ?_
          refine am_callV (C := y_M_fails.cls) (d2 := d - 1) [.int (3 : Int32), .int x2] d_M_readsPower_99 mi_M_fails wd_1582 wd_1584 ws_M_fails (by decide) (el_M (show ay_sh 30 = _ from rfl)) rfl rfl (by omega) rfl rfl (Nat.le_of_ble_eq_true rfl) ?_
          refine Call.post ?_ (cf_M_fails_ok (by omega) (3 : Int32) x2  w _ h)
          rintro _ w24 ⟨r23, rfl, h⟩
          show wp g (fun _ => True) y_M_readsPower prog_14_method_111_code 6 (some FieldType.boolean) d 102 [(0, .ref (g.1 + 30)), (2, .int x2), (3, .long x3), (5, .int x5)] [.int r23] w24 Q
          exact am_ireturn d_M_readsPower_102 rfl (ay_nb h.1) (hQ r23 w24 h.2)
theorem cf_M_readsPower_L55_ok {g : ayG} {d : Nat} {NR : Wd → (Int32 → Wd → Prop) → Prop} (D0 : Nat) (hNR : ∀ (d2 : Nat) (hd2 : D0 ≤ d2)   (w : Wd) (P : Int32 → Wd → Prop) (h : NR w P), Call g y_M_readsWithin prog_14_method_106_code 1 (some FieldType.boolean) d2 [.ref (g.1 + 30)] w (fun (r : Option Value) (w2 : Wd) => ∃ x, r = some (.int x) ∧ P x w2)) (hd : D0 + 10 ≤ d)    (P : Int32 → Wd → Prop) (Q : Option Value → Wd → Prop) (hQ : ∀ x w2, P x w2 → Q (some (.int x)) w2)  : ∀ (n : Nat) (x2 : Int32) (x3 : Int64) (x5 : Int32) (w : Wd) (h : cf_M_readsPower_L55 NR P n x2 x3 x5 w), wp g (fun _ => True) y_M_readsPower prog_14_method_111_code 6 (some FieldType.boolean) d 55 [(0, .ref (g.1 + 30)), (2, .int x2), (3, .long x3), (5, .int x5)] [] w Q
  | 0, x2, x3, x5, w, h => False.elim h
  | n + 1, x2, x3, x5, w, h => cf_M_readsPower_B55_ok D0 hNR hd   w (cf_M_readsPower_L55 NR P n) P Q hQ (fun x2 x3 x5 w h => cf_M_readsPower_L55_ok D0 hNR hd    P Q hQ  n x2 x3 x5 w h) x2 x3 x5 h
theorem cf_M_readsPower_ok {g : ayG} {d : Nat} {NR : Wd → (Int32 → Wd → Prop) → Prop} (D0 : Nat) (hNR : ∀ (d2 : Nat) (hd2 : D0 ≤ d2)   (w : Wd) (P : Int32 → Wd → Prop) (h : NR w P), Call g y_M_readsWithin prog_14_method_106_code 1 (some FieldType.boolean) d2 [.ref (g.1 + 30)] w (fun (r : Option Value) (w2 : Wd) => ∃ x, r = some (.int x) ∧ P x w2)) (hd : D0 + 10 ≤ d)   (w : Wd) (P : Int32 → Wd → Prop) (h : cf_M_readsPower NR w P) : Call g y_M_readsPower prog_14_method_111_code 6 (some FieldType.boolean) d [.ref (g.1 + 30)] w (fun (r : Option Value) (w2 : Wd) => ∃ x, r = some (.int x) ∧ P x w2) := by
  unfold cf_M_readsPower at h
  refine am_enter mi_M_readsPower (Nat.le_of_ble_eq_true rfl) ?_
  have hQ : ∀ x w2, P x w2 → (fun (r : Option Value) (w2 : Wd) => ∃ x, r = some (.int x) ∧ P x w2) (some (.int x)) w2 := fun x w2 h => ⟨x, rfl, h⟩
  generalize (fun (r : Option Value) (w2 : Wd) => ∃ x, r = some (.int x) ∧ P x w2) = Q at hQ ⊢
  show wp g (fun _ => True) y_M_readsPower prog_14_method_111_code 6 (some FieldType.boolean) d 0 [(0, .ref (g.1 + 30))] [] w Q
  refine am_aload_n d_M_readsPower_0 0 rfl ?_
  refine am_callV (C := y_M_nextByte.cls) (d2 := d - 1) [] d_M_readsPower_1 mi_M_nextByte wd_1572 wd_1574 ws_M_nextByte (by decide) (el_M (show ay_sh 30 = _ from rfl)) rfl rfl (by omega) rfl rfl (Nat.le_of_ble_eq_true rfl) ?_
  refine Call.post ?_ (cf_M_nextByte_ok (by omega)   w _ h)
  rintro _ w2 ⟨r1, rfl, h⟩
  show wp g (fun _ => True) y_M_readsPower prog_14_method_111_code 6 (some FieldType.boolean) d 4 [(0, .ref (g.1 + 30))] [.int r1] w2 Q
  refine am_istore_n (l' := [(1, .int r1), (0, .ref (g.1 + 30))]) d_M_readsPower_4 (by decide) rfl ?_
  refine am_aload_n d_M_readsPower_5 1 rfl ?_
  refine am_getf (T := F_M) (fs := ob_M g w2 30) (C := R_M) (N := 35) (ci := 10) 22 d_M_readsPower_6 wd_1099 rfl (by decide) (el_M (show ay_sh 30 = _ from rfl)) rfl i_M (by decide) rfl ?_
  refine am_topi (fun v3 ev3 => ?_)
  have h := h v3 ev3
  refine am_istore_n (l' := [(2, .int v3), (1, .int r1), (0, .ref (g.1 + 30))]) d_M_readsPower_9 (by decide) rfl ?_
  refine am_aload_n d_M_readsPower_10 2 rfl ?_
  refine am_callV (C := y_M_readsOne.cls) (d2 := d - 1) [] d_M_readsPower_11 mi_M_readsOne wd_1606 wd_1608 ws_M_readsOne (by decide) (el_M (show ay_sh 30 = _ from rfl)) rfl rfl (by omega) rfl rfl (Nat.le_of_ble_eq_true rfl) ?_
  refine Call.post ?_ (cf_M_readsOne_ok _ hNR (by omega)   w2 _ h)
  rintro _ w5 ⟨r4, rfl, h⟩
  show wp g (fun _ => True) y_M_readsPower prog_14_method_111_code 6 (some FieldType.boolean) d 14 [(2, .int v3), (1, .int r1), (0, .ref (g.1 + 30))] [.int r4] w5 Q
  refine am_if_ne (tgt := 19) d_M_readsPower_14 (by decide) (fun c14 => ?_) (fun c14 => ?_)
  · have h := h.1 c14
    refine am_aload_n d_M_readsPower_19 2 rfl ?_
    refine am_bipush (v := 94) d_M_readsPower_20 rfl ?_
    refine am_callV (C := y_M_takesSign.cls) (d2 := d - 1) [.int (94 : Int32)] d_M_readsPower_22 mi_M_takesSign wd_1590 wd_1592 ws_M_takesSign (by decide) (el_M (show ay_sh 30 = _ from rfl)) rfl rfl (by omega) rfl rfl (Nat.le_of_ble_eq_true rfl) ?_
    refine Call.post ?_ (cf_M_takesSign_ok (by omega) (94 : Int32)  w5 _ h)
    rintro _ w7 ⟨r6, rfl, h⟩
    show wp g (fun _ => True) y_M_readsPower prog_14_method_111_code 6 (some FieldType.boolean) d 25 [(2, .int v3), (1, .int r1), (0, .ref (g.1 + 30))] [.int r6] w7 Q
    refine am_if_ne (tgt := 30) d_M_readsPower_25 (by decide) (fun c25 => ?_) (fun c25 => ?_)
    · have h := h.1 c25
      refine am_aload_n d_M_readsPower_30 2 rfl ?_
      refine am_getf (T := F_M) (fs := ob_M g w7 30) (C := R_M) (N := 35) (ci := 10) 30 d_M_readsPower_31 wd_1107 rfl (by decide) (el_M (show ay_sh 30 = _ from rfl)) rfl i_M (by decide) rfl ?_
      refine am_topl (fun v8 ev8 => ?_)
      have h := h v8 ev8
      refine am_lstore_n (l' := [(3, .long v8), (2, .int v3), (1, .int r1), (0, .ref (g.1 + 30))]) d_M_readsPower_34 (by decide) rfl ?_
      refine am_aload_n d_M_readsPower_35 3 rfl ?_
      refine am_iconst (v := 0) d_M_readsPower_36 rfl ?_
      refine am_bipush (v := 31) d_M_readsPower_37 rfl ?_
      refine am_callV (C := y_M_readsNumber.cls) (d2 := d - 1) [.int (0 : Int32), .int (31 : Int32)] d_M_readsPower_39 mi_M_readsNumber wd_1564 wd_1566 ws_M_readsNumber (by decide) (el_M (show ay_sh 30 = _ from rfl)) rfl rfl (by omega) rfl rfl (Nat.le_of_ble_eq_true rfl) ?_
      refine Call.post ?_ (cf_M_readsNumber_ok (by omega) (0 : Int32) (31 : Int32)  w7 _ h)
      rintro _ w10 ⟨r9, rfl, h⟩
      show wp g (fun _ => True) y_M_readsPower prog_14_method_111_code 6 (some FieldType.boolean) d 42 [(3, .long v8), (2, .int v3), (1, .int r1), (0, .ref (g.1 + 30))] [.int r9] w10 Q
      refine am_if_ne (tgt := 47) d_M_readsPower_42 (by decide) (fun c42 => ?_) (fun c42 => ?_)
      · have h := h.1 c42
        refine am_aload_n d_M_readsPower_47 3 rfl ?_
        refine am_lconst (v := 1) d_M_readsPower_48 rfl ?_
        refine am_putf (w' := wL w10 30 30 (1 : Int64)) (ty := .long) (T := F_M) (fs := ob_M g w10 30) (C := R_M) (N := 35) (ci := 10) 30 d_M_readsPower_49 wd_1107 rfl (by decide) (el_M (show ay_sh 30 = _ from rfl)) rfl i_M (by decide) G_M ty_M n_M rfl (ty_M 30 (by decide)) rfl rfl (Nat.le_of_ble_eq_true rfl) ((el_M (show ay_sh 30 = _ from rfl)).trans (by rw [pf_M_value])) wL_o ?_
        obtain ⟨w11, ew11⟩ : ∃ z, z = wL w10 30 30 (1 : Int64) := ⟨_, rfl⟩
        rw [← ew11]
        have h := h w11 ew11
        refine am_iconst (v := 0) d_M_readsPower_52 rfl ?_
        refine am_istore (l' := [(5, .int (0 : Int32)), (3, .long v8), (2, .int v3), (1, .int r1), (0, .ref (g.1 + 30))]) d_M_readsPower_53 (by decide) rfl ?_
        refine am_sub [4, 2, 1, 0] rfl ?_
        obtain ⟨n, h⟩ := h
        exact cf_M_readsPower_L55_ok _ hNR (by omega)    P Q hQ  n v3 v8 (0 : Int32) w11 h
      · have h := h.2 c42
        refine am_iconst (v := 0) d_M_readsPower_45 rfl ?_
        exact am_ireturn d_M_readsPower_46 rfl rfl (hQ (0 : Int32) w10 h)
    · have h := h.2 c25
      refine am_iconst (v := 1) d_M_readsPower_28 rfl ?_
      exact am_ireturn d_M_readsPower_29 rfl rfl (hQ (1 : Int32) w7 h)
  · have h := h.2 c14
    refine am_iconst (v := 0) d_M_readsPower_17 rfl ?_
    exact am_ireturn d_M_readsPower_18 rfl rfl (hQ (0 : Int32) w5 h)
theorem d_M_isOneNext_0 : decode prog_14_method_112_code 0 = .ok (.aload_n 0, 1) := by decide +kernel
theorem d_M_isOneNext_1 : decode prog_14_method_112_code 1 = .ok (.invokevirtual 321, 3) := by decide +kernel
theorem d_M_isOneNext_4 : decode prog_14_method_112_code 4 = .ok (.istore_n 1, 1) := by decide +kernel
theorem d_M_isOneNext_5 : decode prog_14_method_112_code 5 = .ok (.iload_n 1, 1) := by decide +kernel
theorem d_M_isOneNext_6 : decode prog_14_method_112_code 6 = .ok (.bipush 40, 2) := by decide +kernel
theorem d_M_isOneNext_8 : decode prog_14_method_112_code 8 = .ok (.if_icmp .eq 31, 3) := by decide +kernel
theorem d_M_isOneNext_11 : decode prog_14_method_112_code 11 = .ok (.iload_n 1, 1) := by decide +kernel
theorem d_M_isOneNext_12 : decode prog_14_method_112_code 12 = .ok (.i2l, 1) := by decide +kernel
theorem d_M_isOneNext_13 : decode prog_14_method_112_code 13 = .ok (.ldc2_w 347, 3) := by decide +kernel
theorem d_M_isOneNext_16 : decode prog_14_method_112_code 16 = .ok (.ldc2_w 349, 3) := by decide +kernel
theorem d_M_isOneNext_19 : decode prog_14_method_112_code 19 = .ok (.invokestatic 76, 3) := by decide +kernel
theorem d_M_isOneNext_22 : decode prog_14_method_112_code 22 = .ok (.ifCond .ne 17, 3) := by decide +kernel
theorem d_M_isOneNext_25 : decode prog_14_method_112_code 25 = .ok (.iload_n 1, 1) := by decide +kernel
theorem d_M_isOneNext_26 : decode prog_14_method_112_code 26 = .ok (.i2l, 1) := by decide +kernel
theorem d_M_isOneNext_27 : decode prog_14_method_112_code 27 = .ok (.ldc2_w 333, 3) := by decide +kernel
theorem d_M_isOneNext_30 : decode prog_14_method_112_code 30 = .ok (.ldc2_w 335, 3) := by decide +kernel
theorem d_M_isOneNext_33 : decode prog_14_method_112_code 33 = .ok (.invokestatic 76, 3) := by decide +kernel
theorem d_M_isOneNext_36 : decode prog_14_method_112_code 36 = .ok (.ifCond .eq 7, 3) := by decide +kernel
theorem d_M_isOneNext_39 : decode prog_14_method_112_code 39 = .ok (.iconst 1, 1) := by decide +kernel
theorem d_M_isOneNext_40 : decode prog_14_method_112_code 40 = .ok (.goto 4, 3) := by decide +kernel
theorem d_M_isOneNext_43 : decode prog_14_method_112_code 43 = .ok (.iconst 0, 1) := by decide +kernel
theorem d_M_isOneNext_44 : decode prog_14_method_112_code 44 = .ok (.ireturn, 1) := by decide +kernel
def cf_M_isOneNext  (w : Wd) (P : Int32 → Wd → Prop) : Prop :=
  cf_M_nextByte  w (fun r1 w2 => ((r1 = (40 : Int32) → P (1 : Int32) w2) ∧ (¬ r1 = (40 : Int32) → cf_M_in r1.toInt64 (48 : Int64) (57 : Int64) (fun r3 => ((¬ r3 = 0 → P (1 : Int32) w2) ∧ (r3 = 0 → cf_M_in r1.toInt64 (97 : Int64) (122 : Int64) (fun r4 => ((r4 = 0 → P (0 : Int32) w2) ∧ (¬ r4 = 0 → P (1 : Int32) w2)))))))))
theorem cf_M_isOneNext_ok {g : ayG} {d : Nat} (hd : 2 ≤ d)   (w : Wd) (P : Int32 → Wd → Prop) (h : cf_M_isOneNext w P) : Call g y_M_isOneNext prog_14_method_112_code 2 (some FieldType.boolean) d [.ref (g.1 + 30)] w (fun (r : Option Value) (w2 : Wd) => ∃ x, r = some (.int x) ∧ P x w2) := by
  unfold cf_M_isOneNext at h
  refine am_enter mi_M_isOneNext (Nat.le_of_ble_eq_true rfl) ?_
  have hQ : ∀ x w2, P x w2 → (fun (r : Option Value) (w2 : Wd) => ∃ x, r = some (.int x) ∧ P x w2) (some (.int x)) w2 := fun x w2 h => ⟨x, rfl, h⟩
  generalize (fun (r : Option Value) (w2 : Wd) => ∃ x, r = some (.int x) ∧ P x w2) = Q at hQ ⊢
  show wp g (fun _ => True) y_M_isOneNext prog_14_method_112_code 2 (some FieldType.boolean) d 0 [(0, .ref (g.1 + 30))] [] w Q
  refine am_aload_n d_M_isOneNext_0 0 rfl ?_
  refine am_callV (C := y_M_nextByte.cls) (d2 := d - 1) [] d_M_isOneNext_1 mi_M_nextByte wd_1572 wd_1574 ws_M_nextByte (by decide) (el_M (show ay_sh 30 = _ from rfl)) rfl rfl (by omega) rfl rfl (Nat.le_of_ble_eq_true rfl) ?_
  refine Call.post ?_ (cf_M_nextByte_ok (by omega)   w _ h)
  rintro _ w2 ⟨r1, rfl, h⟩
  show wp g (fun _ => True) y_M_isOneNext prog_14_method_112_code 2 (some FieldType.boolean) d 4 [(0, .ref (g.1 + 30))] [.int r1] w2 Q
  refine am_istore_n (l' := [(1, .int r1), (0, .ref (g.1 + 30))]) d_M_isOneNext_4 (by decide) rfl ?_
  refine am_iload_n d_M_isOneNext_5 0 rfl ?_
  refine am_bipush (v := 40) d_M_isOneNext_6 rfl ?_
  refine am_icmp_eq (tgt := 39) d_M_isOneNext_8 (by decide) (fun c8 => ?_) (fun c8 => ?_)
  · have h := h.1 c8
    refine am_iconst (v := 1) d_M_isOneNext_39 rfl ?_
    refine am_goto (tgt := 44) d_M_isOneNext_40 (by decide) ?_
    exact am_ireturn d_M_isOneNext_44 rfl rfl (hQ (1 : Int32) w2 h)
  · have h := h.2 c8
    refine am_iload_n d_M_isOneNext_11 0 rfl ?_
    refine am_i2l d_M_isOneNext_12 ?_
    refine am_ldc2 (v := 48) d_M_isOneNext_13 wd_1580 ?_
    refine am_ldc2 (v := 57) d_M_isOneNext_16 wd_1581 ?_
    refine am_callS (d2 := d - 1) [.long r1.toInt64, .long (48 : Int64), .long (57 : Int64)] d_M_isOneNext_19 mi_M_in wd_1192 wd_1193 (by omega) rfl rfl (Nat.le_of_ble_eq_true rfl) ?_
    refine Call.post ?_ (cf_M_in_ok (by omega) r1.toInt64 (48 : Int64) (57 : Int64)  w2 _ h)
    rintro _ _ ⟨r3, rfl, rfl, h⟩
    show wp g (fun _ => True) y_M_isOneNext prog_14_method_112_code 2 (some FieldType.boolean) d 22 [(1, .int r1), (0, .ref (g.1 + 30))] [.int r3] w2 Q
    refine am_if_ne (tgt := 39) d_M_isOneNext_22 (by decide) (fun c22 => ?_) (fun c22 => ?_)
    · have h := h.1 c22
      refine am_iconst (v := 1) d_M_isOneNext_39 rfl ?_
      refine am_goto (tgt := 44) d_M_isOneNext_40 (by decide) ?_
      exact am_ireturn d_M_isOneNext_44 rfl rfl (hQ (1 : Int32) w2 h)
    · have h := h.2 c22
      refine am_iload_n d_M_isOneNext_25 0 rfl ?_
      refine am_i2l d_M_isOneNext_26 ?_
      refine am_ldc2 (v := 97) d_M_isOneNext_27 wd_1621 ?_
      refine am_ldc2 (v := 122) d_M_isOneNext_30 wd_1622 ?_
      refine am_callS (d2 := d - 1) [.long r1.toInt64, .long (97 : Int64), .long (122 : Int64)] d_M_isOneNext_33 mi_M_in wd_1192 wd_1193 (by omega) rfl rfl (Nat.le_of_ble_eq_true rfl) ?_
      refine Call.post ?_ (cf_M_in_ok (by omega) r1.toInt64 (97 : Int64) (122 : Int64)  w2 _ h)
      rintro _ _ ⟨r4, rfl, rfl, h⟩
      show wp g (fun _ => True) y_M_isOneNext prog_14_method_112_code 2 (some FieldType.boolean) d 36 [(1, .int r1), (0, .ref (g.1 + 30))] [.int r4] w2 Q
      refine am_if_eq (tgt := 43) d_M_isOneNext_36 (by decide) (fun c36 => ?_) (fun c36 => ?_)
      · have h := h.1 c36
        refine am_iconst (v := 0) d_M_isOneNext_43 rfl ?_
        exact am_ireturn d_M_isOneNext_44 rfl rfl (hQ (0 : Int32) w2 h)
      · have h := h.2 c36
        refine am_iconst (v := 1) d_M_isOneNext_39 rfl ?_
        refine am_goto (tgt := 44) d_M_isOneNext_40 (by decide) ?_
        exact am_ireturn d_M_isOneNext_44 rfl rfl (hQ (1 : Int32) w2 h)
theorem d_M_readsProduct_0 : decode prog_14_method_113_code 0 = .ok (.aload_n 0, 1) := by decide +kernel
theorem d_M_readsProduct_1 : decode prog_14_method_113_code 1 = .ok (.invokevirtual 321, 3) := by decide +kernel
theorem d_M_readsProduct_4 : decode prog_14_method_113_code 4 = .ok (.istore_n 1, 1) := by decide +kernel
theorem d_M_readsProduct_5 : decode prog_14_method_113_code 5 = .ok (.aload_n 0, 1) := by decide +kernel
theorem d_M_readsProduct_6 : decode prog_14_method_113_code 6 = .ok (.getfield 309, 3) := by decide +kernel
theorem d_M_readsProduct_9 : decode prog_14_method_113_code 9 = .ok (.istore_n 2, 1) := by decide +kernel
theorem d_M_readsProduct_10 : decode prog_14_method_113_code 10 = .ok (.aload_n 0, 1) := by decide +kernel
theorem d_M_readsProduct_11 : decode prog_14_method_113_code 11 = .ok (.invokevirtual 405, 3) := by decide +kernel
theorem d_M_readsProduct_14 : decode prog_14_method_113_code 14 = .ok (.ifCond .ne 5, 3) := by decide +kernel
theorem d_M_readsProduct_17 : decode prog_14_method_113_code 17 = .ok (.iconst 0, 1) := by decide +kernel
theorem d_M_readsProduct_18 : decode prog_14_method_113_code 18 = .ok (.ireturn, 1) := by decide +kernel
theorem d_M_readsProduct_19 : decode prog_14_method_113_code 19 = .ok (.aload_n 0, 1) := by decide +kernel
theorem d_M_readsProduct_20 : decode prog_14_method_113_code 20 = .ok (.getfield 369, 3) := by decide +kernel
theorem d_M_readsProduct_23 : decode prog_14_method_113_code 23 = .ok (.lstore_n 3, 1) := by decide +kernel
theorem d_M_readsProduct_24 : decode prog_14_method_113_code 24 = .ok (.aload_n 0, 1) := by decide +kernel
theorem d_M_readsProduct_25 : decode prog_14_method_113_code 25 = .ok (.bipush 42, 2) := by decide +kernel
theorem d_M_readsProduct_27 : decode prog_14_method_113_code 27 = .ok (.invokevirtual 341, 3) := by decide +kernel
theorem d_M_readsProduct_30 : decode prog_14_method_113_code 30 = .ok (.ifCond .ne 10, 3) := by decide +kernel
theorem d_M_readsProduct_33 : decode prog_14_method_113_code 33 = .ok (.aload_n 0, 1) := by decide +kernel
theorem d_M_readsProduct_34 : decode prog_14_method_113_code 34 = .ok (.invokevirtual 408, 3) := by decide +kernel
theorem d_M_readsProduct_37 : decode prog_14_method_113_code 37 = .ok (.ifCond .eq 63, 3) := by decide +kernel
theorem d_M_readsProduct_40 : decode prog_14_method_113_code 40 = .ok (.aload_n 0, 1) := by decide +kernel
theorem d_M_readsProduct_41 : decode prog_14_method_113_code 41 = .ok (.invokevirtual 405, 3) := by decide +kernel
theorem d_M_readsProduct_44 : decode prog_14_method_113_code 44 = .ok (.ifCond .ne 5, 3) := by decide +kernel
theorem d_M_readsProduct_47 : decode prog_14_method_113_code 47 = .ok (.iconst 0, 1) := by decide +kernel
theorem d_M_readsProduct_48 : decode prog_14_method_113_code 48 = .ok (.ireturn, 1) := by decide +kernel
theorem d_M_readsProduct_49 : decode prog_14_method_113_code 49 = .ok (.lload_n 3, 1) := by decide +kernel
theorem d_M_readsProduct_50 : decode prog_14_method_113_code 50 = .ok (.lconst 0, 1) := by decide +kernel
theorem d_M_readsProduct_51 : decode prog_14_method_113_code 51 = .ok (.lcmp, 1) := by decide +kernel
theorem d_M_readsProduct_52 : decode prog_14_method_113_code 52 = .ok (.ifCond .eq 36, 3) := by decide +kernel
theorem d_M_readsProduct_55 : decode prog_14_method_113_code 55 = .ok (.aload_n 0, 1) := by decide +kernel
theorem d_M_readsProduct_56 : decode prog_14_method_113_code 56 = .ok (.getfield 369, 3) := by decide +kernel
theorem d_M_readsProduct_59 : decode prog_14_method_113_code 59 = .ok (.lconst 0, 1) := by decide +kernel
theorem d_M_readsProduct_60 : decode prog_14_method_113_code 60 = .ok (.lcmp, 1) := by decide +kernel
theorem d_M_readsProduct_61 : decode prog_14_method_113_code 61 = .ok (.ifCond .eq 27, 3) := by decide +kernel
theorem d_M_readsProduct_64 : decode prog_14_method_113_code 64 = .ok (.lload_n 3, 1) := by decide +kernel
theorem d_M_readsProduct_65 : decode prog_14_method_113_code 65 = .ok (.invokestatic 84, 3) := by decide +kernel
theorem d_M_readsProduct_68 : decode prog_14_method_113_code 68 = .ok (.aload_n 0, 1) := by decide +kernel
theorem d_M_readsProduct_69 : decode prog_14_method_113_code 69 = .ok (.getfield 369, 3) := by decide +kernel
theorem d_M_readsProduct_72 : decode prog_14_method_113_code 72 = .ok (.invokestatic 84, 3) := by decide +kernel
theorem d_M_readsProduct_75 : decode prog_14_method_113_code 75 = .ok (.iadd, 1) := by decide +kernel
theorem d_M_readsProduct_76 : decode prog_14_method_113_code 76 = .ok (.bipush 31, 2) := by decide +kernel
theorem d_M_readsProduct_78 : decode prog_14_method_113_code 78 = .ok (.if_icmp .le 10, 3) := by decide +kernel
theorem d_M_readsProduct_81 : decode prog_14_method_113_code 81 = .ok (.aload_n 0, 1) := by decide +kernel
theorem d_M_readsProduct_82 : decode prog_14_method_113_code 82 = .ok (.iconst 3, 1) := by decide +kernel
theorem d_M_readsProduct_83 : decode prog_14_method_113_code 83 = .ok (.iload_n 2, 1) := by decide +kernel
theorem d_M_readsProduct_84 : decode prog_14_method_113_code 84 = .ok (.invokevirtual 344, 3) := by decide +kernel
theorem d_M_readsProduct_87 : decode prog_14_method_113_code 87 = .ok (.ireturn, 1) := by decide +kernel
theorem d_M_readsProduct_88 : decode prog_14_method_113_code 88 = .ok (.lload_n 3, 1) := by decide +kernel
theorem d_M_readsProduct_89 : decode prog_14_method_113_code 89 = .ok (.aload_n 0, 1) := by decide +kernel
theorem d_M_readsProduct_90 : decode prog_14_method_113_code 90 = .ok (.getfield 369, 3) := by decide +kernel
theorem d_M_readsProduct_93 : decode prog_14_method_113_code 93 = .ok (.invokestatic 95, 3) := by decide +kernel
theorem d_M_readsProduct_96 : decode prog_14_method_113_code 96 = .ok (.lstore_n 3, 1) := by decide +kernel
theorem d_M_readsProduct_97 : decode prog_14_method_113_code 97 = .ok (.goto (-73), 3) := by decide +kernel
theorem d_M_readsProduct_100 : decode prog_14_method_113_code 100 = .ok (.aload_n 0, 1) := by decide +kernel
theorem d_M_readsProduct_101 : decode prog_14_method_113_code 101 = .ok (.lload_n 3, 1) := by decide +kernel
theorem d_M_readsProduct_102 : decode prog_14_method_113_code 102 = .ok (.putfield 369, 3) := by decide +kernel
theorem d_M_readsProduct_105 : decode prog_14_method_113_code 105 = .ok (.iconst 1, 1) := by decide +kernel
theorem d_M_readsProduct_106 : decode prog_14_method_113_code 106 = .ok (.ireturn, 1) := by decide +kernel
def cf_M_readsProduct_B40 (NR : Wd → (Int32 → Wd → Prop) → Prop)  (K24 : Int32 → Int64 → Wd → Prop) (P : Int32 → Wd → Prop) (x2 : Int32) (x3 : Int64) (w : Wd) : Prop :=
  cf_M_readsPower NR  w (fun r9 w10 => ((¬ r9 = 0 → ((x3 = (0 : Int64) → cf_M_product x3 (w10.2 30 30) (fun r11 => K24 x2 r11 w10)) ∧ (¬ x3 = (0 : Int64) → (((w10.2 30 30) = (0 : Int64) → cf_M_product x3 (w10.2 30 30) (fun r12 => K24 x2 r12 w10)) ∧ (¬ (w10.2 30 30) = (0 : Int64) → cf_M_degree x3 (fun r13 => cf_M_degree (w10.2 30 30) (fun r14 => (((r13 + r14) ≤ (31 : Int32) → cf_M_product x3 (w10.2 30 30) (fun r15 => K24 x2 r15 w10)) ∧ (¬ (r13 + r14) ≤ (31 : Int32) → cf_M_fails (3 : Int32) x2 w10 (fun r16 w17 => (r16 = 0 ∨ r16 = 1) ∧ P r16 w17)))))))))) ∧ (r9 = 0 → P (0 : Int32) w10)))
def cf_M_readsProduct_B24 (NR : Wd → (Int32 → Wd → Prop) → Prop)  (K24 : Int32 → Int64 → Wd → Prop) (P : Int32 → Wd → Prop) (x2 : Int32) (x3 : Int64) (w : Wd) : Prop :=
  cf_M_takesSign (42 : Int32) w (fun r7 w8 => ((¬ r7 = 0 → cf_M_readsProduct_B40 NR K24 P x2 x3 w8) ∧ (r7 = 0 → cf_M_isOneNext  w8 (fun r18 w19 => ((r18 = 0 → ∀ w20, w20 = wL w19 30 30 x3 → P (1 : Int32) w20) ∧ (¬ r18 = 0 → cf_M_readsProduct_B40 NR K24 P x2 x3 w19))))))
def cf_M_readsProduct_L24 (NR : Wd → (Int32 → Wd → Prop) → Prop)   (P : Int32 → Wd → Prop) : Nat → Int32 → Int64 → Wd → Prop
  | 0 => fun x2 x3 w => False
  | n + 1 => fun x2 x3 w => cf_M_readsProduct_B24 NR (cf_M_readsProduct_L24 NR P n) P x2 x3 w
def cf_M_readsProduct (NR : Wd → (Int32 → Wd → Prop) → Prop)  (w : Wd) (P : Int32 → Wd → Prop) : Prop :=
  cf_M_nextByte  w (fun r1 w2 => ∀ v3, v3 = w2.1 30 22 → cf_M_readsPower NR  w2 (fun r4 w5 => ((¬ r4 = 0 → ∀ v6, v6 = w5.2 30 30 → ∃ n, cf_M_readsProduct_L24 NR P n v3 v6 w5) ∧ (r4 = 0 → P (0 : Int32) w5))))
theorem cf_M_readsProduct_B40_ok {g : ayG} {d : Nat} {NR : Wd → (Int32 → Wd → Prop) → Prop} (D0 : Nat) (hNR : ∀ (d2 : Nat) (hd2 : D0 ≤ d2)   (w : Wd) (P : Int32 → Wd → Prop) (h : NR w P), Call g y_M_readsWithin prog_14_method_106_code 1 (some FieldType.boolean) d2 [.ref (g.1 + 30)] w (fun (r : Option Value) (w2 : Wd) => ∃ x, r = some (.int x) ∧ P x w2)) (hd : D0 + 11 ≤ d)   (w : Wd) (K24 : Int32 → Int64 → Wd → Prop) (P : Int32 → Wd → Prop) (Q : Option Value → Wd → Prop) (hQ : ∀ x w2, P x w2 → Q (some (.int x)) w2) (hK24 : ∀ (x2 : Int32) (x3 : Int64) (w : Wd), (K24 x2 x3 w → wp g (fun _ => True) y_M_readsProduct prog_14_method_113_code 5 (some FieldType.boolean) d 24 [(0, .ref (g.1 + 30)), (2, .int x2), (3, .long x3)] [] w Q)) (x2 : Int32) (x3 : Int64) (h : cf_M_readsProduct_B40 NR K24 P x2 x3 w) : wp g (fun _ => True) y_M_readsProduct prog_14_method_113_code 5 (some FieldType.boolean) d 40 [(0, .ref (g.1 + 30)), (2, .int x2), (3, .long x3)] [] w Q := by
  unfold cf_M_readsProduct_B40 at h
  refine am_aload_n d_M_readsProduct_40 0 rfl ?_
  refine am_callV (C := y_M_readsPower.cls) (d2 := d - 1) [] d_M_readsProduct_41 mi_M_readsPower wd_1602 wd_1604 ws_M_readsPower (by decide) (el_M (show ay_sh 30 = _ from rfl)) rfl rfl (by omega) rfl rfl (Nat.le_of_ble_eq_true rfl) ?_
  refine Call.post ?_ (cf_M_readsPower_ok _ hNR (by omega)   w _ h)
  rintro _ w10 ⟨r9, rfl, h⟩
  show wp g (fun _ => True) y_M_readsProduct prog_14_method_113_code 5 (some FieldType.boolean) d 44 [(0, .ref (g.1 + 30)), (2, .int x2), (3, .long x3)] [.int r9] w10 Q
  refine am_if_ne (tgt := 49) d_M_readsProduct_44 (by decide) (fun c44 => ?_) (fun c44 => ?_)
  · have h := h.1 c44
    refine am_lload_n d_M_readsProduct_49 2 rfl ?_
    refine am_lconst (v := 0) d_M_readsProduct_50 rfl ?_
    refine am_lif_eq (tgt := 88) d_M_readsProduct_51 d_M_readsProduct_52 (by decide) (fun c51 => ?_) (fun c51 => ?_)
    · have h := h.1 c51
      refine am_lload_n d_M_readsProduct_88 2 rfl ?_
      refine am_aload_n d_M_readsProduct_89 0 rfl ?_
      refine am_getf (T := F_M) (fs := ob_M g w10 30) (C := R_M) (N := 35) (ci := 10) 30 d_M_readsProduct_90 wd_1107 rfl (by decide) (el_M (show ay_sh 30 = _ from rfl)) rfl i_M (by decide) rfl ?_
      refine am_callS (d2 := d - 1) [.long x3, .long (w10.2 30 30)] d_M_readsProduct_93 mi_M_product wd_1256 wd_1257 (by omega) rfl rfl (Nat.le_of_ble_eq_true rfl) ?_
      refine Call.post ?_ (cf_M_product_ok (by omega) x3 (w10.2 30 30)  w10 _ h)
      rintro _ _ ⟨r11, rfl, rfl, h⟩
      show wp g (fun _ => True) y_M_readsProduct prog_14_method_113_code 5 (some FieldType.boolean) d 96 [(0, .ref (g.1 + 30)), (2, .int x2), (3, .long x3)] [.long r11] w10 Q
      refine am_lstore_n (l' := [(3, .long r11), (0, .ref (g.1 + 30)), (2, .int x2)]) d_M_readsProduct_96 (by decide) rfl ?_
      refine am_goto (tgt := 24) d_M_readsProduct_97 (by decide) ?_
      refine am_sub [1, 2, 0] rfl ?_
      exact hK24 x2 r11 w10 h
    · have h := h.2 c51
      refine am_aload_n d_M_readsProduct_55 0 rfl ?_
      refine am_getf (T := F_M) (fs := ob_M g w10 30) (C := R_M) (N := 35) (ci := 10) 30 d_M_readsProduct_56 wd_1107 rfl (by decide) (el_M (show ay_sh 30 = _ from rfl)) rfl i_M (by decide) rfl ?_
      refine am_lconst (v := 0) d_M_readsProduct_59 rfl ?_
      refine am_lif_eq (tgt := 88) d_M_readsProduct_60 d_M_readsProduct_61 (by decide) (fun c60 => ?_) (fun c60 => ?_)
      · have h := h.1 c60
        refine am_lload_n d_M_readsProduct_88 2 rfl ?_
        refine am_aload_n d_M_readsProduct_89 0 rfl ?_
        refine am_getf (T := F_M) (fs := ob_M g w10 30) (C := R_M) (N := 35) (ci := 10) 30 d_M_readsProduct_90 wd_1107 rfl (by decide) (el_M (show ay_sh 30 = _ from rfl)) rfl i_M (by decide) rfl ?_
        refine am_callS (d2 := d - 1) [.long x3, .long (w10.2 30 30)] d_M_readsProduct_93 mi_M_product wd_1256 wd_1257 (by omega) rfl rfl (Nat.le_of_ble_eq_true rfl) ?_
        refine Call.post ?_ (cf_M_product_ok (by omega) x3 (w10.2 30 30)  w10 _ h)
        rintro _ _ ⟨r12, rfl, rfl, h⟩
        show wp g (fun _ => True) y_M_readsProduct prog_14_method_113_code 5 (some FieldType.boolean) d 96 [(0, .ref (g.1 + 30)), (2, .int x2), (3, .long x3)] [.long r12] w10 Q
        refine am_lstore_n (l' := [(3, .long r12), (0, .ref (g.1 + 30)), (2, .int x2)]) d_M_readsProduct_96 (by decide) rfl ?_
        refine am_goto (tgt := 24) d_M_readsProduct_97 (by decide) ?_
        refine am_sub [1, 2, 0] rfl ?_
        exact hK24 x2 r12 w10 h
      · have h := h.2 c60
        refine am_lload_n d_M_readsProduct_64 2 rfl ?_
        refine am_callS (d2 := d - 1) [.long x3] d_M_readsProduct_65 mi_M_degree wd_1206 wd_1207 (by omega) rfl rfl (Nat.le_of_ble_eq_true rfl) ?_
        refine Call.post ?_ (cf_M_degree_ok (by omega) x3  w10 _ h)
        rintro _ _ ⟨r13, rfl, rfl, h⟩
        show wp g (fun _ => True) y_M_readsProduct prog_14_method_113_code 5 (some FieldType.boolean) d 68 [(0, .ref (g.1 + 30)), (2, .int x2), (3, .long x3)] [.int r13] w10 Q
        refine am_aload_n d_M_readsProduct_68 0 rfl ?_
        refine am_getf (T := F_M) (fs := ob_M g w10 30) (C := R_M) (N := 35) (ci := 10) 30 d_M_readsProduct_69 wd_1107 rfl (by decide) (el_M (show ay_sh 30 = _ from rfl)) rfl i_M (by decide) rfl ?_
        refine am_callS (d2 := d - 1) [.long (w10.2 30 30)] d_M_readsProduct_72 mi_M_degree wd_1206 wd_1207 (by omega) rfl rfl (Nat.le_of_ble_eq_true rfl) ?_
        refine Call.post ?_ (cf_M_degree_ok (by omega) (w10.2 30 30)  w10 _ h)
        rintro _ _ ⟨r14, rfl, rfl, h⟩
        show wp g (fun _ => True) y_M_readsProduct prog_14_method_113_code 5 (some FieldType.boolean) d 75 [(0, .ref (g.1 + 30)), (2, .int x2), (3, .long x3)] [.int r14, .int r13] w10 Q
        refine am_iadd d_M_readsProduct_75 ?_
        refine am_bipush (v := 31) d_M_readsProduct_76 rfl ?_
        refine am_icmp_le (tgt := 88) d_M_readsProduct_78 (by decide) (fun c78 => ?_) (fun c78 => ?_)
        · have h := h.1 c78
          refine am_lload_n d_M_readsProduct_88 2 rfl ?_
          refine am_aload_n d_M_readsProduct_89 0 rfl ?_
          refine am_getf (T := F_M) (fs := ob_M g w10 30) (C := R_M) (N := 35) (ci := 10) 30 d_M_readsProduct_90 wd_1107 rfl (by decide) (el_M (show ay_sh 30 = _ from rfl)) rfl i_M (by decide) rfl ?_
          refine am_callS (d2 := d - 1) [.long x3, .long (w10.2 30 30)] d_M_readsProduct_93 mi_M_product wd_1256 wd_1257 (by omega) rfl rfl (Nat.le_of_ble_eq_true rfl) ?_
          refine Call.post ?_ (cf_M_product_ok (by omega) x3 (w10.2 30 30)  w10 _ h)
          rintro _ _ ⟨r15, rfl, rfl, h⟩
          show wp g (fun _ => True) y_M_readsProduct prog_14_method_113_code 5 (some FieldType.boolean) d 96 [(0, .ref (g.1 + 30)), (2, .int x2), (3, .long x3)] [.long r15] w10 Q
          refine am_lstore_n (l' := [(3, .long r15), (0, .ref (g.1 + 30)), (2, .int x2)]) d_M_readsProduct_96 (by decide) rfl ?_
          refine am_goto (tgt := 24) d_M_readsProduct_97 (by decide) ?_
          refine am_sub [1, 2, 0] rfl ?_
          exact hK24 x2 r15 w10 h
        · have h := h.2 c78
          refine am_aload_n d_M_readsProduct_81 0 rfl ?_
          refine am_iconst (v := 3) d_M_readsProduct_82 rfl ?_
          refine am_iload_n d_M_readsProduct_83 1 rfl ?_
          refine am_callV (C := y_M_fails.cls) (d2 := d - 1) [.int (3 : Int32), .int x2] d_M_readsProduct_84 mi_M_fails wd_1582 wd_1584 ws_M_fails (by decide) (el_M (show ay_sh 30 = _ from rfl)) rfl rfl (by omega) rfl rfl (Nat.le_of_ble_eq_true rfl) ?_
          refine Call.post ?_ (cf_M_fails_ok (by omega) (3 : Int32) x2  w10 _ h)
          rintro _ w17 ⟨r16, rfl, h⟩
          show wp g (fun _ => True) y_M_readsProduct prog_14_method_113_code 5 (some FieldType.boolean) d 87 [(0, .ref (g.1 + 30)), (2, .int x2), (3, .long x3)] [.int r16] w17 Q
          exact am_ireturn d_M_readsProduct_87 rfl (ay_nb h.1) (hQ r16 w17 h.2)
  · have h := h.2 c44
    refine am_iconst (v := 0) d_M_readsProduct_47 rfl ?_
    exact am_ireturn d_M_readsProduct_48 rfl rfl (hQ (0 : Int32) w10 h)
theorem cf_M_readsProduct_B24_ok {g : ayG} {d : Nat} {NR : Wd → (Int32 → Wd → Prop) → Prop} (D0 : Nat) (hNR : ∀ (d2 : Nat) (hd2 : D0 ≤ d2)   (w : Wd) (P : Int32 → Wd → Prop) (h : NR w P), Call g y_M_readsWithin prog_14_method_106_code 1 (some FieldType.boolean) d2 [.ref (g.1 + 30)] w (fun (r : Option Value) (w2 : Wd) => ∃ x, r = some (.int x) ∧ P x w2)) (hd : D0 + 11 ≤ d)   (w : Wd) (K24 : Int32 → Int64 → Wd → Prop) (P : Int32 → Wd → Prop) (Q : Option Value → Wd → Prop) (hQ : ∀ x w2, P x w2 → Q (some (.int x)) w2) (hK24 : ∀ (x2 : Int32) (x3 : Int64) (w : Wd), (K24 x2 x3 w → wp g (fun _ => True) y_M_readsProduct prog_14_method_113_code 5 (some FieldType.boolean) d 24 [(0, .ref (g.1 + 30)), (2, .int x2), (3, .long x3)] [] w Q)) (x2 : Int32) (x3 : Int64) (h : cf_M_readsProduct_B24 NR K24 P x2 x3 w) : wp g (fun _ => True) y_M_readsProduct prog_14_method_113_code 5 (some FieldType.boolean) d 24 [(0, .ref (g.1 + 30)), (2, .int x2), (3, .long x3)] [] w Q := by
  unfold cf_M_readsProduct_B24 at h
  refine am_aload_n d_M_readsProduct_24 0 rfl ?_
  refine am_bipush (v := 42) d_M_readsProduct_25 rfl ?_
  refine am_callV (C := y_M_takesSign.cls) (d2 := d - 1) [.int (42 : Int32)] d_M_readsProduct_27 mi_M_takesSign wd_1590 wd_1592 ws_M_takesSign (by decide) (el_M (show ay_sh 30 = _ from rfl)) rfl rfl (by omega) rfl rfl (Nat.le_of_ble_eq_true rfl) ?_
  refine Call.post ?_ (cf_M_takesSign_ok (by omega) (42 : Int32)  w _ h)
  rintro _ w8 ⟨r7, rfl, h⟩
  show wp g (fun _ => True) y_M_readsProduct prog_14_method_113_code 5 (some FieldType.boolean) d 30 [(0, .ref (g.1 + 30)), (2, .int x2), (3, .long x3)] [.int r7] w8 Q
  refine am_if_ne (tgt := 40) d_M_readsProduct_30 (by decide) (fun c30 => ?_) (fun c30 => ?_)
  · have h := h.1 c30
    refine am_sub [0, 1, 2] rfl ?_
    exact cf_M_readsProduct_B40_ok _ hNR (by omega)   w8 K24 P Q hQ hK24 x2 x3 h
  · have h := h.2 c30
    refine am_aload_n d_M_readsProduct_33 0 rfl ?_
    refine am_callV (C := y_M_isOneNext.cls) (d2 := d - 1) [] d_M_readsProduct_34 mi_M_isOneNext wd_1649 wd_1651 ws_M_isOneNext (by decide) (el_M (show ay_sh 30 = _ from rfl)) rfl rfl (by omega) rfl rfl (Nat.le_of_ble_eq_true rfl) ?_
    refine Call.post ?_ (cf_M_isOneNext_ok (by omega)   w8 _ h)
    rintro _ w19 ⟨r18, rfl, h⟩
    show wp g (fun _ => True) y_M_readsProduct prog_14_method_113_code 5 (some FieldType.boolean) d 37 [(0, .ref (g.1 + 30)), (2, .int x2), (3, .long x3)] [.int r18] w19 Q
    refine am_if_eq (tgt := 100) d_M_readsProduct_37 (by decide) (fun c37 => ?_) (fun c37 => ?_)
    · have h := h.1 c37
      refine am_aload_n d_M_readsProduct_100 0 rfl ?_
      refine am_lload_n d_M_readsProduct_101 2 rfl ?_
      refine am_putf (w' := wL w19 30 30 x3) (ty := .long) (T := F_M) (fs := ob_M g w19 30) (C := R_M) (N := 35) (ci := 10) 30 d_M_readsProduct_102 wd_1107 rfl (by decide) (el_M (show ay_sh 30 = _ from rfl)) rfl i_M (by decide) G_M ty_M n_M rfl (ty_M 30 (by decide)) rfl rfl (Nat.le_of_ble_eq_true rfl) ((el_M (show ay_sh 30 = _ from rfl)).trans (by rw [pf_M_value])) wL_o ?_
      obtain ⟨w20, ew20⟩ : ∃ z, z = wL w19 30 30 x3 := ⟨_, rfl⟩
      rw [← ew20]
      have h := h w20 ew20
      refine am_iconst (v := 1) d_M_readsProduct_105 rfl ?_
      exact am_ireturn d_M_readsProduct_106 rfl rfl (hQ (1 : Int32) w20 h)
    · have h := h.2 c37
      refine am_sub [0, 1, 2] rfl ?_
      exact cf_M_readsProduct_B40_ok _ hNR (by omega)   w19 K24 P Q hQ hK24 x2 x3 h
theorem cf_M_readsProduct_L24_ok {g : ayG} {d : Nat} {NR : Wd → (Int32 → Wd → Prop) → Prop} (D0 : Nat) (hNR : ∀ (d2 : Nat) (hd2 : D0 ≤ d2)   (w : Wd) (P : Int32 → Wd → Prop) (h : NR w P), Call g y_M_readsWithin prog_14_method_106_code 1 (some FieldType.boolean) d2 [.ref (g.1 + 30)] w (fun (r : Option Value) (w2 : Wd) => ∃ x, r = some (.int x) ∧ P x w2)) (hd : D0 + 11 ≤ d)    (P : Int32 → Wd → Prop) (Q : Option Value → Wd → Prop) (hQ : ∀ x w2, P x w2 → Q (some (.int x)) w2)  : ∀ (n : Nat) (x2 : Int32) (x3 : Int64) (w : Wd) (h : cf_M_readsProduct_L24 NR P n x2 x3 w), wp g (fun _ => True) y_M_readsProduct prog_14_method_113_code 5 (some FieldType.boolean) d 24 [(0, .ref (g.1 + 30)), (2, .int x2), (3, .long x3)] [] w Q
  | 0, x2, x3, w, h => False.elim h
  | n + 1, x2, x3, w, h => cf_M_readsProduct_B24_ok D0 hNR hd   w (cf_M_readsProduct_L24 NR P n) P Q hQ (fun x2 x3 w h => cf_M_readsProduct_L24_ok D0 hNR hd    P Q hQ  n x2 x3 w h) x2 x3 h
theorem cf_M_readsProduct_ok {g : ayG} {d : Nat} {NR : Wd → (Int32 → Wd → Prop) → Prop} (D0 : Nat) (hNR : ∀ (d2 : Nat) (hd2 : D0 ≤ d2)   (w : Wd) (P : Int32 → Wd → Prop) (h : NR w P), Call g y_M_readsWithin prog_14_method_106_code 1 (some FieldType.boolean) d2 [.ref (g.1 + 30)] w (fun (r : Option Value) (w2 : Wd) => ∃ x, r = some (.int x) ∧ P x w2)) (hd : D0 + 11 ≤ d)   (w : Wd) (P : Int32 → Wd → Prop) (h : cf_M_readsProduct NR w P) : Call g y_M_readsProduct prog_14_method_113_code 5 (some FieldType.boolean) d [.ref (g.1 + 30)] w (fun (r : Option Value) (w2 : Wd) => ∃ x, r = some (.int x) ∧ P x w2) := by
  unfold cf_M_readsProduct at h
  refine am_enter mi_M_readsProduct (Nat.le_of_ble_eq_true rfl) ?_
  have hQ : ∀ x w2, P x w2 → (fun (r : Option Value) (w2 : Wd) => ∃ x, r = some (.int x) ∧ P x w2) (some (.int x)) w2 := fun x w2 h => ⟨x, rfl, h⟩
  generalize (fun (r : Option Value) (w2 : Wd) => ∃ x, r = some (.int x) ∧ P x w2) = Q at hQ ⊢
  show wp g (fun _ => True) y_M_readsProduct prog_14_method_113_code 5 (some FieldType.boolean) d 0 [(0, .ref (g.1 + 30))] [] w Q
  refine am_aload_n d_M_readsProduct_0 0 rfl ?_
  refine am_callV (C := y_M_nextByte.cls) (d2 := d - 1) [] d_M_readsProduct_1 mi_M_nextByte wd_1572 wd_1574 ws_M_nextByte (by decide) (el_M (show ay_sh 30 = _ from rfl)) rfl rfl (by omega) rfl rfl (Nat.le_of_ble_eq_true rfl) ?_
  refine Call.post ?_ (cf_M_nextByte_ok (by omega)   w _ h)
  rintro _ w2 ⟨r1, rfl, h⟩
  show wp g (fun _ => True) y_M_readsProduct prog_14_method_113_code 5 (some FieldType.boolean) d 4 [(0, .ref (g.1 + 30))] [.int r1] w2 Q
  refine am_istore_n (l' := [(1, .int r1), (0, .ref (g.1 + 30))]) d_M_readsProduct_4 (by decide) rfl ?_
  refine am_aload_n d_M_readsProduct_5 1 rfl ?_
  refine am_getf (T := F_M) (fs := ob_M g w2 30) (C := R_M) (N := 35) (ci := 10) 22 d_M_readsProduct_6 wd_1099 rfl (by decide) (el_M (show ay_sh 30 = _ from rfl)) rfl i_M (by decide) rfl ?_
  refine am_topi (fun v3 ev3 => ?_)
  have h := h v3 ev3
  refine am_istore_n (l' := [(2, .int v3), (1, .int r1), (0, .ref (g.1 + 30))]) d_M_readsProduct_9 (by decide) rfl ?_
  refine am_aload_n d_M_readsProduct_10 2 rfl ?_
  refine am_callV (C := y_M_readsPower.cls) (d2 := d - 1) [] d_M_readsProduct_11 mi_M_readsPower wd_1602 wd_1604 ws_M_readsPower (by decide) (el_M (show ay_sh 30 = _ from rfl)) rfl rfl (by omega) rfl rfl (Nat.le_of_ble_eq_true rfl) ?_
  refine Call.post ?_ (cf_M_readsPower_ok _ hNR (by omega)   w2 _ h)
  rintro _ w5 ⟨r4, rfl, h⟩
  show wp g (fun _ => True) y_M_readsProduct prog_14_method_113_code 5 (some FieldType.boolean) d 14 [(2, .int v3), (1, .int r1), (0, .ref (g.1 + 30))] [.int r4] w5 Q
  refine am_if_ne (tgt := 19) d_M_readsProduct_14 (by decide) (fun c14 => ?_) (fun c14 => ?_)
  · have h := h.1 c14
    refine am_aload_n d_M_readsProduct_19 2 rfl ?_
    refine am_getf (T := F_M) (fs := ob_M g w5 30) (C := R_M) (N := 35) (ci := 10) 30 d_M_readsProduct_20 wd_1107 rfl (by decide) (el_M (show ay_sh 30 = _ from rfl)) rfl i_M (by decide) rfl ?_
    refine am_topl (fun v6 ev6 => ?_)
    have h := h v6 ev6
    refine am_lstore_n (l' := [(3, .long v6), (2, .int v3), (1, .int r1), (0, .ref (g.1 + 30))]) d_M_readsProduct_23 (by decide) rfl ?_
    refine am_sub [3, 1, 0] rfl ?_
    obtain ⟨n, h⟩ := h
    exact cf_M_readsProduct_L24_ok _ hNR (by omega)    P Q hQ  n v3 v6 w5 h
  · have h := h.2 c14
    refine am_iconst (v := 0) d_M_readsProduct_17 rfl ?_
    exact am_ireturn d_M_readsProduct_18 rfl rfl (hQ (0 : Int32) w5 h)
theorem d_M_readsSum_0 : decode prog_14_method_114_code 0 = .ok (.aload_n 0, 1) := by decide +kernel
theorem d_M_readsSum_1 : decode prog_14_method_114_code 1 = .ok (.invokevirtual 411, 3) := by decide +kernel
theorem d_M_readsSum_4 : decode prog_14_method_114_code 4 = .ok (.ifCond .ne 5, 3) := by decide +kernel
theorem d_M_readsSum_7 : decode prog_14_method_114_code 7 = .ok (.iconst 0, 1) := by decide +kernel
theorem d_M_readsSum_8 : decode prog_14_method_114_code 8 = .ok (.ireturn, 1) := by decide +kernel
theorem d_M_readsSum_9 : decode prog_14_method_114_code 9 = .ok (.aload_n 0, 1) := by decide +kernel
theorem d_M_readsSum_10 : decode prog_14_method_114_code 10 = .ok (.getfield 369, 3) := by decide +kernel
theorem d_M_readsSum_13 : decode prog_14_method_114_code 13 = .ok (.lstore_n 1, 1) := by decide +kernel
theorem d_M_readsSum_14 : decode prog_14_method_114_code 14 = .ok (.aload_n 0, 1) := by decide +kernel
theorem d_M_readsSum_15 : decode prog_14_method_114_code 15 = .ok (.bipush 43, 2) := by decide +kernel
theorem d_M_readsSum_17 : decode prog_14_method_114_code 17 = .ok (.invokevirtual 341, 3) := by decide +kernel
theorem d_M_readsSum_20 : decode prog_14_method_114_code 20 = .ok (.ifCond .eq 22, 3) := by decide +kernel
theorem d_M_readsSum_23 : decode prog_14_method_114_code 23 = .ok (.aload_n 0, 1) := by decide +kernel
theorem d_M_readsSum_24 : decode prog_14_method_114_code 24 = .ok (.invokevirtual 411, 3) := by decide +kernel
theorem d_M_readsSum_27 : decode prog_14_method_114_code 27 = .ok (.ifCond .ne 5, 3) := by decide +kernel
theorem d_M_readsSum_30 : decode prog_14_method_114_code 30 = .ok (.iconst 0, 1) := by decide +kernel
theorem d_M_readsSum_31 : decode prog_14_method_114_code 31 = .ok (.ireturn, 1) := by decide +kernel
theorem d_M_readsSum_32 : decode prog_14_method_114_code 32 = .ok (.lload_n 1, 1) := by decide +kernel
theorem d_M_readsSum_33 : decode prog_14_method_114_code 33 = .ok (.aload_n 0, 1) := by decide +kernel
theorem d_M_readsSum_34 : decode prog_14_method_114_code 34 = .ok (.getfield 369, 3) := by decide +kernel
theorem d_M_readsSum_37 : decode prog_14_method_114_code 37 = .ok (.lxor, 1) := by decide +kernel
theorem d_M_readsSum_38 : decode prog_14_method_114_code 38 = .ok (.lstore_n 1, 1) := by decide +kernel
theorem d_M_readsSum_39 : decode prog_14_method_114_code 39 = .ok (.goto (-25), 3) := by decide +kernel
theorem d_M_readsSum_42 : decode prog_14_method_114_code 42 = .ok (.aload_n 0, 1) := by decide +kernel
theorem d_M_readsSum_43 : decode prog_14_method_114_code 43 = .ok (.lload_n 1, 1) := by decide +kernel
theorem d_M_readsSum_44 : decode prog_14_method_114_code 44 = .ok (.putfield 369, 3) := by decide +kernel
theorem d_M_readsSum_47 : decode prog_14_method_114_code 47 = .ok (.iconst 1, 1) := by decide +kernel
theorem d_M_readsSum_48 : decode prog_14_method_114_code 48 = .ok (.ireturn, 1) := by decide +kernel
def cf_M_readsSum_B14 (NR : Wd → (Int32 → Wd → Prop) → Prop)  (K14 : Int64 → Wd → Prop) (P : Int32 → Wd → Prop) (x1 : Int64) (w : Wd) : Prop :=
  cf_M_takesSign (43 : Int32) w (fun r4 w5 => ((r4 = 0 → ∀ w6, w6 = wL w5 30 30 x1 → P (1 : Int32) w6) ∧ (¬ r4 = 0 → cf_M_readsProduct NR  w5 (fun r7 w8 => ((¬ r7 = 0 → ∀ v9, v9 = x1 ^^^ (w8.2 30 30) → K14 v9 w8) ∧ (r7 = 0 → P (0 : Int32) w8))))))
def cf_M_readsSum_L14 (NR : Wd → (Int32 → Wd → Prop) → Prop)   (P : Int32 → Wd → Prop) : Nat → Int64 → Wd → Prop
  | 0 => fun x1 w => False
  | n + 1 => fun x1 w => cf_M_readsSum_B14 NR (cf_M_readsSum_L14 NR P n) P x1 w
def cf_M_readsSum (NR : Wd → (Int32 → Wd → Prop) → Prop)  (w : Wd) (P : Int32 → Wd → Prop) : Prop :=
  cf_M_readsProduct NR  w (fun r1 w2 => ((¬ r1 = 0 → ∀ v3, v3 = w2.2 30 30 → ∃ n, cf_M_readsSum_L14 NR P n v3 w2) ∧ (r1 = 0 → P (0 : Int32) w2)))
theorem cf_M_readsSum_B14_ok {g : ayG} {d : Nat} {NR : Wd → (Int32 → Wd → Prop) → Prop} (D0 : Nat) (hNR : ∀ (d2 : Nat) (hd2 : D0 ≤ d2)   (w : Wd) (P : Int32 → Wd → Prop) (h : NR w P), Call g y_M_readsWithin prog_14_method_106_code 1 (some FieldType.boolean) d2 [.ref (g.1 + 30)] w (fun (r : Option Value) (w2 : Wd) => ∃ x, r = some (.int x) ∧ P x w2)) (hd : D0 + 12 ≤ d)   (w : Wd) (K14 : Int64 → Wd → Prop) (P : Int32 → Wd → Prop) (Q : Option Value → Wd → Prop) (hQ : ∀ x w2, P x w2 → Q (some (.int x)) w2) (hK14 : ∀ (x1 : Int64) (w : Wd), (K14 x1 w → wp g (fun _ => True) y_M_readsSum prog_14_method_114_code 3 (some FieldType.boolean) d 14 [(0, .ref (g.1 + 30)), (1, .long x1)] [] w Q)) (x1 : Int64) (h : cf_M_readsSum_B14 NR K14 P x1 w) : wp g (fun _ => True) y_M_readsSum prog_14_method_114_code 3 (some FieldType.boolean) d 14 [(0, .ref (g.1 + 30)), (1, .long x1)] [] w Q := by
  unfold cf_M_readsSum_B14 at h
  refine am_aload_n d_M_readsSum_14 0 rfl ?_
  refine am_bipush (v := 43) d_M_readsSum_15 rfl ?_
  refine am_callV (C := y_M_takesSign.cls) (d2 := d - 1) [.int (43 : Int32)] d_M_readsSum_17 mi_M_takesSign wd_1590 wd_1592 ws_M_takesSign (by decide) (el_M (show ay_sh 30 = _ from rfl)) rfl rfl (by omega) rfl rfl (Nat.le_of_ble_eq_true rfl) ?_
  refine Call.post ?_ (cf_M_takesSign_ok (by omega) (43 : Int32)  w _ h)
  rintro _ w5 ⟨r4, rfl, h⟩
  show wp g (fun _ => True) y_M_readsSum prog_14_method_114_code 3 (some FieldType.boolean) d 20 [(0, .ref (g.1 + 30)), (1, .long x1)] [.int r4] w5 Q
  refine am_if_eq (tgt := 42) d_M_readsSum_20 (by decide) (fun c20 => ?_) (fun c20 => ?_)
  · have h := h.1 c20
    refine am_aload_n d_M_readsSum_42 0 rfl ?_
    refine am_lload_n d_M_readsSum_43 1 rfl ?_
    refine am_putf (w' := wL w5 30 30 x1) (ty := .long) (T := F_M) (fs := ob_M g w5 30) (C := R_M) (N := 35) (ci := 10) 30 d_M_readsSum_44 wd_1107 rfl (by decide) (el_M (show ay_sh 30 = _ from rfl)) rfl i_M (by decide) G_M ty_M n_M rfl (ty_M 30 (by decide)) rfl rfl (Nat.le_of_ble_eq_true rfl) ((el_M (show ay_sh 30 = _ from rfl)).trans (by rw [pf_M_value])) wL_o ?_
    obtain ⟨w6, ew6⟩ : ∃ z, z = wL w5 30 30 x1 := ⟨_, rfl⟩
    rw [← ew6]
    have h := h w6 ew6
    refine am_iconst (v := 1) d_M_readsSum_47 rfl ?_
    exact am_ireturn d_M_readsSum_48 rfl rfl (hQ (1 : Int32) w6 h)
  · have h := h.2 c20
    refine am_aload_n d_M_readsSum_23 0 rfl ?_
    refine am_callV (C := y_M_readsProduct.cls) (d2 := d - 1) [] d_M_readsSum_24 mi_M_readsProduct wd_1598 wd_1600 ws_M_readsProduct (by decide) (el_M (show ay_sh 30 = _ from rfl)) rfl rfl (by omega) rfl rfl (Nat.le_of_ble_eq_true rfl) ?_
    refine Call.post ?_ (cf_M_readsProduct_ok _ hNR (by omega)   w5 _ h)
    rintro _ w8 ⟨r7, rfl, h⟩
    show wp g (fun _ => True) y_M_readsSum prog_14_method_114_code 3 (some FieldType.boolean) d 27 [(0, .ref (g.1 + 30)), (1, .long x1)] [.int r7] w8 Q
    refine am_if_ne (tgt := 32) d_M_readsSum_27 (by decide) (fun c27 => ?_) (fun c27 => ?_)
    · have h := h.1 c27
      refine am_lload_n d_M_readsSum_32 1 rfl ?_
      refine am_aload_n d_M_readsSum_33 0 rfl ?_
      refine am_getf (T := F_M) (fs := ob_M g w8 30) (C := R_M) (N := 35) (ci := 10) 30 d_M_readsSum_34 wd_1107 rfl (by decide) (el_M (show ay_sh 30 = _ from rfl)) rfl i_M (by decide) rfl ?_
      refine am_lxor d_M_readsSum_37 ?_
      refine am_topl (fun v9 ev9 => ?_)
      have h := h v9 ev9
      refine am_lstore_n (l' := [(1, .long v9), (0, .ref (g.1 + 30))]) d_M_readsSum_38 (by decide) rfl ?_
      refine am_goto (tgt := 14) d_M_readsSum_39 (by decide) ?_
      refine am_sub [1, 0] rfl ?_
      exact hK14 v9 w8 h
    · have h := h.2 c27
      refine am_iconst (v := 0) d_M_readsSum_30 rfl ?_
      exact am_ireturn d_M_readsSum_31 rfl rfl (hQ (0 : Int32) w8 h)
theorem cf_M_readsSum_L14_ok {g : ayG} {d : Nat} {NR : Wd → (Int32 → Wd → Prop) → Prop} (D0 : Nat) (hNR : ∀ (d2 : Nat) (hd2 : D0 ≤ d2)   (w : Wd) (P : Int32 → Wd → Prop) (h : NR w P), Call g y_M_readsWithin prog_14_method_106_code 1 (some FieldType.boolean) d2 [.ref (g.1 + 30)] w (fun (r : Option Value) (w2 : Wd) => ∃ x, r = some (.int x) ∧ P x w2)) (hd : D0 + 12 ≤ d)    (P : Int32 → Wd → Prop) (Q : Option Value → Wd → Prop) (hQ : ∀ x w2, P x w2 → Q (some (.int x)) w2)  : ∀ (n : Nat) (x1 : Int64) (w : Wd) (h : cf_M_readsSum_L14 NR P n x1 w), wp g (fun _ => True) y_M_readsSum prog_14_method_114_code 3 (some FieldType.boolean) d 14 [(0, .ref (g.1 + 30)), (1, .long x1)] [] w Q
  | 0, x1, w, h => False.elim h
  | n + 1, x1, w, h => cf_M_readsSum_B14_ok D0 hNR hd   w (cf_M_readsSum_L14 NR P n) P Q hQ (fun x1 w h => cf_M_readsSum_L14_ok D0 hNR hd    P Q hQ  n x1 w h) x1 h
theorem cf_M_readsSum_ok {g : ayG} {d : Nat} {NR : Wd → (Int32 → Wd → Prop) → Prop} (D0 : Nat) (hNR : ∀ (d2 : Nat) (hd2 : D0 ≤ d2)   (w : Wd) (P : Int32 → Wd → Prop) (h : NR w P), Call g y_M_readsWithin prog_14_method_106_code 1 (some FieldType.boolean) d2 [.ref (g.1 + 30)] w (fun (r : Option Value) (w2 : Wd) => ∃ x, r = some (.int x) ∧ P x w2)) (hd : D0 + 12 ≤ d)   (w : Wd) (P : Int32 → Wd → Prop) (h : cf_M_readsSum NR w P) : Call g y_M_readsSum prog_14_method_114_code 3 (some FieldType.boolean) d [.ref (g.1 + 30)] w (fun (r : Option Value) (w2 : Wd) => ∃ x, r = some (.int x) ∧ P x w2) := by
  unfold cf_M_readsSum at h
  refine am_enter mi_M_readsSum (Nat.le_of_ble_eq_true rfl) ?_
  have hQ : ∀ x w2, P x w2 → (fun (r : Option Value) (w2 : Wd) => ∃ x, r = some (.int x) ∧ P x w2) (some (.int x)) w2 := fun x w2 h => ⟨x, rfl, h⟩
  generalize (fun (r : Option Value) (w2 : Wd) => ∃ x, r = some (.int x) ∧ P x w2) = Q at hQ ⊢
  show wp g (fun _ => True) y_M_readsSum prog_14_method_114_code 3 (some FieldType.boolean) d 0 [(0, .ref (g.1 + 30))] [] w Q
  refine am_aload_n d_M_readsSum_0 0 rfl ?_
  refine am_callV (C := y_M_readsProduct.cls) (d2 := d - 1) [] d_M_readsSum_1 mi_M_readsProduct wd_1598 wd_1600 ws_M_readsProduct (by decide) (el_M (show ay_sh 30 = _ from rfl)) rfl rfl (by omega) rfl rfl (Nat.le_of_ble_eq_true rfl) ?_
  refine Call.post ?_ (cf_M_readsProduct_ok _ hNR (by omega)   w _ h)
  rintro _ w2 ⟨r1, rfl, h⟩
  show wp g (fun _ => True) y_M_readsSum prog_14_method_114_code 3 (some FieldType.boolean) d 4 [(0, .ref (g.1 + 30))] [.int r1] w2 Q
  refine am_if_ne (tgt := 9) d_M_readsSum_4 (by decide) (fun c4 => ?_) (fun c4 => ?_)
  · have h := h.1 c4
    refine am_aload_n d_M_readsSum_9 0 rfl ?_
    refine am_getf (T := F_M) (fs := ob_M g w2 30) (C := R_M) (N := 35) (ci := 10) 30 d_M_readsSum_10 wd_1107 rfl (by decide) (el_M (show ay_sh 30 = _ from rfl)) rfl i_M (by decide) rfl ?_
    refine am_topl (fun v3 ev3 => ?_)
    have h := h v3 ev3
    refine am_lstore_n (l' := [(1, .long v3), (0, .ref (g.1 + 30))]) d_M_readsSum_13 (by decide) rfl ?_
    refine am_sub [1, 0] rfl ?_
    obtain ⟨n, h⟩ := h
    exact cf_M_readsSum_L14_ok _ hNR (by omega)    P Q hQ  n v3 w2 h
  · have h := h.2 c4
    refine am_iconst (v := 0) d_M_readsSum_7 rfl ?_
    exact am_ireturn d_M_readsSum_8 rfl rfl (hQ (0 : Int32) w2 h)
theorem d_M_readsWithin_0 : decode prog_14_method_106_code 0 = .ok (.aload_n 0, 1) := by decide +kernel
theorem d_M_readsWithin_1 : decode prog_14_method_106_code 1 = .ok (.invokevirtual 321, 3) := by decide +kernel
theorem d_M_readsWithin_4 : decode prog_14_method_106_code 4 = .ok (.bipush 40, 2) := by decide +kernel
theorem d_M_readsWithin_6 : decode prog_14_method_106_code 6 = .ok (.if_icmp .eq 13, 3) := by decide +kernel
theorem d_M_readsWithin_9 : decode prog_14_method_106_code 9 = .ok (.aload_n 0, 1) := by decide +kernel
theorem d_M_readsWithin_10 : decode prog_14_method_106_code 10 = .ok (.iconst 1, 1) := by decide +kernel
theorem d_M_readsWithin_11 : decode prog_14_method_106_code 11 = .ok (.aload_n 0, 1) := by decide +kernel
theorem d_M_readsWithin_12 : decode prog_14_method_106_code 12 = .ok (.getfield 309, 3) := by decide +kernel
theorem d_M_readsWithin_15 : decode prog_14_method_106_code 15 = .ok (.invokevirtual 344, 3) := by decide +kernel
theorem d_M_readsWithin_18 : decode prog_14_method_106_code 18 = .ok (.ireturn, 1) := by decide +kernel
theorem d_M_readsWithin_19 : decode prog_14_method_106_code 19 = .ok (.aload_n 0, 1) := by decide +kernel
theorem d_M_readsWithin_20 : decode prog_14_method_106_code 20 = .ok (.getfield 315, 3) := by decide +kernel
theorem d_M_readsWithin_23 : decode prog_14_method_106_code 23 = .ok (.bipush 6, 2) := by decide +kernel
theorem d_M_readsWithin_25 : decode prog_14_method_106_code 25 = .ok (.if_icmp .ne 13, 3) := by decide +kernel
theorem d_M_readsWithin_28 : decode prog_14_method_106_code 28 = .ok (.aload_n 0, 1) := by decide +kernel
theorem d_M_readsWithin_29 : decode prog_14_method_106_code 29 = .ok (.iconst 4, 1) := by decide +kernel
theorem d_M_readsWithin_30 : decode prog_14_method_106_code 30 = .ok (.aload_n 0, 1) := by decide +kernel
theorem d_M_readsWithin_31 : decode prog_14_method_106_code 31 = .ok (.getfield 309, 3) := by decide +kernel
theorem d_M_readsWithin_34 : decode prog_14_method_106_code 34 = .ok (.invokevirtual 344, 3) := by decide +kernel
theorem d_M_readsWithin_37 : decode prog_14_method_106_code 37 = .ok (.ireturn, 1) := by decide +kernel
theorem d_M_readsWithin_38 : decode prog_14_method_106_code 38 = .ok (.aload_n 0, 1) := by decide +kernel
theorem d_M_readsWithin_39 : decode prog_14_method_106_code 39 = .ok (.getfield 65, 3) := by decide +kernel
theorem d_M_readsWithin_42 : decode prog_14_method_106_code 42 = .ok (.aload_n 0, 1) := by decide +kernel
theorem d_M_readsWithin_43 : decode prog_14_method_106_code 43 = .ok (.getfield 315, 3) := by decide +kernel
theorem d_M_readsWithin_46 : decode prog_14_method_106_code 46 = .ok (.aload_n 0, 1) := by decide +kernel
theorem d_M_readsWithin_47 : decode prog_14_method_106_code 47 = .ok (.getfield 309, 3) := by decide +kernel
theorem d_M_readsWithin_50 : decode prog_14_method_106_code 50 = .ok (.iastore, 1) := by decide +kernel
theorem d_M_readsWithin_51 : decode prog_14_method_106_code 51 = .ok (.aload_n 0, 1) := by decide +kernel
theorem d_M_readsWithin_52 : decode prog_14_method_106_code 52 = .ok (.dup, 1) := by decide +kernel
theorem d_M_readsWithin_53 : decode prog_14_method_106_code 53 = .ok (.getfield 315, 3) := by decide +kernel
theorem d_M_readsWithin_56 : decode prog_14_method_106_code 56 = .ok (.iconst 1, 1) := by decide +kernel
theorem d_M_readsWithin_57 : decode prog_14_method_106_code 57 = .ok (.iadd, 1) := by decide +kernel
theorem d_M_readsWithin_58 : decode prog_14_method_106_code 58 = .ok (.putfield 315, 3) := by decide +kernel
theorem d_M_readsWithin_61 : decode prog_14_method_106_code 61 = .ok (.aload_n 0, 1) := by decide +kernel
theorem d_M_readsWithin_62 : decode prog_14_method_106_code 62 = .ok (.dup, 1) := by decide +kernel
theorem d_M_readsWithin_63 : decode prog_14_method_106_code 63 = .ok (.getfield 309, 3) := by decide +kernel
theorem d_M_readsWithin_66 : decode prog_14_method_106_code 66 = .ok (.iconst 1, 1) := by decide +kernel
theorem d_M_readsWithin_67 : decode prog_14_method_106_code 67 = .ok (.iadd, 1) := by decide +kernel
theorem d_M_readsWithin_68 : decode prog_14_method_106_code 68 = .ok (.putfield 309, 3) := by decide +kernel
theorem d_M_readsWithin_71 : decode prog_14_method_106_code 71 = .ok (.aload_n 0, 1) := by decide +kernel
theorem d_M_readsWithin_72 : decode prog_14_method_106_code 72 = .ok (.invokevirtual 360, 3) := by decide +kernel
theorem d_M_readsWithin_75 : decode prog_14_method_106_code 75 = .ok (.ifCond .eq 12, 3) := by decide +kernel
theorem d_M_readsWithin_78 : decode prog_14_method_106_code 78 = .ok (.aload_n 0, 1) := by decide +kernel
theorem d_M_readsWithin_79 : decode prog_14_method_106_code 79 = .ok (.bipush 41, 2) := by decide +kernel
theorem d_M_readsWithin_81 : decode prog_14_method_106_code 81 = .ok (.invokevirtual 363, 3) := by decide +kernel
theorem d_M_readsWithin_84 : decode prog_14_method_106_code 84 = .ok (.ifCond .ne 5, 3) := by decide +kernel
theorem d_M_readsWithin_87 : decode prog_14_method_106_code 87 = .ok (.iconst 0, 1) := by decide +kernel
theorem d_M_readsWithin_88 : decode prog_14_method_106_code 88 = .ok (.ireturn, 1) := by decide +kernel
theorem d_M_readsWithin_89 : decode prog_14_method_106_code 89 = .ok (.aload_n 0, 1) := by decide +kernel
theorem d_M_readsWithin_90 : decode prog_14_method_106_code 90 = .ok (.dup, 1) := by decide +kernel
theorem d_M_readsWithin_91 : decode prog_14_method_106_code 91 = .ok (.getfield 315, 3) := by decide +kernel
theorem d_M_readsWithin_94 : decode prog_14_method_106_code 94 = .ok (.iconst 1, 1) := by decide +kernel
theorem d_M_readsWithin_95 : decode prog_14_method_106_code 95 = .ok (.isub, 1) := by decide +kernel
theorem d_M_readsWithin_96 : decode prog_14_method_106_code 96 = .ok (.putfield 315, 3) := by decide +kernel
theorem d_M_readsWithin_99 : decode prog_14_method_106_code 99 = .ok (.iconst 1, 1) := by decide +kernel
theorem d_M_readsWithin_100 : decode prog_14_method_106_code 100 = .ok (.ireturn, 1) := by decide +kernel
def cf_M_readsWithin_E (NR : Wd → (Int32 → Wd → Prop) → Prop)  (w : Wd) (P : Int32 → Wd → Prop) : Prop :=
  cf_M_nextByte  w (fun r1 w2 => ((r1 = (40 : Int32) → ((¬ (w2.1 30 28) = (6 : Int32) → vp_in (w2.1 30 28) 6 ∧ ∀ w3, w3 = wI w2 44 (w2.1 30 28).toNatClampNeg (w2.1 30 22) → ∀ w4, w4 = wI w3 30 28 ((w3.1 30 28) + (1 : Int32)) → ∀ w5, w5 = wI w4 30 22 ((w4.1 30 22) + (1 : Int32)) → cf_M_readsSum NR  w5 (fun r6 w7 => ((r6 = 0 → P (0 : Int32) w7) ∧ (¬ r6 = 0 → cf_M_mustSign (41 : Int32) w7 (fun r8 w9 => ((¬ r8 = 0 → ∀ w10, w10 = wI w9 30 28 ((w9.1 30 28) - (1 : Int32)) → P (1 : Int32) w10) ∧ (r8 = 0 → P (0 : Int32) w9))))))) ∧ ((w2.1 30 28) = (6 : Int32) → cf_M_fails (4 : Int32) (w2.1 30 22) w2 (fun r11 w12 => (r11 = 0 ∨ r11 = 1) ∧ P r11 w12)))) ∧ (¬ r1 = (40 : Int32) → cf_M_fails (1 : Int32) (w2.1 30 22) w2 (fun r13 w14 => (r13 = 0 ∨ r13 = 1) ∧ P r13 w14))))
def cf_M_readsWithin : Nat → Wd → (Int32 → Wd → Prop) → Prop
  | 0 => fun w P => False
  | n + 1 => fun w P => cf_M_readsWithin_E (cf_M_readsWithin n) w P
theorem cf_M_readsWithin_ok {g : ayG} : ∀ (n d : Nat) (hd : 13 * n + 4 ≤ d)   (w : Wd) (P : Int32 → Wd → Prop) (h : cf_M_readsWithin n w P), Call g y_M_readsWithin prog_14_method_106_code 1 (some FieldType.boolean) d [.ref (g.1 + 30)] w (fun (r : Option Value) (w2 : Wd) => ∃ x, r = some (.int x) ∧ P x w2)
  | 0, d, hd, w, P, h => False.elim h
  | n + 1, d, hd, w, P, h => by
    have h : cf_M_readsWithin_E (cf_M_readsWithin n) w P := h
    have hNR : ∀ (d2 : Nat) (hd2 : 13 * n + 4 ≤ d2)   (w : Wd) (P : Int32 → Wd → Prop) (h : (cf_M_readsWithin n) w P), Call g y_M_readsWithin prog_14_method_106_code 1 (some FieldType.boolean) d2 [.ref (g.1 + 30)] w (fun (r : Option Value) (w2 : Wd) => ∃ x, r = some (.int x) ∧ P x w2) := fun  d2 hd2 => cf_M_readsWithin_ok n d2 hd2 
    generalize cf_M_readsWithin n = NR at h hNR
    unfold cf_M_readsWithin_E at h
    refine am_enter mi_M_readsWithin (Nat.le_of_ble_eq_true rfl) ?_
    have hQ : ∀ x w2, P x w2 → (fun (r : Option Value) (w2 : Wd) => ∃ x, r = some (.int x) ∧ P x w2) (some (.int x)) w2 := fun x w2 h => ⟨x, rfl, h⟩
    generalize (fun (r : Option Value) (w2 : Wd) => ∃ x, r = some (.int x) ∧ P x w2) = Q at hQ ⊢
    show wp g (fun _ => True) y_M_readsWithin prog_14_method_106_code 1 (some FieldType.boolean) d 0 [(0, .ref (g.1 + 30))] [] w Q
    refine am_aload_n d_M_readsWithin_0 0 rfl ?_
    refine am_callV (C := y_M_nextByte.cls) (d2 := d - 1) [] d_M_readsWithin_1 mi_M_nextByte wd_1572 wd_1574 ws_M_nextByte (by decide) (el_M (show ay_sh 30 = _ from rfl)) rfl rfl (by omega) rfl rfl (Nat.le_of_ble_eq_true rfl) ?_
    refine Call.post ?_ (cf_M_nextByte_ok (by omega)   w _ h)
    rintro _ w2 ⟨r1, rfl, h⟩
    show wp g (fun _ => True) y_M_readsWithin prog_14_method_106_code 1 (some FieldType.boolean) d 4 [(0, .ref (g.1 + 30))] [.int r1] w2 Q
    refine am_bipush (v := 40) d_M_readsWithin_4 rfl ?_
    refine am_icmp_eq (tgt := 19) d_M_readsWithin_6 (by decide) (fun c6 => ?_) (fun c6 => ?_)
    · have h := h.1 c6
      refine am_aload_n d_M_readsWithin_19 0 rfl ?_
      refine am_getf (T := F_M) (fs := ob_M g w2 30) (C := R_M) (N := 35) (ci := 10) 28 d_M_readsWithin_20 wd_1105 rfl (by decide) (el_M (show ay_sh 30 = _ from rfl)) rfl i_M (by decide) rfl ?_
      refine am_bipush (v := 6) d_M_readsWithin_23 rfl ?_
      refine am_icmp_ne (tgt := 38) d_M_readsWithin_25 (by decide) (fun c25 => ?_) (fun c25 => ?_)
      · have h := h.1 c25
        refine am_aload_n d_M_readsWithin_38 0 rfl ?_
        refine am_getf (T := F_M) (fs := ob_M g w2 30) (C := R_M) (N := 35) (ci := 10) 29 d_M_readsWithin_39 wd_1106 rfl (by decide) (el_M (show ay_sh 30 = _ from rfl)) rfl i_M (by decide) rfl ?_
        refine am_aload_n d_M_readsWithin_42 0 rfl ?_
        refine am_getf (T := F_M) (fs := ob_M g w2 30) (C := R_M) (N := 35) (ci := 10) 28 d_M_readsWithin_43 wd_1105 rfl (by decide) (el_M (show ay_sh 30 = _ from rfl)) rfl i_M (by decide) rfl ?_
        refine am_aload_n d_M_readsWithin_46 0 rfl ?_
        refine am_getf (T := F_M) (fs := ob_M g w2 30) (C := R_M) (N := 35) (ci := 10) 22 d_M_readsWithin_47 wd_1099 rfl (by decide) (el_M (show ay_sh 30 = _ from rfl)) rfl i_M (by decide) rfl ?_
        have hi50 := h.1
        have h := h.2
        refine am_iastore d_M_readsWithin_50 (show ay_sh 44 = _ from rfl) hi50 ?_
        obtain ⟨w3, ew3⟩ : ∃ z, z = wI w2 44 (w2.1 30 28).toNatClampNeg (w2.1 30 22) := ⟨_, rfl⟩
        rw [← ew3]
        have h := h w3 ew3
        refine am_aload_n d_M_readsWithin_51 0 rfl ?_
        refine am_dup d_M_readsWithin_52 rfl ?_
        refine am_getf (T := F_M) (fs := ob_M g w3 30) (C := R_M) (N := 35) (ci := 10) 28 d_M_readsWithin_53 wd_1105 rfl (by decide) (el_M (show ay_sh 30 = _ from rfl)) rfl i_M (by decide) rfl ?_
        refine am_iconst (v := 1) d_M_readsWithin_56 rfl ?_
        refine am_iadd d_M_readsWithin_57 ?_
        refine am_putf (w' := wI w3 30 28 ((w3.1 30 28) + (1 : Int32))) (ty := .int) (T := F_M) (fs := ob_M g w3 30) (C := R_M) (N := 35) (ci := 10) 28 d_M_readsWithin_58 wd_1105 rfl (by decide) (el_M (show ay_sh 30 = _ from rfl)) rfl i_M (by decide) G_M ty_M n_M rfl (ty_M 28 (by decide)) rfl rfl (Nat.le_of_ble_eq_true rfl) ((el_M (show ay_sh 30 = _ from rfl)).trans (by rw [pf_M_open])) wI_o ?_
        obtain ⟨w4, ew4⟩ : ∃ z, z = wI w3 30 28 ((w3.1 30 28) + (1 : Int32)) := ⟨_, rfl⟩
        rw [← ew4]
        have h := h w4 ew4
        refine am_aload_n d_M_readsWithin_61 0 rfl ?_
        refine am_dup d_M_readsWithin_62 rfl ?_
        refine am_getf (T := F_M) (fs := ob_M g w4 30) (C := R_M) (N := 35) (ci := 10) 22 d_M_readsWithin_63 wd_1099 rfl (by decide) (el_M (show ay_sh 30 = _ from rfl)) rfl i_M (by decide) rfl ?_
        refine am_iconst (v := 1) d_M_readsWithin_66 rfl ?_
        refine am_iadd d_M_readsWithin_67 ?_
        refine am_putf (w' := wI w4 30 22 ((w4.1 30 22) + (1 : Int32))) (ty := .int) (T := F_M) (fs := ob_M g w4 30) (C := R_M) (N := 35) (ci := 10) 22 d_M_readsWithin_68 wd_1099 rfl (by decide) (el_M (show ay_sh 30 = _ from rfl)) rfl i_M (by decide) G_M ty_M n_M rfl (ty_M 22 (by decide)) rfl rfl (Nat.le_of_ble_eq_true rfl) ((el_M (show ay_sh 30 = _ from rfl)).trans (by rw [pf_M_spot])) wI_o ?_
        obtain ⟨w5, ew5⟩ : ∃ z, z = wI w4 30 22 ((w4.1 30 22) + (1 : Int32)) := ⟨_, rfl⟩
        rw [← ew5]
        have h := h w5 ew5
        refine am_aload_n d_M_readsWithin_71 0 rfl ?_
        refine am_callV (C := y_M_readsSum.cls) (d2 := d - 1) [] d_M_readsWithin_72 mi_M_readsSum wd_1594 wd_1596 ws_M_readsSum (by decide) (el_M (show ay_sh 30 = _ from rfl)) rfl rfl (by omega) rfl rfl (Nat.le_of_ble_eq_true rfl) ?_
        refine Call.post ?_ (cf_M_readsSum_ok _ hNR (by omega)   w5 _ h)
        rintro _ w7 ⟨r6, rfl, h⟩
        show wp g (fun _ => True) y_M_readsWithin prog_14_method_106_code 1 (some FieldType.boolean) d 75 [(0, .ref (g.1 + 30))] [.int r6] w7 Q
        refine am_if_eq (tgt := 87) d_M_readsWithin_75 (by decide) (fun c75 => ?_) (fun c75 => ?_)
        · have h := h.1 c75
          refine am_iconst (v := 0) d_M_readsWithin_87 rfl ?_
          exact am_ireturn d_M_readsWithin_88 rfl rfl (hQ (0 : Int32) w7 h)
        · have h := h.2 c75
          refine am_aload_n d_M_readsWithin_78 0 rfl ?_
          refine am_bipush (v := 41) d_M_readsWithin_79 rfl ?_
          refine am_callV (C := y_M_mustSign.cls) (d2 := d - 1) [.int (41 : Int32)] d_M_readsWithin_81 mi_M_mustSign wd_1586 wd_1588 ws_M_mustSign (by decide) (el_M (show ay_sh 30 = _ from rfl)) rfl rfl (by omega) rfl rfl (Nat.le_of_ble_eq_true rfl) ?_
          refine Call.post ?_ (cf_M_mustSign_ok (by omega) (41 : Int32)  w7 _ h)
          rintro _ w9 ⟨r8, rfl, h⟩
          show wp g (fun _ => True) y_M_readsWithin prog_14_method_106_code 1 (some FieldType.boolean) d 84 [(0, .ref (g.1 + 30))] [.int r8] w9 Q
          refine am_if_ne (tgt := 89) d_M_readsWithin_84 (by decide) (fun c84 => ?_) (fun c84 => ?_)
          · have h := h.1 c84
            refine am_aload_n d_M_readsWithin_89 0 rfl ?_
            refine am_dup d_M_readsWithin_90 rfl ?_
            refine am_getf (T := F_M) (fs := ob_M g w9 30) (C := R_M) (N := 35) (ci := 10) 28 d_M_readsWithin_91 wd_1105 rfl (by decide) (el_M (show ay_sh 30 = _ from rfl)) rfl i_M (by decide) rfl ?_
            refine am_iconst (v := 1) d_M_readsWithin_94 rfl ?_
            refine am_isub d_M_readsWithin_95 ?_
            refine am_putf (w' := wI w9 30 28 ((w9.1 30 28) - (1 : Int32))) (ty := .int) (T := F_M) (fs := ob_M g w9 30) (C := R_M) (N := 35) (ci := 10) 28 d_M_readsWithin_96 wd_1105 rfl (by decide) (el_M (show ay_sh 30 = _ from rfl)) rfl i_M (by decide) G_M ty_M n_M rfl (ty_M 28 (by decide)) rfl rfl (Nat.le_of_ble_eq_true rfl) ((el_M (show ay_sh 30 = _ from rfl)).trans (by rw [pf_M_open])) wI_o ?_
            obtain ⟨w10, ew10⟩ : ∃ z, z = wI w9 30 28 ((w9.1 30 28) - (1 : Int32)) := ⟨_, rfl⟩
            rw [← ew10]
            have h := h w10 ew10
            refine am_iconst (v := 1) d_M_readsWithin_99 rfl ?_
            exact am_ireturn d_M_readsWithin_100 rfl rfl (hQ (1 : Int32) w10 h)
          · have h := h.2 c84
            refine am_iconst (v := 0) d_M_readsWithin_87 rfl ?_
            exact am_ireturn d_M_readsWithin_88 rfl rfl (hQ (0 : Int32) w9 h)
      · have h := h.2 c25
        refine am_aload_n d_M_readsWithin_28 0 rfl ?_
        refine am_iconst (v := 4) d_M_readsWithin_29 rfl ?_
        refine am_aload_n d_M_readsWithin_30 0 rfl ?_
        refine am_getf (T := F_M) (fs := ob_M g w2 30) (C := R_M) (N := 35) (ci := 10) 22 d_M_readsWithin_31 wd_1099 rfl (by decide) (el_M (show ay_sh 30 = _ from rfl)) rfl i_M (by decide) rfl ?_
        refine am_callV (C := y_M_fails.cls) (d2 := d - 1) [.int (4 : Int32), .int (w2.1 30 22)] d_M_readsWithin_34 mi_M_fails wd_1582 wd_1584 ws_M_fails (by decide) (el_M (show ay_sh 30 = _ from rfl)) rfl rfl (by omega) rfl rfl (Nat.le_of_ble_eq_true rfl) ?_
        refine Call.post ?_ (cf_M_fails_ok (by omega) (4 : Int32) (w2.1 30 22)  w2 _ h)
        rintro _ w12 ⟨r11, rfl, h⟩
        show wp g (fun _ => True) y_M_readsWithin prog_14_method_106_code 1 (some FieldType.boolean) d 37 [(0, .ref (g.1 + 30))] [.int r11] w12 Q
        exact am_ireturn d_M_readsWithin_37 rfl (ay_nb h.1) (hQ r11 w12 h.2)
    · have h := h.2 c6
      refine am_aload_n d_M_readsWithin_9 0 rfl ?_
      refine am_iconst (v := 1) d_M_readsWithin_10 rfl ?_
      refine am_aload_n d_M_readsWithin_11 0 rfl ?_
      refine am_getf (T := F_M) (fs := ob_M g w2 30) (C := R_M) (N := 35) (ci := 10) 22 d_M_readsWithin_12 wd_1099 rfl (by decide) (el_M (show ay_sh 30 = _ from rfl)) rfl i_M (by decide) rfl ?_
      refine am_callV (C := y_M_fails.cls) (d2 := d - 1) [.int (1 : Int32), .int (w2.1 30 22)] d_M_readsWithin_15 mi_M_fails wd_1582 wd_1584 ws_M_fails (by decide) (el_M (show ay_sh 30 = _ from rfl)) rfl rfl (by omega) rfl rfl (Nat.le_of_ble_eq_true rfl) ?_
      refine Call.post ?_ (cf_M_fails_ok (by omega) (1 : Int32) (w2.1 30 22)  w2 _ h)
      rintro _ w14 ⟨r13, rfl, h⟩
      show wp g (fun _ => True) y_M_readsWithin prog_14_method_106_code 1 (some FieldType.boolean) d 18 [(0, .ref (g.1 + 30))] [.int r13] w14 Q
      exact am_ireturn d_M_readsWithin_18 rfl (ay_nb h.1) (hQ r13 w14 h.2)
def cf_M_readsWithin_W  (w : Wd) (P : Int32 → Wd → Prop) : Prop := ∃ n, n ≤ 8 ∧ cf_M_readsWithin n w P
theorem cf_M_readsWithin_W_ok {g : ayG} {d : Nat} (hd : 108 ≤ d)   (w : Wd) (P : Int32 → Wd → Prop) (h : cf_M_readsWithin_W w P) : Call g y_M_readsWithin prog_14_method_106_code 1 (some FieldType.boolean) d [.ref (g.1 + 30)] w (fun (r : Option Value) (w2 : Wd) => ∃ x, r = some (.int x) ∧ P x w2) := by
  obtain ⟨n, hn, h⟩ := h
  exact cf_M_readsWithin_ok n d (by omega)   w P h
def cf_M_readsSum_W  (w : Wd) (P : Int32 → Wd → Prop) : Prop := ∃ n, n ≤ 8 ∧ cf_M_readsSum (cf_M_readsWithin n) w P
theorem cf_M_readsSum_W_ok {g : ayG} {d : Nat} (hd : 120 ≤ d)   (w : Wd) (P : Int32 → Wd → Prop) (h : cf_M_readsSum_W w P) : Call g y_M_readsSum prog_14_method_114_code 3 (some FieldType.boolean) d [.ref (g.1 + 30)] w (fun (r : Option Value) (w2 : Wd) => ∃ x, r = some (.int x) ∧ P x w2) := by
  obtain ⟨n, hn, h⟩ := h
  exact cf_M_readsSum_ok (13 * n + 4) (fun d2 hd2 => cf_M_readsWithin_ok n d2 hd2) (by omega)   w P h
theorem d_M_readsStatement_0 : decode prog_14_method_115_code 0 = .ok (.aload_n 0, 1) := by decide +kernel
theorem d_M_readsStatement_1 : decode prog_14_method_115_code 1 = .ok (.iconst 0, 1) := by decide +kernel
theorem d_M_readsStatement_2 : decode prog_14_method_115_code 2 = .ok (.bipush 9, 2) := by decide +kernel
theorem d_M_readsStatement_4 : decode prog_14_method_115_code 4 = .ok (.invokevirtual 366, 3) := by decide +kernel
theorem d_M_readsStatement_7 : decode prog_14_method_115_code 7 = .ok (.ifCond .ne 5, 3) := by decide +kernel
theorem d_M_readsStatement_10 : decode prog_14_method_115_code 10 = .ok (.iconst 0, 1) := by decide +kernel
theorem d_M_readsStatement_11 : decode prog_14_method_115_code 11 = .ok (.ireturn, 1) := by decide +kernel
theorem d_M_readsStatement_12 : decode prog_14_method_115_code 12 = .ok (.aload_n 0, 1) := by decide +kernel
theorem d_M_readsStatement_13 : decode prog_14_method_115_code 13 = .ok (.getfield 357, 3) := by decide +kernel
theorem d_M_readsStatement_16 : decode prog_14_method_115_code 16 = .ok (.istore_n 1, 1) := by decide +kernel
theorem d_M_readsStatement_17 : decode prog_14_method_115_code 17 = .ok (.aload_n 0, 1) := by decide +kernel
theorem d_M_readsStatement_18 : decode prog_14_method_115_code 18 = .ok (.bipush 61, 2) := by decide +kernel
theorem d_M_readsStatement_20 : decode prog_14_method_115_code 20 = .ok (.invokevirtual 363, 3) := by decide +kernel
theorem d_M_readsStatement_23 : decode prog_14_method_115_code 23 = .ok (.ifCond .eq 10, 3) := by decide +kernel
theorem d_M_readsStatement_26 : decode prog_14_method_115_code 26 = .ok (.aload_n 0, 1) := by decide +kernel
theorem d_M_readsStatement_27 : decode prog_14_method_115_code 27 = .ok (.invokevirtual 360, 3) := by decide +kernel
theorem d_M_readsStatement_30 : decode prog_14_method_115_code 30 = .ok (.ifCond .ne 5, 3) := by decide +kernel
theorem d_M_readsStatement_33 : decode prog_14_method_115_code 33 = .ok (.iconst 0, 1) := by decide +kernel
theorem d_M_readsStatement_34 : decode prog_14_method_115_code 34 = .ok (.ireturn, 1) := by decide +kernel
theorem d_M_readsStatement_35 : decode prog_14_method_115_code 35 = .ok (.aload_n 0, 1) := by decide +kernel
theorem d_M_readsStatement_36 : decode prog_14_method_115_code 36 = .ok (.getfield 68, 3) := by decide +kernel
theorem d_M_readsStatement_39 : decode prog_14_method_115_code 39 = .ok (.iload_n 1, 1) := by decide +kernel
theorem d_M_readsStatement_40 : decode prog_14_method_115_code 40 = .ok (.aload_n 0, 1) := by decide +kernel
theorem d_M_readsStatement_41 : decode prog_14_method_115_code 41 = .ok (.getfield 369, 3) := by decide +kernel
theorem d_M_readsStatement_44 : decode prog_14_method_115_code 44 = .ok (.lastore, 1) := by decide +kernel
theorem d_M_readsStatement_45 : decode prog_14_method_115_code 45 = .ok (.iconst 1, 1) := by decide +kernel
theorem d_M_readsStatement_46 : decode prog_14_method_115_code 46 = .ok (.ireturn, 1) := by decide +kernel
def cf_M_readsStatement  (w : Wd) (P : Int32 → Wd → Prop) : Prop :=
  cf_M_readsNumber (0 : Int32) (9 : Int32) w (fun r1 w2 => ((¬ r1 = 0 → ∀ v3, v3 = w2.1 30 26 → cf_M_mustSign (61 : Int32) w2 (fun r4 w5 => ((r4 = 0 → P (0 : Int32) w5) ∧ (¬ r4 = 0 → cf_M_readsSum_W  w5 (fun r6 w7 => ((¬ r6 = 0 → vp_in v3 10 ∧ ∀ w8, w8 = wL w7 45 v3.toNatClampNeg (w7.2 30 30) → P (1 : Int32) w8) ∧ (r6 = 0 → P (0 : Int32) w7))))))) ∧ (r1 = 0 → P (0 : Int32) w2)))
theorem cf_M_readsStatement_ok {g : ayG} {d : Nat} (hd : 121 ≤ d)   (w : Wd) (P : Int32 → Wd → Prop) (h : cf_M_readsStatement w P) : Call g y_M_readsStatement prog_14_method_115_code 2 (some FieldType.boolean) d [.ref (g.1 + 30)] w (fun (r : Option Value) (w2 : Wd) => ∃ x, r = some (.int x) ∧ P x w2) := by
  unfold cf_M_readsStatement at h
  refine am_enter mi_M_readsStatement (Nat.le_of_ble_eq_true rfl) ?_
  have hQ : ∀ x w2, P x w2 → (fun (r : Option Value) (w2 : Wd) => ∃ x, r = some (.int x) ∧ P x w2) (some (.int x)) w2 := fun x w2 h => ⟨x, rfl, h⟩
  generalize (fun (r : Option Value) (w2 : Wd) => ∃ x, r = some (.int x) ∧ P x w2) = Q at hQ ⊢
  show wp g (fun _ => True) y_M_readsStatement prog_14_method_115_code 2 (some FieldType.boolean) d 0 [(0, .ref (g.1 + 30))] [] w Q
  refine am_aload_n d_M_readsStatement_0 0 rfl ?_
  refine am_iconst (v := 0) d_M_readsStatement_1 rfl ?_
  refine am_bipush (v := 9) d_M_readsStatement_2 rfl ?_
  refine am_callV (C := y_M_readsNumber.cls) (d2 := d - 1) [.int (0 : Int32), .int (9 : Int32)] d_M_readsStatement_4 mi_M_readsNumber wd_1564 wd_1566 ws_M_readsNumber (by decide) (el_M (show ay_sh 30 = _ from rfl)) rfl rfl (by omega) rfl rfl (Nat.le_of_ble_eq_true rfl) ?_
  refine Call.post ?_ (cf_M_readsNumber_ok (by omega) (0 : Int32) (9 : Int32)  w _ h)
  rintro _ w2 ⟨r1, rfl, h⟩
  show wp g (fun _ => True) y_M_readsStatement prog_14_method_115_code 2 (some FieldType.boolean) d 7 [(0, .ref (g.1 + 30))] [.int r1] w2 Q
  refine am_if_ne (tgt := 12) d_M_readsStatement_7 (by decide) (fun c7 => ?_) (fun c7 => ?_)
  · have h := h.1 c7
    refine am_aload_n d_M_readsStatement_12 0 rfl ?_
    refine am_getf (T := F_M) (fs := ob_M g w2 30) (C := R_M) (N := 35) (ci := 10) 26 d_M_readsStatement_13 wd_1103 rfl (by decide) (el_M (show ay_sh 30 = _ from rfl)) rfl i_M (by decide) rfl ?_
    refine am_topi (fun v3 ev3 => ?_)
    have h := h v3 ev3
    refine am_istore_n (l' := [(1, .int v3), (0, .ref (g.1 + 30))]) d_M_readsStatement_16 (by decide) rfl ?_
    refine am_aload_n d_M_readsStatement_17 1 rfl ?_
    refine am_bipush (v := 61) d_M_readsStatement_18 rfl ?_
    refine am_callV (C := y_M_mustSign.cls) (d2 := d - 1) [.int (61 : Int32)] d_M_readsStatement_20 mi_M_mustSign wd_1586 wd_1588 ws_M_mustSign (by decide) (el_M (show ay_sh 30 = _ from rfl)) rfl rfl (by omega) rfl rfl (Nat.le_of_ble_eq_true rfl) ?_
    refine Call.post ?_ (cf_M_mustSign_ok (by omega) (61 : Int32)  w2 _ h)
    rintro _ w5 ⟨r4, rfl, h⟩
    show wp g (fun _ => True) y_M_readsStatement prog_14_method_115_code 2 (some FieldType.boolean) d 23 [(1, .int v3), (0, .ref (g.1 + 30))] [.int r4] w5 Q
    refine am_if_eq (tgt := 33) d_M_readsStatement_23 (by decide) (fun c23 => ?_) (fun c23 => ?_)
    · have h := h.1 c23
      refine am_iconst (v := 0) d_M_readsStatement_33 rfl ?_
      exact am_ireturn d_M_readsStatement_34 rfl rfl (hQ (0 : Int32) w5 h)
    · have h := h.2 c23
      refine am_aload_n d_M_readsStatement_26 1 rfl ?_
      refine am_callV (C := y_M_readsSum.cls) (d2 := d - 1) [] d_M_readsStatement_27 mi_M_readsSum wd_1594 wd_1596 ws_M_readsSum (by decide) (el_M (show ay_sh 30 = _ from rfl)) rfl rfl (by omega) rfl rfl (Nat.le_of_ble_eq_true rfl) ?_
      refine Call.post ?_ (cf_M_readsSum_W_ok (by omega)   w5 _ h)
      rintro _ w7 ⟨r6, rfl, h⟩
      show wp g (fun _ => True) y_M_readsStatement prog_14_method_115_code 2 (some FieldType.boolean) d 30 [(1, .int v3), (0, .ref (g.1 + 30))] [.int r6] w7 Q
      refine am_if_ne (tgt := 35) d_M_readsStatement_30 (by decide) (fun c30 => ?_) (fun c30 => ?_)
      · have h := h.1 c30
        refine am_aload_n d_M_readsStatement_35 1 rfl ?_
        refine am_getf (T := F_M) (fs := ob_M g w7 30) (C := R_M) (N := 35) (ci := 10) 31 d_M_readsStatement_36 wd_1108 rfl (by decide) (el_M (show ay_sh 30 = _ from rfl)) rfl i_M (by decide) rfl ?_
        refine am_iload_n d_M_readsStatement_39 0 rfl ?_
        refine am_aload_n d_M_readsStatement_40 1 rfl ?_
        refine am_getf (T := F_M) (fs := ob_M g w7 30) (C := R_M) (N := 35) (ci := 10) 30 d_M_readsStatement_41 wd_1107 rfl (by decide) (el_M (show ay_sh 30 = _ from rfl)) rfl i_M (by decide) rfl ?_
        have hi44 := h.1
        have h := h.2
        refine am_lastore d_M_readsStatement_44 (show ay_sh 45 = _ from rfl) hi44 ?_
        obtain ⟨w8, ew8⟩ : ∃ z, z = wL w7 45 v3.toNatClampNeg (w7.2 30 30) := ⟨_, rfl⟩
        rw [← ew8]
        have h := h w8 ew8
        refine am_iconst (v := 1) d_M_readsStatement_45 rfl ?_
        exact am_ireturn d_M_readsStatement_46 rfl rfl (hQ (1 : Int32) w8 h)
      · have h := h.2 c30
        refine am_iconst (v := 0) d_M_readsStatement_33 rfl ?_
        exact am_ireturn d_M_readsStatement_34 rfl rfl (hQ (0 : Int32) w7 h)
  · have h := h.2 c7
    refine am_iconst (v := 0) d_M_readsStatement_10 rfl ?_
    exact am_ireturn d_M_readsStatement_11 rfl rfl (hQ (0 : Int32) w2 h)
theorem d_M_readsAll_0 : decode prog_14_method_116_code 0 = .ok (.iconst 0, 1) := by decide +kernel
theorem d_M_readsAll_1 : decode prog_14_method_116_code 1 = .ok (.istore_n 1, 1) := by decide +kernel
theorem d_M_readsAll_2 : decode prog_14_method_116_code 2 = .ok (.iload_n 1, 1) := by decide +kernel
theorem d_M_readsAll_3 : decode prog_14_method_116_code 3 = .ok (.bipush 10, 2) := by decide +kernel
theorem d_M_readsAll_5 : decode prog_14_method_116_code 5 = .ok (.if_icmp .ge 21, 3) := by decide +kernel
theorem d_M_readsAll_8 : decode prog_14_method_116_code 8 = .ok (.aload_n 0, 1) := by decide +kernel
theorem d_M_readsAll_9 : decode prog_14_method_116_code 9 = .ok (.getfield 68, 3) := by decide +kernel
theorem d_M_readsAll_12 : decode prog_14_method_116_code 12 = .ok (.iload_n 1, 1) := by decide +kernel
theorem d_M_readsAll_13 : decode prog_14_method_116_code 13 = .ok (.aload_n 0, 1) := by decide +kernel
theorem d_M_readsAll_14 : decode prog_14_method_116_code 14 = .ok (.getfield 7, 3) := by decide +kernel
theorem d_M_readsAll_17 : decode prog_14_method_116_code 17 = .ok (.iload_n 1, 1) := by decide +kernel
theorem d_M_readsAll_18 : decode prog_14_method_116_code 18 = .ok (.laload, 1) := by decide +kernel
theorem d_M_readsAll_19 : decode prog_14_method_116_code 19 = .ok (.lastore, 1) := by decide +kernel
theorem d_M_readsAll_20 : decode prog_14_method_116_code 20 = .ok (.iinc 1 1, 3) := by decide +kernel
theorem d_M_readsAll_23 : decode prog_14_method_116_code 23 = .ok (.goto (-21), 3) := by decide +kernel
theorem d_M_readsAll_26 : decode prog_14_method_116_code 26 = .ok (.aload_n 0, 1) := by decide +kernel
theorem d_M_readsAll_27 : decode prog_14_method_116_code 27 = .ok (.iconst 0, 1) := by decide +kernel
theorem d_M_readsAll_28 : decode prog_14_method_116_code 28 = .ok (.putfield 309, 3) := by decide +kernel
theorem d_M_readsAll_31 : decode prog_14_method_116_code 31 = .ok (.aload_n 0, 1) := by decide +kernel
theorem d_M_readsAll_32 : decode prog_14_method_116_code 32 = .ok (.iconst 0, 1) := by decide +kernel
theorem d_M_readsAll_33 : decode prog_14_method_116_code 33 = .ok (.putfield 315, 3) := by decide +kernel
theorem d_M_readsAll_36 : decode prog_14_method_116_code 36 = .ok (.aload_n 0, 1) := by decide +kernel
theorem d_M_readsAll_37 : decode prog_14_method_116_code 37 = .ok (.iconst 0, 1) := by decide +kernel
theorem d_M_readsAll_38 : decode prog_14_method_116_code 38 = .ok (.putfield 414, 3) := by decide +kernel
theorem d_M_readsAll_41 : decode prog_14_method_116_code 41 = .ok (.iconst 1, 1) := by decide +kernel
theorem d_M_readsAll_42 : decode prog_14_method_116_code 42 = .ok (.istore_n 1, 1) := by decide +kernel
theorem d_M_readsAll_43 : decode prog_14_method_116_code 43 = .ok (.iload_n 1, 1) := by decide +kernel
theorem d_M_readsAll_44 : decode prog_14_method_116_code 44 = .ok (.ifCond .eq 32, 3) := by decide +kernel
theorem d_M_readsAll_47 : decode prog_14_method_116_code 47 = .ok (.aload_n 0, 1) := by decide +kernel
theorem d_M_readsAll_48 : decode prog_14_method_116_code 48 = .ok (.invokevirtual 417, 3) := by decide +kernel
theorem d_M_readsAll_51 : decode prog_14_method_116_code 51 = .ok (.ifCond .ne 5, 3) := by decide +kernel
theorem d_M_readsAll_54 : decode prog_14_method_116_code 54 = .ok (.iconst 0, 1) := by decide +kernel
theorem d_M_readsAll_55 : decode prog_14_method_116_code 55 = .ok (.ireturn, 1) := by decide +kernel
theorem d_M_readsAll_56 : decode prog_14_method_116_code 56 = .ok (.aload_n 0, 1) := by decide +kernel
theorem d_M_readsAll_57 : decode prog_14_method_116_code 57 = .ok (.dup, 1) := by decide +kernel
theorem d_M_readsAll_58 : decode prog_14_method_116_code 58 = .ok (.getfield 414, 3) := by decide +kernel
theorem d_M_readsAll_61 : decode prog_14_method_116_code 61 = .ok (.iconst 1, 1) := by decide +kernel
theorem d_M_readsAll_62 : decode prog_14_method_116_code 62 = .ok (.iadd, 1) := by decide +kernel
theorem d_M_readsAll_63 : decode prog_14_method_116_code 63 = .ok (.putfield 414, 3) := by decide +kernel
theorem d_M_readsAll_66 : decode prog_14_method_116_code 66 = .ok (.aload_n 0, 1) := by decide +kernel
theorem d_M_readsAll_67 : decode prog_14_method_116_code 67 = .ok (.bipush 59, 2) := by decide +kernel
theorem d_M_readsAll_69 : decode prog_14_method_116_code 69 = .ok (.invokevirtual 341, 3) := by decide +kernel
theorem d_M_readsAll_72 : decode prog_14_method_116_code 72 = .ok (.istore_n 1, 1) := by decide +kernel
theorem d_M_readsAll_73 : decode prog_14_method_116_code 73 = .ok (.goto (-30), 3) := by decide +kernel
theorem d_M_readsAll_76 : decode prog_14_method_116_code 76 = .ok (.aload_n 0, 1) := by decide +kernel
theorem d_M_readsAll_77 : decode prog_14_method_116_code 77 = .ok (.invokevirtual 321, 3) := by decide +kernel
theorem d_M_readsAll_80 : decode prog_14_method_116_code 80 = .ok (.iconst (-1), 1) := by decide +kernel
theorem d_M_readsAll_81 : decode prog_14_method_116_code 81 = .ok (.if_icmp .eq 15, 3) := by decide +kernel
theorem d_M_readsAll_84 : decode prog_14_method_116_code 84 = .ok (.aload_n 0, 1) := by decide +kernel
theorem d_M_readsAll_85 : decode prog_14_method_116_code 85 = .ok (.iconst 1, 1) := by decide +kernel
theorem d_M_readsAll_86 : decode prog_14_method_116_code 86 = .ok (.aload_n 0, 1) := by decide +kernel
theorem d_M_readsAll_87 : decode prog_14_method_116_code 87 = .ok (.getfield 309, 3) := by decide +kernel
theorem d_M_readsAll_90 : decode prog_14_method_116_code 90 = .ok (.invokevirtual 344, 3) := by decide +kernel
theorem d_M_readsAll_93 : decode prog_14_method_116_code 93 = .ok (.ifCond .eq 7, 3) := by decide +kernel
theorem d_M_readsAll_96 : decode prog_14_method_116_code 96 = .ok (.iconst 1, 1) := by decide +kernel
theorem d_M_readsAll_97 : decode prog_14_method_116_code 97 = .ok (.goto 4, 3) := by decide +kernel
theorem d_M_readsAll_100 : decode prog_14_method_116_code 100 = .ok (.iconst 0, 1) := by decide +kernel
theorem d_M_readsAll_101 : decode prog_14_method_116_code 101 = .ok (.ireturn, 1) := by decide +kernel
def cf_M_readsAll_B43  (K43 : Int32 → Wd → Prop) (P : Int32 → Wd → Prop) (x1 : Int32) (w : Wd) : Prop :=
  ((x1 = 0 → cf_M_nextByte  w (fun r4 w5 => ((r4 = (-1 : Int32) → P (1 : Int32) w5) ∧ (¬ r4 = (-1 : Int32) → cf_M_fails (1 : Int32) (w5.1 30 22) w5 (fun r6 w7 => ((r6 = 0 → P (0 : Int32) w7) ∧ (¬ r6 = 0 → P (1 : Int32) w7))))))) ∧ (¬ x1 = 0 → cf_M_readsStatement  w (fun r8 w9 => ((¬ r8 = 0 → ∀ w10, w10 = wI w9 30 32 ((w9.1 30 32) + (1 : Int32)) → cf_M_takesSign (59 : Int32) w10 (fun r11 w12 => K43 r11 w12)) ∧ (r8 = 0 → P (0 : Int32) w9)))))
def cf_M_readsAll_L43   (P : Int32 → Wd → Prop) : Nat → Int32 → Wd → Prop
  | 0 => fun x1 w => False
  | n + 1 => fun x1 w => cf_M_readsAll_B43 (cf_M_readsAll_L43 P n) P x1 w
def cf_M_readsAll_B2  (K2 : Int32 → Wd → Prop) (P : Int32 → Wd → Prop) (x1 : Int32) (w : Wd) : Prop :=
  (((10 : Int32) ≤ x1 → ∀ w1, w1 = wI w 30 22 (0 : Int32) → ∀ w2, w2 = wI w1 30 28 (0 : Int32) → ∀ w3, w3 = wI w2 30 32 (0 : Int32) → ∃ n, cf_M_readsAll_L43 P n (1 : Int32) w3) ∧ (¬ (10 : Int32) ≤ x1 → vp_in x1 14 ∧ vp_in x1 10 ∧ ∀ w13, w13 = wL w 45 x1.toNatClampNeg (w.2 31 x1.toNatClampNeg) → ∀ v14, v14 = x1 + (1 : Int32) → K2 v14 w13))
def cf_M_readsAll_L2   (P : Int32 → Wd → Prop) : Nat → Int32 → Wd → Prop
  | 0 => fun x1 w => False
  | n + 1 => fun x1 w => cf_M_readsAll_B2 (cf_M_readsAll_L2 P n) P x1 w
def cf_M_readsAll  (w : Wd) (P : Int32 → Wd → Prop) : Prop :=
  ∃ n, cf_M_readsAll_L2 P n (0 : Int32) w
theorem cf_M_readsAll_B43_ok {g : ayG} {d : Nat} (hd : 122 ≤ d)   (w : Wd) (K43 : Int32 → Wd → Prop) (P : Int32 → Wd → Prop) (Q : Option Value → Wd → Prop) (hQ : ∀ x w2, P x w2 → Q (some (.int x)) w2) (hK43 : ∀ (x1 : Int32) (w : Wd), (K43 x1 w → wp g (fun _ => True) y_M_readsAll prog_14_method_116_code 2 (some FieldType.boolean) d 43 [(0, .ref (g.1 + 30)), (1, .int x1)] [] w Q)) (x1 : Int32) (h : cf_M_readsAll_B43 K43 P x1 w) : wp g (fun _ => True) y_M_readsAll prog_14_method_116_code 2 (some FieldType.boolean) d 43 [(0, .ref (g.1 + 30)), (1, .int x1)] [] w Q := by
  unfold cf_M_readsAll_B43 at h
  refine am_iload_n d_M_readsAll_43 1 rfl ?_
  refine am_if_eq (tgt := 76) d_M_readsAll_44 (by decide) (fun c44 => ?_) (fun c44 => ?_)
  · have h := h.1 c44
    refine am_aload_n d_M_readsAll_76 0 rfl ?_
    refine am_callV (C := y_M_nextByte.cls) (d2 := d - 1) [] d_M_readsAll_77 mi_M_nextByte wd_1572 wd_1574 ws_M_nextByte (by decide) (el_M (show ay_sh 30 = _ from rfl)) rfl rfl (by omega) rfl rfl (Nat.le_of_ble_eq_true rfl) ?_
    refine Call.post ?_ (cf_M_nextByte_ok (by omega)   w _ h)
    rintro _ w5 ⟨r4, rfl, h⟩
    show wp g (fun _ => True) y_M_readsAll prog_14_method_116_code 2 (some FieldType.boolean) d 80 [(0, .ref (g.1 + 30)), (1, .int x1)] [.int r4] w5 Q
    refine am_iconst (v := -1) d_M_readsAll_80 rfl ?_
    refine am_icmp_eq (tgt := 96) d_M_readsAll_81 (by decide) (fun c81 => ?_) (fun c81 => ?_)
    · have h := h.1 c81
      refine am_iconst (v := 1) d_M_readsAll_96 rfl ?_
      refine am_goto (tgt := 101) d_M_readsAll_97 (by decide) ?_
      exact am_ireturn d_M_readsAll_101 rfl rfl (hQ (1 : Int32) w5 h)
    · have h := h.2 c81
      refine am_aload_n d_M_readsAll_84 0 rfl ?_
      refine am_iconst (v := 1) d_M_readsAll_85 rfl ?_
      refine am_aload_n d_M_readsAll_86 0 rfl ?_
      refine am_getf (T := F_M) (fs := ob_M g w5 30) (C := R_M) (N := 35) (ci := 10) 22 d_M_readsAll_87 wd_1099 rfl (by decide) (el_M (show ay_sh 30 = _ from rfl)) rfl i_M (by decide) rfl ?_
      refine am_callV (C := y_M_fails.cls) (d2 := d - 1) [.int (1 : Int32), .int (w5.1 30 22)] d_M_readsAll_90 mi_M_fails wd_1582 wd_1584 ws_M_fails (by decide) (el_M (show ay_sh 30 = _ from rfl)) rfl rfl (by omega) rfl rfl (Nat.le_of_ble_eq_true rfl) ?_
      refine Call.post ?_ (cf_M_fails_ok (by omega) (1 : Int32) (w5.1 30 22)  w5 _ h)
      rintro _ w7 ⟨r6, rfl, h⟩
      show wp g (fun _ => True) y_M_readsAll prog_14_method_116_code 2 (some FieldType.boolean) d 93 [(0, .ref (g.1 + 30)), (1, .int x1)] [.int r6] w7 Q
      refine am_if_eq (tgt := 100) d_M_readsAll_93 (by decide) (fun c93 => ?_) (fun c93 => ?_)
      · have h := h.1 c93
        refine am_iconst (v := 0) d_M_readsAll_100 rfl ?_
        exact am_ireturn d_M_readsAll_101 rfl rfl (hQ (0 : Int32) w7 h)
      · have h := h.2 c93
        refine am_iconst (v := 1) d_M_readsAll_96 rfl ?_
        refine am_goto (tgt := 101) d_M_readsAll_97 (by decide) ?_
        exact am_ireturn d_M_readsAll_101 rfl rfl (hQ (1 : Int32) w7 h)
  · have h := h.2 c44
    refine am_aload_n d_M_readsAll_47 0 rfl ?_
    refine am_callV (C := y_M_readsStatement.cls) (d2 := d - 1) [] d_M_readsAll_48 mi_M_readsStatement wd_1560 wd_1562 ws_M_readsStatement (by decide) (el_M (show ay_sh 30 = _ from rfl)) rfl rfl (by omega) rfl rfl (Nat.le_of_ble_eq_true rfl) ?_
    refine Call.post ?_ (cf_M_readsStatement_ok (by omega)   w _ h)
    rintro _ w9 ⟨r8, rfl, h⟩
    show wp g (fun _ => True) y_M_readsAll prog_14_method_116_code 2 (some FieldType.boolean) d 51 [(0, .ref (g.1 + 30)), (1, .int x1)] [.int r8] w9 Q
    refine am_if_ne (tgt := 56) d_M_readsAll_51 (by decide) (fun c51 => ?_) (fun c51 => ?_)
    · have h := h.1 c51
      refine am_aload_n d_M_readsAll_56 0 rfl ?_
      refine am_dup d_M_readsAll_57 rfl ?_
      refine am_getf (T := F_M) (fs := ob_M g w9 30) (C := R_M) (N := 35) (ci := 10) 32 d_M_readsAll_58 wd_1109 rfl (by decide) (el_M (show ay_sh 30 = _ from rfl)) rfl i_M (by decide) rfl ?_
      refine am_iconst (v := 1) d_M_readsAll_61 rfl ?_
      refine am_iadd d_M_readsAll_62 ?_
      refine am_putf (w' := wI w9 30 32 ((w9.1 30 32) + (1 : Int32))) (ty := .int) (T := F_M) (fs := ob_M g w9 30) (C := R_M) (N := 35) (ci := 10) 32 d_M_readsAll_63 wd_1109 rfl (by decide) (el_M (show ay_sh 30 = _ from rfl)) rfl i_M (by decide) G_M ty_M n_M rfl (ty_M 32 (by decide)) rfl rfl (Nat.le_of_ble_eq_true rfl) ((el_M (show ay_sh 30 = _ from rfl)).trans (by rw [pf_M_statements])) wI_o ?_
      obtain ⟨w10, ew10⟩ : ∃ z, z = wI w9 30 32 ((w9.1 30 32) + (1 : Int32)) := ⟨_, rfl⟩
      rw [← ew10]
      have h := h w10 ew10
      refine am_aload_n d_M_readsAll_66 0 rfl ?_
      refine am_bipush (v := 59) d_M_readsAll_67 rfl ?_
      refine am_callV (C := y_M_takesSign.cls) (d2 := d - 1) [.int (59 : Int32)] d_M_readsAll_69 mi_M_takesSign wd_1590 wd_1592 ws_M_takesSign (by decide) (el_M (show ay_sh 30 = _ from rfl)) rfl rfl (by omega) rfl rfl (Nat.le_of_ble_eq_true rfl) ?_
      refine Call.post ?_ (cf_M_takesSign_ok (by omega) (59 : Int32)  w10 _ h)
      rintro _ w12 ⟨r11, rfl, h⟩
      show wp g (fun _ => True) y_M_readsAll prog_14_method_116_code 2 (some FieldType.boolean) d 72 [(0, .ref (g.1 + 30)), (1, .int x1)] [.int r11] w12 Q
      refine am_istore_n (l' := [(1, .int r11), (0, .ref (g.1 + 30))]) d_M_readsAll_72 (by decide) rfl ?_
      refine am_goto (tgt := 43) d_M_readsAll_73 (by decide) ?_
      refine am_sub [1, 0] rfl ?_
      exact hK43 r11 w12 h
    · have h := h.2 c51
      refine am_iconst (v := 0) d_M_readsAll_54 rfl ?_
      exact am_ireturn d_M_readsAll_55 rfl rfl (hQ (0 : Int32) w9 h)
theorem cf_M_readsAll_L43_ok {g : ayG} {d : Nat} (hd : 122 ≤ d)    (P : Int32 → Wd → Prop) (Q : Option Value → Wd → Prop) (hQ : ∀ x w2, P x w2 → Q (some (.int x)) w2)  : ∀ (n : Nat) (x1 : Int32) (w : Wd) (h : cf_M_readsAll_L43 P n x1 w), wp g (fun _ => True) y_M_readsAll prog_14_method_116_code 2 (some FieldType.boolean) d 43 [(0, .ref (g.1 + 30)), (1, .int x1)] [] w Q
  | 0, x1, w, h => False.elim h
  | n + 1, x1, w, h => cf_M_readsAll_B43_ok hd   w (cf_M_readsAll_L43 P n) P Q hQ (fun x1 w h => cf_M_readsAll_L43_ok hd    P Q hQ  n x1 w h) x1 h
theorem cf_M_readsAll_B2_ok {g : ayG} {d : Nat} (hd : 122 ≤ d)   (w : Wd) (K2 : Int32 → Wd → Prop) (P : Int32 → Wd → Prop) (Q : Option Value → Wd → Prop) (hQ : ∀ x w2, P x w2 → Q (some (.int x)) w2) (hK2 : ∀ (x1 : Int32) (w : Wd), (K2 x1 w → wp g (fun _ => True) y_M_readsAll prog_14_method_116_code 2 (some FieldType.boolean) d 2 [(0, .ref (g.1 + 30)), (1, .int x1)] [] w Q)) (x1 : Int32) (h : cf_M_readsAll_B2 K2 P x1 w) : wp g (fun _ => True) y_M_readsAll prog_14_method_116_code 2 (some FieldType.boolean) d 2 [(0, .ref (g.1 + 30)), (1, .int x1)] [] w Q := by
  unfold cf_M_readsAll_B2 at h
  refine am_iload_n d_M_readsAll_2 1 rfl ?_
  refine am_bipush (v := 10) d_M_readsAll_3 rfl ?_
  refine am_icmp_ge (tgt := 26) d_M_readsAll_5 (by decide) (fun c5 => ?_) (fun c5 => ?_)
  · have h := h.1 c5
    refine am_aload_n d_M_readsAll_26 0 rfl ?_
    refine am_iconst (v := 0) d_M_readsAll_27 rfl ?_
    refine am_putf (w' := wI w 30 22 (0 : Int32)) (ty := .int) (T := F_M) (fs := ob_M g w 30) (C := R_M) (N := 35) (ci := 10) 22 d_M_readsAll_28 wd_1099 rfl (by decide) (el_M (show ay_sh 30 = _ from rfl)) rfl i_M (by decide) G_M ty_M n_M rfl (ty_M 22 (by decide)) rfl rfl (Nat.le_of_ble_eq_true rfl) ((el_M (show ay_sh 30 = _ from rfl)).trans (by rw [pf_M_spot])) wI_o ?_
    obtain ⟨w1, ew1⟩ : ∃ z, z = wI w 30 22 (0 : Int32) := ⟨_, rfl⟩
    rw [← ew1]
    have h := h w1 ew1
    refine am_aload_n d_M_readsAll_31 0 rfl ?_
    refine am_iconst (v := 0) d_M_readsAll_32 rfl ?_
    refine am_putf (w' := wI w1 30 28 (0 : Int32)) (ty := .int) (T := F_M) (fs := ob_M g w1 30) (C := R_M) (N := 35) (ci := 10) 28 d_M_readsAll_33 wd_1105 rfl (by decide) (el_M (show ay_sh 30 = _ from rfl)) rfl i_M (by decide) G_M ty_M n_M rfl (ty_M 28 (by decide)) rfl rfl (Nat.le_of_ble_eq_true rfl) ((el_M (show ay_sh 30 = _ from rfl)).trans (by rw [pf_M_open])) wI_o ?_
    obtain ⟨w2, ew2⟩ : ∃ z, z = wI w1 30 28 (0 : Int32) := ⟨_, rfl⟩
    rw [← ew2]
    have h := h w2 ew2
    refine am_aload_n d_M_readsAll_36 0 rfl ?_
    refine am_iconst (v := 0) d_M_readsAll_37 rfl ?_
    refine am_putf (w' := wI w2 30 32 (0 : Int32)) (ty := .int) (T := F_M) (fs := ob_M g w2 30) (C := R_M) (N := 35) (ci := 10) 32 d_M_readsAll_38 wd_1109 rfl (by decide) (el_M (show ay_sh 30 = _ from rfl)) rfl i_M (by decide) G_M ty_M n_M rfl (ty_M 32 (by decide)) rfl rfl (Nat.le_of_ble_eq_true rfl) ((el_M (show ay_sh 30 = _ from rfl)).trans (by rw [pf_M_statements])) wI_o ?_
    obtain ⟨w3, ew3⟩ : ∃ z, z = wI w2 30 32 (0 : Int32) := ⟨_, rfl⟩
    rw [← ew3]
    have h := h w3 ew3
    refine am_iconst (v := 1) d_M_readsAll_41 rfl ?_
    refine am_istore_n (l' := [(1, .int (1 : Int32)), (0, .ref (g.1 + 30))]) d_M_readsAll_42 (by decide) rfl ?_
    refine am_sub [1, 0] rfl ?_
    obtain ⟨n, h⟩ := h
    exact cf_M_readsAll_L43_ok (by omega)    P Q hQ  n (1 : Int32) w3 h
  · have h := h.2 c5
    refine am_aload_n d_M_readsAll_8 0 rfl ?_
    refine am_getf (T := F_M) (fs := ob_M g w 30) (C := R_M) (N := 35) (ci := 10) 31 d_M_readsAll_9 wd_1108 rfl (by decide) (el_M (show ay_sh 30 = _ from rfl)) rfl i_M (by decide) rfl ?_
    refine am_iload_n d_M_readsAll_12 1 rfl ?_
    refine am_aload_n d_M_readsAll_13 0 rfl ?_
    refine am_getf (T := F_M) (fs := ob_M g w 30) (C := R_M) (N := 35) (ci := 10) 0 d_M_readsAll_14 wd_1077 rfl (by decide) (el_M (show ay_sh 30 = _ from rfl)) rfl i_M (by decide) rfl ?_
    refine am_iload_n d_M_readsAll_17 1 rfl ?_
    have hi18 := h.1
    have h := h.2
    refine am_laload d_M_readsAll_18 (show ay_sh 31 = _ from rfl) hi18 ?_
    have hi19 := h.1
    have h := h.2
    refine am_lastore d_M_readsAll_19 (show ay_sh 45 = _ from rfl) hi19 ?_
    obtain ⟨w13, ew13⟩ : ∃ z, z = wL w 45 x1.toNatClampNeg (w.2 31 x1.toNatClampNeg) := ⟨_, rfl⟩
    rw [← ew13]
    have h := h w13 ew13
    obtain ⟨v14, ev14⟩ : ∃ z : Int32, z = x1 + (1 : Int32) := ⟨_, rfl⟩
    have h := h v14 ev14
    refine am_iinc (v := v14) (l' := [(1, .int v14), (0, .ref (g.1 + 30))]) d_M_readsAll_20 1 rfl (by rw [ev14]; rfl) (by decide) rfl ?_
    refine am_goto (tgt := 2) d_M_readsAll_23 (by decide) ?_
    refine am_sub [1, 0] rfl ?_
    exact hK2 v14 w13 h
theorem cf_M_readsAll_L2_ok {g : ayG} {d : Nat} (hd : 122 ≤ d)    (P : Int32 → Wd → Prop) (Q : Option Value → Wd → Prop) (hQ : ∀ x w2, P x w2 → Q (some (.int x)) w2)  : ∀ (n : Nat) (x1 : Int32) (w : Wd) (h : cf_M_readsAll_L2 P n x1 w), wp g (fun _ => True) y_M_readsAll prog_14_method_116_code 2 (some FieldType.boolean) d 2 [(0, .ref (g.1 + 30)), (1, .int x1)] [] w Q
  | 0, x1, w, h => False.elim h
  | n + 1, x1, w, h => cf_M_readsAll_B2_ok hd   w (cf_M_readsAll_L2 P n) P Q hQ (fun x1 w h => cf_M_readsAll_L2_ok hd    P Q hQ  n x1 w h) x1 h
theorem cf_M_readsAll_ok {g : ayG} {d : Nat} (hd : 122 ≤ d)   (w : Wd) (P : Int32 → Wd → Prop) (h : cf_M_readsAll w P) : Call g y_M_readsAll prog_14_method_116_code 2 (some FieldType.boolean) d [.ref (g.1 + 30)] w (fun (r : Option Value) (w2 : Wd) => ∃ x, r = some (.int x) ∧ P x w2) := by
  unfold cf_M_readsAll at h
  refine am_enter mi_M_readsAll (Nat.le_of_ble_eq_true rfl) ?_
  have hQ : ∀ x w2, P x w2 → (fun (r : Option Value) (w2 : Wd) => ∃ x, r = some (.int x) ∧ P x w2) (some (.int x)) w2 := fun x w2 h => ⟨x, rfl, h⟩
  generalize (fun (r : Option Value) (w2 : Wd) => ∃ x, r = some (.int x) ∧ P x w2) = Q at hQ ⊢
  show wp g (fun _ => True) y_M_readsAll prog_14_method_116_code 2 (some FieldType.boolean) d 0 [(0, .ref (g.1 + 30))] [] w Q
  refine am_iconst (v := 0) d_M_readsAll_0 rfl ?_
  refine am_istore_n (l' := [(1, .int (0 : Int32)), (0, .ref (g.1 + 30))]) d_M_readsAll_1 (by decide) rfl ?_
  refine am_sub [1, 0] rfl ?_
  obtain ⟨n, h⟩ := h
  exact cf_M_readsAll_L2_ok (by omega)    P Q hQ  n (0 : Int32) w h
theorem d_M_run_0 : decode prog_14_method_117_code 0 = .ok (.aload_n 0, 1) := by decide +kernel
theorem d_M_run_1 : decode prog_14_method_117_code 1 = .ok (.invokevirtual 420, 3) := by decide +kernel
theorem d_M_run_4 : decode prog_14_method_117_code 4 = .ok (.istore_n 1, 1) := by decide +kernel
theorem d_M_run_5 : decode prog_14_method_117_code 5 = .ok (.aload_n 0, 1) := by decide +kernel
theorem d_M_run_6 : decode prog_14_method_117_code 6 = .ok (.iconst 0, 1) := by decide +kernel
theorem d_M_run_7 : decode prog_14_method_117_code 7 = .ok (.putfield 300, 3) := by decide +kernel
theorem d_M_run_10 : decode prog_14_method_117_code 10 = .ok (.iload_n 1, 1) := by decide +kernel
theorem d_M_run_11 : decode prog_14_method_117_code 11 = .ok (.ifCond .ne 11, 3) := by decide +kernel
theorem d_M_run_14 : decode prog_14_method_117_code 14 = .ok (.bipush (-2), 2) := by decide +kernel
theorem d_M_run_16 : decode prog_14_method_117_code 16 = .ok (.aload_n 0, 1) := by decide +kernel
theorem d_M_run_17 : decode prog_14_method_117_code 17 = .ok (.getfield 58, 3) := by decide +kernel
theorem d_M_run_20 : decode prog_14_method_117_code 20 = .ok (.isub, 1) := by decide +kernel
theorem d_M_run_21 : decode prog_14_method_117_code 21 = .ok (.ireturn, 1) := by decide +kernel
theorem d_M_run_22 : decode prog_14_method_117_code 22 = .ok (.aload_n 0, 1) := by decide +kernel
theorem d_M_run_23 : decode prog_14_method_117_code 23 = .ok (.iconst (-1), 1) := by decide +kernel
theorem d_M_run_24 : decode prog_14_method_117_code 24 = .ok (.putfield 58, 3) := by decide +kernel
theorem d_M_run_27 : decode prog_14_method_117_code 27 = .ok (.aload_n 0, 1) := by decide +kernel
theorem d_M_run_28 : decode prog_14_method_117_code 28 = .ok (.iconst 0, 1) := by decide +kernel
theorem d_M_run_29 : decode prog_14_method_117_code 29 = .ok (.putfield 318, 3) := by decide +kernel
theorem d_M_run_32 : decode prog_14_method_117_code 32 = .ok (.aload_n 0, 1) := by decide +kernel
theorem d_M_run_33 : decode prog_14_method_117_code 33 = .ok (.iconst (-1), 1) := by decide +kernel
theorem d_M_run_34 : decode prog_14_method_117_code 34 = .ok (.putfield 62, 3) := by decide +kernel
theorem d_M_run_37 : decode prog_14_method_117_code 37 = .ok (.aload_n 0, 1) := by decide +kernel
theorem d_M_run_38 : decode prog_14_method_117_code 38 = .ok (.invokevirtual 240, 3) := by decide +kernel
theorem d_M_run_41 : decode prog_14_method_117_code 41 = .ok (.iconst 0, 1) := by decide +kernel
theorem d_M_run_42 : decode prog_14_method_117_code 42 = .ok (.istore_n 2, 1) := by decide +kernel
theorem d_M_run_43 : decode prog_14_method_117_code 43 = .ok (.iload_n 2, 1) := by decide +kernel
theorem d_M_run_44 : decode prog_14_method_117_code 44 = .ok (.bipush 10, 2) := by decide +kernel
theorem d_M_run_46 : decode prog_14_method_117_code 46 = .ok (.if_icmp .ge 21, 3) := by decide +kernel
theorem d_M_run_49 : decode prog_14_method_117_code 49 = .ok (.aload_n 0, 1) := by decide +kernel
theorem d_M_run_50 : decode prog_14_method_117_code 50 = .ok (.getfield 7, 3) := by decide +kernel
theorem d_M_run_53 : decode prog_14_method_117_code 53 = .ok (.iload_n 2, 1) := by decide +kernel
theorem d_M_run_54 : decode prog_14_method_117_code 54 = .ok (.aload_n 0, 1) := by decide +kernel
theorem d_M_run_55 : decode prog_14_method_117_code 55 = .ok (.getfield 68, 3) := by decide +kernel
theorem d_M_run_58 : decode prog_14_method_117_code 58 = .ok (.iload_n 2, 1) := by decide +kernel
theorem d_M_run_59 : decode prog_14_method_117_code 59 = .ok (.laload, 1) := by decide +kernel
theorem d_M_run_60 : decode prog_14_method_117_code 60 = .ok (.lastore, 1) := by decide +kernel
theorem d_M_run_61 : decode prog_14_method_117_code 61 = .ok (.iinc 2 1, 3) := by decide +kernel
theorem d_M_run_64 : decode prog_14_method_117_code 64 = .ok (.goto (-21), 3) := by decide +kernel
theorem d_M_run_67 : decode prog_14_method_117_code 67 = .ok (.aload_n 0, 1) := by decide +kernel
theorem d_M_run_68 : decode prog_14_method_117_code 68 = .ok (.getfield 414, 3) := by decide +kernel
theorem d_M_run_71 : decode prog_14_method_117_code 71 = .ok (.ireturn, 1) := by decide +kernel
def cf_M_run_B43  (K43 : Int32 → Wd → Prop) (P : Int32 → Wd → Prop) (x2 : Int32) (w : Wd) : Prop :=
  (((10 : Int32) ≤ x2 → P (w.1 30 32) w) ∧ (¬ (10 : Int32) ≤ x2 → vp_in x2 10 ∧ vp_in x2 14 ∧ ∀ w8, w8 = wL w 31 x2.toNatClampNeg (w.2 45 x2.toNatClampNeg) → ∀ v9, v9 = x2 + (1 : Int32) → K43 v9 w8))
def cf_M_run_L43   (P : Int32 → Wd → Prop) : Nat → Int32 → Wd → Prop
  | 0 => fun x2 w => False
  | n + 1 => fun x2 w => cf_M_run_B43 (cf_M_run_L43 P n) P x2 w
def cf_M_run  (w : Wd) (P : Int32 → Wd → Prop) : Prop :=
  cf_M_readsAll  w (fun r1 w2 => ∀ w3, w3 = wI w2 30 21 (0 : Int32) → ((¬ r1 = 0 → ∀ w4, w4 = wI w3 30 23 (-1 : Int32) → ∀ w5, w5 = wI w4 30 24 (0 : Int32) → ∀ w6, w6 = wI w5 30 25 (-1 : Int32) → cf_M_keepsAct  w6 (fun w7 => ∃ n, cf_M_run_L43 P n (0 : Int32) w7)) ∧ (r1 = 0 → P ((-2 : Int32) - (w3.1 30 23)) w3)))
theorem cf_M_run_B43_ok {g : ayG} {d : Nat} (hd : 123 ≤ d)   (w : Wd) (K43 : Int32 → Wd → Prop) (P : Int32 → Wd → Prop) (Q : Option Value → Wd → Prop) (hQ : ∀ x w2, P x w2 → Q (some (.int x)) w2) (hK43 : ∀ (x2 : Int32) (w : Wd), (K43 x2 w → wp g (fun _ => True) y_M_run prog_14_method_117_code 3 (some FieldType.int) d 43 [(0, .ref (g.1 + 30)), (2, .int x2)] [] w Q)) (x2 : Int32) (h : cf_M_run_B43 K43 P x2 w) : wp g (fun _ => True) y_M_run prog_14_method_117_code 3 (some FieldType.int) d 43 [(0, .ref (g.1 + 30)), (2, .int x2)] [] w Q := by
  unfold cf_M_run_B43 at h
  refine am_iload_n d_M_run_43 1 rfl ?_
  refine am_bipush (v := 10) d_M_run_44 rfl ?_
  refine am_icmp_ge (tgt := 67) d_M_run_46 (by decide) (fun c46 => ?_) (fun c46 => ?_)
  · have h := h.1 c46
    refine am_aload_n d_M_run_67 0 rfl ?_
    refine am_getf (T := F_M) (fs := ob_M g w 30) (C := R_M) (N := 35) (ci := 10) 32 d_M_run_68 wd_1109 rfl (by decide) (el_M (show ay_sh 30 = _ from rfl)) rfl i_M (by decide) rfl ?_
    exact am_ireturn d_M_run_71 rfl rfl (hQ (w.1 30 32) w h)
  · have h := h.2 c46
    refine am_aload_n d_M_run_49 0 rfl ?_
    refine am_getf (T := F_M) (fs := ob_M g w 30) (C := R_M) (N := 35) (ci := 10) 0 d_M_run_50 wd_1077 rfl (by decide) (el_M (show ay_sh 30 = _ from rfl)) rfl i_M (by decide) rfl ?_
    refine am_iload_n d_M_run_53 1 rfl ?_
    refine am_aload_n d_M_run_54 0 rfl ?_
    refine am_getf (T := F_M) (fs := ob_M g w 30) (C := R_M) (N := 35) (ci := 10) 31 d_M_run_55 wd_1108 rfl (by decide) (el_M (show ay_sh 30 = _ from rfl)) rfl i_M (by decide) rfl ?_
    refine am_iload_n d_M_run_58 1 rfl ?_
    have hi59 := h.1
    have h := h.2
    refine am_laload d_M_run_59 (show ay_sh 45 = _ from rfl) hi59 ?_
    have hi60 := h.1
    have h := h.2
    refine am_lastore d_M_run_60 (show ay_sh 31 = _ from rfl) hi60 ?_
    obtain ⟨w8, ew8⟩ : ∃ z, z = wL w 31 x2.toNatClampNeg (w.2 45 x2.toNatClampNeg) := ⟨_, rfl⟩
    rw [← ew8]
    have h := h w8 ew8
    obtain ⟨v9, ev9⟩ : ∃ z : Int32, z = x2 + (1 : Int32) := ⟨_, rfl⟩
    have h := h v9 ev9
    refine am_iinc (v := v9) (l' := [(2, .int v9), (0, .ref (g.1 + 30))]) d_M_run_61 1 rfl (by rw [ev9]; rfl) (by decide) rfl ?_
    refine am_goto (tgt := 43) d_M_run_64 (by decide) ?_
    refine am_sub [1, 0] rfl ?_
    exact hK43 v9 w8 h
theorem cf_M_run_L43_ok {g : ayG} {d : Nat} (hd : 123 ≤ d)    (P : Int32 → Wd → Prop) (Q : Option Value → Wd → Prop) (hQ : ∀ x w2, P x w2 → Q (some (.int x)) w2)  : ∀ (n : Nat) (x2 : Int32) (w : Wd) (h : cf_M_run_L43 P n x2 w), wp g (fun _ => True) y_M_run prog_14_method_117_code 3 (some FieldType.int) d 43 [(0, .ref (g.1 + 30)), (2, .int x2)] [] w Q
  | 0, x2, w, h => False.elim h
  | n + 1, x2, w, h => cf_M_run_B43_ok hd   w (cf_M_run_L43 P n) P Q hQ (fun x2 w h => cf_M_run_L43_ok hd    P Q hQ  n x2 w h) x2 h
theorem cf_M_run_ok {g : ayG} {d : Nat} (hd : 123 ≤ d)   (w : Wd) (P : Int32 → Wd → Prop) (h : cf_M_run w P) : Call g y_M_run prog_14_method_117_code 3 (some FieldType.int) d [.ref (g.1 + 30)] w (fun (r : Option Value) (w2 : Wd) => ∃ x, r = some (.int x) ∧ P x w2) := by
  unfold cf_M_run at h
  refine am_enter mi_M_run (Nat.le_of_ble_eq_true rfl) ?_
  have hQ : ∀ x w2, P x w2 → (fun (r : Option Value) (w2 : Wd) => ∃ x, r = some (.int x) ∧ P x w2) (some (.int x)) w2 := fun x w2 h => ⟨x, rfl, h⟩
  generalize (fun (r : Option Value) (w2 : Wd) => ∃ x, r = some (.int x) ∧ P x w2) = Q at hQ ⊢
  show wp g (fun _ => True) y_M_run prog_14_method_117_code 3 (some FieldType.int) d 0 [(0, .ref (g.1 + 30))] [] w Q
  refine am_aload_n d_M_run_0 0 rfl ?_
  refine am_callV (C := y_M_readsAll.cls) (d2 := d - 1) [] d_M_run_1 mi_M_readsAll wd_1556 wd_1558 ws_M_readsAll (by decide) (el_M (show ay_sh 30 = _ from rfl)) rfl rfl (by omega) rfl rfl (Nat.le_of_ble_eq_true rfl) ?_
  refine Call.post ?_ (cf_M_readsAll_ok (by omega)   w _ h)
  rintro _ w2 ⟨r1, rfl, h⟩
  show wp g (fun _ => True) y_M_run prog_14_method_117_code 3 (some FieldType.int) d 4 [(0, .ref (g.1 + 30))] [.int r1] w2 Q
  refine am_istore_n (l' := [(1, .int r1), (0, .ref (g.1 + 30))]) d_M_run_4 (by decide) rfl ?_
  refine am_aload_n d_M_run_5 1 rfl ?_
  refine am_iconst (v := 0) d_M_run_6 rfl ?_
  refine am_putf (w' := wI w2 30 21 (0 : Int32)) (ty := .int) (T := F_M) (fs := ob_M g w2 30) (C := R_M) (N := 35) (ci := 10) 21 d_M_run_7 wd_1098 rfl (by decide) (el_M (show ay_sh 30 = _ from rfl)) rfl i_M (by decide) G_M ty_M n_M rfl (ty_M 21 (by decide)) rfl rfl (Nat.le_of_ble_eq_true rfl) ((el_M (show ay_sh 30 = _ from rfl)).trans (by rw [pf_M_taped])) wI_o ?_
  obtain ⟨w3, ew3⟩ : ∃ z, z = wI w2 30 21 (0 : Int32) := ⟨_, rfl⟩
  rw [← ew3]
  have h := h w3 ew3
  refine am_iload_n d_M_run_10 0 rfl ?_
  refine am_if_ne (tgt := 22) d_M_run_11 (by decide) (fun c11 => ?_) (fun c11 => ?_)
  · have h := h.1 c11
    refine am_aload_n d_M_run_22 1 rfl ?_
    refine am_iconst (v := -1) d_M_run_23 rfl ?_
    refine am_putf (w' := wI w3 30 23 (-1 : Int32)) (ty := .int) (T := F_M) (fs := ob_M g w3 30) (C := R_M) (N := 35) (ci := 10) 23 d_M_run_24 wd_1100 rfl (by decide) (el_M (show ay_sh 30 = _ from rfl)) rfl i_M (by decide) G_M ty_M n_M rfl (ty_M 23 (by decide)) rfl rfl (Nat.le_of_ble_eq_true rfl) ((el_M (show ay_sh 30 = _ from rfl)).trans (by rw [pf_M_wrong])) wI_o ?_
    obtain ⟨w4, ew4⟩ : ∃ z, z = wI w3 30 23 (-1 : Int32) := ⟨_, rfl⟩
    rw [← ew4]
    have h := h w4 ew4
    refine am_aload_n d_M_run_27 1 rfl ?_
    refine am_iconst (v := 0) d_M_run_28 rfl ?_
    refine am_putf (w' := wI w4 30 24 (0 : Int32)) (ty := .int) (T := F_M) (fs := ob_M g w4 30) (C := R_M) (N := 35) (ci := 10) 24 d_M_run_29 wd_1101 rfl (by decide) (el_M (show ay_sh 30 = _ from rfl)) rfl i_M (by decide) G_M ty_M n_M rfl (ty_M 24 (by decide)) rfl rfl (Nat.le_of_ble_eq_true rfl) ((el_M (show ay_sh 30 = _ from rfl)).trans (by rw [pf_M_wrongOpen])) wI_o ?_
    obtain ⟨w5, ew5⟩ : ∃ z, z = wI w4 30 24 (0 : Int32) := ⟨_, rfl⟩
    rw [← ew5]
    have h := h w5 ew5
    refine am_aload_n d_M_run_32 1 rfl ?_
    refine am_iconst (v := -1) d_M_run_33 rfl ?_
    refine am_putf (w' := wI w5 30 25 (-1 : Int32)) (ty := .int) (T := F_M) (fs := ob_M g w5 30) (C := R_M) (N := 35) (ci := 10) 25 d_M_run_34 wd_1102 rfl (by decide) (el_M (show ay_sh 30 = _ from rfl)) rfl i_M (by decide) G_M ty_M n_M rfl (ty_M 25 (by decide)) rfl rfl (Nat.le_of_ble_eq_true rfl) ((el_M (show ay_sh 30 = _ from rfl)).trans (by rw [pf_M_wrongAt])) wI_o ?_
    obtain ⟨w6, ew6⟩ : ∃ z, z = wI w5 30 25 (-1 : Int32) := ⟨_, rfl⟩
    rw [← ew6]
    have h := h w6 ew6
    refine am_aload_n d_M_run_37 1 rfl ?_
    refine am_callV (C := y_M_keepsAct.cls) (d2 := d - 1) [] d_M_run_38 mi_M_keepsAct wd_1407 wd_1409 ws_M_keepsAct (by decide) (el_M (show ay_sh 30 = _ from rfl)) rfl rfl (by omega) rfl rfl (Nat.le_of_ble_eq_true rfl) ?_
    refine Call.post ?_ (cf_M_keepsAct_ok (by omega)   w6 _ h)
    rintro _ w7 ⟨rfl, h⟩
    show wp g (fun _ => True) y_M_run prog_14_method_117_code 3 (some FieldType.int) d 41 [(1, .int r1), (0, .ref (g.1 + 30))] [] w7 Q
    refine am_iconst (v := 0) d_M_run_41 rfl ?_
    refine am_istore_n (l' := [(2, .int (0 : Int32)), (1, .int r1), (0, .ref (g.1 + 30))]) d_M_run_42 (by decide) rfl ?_
    refine am_sub [2, 0] rfl ?_
    obtain ⟨n, h⟩ := h
    exact cf_M_run_L43_ok (by omega)    P Q hQ  n (0 : Int32) w7 h
  · have h := h.2 c11
    refine am_bipush (v := -2) d_M_run_14 rfl ?_
    refine am_aload_n d_M_run_16 1 rfl ?_
    refine am_getf (T := F_M) (fs := ob_M g w3 30) (C := R_M) (N := 35) (ci := 10) 23 d_M_run_17 wd_1100 rfl (by decide) (el_M (show ay_sh 30 = _ from rfl)) rfl i_M (by decide) rfl ?_
    refine am_isub d_M_run_20 ?_
    exact am_ireturn d_M_run_21 rfl rfl (hQ ((-2 : Int32) - (w3.1 30 23)) w3 h)
theorem d_M_fault_0 : decode prog_14_method_118_code 0 = .ok (.iload_n 1, 1) := by decide +kernel
theorem d_M_fault_1 : decode prog_14_method_118_code 1 = .ok (.ifCond .ne 10, 3) := by decide +kernel
theorem d_M_fault_4 : decode prog_14_method_118_code 4 = .ok (.aload_n 0, 1) := by decide +kernel
theorem d_M_fault_5 : decode prog_14_method_118_code 5 = .ok (.getfield 58, 3) := by decide +kernel
theorem d_M_fault_8 : decode prog_14_method_118_code 8 = .ok (.goto 28, 3) := by decide +kernel
theorem d_M_fault_11 : decode prog_14_method_118_code 11 = .ok (.iload_n 1, 1) := by decide +kernel
theorem d_M_fault_12 : decode prog_14_method_118_code 12 = .ok (.iconst 1, 1) := by decide +kernel
theorem d_M_fault_13 : decode prog_14_method_118_code 13 = .ok (.if_icmp .ne 10, 3) := by decide +kernel
theorem d_M_fault_16 : decode prog_14_method_118_code 16 = .ok (.aload_n 0, 1) := by decide +kernel
theorem d_M_fault_17 : decode prog_14_method_118_code 17 = .ok (.getfield 318, 3) := by decide +kernel
theorem d_M_fault_20 : decode prog_14_method_118_code 20 = .ok (.goto 16, 3) := by decide +kernel
theorem d_M_fault_23 : decode prog_14_method_118_code 23 = .ok (.iload_n 1, 1) := by decide +kernel
theorem d_M_fault_24 : decode prog_14_method_118_code 24 = .ok (.iconst 2, 1) := by decide +kernel
theorem d_M_fault_25 : decode prog_14_method_118_code 25 = .ok (.if_icmp .ne 10, 3) := by decide +kernel
theorem d_M_fault_28 : decode prog_14_method_118_code 28 = .ok (.aload_n 0, 1) := by decide +kernel
theorem d_M_fault_29 : decode prog_14_method_118_code 29 = .ok (.getfield 62, 3) := by decide +kernel
theorem d_M_fault_32 : decode prog_14_method_118_code 32 = .ok (.goto 4, 3) := by decide +kernel
theorem d_M_fault_35 : decode prog_14_method_118_code 35 = .ok (.iconst (-1), 1) := by decide +kernel
theorem d_M_fault_36 : decode prog_14_method_118_code 36 = .ok (.ireturn, 1) := by decide +kernel
def cf_M_fault (a0 : Int32) (w : Wd) (P : Int32 → Prop) : Prop :=
  ((¬ a0 = 0 → ((¬ a0 = (1 : Int32) → ((¬ a0 = (2 : Int32) → P (-1 : Int32)) ∧ (a0 = (2 : Int32) → P (w.1 30 25)))) ∧ (a0 = (1 : Int32) → P (w.1 30 24)))) ∧ (a0 = 0 → P (w.1 30 23)))
theorem cf_M_fault_ok {g : ayG} {d : Nat} (hd : 0 ≤ d) (a0 : Int32)  (w : Wd) (P : Int32 → Prop) (h : cf_M_fault a0 w P) : Call g y_M_fault prog_14_method_118_code 2 (some FieldType.int) d [.ref (g.1 + 30), .int a0] w (fun (r : Option Value) (w2 : Wd) => ∃ x, r = some (.int x) ∧ w = w2 ∧ P x) := by
  unfold cf_M_fault at h
  refine am_enter mi_M_fault (Nat.le_of_ble_eq_true rfl) ?_
  have hQ : ∀ x, P x → (fun (r : Option Value) (w2 : Wd) => ∃ x, r = some (.int x) ∧ w = w2 ∧ P x) (some (.int x)) w := fun x h => ⟨x, rfl, rfl, h⟩
  generalize (fun (r : Option Value) (w2 : Wd) => ∃ x, r = some (.int x) ∧ w = w2 ∧ P x) = Q at hQ ⊢
  show wp g (fun _ => True) y_M_fault prog_14_method_118_code 2 (some FieldType.int) d 0 [(0, .ref (g.1 + 30)), (1, .int a0)] [] w Q
  refine am_iload_n d_M_fault_0 1 rfl ?_
  refine am_if_ne (tgt := 11) d_M_fault_1 (by decide) (fun c1 => ?_) (fun c1 => ?_)
  · have h := h.1 c1
    refine am_iload_n d_M_fault_11 1 rfl ?_
    refine am_iconst (v := 1) d_M_fault_12 rfl ?_
    refine am_icmp_ne (tgt := 23) d_M_fault_13 (by decide) (fun c13 => ?_) (fun c13 => ?_)
    · have h := h.1 c13
      refine am_iload_n d_M_fault_23 1 rfl ?_
      refine am_iconst (v := 2) d_M_fault_24 rfl ?_
      refine am_icmp_ne (tgt := 35) d_M_fault_25 (by decide) (fun c25 => ?_) (fun c25 => ?_)
      · have h := h.1 c25
        refine am_iconst (v := -1) d_M_fault_35 rfl ?_
        exact am_ireturn d_M_fault_36 rfl rfl (hQ (-1 : Int32) h)
      · have h := h.2 c25
        refine am_aload_n d_M_fault_28 0 rfl ?_
        refine am_getf (T := F_M) (fs := ob_M g w 30) (C := R_M) (N := 35) (ci := 10) 25 d_M_fault_29 wd_1102 rfl (by decide) (el_M (show ay_sh 30 = _ from rfl)) rfl i_M (by decide) rfl ?_
        refine am_goto (tgt := 36) d_M_fault_32 (by decide) ?_
        exact am_ireturn d_M_fault_36 rfl rfl (hQ (w.1 30 25) h)
    · have h := h.2 c13
      refine am_aload_n d_M_fault_16 0 rfl ?_
      refine am_getf (T := F_M) (fs := ob_M g w 30) (C := R_M) (N := 35) (ci := 10) 24 d_M_fault_17 wd_1101 rfl (by decide) (el_M (show ay_sh 30 = _ from rfl)) rfl i_M (by decide) rfl ?_
      refine am_goto (tgt := 36) d_M_fault_20 (by decide) ?_
      exact am_ireturn d_M_fault_36 rfl rfl (hQ (w.1 30 24) h)
  · have h := h.2 c1
    refine am_aload_n d_M_fault_4 0 rfl ?_
    refine am_getf (T := F_M) (fs := ob_M g w 30) (C := R_M) (N := 35) (ci := 10) 23 d_M_fault_5 wd_1100 rfl (by decide) (el_M (show ay_sh 30 = _ from rfl)) rfl i_M (by decide) rfl ?_
    refine am_goto (tgt := 36) d_M_fault_8 (by decide) ?_
    exact am_ireturn d_M_fault_36 rfl rfl (hQ (w.1 30 23) h)
theorem d_M_next_0 : decode prog_14_method_119_code 0 = .ok (.iload_n 1, 1) := by decide +kernel
theorem d_M_next_1 : decode prog_14_method_119_code 1 = .ok (.invokestatic 150, 3) := by decide +kernel
theorem d_M_next_4 : decode prog_14_method_119_code 4 = .ok (.ifCond .ne 7, 3) := by decide +kernel
theorem d_M_next_7 : decode prog_14_method_119_code 7 = .ok (.ldc2_w 26, 3) := by decide +kernel
theorem d_M_next_10 : decode prog_14_method_119_code 10 = .ok (.lreturn, 1) := by decide +kernel
theorem d_M_next_11 : decode prog_14_method_119_code 11 = .ok (.aload_n 0, 1) := by decide +kernel
theorem d_M_next_12 : decode prog_14_method_119_code 12 = .ok (.getfield 7, 3) := by decide +kernel
theorem d_M_next_15 : decode prog_14_method_119_code 15 = .ok (.iload_n 1, 1) := by decide +kernel
theorem d_M_next_16 : decode prog_14_method_119_code 16 = .ok (.laload, 1) := by decide +kernel
theorem d_M_next_17 : decode prog_14_method_119_code 17 = .ok (.lconst 1, 1) := by decide +kernel
theorem d_M_next_18 : decode prog_14_method_119_code 18 = .ok (.ladd, 1) := by decide +kernel
theorem d_M_next_19 : decode prog_14_method_119_code 19 = .ok (.lstore_n 3, 1) := by decide +kernel
theorem d_M_next_20 : decode prog_14_method_119_code 20 = .ok (.lload_n 3, 1) := by decide +kernel
theorem d_M_next_21 : decode prog_14_method_119_code 21 = .ok (.invokestatic 84, 3) := by decide +kernel
theorem d_M_next_24 : decode prog_14_method_119_code 24 = .ok (.bipush 20, 2) := by decide +kernel
theorem d_M_next_26 : decode prog_14_method_119_code 26 = .ok (.if_icmp .gt 27, 3) := by decide +kernel
theorem d_M_next_29 : decode prog_14_method_119_code 29 = .ok (.lload_n 3, 1) := by decide +kernel
theorem d_M_next_30 : decode prog_14_method_119_code 30 = .ok (.lconst 1, 1) := by decide +kernel
theorem d_M_next_31 : decode prog_14_method_119_code 31 = .ok (.lcmp, 1) := by decide +kernel
theorem d_M_next_32 : decode prog_14_method_119_code 32 = .ok (.ifCond .le 14, 3) := by decide +kernel
theorem d_M_next_35 : decode prog_14_method_119_code 35 = .ok (.aload_n 0, 1) := by decide +kernel
theorem d_M_next_36 : decode prog_14_method_119_code 36 = .ok (.lload_n 3, 1) := by decide +kernel
theorem d_M_next_37 : decode prog_14_method_119_code 37 = .ok (.iload_n 2, 1) := by decide +kernel
theorem d_M_next_38 : decode prog_14_method_119_code 38 = .ok (.invokevirtual 181, 3) := by decide +kernel
theorem d_M_next_41 : decode prog_14_method_119_code 41 = .ok (.ifCond .eq 5, 3) := by decide +kernel
theorem d_M_next_44 : decode prog_14_method_119_code 44 = .ok (.lload_n 3, 1) := by decide +kernel
theorem d_M_next_45 : decode prog_14_method_119_code 45 = .ok (.lreturn, 1) := by decide +kernel
theorem d_M_next_46 : decode prog_14_method_119_code 46 = .ok (.lload_n 3, 1) := by decide +kernel
theorem d_M_next_47 : decode prog_14_method_119_code 47 = .ok (.lconst 1, 1) := by decide +kernel
theorem d_M_next_48 : decode prog_14_method_119_code 48 = .ok (.ladd, 1) := by decide +kernel
theorem d_M_next_49 : decode prog_14_method_119_code 49 = .ok (.lstore_n 3, 1) := by decide +kernel
theorem d_M_next_50 : decode prog_14_method_119_code 50 = .ok (.goto (-30), 3) := by decide +kernel
theorem d_M_next_53 : decode prog_14_method_119_code 53 = .ok (.ldc2_w 162, 3) := by decide +kernel
theorem d_M_next_56 : decode prog_14_method_119_code 56 = .ok (.lreturn, 1) := by decide +kernel
def cf_M_next_B20  (K20 : Int32 → Int64 → Wd → Prop) (P : Int64 → Wd → Prop) (x2 : Int32) (x3 : Int64) (w : Wd) : Prop :=
  cf_M_degree x3 (fun r3 => (((20 : Int32) < r3 → P (-2 : Int64) w) ∧ (¬ (20 : Int32) < r3 → ((x3 ≤ (1 : Int64) → ∀ v4, v4 = x3 + (1 : Int64) → K20 x2 v4 w) ∧ (¬ x3 ≤ (1 : Int64) → cf_M_isGood x3 x2 w (fun r5 w6 => ((r5 = 0 → ∀ v7, v7 = x3 + (1 : Int64) → K20 x2 v7 w6) ∧ (¬ r5 = 0 → P x3 w6))))))))
def cf_M_next_L20   (P : Int64 → Wd → Prop) : Nat → Int32 → Int64 → Wd → Prop
  | 0 => fun x2 x3 w => False
  | n + 1 => fun x2 x3 w => cf_M_next_B20 (cf_M_next_L20 P n) P x2 x3 w
def cf_M_next (a0 : Int32) (a1 : Int32) (w : Wd) (P : Int64 → Wd → Prop) : Prop :=
  cf_M_isPlace a0 (fun r1 => ((¬ r1 = 0 → vp_in a0 14 ∧ ∀ v2, v2 = (w.2 31 a0.toNatClampNeg) + (1 : Int64) → ∃ n, cf_M_next_L20 P n a1 v2 w) ∧ (r1 = 0 → P (-1 : Int64) w)))
theorem cf_M_next_B20_ok {g : ayG} {d : Nat} (hd : 104 ≤ d)   (w : Wd) (K20 : Int32 → Int64 → Wd → Prop) (P : Int64 → Wd → Prop) (Q : Option Value → Wd → Prop) (hQ : ∀ x w2, P x w2 → Q (some (.long x)) w2) (hK20 : ∀ (x2 : Int32) (x3 : Int64) (w : Wd), (K20 x2 x3 w → wp g (fun _ => True) y_M_next prog_14_method_119_code 5 (some FieldType.long) d 20 [(0, .ref (g.1 + 30)), (2, .int x2), (3, .long x3)] [] w Q)) (x2 : Int32) (x3 : Int64) (h : cf_M_next_B20 K20 P x2 x3 w) : wp g (fun _ => True) y_M_next prog_14_method_119_code 5 (some FieldType.long) d 20 [(0, .ref (g.1 + 30)), (2, .int x2), (3, .long x3)] [] w Q := by
  unfold cf_M_next_B20 at h
  refine am_lload_n d_M_next_20 2 rfl ?_
  refine am_callS (d2 := d - 1) [.long x3] d_M_next_21 mi_M_degree wd_1206 wd_1207 (by omega) rfl rfl (Nat.le_of_ble_eq_true rfl) ?_
  refine Call.post ?_ (cf_M_degree_ok (by omega) x3  w _ h)
  rintro _ _ ⟨r3, rfl, rfl, h⟩
  show wp g (fun _ => True) y_M_next prog_14_method_119_code 5 (some FieldType.long) d 24 [(0, .ref (g.1 + 30)), (2, .int x2), (3, .long x3)] [.int r3] w Q
  refine am_bipush (v := 20) d_M_next_24 rfl ?_
  refine am_icmp_gt (tgt := 53) d_M_next_26 (by decide) (fun c26 => ?_) (fun c26 => ?_)
  · have h := h.1 c26
    refine am_ldc2 (v := -2) d_M_next_53 wd_1267 ?_
    exact am_lreturn d_M_next_56 rfl (hQ (-2 : Int64) w h)
  · have h := h.2 c26
    refine am_lload_n d_M_next_29 2 rfl ?_
    refine am_lconst (v := 1) d_M_next_30 rfl ?_
    refine am_lif_le (tgt := 46) d_M_next_31 d_M_next_32 (by decide) (fun c31 => ?_) (fun c31 => ?_)
    · have h := h.1 c31
      refine am_lload_n d_M_next_46 2 rfl ?_
      refine am_lconst (v := 1) d_M_next_47 rfl ?_
      refine am_ladd d_M_next_48 ?_
      refine am_topl (fun v4 ev4 => ?_)
      have h := h v4 ev4
      refine am_lstore_n (l' := [(3, .long v4), (0, .ref (g.1 + 30)), (2, .int x2)]) d_M_next_49 (by decide) rfl ?_
      refine am_goto (tgt := 20) d_M_next_50 (by decide) ?_
      refine am_sub [1, 2, 0] rfl ?_
      exact hK20 x2 v4 w h
    · have h := h.2 c31
      refine am_aload_n d_M_next_35 0 rfl ?_
      refine am_lload_n d_M_next_36 2 rfl ?_
      refine am_iload_n d_M_next_37 1 rfl ?_
      refine am_callV (C := y_M_isGood.cls) (d2 := d - 1) [.long x3, .int x2] d_M_next_38 mi_M_isGood wd_1309 wd_1311 ws_M_isGood (by decide) (el_M (show ay_sh 30 = _ from rfl)) rfl rfl (by omega) rfl rfl (Nat.le_of_ble_eq_true rfl) ?_
      refine Call.post ?_ (cf_M_isGood_ok (by omega) x3 x2  w _ h)
      rintro _ w6 ⟨r5, rfl, h⟩
      show wp g (fun _ => True) y_M_next prog_14_method_119_code 5 (some FieldType.long) d 41 [(0, .ref (g.1 + 30)), (2, .int x2), (3, .long x3)] [.int r5] w6 Q
      refine am_if_eq (tgt := 46) d_M_next_41 (by decide) (fun c41 => ?_) (fun c41 => ?_)
      · have h := h.1 c41
        refine am_lload_n d_M_next_46 2 rfl ?_
        refine am_lconst (v := 1) d_M_next_47 rfl ?_
        refine am_ladd d_M_next_48 ?_
        refine am_topl (fun v7 ev7 => ?_)
        have h := h v7 ev7
        refine am_lstore_n (l' := [(3, .long v7), (0, .ref (g.1 + 30)), (2, .int x2)]) d_M_next_49 (by decide) rfl ?_
        refine am_goto (tgt := 20) d_M_next_50 (by decide) ?_
        refine am_sub [1, 2, 0] rfl ?_
        exact hK20 x2 v7 w6 h
      · have h := h.2 c41
        refine am_lload_n d_M_next_44 2 rfl ?_
        exact am_lreturn d_M_next_45 rfl (hQ x3 w6 h)
theorem cf_M_next_L20_ok {g : ayG} {d : Nat} (hd : 104 ≤ d)    (P : Int64 → Wd → Prop) (Q : Option Value → Wd → Prop) (hQ : ∀ x w2, P x w2 → Q (some (.long x)) w2)  : ∀ (n : Nat) (x2 : Int32) (x3 : Int64) (w : Wd) (h : cf_M_next_L20 P n x2 x3 w), wp g (fun _ => True) y_M_next prog_14_method_119_code 5 (some FieldType.long) d 20 [(0, .ref (g.1 + 30)), (2, .int x2), (3, .long x3)] [] w Q
  | 0, x2, x3, w, h => False.elim h
  | n + 1, x2, x3, w, h => cf_M_next_B20_ok hd   w (cf_M_next_L20 P n) P Q hQ (fun x2 x3 w h => cf_M_next_L20_ok hd    P Q hQ  n x2 x3 w h) x2 x3 h
theorem cf_M_next_ok {g : ayG} {d : Nat} (hd : 104 ≤ d) (a0 : Int32) (a1 : Int32)  (w : Wd) (P : Int64 → Wd → Prop) (h : cf_M_next a0 a1 w P) : Call g y_M_next prog_14_method_119_code 5 (some FieldType.long) d [.ref (g.1 + 30), .int a0, .int a1] w (fun (r : Option Value) (w2 : Wd) => ∃ x, r = some (.long x) ∧ P x w2) := by
  unfold cf_M_next at h
  refine am_enter mi_M_next (Nat.le_of_ble_eq_true rfl) ?_
  have hQ : ∀ x w2, P x w2 → (fun (r : Option Value) (w2 : Wd) => ∃ x, r = some (.long x) ∧ P x w2) (some (.long x)) w2 := fun x w2 h => ⟨x, rfl, h⟩
  generalize (fun (r : Option Value) (w2 : Wd) => ∃ x, r = some (.long x) ∧ P x w2) = Q at hQ ⊢
  show wp g (fun _ => True) y_M_next prog_14_method_119_code 5 (some FieldType.long) d 0 [(0, .ref (g.1 + 30)), (1, .int a0), (2, .int a1)] [] w Q
  refine am_iload_n d_M_next_0 1 rfl ?_
  refine am_callS (d2 := d - 1) [.int a0] d_M_next_1 mi_M_isPlace wd_1188 wd_1189 (by omega) rfl rfl (Nat.le_of_ble_eq_true rfl) ?_
  refine Call.post ?_ (cf_M_isPlace_ok (by omega) a0  w _ h)
  rintro _ _ ⟨r1, rfl, rfl, h⟩
  show wp g (fun _ => True) y_M_next prog_14_method_119_code 5 (some FieldType.long) d 4 [(0, .ref (g.1 + 30)), (1, .int a0), (2, .int a1)] [.int r1] w Q
  refine am_if_ne (tgt := 11) d_M_next_4 (by decide) (fun c4 => ?_) (fun c4 => ?_)
  · have h := h.1 c4
    refine am_aload_n d_M_next_11 0 rfl ?_
    refine am_getf (T := F_M) (fs := ob_M g w 30) (C := R_M) (N := 35) (ci := 10) 0 d_M_next_12 wd_1077 rfl (by decide) (el_M (show ay_sh 30 = _ from rfl)) rfl i_M (by decide) rfl ?_
    refine am_iload_n d_M_next_15 1 rfl ?_
    have hi16 := h.1
    have h := h.2
    refine am_laload d_M_next_16 (show ay_sh 31 = _ from rfl) hi16 ?_
    refine am_lconst (v := 1) d_M_next_17 rfl ?_
    refine am_ladd d_M_next_18 ?_
    refine am_topl (fun v2 ev2 => ?_)
    have h := h v2 ev2
    refine am_lstore_n (l' := [(3, .long v2), (0, .ref (g.1 + 30)), (1, .int a0), (2, .int a1)]) d_M_next_19 (by decide) rfl ?_
    refine am_sub [1, 3, 0] rfl ?_
    obtain ⟨n, h⟩ := h
    exact cf_M_next_L20_ok (by omega)    P Q hQ  n a1 v2 w h
  · have h := h.2 c4
    refine am_ldc2 (v := -1) d_M_next_7 wd_1076 ?_
    exact am_lreturn d_M_next_10 rfl (hQ (-1 : Int64) w h)
theorem d_M_comes_0 : decode prog_14_method_120_code 0 = .ok (.aload_n 0, 1) := by decide +kernel
theorem d_M_comes_1 : decode prog_14_method_120_code 1 = .ok (.getfield 423, 3) := by decide +kernel
theorem d_M_comes_4 : decode prog_14_method_120_code 4 = .ok (.istore_n 3, 1) := by decide +kernel
theorem d_M_comes_5 : decode prog_14_method_120_code 5 = .ok (.iload_n 3, 1) := by decide +kernel
theorem d_M_comes_6 : decode prog_14_method_120_code 6 = .ok (.ifCond .le 36, 3) := by decide +kernel
theorem d_M_comes_9 : decode prog_14_method_120_code 9 = .ok (.aload_n 0, 1) := by decide +kernel
theorem d_M_comes_10 : decode prog_14_method_120_code 10 = .ok (.getfield 71, 3) := by decide +kernel
theorem d_M_comes_13 : decode prog_14_method_120_code 13 = .ok (.iload_n 3, 1) := by decide +kernel
theorem d_M_comes_14 : decode prog_14_method_120_code 14 = .ok (.iconst 1, 1) := by decide +kernel
theorem d_M_comes_15 : decode prog_14_method_120_code 15 = .ok (.isub, 1) := by decide +kernel
theorem d_M_comes_16 : decode prog_14_method_120_code 16 = .ok (.laload, 1) := by decide +kernel
theorem d_M_comes_17 : decode prog_14_method_120_code 17 = .ok (.lload_n 1, 1) := by decide +kernel
theorem d_M_comes_18 : decode prog_14_method_120_code 18 = .ok (.lcmp, 1) := by decide +kernel
theorem d_M_comes_19 : decode prog_14_method_120_code 19 = .ok (.ifCond .le 23, 3) := by decide +kernel
theorem d_M_comes_22 : decode prog_14_method_120_code 22 = .ok (.aload_n 0, 1) := by decide +kernel
theorem d_M_comes_23 : decode prog_14_method_120_code 23 = .ok (.getfield 71, 3) := by decide +kernel
theorem d_M_comes_26 : decode prog_14_method_120_code 26 = .ok (.iload_n 3, 1) := by decide +kernel
theorem d_M_comes_27 : decode prog_14_method_120_code 27 = .ok (.aload_n 0, 1) := by decide +kernel
theorem d_M_comes_28 : decode prog_14_method_120_code 28 = .ok (.getfield 71, 3) := by decide +kernel
theorem d_M_comes_31 : decode prog_14_method_120_code 31 = .ok (.iload_n 3, 1) := by decide +kernel
theorem d_M_comes_32 : decode prog_14_method_120_code 32 = .ok (.iconst 1, 1) := by decide +kernel
theorem d_M_comes_33 : decode prog_14_method_120_code 33 = .ok (.isub, 1) := by decide +kernel
theorem d_M_comes_34 : decode prog_14_method_120_code 34 = .ok (.laload, 1) := by decide +kernel
theorem d_M_comes_35 : decode prog_14_method_120_code 35 = .ok (.lastore, 1) := by decide +kernel
theorem d_M_comes_36 : decode prog_14_method_120_code 36 = .ok (.iinc 3 (-1), 3) := by decide +kernel
theorem d_M_comes_39 : decode prog_14_method_120_code 39 = .ok (.goto (-34), 3) := by decide +kernel
theorem d_M_comes_42 : decode prog_14_method_120_code 42 = .ok (.aload_n 0, 1) := by decide +kernel
theorem d_M_comes_43 : decode prog_14_method_120_code 43 = .ok (.getfield 71, 3) := by decide +kernel
theorem d_M_comes_46 : decode prog_14_method_120_code 46 = .ok (.iload_n 3, 1) := by decide +kernel
theorem d_M_comes_47 : decode prog_14_method_120_code 47 = .ok (.lload_n 1, 1) := by decide +kernel
theorem d_M_comes_48 : decode prog_14_method_120_code 48 = .ok (.lastore, 1) := by decide +kernel
theorem d_M_comes_49 : decode prog_14_method_120_code 49 = .ok (.aload_n 0, 1) := by decide +kernel
theorem d_M_comes_50 : decode prog_14_method_120_code 50 = .ok (.dup, 1) := by decide +kernel
theorem d_M_comes_51 : decode prog_14_method_120_code 51 = .ok (.getfield 423, 3) := by decide +kernel
theorem d_M_comes_54 : decode prog_14_method_120_code 54 = .ok (.iconst 1, 1) := by decide +kernel
theorem d_M_comes_55 : decode prog_14_method_120_code 55 = .ok (.iadd, 1) := by decide +kernel
theorem d_M_comes_56 : decode prog_14_method_120_code 56 = .ok (.putfield 423, 3) := by decide +kernel
theorem d_M_comes_59 : decode prog_14_method_120_code 59 = .ok (.return_, 1) := by decide +kernel
def cf_M_comes_B5  (K5 : Int64 → Int32 → Wd → Prop) (P : Wd → Prop) (x1 : Int64) (x3 : Int32) (w : Wd) : Prop :=
  ((x3 ≤ 0 → vp_in x3 8192 ∧ ∀ w2, w2 = wL w 46 x3.toNatClampNeg x1 → ∀ w3, w3 = wI w2 30 34 ((w2.1 30 34) + (1 : Int32)) → P w3) ∧ (¬ x3 ≤ 0 → vp_in (x3 - (1 : Int32)) 8192 ∧ (((w.2 46 (x3 - (1 : Int32)).toNatClampNeg) ≤ x1 → vp_in x3 8192 ∧ ∀ w4, w4 = wL w 46 x3.toNatClampNeg x1 → ∀ w5, w5 = wI w4 30 34 ((w4.1 30 34) + (1 : Int32)) → P w5) ∧ (¬ (w.2 46 (x3 - (1 : Int32)).toNatClampNeg) ≤ x1 → vp_in (x3 - (1 : Int32)) 8192 ∧ vp_in x3 8192 ∧ ∀ w6, w6 = wL w 46 x3.toNatClampNeg (w.2 46 (x3 - (1 : Int32)).toNatClampNeg) → ∀ v7, v7 = x3 + (-1 : Int32) → K5 x1 v7 w6))))
def cf_M_comes_L5   (P : Wd → Prop) : Nat → Int64 → Int32 → Wd → Prop
  | 0 => fun x1 x3 w => False
  | n + 1 => fun x1 x3 w => cf_M_comes_B5 (cf_M_comes_L5 P n) P x1 x3 w
def cf_M_comes (a0 : Int64) (w : Wd) (P : Wd → Prop) : Prop :=
  ∀ v1, v1 = w.1 30 34 → ∃ n, cf_M_comes_L5 P n a0 v1 w
theorem cf_M_comes_B5_ok {g : ayG} {d : Nat} (hd : 0 ≤ d)   (w : Wd) (K5 : Int64 → Int32 → Wd → Prop) (P : Wd → Prop) (Q : Option Value → Wd → Prop) (hQ : ∀ w2, P w2 → Q none w2) (hK5 : ∀ (x1 : Int64) (x3 : Int32) (w : Wd), (K5 x1 x3 w → wp g (fun _ => True) y_M_comes prog_14_method_120_code 4 none d 5 [(0, .ref (g.1 + 30)), (1, .long x1), (3, .int x3)] [] w Q)) (x1 : Int64) (x3 : Int32) (h : cf_M_comes_B5 K5 P x1 x3 w) : wp g (fun _ => True) y_M_comes prog_14_method_120_code 4 none d 5 [(0, .ref (g.1 + 30)), (1, .long x1), (3, .int x3)] [] w Q := by
  unfold cf_M_comes_B5 at h
  refine am_iload_n d_M_comes_5 2 rfl ?_
  refine am_if_le (tgt := 42) d_M_comes_6 (by decide) (fun c6 => ?_) (fun c6 => ?_)
  · have h := h.1 c6
    refine am_aload_n d_M_comes_42 0 rfl ?_
    refine am_getf (T := F_M) (fs := ob_M g w 30) (C := R_M) (N := 35) (ci := 10) 33 d_M_comes_43 wd_1110 rfl (by decide) (el_M (show ay_sh 30 = _ from rfl)) rfl i_M (by decide) rfl ?_
    refine am_iload_n d_M_comes_46 2 rfl ?_
    refine am_lload_n d_M_comes_47 1 rfl ?_
    have hi48 := h.1
    have h := h.2
    refine am_lastore d_M_comes_48 (show ay_sh 46 = _ from rfl) hi48 ?_
    obtain ⟨w2, ew2⟩ : ∃ z, z = wL w 46 x3.toNatClampNeg x1 := ⟨_, rfl⟩
    rw [← ew2]
    have h := h w2 ew2
    refine am_aload_n d_M_comes_49 0 rfl ?_
    refine am_dup d_M_comes_50 rfl ?_
    refine am_getf (T := F_M) (fs := ob_M g w2 30) (C := R_M) (N := 35) (ci := 10) 34 d_M_comes_51 wd_1111 rfl (by decide) (el_M (show ay_sh 30 = _ from rfl)) rfl i_M (by decide) rfl ?_
    refine am_iconst (v := 1) d_M_comes_54 rfl ?_
    refine am_iadd d_M_comes_55 ?_
    refine am_putf (w' := wI w2 30 34 ((w2.1 30 34) + (1 : Int32))) (ty := .int) (T := F_M) (fs := ob_M g w2 30) (C := R_M) (N := 35) (ci := 10) 34 d_M_comes_56 wd_1111 rfl (by decide) (el_M (show ay_sh 30 = _ from rfl)) rfl i_M (by decide) G_M ty_M n_M rfl (ty_M 34 (by decide)) rfl rfl (Nat.le_of_ble_eq_true rfl) ((el_M (show ay_sh 30 = _ from rfl)).trans (by rw [pf_M_divisorMany])) wI_o ?_
    obtain ⟨w3, ew3⟩ : ∃ z, z = wI w2 30 34 ((w2.1 30 34) + (1 : Int32)) := ⟨_, rfl⟩
    rw [← ew3]
    have h := h w3 ew3
    exact am_return d_M_comes_59 rfl (hQ w3 h)
  · have h := h.2 c6
    refine am_aload_n d_M_comes_9 0 rfl ?_
    refine am_getf (T := F_M) (fs := ob_M g w 30) (C := R_M) (N := 35) (ci := 10) 33 d_M_comes_10 wd_1110 rfl (by decide) (el_M (show ay_sh 30 = _ from rfl)) rfl i_M (by decide) rfl ?_
    refine am_iload_n d_M_comes_13 2 rfl ?_
    refine am_iconst (v := 1) d_M_comes_14 rfl ?_
    refine am_isub d_M_comes_15 ?_
    have hi16 := h.1
    have h := h.2
    refine am_laload d_M_comes_16 (show ay_sh 46 = _ from rfl) hi16 ?_
    refine am_lload_n d_M_comes_17 1 rfl ?_
    refine am_lif_le (tgt := 42) d_M_comes_18 d_M_comes_19 (by decide) (fun c18 => ?_) (fun c18 => ?_)
    · have h := h.1 c18
      refine am_aload_n d_M_comes_42 0 rfl ?_
      refine am_getf (T := F_M) (fs := ob_M g w 30) (C := R_M) (N := 35) (ci := 10) 33 d_M_comes_43 wd_1110 rfl (by decide) (el_M (show ay_sh 30 = _ from rfl)) rfl i_M (by decide) rfl ?_
      refine am_iload_n d_M_comes_46 2 rfl ?_
      refine am_lload_n d_M_comes_47 1 rfl ?_
      have hi48 := h.1
      have h := h.2
      refine am_lastore d_M_comes_48 (show ay_sh 46 = _ from rfl) hi48 ?_
      obtain ⟨w4, ew4⟩ : ∃ z, z = wL w 46 x3.toNatClampNeg x1 := ⟨_, rfl⟩
      rw [← ew4]
      have h := h w4 ew4
      refine am_aload_n d_M_comes_49 0 rfl ?_
      refine am_dup d_M_comes_50 rfl ?_
      refine am_getf (T := F_M) (fs := ob_M g w4 30) (C := R_M) (N := 35) (ci := 10) 34 d_M_comes_51 wd_1111 rfl (by decide) (el_M (show ay_sh 30 = _ from rfl)) rfl i_M (by decide) rfl ?_
      refine am_iconst (v := 1) d_M_comes_54 rfl ?_
      refine am_iadd d_M_comes_55 ?_
      refine am_putf (w' := wI w4 30 34 ((w4.1 30 34) + (1 : Int32))) (ty := .int) (T := F_M) (fs := ob_M g w4 30) (C := R_M) (N := 35) (ci := 10) 34 d_M_comes_56 wd_1111 rfl (by decide) (el_M (show ay_sh 30 = _ from rfl)) rfl i_M (by decide) G_M ty_M n_M rfl (ty_M 34 (by decide)) rfl rfl (Nat.le_of_ble_eq_true rfl) ((el_M (show ay_sh 30 = _ from rfl)).trans (by rw [pf_M_divisorMany])) wI_o ?_
      obtain ⟨w5, ew5⟩ : ∃ z, z = wI w4 30 34 ((w4.1 30 34) + (1 : Int32)) := ⟨_, rfl⟩
      rw [← ew5]
      have h := h w5 ew5
      exact am_return d_M_comes_59 rfl (hQ w5 h)
    · have h := h.2 c18
      refine am_aload_n d_M_comes_22 0 rfl ?_
      refine am_getf (T := F_M) (fs := ob_M g w 30) (C := R_M) (N := 35) (ci := 10) 33 d_M_comes_23 wd_1110 rfl (by decide) (el_M (show ay_sh 30 = _ from rfl)) rfl i_M (by decide) rfl ?_
      refine am_iload_n d_M_comes_26 2 rfl ?_
      refine am_aload_n d_M_comes_27 0 rfl ?_
      refine am_getf (T := F_M) (fs := ob_M g w 30) (C := R_M) (N := 35) (ci := 10) 33 d_M_comes_28 wd_1110 rfl (by decide) (el_M (show ay_sh 30 = _ from rfl)) rfl i_M (by decide) rfl ?_
      refine am_iload_n d_M_comes_31 2 rfl ?_
      refine am_iconst (v := 1) d_M_comes_32 rfl ?_
      refine am_isub d_M_comes_33 ?_
      have hi34 := h.1
      have h := h.2
      refine am_laload d_M_comes_34 (show ay_sh 46 = _ from rfl) hi34 ?_
      have hi35 := h.1
      have h := h.2
      refine am_lastore d_M_comes_35 (show ay_sh 46 = _ from rfl) hi35 ?_
      obtain ⟨w6, ew6⟩ : ∃ z, z = wL w 46 x3.toNatClampNeg (w.2 46 (x3 - (1 : Int32)).toNatClampNeg) := ⟨_, rfl⟩
      rw [← ew6]
      have h := h w6 ew6
      obtain ⟨v7, ev7⟩ : ∃ z : Int32, z = x3 + (-1 : Int32) := ⟨_, rfl⟩
      have h := h v7 ev7
      refine am_iinc (v := v7) (l' := [(3, .int v7), (0, .ref (g.1 + 30)), (1, .long x1)]) d_M_comes_36 2 rfl (by rw [ev7]; rfl) (by decide) rfl ?_
      refine am_goto (tgt := 5) d_M_comes_39 (by decide) ?_
      refine am_sub [1, 2, 0] rfl ?_
      exact hK5 x1 v7 w6 h
theorem cf_M_comes_L5_ok {g : ayG} {d : Nat} (hd : 0 ≤ d)    (P : Wd → Prop) (Q : Option Value → Wd → Prop) (hQ : ∀ w2, P w2 → Q none w2)  : ∀ (n : Nat) (x1 : Int64) (x3 : Int32) (w : Wd) (h : cf_M_comes_L5 P n x1 x3 w), wp g (fun _ => True) y_M_comes prog_14_method_120_code 4 none d 5 [(0, .ref (g.1 + 30)), (1, .long x1), (3, .int x3)] [] w Q
  | 0, x1, x3, w, h => False.elim h
  | n + 1, x1, x3, w, h => cf_M_comes_B5_ok hd   w (cf_M_comes_L5 P n) P Q hQ (fun x1 x3 w h => cf_M_comes_L5_ok hd    P Q hQ  n x1 x3 w h) x1 x3 h
theorem cf_M_comes_ok {g : ayG} {d : Nat} (hd : 0 ≤ d) (a0 : Int64)  (w : Wd) (P : Wd → Prop) (h : cf_M_comes a0 w P) : Call g y_M_comes prog_14_method_120_code 4 none d [.ref (g.1 + 30), .long a0] w (fun (r : Option Value) (w2 : Wd) => r = none ∧ P w2) := by
  unfold cf_M_comes at h
  refine am_enter mi_M_comes (Nat.le_of_ble_eq_true rfl) ?_
  have hQ : ∀ w2, P w2 → (fun (r : Option Value) (w2 : Wd) => r = none ∧ P w2) none w2 := fun w2 h => ⟨rfl, h⟩
  generalize (fun (r : Option Value) (w2 : Wd) => r = none ∧ P w2) = Q at hQ ⊢
  show wp g (fun _ => True) y_M_comes prog_14_method_120_code 4 none d 0 [(0, .ref (g.1 + 30)), (1, .long a0)] [] w Q
  refine am_aload_n d_M_comes_0 0 rfl ?_
  refine am_getf (T := F_M) (fs := ob_M g w 30) (C := R_M) (N := 35) (ci := 10) 34 d_M_comes_1 wd_1111 rfl (by decide) (el_M (show ay_sh 30 = _ from rfl)) rfl i_M (by decide) rfl ?_
  refine am_topi (fun v1 ev1 => ?_)
  have h := h v1 ev1
  refine am_istore_n (l' := [(3, .int v1), (0, .ref (g.1 + 30)), (1, .long a0)]) d_M_comes_4 (by decide) rfl ?_
  refine am_sub [1, 2, 0] rfl ?_
  obtain ⟨n, h⟩ := h
  exact cf_M_comes_L5_ok (by omega)    P Q hQ  n a0 v1 w h
theorem d_M_goesOn_0 : decode prog_14_method_121_code 0 = .ok (.iload_n 1, 1) := by decide +kernel
theorem d_M_goesOn_1 : decode prog_14_method_121_code 1 = .ok (.aload_n 0, 1) := by decide +kernel
theorem d_M_goesOn_2 : decode prog_14_method_121_code 2 = .ok (.getfield 104, 3) := by decide +kernel
theorem d_M_goesOn_5 : decode prog_14_method_121_code 5 = .ok (.if_icmp .ne 9, 3) := by decide +kernel
theorem d_M_goesOn_8 : decode prog_14_method_121_code 8 = .ok (.aload_n 0, 1) := by decide +kernel
theorem d_M_goesOn_9 : decode prog_14_method_121_code 9 = .ok (.lload_n 2, 1) := by decide +kernel
theorem d_M_goesOn_10 : decode prog_14_method_121_code 10 = .ok (.invokevirtual 426, 3) := by decide +kernel
theorem d_M_goesOn_13 : decode prog_14_method_121_code 13 = .ok (.return_, 1) := by decide +kernel
theorem d_M_goesOn_14 : decode prog_14_method_121_code 14 = .ok (.iload_n 1, 1) := by decide +kernel
theorem d_M_goesOn_15 : decode prog_14_method_121_code 15 = .ok (.istore 4, 2) := by decide +kernel
theorem d_M_goesOn_17 : decode prog_14_method_121_code 17 = .ok (.iload 4, 2) := by decide +kernel
theorem d_M_goesOn_19 : decode prog_14_method_121_code 19 = .ok (.aload_n 0, 1) := by decide +kernel
theorem d_M_goesOn_20 : decode prog_14_method_121_code 20 = .ok (.getfield 104, 3) := by decide +kernel
theorem d_M_goesOn_23 : decode prog_14_method_121_code 23 = .ok (.if_icmp .ge 26, 3) := by decide +kernel
theorem d_M_goesOn_26 : decode prog_14_method_121_code 26 = .ok (.aload_n 0, 1) := by decide +kernel
theorem d_M_goesOn_27 : decode prog_14_method_121_code 27 = .ok (.getfield 23, 3) := by decide +kernel
theorem d_M_goesOn_30 : decode prog_14_method_121_code 30 = .ok (.iload 4, 2) := by decide +kernel
theorem d_M_goesOn_32 : decode prog_14_method_121_code 32 = .ok (.laload, 1) := by decide +kernel
theorem d_M_goesOn_33 : decode prog_14_method_121_code 33 = .ok (.aload_n 0, 1) := by decide +kernel
theorem d_M_goesOn_34 : decode prog_14_method_121_code 34 = .ok (.getfield 23, 3) := by decide +kernel
theorem d_M_goesOn_37 : decode prog_14_method_121_code 37 = .ok (.iload_n 1, 1) := by decide +kernel
theorem d_M_goesOn_38 : decode prog_14_method_121_code 38 = .ok (.laload, 1) := by decide +kernel
theorem d_M_goesOn_39 : decode prog_14_method_121_code 39 = .ok (.lcmp, 1) := by decide +kernel
theorem d_M_goesOn_40 : decode prog_14_method_121_code 40 = .ok (.ifCond .ne 9, 3) := by decide +kernel
theorem d_M_goesOn_43 : decode prog_14_method_121_code 43 = .ok (.iinc 4 1, 3) := by decide +kernel
theorem d_M_goesOn_46 : decode prog_14_method_121_code 46 = .ok (.goto (-29), 3) := by decide +kernel
theorem d_M_goesOn_49 : decode prog_14_method_121_code 49 = .ok (.lload_n 2, 1) := by decide +kernel
theorem d_M_goesOn_50 : decode prog_14_method_121_code 50 = .ok (.lstore 5, 2) := by decide +kernel
theorem d_M_goesOn_52 : decode prog_14_method_121_code 52 = .ok (.aload_n 0, 1) := by decide +kernel
theorem d_M_goesOn_53 : decode prog_14_method_121_code 53 = .ok (.iload 4, 2) := by decide +kernel
theorem d_M_goesOn_55 : decode prog_14_method_121_code 55 = .ok (.lload 5, 2) := by decide +kernel
theorem d_M_goesOn_57 : decode prog_14_method_121_code 57 = .ok (.invokevirtual 429, 3) := by decide +kernel
theorem d_M_goesOn_60 : decode prog_14_method_121_code 60 = .ok (.iload_n 1, 1) := by decide +kernel
theorem d_M_goesOn_61 : decode prog_14_method_121_code 61 = .ok (.istore 7, 2) := by decide +kernel
theorem d_M_goesOn_63 : decode prog_14_method_121_code 63 = .ok (.iload 7, 2) := by decide +kernel
theorem d_M_goesOn_65 : decode prog_14_method_121_code 65 = .ok (.iload 4, 2) := by decide +kernel
theorem d_M_goesOn_67 : decode prog_14_method_121_code 67 = .ok (.if_icmp .ge 31, 3) := by decide +kernel
theorem d_M_goesOn_70 : decode prog_14_method_121_code 70 = .ok (.lload 5, 2) := by decide +kernel
theorem d_M_goesOn_72 : decode prog_14_method_121_code 72 = .ok (.aload_n 0, 1) := by decide +kernel
theorem d_M_goesOn_73 : decode prog_14_method_121_code 73 = .ok (.getfield 23, 3) := by decide +kernel
theorem d_M_goesOn_76 : decode prog_14_method_121_code 76 = .ok (.iload 7, 2) := by decide +kernel
theorem d_M_goesOn_78 : decode prog_14_method_121_code 78 = .ok (.laload, 1) := by decide +kernel
theorem d_M_goesOn_79 : decode prog_14_method_121_code 79 = .ok (.invokestatic 95, 3) := by decide +kernel
theorem d_M_goesOn_82 : decode prog_14_method_121_code 82 = .ok (.lstore 5, 2) := by decide +kernel
theorem d_M_goesOn_84 : decode prog_14_method_121_code 84 = .ok (.aload_n 0, 1) := by decide +kernel
theorem d_M_goesOn_85 : decode prog_14_method_121_code 85 = .ok (.iload 4, 2) := by decide +kernel
theorem d_M_goesOn_87 : decode prog_14_method_121_code 87 = .ok (.lload 5, 2) := by decide +kernel
theorem d_M_goesOn_89 : decode prog_14_method_121_code 89 = .ok (.invokevirtual 429, 3) := by decide +kernel
theorem d_M_goesOn_92 : decode prog_14_method_121_code 92 = .ok (.iinc 7 1, 3) := by decide +kernel
theorem d_M_goesOn_95 : decode prog_14_method_121_code 95 = .ok (.goto (-32), 3) := by decide +kernel
theorem d_M_goesOn_98 : decode prog_14_method_121_code 98 = .ok (.return_, 1) := by decide +kernel
def cf_M_goesOn_B63 (NR : Int32 → Int64 → Wd → (Wd → Prop) → Prop)  (K63 : Int32 → Int64 → Int32 → Wd → Prop) (P : Wd → Prop) (x4 : Int32) (x5 : Int64) (x7 : Int32) (w : Wd) : Prop :=
  ((x4 ≤ x7 → P w) ∧ (¬ x4 ≤ x7 → vp_in x7 32 ∧ cf_M_product x5 (w.2 35 x7.toNatClampNeg) (fun r2 => NR x4 r2 w (fun w3 => ∀ v4, v4 = x7 + (1 : Int32) → K63 x4 r2 v4 w3))))
def cf_M_goesOn_L63 (NR : Int32 → Int64 → Wd → (Wd → Prop) → Prop)   (P : Wd → Prop) : Nat → Int32 → Int64 → Int32 → Wd → Prop
  | 0 => fun x4 x5 x7 w => False
  | n + 1 => fun x4 x5 x7 w => cf_M_goesOn_B63 NR (cf_M_goesOn_L63 NR P n) P x4 x5 x7 w
def cf_M_goesOn_B17 (NR : Int32 → Int64 → Wd → (Wd → Prop) → Prop)  (K17 : Int32 → Int64 → Int32 → Wd → Prop) (P : Wd → Prop) (x1 : Int32) (x2 : Int64) (x4 : Int32) (w : Wd) : Prop :=
  (((w.1 30 6) ≤ x4 → NR x4 x2 w (fun w1 => ∃ n, cf_M_goesOn_L63 NR P n x4 x2 x1 w1)) ∧ (¬ (w.1 30 6) ≤ x4 → vp_in x4 32 ∧ vp_in x1 32 ∧ ((¬ (w.2 35 x4.toNatClampNeg) = (w.2 35 x1.toNatClampNeg) → NR x4 x2 w (fun w5 => ∃ n, cf_M_goesOn_L63 NR P n x4 x2 x1 w5)) ∧ ((w.2 35 x4.toNatClampNeg) = (w.2 35 x1.toNatClampNeg) → ∀ v6, v6 = x4 + (1 : Int32) → K17 x1 x2 v6 w))))
def cf_M_goesOn_L17 (NR : Int32 → Int64 → Wd → (Wd → Prop) → Prop)   (P : Wd → Prop) : Nat → Int32 → Int64 → Int32 → Wd → Prop
  | 0 => fun x1 x2 x4 w => False
  | n + 1 => fun x1 x2 x4 w => cf_M_goesOn_B17 NR (cf_M_goesOn_L17 NR P n) P x1 x2 x4 w
def cf_M_goesOn_E (NR : Int32 → Int64 → Wd → (Wd → Prop) → Prop) (a0 : Int32) (a1 : Int64) (w : Wd) (P : Wd → Prop) : Prop :=
  ((¬ a0 = (w.1 30 6) → ∃ n, cf_M_goesOn_L17 NR P n a0 a1 a0 w) ∧ (a0 = (w.1 30 6) → cf_M_comes a1 w (fun w7 => P w7)))
def cf_M_goesOn : Nat → Int32 → Int64 → Wd → (Wd → Prop) → Prop
  | 0 => fun a0 a1 w P => False
  | n + 1 => fun a0 a1 w P => cf_M_goesOn_E (cf_M_goesOn n) a0 a1 w P
theorem cf_M_goesOn_B63_ok {g : ayG} {d : Nat} {NR : Int32 → Int64 → Wd → (Wd → Prop) → Prop} (D0 : Nat) (hNR : ∀ (d2 : Nat) (hd2 : D0 ≤ d2) (a0 : Int32) (a1 : Int64)  (w : Wd) (P : Wd → Prop) (h : NR a0 a1 w P), Call g y_M_goesOn prog_14_method_121_code 8 none d2 [.ref (g.1 + 30), .int a0, .long a1] w (fun (r : Option Value) (w2 : Wd) => r = none ∧ P w2)) (hd : D0 + 2 ≤ d)   (w : Wd) (K63 : Int32 → Int64 → Int32 → Wd → Prop) (P : Wd → Prop) (Q : Option Value → Wd → Prop) (hQ : ∀ w2, P w2 → Q none w2) (hK63 : ∀ (x4 : Int32) (x5 : Int64) (x7 : Int32) (w : Wd), (K63 x4 x5 x7 w → wp g (fun _ => True) y_M_goesOn prog_14_method_121_code 8 none d 63 [(0, .ref (g.1 + 30)), (4, .int x4), (5, .long x5), (7, .int x7)] [] w Q)) (x4 : Int32) (x5 : Int64) (x7 : Int32) (h : cf_M_goesOn_B63 NR K63 P x4 x5 x7 w) : wp g (fun _ => True) y_M_goesOn prog_14_method_121_code 8 none d 63 [(0, .ref (g.1 + 30)), (4, .int x4), (5, .long x5), (7, .int x7)] [] w Q := by
  unfold cf_M_goesOn_B63 at h
  refine am_iload d_M_goesOn_63 3 rfl ?_
  refine am_iload d_M_goesOn_65 1 rfl ?_
  refine am_icmp_ge (tgt := 98) d_M_goesOn_67 (by decide) (fun c67 => ?_) (fun c67 => ?_)
  · have h := h.1 c67
    exact am_return d_M_goesOn_98 rfl (hQ w h)
  · have h := h.2 c67
    refine am_lload d_M_goesOn_70 2 rfl ?_
    refine am_aload_n d_M_goesOn_72 0 rfl ?_
    refine am_getf (T := F_M) (fs := ob_M g w 30) (C := R_M) (N := 35) (ci := 10) 5 d_M_goesOn_73 wd_1082 rfl (by decide) (el_M (show ay_sh 30 = _ from rfl)) rfl i_M (by decide) rfl ?_
    refine am_iload d_M_goesOn_76 3 rfl ?_
    have hi78 := h.1
    have h := h.2
    refine am_laload d_M_goesOn_78 (show ay_sh 35 = _ from rfl) hi78 ?_
    refine am_callS (d2 := d - 1) [.long x5, .long (w.2 35 x7.toNatClampNeg)] d_M_goesOn_79 mi_M_product wd_1256 wd_1257 (by omega) rfl rfl (Nat.le_of_ble_eq_true rfl) ?_
    refine Call.post ?_ (cf_M_product_ok (by omega) x5 (w.2 35 x7.toNatClampNeg)  w _ h)
    rintro _ _ ⟨r2, rfl, rfl, h⟩
    show wp g (fun _ => True) y_M_goesOn prog_14_method_121_code 8 none d 82 [(0, .ref (g.1 + 30)), (4, .int x4), (5, .long x5), (7, .int x7)] [.long r2] w Q
    refine am_lstore (l' := [(5, .long r2), (0, .ref (g.1 + 30)), (4, .int x4), (7, .int x7)]) d_M_goesOn_82 (by decide) rfl ?_
    refine am_aload_n d_M_goesOn_84 1 rfl ?_
    refine am_iload d_M_goesOn_85 2 rfl ?_
    refine am_lload d_M_goesOn_87 0 rfl ?_
    refine am_callV (C := y_M_goesOn.cls) (d2 := d - 1) [.int x4, .long r2] d_M_goesOn_89 mi_M_goesOn wd_1665 wd_1667 ws_M_goesOn (by decide) (el_M (show ay_sh 30 = _ from rfl)) rfl rfl (by omega) rfl rfl (Nat.le_of_ble_eq_true rfl) ?_
    refine Call.post ?_ (hNR (d - 1) (by omega) x4 r2  w _ h)
    rintro _ w3 ⟨rfl, h⟩
    show wp g (fun _ => True) y_M_goesOn prog_14_method_121_code 8 none d 92 [(5, .long r2), (0, .ref (g.1 + 30)), (4, .int x4), (7, .int x7)] [] w3 Q
    obtain ⟨v4, ev4⟩ : ∃ z : Int32, z = x7 + (1 : Int32) := ⟨_, rfl⟩
    have h := h v4 ev4
    refine am_iinc (v := v4) (l' := [(7, .int v4), (5, .long r2), (0, .ref (g.1 + 30)), (4, .int x4)]) d_M_goesOn_92 3 rfl (by rw [ev4]; rfl) (by decide) rfl ?_
    refine am_goto (tgt := 63) d_M_goesOn_95 (by decide) ?_
    refine am_sub [2, 3, 1, 0] rfl ?_
    exact hK63 x4 r2 v4 w3 h
theorem cf_M_goesOn_L63_ok {g : ayG} {d : Nat} {NR : Int32 → Int64 → Wd → (Wd → Prop) → Prop} (D0 : Nat) (hNR : ∀ (d2 : Nat) (hd2 : D0 ≤ d2) (a0 : Int32) (a1 : Int64)  (w : Wd) (P : Wd → Prop) (h : NR a0 a1 w P), Call g y_M_goesOn prog_14_method_121_code 8 none d2 [.ref (g.1 + 30), .int a0, .long a1] w (fun (r : Option Value) (w2 : Wd) => r = none ∧ P w2)) (hd : D0 + 2 ≤ d)    (P : Wd → Prop) (Q : Option Value → Wd → Prop) (hQ : ∀ w2, P w2 → Q none w2)  : ∀ (n : Nat) (x4 : Int32) (x5 : Int64) (x7 : Int32) (w : Wd) (h : cf_M_goesOn_L63 NR P n x4 x5 x7 w), wp g (fun _ => True) y_M_goesOn prog_14_method_121_code 8 none d 63 [(0, .ref (g.1 + 30)), (4, .int x4), (5, .long x5), (7, .int x7)] [] w Q
  | 0, x4, x5, x7, w, h => False.elim h
  | n + 1, x4, x5, x7, w, h => cf_M_goesOn_B63_ok D0 hNR hd   w (cf_M_goesOn_L63 NR P n) P Q hQ (fun x4 x5 x7 w h => cf_M_goesOn_L63_ok D0 hNR hd    P Q hQ  n x4 x5 x7 w h) x4 x5 x7 h
theorem cf_M_goesOn_B17_ok {g : ayG} {d : Nat} {NR : Int32 → Int64 → Wd → (Wd → Prop) → Prop} (D0 : Nat) (hNR : ∀ (d2 : Nat) (hd2 : D0 ≤ d2) (a0 : Int32) (a1 : Int64)  (w : Wd) (P : Wd → Prop) (h : NR a0 a1 w P), Call g y_M_goesOn prog_14_method_121_code 8 none d2 [.ref (g.1 + 30), .int a0, .long a1] w (fun (r : Option Value) (w2 : Wd) => r = none ∧ P w2)) (hd : D0 + 2 ≤ d)   (w : Wd) (K17 : Int32 → Int64 → Int32 → Wd → Prop) (P : Wd → Prop) (Q : Option Value → Wd → Prop) (hQ : ∀ w2, P w2 → Q none w2) (hK17 : ∀ (x1 : Int32) (x2 : Int64) (x4 : Int32) (w : Wd), (K17 x1 x2 x4 w → wp g (fun _ => True) y_M_goesOn prog_14_method_121_code 8 none d 17 [(0, .ref (g.1 + 30)), (1, .int x1), (2, .long x2), (4, .int x4)] [] w Q)) (x1 : Int32) (x2 : Int64) (x4 : Int32) (h : cf_M_goesOn_B17 NR K17 P x1 x2 x4 w) : wp g (fun _ => True) y_M_goesOn prog_14_method_121_code 8 none d 17 [(0, .ref (g.1 + 30)), (1, .int x1), (2, .long x2), (4, .int x4)] [] w Q := by
  unfold cf_M_goesOn_B17 at h
  refine am_iload d_M_goesOn_17 3 rfl ?_
  refine am_aload_n d_M_goesOn_19 0 rfl ?_
  refine am_getf (T := F_M) (fs := ob_M g w 30) (C := R_M) (N := 35) (ci := 10) 6 d_M_goesOn_20 wd_1083 rfl (by decide) (el_M (show ay_sh 30 = _ from rfl)) rfl i_M (by decide) rfl ?_
  refine am_icmp_ge (tgt := 49) d_M_goesOn_23 (by decide) (fun c23 => ?_) (fun c23 => ?_)
  · have h := h.1 c23
    refine am_lload_n d_M_goesOn_49 2 rfl ?_
    refine am_lstore (l' := [(5, .long x2), (0, .ref (g.1 + 30)), (1, .int x1), (2, .long x2), (4, .int x4)]) d_M_goesOn_50 (by decide) rfl ?_
    refine am_aload_n d_M_goesOn_52 1 rfl ?_
    refine am_iload d_M_goesOn_53 4 rfl ?_
    refine am_lload d_M_goesOn_55 0 rfl ?_
    refine am_callV (C := y_M_goesOn.cls) (d2 := d - 1) [.int x4, .long x2] d_M_goesOn_57 mi_M_goesOn wd_1665 wd_1667 ws_M_goesOn (by decide) (el_M (show ay_sh 30 = _ from rfl)) rfl rfl (by omega) rfl rfl (Nat.le_of_ble_eq_true rfl) ?_
    refine Call.post ?_ (hNR (d - 1) (by omega) x4 x2  w _ h)
    rintro _ w1 ⟨rfl, h⟩
    show wp g (fun _ => True) y_M_goesOn prog_14_method_121_code 8 none d 60 [(5, .long x2), (0, .ref (g.1 + 30)), (1, .int x1), (2, .long x2), (4, .int x4)] [] w1 Q
    refine am_iload_n d_M_goesOn_60 2 rfl ?_
    refine am_istore (l' := [(7, .int x1), (5, .long x2), (0, .ref (g.1 + 30)), (1, .int x1), (2, .long x2), (4, .int x4)]) d_M_goesOn_61 (by decide) rfl ?_
    refine am_sub [2, 5, 1, 0] rfl ?_
    obtain ⟨n, h⟩ := h
    exact cf_M_goesOn_L63_ok _ hNR (by omega)    P Q hQ  n x4 x2 x1 w1 h
  · have h := h.2 c23
    refine am_aload_n d_M_goesOn_26 0 rfl ?_
    refine am_getf (T := F_M) (fs := ob_M g w 30) (C := R_M) (N := 35) (ci := 10) 5 d_M_goesOn_27 wd_1082 rfl (by decide) (el_M (show ay_sh 30 = _ from rfl)) rfl i_M (by decide) rfl ?_
    refine am_iload d_M_goesOn_30 3 rfl ?_
    have hi32 := h.1
    have h := h.2
    refine am_laload d_M_goesOn_32 (show ay_sh 35 = _ from rfl) hi32 ?_
    refine am_aload_n d_M_goesOn_33 0 rfl ?_
    refine am_getf (T := F_M) (fs := ob_M g w 30) (C := R_M) (N := 35) (ci := 10) 5 d_M_goesOn_34 wd_1082 rfl (by decide) (el_M (show ay_sh 30 = _ from rfl)) rfl i_M (by decide) rfl ?_
    refine am_iload_n d_M_goesOn_37 1 rfl ?_
    have hi38 := h.1
    have h := h.2
    refine am_laload d_M_goesOn_38 (show ay_sh 35 = _ from rfl) hi38 ?_
    refine am_lif_ne (tgt := 49) d_M_goesOn_39 d_M_goesOn_40 (by decide) (fun c39 => ?_) (fun c39 => ?_)
    · have h := h.1 c39
      refine am_lload_n d_M_goesOn_49 2 rfl ?_
      refine am_lstore (l' := [(5, .long x2), (0, .ref (g.1 + 30)), (1, .int x1), (2, .long x2), (4, .int x4)]) d_M_goesOn_50 (by decide) rfl ?_
      refine am_aload_n d_M_goesOn_52 1 rfl ?_
      refine am_iload d_M_goesOn_53 4 rfl ?_
      refine am_lload d_M_goesOn_55 0 rfl ?_
      refine am_callV (C := y_M_goesOn.cls) (d2 := d - 1) [.int x4, .long x2] d_M_goesOn_57 mi_M_goesOn wd_1665 wd_1667 ws_M_goesOn (by decide) (el_M (show ay_sh 30 = _ from rfl)) rfl rfl (by omega) rfl rfl (Nat.le_of_ble_eq_true rfl) ?_
      refine Call.post ?_ (hNR (d - 1) (by omega) x4 x2  w _ h)
      rintro _ w5 ⟨rfl, h⟩
      show wp g (fun _ => True) y_M_goesOn prog_14_method_121_code 8 none d 60 [(5, .long x2), (0, .ref (g.1 + 30)), (1, .int x1), (2, .long x2), (4, .int x4)] [] w5 Q
      refine am_iload_n d_M_goesOn_60 2 rfl ?_
      refine am_istore (l' := [(7, .int x1), (5, .long x2), (0, .ref (g.1 + 30)), (1, .int x1), (2, .long x2), (4, .int x4)]) d_M_goesOn_61 (by decide) rfl ?_
      refine am_sub [2, 5, 1, 0] rfl ?_
      obtain ⟨n, h⟩ := h
      exact cf_M_goesOn_L63_ok _ hNR (by omega)    P Q hQ  n x4 x2 x1 w5 h
    · have h := h.2 c39
      obtain ⟨v6, ev6⟩ : ∃ z : Int32, z = x4 + (1 : Int32) := ⟨_, rfl⟩
      have h := h v6 ev6
      refine am_iinc (v := v6) (l' := [(4, .int v6), (0, .ref (g.1 + 30)), (1, .int x1), (2, .long x2)]) d_M_goesOn_43 3 rfl (by rw [ev6]; rfl) (by decide) rfl ?_
      refine am_goto (tgt := 17) d_M_goesOn_46 (by decide) ?_
      refine am_sub [1, 2, 3, 0] rfl ?_
      exact hK17 x1 x2 v6 w h
theorem cf_M_goesOn_L17_ok {g : ayG} {d : Nat} {NR : Int32 → Int64 → Wd → (Wd → Prop) → Prop} (D0 : Nat) (hNR : ∀ (d2 : Nat) (hd2 : D0 ≤ d2) (a0 : Int32) (a1 : Int64)  (w : Wd) (P : Wd → Prop) (h : NR a0 a1 w P), Call g y_M_goesOn prog_14_method_121_code 8 none d2 [.ref (g.1 + 30), .int a0, .long a1] w (fun (r : Option Value) (w2 : Wd) => r = none ∧ P w2)) (hd : D0 + 2 ≤ d)    (P : Wd → Prop) (Q : Option Value → Wd → Prop) (hQ : ∀ w2, P w2 → Q none w2)  : ∀ (n : Nat) (x1 : Int32) (x2 : Int64) (x4 : Int32) (w : Wd) (h : cf_M_goesOn_L17 NR P n x1 x2 x4 w), wp g (fun _ => True) y_M_goesOn prog_14_method_121_code 8 none d 17 [(0, .ref (g.1 + 30)), (1, .int x1), (2, .long x2), (4, .int x4)] [] w Q
  | 0, x1, x2, x4, w, h => False.elim h
  | n + 1, x1, x2, x4, w, h => cf_M_goesOn_B17_ok D0 hNR hd   w (cf_M_goesOn_L17 NR P n) P Q hQ (fun x1 x2 x4 w h => cf_M_goesOn_L17_ok D0 hNR hd    P Q hQ  n x1 x2 x4 w h) x1 x2 x4 h
theorem cf_M_goesOn_ok {g : ayG} : ∀ (n d : Nat) (hd : 2 * n + 2 ≤ d) (a0 : Int32) (a1 : Int64)  (w : Wd) (P : Wd → Prop) (h : cf_M_goesOn n a0 a1 w P), Call g y_M_goesOn prog_14_method_121_code 8 none d [.ref (g.1 + 30), .int a0, .long a1] w (fun (r : Option Value) (w2 : Wd) => r = none ∧ P w2)
  | 0, d, hd, a0, a1, w, P, h => False.elim h
  | n + 1, d, hd, a0, a1, w, P, h => by
    have h : cf_M_goesOn_E (cf_M_goesOn n) a0 a1 w P := h
    have hNR : ∀ (d2 : Nat) (hd2 : 2 * n + 2 ≤ d2) (a0 : Int32) (a1 : Int64)  (w : Wd) (P : Wd → Prop) (h : (cf_M_goesOn n) a0 a1 w P), Call g y_M_goesOn prog_14_method_121_code 8 none d2 [.ref (g.1 + 30), .int a0, .long a1] w (fun (r : Option Value) (w2 : Wd) => r = none ∧ P w2) := fun  d2 hd2 => cf_M_goesOn_ok n d2 hd2 
    generalize cf_M_goesOn n = NR at h hNR
    unfold cf_M_goesOn_E at h
    refine am_enter mi_M_goesOn (Nat.le_of_ble_eq_true rfl) ?_
    have hQ : ∀ w2, P w2 → (fun (r : Option Value) (w2 : Wd) => r = none ∧ P w2) none w2 := fun w2 h => ⟨rfl, h⟩
    generalize (fun (r : Option Value) (w2 : Wd) => r = none ∧ P w2) = Q at hQ ⊢
    show wp g (fun _ => True) y_M_goesOn prog_14_method_121_code 8 none d 0 [(0, .ref (g.1 + 30)), (1, .int a0), (2, .long a1)] [] w Q
    refine am_iload_n d_M_goesOn_0 1 rfl ?_
    refine am_aload_n d_M_goesOn_1 0 rfl ?_
    refine am_getf (T := F_M) (fs := ob_M g w 30) (C := R_M) (N := 35) (ci := 10) 6 d_M_goesOn_2 wd_1083 rfl (by decide) (el_M (show ay_sh 30 = _ from rfl)) rfl i_M (by decide) rfl ?_
    refine am_icmp_ne (tgt := 14) d_M_goesOn_5 (by decide) (fun c5 => ?_) (fun c5 => ?_)
    · have h := h.1 c5
      refine am_iload_n d_M_goesOn_14 1 rfl ?_
      refine am_istore (l' := [(4, .int a0), (0, .ref (g.1 + 30)), (1, .int a0), (2, .long a1)]) d_M_goesOn_15 (by decide) rfl ?_
      refine am_sub [1, 2, 3, 0] rfl ?_
      obtain ⟨n, h⟩ := h
      exact cf_M_goesOn_L17_ok _ hNR (by omega)    P Q hQ  n a0 a1 a0 w h
    · have h := h.2 c5
      refine am_aload_n d_M_goesOn_8 0 rfl ?_
      refine am_lload_n d_M_goesOn_9 2 rfl ?_
      refine am_callV (C := y_M_comes.cls) (d2 := d - 1) [.long a1] d_M_goesOn_10 mi_M_comes wd_1669 wd_1671 ws_M_comes (by decide) (el_M (show ay_sh 30 = _ from rfl)) rfl rfl (by omega) rfl rfl (Nat.le_of_ble_eq_true rfl) ?_
      refine Call.post ?_ (cf_M_comes_ok (by omega) a1  w _ h)
      rintro _ w7 ⟨rfl, h⟩
      show wp g (fun _ => True) y_M_goesOn prog_14_method_121_code 8 none d 13 [(0, .ref (g.1 + 30)), (1, .int a0), (2, .long a1)] [] w7 Q
      exact am_return d_M_goesOn_13 rfl (hQ w7 h)
def cf_M_goesOn_W (a0 : Int32) (a1 : Int64) (w : Wd) (P : Wd → Prop) : Prop := ∃ n, n ≤ 40 ∧ cf_M_goesOn n a0 a1 w P
theorem cf_M_goesOn_W_ok {g : ayG} {d : Nat} (hd : 82 ≤ d) (a0 : Int32) (a1 : Int64)  (w : Wd) (P : Wd → Prop) (h : cf_M_goesOn_W a0 a1 w P) : Call g y_M_goesOn prog_14_method_121_code 8 none d [.ref (g.1 + 30), .int a0, .long a1] w (fun (r : Option Value) (w2 : Wd) => r = none ∧ P w2) := by
  obtain ⟨n, hn, h⟩ := h
  exact cf_M_goesOn_ok n d (by omega) a0 a1  w P h
theorem d_M_divisor_0 : decode prog_14_method_122_code 0 = .ok (.iload_n 1, 1) := by decide +kernel
theorem d_M_divisor_1 : decode prog_14_method_122_code 1 = .ok (.invokestatic 150, 3) := by decide +kernel
theorem d_M_divisor_4 : decode prog_14_method_122_code 4 = .ok (.ifCond .eq 8, 3) := by decide +kernel
theorem d_M_divisor_7 : decode prog_14_method_122_code 7 = .ok (.iload_n 2, 1) := by decide +kernel
theorem d_M_divisor_8 : decode prog_14_method_122_code 8 = .ok (.iconst (-1), 1) := by decide +kernel
theorem d_M_divisor_9 : decode prog_14_method_122_code 9 = .ok (.if_icmp .ge 7, 3) := by decide +kernel
theorem d_M_divisor_12 : decode prog_14_method_122_code 12 = .ok (.ldc2_w 26, 3) := by decide +kernel
theorem d_M_divisor_15 : decode prog_14_method_122_code 15 = .ok (.lreturn, 1) := by decide +kernel
theorem d_M_divisor_16 : decode prog_14_method_122_code 16 = .ok (.aload_n 0, 1) := by decide +kernel
theorem d_M_divisor_17 : decode prog_14_method_122_code 17 = .ok (.iconst 0, 1) := by decide +kernel
theorem d_M_divisor_18 : decode prog_14_method_122_code 18 = .ok (.putfield 423, 3) := by decide +kernel
theorem d_M_divisor_21 : decode prog_14_method_122_code 21 = .ok (.aload_n 0, 1) := by decide +kernel
theorem d_M_divisor_22 : decode prog_14_method_122_code 22 = .ok (.aload_n 0, 1) := by decide +kernel
theorem d_M_divisor_23 : decode prog_14_method_122_code 23 = .ok (.getfield 7, 3) := by decide +kernel
theorem d_M_divisor_26 : decode prog_14_method_122_code 26 = .ok (.iload_n 1, 1) := by decide +kernel
theorem d_M_divisor_27 : decode prog_14_method_122_code 27 = .ok (.laload, 1) := by decide +kernel
theorem d_M_divisor_28 : decode prog_14_method_122_code 28 = .ok (.invokevirtual 112, 3) := by decide +kernel
theorem d_M_divisor_31 : decode prog_14_method_122_code 31 = .ok (.aload_n 0, 1) := by decide +kernel
theorem d_M_divisor_32 : decode prog_14_method_122_code 32 = .ok (.getfield 7, 3) := by decide +kernel
theorem d_M_divisor_35 : decode prog_14_method_122_code 35 = .ok (.iload_n 1, 1) := by decide +kernel
theorem d_M_divisor_36 : decode prog_14_method_122_code 36 = .ok (.laload, 1) := by decide +kernel
theorem d_M_divisor_37 : decode prog_14_method_122_code 37 = .ok (.lconst 0, 1) := by decide +kernel
theorem d_M_divisor_38 : decode prog_14_method_122_code 38 = .ok (.lcmp, 1) := by decide +kernel
theorem d_M_divisor_39 : decode prog_14_method_122_code 39 = .ok (.ifCond .eq 9, 3) := by decide +kernel
theorem d_M_divisor_42 : decode prog_14_method_122_code 42 = .ok (.aload_n 0, 1) := by decide +kernel
theorem d_M_divisor_43 : decode prog_14_method_122_code 43 = .ok (.iconst 0, 1) := by decide +kernel
theorem d_M_divisor_44 : decode prog_14_method_122_code 44 = .ok (.lconst 1, 1) := by decide +kernel
theorem d_M_divisor_45 : decode prog_14_method_122_code 45 = .ok (.invokevirtual 429, 3) := by decide +kernel
theorem d_M_divisor_48 : decode prog_14_method_122_code 48 = .ok (.iload_n 2, 1) := by decide +kernel
theorem d_M_divisor_49 : decode prog_14_method_122_code 49 = .ok (.iconst (-1), 1) := by decide +kernel
theorem d_M_divisor_50 : decode prog_14_method_122_code 50 = .ok (.if_icmp .ne 11, 3) := by decide +kernel
theorem d_M_divisor_53 : decode prog_14_method_122_code 53 = .ok (.aload_n 0, 1) := by decide +kernel
theorem d_M_divisor_54 : decode prog_14_method_122_code 54 = .ok (.getfield 423, 3) := by decide +kernel
theorem d_M_divisor_57 : decode prog_14_method_122_code 57 = .ok (.i2l, 1) := by decide +kernel
theorem d_M_divisor_58 : decode prog_14_method_122_code 58 = .ok (.goto 23, 3) := by decide +kernel
theorem d_M_divisor_61 : decode prog_14_method_122_code 61 = .ok (.iload_n 2, 1) := by decide +kernel
theorem d_M_divisor_62 : decode prog_14_method_122_code 62 = .ok (.aload_n 0, 1) := by decide +kernel
theorem d_M_divisor_63 : decode prog_14_method_122_code 63 = .ok (.getfield 423, 3) := by decide +kernel
theorem d_M_divisor_66 : decode prog_14_method_122_code 66 = .ok (.if_icmp .ge 12, 3) := by decide +kernel
theorem d_M_divisor_69 : decode prog_14_method_122_code 69 = .ok (.aload_n 0, 1) := by decide +kernel
theorem d_M_divisor_70 : decode prog_14_method_122_code 70 = .ok (.getfield 71, 3) := by decide +kernel
theorem d_M_divisor_73 : decode prog_14_method_122_code 73 = .ok (.iload_n 2, 1) := by decide +kernel
theorem d_M_divisor_74 : decode prog_14_method_122_code 74 = .ok (.laload, 1) := by decide +kernel
theorem d_M_divisor_75 : decode prog_14_method_122_code 75 = .ok (.goto 6, 3) := by decide +kernel
theorem d_M_divisor_78 : decode prog_14_method_122_code 78 = .ok (.ldc2_w 162, 3) := by decide +kernel
theorem d_M_divisor_81 : decode prog_14_method_122_code 81 = .ok (.lreturn, 1) := by decide +kernel
def cf_M_divisor_B48   (P : Int64 → Wd → Prop) (x2 : Int32) (w : Wd) : Prop :=
  ((¬ x2 = (-1 : Int32) → (((w.1 30 34) ≤ x2 → P (-2 : Int64) w) ∧ (¬ (w.1 30 34) ≤ x2 → vp_in x2 8192 ∧ P (w.2 46 x2.toNatClampNeg) w))) ∧ (x2 = (-1 : Int32) → P ((w.1 30 34).toInt64) w))
def cf_M_divisor (a0 : Int32) (a1 : Int32) (w : Wd) (P : Int64 → Wd → Prop) : Prop :=
  cf_M_isPlace a0 (fun r1 => ((r1 = 0 → P (-1 : Int64) w) ∧ (¬ r1 = 0 → (((-1 : Int32) ≤ a1 → ∀ w2, w2 = wI w 30 34 (0 : Int32) → vp_in a0 14 ∧ cf_M_laysFactors (w2.2 31 a0.toNatClampNeg) w2 (fun w3 => vp_in a0 14 ∧ (((w3.2 31 a0.toNatClampNeg) = (0 : Int64) → cf_M_divisor_B48 P a1 w3) ∧ (¬ (w3.2 31 a0.toNatClampNeg) = (0 : Int64) → cf_M_goesOn_W (0 : Int32) (1 : Int64) w3 (fun w4 => cf_M_divisor_B48 P a1 w4))))) ∧ (¬ (-1 : Int32) ≤ a1 → P (-1 : Int64) w)))))
theorem cf_M_divisor_B48_ok {g : ayG} {d : Nat} (hd : 83 ≤ d)   (w : Wd)  (P : Int64 → Wd → Prop) (Q : Option Value → Wd → Prop) (hQ : ∀ x w2, P x w2 → Q (some (.long x)) w2)  (x2 : Int32) (h : cf_M_divisor_B48 P x2 w) : wp g (fun _ => True) y_M_divisor prog_14_method_122_code 3 (some FieldType.long) d 48 [(0, .ref (g.1 + 30)), (2, .int x2)] [] w Q := by
  unfold cf_M_divisor_B48 at h
  refine am_iload_n d_M_divisor_48 1 rfl ?_
  refine am_iconst (v := -1) d_M_divisor_49 rfl ?_
  refine am_icmp_ne (tgt := 61) d_M_divisor_50 (by decide) (fun c50 => ?_) (fun c50 => ?_)
  · have h := h.1 c50
    refine am_iload_n d_M_divisor_61 1 rfl ?_
    refine am_aload_n d_M_divisor_62 0 rfl ?_
    refine am_getf (T := F_M) (fs := ob_M g w 30) (C := R_M) (N := 35) (ci := 10) 34 d_M_divisor_63 wd_1111 rfl (by decide) (el_M (show ay_sh 30 = _ from rfl)) rfl i_M (by decide) rfl ?_
    refine am_icmp_ge (tgt := 78) d_M_divisor_66 (by decide) (fun c66 => ?_) (fun c66 => ?_)
    · have h := h.1 c66
      refine am_ldc2 (v := -2) d_M_divisor_78 wd_1267 ?_
      exact am_lreturn d_M_divisor_81 rfl (hQ (-2 : Int64) w h)
    · have h := h.2 c66
      refine am_aload_n d_M_divisor_69 0 rfl ?_
      refine am_getf (T := F_M) (fs := ob_M g w 30) (C := R_M) (N := 35) (ci := 10) 33 d_M_divisor_70 wd_1110 rfl (by decide) (el_M (show ay_sh 30 = _ from rfl)) rfl i_M (by decide) rfl ?_
      refine am_iload_n d_M_divisor_73 1 rfl ?_
      have hi74 := h.1
      have h := h.2
      refine am_laload d_M_divisor_74 (show ay_sh 46 = _ from rfl) hi74 ?_
      refine am_goto (tgt := 81) d_M_divisor_75 (by decide) ?_
      exact am_lreturn d_M_divisor_81 rfl (hQ (w.2 46 x2.toNatClampNeg) w h)
  · have h := h.2 c50
    refine am_aload_n d_M_divisor_53 0 rfl ?_
    refine am_getf (T := F_M) (fs := ob_M g w 30) (C := R_M) (N := 35) (ci := 10) 34 d_M_divisor_54 wd_1111 rfl (by decide) (el_M (show ay_sh 30 = _ from rfl)) rfl i_M (by decide) rfl ?_
    refine am_i2l d_M_divisor_57 ?_
    refine am_goto (tgt := 81) d_M_divisor_58 (by decide) ?_
    exact am_lreturn d_M_divisor_81 rfl (hQ ((w.1 30 34).toInt64) w h)
theorem cf_M_divisor_ok {g : ayG} {d : Nat} (hd : 83 ≤ d) (a0 : Int32) (a1 : Int32)  (w : Wd) (P : Int64 → Wd → Prop) (h : cf_M_divisor a0 a1 w P) : Call g y_M_divisor prog_14_method_122_code 3 (some FieldType.long) d [.ref (g.1 + 30), .int a0, .int a1] w (fun (r : Option Value) (w2 : Wd) => ∃ x, r = some (.long x) ∧ P x w2) := by
  unfold cf_M_divisor at h
  refine am_enter mi_M_divisor (Nat.le_of_ble_eq_true rfl) ?_
  have hQ : ∀ x w2, P x w2 → (fun (r : Option Value) (w2 : Wd) => ∃ x, r = some (.long x) ∧ P x w2) (some (.long x)) w2 := fun x w2 h => ⟨x, rfl, h⟩
  generalize (fun (r : Option Value) (w2 : Wd) => ∃ x, r = some (.long x) ∧ P x w2) = Q at hQ ⊢
  show wp g (fun _ => True) y_M_divisor prog_14_method_122_code 3 (some FieldType.long) d 0 [(0, .ref (g.1 + 30)), (1, .int a0), (2, .int a1)] [] w Q
  refine am_iload_n d_M_divisor_0 1 rfl ?_
  refine am_callS (d2 := d - 1) [.int a0] d_M_divisor_1 mi_M_isPlace wd_1188 wd_1189 (by omega) rfl rfl (Nat.le_of_ble_eq_true rfl) ?_
  refine Call.post ?_ (cf_M_isPlace_ok (by omega) a0  w _ h)
  rintro _ _ ⟨r1, rfl, rfl, h⟩
  show wp g (fun _ => True) y_M_divisor prog_14_method_122_code 3 (some FieldType.long) d 4 [(0, .ref (g.1 + 30)), (1, .int a0), (2, .int a1)] [.int r1] w Q
  refine am_if_eq (tgt := 12) d_M_divisor_4 (by decide) (fun c4 => ?_) (fun c4 => ?_)
  · have h := h.1 c4
    refine am_ldc2 (v := -1) d_M_divisor_12 wd_1076 ?_
    exact am_lreturn d_M_divisor_15 rfl (hQ (-1 : Int64) w h)
  · have h := h.2 c4
    refine am_iload_n d_M_divisor_7 2 rfl ?_
    refine am_iconst (v := -1) d_M_divisor_8 rfl ?_
    refine am_icmp_ge (tgt := 16) d_M_divisor_9 (by decide) (fun c9 => ?_) (fun c9 => ?_)
    · have h := h.1 c9
      refine am_aload_n d_M_divisor_16 0 rfl ?_
      refine am_iconst (v := 0) d_M_divisor_17 rfl ?_
      refine am_putf (w' := wI w 30 34 (0 : Int32)) (ty := .int) (T := F_M) (fs := ob_M g w 30) (C := R_M) (N := 35) (ci := 10) 34 d_M_divisor_18 wd_1111 rfl (by decide) (el_M (show ay_sh 30 = _ from rfl)) rfl i_M (by decide) G_M ty_M n_M rfl (ty_M 34 (by decide)) rfl rfl (Nat.le_of_ble_eq_true rfl) ((el_M (show ay_sh 30 = _ from rfl)).trans (by rw [pf_M_divisorMany])) wI_o ?_
      obtain ⟨w2, ew2⟩ : ∃ z, z = wI w 30 34 (0 : Int32) := ⟨_, rfl⟩
      rw [← ew2]
      have h := h w2 ew2
      refine am_aload_n d_M_divisor_21 0 rfl ?_
      refine am_aload_n d_M_divisor_22 0 rfl ?_
      refine am_getf (T := F_M) (fs := ob_M g w2 30) (C := R_M) (N := 35) (ci := 10) 0 d_M_divisor_23 wd_1077 rfl (by decide) (el_M (show ay_sh 30 = _ from rfl)) rfl i_M (by decide) rfl ?_
      refine am_iload_n d_M_divisor_26 1 rfl ?_
      have hi27 := h.1
      have h := h.2
      refine am_laload d_M_divisor_27 (show ay_sh 31 = _ from rfl) hi27 ?_
      refine am_callV (C := y_M_laysFactors.cls) (d2 := d - 1) [.long (w2.2 31 a0.toNatClampNeg)] d_M_divisor_28 mi_M_laysFactors wd_1201 wd_1203 ws_M_laysFactors (by decide) (el_M (show ay_sh 30 = _ from rfl)) rfl rfl (by omega) rfl rfl (Nat.le_of_ble_eq_true rfl) ?_
      refine Call.post ?_ (cf_M_laysFactors_ok (by omega) (w2.2 31 a0.toNatClampNeg)  w2 _ h)
      rintro _ w3 ⟨rfl, h⟩
      show wp g (fun _ => True) y_M_divisor prog_14_method_122_code 3 (some FieldType.long) d 31 [(0, .ref (g.1 + 30)), (1, .int a0), (2, .int a1)] [] w3 Q
      refine am_aload_n d_M_divisor_31 0 rfl ?_
      refine am_getf (T := F_M) (fs := ob_M g w3 30) (C := R_M) (N := 35) (ci := 10) 0 d_M_divisor_32 wd_1077 rfl (by decide) (el_M (show ay_sh 30 = _ from rfl)) rfl i_M (by decide) rfl ?_
      refine am_iload_n d_M_divisor_35 1 rfl ?_
      have hi36 := h.1
      have h := h.2
      refine am_laload d_M_divisor_36 (show ay_sh 31 = _ from rfl) hi36 ?_
      refine am_lconst (v := 0) d_M_divisor_37 rfl ?_
      refine am_lif_eq (tgt := 48) d_M_divisor_38 d_M_divisor_39 (by decide) (fun c38 => ?_) (fun c38 => ?_)
      · have h := h.1 c38
        refine am_sub [0, 2] rfl ?_
        exact cf_M_divisor_B48_ok (by omega)   w3  P Q hQ  a1 h
      · have h := h.2 c38
        refine am_aload_n d_M_divisor_42 0 rfl ?_
        refine am_iconst (v := 0) d_M_divisor_43 rfl ?_
        refine am_lconst (v := 1) d_M_divisor_44 rfl ?_
        refine am_callV (C := y_M_goesOn.cls) (d2 := d - 1) [.int (0 : Int32), .long (1 : Int64)] d_M_divisor_45 mi_M_goesOn wd_1665 wd_1667 ws_M_goesOn (by decide) (el_M (show ay_sh 30 = _ from rfl)) rfl rfl (by omega) rfl rfl (Nat.le_of_ble_eq_true rfl) ?_
        refine Call.post ?_ (cf_M_goesOn_W_ok (by omega) (0 : Int32) (1 : Int64)  w3 _ h)
        rintro _ w4 ⟨rfl, h⟩
        show wp g (fun _ => True) y_M_divisor prog_14_method_122_code 3 (some FieldType.long) d 48 [(0, .ref (g.1 + 30)), (1, .int a0), (2, .int a1)] [] w4 Q
        refine am_sub [0, 2] rfl ?_
        exact cf_M_divisor_B48_ok (by omega)   w4  P Q hQ  a1 h
    · have h := h.2 c9
      refine am_ldc2 (v := -1) d_M_divisor_12 wd_1076 ?_
      exact am_lreturn d_M_divisor_15 rfl (hQ (-1 : Int64) w h)
theorem d_M_couples_0 : decode prog_14_method_123_code 0 = .ok (.iload_n 1, 1) := by decide +kernel
theorem d_M_couples_1 : decode prog_14_method_123_code 1 = .ok (.invokestatic 150, 3) := by decide +kernel
theorem d_M_couples_4 : decode prog_14_method_123_code 4 = .ok (.ifCond .ne 5, 3) := by decide +kernel
theorem d_M_couples_7 : decode prog_14_method_123_code 7 = .ok (.iconst (-1), 1) := by decide +kernel
theorem d_M_couples_8 : decode prog_14_method_123_code 8 = .ok (.ireturn, 1) := by decide +kernel
theorem d_M_couples_9 : decode prog_14_method_123_code 9 = .ok (.aload_n 0, 1) := by decide +kernel
theorem d_M_couples_10 : decode prog_14_method_123_code 10 = .ok (.getfield 7, 3) := by decide +kernel
theorem d_M_couples_13 : decode prog_14_method_123_code 13 = .ok (.iload_n 1, 1) := by decide +kernel
theorem d_M_couples_14 : decode prog_14_method_123_code 14 = .ok (.laload, 1) := by decide +kernel
theorem d_M_couples_15 : decode prog_14_method_123_code 15 = .ok (.lconst 0, 1) := by decide +kernel
theorem d_M_couples_16 : decode prog_14_method_123_code 16 = .ok (.lcmp, 1) := by decide +kernel
theorem d_M_couples_17 : decode prog_14_method_123_code 17 = .ok (.ifCond .ne 5, 3) := by decide +kernel
theorem d_M_couples_20 : decode prog_14_method_123_code 20 = .ok (.iconst 0, 1) := by decide +kernel
theorem d_M_couples_21 : decode prog_14_method_123_code 21 = .ok (.ireturn, 1) := by decide +kernel
theorem d_M_couples_22 : decode prog_14_method_123_code 22 = .ok (.aload_n 0, 1) := by decide +kernel
theorem d_M_couples_23 : decode prog_14_method_123_code 23 = .ok (.aload_n 0, 1) := by decide +kernel
theorem d_M_couples_24 : decode prog_14_method_123_code 24 = .ok (.getfield 7, 3) := by decide +kernel
theorem d_M_couples_27 : decode prog_14_method_123_code 27 = .ok (.iload_n 1, 1) := by decide +kernel
theorem d_M_couples_28 : decode prog_14_method_123_code 28 = .ok (.laload, 1) := by decide +kernel
theorem d_M_couples_29 : decode prog_14_method_123_code 29 = .ok (.invokevirtual 112, 3) := by decide +kernel
theorem d_M_couples_32 : decode prog_14_method_123_code 32 = .ok (.aload_n 0, 1) := by decide +kernel
theorem d_M_couples_33 : decode prog_14_method_123_code 33 = .ok (.invokevirtual 159, 3) := by decide +kernel
theorem d_M_couples_36 : decode prog_14_method_123_code 36 = .ok (.istore_n 2, 1) := by decide +kernel
theorem d_M_couples_37 : decode prog_14_method_123_code 37 = .ok (.iload_n 2, 1) := by decide +kernel
theorem d_M_couples_38 : decode prog_14_method_123_code 38 = .ok (.iconst 2, 1) := by decide +kernel
theorem d_M_couples_39 : decode prog_14_method_123_code 39 = .ok (.if_icmp .ge 7, 3) := by decide +kernel
theorem d_M_couples_42 : decode prog_14_method_123_code 42 = .ok (.iconst 1, 1) := by decide +kernel
theorem d_M_couples_43 : decode prog_14_method_123_code 43 = .ok (.goto 8, 3) := by decide +kernel
theorem d_M_couples_46 : decode prog_14_method_123_code 46 = .ok (.iconst 1, 1) := by decide +kernel
theorem d_M_couples_47 : decode prog_14_method_123_code 47 = .ok (.iload_n 2, 1) := by decide +kernel
theorem d_M_couples_48 : decode prog_14_method_123_code 48 = .ok (.iconst 1, 1) := by decide +kernel
theorem d_M_couples_49 : decode prog_14_method_123_code 49 = .ok (.isub, 1) := by decide +kernel
theorem d_M_couples_50 : decode prog_14_method_123_code 50 = .ok (.ishl, 1) := by decide +kernel
theorem d_M_couples_51 : decode prog_14_method_123_code 51 = .ok (.ireturn, 1) := by decide +kernel
def cf_M_couples (a0 : Int32) (w : Wd) (P : Int32 → Wd → Prop) : Prop :=
  cf_M_isPlace a0 (fun r1 => ((¬ r1 = 0 → vp_in a0 14 ∧ ((¬ (w.2 31 a0.toNatClampNeg) = (0 : Int64) → vp_in a0 14 ∧ cf_M_laysFactors (w.2 31 a0.toNatClampNeg) w (fun w2 => cf_M_unlikeFactors  w2 (fun r3 => (((2 : Int32) ≤ r3 → P (ishl (1 : Int32) (r3 - (1 : Int32))) w2) ∧ (¬ (2 : Int32) ≤ r3 → P (1 : Int32) w2))))) ∧ ((w.2 31 a0.toNatClampNeg) = (0 : Int64) → P (0 : Int32) w))) ∧ (r1 = 0 → P (-1 : Int32) w)))
theorem cf_M_couples_ok {g : ayG} {d : Nat} (hd : 3 ≤ d) (a0 : Int32)  (w : Wd) (P : Int32 → Wd → Prop) (h : cf_M_couples a0 w P) : Call g y_M_couples prog_14_method_123_code 3 (some FieldType.int) d [.ref (g.1 + 30), .int a0] w (fun (r : Option Value) (w2 : Wd) => ∃ x, r = some (.int x) ∧ P x w2) := by
  unfold cf_M_couples at h
  refine am_enter mi_M_couples (Nat.le_of_ble_eq_true rfl) ?_
  have hQ : ∀ x w2, P x w2 → (fun (r : Option Value) (w2 : Wd) => ∃ x, r = some (.int x) ∧ P x w2) (some (.int x)) w2 := fun x w2 h => ⟨x, rfl, h⟩
  generalize (fun (r : Option Value) (w2 : Wd) => ∃ x, r = some (.int x) ∧ P x w2) = Q at hQ ⊢
  show wp g (fun _ => True) y_M_couples prog_14_method_123_code 3 (some FieldType.int) d 0 [(0, .ref (g.1 + 30)), (1, .int a0)] [] w Q
  refine am_iload_n d_M_couples_0 1 rfl ?_
  refine am_callS (d2 := d - 1) [.int a0] d_M_couples_1 mi_M_isPlace wd_1188 wd_1189 (by omega) rfl rfl (Nat.le_of_ble_eq_true rfl) ?_
  refine Call.post ?_ (cf_M_isPlace_ok (by omega) a0  w _ h)
  rintro _ _ ⟨r1, rfl, rfl, h⟩
  show wp g (fun _ => True) y_M_couples prog_14_method_123_code 3 (some FieldType.int) d 4 [(0, .ref (g.1 + 30)), (1, .int a0)] [.int r1] w Q
  refine am_if_ne (tgt := 9) d_M_couples_4 (by decide) (fun c4 => ?_) (fun c4 => ?_)
  · have h := h.1 c4
    refine am_aload_n d_M_couples_9 0 rfl ?_
    refine am_getf (T := F_M) (fs := ob_M g w 30) (C := R_M) (N := 35) (ci := 10) 0 d_M_couples_10 wd_1077 rfl (by decide) (el_M (show ay_sh 30 = _ from rfl)) rfl i_M (by decide) rfl ?_
    refine am_iload_n d_M_couples_13 1 rfl ?_
    have hi14 := h.1
    have h := h.2
    refine am_laload d_M_couples_14 (show ay_sh 31 = _ from rfl) hi14 ?_
    refine am_lconst (v := 0) d_M_couples_15 rfl ?_
    refine am_lif_ne (tgt := 22) d_M_couples_16 d_M_couples_17 (by decide) (fun c16 => ?_) (fun c16 => ?_)
    · have h := h.1 c16
      refine am_aload_n d_M_couples_22 0 rfl ?_
      refine am_aload_n d_M_couples_23 0 rfl ?_
      refine am_getf (T := F_M) (fs := ob_M g w 30) (C := R_M) (N := 35) (ci := 10) 0 d_M_couples_24 wd_1077 rfl (by decide) (el_M (show ay_sh 30 = _ from rfl)) rfl i_M (by decide) rfl ?_
      refine am_iload_n d_M_couples_27 1 rfl ?_
      have hi28 := h.1
      have h := h.2
      refine am_laload d_M_couples_28 (show ay_sh 31 = _ from rfl) hi28 ?_
      refine am_callV (C := y_M_laysFactors.cls) (d2 := d - 1) [.long (w.2 31 a0.toNatClampNeg)] d_M_couples_29 mi_M_laysFactors wd_1201 wd_1203 ws_M_laysFactors (by decide) (el_M (show ay_sh 30 = _ from rfl)) rfl rfl (by omega) rfl rfl (Nat.le_of_ble_eq_true rfl) ?_
      refine Call.post ?_ (cf_M_laysFactors_ok (by omega) (w.2 31 a0.toNatClampNeg)  w _ h)
      rintro _ w2 ⟨rfl, h⟩
      show wp g (fun _ => True) y_M_couples prog_14_method_123_code 3 (some FieldType.int) d 32 [(0, .ref (g.1 + 30)), (1, .int a0)] [] w2 Q
      refine am_aload_n d_M_couples_32 0 rfl ?_
      refine am_callV (C := y_M_unlikeFactors.cls) (d2 := d - 1) [] d_M_couples_33 mi_M_unlikeFactors wd_1259 wd_1261 ws_M_unlikeFactors (by decide) (el_M (show ay_sh 30 = _ from rfl)) rfl rfl (by omega) rfl rfl (Nat.le_of_ble_eq_true rfl) ?_
      refine Call.post ?_ (cf_M_unlikeFactors_ok (by omega)   w2 _ h)
      rintro _ _ ⟨r3, rfl, rfl, h⟩
      show wp g (fun _ => True) y_M_couples prog_14_method_123_code 3 (some FieldType.int) d 36 [(0, .ref (g.1 + 30)), (1, .int a0)] [.int r3] w2 Q
      refine am_istore_n (l' := [(2, .int r3), (0, .ref (g.1 + 30)), (1, .int a0)]) d_M_couples_36 (by decide) rfl ?_
      refine am_iload_n d_M_couples_37 0 rfl ?_
      refine am_iconst (v := 2) d_M_couples_38 rfl ?_
      refine am_icmp_ge (tgt := 46) d_M_couples_39 (by decide) (fun c39 => ?_) (fun c39 => ?_)
      · have h := h.1 c39
        refine am_iconst (v := 1) d_M_couples_46 rfl ?_
        refine am_iload_n d_M_couples_47 0 rfl ?_
        refine am_iconst (v := 1) d_M_couples_48 rfl ?_
        refine am_isub d_M_couples_49 ?_
        refine am_ishl d_M_couples_50 ?_
        exact am_ireturn d_M_couples_51 rfl rfl (hQ (ishl (1 : Int32) (r3 - (1 : Int32))) w2 h)
      · have h := h.2 c39
        refine am_iconst (v := 1) d_M_couples_42 rfl ?_
        refine am_goto (tgt := 51) d_M_couples_43 (by decide) ?_
        exact am_ireturn d_M_couples_51 rfl rfl (hQ (1 : Int32) w2 h)
    · have h := h.2 c16
      refine am_iconst (v := 0) d_M_couples_20 rfl ?_
      exact am_ireturn d_M_couples_21 rfl rfl (hQ (0 : Int32) w h)
  · have h := h.2 c4
    refine am_iconst (v := -1) d_M_couples_7 rfl ?_
    exact am_ireturn d_M_couples_8 rfl rfl (hQ (-1 : Int32) w h)
theorem d_M_mirror_0 : decode prog_14_method_124_code 0 = .ok (.iload_n 1, 1) := by decide +kernel
theorem d_M_mirror_1 : decode prog_14_method_124_code 1 = .ok (.invokestatic 150, 3) := by decide +kernel
theorem d_M_mirror_4 : decode prog_14_method_124_code 4 = .ok (.ifCond .eq 13, 3) := by decide +kernel
theorem d_M_mirror_7 : decode prog_14_method_124_code 7 = .ok (.iload_n 2, 1) := by decide +kernel
theorem d_M_mirror_8 : decode prog_14_method_124_code 8 = .ok (.i2l, 1) := by decide +kernel
theorem d_M_mirror_9 : decode prog_14_method_124_code 9 = .ok (.lconst 0, 1) := by decide +kernel
theorem d_M_mirror_10 : decode prog_14_method_124_code 10 = .ok (.lconst 1, 1) := by decide +kernel
theorem d_M_mirror_11 : decode prog_14_method_124_code 11 = .ok (.invokestatic 76, 3) := by decide +kernel
theorem d_M_mirror_14 : decode prog_14_method_124_code 14 = .ok (.ifCond .ne 6, 3) := by decide +kernel
theorem d_M_mirror_17 : decode prog_14_method_124_code 17 = .ok (.bipush (-5), 2) := by decide +kernel
theorem d_M_mirror_19 : decode prog_14_method_124_code 19 = .ok (.ireturn, 1) := by decide +kernel
theorem d_M_mirror_20 : decode prog_14_method_124_code 20 = .ok (.aload_n 0, 1) := by decide +kernel
theorem d_M_mirror_21 : decode prog_14_method_124_code 21 = .ok (.getfield 7, 3) := by decide +kernel
theorem d_M_mirror_24 : decode prog_14_method_124_code 24 = .ok (.iload_n 1, 1) := by decide +kernel
theorem d_M_mirror_25 : decode prog_14_method_124_code 25 = .ok (.laload, 1) := by decide +kernel
theorem d_M_mirror_26 : decode prog_14_method_124_code 26 = .ok (.invokestatic 375, 3) := by decide +kernel
theorem d_M_mirror_29 : decode prog_14_method_124_code 29 = .ok (.lstore_n 3, 1) := by decide +kernel
theorem d_M_mirror_30 : decode prog_14_method_124_code 30 = .ok (.iload_n 2, 1) := by decide +kernel
theorem d_M_mirror_31 : decode prog_14_method_124_code 31 = .ok (.iconst 1, 1) := by decide +kernel
theorem d_M_mirror_32 : decode prog_14_method_124_code 32 = .ok (.if_icmp .ne 19, 3) := by decide +kernel
theorem d_M_mirror_35 : decode prog_14_method_124_code 35 = .ok (.aload_n 0, 1) := by decide +kernel
theorem d_M_mirror_36 : decode prog_14_method_124_code 36 = .ok (.getfield 7, 3) := by decide +kernel
theorem d_M_mirror_39 : decode prog_14_method_124_code 39 = .ok (.iload_n 1, 1) := by decide +kernel
theorem d_M_mirror_40 : decode prog_14_method_124_code 40 = .ok (.laload, 1) := by decide +kernel
theorem d_M_mirror_41 : decode prog_14_method_124_code 41 = .ok (.lload_n 3, 1) := by decide +kernel
theorem d_M_mirror_42 : decode prog_14_method_124_code 42 = .ok (.invokestatic 92, 3) := by decide +kernel
theorem d_M_mirror_45 : decode prog_14_method_124_code 45 = .ok (.invokestatic 84, 3) := by decide +kernel
theorem d_M_mirror_48 : decode prog_14_method_124_code 48 = .ok (.goto 19, 3) := by decide +kernel
theorem d_M_mirror_51 : decode prog_14_method_124_code 51 = .ok (.lload_n 3, 1) := by decide +kernel
theorem d_M_mirror_52 : decode prog_14_method_124_code 52 = .ok (.aload_n 0, 1) := by decide +kernel
theorem d_M_mirror_53 : decode prog_14_method_124_code 53 = .ok (.getfield 7, 3) := by decide +kernel
theorem d_M_mirror_56 : decode prog_14_method_124_code 56 = .ok (.iload_n 1, 1) := by decide +kernel
theorem d_M_mirror_57 : decode prog_14_method_124_code 57 = .ok (.laload, 1) := by decide +kernel
theorem d_M_mirror_58 : decode prog_14_method_124_code 58 = .ok (.lcmp, 1) := by decide +kernel
theorem d_M_mirror_59 : decode prog_14_method_124_code 59 = .ok (.ifCond .ne 7, 3) := by decide +kernel
theorem d_M_mirror_62 : decode prog_14_method_124_code 62 = .ok (.iconst 1, 1) := by decide +kernel
theorem d_M_mirror_63 : decode prog_14_method_124_code 63 = .ok (.goto 4, 3) := by decide +kernel
theorem d_M_mirror_66 : decode prog_14_method_124_code 66 = .ok (.iconst 0, 1) := by decide +kernel
theorem d_M_mirror_67 : decode prog_14_method_124_code 67 = .ok (.ireturn, 1) := by decide +kernel
def cf_M_mirror (a0 : Int32) (a1 : Int32) (w : Wd) (P : Int32 → Prop) : Prop :=
  cf_M_isPlace a0 (fun r1 => ((r1 = 0 → P (-5 : Int32)) ∧ (¬ r1 = 0 → cf_M_in a1.toInt64 (0 : Int64) (1 : Int64) (fun r2 => ((¬ r2 = 0 → vp_in a0 14 ∧ cf_M_reversed (w.2 31 a0.toNatClampNeg) (fun r3 => ((¬ a1 = (1 : Int32) → vp_in a0 14 ∧ ((¬ r3 = (w.2 31 a0.toNatClampNeg) → P (0 : Int32)) ∧ (r3 = (w.2 31 a0.toNatClampNeg) → P (1 : Int32)))) ∧ (a1 = (1 : Int32) → vp_in a0 14 ∧ cf_M_commonOf_W (w.2 31 a0.toNatClampNeg) r3 (fun r4 => cf_M_degree r4 (fun r5 => P r5)))))) ∧ (r2 = 0 → P (-5 : Int32)))))))
theorem cf_M_mirror_ok {g : ayG} {d : Nat} (hd : 163 ≤ d) (a0 : Int32) (a1 : Int32)  (w : Wd) (P : Int32 → Prop) (h : cf_M_mirror a0 a1 w P) : Call g y_M_mirror prog_14_method_124_code 5 (some FieldType.int) d [.ref (g.1 + 30), .int a0, .int a1] w (fun (r : Option Value) (w2 : Wd) => ∃ x, r = some (.int x) ∧ w = w2 ∧ P x) := by
  unfold cf_M_mirror at h
  refine am_enter mi_M_mirror (Nat.le_of_ble_eq_true rfl) ?_
  have hQ : ∀ x, P x → (fun (r : Option Value) (w2 : Wd) => ∃ x, r = some (.int x) ∧ w = w2 ∧ P x) (some (.int x)) w := fun x h => ⟨x, rfl, rfl, h⟩
  generalize (fun (r : Option Value) (w2 : Wd) => ∃ x, r = some (.int x) ∧ w = w2 ∧ P x) = Q at hQ ⊢
  show wp g (fun _ => True) y_M_mirror prog_14_method_124_code 5 (some FieldType.int) d 0 [(0, .ref (g.1 + 30)), (1, .int a0), (2, .int a1)] [] w Q
  refine am_iload_n d_M_mirror_0 1 rfl ?_
  refine am_callS (d2 := d - 1) [.int a0] d_M_mirror_1 mi_M_isPlace wd_1188 wd_1189 (by omega) rfl rfl (Nat.le_of_ble_eq_true rfl) ?_
  refine Call.post ?_ (cf_M_isPlace_ok (by omega) a0  w _ h)
  rintro _ _ ⟨r1, rfl, rfl, h⟩
  show wp g (fun _ => True) y_M_mirror prog_14_method_124_code 5 (some FieldType.int) d 4 [(0, .ref (g.1 + 30)), (1, .int a0), (2, .int a1)] [.int r1] w Q
  refine am_if_eq (tgt := 17) d_M_mirror_4 (by decide) (fun c4 => ?_) (fun c4 => ?_)
  · have h := h.1 c4
    refine am_bipush (v := -5) d_M_mirror_17 rfl ?_
    exact am_ireturn d_M_mirror_19 rfl rfl (hQ (-5 : Int32) h)
  · have h := h.2 c4
    refine am_iload_n d_M_mirror_7 2 rfl ?_
    refine am_i2l d_M_mirror_8 ?_
    refine am_lconst (v := 0) d_M_mirror_9 rfl ?_
    refine am_lconst (v := 1) d_M_mirror_10 rfl ?_
    refine am_callS (d2 := d - 1) [.long a1.toInt64, .long (0 : Int64), .long (1 : Int64)] d_M_mirror_11 mi_M_in wd_1192 wd_1193 (by omega) rfl rfl (Nat.le_of_ble_eq_true rfl) ?_
    refine Call.post ?_ (cf_M_in_ok (by omega) a1.toInt64 (0 : Int64) (1 : Int64)  w _ h)
    rintro _ _ ⟨r2, rfl, rfl, h⟩
    show wp g (fun _ => True) y_M_mirror prog_14_method_124_code 5 (some FieldType.int) d 14 [(0, .ref (g.1 + 30)), (1, .int a0), (2, .int a1)] [.int r2] w Q
    refine am_if_ne (tgt := 20) d_M_mirror_14 (by decide) (fun c14 => ?_) (fun c14 => ?_)
    · have h := h.1 c14
      refine am_aload_n d_M_mirror_20 0 rfl ?_
      refine am_getf (T := F_M) (fs := ob_M g w 30) (C := R_M) (N := 35) (ci := 10) 0 d_M_mirror_21 wd_1077 rfl (by decide) (el_M (show ay_sh 30 = _ from rfl)) rfl i_M (by decide) rfl ?_
      refine am_iload_n d_M_mirror_24 1 rfl ?_
      have hi25 := h.1
      have h := h.2
      refine am_laload d_M_mirror_25 (show ay_sh 31 = _ from rfl) hi25 ?_
      refine am_callS (d2 := d - 1) [.long (w.2 31 a0.toNatClampNeg)] d_M_mirror_26 mi_M_reversed wd_1638 wd_1639 (by omega) rfl rfl (Nat.le_of_ble_eq_true rfl) ?_
      refine Call.post ?_ (cf_M_reversed_ok (by omega) (w.2 31 a0.toNatClampNeg)  w _ h)
      rintro _ _ ⟨r3, rfl, rfl, h⟩
      show wp g (fun _ => True) y_M_mirror prog_14_method_124_code 5 (some FieldType.int) d 29 [(0, .ref (g.1 + 30)), (1, .int a0), (2, .int a1)] [.long r3] w Q
      refine am_lstore_n (l' := [(3, .long r3), (0, .ref (g.1 + 30)), (1, .int a0), (2, .int a1)]) d_M_mirror_29 (by decide) rfl ?_
      refine am_iload_n d_M_mirror_30 3 rfl ?_
      refine am_iconst (v := 1) d_M_mirror_31 rfl ?_
      refine am_icmp_ne (tgt := 51) d_M_mirror_32 (by decide) (fun c32 => ?_) (fun c32 => ?_)
      · have h := h.1 c32
        refine am_lload_n d_M_mirror_51 0 rfl ?_
        refine am_aload_n d_M_mirror_52 1 rfl ?_
        refine am_getf (T := F_M) (fs := ob_M g w 30) (C := R_M) (N := 35) (ci := 10) 0 d_M_mirror_53 wd_1077 rfl (by decide) (el_M (show ay_sh 30 = _ from rfl)) rfl i_M (by decide) rfl ?_
        refine am_iload_n d_M_mirror_56 2 rfl ?_
        have hi57 := h.1
        have h := h.2
        refine am_laload d_M_mirror_57 (show ay_sh 31 = _ from rfl) hi57 ?_
        refine am_lif_ne (tgt := 66) d_M_mirror_58 d_M_mirror_59 (by decide) (fun c58 => ?_) (fun c58 => ?_)
        · have h := h.1 c58
          refine am_iconst (v := 0) d_M_mirror_66 rfl ?_
          exact am_ireturn d_M_mirror_67 rfl rfl (hQ (0 : Int32) h)
        · have h := h.2 c58
          refine am_iconst (v := 1) d_M_mirror_62 rfl ?_
          refine am_goto (tgt := 67) d_M_mirror_63 (by decide) ?_
          exact am_ireturn d_M_mirror_67 rfl rfl (hQ (1 : Int32) h)
      · have h := h.2 c32
        refine am_aload_n d_M_mirror_35 1 rfl ?_
        refine am_getf (T := F_M) (fs := ob_M g w 30) (C := R_M) (N := 35) (ci := 10) 0 d_M_mirror_36 wd_1077 rfl (by decide) (el_M (show ay_sh 30 = _ from rfl)) rfl i_M (by decide) rfl ?_
        refine am_iload_n d_M_mirror_39 2 rfl ?_
        have hi40 := h.1
        have h := h.2
        refine am_laload d_M_mirror_40 (show ay_sh 31 = _ from rfl) hi40 ?_
        refine am_lload_n d_M_mirror_41 0 rfl ?_
        refine am_callS (d2 := d - 1) [.long (w.2 31 a0.toNatClampNeg), .long r3] d_M_mirror_42 mi_M_commonOf wd_1452 wd_1453 (by omega) rfl rfl (Nat.le_of_ble_eq_true rfl) ?_
        refine Call.post ?_ (cf_M_commonOf_W_ok (by omega) (w.2 31 a0.toNatClampNeg) r3  w _ h)
        rintro _ _ ⟨r4, rfl, rfl, h⟩
        show wp g (fun _ => True) y_M_mirror prog_14_method_124_code 5 (some FieldType.int) d 45 [(3, .long r3), (0, .ref (g.1 + 30)), (1, .int a0), (2, .int a1)] [.long r4] w Q
        refine am_callS (d2 := d - 1) [.long r4] d_M_mirror_45 mi_M_degree wd_1206 wd_1207 (by omega) rfl rfl (Nat.le_of_ble_eq_true rfl) ?_
        refine Call.post ?_ (cf_M_degree_ok (by omega) r4  w _ h)
        rintro _ _ ⟨r5, rfl, rfl, h⟩
        show wp g (fun _ => True) y_M_mirror prog_14_method_124_code 5 (some FieldType.int) d 48 [(3, .long r3), (0, .ref (g.1 + 30)), (1, .int a0), (2, .int a1)] [.int r5] w Q
        refine am_goto (tgt := 67) d_M_mirror_48 (by decide) ?_
        exact am_ireturn d_M_mirror_67 rfl rfl (hQ r5 h)
    · have h := h.2 c14
      refine am_bipush (v := -5) d_M_mirror_17 rfl ?_
      exact am_ireturn d_M_mirror_19 rfl rfl (hQ (-5 : Int32) h)
