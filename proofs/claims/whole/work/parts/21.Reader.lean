-- bytecode as predicates, by program (wip/whole/gen/extract.py)
theorem mi_Reader_tape : ay_MI y_Reader_tape prog_8_method_2_code 1 (some (FieldType.object "TriSplits$Tape")) 0 := ⟨wd_229, wd_2, by decide +kernel, by decide +kernel, by decide⟩
theorem mi_Reader_latestFault : ay_MI y_Reader_latestFault prog_8_method_3_code 1 (some FieldType.int) 0 := ⟨wd_417, wd_2, by decide +kernel, by decide +kernel, by decide⟩
theorem mi_Reader_within : ay_MI y_Reader_within prog_8_method_4_code 1 (some FieldType.int) 0 := ⟨wd_444, wd_2, by decide +kernel, by decide +kernel, by decide⟩
theorem mi_Reader_innermost : ay_MI y_Reader_innermost prog_8_method_5_code 1 (some FieldType.int) 0 := ⟨wd_448, wd_2, by decide +kernel, by decide +kernel, by decide⟩
theorem mi_Reader_peek : ay_MI y_Reader_peek prog_8_method_9_code 2 (some FieldType.int) 0 := ⟨wd_276, wd_2, by decide +kernel, by decide +kernel, by decide⟩
theorem mi_Reader_isDigit : ay_MI y_Reader_isDigit prog_8_method_22_code 1 (some FieldType.boolean) 1 := ⟨wd_284, wd_2, by decide +kernel, by decide +kernel, by decide⟩
theorem mi_Reader_fail : ay_MI y_Reader_fail prog_8_method_8_code 3 (some FieldType.long) 2 := ⟨wd_288, wd_2, by decide +kernel, by decide +kernel, by decide⟩
theorem mi_Reader_readNumber : ay_MI y_Reader_readNumber prog_8_method_19_code 6 (some FieldType.int) 2 := ⟨wd_272, wd_2, by decide +kernel, by decide +kernel, by decide⟩
theorem mi_Reader_readSign : ay_MI y_Reader_readSign prog_8_method_10_code 2 (some FieldType.boolean) 1 := ⟨wd_295, wd_2, by decide +kernel, by decide +kernel, by decide⟩
theorem mi_Reader_isSmallLetter : ay_MI y_Reader_isSmallLetter prog_8_method_23_code 1 (some FieldType.boolean) 1 := ⟨wd_322, wd_2, by decide +kernel, by decide +kernel, by decide⟩
theorem mi_Reader_readLetters : ay_MI y_Reader_readLetters prog_8_method_20_code 2 none 0 := ⟨wd_319, wd_2, by decide +kernel, by decide +kernel, by decide⟩
theorem mi_Reader_isWord : ay_MI y_Reader_isWord prog_8_method_21_code 4 (some FieldType.boolean) 2 := ⟨wd_327, wd_2, by decide +kernel, by decide +kernel, by decide⟩
theorem mi_Reader_readTri : ay_MI y_Reader_readTri prog_8_method_17_code 3 (some FieldType.long) 0 := ⟨wd_382, wd_2, by decide +kernel, by decide +kernel, by decide⟩
theorem mi_Reader_readOne : ay_MI y_Reader_readOne prog_8_method_16_code 4 (some FieldType.long) 0 := ⟨wd_311, wd_2, by decide +kernel, by decide +kernel, by decide⟩
theorem mi_Reader_readPower : ay_MI y_Reader_readPower prog_8_method_15_code 8 (some FieldType.long) 0 := ⟨wd_307, wd_2, by decide +kernel, by decide +kernel, by decide⟩
theorem mi_Reader_isPowerAhead : ay_MI y_Reader_isPowerAhead prog_8_method_14_code 2 (some FieldType.boolean) 0 := ⟨wd_412, wd_2, by decide +kernel, by decide +kernel, by decide⟩
theorem mi_Reader_readProduct : ay_MI y_Reader_readProduct prog_8_method_13_code 7 (some FieldType.long) 0 := ⟨wd_303, wd_2, by decide +kernel, by decide +kernel, by decide⟩
theorem mi_Reader_readSum : ay_MI y_Reader_readSum prog_8_method_12_code 4 (some FieldType.long) 0 := ⟨wd_299, wd_2, by decide +kernel, by decide +kernel, by decide⟩
theorem mi_Reader_readNested : ay_MI y_Reader_readNested prog_8_method_18_code 3 (some FieldType.long) 0 := ⟨wd_315, wd_2, by decide +kernel, by decide +kernel, by decide⟩
theorem mi_Reader_readStatement : ay_MI y_Reader_readStatement prog_8_method_11_code 4 none 0 := ⟨wd_268, wd_2, by decide +kernel, by decide +kernel, by decide⟩
theorem mi_Reader_readText : ay_MI y_Reader_readText prog_8_method_6_code 4 (some FieldType.int) 1 := ⟨wd_257, wd_2, by decide +kernel, by decide +kernel, by decide⟩
theorem mi_Reader_handOver : ay_MI y_Reader_handOver prog_8_method_7_code 3 none 1 := ⟨wd_432, wd_2, by decide +kernel, by decide +kernel, by decide⟩
theorem d_Reader_tape_0 : decode prog_8_method_2_code 0 = .ok (.aload_n 0, 1) := by decide +kernel
theorem d_Reader_tape_1 : decode prog_8_method_2_code 1 = .ok (.getfield 12, 3) := by decide +kernel
theorem d_Reader_tape_4 : decode prog_8_method_2_code 4 = .ok (.areturn, 1) := by decide +kernel
def cf_Reader_tape  (w : Wd) (P : Prop) : Prop :=
  P
theorem cf_Reader_tape_ok {g : ayG} {d : Nat} (hd : 0 ≤ d)   (w : Wd) (P : Prop) (h : cf_Reader_tape w P) : Call g y_Reader_tape prog_8_method_2_code 1 (some (FieldType.object "TriSplits$Tape")) d [.ref (g.1 + 1)] w (fun (r : Option Value) (w2 : Wd) => r = some (.ref (g.1 + 2)) ∧ w = w2 ∧ P) := by
  unfold cf_Reader_tape at h
  refine am_enter mi_Reader_tape (Nat.le_of_ble_eq_true rfl) ?_
  have hQ : P → (fun (r : Option Value) (w2 : Wd) => r = some (.ref (g.1 + 2)) ∧ w = w2 ∧ P) (some (.ref (g.1 + 2))) w := fun h => ⟨rfl, rfl, h⟩
  generalize (fun (r : Option Value) (w2 : Wd) => r = some (.ref (g.1 + 2)) ∧ w = w2 ∧ P) = Q at hQ ⊢
  show wp g (fun _ => True) y_Reader_tape prog_8_method_2_code 1 (some (FieldType.object "TriSplits$Tape")) d 0 [(0, .ref (g.1 + 1))] [] w Q
  refine am_aload_n d_Reader_tape_0 0 rfl ?_
  refine am_getf (T := F_Reader) (fs := ob_Reader g w 1) (C := R_Reader) (N := 8) (ci := 1) 0 d_Reader_tape_1 wd_50 rfl (by decide) (el_Reader (show ay_sh 1 = _ from rfl)) rfl i_Reader (by decide) rfl ?_
  exact am_areturn d_Reader_tape_4 rfl (hQ h)
theorem d_Reader_latestFault_0 : decode prog_8_method_3_code 0 = .ok (.aload_n 0, 1) := by decide +kernel
theorem d_Reader_latestFault_1 : decode prog_8_method_3_code 1 = .ok (.getfield 28, 3) := by decide +kernel
theorem d_Reader_latestFault_4 : decode prog_8_method_3_code 4 = .ok (.ireturn, 1) := by decide +kernel
def cf_Reader_latestFault  (w : Wd) (P : Int32 → Prop) : Prop :=
  P (w.1 1 5)
theorem cf_Reader_latestFault_ok {g : ayG} {d : Nat} (hd : 0 ≤ d)   (w : Wd) (P : Int32 → Prop) (h : cf_Reader_latestFault w P) : Call g y_Reader_latestFault prog_8_method_3_code 1 (some FieldType.int) d [.ref (g.1 + 1)] w (fun (r : Option Value) (w2 : Wd) => ∃ x, r = some (.int x) ∧ w = w2 ∧ P x) := by
  unfold cf_Reader_latestFault at h
  refine am_enter mi_Reader_latestFault (Nat.le_of_ble_eq_true rfl) ?_
  have hQ : ∀ x, P x → (fun (r : Option Value) (w2 : Wd) => ∃ x, r = some (.int x) ∧ w = w2 ∧ P x) (some (.int x)) w := fun x h => ⟨x, rfl, rfl, h⟩
  generalize (fun (r : Option Value) (w2 : Wd) => ∃ x, r = some (.int x) ∧ w = w2 ∧ P x) = Q at hQ ⊢
  show wp g (fun _ => True) y_Reader_latestFault prog_8_method_3_code 1 (some FieldType.int) d 0 [(0, .ref (g.1 + 1))] [] w Q
  refine am_aload_n d_Reader_latestFault_0 0 rfl ?_
  refine am_getf (T := F_Reader) (fs := ob_Reader g w 1) (C := R_Reader) (N := 8) (ci := 1) 5 d_Reader_latestFault_1 wd_55 rfl (by decide) (el_Reader (show ay_sh 1 = _ from rfl)) rfl i_Reader (by decide) rfl ?_
  exact am_ireturn d_Reader_latestFault_4 rfl rfl (hQ (w.1 1 5) h)
theorem d_Reader_within_0 : decode prog_8_method_4_code 0 = .ok (.aload_n 0, 1) := by decide +kernel
theorem d_Reader_within_1 : decode prog_8_method_4_code 1 = .ok (.getfield 35, 3) := by decide +kernel
theorem d_Reader_within_4 : decode prog_8_method_4_code 4 = .ok (.ireturn, 1) := by decide +kernel
def cf_Reader_within  (w : Wd) (P : Int32 → Prop) : Prop :=
  P (w.1 1 6)
theorem cf_Reader_within_ok {g : ayG} {d : Nat} (hd : 0 ≤ d)   (w : Wd) (P : Int32 → Prop) (h : cf_Reader_within w P) : Call g y_Reader_within prog_8_method_4_code 1 (some FieldType.int) d [.ref (g.1 + 1)] w (fun (r : Option Value) (w2 : Wd) => ∃ x, r = some (.int x) ∧ w = w2 ∧ P x) := by
  unfold cf_Reader_within at h
  refine am_enter mi_Reader_within (Nat.le_of_ble_eq_true rfl) ?_
  have hQ : ∀ x, P x → (fun (r : Option Value) (w2 : Wd) => ∃ x, r = some (.int x) ∧ w = w2 ∧ P x) (some (.int x)) w := fun x h => ⟨x, rfl, rfl, h⟩
  generalize (fun (r : Option Value) (w2 : Wd) => ∃ x, r = some (.int x) ∧ w = w2 ∧ P x) = Q at hQ ⊢
  show wp g (fun _ => True) y_Reader_within prog_8_method_4_code 1 (some FieldType.int) d 0 [(0, .ref (g.1 + 1))] [] w Q
  refine am_aload_n d_Reader_within_0 0 rfl ?_
  refine am_getf (T := F_Reader) (fs := ob_Reader g w 1) (C := R_Reader) (N := 8) (ci := 1) 6 d_Reader_within_1 wd_56 rfl (by decide) (el_Reader (show ay_sh 1 = _ from rfl)) rfl i_Reader (by decide) rfl ?_
  exact am_ireturn d_Reader_within_4 rfl rfl (hQ (w.1 1 6) h)
theorem d_Reader_innermost_0 : decode prog_8_method_5_code 0 = .ok (.aload_n 0, 1) := by decide +kernel
theorem d_Reader_innermost_1 : decode prog_8_method_5_code 1 = .ok (.getfield 32, 3) := by decide +kernel
theorem d_Reader_innermost_4 : decode prog_8_method_5_code 4 = .ok (.ireturn, 1) := by decide +kernel
def cf_Reader_innermost  (w : Wd) (P : Int32 → Prop) : Prop :=
  P (w.1 1 7)
theorem cf_Reader_innermost_ok {g : ayG} {d : Nat} (hd : 0 ≤ d)   (w : Wd) (P : Int32 → Prop) (h : cf_Reader_innermost w P) : Call g y_Reader_innermost prog_8_method_5_code 1 (some FieldType.int) d [.ref (g.1 + 1)] w (fun (r : Option Value) (w2 : Wd) => ∃ x, r = some (.int x) ∧ w = w2 ∧ P x) := by
  unfold cf_Reader_innermost at h
  refine am_enter mi_Reader_innermost (Nat.le_of_ble_eq_true rfl) ?_
  have hQ : ∀ x, P x → (fun (r : Option Value) (w2 : Wd) => ∃ x, r = some (.int x) ∧ w = w2 ∧ P x) (some (.int x)) w := fun x h => ⟨x, rfl, rfl, h⟩
  generalize (fun (r : Option Value) (w2 : Wd) => ∃ x, r = some (.int x) ∧ w = w2 ∧ P x) = Q at hQ ⊢
  show wp g (fun _ => True) y_Reader_innermost prog_8_method_5_code 1 (some FieldType.int) d 0 [(0, .ref (g.1 + 1))] [] w Q
  refine am_aload_n d_Reader_innermost_0 0 rfl ?_
  refine am_getf (T := F_Reader) (fs := ob_Reader g w 1) (C := R_Reader) (N := 8) (ci := 1) 7 d_Reader_innermost_1 wd_57 rfl (by decide) (el_Reader (show ay_sh 1 = _ from rfl)) rfl i_Reader (by decide) rfl ?_
  exact am_ireturn d_Reader_innermost_4 rfl rfl (hQ (w.1 1 7) h)
theorem d_Reader_peek_0 : decode prog_8_method_9_code 0 = .ok (.aload_n 0, 1) := by decide +kernel
theorem d_Reader_peek_1 : decode prog_8_method_9_code 1 = .ok (.getfield 42, 3) := by decide +kernel
theorem d_Reader_peek_4 : decode prog_8_method_9_code 4 = .ok (.istore_n 1, 1) := by decide +kernel
theorem d_Reader_peek_5 : decode prog_8_method_9_code 5 = .ok (.iload_n 1, 1) := by decide +kernel
theorem d_Reader_peek_6 : decode prog_8_method_9_code 6 = .ok (.aload_n 0, 1) := by decide +kernel
theorem d_Reader_peek_7 : decode prog_8_method_9_code 7 = .ok (.getfield 12, 3) := by decide +kernel
theorem d_Reader_peek_10 : decode prog_8_method_9_code 10 = .ok (.invokevirtual 63, 3) := by decide +kernel
theorem d_Reader_peek_13 : decode prog_8_method_9_code 13 = .ok (.if_icmp .ge 29, 3) := by decide +kernel
theorem d_Reader_peek_16 : decode prog_8_method_9_code 16 = .ok (.aload_n 0, 1) := by decide +kernel
theorem d_Reader_peek_17 : decode prog_8_method_9_code 17 = .ok (.getfield 12, 3) := by decide +kernel
theorem d_Reader_peek_20 : decode prog_8_method_9_code 20 = .ok (.iload_n 1, 1) := by decide +kernel
theorem d_Reader_peek_21 : decode prog_8_method_9_code 21 = .ok (.invokevirtual 66, 3) := by decide +kernel
theorem d_Reader_peek_24 : decode prog_8_method_9_code 24 = .ok (.bipush 32, 2) := by decide +kernel
theorem d_Reader_peek_26 : decode prog_8_method_9_code 26 = .ok (.if_icmp .ne 16, 3) := by decide +kernel
theorem d_Reader_peek_29 : decode prog_8_method_9_code 29 = .ok (.aload_n 0, 1) := by decide +kernel
theorem d_Reader_peek_30 : decode prog_8_method_9_code 30 = .ok (.iload_n 1, 1) := by decide +kernel
theorem d_Reader_peek_31 : decode prog_8_method_9_code 31 = .ok (.iconst 1, 1) := by decide +kernel
theorem d_Reader_peek_32 : decode prog_8_method_9_code 32 = .ok (.iadd, 1) := by decide +kernel
theorem d_Reader_peek_33 : decode prog_8_method_9_code 33 = .ok (.putfield 42, 3) := by decide +kernel
theorem d_Reader_peek_36 : decode prog_8_method_9_code 36 = .ok (.iinc 1 1, 3) := by decide +kernel
theorem d_Reader_peek_39 : decode prog_8_method_9_code 39 = .ok (.goto (-34), 3) := by decide +kernel
theorem d_Reader_peek_42 : decode prog_8_method_9_code 42 = .ok (.aload_n 0, 1) := by decide +kernel
theorem d_Reader_peek_43 : decode prog_8_method_9_code 43 = .ok (.getfield 12, 3) := by decide +kernel
theorem d_Reader_peek_46 : decode prog_8_method_9_code 46 = .ok (.aload_n 0, 1) := by decide +kernel
theorem d_Reader_peek_47 : decode prog_8_method_9_code 47 = .ok (.getfield 42, 3) := by decide +kernel
theorem d_Reader_peek_50 : decode prog_8_method_9_code 50 = .ok (.invokevirtual 66, 3) := by decide +kernel
theorem d_Reader_peek_53 : decode prog_8_method_9_code 53 = .ok (.ireturn, 1) := by decide +kernel
def cf_Reader_peek_B5  (K5 : Int32 → Wd → Prop) (P : Int32 → Wd → Prop) (x1 : Int32) (w : Wd) : Prop :=
  cf_Tape_size  w (fun r2 => ((r2 ≤ x1 → cf_Tape_at (w.1 1 3) w (fun r3 => P r3 w)) ∧ (¬ r2 ≤ x1 → cf_Tape_at x1 w (fun r4 => ((¬ r4 = (32 : Int32) → cf_Tape_at (w.1 1 3) w (fun r5 => P r5 w)) ∧ (r4 = (32 : Int32) → ∀ w6, w6 = wI w 1 3 (x1 + (1 : Int32)) → ∀ v7, v7 = x1 + (1 : Int32) → K5 v7 w6))))))
def cf_Reader_peek_L5   (P : Int32 → Wd → Prop) : Nat → Int32 → Wd → Prop
  | 0 => fun x1 w => False
  | n + 1 => fun x1 w => cf_Reader_peek_B5 (cf_Reader_peek_L5 P n) P x1 w
def cf_Reader_peek  (w : Wd) (P : Int32 → Wd → Prop) : Prop :=
  ∀ v1, v1 = w.1 1 3 → ∃ n, cf_Reader_peek_L5 P n v1 w
theorem cf_Reader_peek_B5_ok {g : ayG} {d : Nat} (hd : 1 ≤ d)   (w : Wd) (K5 : Int32 → Wd → Prop) (P : Int32 → Wd → Prop) (Q : Option Value → Wd → Prop) (hQ : ∀ x w2, P x w2 → Q (some (.int x)) w2) (hK5 : ∀ (x1 : Int32) (w : Wd), (K5 x1 w → wp g (fun _ => True) y_Reader_peek prog_8_method_9_code 2 (some FieldType.int) d 5 [(0, .ref (g.1 + 1)), (1, .int x1)] [] w Q)) (x1 : Int32) (h : cf_Reader_peek_B5 K5 P x1 w) : wp g (fun _ => True) y_Reader_peek prog_8_method_9_code 2 (some FieldType.int) d 5 [(0, .ref (g.1 + 1)), (1, .int x1)] [] w Q := by
  unfold cf_Reader_peek_B5 at h
  refine am_iload_n d_Reader_peek_5 1 rfl ?_
  refine am_aload_n d_Reader_peek_6 0 rfl ?_
  refine am_getf (T := F_Reader) (fs := ob_Reader g w 1) (C := R_Reader) (N := 8) (ci := 1) 0 d_Reader_peek_7 wd_50 rfl (by decide) (el_Reader (show ay_sh 1 = _ from rfl)) rfl i_Reader (by decide) rfl ?_
  refine am_callV (C := "TriSplits$Tape") (d2 := d - 1) [] d_Reader_peek_10 mi_Tape_size wd_277 wd_239 wd_240 (by decide) (el_Tape (show ay_sh 2 = _ from rfl)) rfl rfl (by omega) rfl rfl (Nat.le_of_ble_eq_true rfl) ?_
  refine Call.post ?_ (cf_Tape_size_ok (by omega)   w _ h)
  rintro _ _ ⟨r2, rfl, rfl, h⟩
  show wp g (fun _ => True) y_Reader_peek prog_8_method_9_code 2 (some FieldType.int) d 13 [(0, .ref (g.1 + 1)), (1, .int x1)] [.int r2, .int x1] w Q
  refine am_icmp_ge (tgt := 42) d_Reader_peek_13 (by decide) (fun c13 => ?_) (fun c13 => ?_)
  · have h := h.1 c13
    refine am_aload_n d_Reader_peek_42 0 rfl ?_
    refine am_getf (T := F_Reader) (fs := ob_Reader g w 1) (C := R_Reader) (N := 8) (ci := 1) 0 d_Reader_peek_43 wd_50 rfl (by decide) (el_Reader (show ay_sh 1 = _ from rfl)) rfl i_Reader (by decide) rfl ?_
    refine am_aload_n d_Reader_peek_46 0 rfl ?_
    refine am_getf (T := F_Reader) (fs := ob_Reader g w 1) (C := R_Reader) (N := 8) (ci := 1) 3 d_Reader_peek_47 wd_53 rfl (by decide) (el_Reader (show ay_sh 1 = _ from rfl)) rfl i_Reader (by decide) rfl ?_
    refine am_callV (C := "TriSplits$Tape") (d2 := d - 1) [.int (w.1 1 3)] d_Reader_peek_50 mi_Tape_at wd_278 wd_279 wd_280 (by decide) (el_Tape (show ay_sh 2 = _ from rfl)) rfl rfl (by omega) rfl rfl (Nat.le_of_ble_eq_true rfl) ?_
    refine Call.post ?_ (cf_Tape_at_ok (by omega) (w.1 1 3)  w _ h)
    rintro _ _ ⟨r3, rfl, rfl, h⟩
    show wp g (fun _ => True) y_Reader_peek prog_8_method_9_code 2 (some FieldType.int) d 53 [(0, .ref (g.1 + 1)), (1, .int x1)] [.int r3] w Q
    exact am_ireturn d_Reader_peek_53 rfl rfl (hQ r3 w h)
  · have h := h.2 c13
    refine am_aload_n d_Reader_peek_16 0 rfl ?_
    refine am_getf (T := F_Reader) (fs := ob_Reader g w 1) (C := R_Reader) (N := 8) (ci := 1) 0 d_Reader_peek_17 wd_50 rfl (by decide) (el_Reader (show ay_sh 1 = _ from rfl)) rfl i_Reader (by decide) rfl ?_
    refine am_iload_n d_Reader_peek_20 1 rfl ?_
    refine am_callV (C := "TriSplits$Tape") (d2 := d - 1) [.int x1] d_Reader_peek_21 mi_Tape_at wd_278 wd_279 wd_280 (by decide) (el_Tape (show ay_sh 2 = _ from rfl)) rfl rfl (by omega) rfl rfl (Nat.le_of_ble_eq_true rfl) ?_
    refine Call.post ?_ (cf_Tape_at_ok (by omega) x1  w _ h)
    rintro _ _ ⟨r4, rfl, rfl, h⟩
    show wp g (fun _ => True) y_Reader_peek prog_8_method_9_code 2 (some FieldType.int) d 24 [(0, .ref (g.1 + 1)), (1, .int x1)] [.int r4] w Q
    refine am_bipush (v := 32) d_Reader_peek_24 rfl ?_
    refine am_icmp_ne (tgt := 42) d_Reader_peek_26 (by decide) (fun c26 => ?_) (fun c26 => ?_)
    · have h := h.1 c26
      refine am_aload_n d_Reader_peek_42 0 rfl ?_
      refine am_getf (T := F_Reader) (fs := ob_Reader g w 1) (C := R_Reader) (N := 8) (ci := 1) 0 d_Reader_peek_43 wd_50 rfl (by decide) (el_Reader (show ay_sh 1 = _ from rfl)) rfl i_Reader (by decide) rfl ?_
      refine am_aload_n d_Reader_peek_46 0 rfl ?_
      refine am_getf (T := F_Reader) (fs := ob_Reader g w 1) (C := R_Reader) (N := 8) (ci := 1) 3 d_Reader_peek_47 wd_53 rfl (by decide) (el_Reader (show ay_sh 1 = _ from rfl)) rfl i_Reader (by decide) rfl ?_
      refine am_callV (C := "TriSplits$Tape") (d2 := d - 1) [.int (w.1 1 3)] d_Reader_peek_50 mi_Tape_at wd_278 wd_279 wd_280 (by decide) (el_Tape (show ay_sh 2 = _ from rfl)) rfl rfl (by omega) rfl rfl (Nat.le_of_ble_eq_true rfl) ?_
      refine Call.post ?_ (cf_Tape_at_ok (by omega) (w.1 1 3)  w _ h)
      rintro _ _ ⟨r5, rfl, rfl, h⟩
      show wp g (fun _ => True) y_Reader_peek prog_8_method_9_code 2 (some FieldType.int) d 53 [(0, .ref (g.1 + 1)), (1, .int x1)] [.int r5] w Q
      exact am_ireturn d_Reader_peek_53 rfl rfl (hQ r5 w h)
    · have h := h.2 c26
      refine am_aload_n d_Reader_peek_29 0 rfl ?_
      refine am_iload_n d_Reader_peek_30 1 rfl ?_
      refine am_iconst (v := 1) d_Reader_peek_31 rfl ?_
      refine am_iadd d_Reader_peek_32 ?_
      refine am_putf (w' := wI w 1 3 (x1 + (1 : Int32))) (ty := .int) (T := F_Reader) (fs := ob_Reader g w 1) (C := R_Reader) (N := 8) (ci := 1) 3 d_Reader_peek_33 wd_53 rfl (by decide) (el_Reader (show ay_sh 1 = _ from rfl)) rfl i_Reader (by decide) G_Reader ty_Reader n_Reader rfl (ty_Reader 3 (by decide)) rfl rfl (Nat.le_of_ble_eq_true rfl) ((el_Reader (show ay_sh 1 = _ from rfl)).trans (by rw [pf_Reader_at])) wI_o ?_
      obtain ⟨w6, ew6⟩ : ∃ z, z = wI w 1 3 (x1 + (1 : Int32)) := ⟨_, rfl⟩
      rw [← ew6]
      have h := h w6 ew6
      obtain ⟨v7, ev7⟩ : ∃ z : Int32, z = x1 + (1 : Int32) := ⟨_, rfl⟩
      have h := h v7 ev7
      refine am_iinc (v := v7) (l' := [(1, .int v7), (0, .ref (g.1 + 1))]) d_Reader_peek_36 1 rfl (by rw [ev7]; rfl) (by decide) rfl ?_
      refine am_goto (tgt := 5) d_Reader_peek_39 (by decide) ?_
      refine am_sub [1, 0] rfl ?_
      exact hK5 v7 w6 h
theorem cf_Reader_peek_L5_ok {g : ayG} {d : Nat} (hd : 1 ≤ d)    (P : Int32 → Wd → Prop) (Q : Option Value → Wd → Prop) (hQ : ∀ x w2, P x w2 → Q (some (.int x)) w2)  : ∀ (n : Nat) (x1 : Int32) (w : Wd) (h : cf_Reader_peek_L5 P n x1 w), wp g (fun _ => True) y_Reader_peek prog_8_method_9_code 2 (some FieldType.int) d 5 [(0, .ref (g.1 + 1)), (1, .int x1)] [] w Q
  | 0, x1, w, h => False.elim h
  | n + 1, x1, w, h => cf_Reader_peek_B5_ok hd   w (cf_Reader_peek_L5 P n) P Q hQ (fun x1 w h => cf_Reader_peek_L5_ok hd    P Q hQ  n x1 w h) x1 h
theorem cf_Reader_peek_ok {g : ayG} {d : Nat} (hd : 1 ≤ d)   (w : Wd) (P : Int32 → Wd → Prop) (h : cf_Reader_peek w P) : Call g y_Reader_peek prog_8_method_9_code 2 (some FieldType.int) d [.ref (g.1 + 1)] w (fun (r : Option Value) (w2 : Wd) => ∃ x, r = some (.int x) ∧ P x w2) := by
  unfold cf_Reader_peek at h
  refine am_enter mi_Reader_peek (Nat.le_of_ble_eq_true rfl) ?_
  have hQ : ∀ x w2, P x w2 → (fun (r : Option Value) (w2 : Wd) => ∃ x, r = some (.int x) ∧ P x w2) (some (.int x)) w2 := fun x w2 h => ⟨x, rfl, h⟩
  generalize (fun (r : Option Value) (w2 : Wd) => ∃ x, r = some (.int x) ∧ P x w2) = Q at hQ ⊢
  show wp g (fun _ => True) y_Reader_peek prog_8_method_9_code 2 (some FieldType.int) d 0 [(0, .ref (g.1 + 1))] [] w Q
  refine am_aload_n d_Reader_peek_0 0 rfl ?_
  refine am_getf (T := F_Reader) (fs := ob_Reader g w 1) (C := R_Reader) (N := 8) (ci := 1) 3 d_Reader_peek_1 wd_53 rfl (by decide) (el_Reader (show ay_sh 1 = _ from rfl)) rfl i_Reader (by decide) rfl ?_
  refine am_topi (fun v1 ev1 => ?_)
  have h := h v1 ev1
  refine am_istore_n (l' := [(1, .int v1), (0, .ref (g.1 + 1))]) d_Reader_peek_4 (by decide) rfl ?_
  refine am_sub [1, 0] rfl ?_
  obtain ⟨n, h⟩ := h
  exact cf_Reader_peek_L5_ok (by omega)    P Q hQ  n v1 w h
theorem d_Reader_isDigit_0 : decode prog_8_method_22_code 0 = .ok (.iload_n 0, 1) := by decide +kernel
theorem d_Reader_isDigit_1 : decode prog_8_method_22_code 1 = .ok (.bipush 48, 2) := by decide +kernel
theorem d_Reader_isDigit_3 : decode prog_8_method_22_code 3 = .ok (.if_icmp .lt 13, 3) := by decide +kernel
theorem d_Reader_isDigit_6 : decode prog_8_method_22_code 6 = .ok (.iload_n 0, 1) := by decide +kernel
theorem d_Reader_isDigit_7 : decode prog_8_method_22_code 7 = .ok (.bipush 57, 2) := by decide +kernel
theorem d_Reader_isDigit_9 : decode prog_8_method_22_code 9 = .ok (.if_icmp .gt 7, 3) := by decide +kernel
theorem d_Reader_isDigit_12 : decode prog_8_method_22_code 12 = .ok (.iconst 1, 1) := by decide +kernel
theorem d_Reader_isDigit_13 : decode prog_8_method_22_code 13 = .ok (.goto 4, 3) := by decide +kernel
theorem d_Reader_isDigit_16 : decode prog_8_method_22_code 16 = .ok (.iconst 0, 1) := by decide +kernel
theorem d_Reader_isDigit_17 : decode prog_8_method_22_code 17 = .ok (.ireturn, 1) := by decide +kernel
def cf_Reader_isDigit (a0 : Int32) (P : Int32 → Prop) : Prop :=
  ((a0 < (48 : Int32) → P (0 : Int32)) ∧ (¬ a0 < (48 : Int32) → (((57 : Int32) < a0 → P (0 : Int32)) ∧ (¬ (57 : Int32) < a0 → P (1 : Int32)))))
theorem cf_Reader_isDigit_ok {g : ayG} {d : Nat} (hd : 0 ≤ d) (a0 : Int32)  (w : Wd) (P : Int32 → Prop) (h : cf_Reader_isDigit a0 P) : Call g y_Reader_isDigit prog_8_method_22_code 1 (some FieldType.boolean) d [.int a0] w (fun (r : Option Value) (w2 : Wd) => ∃ x, r = some (.int x) ∧ w = w2 ∧ P x) := by
  unfold cf_Reader_isDigit at h
  refine am_enter mi_Reader_isDigit (Nat.le_of_ble_eq_true rfl) ?_
  have hQ : ∀ x, P x → (fun (r : Option Value) (w2 : Wd) => ∃ x, r = some (.int x) ∧ w = w2 ∧ P x) (some (.int x)) w := fun x h => ⟨x, rfl, rfl, h⟩
  generalize (fun (r : Option Value) (w2 : Wd) => ∃ x, r = some (.int x) ∧ w = w2 ∧ P x) = Q at hQ ⊢
  show wp g (fun _ => True) y_Reader_isDigit prog_8_method_22_code 1 (some FieldType.boolean) d 0 [(0, .int a0)] [] w Q
  refine am_iload_n d_Reader_isDigit_0 0 rfl ?_
  refine am_bipush (v := 48) d_Reader_isDigit_1 rfl ?_
  refine am_icmp_lt (tgt := 16) d_Reader_isDigit_3 (by decide) (fun c3 => ?_) (fun c3 => ?_)
  · have h := h.1 c3
    refine am_iconst (v := 0) d_Reader_isDigit_16 rfl ?_
    exact am_ireturn d_Reader_isDigit_17 rfl rfl (hQ (0 : Int32) h)
  · have h := h.2 c3
    refine am_iload_n d_Reader_isDigit_6 0 rfl ?_
    refine am_bipush (v := 57) d_Reader_isDigit_7 rfl ?_
    refine am_icmp_gt (tgt := 16) d_Reader_isDigit_9 (by decide) (fun c9 => ?_) (fun c9 => ?_)
    · have h := h.1 c9
      refine am_iconst (v := 0) d_Reader_isDigit_16 rfl ?_
      exact am_ireturn d_Reader_isDigit_17 rfl rfl (hQ (0 : Int32) h)
    · have h := h.2 c9
      refine am_iconst (v := 1) d_Reader_isDigit_12 rfl ?_
      refine am_goto (tgt := 17) d_Reader_isDigit_13 (by decide) ?_
      exact am_ireturn d_Reader_isDigit_17 rfl rfl (hQ (1 : Int32) h)
theorem d_Reader_fail_0 : decode prog_8_method_8_code 0 = .ok (.aload_n 0, 1) := by decide +kernel
theorem d_Reader_fail_1 : decode prog_8_method_8_code 1 = .ok (.bipush 8, 2) := by decide +kernel
theorem d_Reader_fail_3 : decode prog_8_method_8_code 3 = .ok (.iload_n 2, 1) := by decide +kernel
theorem d_Reader_fail_4 : decode prog_8_method_8_code 4 = .ok (.imul, 1) := by decide +kernel
theorem d_Reader_fail_5 : decode prog_8_method_8_code 5 = .ok (.iload_n 1, 1) := by decide +kernel
theorem d_Reader_fail_6 : decode prog_8_method_8_code 6 = .ok (.iadd, 1) := by decide +kernel
theorem d_Reader_fail_7 : decode prog_8_method_8_code 7 = .ok (.putfield 28, 3) := by decide +kernel
theorem d_Reader_fail_10 : decode prog_8_method_8_code 10 = .ok (.aload_n 0, 1) := by decide +kernel
theorem d_Reader_fail_11 : decode prog_8_method_8_code 11 = .ok (.aload_n 0, 1) := by decide +kernel
theorem d_Reader_fail_12 : decode prog_8_method_8_code 12 = .ok (.getfield 45, 3) := by decide +kernel
theorem d_Reader_fail_15 : decode prog_8_method_8_code 15 = .ok (.putfield 35, 3) := by decide +kernel
theorem d_Reader_fail_18 : decode prog_8_method_8_code 18 = .ok (.aload_n 0, 1) := by decide +kernel
theorem d_Reader_fail_19 : decode prog_8_method_8_code 19 = .ok (.aload_n 0, 1) := by decide +kernel
theorem d_Reader_fail_20 : decode prog_8_method_8_code 20 = .ok (.getfield 45, 3) := by decide +kernel
theorem d_Reader_fail_23 : decode prog_8_method_8_code 23 = .ok (.ifCond .le 29, 3) := by decide +kernel
theorem d_Reader_fail_26 : decode prog_8_method_8_code 26 = .ok (.aload_n 0, 1) := by decide +kernel
theorem d_Reader_fail_27 : decode prog_8_method_8_code 27 = .ok (.getfield 45, 3) := by decide +kernel
theorem d_Reader_fail_30 : decode prog_8_method_8_code 30 = .ok (.aload_n 0, 1) := by decide +kernel
theorem d_Reader_fail_31 : decode prog_8_method_8_code 31 = .ok (.getfield 24, 3) := by decide +kernel
theorem d_Reader_fail_34 : decode prog_8_method_8_code 34 = .ok (.arraylength, 1) := by decide +kernel
theorem d_Reader_fail_35 : decode prog_8_method_8_code 35 = .ok (.if_icmp .gt 17, 3) := by decide +kernel
theorem d_Reader_fail_38 : decode prog_8_method_8_code 38 = .ok (.aload_n 0, 1) := by decide +kernel
theorem d_Reader_fail_39 : decode prog_8_method_8_code 39 = .ok (.getfield 24, 3) := by decide +kernel
theorem d_Reader_fail_42 : decode prog_8_method_8_code 42 = .ok (.aload_n 0, 1) := by decide +kernel
theorem d_Reader_fail_43 : decode prog_8_method_8_code 43 = .ok (.getfield 45, 3) := by decide +kernel
theorem d_Reader_fail_46 : decode prog_8_method_8_code 46 = .ok (.iconst 1, 1) := by decide +kernel
theorem d_Reader_fail_47 : decode prog_8_method_8_code 47 = .ok (.isub, 1) := by decide +kernel
theorem d_Reader_fail_48 : decode prog_8_method_8_code 48 = .ok (.iaload, 1) := by decide +kernel
theorem d_Reader_fail_49 : decode prog_8_method_8_code 49 = .ok (.goto 4, 3) := by decide +kernel
theorem d_Reader_fail_52 : decode prog_8_method_8_code 52 = .ok (.iconst (-1), 1) := by decide +kernel
theorem d_Reader_fail_53 : decode prog_8_method_8_code 53 = .ok (.putfield 32, 3) := by decide +kernel
theorem d_Reader_fail_56 : decode prog_8_method_8_code 56 = .ok (.lconst 0, 1) := by decide +kernel
theorem d_Reader_fail_57 : decode prog_8_method_8_code 57 = .ok (.lreturn, 1) := by decide +kernel
def cf_Reader_fail (a0 : Int32) (a1 : Int32) (w : Wd) (P : Int64 → Wd → Prop) : Prop :=
  ∀ w1, w1 = wI w 1 5 (((8 : Int32) * a1) + a0) → ∀ w2, w2 = wI w1 1 6 (w1.1 1 4) → (((w2.1 1 4) ≤ 0 → ∀ w3, w3 = wI w2 1 7 (-1 : Int32) → P (0 : Int64) w3) ∧ (¬ (w2.1 1 4) ≤ 0 → (((6 : Int32) < (w2.1 1 4) → ∀ w4, w4 = wI w2 1 7 (-1 : Int32) → P (0 : Int64) w4) ∧ (¬ (6 : Int32) < (w2.1 1 4) → vp_in ((w2.1 1 4) - (1 : Int32)) 6 ∧ ∀ w5, w5 = wI w2 1 7 (w2.1 5 ((w2.1 1 4) - (1 : Int32)).toNatClampNeg) → P (0 : Int64) w5))))
theorem cf_Reader_fail_ok {g : ayG} {d : Nat} (hd : 0 ≤ d) (a0 : Int32) (a1 : Int32)  (w : Wd) (P : Int64 → Wd → Prop) (h : cf_Reader_fail a0 a1 w P) : Call g y_Reader_fail prog_8_method_8_code 3 (some FieldType.long) d [.ref (g.1 + 1), .int a0, .int a1] w (fun (r : Option Value) (w2 : Wd) => ∃ x, r = some (.long x) ∧ P x w2) := by
  unfold cf_Reader_fail at h
  refine am_enter mi_Reader_fail (Nat.le_of_ble_eq_true rfl) ?_
  have hQ : ∀ x w2, P x w2 → (fun (r : Option Value) (w2 : Wd) => ∃ x, r = some (.long x) ∧ P x w2) (some (.long x)) w2 := fun x w2 h => ⟨x, rfl, h⟩
  generalize (fun (r : Option Value) (w2 : Wd) => ∃ x, r = some (.long x) ∧ P x w2) = Q at hQ ⊢
  show wp g (fun _ => True) y_Reader_fail prog_8_method_8_code 3 (some FieldType.long) d 0 [(0, .ref (g.1 + 1)), (1, .int a0), (2, .int a1)] [] w Q
  refine am_aload_n d_Reader_fail_0 0 rfl ?_
  refine am_bipush (v := 8) d_Reader_fail_1 rfl ?_
  refine am_iload_n d_Reader_fail_3 2 rfl ?_
  refine am_imul d_Reader_fail_4 ?_
  refine am_iload_n d_Reader_fail_5 1 rfl ?_
  refine am_iadd d_Reader_fail_6 ?_
  refine am_putf (w' := wI w 1 5 (((8 : Int32) * a1) + a0)) (ty := .int) (T := F_Reader) (fs := ob_Reader g w 1) (C := R_Reader) (N := 8) (ci := 1) 5 d_Reader_fail_7 wd_55 rfl (by decide) (el_Reader (show ay_sh 1 = _ from rfl)) rfl i_Reader (by decide) G_Reader ty_Reader n_Reader rfl (ty_Reader 5 (by decide)) rfl rfl (Nat.le_of_ble_eq_true rfl) ((el_Reader (show ay_sh 1 = _ from rfl)).trans (by rw [pf_Reader_fault])) wI_o ?_
  obtain ⟨w1, ew1⟩ : ∃ z, z = wI w 1 5 (((8 : Int32) * a1) + a0) := ⟨_, rfl⟩
  rw [← ew1]
  have h := h w1 ew1
  refine am_aload_n d_Reader_fail_10 0 rfl ?_
  refine am_aload_n d_Reader_fail_11 0 rfl ?_
  refine am_getf (T := F_Reader) (fs := ob_Reader g w1 1) (C := R_Reader) (N := 8) (ci := 1) 4 d_Reader_fail_12 wd_54 rfl (by decide) (el_Reader (show ay_sh 1 = _ from rfl)) rfl i_Reader (by decide) rfl ?_
  refine am_putf (w' := wI w1 1 6 (w1.1 1 4)) (ty := .int) (T := F_Reader) (fs := ob_Reader g w1 1) (C := R_Reader) (N := 8) (ci := 1) 6 d_Reader_fail_15 wd_56 rfl (by decide) (el_Reader (show ay_sh 1 = _ from rfl)) rfl i_Reader (by decide) G_Reader ty_Reader n_Reader rfl (ty_Reader 6 (by decide)) rfl rfl (Nat.le_of_ble_eq_true rfl) ((el_Reader (show ay_sh 1 = _ from rfl)).trans (by rw [pf_Reader_within])) wI_o ?_
  obtain ⟨w2, ew2⟩ : ∃ z, z = wI w1 1 6 (w1.1 1 4) := ⟨_, rfl⟩
  rw [← ew2]
  have h := h w2 ew2
  refine am_aload_n d_Reader_fail_18 0 rfl ?_
  refine am_aload_n d_Reader_fail_19 0 rfl ?_
  refine am_getf (T := F_Reader) (fs := ob_Reader g w2 1) (C := R_Reader) (N := 8) (ci := 1) 4 d_Reader_fail_20 wd_54 rfl (by decide) (el_Reader (show ay_sh 1 = _ from rfl)) rfl i_Reader (by decide) rfl ?_
  refine am_if_le (tgt := 52) d_Reader_fail_23 (by decide) (fun c23 => ?_) (fun c23 => ?_)
  · have h := h.1 c23
    refine am_iconst (v := -1) d_Reader_fail_52 rfl ?_
    refine am_putf (w' := wI w2 1 7 (-1 : Int32)) (ty := .int) (T := F_Reader) (fs := ob_Reader g w2 1) (C := R_Reader) (N := 8) (ci := 1) 7 d_Reader_fail_53 wd_57 rfl (by decide) (el_Reader (show ay_sh 1 = _ from rfl)) rfl i_Reader (by decide) G_Reader ty_Reader n_Reader rfl (ty_Reader 7 (by decide)) rfl rfl (Nat.le_of_ble_eq_true rfl) ((el_Reader (show ay_sh 1 = _ from rfl)).trans (by rw [pf_Reader_innermost])) wI_o ?_
    obtain ⟨w3, ew3⟩ : ∃ z, z = wI w2 1 7 (-1 : Int32) := ⟨_, rfl⟩
    rw [← ew3]
    have h := h w3 ew3
    refine am_lconst (v := 0) d_Reader_fail_56 rfl ?_
    exact am_lreturn d_Reader_fail_57 rfl (hQ (0 : Int64) w3 h)
  · have h := h.2 c23
    refine am_aload_n d_Reader_fail_26 0 rfl ?_
    refine am_getf (T := F_Reader) (fs := ob_Reader g w2 1) (C := R_Reader) (N := 8) (ci := 1) 4 d_Reader_fail_27 wd_54 rfl (by decide) (el_Reader (show ay_sh 1 = _ from rfl)) rfl i_Reader (by decide) rfl ?_
    refine am_aload_n d_Reader_fail_30 0 rfl ?_
    refine am_getf (T := F_Reader) (fs := ob_Reader g w2 1) (C := R_Reader) (N := 8) (ci := 1) 2 d_Reader_fail_31 wd_52 rfl (by decide) (el_Reader (show ay_sh 1 = _ from rfl)) rfl i_Reader (by decide) rfl ?_
    refine am_alen (v := 6) d_Reader_fail_34 (show ay_sh 5 = _ from rfl) (by decide) rfl ?_
    refine am_icmp_gt (tgt := 52) d_Reader_fail_35 (by decide) (fun c35 => ?_) (fun c35 => ?_)
    · have h := h.1 c35
      refine am_iconst (v := -1) d_Reader_fail_52 rfl ?_
      refine am_putf (w' := wI w2 1 7 (-1 : Int32)) (ty := .int) (T := F_Reader) (fs := ob_Reader g w2 1) (C := R_Reader) (N := 8) (ci := 1) 7 d_Reader_fail_53 wd_57 rfl (by decide) (el_Reader (show ay_sh 1 = _ from rfl)) rfl i_Reader (by decide) G_Reader ty_Reader n_Reader rfl (ty_Reader 7 (by decide)) rfl rfl (Nat.le_of_ble_eq_true rfl) ((el_Reader (show ay_sh 1 = _ from rfl)).trans (by rw [pf_Reader_innermost])) wI_o ?_
      obtain ⟨w4, ew4⟩ : ∃ z, z = wI w2 1 7 (-1 : Int32) := ⟨_, rfl⟩
      rw [← ew4]
      have h := h w4 ew4
      refine am_lconst (v := 0) d_Reader_fail_56 rfl ?_
      exact am_lreturn d_Reader_fail_57 rfl (hQ (0 : Int64) w4 h)
    · have h := h.2 c35
      refine am_aload_n d_Reader_fail_38 0 rfl ?_
      refine am_getf (T := F_Reader) (fs := ob_Reader g w2 1) (C := R_Reader) (N := 8) (ci := 1) 2 d_Reader_fail_39 wd_52 rfl (by decide) (el_Reader (show ay_sh 1 = _ from rfl)) rfl i_Reader (by decide) rfl ?_
      refine am_aload_n d_Reader_fail_42 0 rfl ?_
      refine am_getf (T := F_Reader) (fs := ob_Reader g w2 1) (C := R_Reader) (N := 8) (ci := 1) 4 d_Reader_fail_43 wd_54 rfl (by decide) (el_Reader (show ay_sh 1 = _ from rfl)) rfl i_Reader (by decide) rfl ?_
      refine am_iconst (v := 1) d_Reader_fail_46 rfl ?_
      refine am_isub d_Reader_fail_47 ?_
      have hi48 := h.1
      have h := h.2
      refine am_iaload d_Reader_fail_48 (show ay_sh 5 = _ from rfl) hi48 ?_
      refine am_goto (tgt := 53) d_Reader_fail_49 (by decide) ?_
      refine am_putf (w' := wI w2 1 7 (w2.1 5 ((w2.1 1 4) - (1 : Int32)).toNatClampNeg)) (ty := .int) (T := F_Reader) (fs := ob_Reader g w2 1) (C := R_Reader) (N := 8) (ci := 1) 7 d_Reader_fail_53 wd_57 rfl (by decide) (el_Reader (show ay_sh 1 = _ from rfl)) rfl i_Reader (by decide) G_Reader ty_Reader n_Reader rfl (ty_Reader 7 (by decide)) rfl rfl (Nat.le_of_ble_eq_true rfl) ((el_Reader (show ay_sh 1 = _ from rfl)).trans (by rw [pf_Reader_innermost])) wI_o ?_
      obtain ⟨w5, ew5⟩ : ∃ z, z = wI w2 1 7 (w2.1 5 ((w2.1 1 4) - (1 : Int32)).toNatClampNeg) := ⟨_, rfl⟩
      rw [← ew5]
      have h := h w5 ew5
      refine am_lconst (v := 0) d_Reader_fail_56 rfl ?_
      exact am_lreturn d_Reader_fail_57 rfl (hQ (0 : Int64) w5 h)
theorem d_Reader_readNumber_0 : decode prog_8_method_19_code 0 = .ok (.aload_n 0, 1) := by decide +kernel
theorem d_Reader_readNumber_1 : decode prog_8_method_19_code 1 = .ok (.invokevirtual 51, 3) := by decide +kernel
theorem d_Reader_readNumber_4 : decode prog_8_method_19_code 4 = .ok (.invokestatic 99, 3) := by decide +kernel
theorem d_Reader_readNumber_7 : decode prog_8_method_19_code 7 = .ok (.ifCond .ne 15, 3) := by decide +kernel
theorem d_Reader_readNumber_10 : decode prog_8_method_19_code 10 = .ok (.aload_n 0, 1) := by decide +kernel
theorem d_Reader_readNumber_11 : decode prog_8_method_19_code 11 = .ok (.iconst 1, 1) := by decide +kernel
theorem d_Reader_readNumber_12 : decode prog_8_method_19_code 12 = .ok (.aload_n 0, 1) := by decide +kernel
theorem d_Reader_readNumber_13 : decode prog_8_method_19_code 13 = .ok (.getfield 42, 3) := by decide +kernel
theorem d_Reader_readNumber_16 : decode prog_8_method_19_code 16 = .ok (.invokevirtual 69, 3) := by decide +kernel
theorem d_Reader_readNumber_19 : decode prog_8_method_19_code 19 = .ok (.pop2, 1) := by decide +kernel
theorem d_Reader_readNumber_20 : decode prog_8_method_19_code 20 = .ok (.iload_n 1, 1) := by decide +kernel
theorem d_Reader_readNumber_21 : decode prog_8_method_19_code 21 = .ok (.ireturn, 1) := by decide +kernel
theorem d_Reader_readNumber_22 : decode prog_8_method_19_code 22 = .ok (.aload_n 0, 1) := by decide +kernel
theorem d_Reader_readNumber_23 : decode prog_8_method_19_code 23 = .ok (.getfield 42, 3) := by decide +kernel
theorem d_Reader_readNumber_26 : decode prog_8_method_19_code 26 = .ok (.istore_n 3, 1) := by decide +kernel
theorem d_Reader_readNumber_27 : decode prog_8_method_19_code 27 = .ok (.iconst 0, 1) := by decide +kernel
theorem d_Reader_readNumber_28 : decode prog_8_method_19_code 28 = .ok (.istore 4, 2) := by decide +kernel
theorem d_Reader_readNumber_30 : decode prog_8_method_19_code 30 = .ok (.aload_n 0, 1) := by decide +kernel
theorem d_Reader_readNumber_31 : decode prog_8_method_19_code 31 = .ok (.getfield 42, 3) := by decide +kernel
theorem d_Reader_readNumber_34 : decode prog_8_method_19_code 34 = .ok (.istore 5, 2) := by decide +kernel
theorem d_Reader_readNumber_36 : decode prog_8_method_19_code 36 = .ok (.iload 5, 2) := by decide +kernel
theorem d_Reader_readNumber_38 : decode prog_8_method_19_code 38 = .ok (.aload_n 0, 1) := by decide +kernel
theorem d_Reader_readNumber_39 : decode prog_8_method_19_code 39 = .ok (.getfield 12, 3) := by decide +kernel
theorem d_Reader_readNumber_42 : decode prog_8_method_19_code 42 = .ok (.invokevirtual 63, 3) := by decide +kernel
theorem d_Reader_readNumber_45 : decode prog_8_method_19_code 45 = .ok (.if_icmp .ge 58, 3) := by decide +kernel
theorem d_Reader_readNumber_48 : decode prog_8_method_19_code 48 = .ok (.aload_n 0, 1) := by decide +kernel
theorem d_Reader_readNumber_49 : decode prog_8_method_19_code 49 = .ok (.getfield 12, 3) := by decide +kernel
theorem d_Reader_readNumber_52 : decode prog_8_method_19_code 52 = .ok (.iload 5, 2) := by decide +kernel
theorem d_Reader_readNumber_54 : decode prog_8_method_19_code 54 = .ok (.invokevirtual 66, 3) := by decide +kernel
theorem d_Reader_readNumber_57 : decode prog_8_method_19_code 57 = .ok (.invokestatic 99, 3) := by decide +kernel
theorem d_Reader_readNumber_60 : decode prog_8_method_19_code 60 = .ok (.ifCond .eq 43, 3) := by decide +kernel
theorem d_Reader_readNumber_63 : decode prog_8_method_19_code 63 = .ok (.bipush 10, 2) := by decide +kernel
theorem d_Reader_readNumber_65 : decode prog_8_method_19_code 65 = .ok (.iload 4, 2) := by decide +kernel
theorem d_Reader_readNumber_67 : decode prog_8_method_19_code 67 = .ok (.imul, 1) := by decide +kernel
theorem d_Reader_readNumber_68 : decode prog_8_method_19_code 68 = .ok (.aload_n 0, 1) := by decide +kernel
theorem d_Reader_readNumber_69 : decode prog_8_method_19_code 69 = .ok (.getfield 12, 3) := by decide +kernel
theorem d_Reader_readNumber_72 : decode prog_8_method_19_code 72 = .ok (.iload 5, 2) := by decide +kernel
theorem d_Reader_readNumber_74 : decode prog_8_method_19_code 74 = .ok (.invokevirtual 66, 3) := by decide +kernel
theorem d_Reader_readNumber_77 : decode prog_8_method_19_code 77 = .ok (.iadd, 1) := by decide +kernel
theorem d_Reader_readNumber_78 : decode prog_8_method_19_code 78 = .ok (.bipush 48, 2) := by decide +kernel
theorem d_Reader_readNumber_80 : decode prog_8_method_19_code 80 = .ok (.isub, 1) := by decide +kernel
theorem d_Reader_readNumber_81 : decode prog_8_method_19_code 81 = .ok (.sipush 1000, 3) := by decide +kernel
theorem d_Reader_readNumber_84 : decode prog_8_method_19_code 84 = .ok (.invokestatic 147, 3) := by decide +kernel
theorem d_Reader_readNumber_87 : decode prog_8_method_19_code 87 = .ok (.istore 4, 2) := by decide +kernel
theorem d_Reader_readNumber_89 : decode prog_8_method_19_code 89 = .ok (.aload_n 0, 1) := by decide +kernel
theorem d_Reader_readNumber_90 : decode prog_8_method_19_code 90 = .ok (.iload 5, 2) := by decide +kernel
theorem d_Reader_readNumber_92 : decode prog_8_method_19_code 92 = .ok (.iconst 1, 1) := by decide +kernel
theorem d_Reader_readNumber_93 : decode prog_8_method_19_code 93 = .ok (.iadd, 1) := by decide +kernel
theorem d_Reader_readNumber_94 : decode prog_8_method_19_code 94 = .ok (.putfield 42, 3) := by decide +kernel
theorem d_Reader_readNumber_97 : decode prog_8_method_19_code 97 = .ok (.iinc 5 1, 3) := by decide +kernel
theorem d_Reader_readNumber_100 : decode prog_8_method_19_code 100 = .ok (.goto (-64), 3) := by decide +kernel
theorem d_Reader_readNumber_103 : decode prog_8_method_19_code 103 = .ok (.iload 4, 2) := by decide +kernel
theorem d_Reader_readNumber_105 : decode prog_8_method_19_code 105 = .ok (.iload_n 1, 1) := by decide +kernel
theorem d_Reader_readNumber_106 : decode prog_8_method_19_code 106 = .ok (.if_icmp .lt 9, 3) := by decide +kernel
theorem d_Reader_readNumber_109 : decode prog_8_method_19_code 109 = .ok (.iload 4, 2) := by decide +kernel
theorem d_Reader_readNumber_111 : decode prog_8_method_19_code 111 = .ok (.iload_n 2, 1) := by decide +kernel
theorem d_Reader_readNumber_112 : decode prog_8_method_19_code 112 = .ok (.if_icmp .le 12, 3) := by decide +kernel
theorem d_Reader_readNumber_115 : decode prog_8_method_19_code 115 = .ok (.aload_n 0, 1) := by decide +kernel
theorem d_Reader_readNumber_116 : decode prog_8_method_19_code 116 = .ok (.iconst 2, 1) := by decide +kernel
theorem d_Reader_readNumber_117 : decode prog_8_method_19_code 117 = .ok (.iload_n 3, 1) := by decide +kernel
theorem d_Reader_readNumber_118 : decode prog_8_method_19_code 118 = .ok (.invokevirtual 69, 3) := by decide +kernel
theorem d_Reader_readNumber_121 : decode prog_8_method_19_code 121 = .ok (.pop2, 1) := by decide +kernel
theorem d_Reader_readNumber_122 : decode prog_8_method_19_code 122 = .ok (.iload_n 1, 1) := by decide +kernel
theorem d_Reader_readNumber_123 : decode prog_8_method_19_code 123 = .ok (.ireturn, 1) := by decide +kernel
theorem d_Reader_readNumber_124 : decode prog_8_method_19_code 124 = .ok (.iload 4, 2) := by decide +kernel
theorem d_Reader_readNumber_126 : decode prog_8_method_19_code 126 = .ok (.ireturn, 1) := by decide +kernel
def cf_Reader_readNumber_B103   (P : Int32 → Wd → Prop) (x1 : Int32) (x2 : Int32) (x3 : Int32) (x4 : Int32) (w : Wd) : Prop :=
  ((x4 < x1 → cf_Reader_fail (2 : Int32) x3 w (fun r7 w8 => P x1 w8)) ∧ (¬ x4 < x1 → ((x4 ≤ x2 → P x4 w) ∧ (¬ x4 ≤ x2 → cf_Reader_fail (2 : Int32) x3 w (fun r9 w10 => P x1 w10)))))
def cf_Reader_readNumber_B36  (K36 : Int32 → Int32 → Int32 → Int32 → Int32 → Wd → Prop) (P : Int32 → Wd → Prop) (x1 : Int32) (x2 : Int32) (x3 : Int32) (x4 : Int32) (x5 : Int32) (w : Wd) : Prop :=
  cf_Tape_size  w (fun r6 => ((r6 ≤ x5 → cf_Reader_readNumber_B103 P x1 x2 x3 x4 w) ∧ (¬ r6 ≤ x5 → cf_Tape_at x5 w (fun r11 => cf_Reader_isDigit r11 (fun r12 => ((r12 = 0 → cf_Reader_readNumber_B103 P x1 x2 x3 x4 w) ∧ (¬ r12 = 0 → cf_Tape_at x5 w (fun r13 => ∀ v14, v14 = imin ((((10 : Int32) * x4) + r13) - (48 : Int32)) (1000 : Int32) → ∀ w15, w15 = wI w 1 3 (x5 + (1 : Int32)) → ∀ v16, v16 = x5 + (1 : Int32) → K36 x1 x2 x3 v14 v16 w15))))))))
def cf_Reader_readNumber_L36   (P : Int32 → Wd → Prop) : Nat → Int32 → Int32 → Int32 → Int32 → Int32 → Wd → Prop
  | 0 => fun x1 x2 x3 x4 x5 w => False
  | n + 1 => fun x1 x2 x3 x4 x5 w => cf_Reader_readNumber_B36 (cf_Reader_readNumber_L36 P n) P x1 x2 x3 x4 x5 w
def cf_Reader_readNumber (a0 : Int32) (a1 : Int32) (w : Wd) (P : Int32 → Wd → Prop) : Prop :=
  cf_Reader_peek  w (fun r1 w2 => cf_Reader_isDigit r1 (fun r3 => ((¬ r3 = 0 → ∀ v4, v4 = w2.1 1 3 → ∀ v5, v5 = w2.1 1 3 → ∃ n, cf_Reader_readNumber_L36 P n a0 a1 v4 (0 : Int32) v5 w2) ∧ (r3 = 0 → cf_Reader_fail (1 : Int32) (w2.1 1 3) w2 (fun r17 w18 => P a0 w18)))))
theorem cf_Reader_readNumber_B103_ok {g : ayG} {d : Nat} (hd : 2 ≤ d)   (w : Wd)  (P : Int32 → Wd → Prop) (Q : Option Value → Wd → Prop) (hQ : ∀ x w2, P x w2 → Q (some (.int x)) w2)  (x1 : Int32) (x2 : Int32) (x3 : Int32) (x4 : Int32) (h : cf_Reader_readNumber_B103 P x1 x2 x3 x4 w) : wp g (fun _ => True) y_Reader_readNumber prog_8_method_19_code 6 (some FieldType.int) d 103 [(0, .ref (g.1 + 1)), (1, .int x1), (2, .int x2), (3, .int x3), (4, .int x4)] [] w Q := by
  unfold cf_Reader_readNumber_B103 at h
  refine am_iload d_Reader_readNumber_103 4 rfl ?_
  refine am_iload_n d_Reader_readNumber_105 1 rfl ?_
  refine am_icmp_lt (tgt := 115) d_Reader_readNumber_106 (by decide) (fun c106 => ?_) (fun c106 => ?_)
  · have h := h.1 c106
    refine am_aload_n d_Reader_readNumber_115 0 rfl ?_
    refine am_iconst (v := 2) d_Reader_readNumber_116 rfl ?_
    refine am_iload_n d_Reader_readNumber_117 3 rfl ?_
    refine am_callV (C := y_Reader_fail.cls) (d2 := d - 1) [.int (2 : Int32), .int x3] d_Reader_readNumber_118 mi_Reader_fail wd_285 wd_287 ws_Reader_fail (by decide) (el_Reader (show ay_sh 1 = _ from rfl)) rfl rfl (by omega) rfl rfl (Nat.le_of_ble_eq_true rfl) ?_
    refine Call.post ?_ (cf_Reader_fail_ok (by omega) (2 : Int32) x3  w _ h)
    rintro _ w8 ⟨r7, rfl, h⟩
    show wp g (fun _ => True) y_Reader_readNumber prog_8_method_19_code 6 (some FieldType.int) d 121 [(0, .ref (g.1 + 1)), (1, .int x1), (2, .int x2), (3, .int x3), (4, .int x4)] [.long r7] w8 Q
    refine am_pop2_2 d_Reader_readNumber_121 rfl ?_
    refine am_iload_n d_Reader_readNumber_122 1 rfl ?_
    exact am_ireturn d_Reader_readNumber_123 rfl rfl (hQ x1 w8 h)
  · have h := h.2 c106
    refine am_iload d_Reader_readNumber_109 4 rfl ?_
    refine am_iload_n d_Reader_readNumber_111 2 rfl ?_
    refine am_icmp_le (tgt := 124) d_Reader_readNumber_112 (by decide) (fun c112 => ?_) (fun c112 => ?_)
    · have h := h.1 c112
      refine am_iload d_Reader_readNumber_124 4 rfl ?_
      exact am_ireturn d_Reader_readNumber_126 rfl rfl (hQ x4 w h)
    · have h := h.2 c112
      refine am_aload_n d_Reader_readNumber_115 0 rfl ?_
      refine am_iconst (v := 2) d_Reader_readNumber_116 rfl ?_
      refine am_iload_n d_Reader_readNumber_117 3 rfl ?_
      refine am_callV (C := y_Reader_fail.cls) (d2 := d - 1) [.int (2 : Int32), .int x3] d_Reader_readNumber_118 mi_Reader_fail wd_285 wd_287 ws_Reader_fail (by decide) (el_Reader (show ay_sh 1 = _ from rfl)) rfl rfl (by omega) rfl rfl (Nat.le_of_ble_eq_true rfl) ?_
      refine Call.post ?_ (cf_Reader_fail_ok (by omega) (2 : Int32) x3  w _ h)
      rintro _ w10 ⟨r9, rfl, h⟩
      show wp g (fun _ => True) y_Reader_readNumber prog_8_method_19_code 6 (some FieldType.int) d 121 [(0, .ref (g.1 + 1)), (1, .int x1), (2, .int x2), (3, .int x3), (4, .int x4)] [.long r9] w10 Q
      refine am_pop2_2 d_Reader_readNumber_121 rfl ?_
      refine am_iload_n d_Reader_readNumber_122 1 rfl ?_
      exact am_ireturn d_Reader_readNumber_123 rfl rfl (hQ x1 w10 h)
theorem cf_Reader_readNumber_B36_ok {g : ayG} {d : Nat} (hd : 2 ≤ d)   (w : Wd) (K36 : Int32 → Int32 → Int32 → Int32 → Int32 → Wd → Prop) (P : Int32 → Wd → Prop) (Q : Option Value → Wd → Prop) (hQ : ∀ x w2, P x w2 → Q (some (.int x)) w2) (hK36 : ∀ (x1 : Int32) (x2 : Int32) (x3 : Int32) (x4 : Int32) (x5 : Int32) (w : Wd), (K36 x1 x2 x3 x4 x5 w → wp g (fun _ => True) y_Reader_readNumber prog_8_method_19_code 6 (some FieldType.int) d 36 [(0, .ref (g.1 + 1)), (1, .int x1), (2, .int x2), (3, .int x3), (4, .int x4), (5, .int x5)] [] w Q)) (x1 : Int32) (x2 : Int32) (x3 : Int32) (x4 : Int32) (x5 : Int32) (h : cf_Reader_readNumber_B36 K36 P x1 x2 x3 x4 x5 w) : wp g (fun _ => True) y_Reader_readNumber prog_8_method_19_code 6 (some FieldType.int) d 36 [(0, .ref (g.1 + 1)), (1, .int x1), (2, .int x2), (3, .int x3), (4, .int x4), (5, .int x5)] [] w Q := by
  unfold cf_Reader_readNumber_B36 at h
  refine am_iload d_Reader_readNumber_36 5 rfl ?_
  refine am_aload_n d_Reader_readNumber_38 0 rfl ?_
  refine am_getf (T := F_Reader) (fs := ob_Reader g w 1) (C := R_Reader) (N := 8) (ci := 1) 0 d_Reader_readNumber_39 wd_50 rfl (by decide) (el_Reader (show ay_sh 1 = _ from rfl)) rfl i_Reader (by decide) rfl ?_
  refine am_callV (C := "TriSplits$Tape") (d2 := d - 1) [] d_Reader_readNumber_42 mi_Tape_size wd_277 wd_239 wd_240 (by decide) (el_Tape (show ay_sh 2 = _ from rfl)) rfl rfl (by omega) rfl rfl (Nat.le_of_ble_eq_true rfl) ?_
  refine Call.post ?_ (cf_Tape_size_ok (by omega)   w _ h)
  rintro _ _ ⟨r6, rfl, rfl, h⟩
  show wp g (fun _ => True) y_Reader_readNumber prog_8_method_19_code 6 (some FieldType.int) d 45 [(0, .ref (g.1 + 1)), (1, .int x1), (2, .int x2), (3, .int x3), (4, .int x4), (5, .int x5)] [.int r6, .int x5] w Q
  refine am_icmp_ge (tgt := 103) d_Reader_readNumber_45 (by decide) (fun c45 => ?_) (fun c45 => ?_)
  · have h := h.1 c45
    refine am_sub [0, 1, 2, 3, 4] rfl ?_
    exact cf_Reader_readNumber_B103_ok (by omega)   w  P Q hQ  x1 x2 x3 x4 h
  · have h := h.2 c45
    refine am_aload_n d_Reader_readNumber_48 0 rfl ?_
    refine am_getf (T := F_Reader) (fs := ob_Reader g w 1) (C := R_Reader) (N := 8) (ci := 1) 0 d_Reader_readNumber_49 wd_50 rfl (by decide) (el_Reader (show ay_sh 1 = _ from rfl)) rfl i_Reader (by decide) rfl ?_
    refine am_iload d_Reader_readNumber_52 5 rfl ?_
    refine am_callV (C := "TriSplits$Tape") (d2 := d - 1) [.int x5] d_Reader_readNumber_54 mi_Tape_at wd_278 wd_279 wd_280 (by decide) (el_Tape (show ay_sh 2 = _ from rfl)) rfl rfl (by omega) rfl rfl (Nat.le_of_ble_eq_true rfl) ?_
    refine Call.post ?_ (cf_Tape_at_ok (by omega) x5  w _ h)
    rintro _ _ ⟨r11, rfl, rfl, h⟩
    show wp g (fun _ => True) y_Reader_readNumber prog_8_method_19_code 6 (some FieldType.int) d 57 [(0, .ref (g.1 + 1)), (1, .int x1), (2, .int x2), (3, .int x3), (4, .int x4), (5, .int x5)] [.int r11] w Q
    refine am_callS (d2 := d - 1) [.int r11] d_Reader_readNumber_57 mi_Reader_isDigit wd_282 wd_283 (by omega) rfl rfl (Nat.le_of_ble_eq_true rfl) ?_
    refine Call.post ?_ (cf_Reader_isDigit_ok (by omega) r11  w _ h)
    rintro _ _ ⟨r12, rfl, rfl, h⟩
    show wp g (fun _ => True) y_Reader_readNumber prog_8_method_19_code 6 (some FieldType.int) d 60 [(0, .ref (g.1 + 1)), (1, .int x1), (2, .int x2), (3, .int x3), (4, .int x4), (5, .int x5)] [.int r12] w Q
    refine am_if_eq (tgt := 103) d_Reader_readNumber_60 (by decide) (fun c60 => ?_) (fun c60 => ?_)
    · have h := h.1 c60
      refine am_sub [0, 1, 2, 3, 4] rfl ?_
      exact cf_Reader_readNumber_B103_ok (by omega)   w  P Q hQ  x1 x2 x3 x4 h
    · have h := h.2 c60
      refine am_bipush (v := 10) d_Reader_readNumber_63 rfl ?_
      refine am_iload d_Reader_readNumber_65 4 rfl ?_
      refine am_imul d_Reader_readNumber_67 ?_
      refine am_aload_n d_Reader_readNumber_68 0 rfl ?_
      refine am_getf (T := F_Reader) (fs := ob_Reader g w 1) (C := R_Reader) (N := 8) (ci := 1) 0 d_Reader_readNumber_69 wd_50 rfl (by decide) (el_Reader (show ay_sh 1 = _ from rfl)) rfl i_Reader (by decide) rfl ?_
      refine am_iload d_Reader_readNumber_72 5 rfl ?_
      refine am_callV (C := "TriSplits$Tape") (d2 := d - 1) [.int x5] d_Reader_readNumber_74 mi_Tape_at wd_278 wd_279 wd_280 (by decide) (el_Tape (show ay_sh 2 = _ from rfl)) rfl rfl (by omega) rfl rfl (Nat.le_of_ble_eq_true rfl) ?_
      refine Call.post ?_ (cf_Tape_at_ok (by omega) x5  w _ h)
      rintro _ _ ⟨r13, rfl, rfl, h⟩
      show wp g (fun _ => True) y_Reader_readNumber prog_8_method_19_code 6 (some FieldType.int) d 77 [(0, .ref (g.1 + 1)), (1, .int x1), (2, .int x2), (3, .int x3), (4, .int x4), (5, .int x5)] [.int r13, .int ((10 : Int32) * x4)] w Q
      refine am_iadd d_Reader_readNumber_77 ?_
      refine am_bipush (v := 48) d_Reader_readNumber_78 rfl ?_
      refine am_isub d_Reader_readNumber_80 ?_
      refine am_sipush (v := 1000) d_Reader_readNumber_81 rfl ?_
      refine am_mmin d_Reader_readNumber_84 wd_289 (by omega) (Nat.le_of_ble_eq_true rfl) ?_
      refine am_topi (fun v14 ev14 => ?_)
      have h := h v14 ev14
      refine am_istore (l' := [(4, .int v14), (0, .ref (g.1 + 1)), (1, .int x1), (2, .int x2), (3, .int x3), (5, .int x5)]) d_Reader_readNumber_87 (by decide) rfl ?_
      refine am_aload_n d_Reader_readNumber_89 1 rfl ?_
      refine am_iload d_Reader_readNumber_90 5 rfl ?_
      refine am_iconst (v := 1) d_Reader_readNumber_92 rfl ?_
      refine am_iadd d_Reader_readNumber_93 ?_
      refine am_putf (w' := wI w 1 3 (x5 + (1 : Int32))) (ty := .int) (T := F_Reader) (fs := ob_Reader g w 1) (C := R_Reader) (N := 8) (ci := 1) 3 d_Reader_readNumber_94 wd_53 rfl (by decide) (el_Reader (show ay_sh 1 = _ from rfl)) rfl i_Reader (by decide) G_Reader ty_Reader n_Reader rfl (ty_Reader 3 (by decide)) rfl rfl (Nat.le_of_ble_eq_true rfl) ((el_Reader (show ay_sh 1 = _ from rfl)).trans (by rw [pf_Reader_at])) wI_o ?_
      obtain ⟨w15, ew15⟩ : ∃ z, z = wI w 1 3 (x5 + (1 : Int32)) := ⟨_, rfl⟩
      rw [← ew15]
      have h := h w15 ew15
      obtain ⟨v16, ev16⟩ : ∃ z : Int32, z = x5 + (1 : Int32) := ⟨_, rfl⟩
      have h := h v16 ev16
      refine am_iinc (v := v16) (l' := [(5, .int v16), (4, .int v14), (0, .ref (g.1 + 1)), (1, .int x1), (2, .int x2), (3, .int x3)]) d_Reader_readNumber_97 5 rfl (by rw [ev16]; rfl) (by decide) rfl ?_
      refine am_goto (tgt := 36) d_Reader_readNumber_100 (by decide) ?_
      refine am_sub [2, 3, 4, 5, 1, 0] rfl ?_
      exact hK36 x1 x2 x3 v14 v16 w15 h
theorem cf_Reader_readNumber_L36_ok {g : ayG} {d : Nat} (hd : 2 ≤ d)    (P : Int32 → Wd → Prop) (Q : Option Value → Wd → Prop) (hQ : ∀ x w2, P x w2 → Q (some (.int x)) w2)  : ∀ (n : Nat) (x1 : Int32) (x2 : Int32) (x3 : Int32) (x4 : Int32) (x5 : Int32) (w : Wd) (h : cf_Reader_readNumber_L36 P n x1 x2 x3 x4 x5 w), wp g (fun _ => True) y_Reader_readNumber prog_8_method_19_code 6 (some FieldType.int) d 36 [(0, .ref (g.1 + 1)), (1, .int x1), (2, .int x2), (3, .int x3), (4, .int x4), (5, .int x5)] [] w Q
  | 0, x1, x2, x3, x4, x5, w, h => False.elim h
  | n + 1, x1, x2, x3, x4, x5, w, h => cf_Reader_readNumber_B36_ok hd   w (cf_Reader_readNumber_L36 P n) P Q hQ (fun x1 x2 x3 x4 x5 w h => cf_Reader_readNumber_L36_ok hd    P Q hQ  n x1 x2 x3 x4 x5 w h) x1 x2 x3 x4 x5 h
theorem cf_Reader_readNumber_ok {g : ayG} {d : Nat} (hd : 2 ≤ d) (a0 : Int32) (a1 : Int32)  (w : Wd) (P : Int32 → Wd → Prop) (h : cf_Reader_readNumber a0 a1 w P) : Call g y_Reader_readNumber prog_8_method_19_code 6 (some FieldType.int) d [.ref (g.1 + 1), .int a0, .int a1] w (fun (r : Option Value) (w2 : Wd) => ∃ x, r = some (.int x) ∧ P x w2) := by
  unfold cf_Reader_readNumber at h
  refine am_enter mi_Reader_readNumber (Nat.le_of_ble_eq_true rfl) ?_
  have hQ : ∀ x w2, P x w2 → (fun (r : Option Value) (w2 : Wd) => ∃ x, r = some (.int x) ∧ P x w2) (some (.int x)) w2 := fun x w2 h => ⟨x, rfl, h⟩
  generalize (fun (r : Option Value) (w2 : Wd) => ∃ x, r = some (.int x) ∧ P x w2) = Q at hQ ⊢
  show wp g (fun _ => True) y_Reader_readNumber prog_8_method_19_code 6 (some FieldType.int) d 0 [(0, .ref (g.1 + 1)), (1, .int a0), (2, .int a1)] [] w Q
  refine am_aload_n d_Reader_readNumber_0 0 rfl ?_
  refine am_callV (C := y_Reader_peek.cls) (d2 := d - 1) [] d_Reader_readNumber_1 mi_Reader_peek wd_273 wd_275 ws_Reader_peek (by decide) (el_Reader (show ay_sh 1 = _ from rfl)) rfl rfl (by omega) rfl rfl (Nat.le_of_ble_eq_true rfl) ?_
  refine Call.post ?_ (cf_Reader_peek_ok (by omega)   w _ h)
  rintro _ w2 ⟨r1, rfl, h⟩
  show wp g (fun _ => True) y_Reader_readNumber prog_8_method_19_code 6 (some FieldType.int) d 4 [(0, .ref (g.1 + 1)), (1, .int a0), (2, .int a1)] [.int r1] w2 Q
  refine am_callS (d2 := d - 1) [.int r1] d_Reader_readNumber_4 mi_Reader_isDigit wd_282 wd_283 (by omega) rfl rfl (Nat.le_of_ble_eq_true rfl) ?_
  refine Call.post ?_ (cf_Reader_isDigit_ok (by omega) r1  w2 _ h)
  rintro _ _ ⟨r3, rfl, rfl, h⟩
  show wp g (fun _ => True) y_Reader_readNumber prog_8_method_19_code 6 (some FieldType.int) d 7 [(0, .ref (g.1 + 1)), (1, .int a0), (2, .int a1)] [.int r3] w2 Q
  refine am_if_ne (tgt := 22) d_Reader_readNumber_7 (by decide) (fun c7 => ?_) (fun c7 => ?_)
  · have h := h.1 c7
    refine am_aload_n d_Reader_readNumber_22 0 rfl ?_
    refine am_getf (T := F_Reader) (fs := ob_Reader g w2 1) (C := R_Reader) (N := 8) (ci := 1) 3 d_Reader_readNumber_23 wd_53 rfl (by decide) (el_Reader (show ay_sh 1 = _ from rfl)) rfl i_Reader (by decide) rfl ?_
    refine am_topi (fun v4 ev4 => ?_)
    have h := h v4 ev4
    refine am_istore_n (l' := [(3, .int v4), (0, .ref (g.1 + 1)), (1, .int a0), (2, .int a1)]) d_Reader_readNumber_26 (by decide) rfl ?_
    refine am_iconst (v := 0) d_Reader_readNumber_27 rfl ?_
    refine am_istore (l' := [(4, .int (0 : Int32)), (3, .int v4), (0, .ref (g.1 + 1)), (1, .int a0), (2, .int a1)]) d_Reader_readNumber_28 (by decide) rfl ?_
    refine am_aload_n d_Reader_readNumber_30 2 rfl ?_
    refine am_getf (T := F_Reader) (fs := ob_Reader g w2 1) (C := R_Reader) (N := 8) (ci := 1) 3 d_Reader_readNumber_31 wd_53 rfl (by decide) (el_Reader (show ay_sh 1 = _ from rfl)) rfl i_Reader (by decide) rfl ?_
    refine am_topi (fun v5 ev5 => ?_)
    have h := h v5 ev5
    refine am_istore (l' := [(5, .int v5), (4, .int (0 : Int32)), (3, .int v4), (0, .ref (g.1 + 1)), (1, .int a0), (2, .int a1)]) d_Reader_readNumber_34 (by decide) rfl ?_
    refine am_sub [3, 4, 5, 2, 1, 0] rfl ?_
    obtain ⟨n, h⟩ := h
    exact cf_Reader_readNumber_L36_ok (by omega)    P Q hQ  n a0 a1 v4 (0 : Int32) v5 w2 h
  · have h := h.2 c7
    refine am_aload_n d_Reader_readNumber_10 0 rfl ?_
    refine am_iconst (v := 1) d_Reader_readNumber_11 rfl ?_
    refine am_aload_n d_Reader_readNumber_12 0 rfl ?_
    refine am_getf (T := F_Reader) (fs := ob_Reader g w2 1) (C := R_Reader) (N := 8) (ci := 1) 3 d_Reader_readNumber_13 wd_53 rfl (by decide) (el_Reader (show ay_sh 1 = _ from rfl)) rfl i_Reader (by decide) rfl ?_
    refine am_callV (C := y_Reader_fail.cls) (d2 := d - 1) [.int (1 : Int32), .int (w2.1 1 3)] d_Reader_readNumber_16 mi_Reader_fail wd_285 wd_287 ws_Reader_fail (by decide) (el_Reader (show ay_sh 1 = _ from rfl)) rfl rfl (by omega) rfl rfl (Nat.le_of_ble_eq_true rfl) ?_
    refine Call.post ?_ (cf_Reader_fail_ok (by omega) (1 : Int32) (w2.1 1 3)  w2 _ h)
    rintro _ w18 ⟨r17, rfl, h⟩
    show wp g (fun _ => True) y_Reader_readNumber prog_8_method_19_code 6 (some FieldType.int) d 19 [(0, .ref (g.1 + 1)), (1, .int a0), (2, .int a1)] [.long r17] w18 Q
    refine am_pop2_2 d_Reader_readNumber_19 rfl ?_
    refine am_iload_n d_Reader_readNumber_20 1 rfl ?_
    exact am_ireturn d_Reader_readNumber_21 rfl rfl (hQ a0 w18 h)
theorem d_Reader_readSign_0 : decode prog_8_method_10_code 0 = .ok (.aload_n 0, 1) := by decide +kernel
theorem d_Reader_readSign_1 : decode prog_8_method_10_code 1 = .ok (.invokevirtual 51, 3) := by decide +kernel
theorem d_Reader_readSign_4 : decode prog_8_method_10_code 4 = .ok (.iload_n 1, 1) := by decide +kernel
theorem d_Reader_readSign_5 : decode prog_8_method_10_code 5 = .ok (.if_icmp .eq 15, 3) := by decide +kernel
theorem d_Reader_readSign_8 : decode prog_8_method_10_code 8 = .ok (.aload_n 0, 1) := by decide +kernel
theorem d_Reader_readSign_9 : decode prog_8_method_10_code 9 = .ok (.iconst 1, 1) := by decide +kernel
theorem d_Reader_readSign_10 : decode prog_8_method_10_code 10 = .ok (.aload_n 0, 1) := by decide +kernel
theorem d_Reader_readSign_11 : decode prog_8_method_10_code 11 = .ok (.getfield 42, 3) := by decide +kernel
theorem d_Reader_readSign_14 : decode prog_8_method_10_code 14 = .ok (.invokevirtual 69, 3) := by decide +kernel
theorem d_Reader_readSign_17 : decode prog_8_method_10_code 17 = .ok (.pop2, 1) := by decide +kernel
theorem d_Reader_readSign_18 : decode prog_8_method_10_code 18 = .ok (.iconst 0, 1) := by decide +kernel
theorem d_Reader_readSign_19 : decode prog_8_method_10_code 19 = .ok (.ireturn, 1) := by decide +kernel
theorem d_Reader_readSign_20 : decode prog_8_method_10_code 20 = .ok (.aload_n 0, 1) := by decide +kernel
theorem d_Reader_readSign_21 : decode prog_8_method_10_code 21 = .ok (.dup, 1) := by decide +kernel
theorem d_Reader_readSign_22 : decode prog_8_method_10_code 22 = .ok (.getfield 42, 3) := by decide +kernel
theorem d_Reader_readSign_25 : decode prog_8_method_10_code 25 = .ok (.iconst 1, 1) := by decide +kernel
theorem d_Reader_readSign_26 : decode prog_8_method_10_code 26 = .ok (.iadd, 1) := by decide +kernel
theorem d_Reader_readSign_27 : decode prog_8_method_10_code 27 = .ok (.putfield 42, 3) := by decide +kernel
theorem d_Reader_readSign_30 : decode prog_8_method_10_code 30 = .ok (.iconst 1, 1) := by decide +kernel
theorem d_Reader_readSign_31 : decode prog_8_method_10_code 31 = .ok (.ireturn, 1) := by decide +kernel
def cf_Reader_readSign (a0 : Int32) (w : Wd) (P : Int32 → Wd → Prop) : Prop :=
  cf_Reader_peek  w (fun r1 w2 => ((r1 = a0 → ∀ w3, w3 = wI w2 1 3 ((w2.1 1 3) + (1 : Int32)) → P (1 : Int32) w3) ∧ (¬ r1 = a0 → cf_Reader_fail (1 : Int32) (w2.1 1 3) w2 (fun r4 w5 => P (0 : Int32) w5))))
theorem cf_Reader_readSign_ok {g : ayG} {d : Nat} (hd : 2 ≤ d) (a0 : Int32)  (w : Wd) (P : Int32 → Wd → Prop) (h : cf_Reader_readSign a0 w P) : Call g y_Reader_readSign prog_8_method_10_code 2 (some FieldType.boolean) d [.ref (g.1 + 1), .int a0] w (fun (r : Option Value) (w2 : Wd) => ∃ x, r = some (.int x) ∧ P x w2) := by
  unfold cf_Reader_readSign at h
  refine am_enter mi_Reader_readSign (Nat.le_of_ble_eq_true rfl) ?_
  have hQ : ∀ x w2, P x w2 → (fun (r : Option Value) (w2 : Wd) => ∃ x, r = some (.int x) ∧ P x w2) (some (.int x)) w2 := fun x w2 h => ⟨x, rfl, h⟩
  generalize (fun (r : Option Value) (w2 : Wd) => ∃ x, r = some (.int x) ∧ P x w2) = Q at hQ ⊢
  show wp g (fun _ => True) y_Reader_readSign prog_8_method_10_code 2 (some FieldType.boolean) d 0 [(0, .ref (g.1 + 1)), (1, .int a0)] [] w Q
  refine am_aload_n d_Reader_readSign_0 0 rfl ?_
  refine am_callV (C := y_Reader_peek.cls) (d2 := d - 1) [] d_Reader_readSign_1 mi_Reader_peek wd_273 wd_275 ws_Reader_peek (by decide) (el_Reader (show ay_sh 1 = _ from rfl)) rfl rfl (by omega) rfl rfl (Nat.le_of_ble_eq_true rfl) ?_
  refine Call.post ?_ (cf_Reader_peek_ok (by omega)   w _ h)
  rintro _ w2 ⟨r1, rfl, h⟩
  show wp g (fun _ => True) y_Reader_readSign prog_8_method_10_code 2 (some FieldType.boolean) d 4 [(0, .ref (g.1 + 1)), (1, .int a0)] [.int r1] w2 Q
  refine am_iload_n d_Reader_readSign_4 1 rfl ?_
  refine am_icmp_eq (tgt := 20) d_Reader_readSign_5 (by decide) (fun c5 => ?_) (fun c5 => ?_)
  · have h := h.1 c5
    refine am_aload_n d_Reader_readSign_20 0 rfl ?_
    refine am_dup d_Reader_readSign_21 rfl ?_
    refine am_getf (T := F_Reader) (fs := ob_Reader g w2 1) (C := R_Reader) (N := 8) (ci := 1) 3 d_Reader_readSign_22 wd_53 rfl (by decide) (el_Reader (show ay_sh 1 = _ from rfl)) rfl i_Reader (by decide) rfl ?_
    refine am_iconst (v := 1) d_Reader_readSign_25 rfl ?_
    refine am_iadd d_Reader_readSign_26 ?_
    refine am_putf (w' := wI w2 1 3 ((w2.1 1 3) + (1 : Int32))) (ty := .int) (T := F_Reader) (fs := ob_Reader g w2 1) (C := R_Reader) (N := 8) (ci := 1) 3 d_Reader_readSign_27 wd_53 rfl (by decide) (el_Reader (show ay_sh 1 = _ from rfl)) rfl i_Reader (by decide) G_Reader ty_Reader n_Reader rfl (ty_Reader 3 (by decide)) rfl rfl (Nat.le_of_ble_eq_true rfl) ((el_Reader (show ay_sh 1 = _ from rfl)).trans (by rw [pf_Reader_at])) wI_o ?_
    obtain ⟨w3, ew3⟩ : ∃ z, z = wI w2 1 3 ((w2.1 1 3) + (1 : Int32)) := ⟨_, rfl⟩
    rw [← ew3]
    have h := h w3 ew3
    refine am_iconst (v := 1) d_Reader_readSign_30 rfl ?_
    exact am_ireturn d_Reader_readSign_31 rfl rfl (hQ (1 : Int32) w3 h)
  · have h := h.2 c5
    refine am_aload_n d_Reader_readSign_8 0 rfl ?_
    refine am_iconst (v := 1) d_Reader_readSign_9 rfl ?_
    refine am_aload_n d_Reader_readSign_10 0 rfl ?_
    refine am_getf (T := F_Reader) (fs := ob_Reader g w2 1) (C := R_Reader) (N := 8) (ci := 1) 3 d_Reader_readSign_11 wd_53 rfl (by decide) (el_Reader (show ay_sh 1 = _ from rfl)) rfl i_Reader (by decide) rfl ?_
    refine am_callV (C := y_Reader_fail.cls) (d2 := d - 1) [.int (1 : Int32), .int (w2.1 1 3)] d_Reader_readSign_14 mi_Reader_fail wd_285 wd_287 ws_Reader_fail (by decide) (el_Reader (show ay_sh 1 = _ from rfl)) rfl rfl (by omega) rfl rfl (Nat.le_of_ble_eq_true rfl) ?_
    refine Call.post ?_ (cf_Reader_fail_ok (by omega) (1 : Int32) (w2.1 1 3)  w2 _ h)
    rintro _ w5 ⟨r4, rfl, h⟩
    show wp g (fun _ => True) y_Reader_readSign prog_8_method_10_code 2 (some FieldType.boolean) d 17 [(0, .ref (g.1 + 1)), (1, .int a0)] [.long r4] w5 Q
    refine am_pop2_2 d_Reader_readSign_17 rfl ?_
    refine am_iconst (v := 0) d_Reader_readSign_18 rfl ?_
    exact am_ireturn d_Reader_readSign_19 rfl rfl (hQ (0 : Int32) w5 h)
theorem d_Reader_isSmallLetter_0 : decode prog_8_method_23_code 0 = .ok (.iload_n 0, 1) := by decide +kernel
theorem d_Reader_isSmallLetter_1 : decode prog_8_method_23_code 1 = .ok (.bipush 97, 2) := by decide +kernel
theorem d_Reader_isSmallLetter_3 : decode prog_8_method_23_code 3 = .ok (.if_icmp .lt 13, 3) := by decide +kernel
theorem d_Reader_isSmallLetter_6 : decode prog_8_method_23_code 6 = .ok (.iload_n 0, 1) := by decide +kernel
theorem d_Reader_isSmallLetter_7 : decode prog_8_method_23_code 7 = .ok (.bipush 122, 2) := by decide +kernel
theorem d_Reader_isSmallLetter_9 : decode prog_8_method_23_code 9 = .ok (.if_icmp .gt 7, 3) := by decide +kernel
theorem d_Reader_isSmallLetter_12 : decode prog_8_method_23_code 12 = .ok (.iconst 1, 1) := by decide +kernel
theorem d_Reader_isSmallLetter_13 : decode prog_8_method_23_code 13 = .ok (.goto 4, 3) := by decide +kernel
theorem d_Reader_isSmallLetter_16 : decode prog_8_method_23_code 16 = .ok (.iconst 0, 1) := by decide +kernel
theorem d_Reader_isSmallLetter_17 : decode prog_8_method_23_code 17 = .ok (.ireturn, 1) := by decide +kernel
def cf_Reader_isSmallLetter (a0 : Int32) (P : Int32 → Prop) : Prop :=
  ((a0 < (97 : Int32) → P (0 : Int32)) ∧ (¬ a0 < (97 : Int32) → (((122 : Int32) < a0 → P (0 : Int32)) ∧ (¬ (122 : Int32) < a0 → P (1 : Int32)))))
theorem cf_Reader_isSmallLetter_ok {g : ayG} {d : Nat} (hd : 0 ≤ d) (a0 : Int32)  (w : Wd) (P : Int32 → Prop) (h : cf_Reader_isSmallLetter a0 P) : Call g y_Reader_isSmallLetter prog_8_method_23_code 1 (some FieldType.boolean) d [.int a0] w (fun (r : Option Value) (w2 : Wd) => ∃ x, r = some (.int x) ∧ w = w2 ∧ P x) := by
  unfold cf_Reader_isSmallLetter at h
  refine am_enter mi_Reader_isSmallLetter (Nat.le_of_ble_eq_true rfl) ?_
  have hQ : ∀ x, P x → (fun (r : Option Value) (w2 : Wd) => ∃ x, r = some (.int x) ∧ w = w2 ∧ P x) (some (.int x)) w := fun x h => ⟨x, rfl, rfl, h⟩
  generalize (fun (r : Option Value) (w2 : Wd) => ∃ x, r = some (.int x) ∧ w = w2 ∧ P x) = Q at hQ ⊢
  show wp g (fun _ => True) y_Reader_isSmallLetter prog_8_method_23_code 1 (some FieldType.boolean) d 0 [(0, .int a0)] [] w Q
  refine am_iload_n d_Reader_isSmallLetter_0 0 rfl ?_
  refine am_bipush (v := 97) d_Reader_isSmallLetter_1 rfl ?_
  refine am_icmp_lt (tgt := 16) d_Reader_isSmallLetter_3 (by decide) (fun c3 => ?_) (fun c3 => ?_)
  · have h := h.1 c3
    refine am_iconst (v := 0) d_Reader_isSmallLetter_16 rfl ?_
    exact am_ireturn d_Reader_isSmallLetter_17 rfl rfl (hQ (0 : Int32) h)
  · have h := h.2 c3
    refine am_iload_n d_Reader_isSmallLetter_6 0 rfl ?_
    refine am_bipush (v := 122) d_Reader_isSmallLetter_7 rfl ?_
    refine am_icmp_gt (tgt := 16) d_Reader_isSmallLetter_9 (by decide) (fun c9 => ?_) (fun c9 => ?_)
    · have h := h.1 c9
      refine am_iconst (v := 0) d_Reader_isSmallLetter_16 rfl ?_
      exact am_ireturn d_Reader_isSmallLetter_17 rfl rfl (hQ (0 : Int32) h)
    · have h := h.2 c9
      refine am_iconst (v := 1) d_Reader_isSmallLetter_12 rfl ?_
      refine am_goto (tgt := 17) d_Reader_isSmallLetter_13 (by decide) ?_
      exact am_ireturn d_Reader_isSmallLetter_17 rfl rfl (hQ (1 : Int32) h)
theorem d_Reader_readLetters_0 : decode prog_8_method_20_code 0 = .ok (.aload_n 0, 1) := by decide +kernel
theorem d_Reader_readLetters_1 : decode prog_8_method_20_code 1 = .ok (.getfield 42, 3) := by decide +kernel
theorem d_Reader_readLetters_4 : decode prog_8_method_20_code 4 = .ok (.istore_n 1, 1) := by decide +kernel
theorem d_Reader_readLetters_5 : decode prog_8_method_20_code 5 = .ok (.iload_n 1, 1) := by decide +kernel
theorem d_Reader_readLetters_6 : decode prog_8_method_20_code 6 = .ok (.aload_n 0, 1) := by decide +kernel
theorem d_Reader_readLetters_7 : decode prog_8_method_20_code 7 = .ok (.getfield 12, 3) := by decide +kernel
theorem d_Reader_readLetters_10 : decode prog_8_method_20_code 10 = .ok (.invokevirtual 63, 3) := by decide +kernel
theorem d_Reader_readLetters_13 : decode prog_8_method_20_code 13 = .ok (.if_icmp .ge 30, 3) := by decide +kernel
theorem d_Reader_readLetters_16 : decode prog_8_method_20_code 16 = .ok (.aload_n 0, 1) := by decide +kernel
theorem d_Reader_readLetters_17 : decode prog_8_method_20_code 17 = .ok (.getfield 12, 3) := by decide +kernel
theorem d_Reader_readLetters_20 : decode prog_8_method_20_code 20 = .ok (.iload_n 1, 1) := by decide +kernel
theorem d_Reader_readLetters_21 : decode prog_8_method_20_code 21 = .ok (.invokevirtual 66, 3) := by decide +kernel
theorem d_Reader_readLetters_24 : decode prog_8_method_20_code 24 = .ok (.invokestatic 103, 3) := by decide +kernel
theorem d_Reader_readLetters_27 : decode prog_8_method_20_code 27 = .ok (.ifCond .eq 16, 3) := by decide +kernel
theorem d_Reader_readLetters_30 : decode prog_8_method_20_code 30 = .ok (.aload_n 0, 1) := by decide +kernel
theorem d_Reader_readLetters_31 : decode prog_8_method_20_code 31 = .ok (.iload_n 1, 1) := by decide +kernel
theorem d_Reader_readLetters_32 : decode prog_8_method_20_code 32 = .ok (.iconst 1, 1) := by decide +kernel
theorem d_Reader_readLetters_33 : decode prog_8_method_20_code 33 = .ok (.iadd, 1) := by decide +kernel
theorem d_Reader_readLetters_34 : decode prog_8_method_20_code 34 = .ok (.putfield 42, 3) := by decide +kernel
theorem d_Reader_readLetters_37 : decode prog_8_method_20_code 37 = .ok (.iinc 1 1, 3) := by decide +kernel
theorem d_Reader_readLetters_40 : decode prog_8_method_20_code 40 = .ok (.goto (-35), 3) := by decide +kernel
theorem d_Reader_readLetters_43 : decode prog_8_method_20_code 43 = .ok (.return_, 1) := by decide +kernel
def cf_Reader_readLetters_B5  (K5 : Int32 → Wd → Prop) (P : Wd → Prop) (x1 : Int32) (w : Wd) : Prop :=
  cf_Tape_size  w (fun r2 => ((r2 ≤ x1 → P w) ∧ (¬ r2 ≤ x1 → cf_Tape_at x1 w (fun r3 => cf_Reader_isSmallLetter r3 (fun r4 => ((r4 = 0 → P w) ∧ (¬ r4 = 0 → ∀ w5, w5 = wI w 1 3 (x1 + (1 : Int32)) → ∀ v6, v6 = x1 + (1 : Int32) → K5 v6 w5)))))))
def cf_Reader_readLetters_L5   (P : Wd → Prop) : Nat → Int32 → Wd → Prop
  | 0 => fun x1 w => False
  | n + 1 => fun x1 w => cf_Reader_readLetters_B5 (cf_Reader_readLetters_L5 P n) P x1 w
def cf_Reader_readLetters  (w : Wd) (P : Wd → Prop) : Prop :=
  ∀ v1, v1 = w.1 1 3 → ∃ n, cf_Reader_readLetters_L5 P n v1 w
theorem cf_Reader_readLetters_B5_ok {g : ayG} {d : Nat} (hd : 1 ≤ d)   (w : Wd) (K5 : Int32 → Wd → Prop) (P : Wd → Prop) (Q : Option Value → Wd → Prop) (hQ : ∀ w2, P w2 → Q none w2) (hK5 : ∀ (x1 : Int32) (w : Wd), (K5 x1 w → wp g (fun _ => True) y_Reader_readLetters prog_8_method_20_code 2 none d 5 [(0, .ref (g.1 + 1)), (1, .int x1)] [] w Q)) (x1 : Int32) (h : cf_Reader_readLetters_B5 K5 P x1 w) : wp g (fun _ => True) y_Reader_readLetters prog_8_method_20_code 2 none d 5 [(0, .ref (g.1 + 1)), (1, .int x1)] [] w Q := by
  unfold cf_Reader_readLetters_B5 at h
  refine am_iload_n d_Reader_readLetters_5 1 rfl ?_
  refine am_aload_n d_Reader_readLetters_6 0 rfl ?_
  refine am_getf (T := F_Reader) (fs := ob_Reader g w 1) (C := R_Reader) (N := 8) (ci := 1) 0 d_Reader_readLetters_7 wd_50 rfl (by decide) (el_Reader (show ay_sh 1 = _ from rfl)) rfl i_Reader (by decide) rfl ?_
  refine am_callV (C := "TriSplits$Tape") (d2 := d - 1) [] d_Reader_readLetters_10 mi_Tape_size wd_277 wd_239 wd_240 (by decide) (el_Tape (show ay_sh 2 = _ from rfl)) rfl rfl (by omega) rfl rfl (Nat.le_of_ble_eq_true rfl) ?_
  refine Call.post ?_ (cf_Tape_size_ok (by omega)   w _ h)
  rintro _ _ ⟨r2, rfl, rfl, h⟩
  show wp g (fun _ => True) y_Reader_readLetters prog_8_method_20_code 2 none d 13 [(0, .ref (g.1 + 1)), (1, .int x1)] [.int r2, .int x1] w Q
  refine am_icmp_ge (tgt := 43) d_Reader_readLetters_13 (by decide) (fun c13 => ?_) (fun c13 => ?_)
  · have h := h.1 c13
    exact am_return d_Reader_readLetters_43 rfl (hQ w h)
  · have h := h.2 c13
    refine am_aload_n d_Reader_readLetters_16 0 rfl ?_
    refine am_getf (T := F_Reader) (fs := ob_Reader g w 1) (C := R_Reader) (N := 8) (ci := 1) 0 d_Reader_readLetters_17 wd_50 rfl (by decide) (el_Reader (show ay_sh 1 = _ from rfl)) rfl i_Reader (by decide) rfl ?_
    refine am_iload_n d_Reader_readLetters_20 1 rfl ?_
    refine am_callV (C := "TriSplits$Tape") (d2 := d - 1) [.int x1] d_Reader_readLetters_21 mi_Tape_at wd_278 wd_279 wd_280 (by decide) (el_Tape (show ay_sh 2 = _ from rfl)) rfl rfl (by omega) rfl rfl (Nat.le_of_ble_eq_true rfl) ?_
    refine Call.post ?_ (cf_Tape_at_ok (by omega) x1  w _ h)
    rintro _ _ ⟨r3, rfl, rfl, h⟩
    show wp g (fun _ => True) y_Reader_readLetters prog_8_method_20_code 2 none d 24 [(0, .ref (g.1 + 1)), (1, .int x1)] [.int r3] w Q
    refine am_callS (d2 := d - 1) [.int r3] d_Reader_readLetters_24 mi_Reader_isSmallLetter wd_320 wd_321 (by omega) rfl rfl (Nat.le_of_ble_eq_true rfl) ?_
    refine Call.post ?_ (cf_Reader_isSmallLetter_ok (by omega) r3  w _ h)
    rintro _ _ ⟨r4, rfl, rfl, h⟩
    show wp g (fun _ => True) y_Reader_readLetters prog_8_method_20_code 2 none d 27 [(0, .ref (g.1 + 1)), (1, .int x1)] [.int r4] w Q
    refine am_if_eq (tgt := 43) d_Reader_readLetters_27 (by decide) (fun c27 => ?_) (fun c27 => ?_)
    · have h := h.1 c27
      exact am_return d_Reader_readLetters_43 rfl (hQ w h)
    · have h := h.2 c27
      refine am_aload_n d_Reader_readLetters_30 0 rfl ?_
      refine am_iload_n d_Reader_readLetters_31 1 rfl ?_
      refine am_iconst (v := 1) d_Reader_readLetters_32 rfl ?_
      refine am_iadd d_Reader_readLetters_33 ?_
      refine am_putf (w' := wI w 1 3 (x1 + (1 : Int32))) (ty := .int) (T := F_Reader) (fs := ob_Reader g w 1) (C := R_Reader) (N := 8) (ci := 1) 3 d_Reader_readLetters_34 wd_53 rfl (by decide) (el_Reader (show ay_sh 1 = _ from rfl)) rfl i_Reader (by decide) G_Reader ty_Reader n_Reader rfl (ty_Reader 3 (by decide)) rfl rfl (Nat.le_of_ble_eq_true rfl) ((el_Reader (show ay_sh 1 = _ from rfl)).trans (by rw [pf_Reader_at])) wI_o ?_
      obtain ⟨w5, ew5⟩ : ∃ z, z = wI w 1 3 (x1 + (1 : Int32)) := ⟨_, rfl⟩
      rw [← ew5]
      have h := h w5 ew5
      obtain ⟨v6, ev6⟩ : ∃ z : Int32, z = x1 + (1 : Int32) := ⟨_, rfl⟩
      have h := h v6 ev6
      refine am_iinc (v := v6) (l' := [(1, .int v6), (0, .ref (g.1 + 1))]) d_Reader_readLetters_37 1 rfl (by rw [ev6]; rfl) (by decide) rfl ?_
      refine am_goto (tgt := 5) d_Reader_readLetters_40 (by decide) ?_
      refine am_sub [1, 0] rfl ?_
      exact hK5 v6 w5 h
theorem cf_Reader_readLetters_L5_ok {g : ayG} {d : Nat} (hd : 1 ≤ d)    (P : Wd → Prop) (Q : Option Value → Wd → Prop) (hQ : ∀ w2, P w2 → Q none w2)  : ∀ (n : Nat) (x1 : Int32) (w : Wd) (h : cf_Reader_readLetters_L5 P n x1 w), wp g (fun _ => True) y_Reader_readLetters prog_8_method_20_code 2 none d 5 [(0, .ref (g.1 + 1)), (1, .int x1)] [] w Q
  | 0, x1, w, h => False.elim h
  | n + 1, x1, w, h => cf_Reader_readLetters_B5_ok hd   w (cf_Reader_readLetters_L5 P n) P Q hQ (fun x1 w h => cf_Reader_readLetters_L5_ok hd    P Q hQ  n x1 w h) x1 h
theorem cf_Reader_readLetters_ok {g : ayG} {d : Nat} (hd : 1 ≤ d)   (w : Wd) (P : Wd → Prop) (h : cf_Reader_readLetters w P) : Call g y_Reader_readLetters prog_8_method_20_code 2 none d [.ref (g.1 + 1)] w (fun (r : Option Value) (w2 : Wd) => r = none ∧ P w2) := by
  unfold cf_Reader_readLetters at h
  refine am_enter mi_Reader_readLetters (Nat.le_of_ble_eq_true rfl) ?_
  have hQ : ∀ w2, P w2 → (fun (r : Option Value) (w2 : Wd) => r = none ∧ P w2) none w2 := fun w2 h => ⟨rfl, h⟩
  generalize (fun (r : Option Value) (w2 : Wd) => r = none ∧ P w2) = Q at hQ ⊢
  show wp g (fun _ => True) y_Reader_readLetters prog_8_method_20_code 2 none d 0 [(0, .ref (g.1 + 1))] [] w Q
  refine am_aload_n d_Reader_readLetters_0 0 rfl ?_
  refine am_getf (T := F_Reader) (fs := ob_Reader g w 1) (C := R_Reader) (N := 8) (ci := 1) 3 d_Reader_readLetters_1 wd_53 rfl (by decide) (el_Reader (show ay_sh 1 = _ from rfl)) rfl i_Reader (by decide) rfl ?_
  refine am_topi (fun v1 ev1 => ?_)
  have h := h v1 ev1
  refine am_istore_n (l' := [(1, .int v1), (0, .ref (g.1 + 1))]) d_Reader_readLetters_4 (by decide) rfl ?_
  refine am_sub [1, 0] rfl ?_
  obtain ⟨n, h⟩ := h
  exact cf_Reader_readLetters_L5_ok (by omega)    P Q hQ  n v1 w h
theorem d_Reader_isWord_0 : decode prog_8_method_21_code 0 = .ok (.aload_n 0, 1) := by decide +kernel
theorem d_Reader_isWord_1 : decode prog_8_method_21_code 1 = .ok (.getfield 42, 3) := by decide +kernel
theorem d_Reader_isWord_4 : decode prog_8_method_21_code 4 = .ok (.iload_n 1, 1) := by decide +kernel
theorem d_Reader_isWord_5 : decode prog_8_method_21_code 5 = .ok (.isub, 1) := by decide +kernel
theorem d_Reader_isWord_6 : decode prog_8_method_21_code 6 = .ok (.aload_n 2, 1) := by decide +kernel
theorem d_Reader_isWord_7 : decode prog_8_method_21_code 7 = .ok (.invokevirtual 152, 3) := by decide +kernel
theorem d_Reader_isWord_10 : decode prog_8_method_21_code 10 = .ok (.if_icmp .eq 5, 3) := by decide +kernel
theorem d_Reader_isWord_13 : decode prog_8_method_21_code 13 = .ok (.iconst 0, 1) := by decide +kernel
theorem d_Reader_isWord_14 : decode prog_8_method_21_code 14 = .ok (.ireturn, 1) := by decide +kernel
theorem d_Reader_isWord_15 : decode prog_8_method_21_code 15 = .ok (.iconst 0, 1) := by decide +kernel
theorem d_Reader_isWord_16 : decode prog_8_method_21_code 16 = .ok (.istore_n 3, 1) := by decide +kernel
theorem d_Reader_isWord_17 : decode prog_8_method_21_code 17 = .ok (.iload_n 3, 1) := by decide +kernel
theorem d_Reader_isWord_18 : decode prog_8_method_21_code 18 = .ok (.aload_n 2, 1) := by decide +kernel
theorem d_Reader_isWord_19 : decode prog_8_method_21_code 19 = .ok (.invokevirtual 152, 3) := by decide +kernel
theorem d_Reader_isWord_22 : decode prog_8_method_21_code 22 = .ok (.if_icmp .ge 29, 3) := by decide +kernel
theorem d_Reader_isWord_25 : decode prog_8_method_21_code 25 = .ok (.aload_n 0, 1) := by decide +kernel
theorem d_Reader_isWord_26 : decode prog_8_method_21_code 26 = .ok (.getfield 12, 3) := by decide +kernel
theorem d_Reader_isWord_29 : decode prog_8_method_21_code 29 = .ok (.iload_n 1, 1) := by decide +kernel
theorem d_Reader_isWord_30 : decode prog_8_method_21_code 30 = .ok (.iload_n 3, 1) := by decide +kernel
theorem d_Reader_isWord_31 : decode prog_8_method_21_code 31 = .ok (.iadd, 1) := by decide +kernel
theorem d_Reader_isWord_32 : decode prog_8_method_21_code 32 = .ok (.invokevirtual 66, 3) := by decide +kernel
theorem d_Reader_isWord_35 : decode prog_8_method_21_code 35 = .ok (.aload_n 2, 1) := by decide +kernel
theorem d_Reader_isWord_36 : decode prog_8_method_21_code 36 = .ok (.iload_n 3, 1) := by decide +kernel
theorem d_Reader_isWord_37 : decode prog_8_method_21_code 37 = .ok (.invokevirtual 157, 3) := by decide +kernel
theorem d_Reader_isWord_40 : decode prog_8_method_21_code 40 = .ok (.if_icmp .eq 5, 3) := by decide +kernel
theorem d_Reader_isWord_43 : decode prog_8_method_21_code 43 = .ok (.iconst 0, 1) := by decide +kernel
theorem d_Reader_isWord_44 : decode prog_8_method_21_code 44 = .ok (.ireturn, 1) := by decide +kernel
theorem d_Reader_isWord_45 : decode prog_8_method_21_code 45 = .ok (.iinc 3 1, 3) := by decide +kernel
theorem d_Reader_isWord_48 : decode prog_8_method_21_code 48 = .ok (.goto (-31), 3) := by decide +kernel
theorem d_Reader_isWord_51 : decode prog_8_method_21_code 51 = .ok (.iconst 1, 1) := by decide +kernel
theorem d_Reader_isWord_52 : decode prog_8_method_21_code 52 = .ok (.ireturn, 1) := by decide +kernel
def cf_Reader_isWord_B17 (i1 : Nat) (w : Wd) (K17 : Int32 → Int32 → Prop) (P : Int32 → Prop) (x1 : Int32) (x3 : Int32)  : Prop :=
  cf_String_length i1 (fun r2 => ((r2 ≤ x3 → P (1 : Int32)) ∧ (¬ r2 ≤ x3 → cf_Tape_at (x1 + x3) w (fun r3 => cf_String_charAt i1 x3 (fun r4 => ((r3 = r4 → ∀ v5, v5 = x3 + (1 : Int32) → K17 x1 v5) ∧ (¬ r3 = r4 → P (0 : Int32))))))))
def cf_Reader_isWord_L17 (i1 : Nat) (w : Wd)  (P : Int32 → Prop) : Nat → Int32 → Int32 → Prop
  | 0 => fun x1 x3 => False
  | n + 1 => fun x1 x3 => cf_Reader_isWord_B17 i1 w (cf_Reader_isWord_L17 i1 w P n) P x1 x3
def cf_Reader_isWord (i1 : Nat) (a0 : Int32) (w : Wd) (P : Int32 → Prop) : Prop :=
  cf_String_length i1 (fun r1 => ((((w.1 1 3) - a0) = r1 → ∃ n, cf_Reader_isWord_L17 i1 w P n a0 (0 : Int32)) ∧ (¬ ((w.1 1 3) - a0) = r1 → P (0 : Int32))))
theorem cf_Reader_isWord_B17_ok {g : ayG} {d : Nat} (hd : 7 ≤ d) (i1 : Nat) (hi1 : i1 < 5) (w : Wd) (K17 : Int32 → Int32 → Prop) (P : Int32 → Prop) (Q : Option Value → Wd → Prop) (hQ : ∀ x, P x → Q (some (.int x)) w) (hK17 : ∀ (x1 : Int32) (x3 : Int32), (K17 x1 x3 → wp g (fun _ => True) y_Reader_isWord prog_8_method_21_code 4 (some FieldType.boolean) d 17 [(0, .ref (g.1 + 1)), (1, .int x1), (2, .ref (g.2.2.2.1 i1)), (3, .int x3)] [] w Q)) (x1 : Int32) (x3 : Int32) (h : cf_Reader_isWord_B17 i1 w K17 P x1 x3) : wp g (fun _ => True) y_Reader_isWord prog_8_method_21_code 4 (some FieldType.boolean) d 17 [(0, .ref (g.1 + 1)), (1, .int x1), (2, .ref (g.2.2.2.1 i1)), (3, .int x3)] [] w Q := by
  unfold cf_Reader_isWord_B17 at h
  refine am_iload_n d_Reader_isWord_17 3 rfl ?_
  refine am_aload_n d_Reader_isWord_18 2 rfl ?_
  refine am_String_length (by omega) d_Reader_isWord_19 wd_328 hi1 rfl (Nat.le_of_ble_eq_true rfl) h (fun r2 h => ?_)
  show wp g (fun _ => True) y_Reader_isWord prog_8_method_21_code 4 (some FieldType.boolean) d 22 [(0, .ref (g.1 + 1)), (1, .int x1), (2, .ref (g.2.2.2.1 i1)), (3, .int x3)] [.int r2, .int x3] w Q
  refine am_icmp_ge (tgt := 51) d_Reader_isWord_22 (by decide) (fun c22 => ?_) (fun c22 => ?_)
  · have h := h.1 c22
    refine am_iconst (v := 1) d_Reader_isWord_51 rfl ?_
    exact am_ireturn d_Reader_isWord_52 rfl rfl (hQ (1 : Int32) h)
  · have h := h.2 c22
    refine am_aload_n d_Reader_isWord_25 0 rfl ?_
    refine am_getf (T := F_Reader) (fs := ob_Reader g w 1) (C := R_Reader) (N := 8) (ci := 1) 0 d_Reader_isWord_26 wd_50 rfl (by decide) (el_Reader (show ay_sh 1 = _ from rfl)) rfl i_Reader (by decide) rfl ?_
    refine am_iload_n d_Reader_isWord_29 1 rfl ?_
    refine am_iload_n d_Reader_isWord_30 3 rfl ?_
    refine am_iadd d_Reader_isWord_31 ?_
    refine am_callV (C := "TriSplits$Tape") (d2 := d - 1) [.int (x1 + x3)] d_Reader_isWord_32 mi_Tape_at wd_278 wd_279 wd_280 (by decide) (el_Tape (show ay_sh 2 = _ from rfl)) rfl rfl (by omega) rfl rfl (Nat.le_of_ble_eq_true rfl) ?_
    refine Call.post ?_ (cf_Tape_at_ok (by omega) (x1 + x3)  w _ h)
    rintro _ _ ⟨r3, rfl, rfl, h⟩
    show wp g (fun _ => True) y_Reader_isWord prog_8_method_21_code 4 (some FieldType.boolean) d 35 [(0, .ref (g.1 + 1)), (1, .int x1), (2, .ref (g.2.2.2.1 i1)), (3, .int x3)] [.int r3] w Q
    refine am_aload_n d_Reader_isWord_35 2 rfl ?_
    refine am_iload_n d_Reader_isWord_36 3 rfl ?_
    refine am_String_charAt (by omega) d_Reader_isWord_37 wd_338 hi1 rfl (Nat.le_of_ble_eq_true rfl) h (fun r4 h => ?_)
    show wp g (fun _ => True) y_Reader_isWord prog_8_method_21_code 4 (some FieldType.boolean) d 40 [(0, .ref (g.1 + 1)), (1, .int x1), (2, .ref (g.2.2.2.1 i1)), (3, .int x3)] [.int r4, .int r3] w Q
    refine am_icmp_eq (tgt := 45) d_Reader_isWord_40 (by decide) (fun c40 => ?_) (fun c40 => ?_)
    · have h := h.1 c40
      obtain ⟨v5, ev5⟩ : ∃ z : Int32, z = x3 + (1 : Int32) := ⟨_, rfl⟩
      have h := h v5 ev5
      refine am_iinc (v := v5) (l' := [(3, .int v5), (0, .ref (g.1 + 1)), (1, .int x1), (2, .ref (g.2.2.2.1 i1))]) d_Reader_isWord_45 3 rfl (by rw [ev5]; rfl) (by decide) rfl ?_
      refine am_goto (tgt := 17) d_Reader_isWord_48 (by decide) ?_
      refine am_sub [1, 2, 3, 0] rfl ?_
      exact hK17 x1 v5 h
    · have h := h.2 c40
      refine am_iconst (v := 0) d_Reader_isWord_43 rfl ?_
      exact am_ireturn d_Reader_isWord_44 rfl rfl (hQ (0 : Int32) h)
theorem cf_Reader_isWord_L17_ok {g : ayG} {d : Nat} (hd : 7 ≤ d) (i1 : Nat) (hi1 : i1 < 5) (w : Wd)  (P : Int32 → Prop) (Q : Option Value → Wd → Prop) (hQ : ∀ x, P x → Q (some (.int x)) w)  : ∀ (n : Nat) (x1 : Int32) (x3 : Int32) (h : cf_Reader_isWord_L17 i1 w P n x1 x3), wp g (fun _ => True) y_Reader_isWord prog_8_method_21_code 4 (some FieldType.boolean) d 17 [(0, .ref (g.1 + 1)), (1, .int x1), (2, .ref (g.2.2.2.1 i1)), (3, .int x3)] [] w Q
  | 0, x1, x3, h => False.elim h
  | n + 1, x1, x3, h => cf_Reader_isWord_B17_ok hd i1 hi1 w (cf_Reader_isWord_L17 i1 w P n) P Q hQ (fun x1 x3 h => cf_Reader_isWord_L17_ok hd i1 hi1 w  P Q hQ  n x1 x3 h) x1 x3 h
theorem cf_Reader_isWord_ok {g : ayG} {d : Nat} (hd : 7 ≤ d) (i1 : Nat) (a0 : Int32) (hi1 : i1 < 5) (w : Wd) (P : Int32 → Prop) (h : cf_Reader_isWord i1 a0 w P) : Call g y_Reader_isWord prog_8_method_21_code 4 (some FieldType.boolean) d [.ref (g.1 + 1), .int a0, .ref (g.2.2.2.1 i1)] w (fun (r : Option Value) (w2 : Wd) => ∃ x, r = some (.int x) ∧ w = w2 ∧ P x) := by
  unfold cf_Reader_isWord at h
  refine am_enter mi_Reader_isWord (Nat.le_of_ble_eq_true rfl) ?_
  have hQ : ∀ x, P x → (fun (r : Option Value) (w2 : Wd) => ∃ x, r = some (.int x) ∧ w = w2 ∧ P x) (some (.int x)) w := fun x h => ⟨x, rfl, rfl, h⟩
  generalize (fun (r : Option Value) (w2 : Wd) => ∃ x, r = some (.int x) ∧ w = w2 ∧ P x) = Q at hQ ⊢
  show wp g (fun _ => True) y_Reader_isWord prog_8_method_21_code 4 (some FieldType.boolean) d 0 [(0, .ref (g.1 + 1)), (1, .int a0), (2, .ref (g.2.2.2.1 i1))] [] w Q
  refine am_aload_n d_Reader_isWord_0 0 rfl ?_
  refine am_getf (T := F_Reader) (fs := ob_Reader g w 1) (C := R_Reader) (N := 8) (ci := 1) 3 d_Reader_isWord_1 wd_53 rfl (by decide) (el_Reader (show ay_sh 1 = _ from rfl)) rfl i_Reader (by decide) rfl ?_
  refine am_iload_n d_Reader_isWord_4 1 rfl ?_
  refine am_isub d_Reader_isWord_5 ?_
  refine am_aload_n d_Reader_isWord_6 2 rfl ?_
  refine am_String_length (by omega) d_Reader_isWord_7 wd_328 hi1 rfl (Nat.le_of_ble_eq_true rfl) h (fun r1 h => ?_)
  show wp g (fun _ => True) y_Reader_isWord prog_8_method_21_code 4 (some FieldType.boolean) d 10 [(0, .ref (g.1 + 1)), (1, .int a0), (2, .ref (g.2.2.2.1 i1))] [.int r1, .int ((w.1 1 3) - a0)] w Q
  refine am_icmp_eq (tgt := 15) d_Reader_isWord_10 (by decide) (fun c10 => ?_) (fun c10 => ?_)
  · have h := h.1 c10
    refine am_iconst (v := 0) d_Reader_isWord_15 rfl ?_
    refine am_istore_n (l' := [(3, .int (0 : Int32)), (0, .ref (g.1 + 1)), (1, .int a0), (2, .ref (g.2.2.2.1 i1))]) d_Reader_isWord_16 (by decide) rfl ?_
    refine am_sub [1, 2, 3, 0] rfl ?_
    obtain ⟨n, h⟩ := h
    exact cf_Reader_isWord_L17_ok (by omega) i1 hi1 w  P Q hQ  n a0 (0 : Int32) h
  · have h := h.2 c10
    refine am_iconst (v := 0) d_Reader_isWord_13 rfl ?_
    exact am_ireturn d_Reader_isWord_14 rfl rfl (hQ (0 : Int32) h)
theorem d_Reader_readTri_0 : decode prog_8_method_17_code 0 = .ok (.aload_n 0, 1) := by decide +kernel
theorem d_Reader_readTri_1 : decode prog_8_method_17_code 1 = .ok (.iconst 2, 1) := by decide +kernel
theorem d_Reader_readTri_2 : decode prog_8_method_17_code 2 = .ok (.bipush 31, 2) := by decide +kernel
theorem d_Reader_readTri_4 : decode prog_8_method_17_code 4 = .ok (.invokevirtual 73, 3) := by decide +kernel
theorem d_Reader_readTri_7 : decode prog_8_method_17_code 7 = .ok (.istore_n 1, 1) := by decide +kernel
theorem d_Reader_readTri_8 : decode prog_8_method_17_code 8 = .ok (.aload_n 0, 1) := by decide +kernel
theorem d_Reader_readTri_9 : decode prog_8_method_17_code 9 = .ok (.getfield 28, 3) := by decide +kernel
theorem d_Reader_readTri_12 : decode prog_8_method_17_code 12 = .ok (.iconst (-1), 1) := by decide +kernel
theorem d_Reader_readTri_13 : decode prog_8_method_17_code 13 = .ok (.if_icmp .eq 5, 3) := by decide +kernel
theorem d_Reader_readTri_16 : decode prog_8_method_17_code 16 = .ok (.lconst 0, 1) := by decide +kernel
theorem d_Reader_readTri_17 : decode prog_8_method_17_code 17 = .ok (.lreturn, 1) := by decide +kernel
theorem d_Reader_readTri_18 : decode prog_8_method_17_code 18 = .ok (.aload_n 0, 1) := by decide +kernel
theorem d_Reader_readTri_19 : decode prog_8_method_17_code 19 = .ok (.iconst 1, 1) := by decide +kernel
theorem d_Reader_readTri_20 : decode prog_8_method_17_code 20 = .ok (.iload_n 1, 1) := by decide +kernel
theorem d_Reader_readTri_21 : decode prog_8_method_17_code 21 = .ok (.iconst 1, 1) := by decide +kernel
theorem d_Reader_readTri_22 : decode prog_8_method_17_code 22 = .ok (.isub, 1) := by decide +kernel
theorem d_Reader_readTri_23 : decode prog_8_method_17_code 23 = .ok (.invokevirtual 73, 3) := by decide +kernel
theorem d_Reader_readTri_26 : decode prog_8_method_17_code 26 = .ok (.istore_n 2, 1) := by decide +kernel
theorem d_Reader_readTri_27 : decode prog_8_method_17_code 27 = .ok (.aload_n 0, 1) := by decide +kernel
theorem d_Reader_readTri_28 : decode prog_8_method_17_code 28 = .ok (.getfield 28, 3) := by decide +kernel
theorem d_Reader_readTri_31 : decode prog_8_method_17_code 31 = .ok (.iconst (-1), 1) := by decide +kernel
theorem d_Reader_readTri_32 : decode prog_8_method_17_code 32 = .ok (.if_icmp .ne 11, 3) := by decide +kernel
theorem d_Reader_readTri_35 : decode prog_8_method_17_code 35 = .ok (.iload_n 1, 1) := by decide +kernel
theorem d_Reader_readTri_36 : decode prog_8_method_17_code 36 = .ok (.iload_n 2, 1) := by decide +kernel
theorem d_Reader_readTri_37 : decode prog_8_method_17_code 37 = .ok (.invokestatic 145, 3) := by decide +kernel
theorem d_Reader_readTri_40 : decode prog_8_method_17_code 40 = .ok (.goto 4, 3) := by decide +kernel
theorem d_Reader_readTri_43 : decode prog_8_method_17_code 43 = .ok (.lconst 0, 1) := by decide +kernel
theorem d_Reader_readTri_44 : decode prog_8_method_17_code 44 = .ok (.lreturn, 1) := by decide +kernel
def cf_Reader_readTri  (w : Wd) (P : Int64 → Wd → Prop) : Prop :=
  cf_Reader_readNumber (2 : Int32) (31 : Int32) w (fun r1 w2 => (((w2.1 1 5) = (-1 : Int32) → cf_Reader_readNumber (1 : Int32) (r1 - (1 : Int32)) w2 (fun r3 w4 => ((¬ (w4.1 1 5) = (-1 : Int32) → P (0 : Int64) w4) ∧ ((w4.1 1 5) = (-1 : Int32) → cf_Polys_tri r1 r3 (fun r5 => P r5 w4))))) ∧ (¬ (w2.1 1 5) = (-1 : Int32) → P (0 : Int64) w2)))
theorem cf_Reader_readTri_ok {g : ayG} {d : Nat} (hd : 3 ≤ d)   (w : Wd) (P : Int64 → Wd → Prop) (h : cf_Reader_readTri w P) : Call g y_Reader_readTri prog_8_method_17_code 3 (some FieldType.long) d [.ref (g.1 + 1)] w (fun (r : Option Value) (w2 : Wd) => ∃ x, r = some (.long x) ∧ P x w2) := by
  unfold cf_Reader_readTri at h
  refine am_enter mi_Reader_readTri (Nat.le_of_ble_eq_true rfl) ?_
  have hQ : ∀ x w2, P x w2 → (fun (r : Option Value) (w2 : Wd) => ∃ x, r = some (.long x) ∧ P x w2) (some (.long x)) w2 := fun x w2 h => ⟨x, rfl, h⟩
  generalize (fun (r : Option Value) (w2 : Wd) => ∃ x, r = some (.long x) ∧ P x w2) = Q at hQ ⊢
  show wp g (fun _ => True) y_Reader_readTri prog_8_method_17_code 3 (some FieldType.long) d 0 [(0, .ref (g.1 + 1))] [] w Q
  refine am_aload_n d_Reader_readTri_0 0 rfl ?_
  refine am_iconst (v := 2) d_Reader_readTri_1 rfl ?_
  refine am_bipush (v := 31) d_Reader_readTri_2 rfl ?_
  refine am_callV (C := y_Reader_readNumber.cls) (d2 := d - 1) [.int (2 : Int32), .int (31 : Int32)] d_Reader_readTri_4 mi_Reader_readNumber wd_269 wd_271 ws_Reader_readNumber (by decide) (el_Reader (show ay_sh 1 = _ from rfl)) rfl rfl (by omega) rfl rfl (Nat.le_of_ble_eq_true rfl) ?_
  refine Call.post ?_ (cf_Reader_readNumber_ok (by omega) (2 : Int32) (31 : Int32)  w _ h)
  rintro _ w2 ⟨r1, rfl, h⟩
  show wp g (fun _ => True) y_Reader_readTri prog_8_method_17_code 3 (some FieldType.long) d 7 [(0, .ref (g.1 + 1))] [.int r1] w2 Q
  refine am_istore_n (l' := [(1, .int r1), (0, .ref (g.1 + 1))]) d_Reader_readTri_7 (by decide) rfl ?_
  refine am_aload_n d_Reader_readTri_8 1 rfl ?_
  refine am_getf (T := F_Reader) (fs := ob_Reader g w2 1) (C := R_Reader) (N := 8) (ci := 1) 5 d_Reader_readTri_9 wd_55 rfl (by decide) (el_Reader (show ay_sh 1 = _ from rfl)) rfl i_Reader (by decide) rfl ?_
  refine am_iconst (v := -1) d_Reader_readTri_12 rfl ?_
  refine am_icmp_eq (tgt := 18) d_Reader_readTri_13 (by decide) (fun c13 => ?_) (fun c13 => ?_)
  · have h := h.1 c13
    refine am_aload_n d_Reader_readTri_18 1 rfl ?_
    refine am_iconst (v := 1) d_Reader_readTri_19 rfl ?_
    refine am_iload_n d_Reader_readTri_20 0 rfl ?_
    refine am_iconst (v := 1) d_Reader_readTri_21 rfl ?_
    refine am_isub d_Reader_readTri_22 ?_
    refine am_callV (C := y_Reader_readNumber.cls) (d2 := d - 1) [.int (1 : Int32), .int (r1 - (1 : Int32))] d_Reader_readTri_23 mi_Reader_readNumber wd_269 wd_271 ws_Reader_readNumber (by decide) (el_Reader (show ay_sh 1 = _ from rfl)) rfl rfl (by omega) rfl rfl (Nat.le_of_ble_eq_true rfl) ?_
    refine Call.post ?_ (cf_Reader_readNumber_ok (by omega) (1 : Int32) (r1 - (1 : Int32))  w2 _ h)
    rintro _ w4 ⟨r3, rfl, h⟩
    show wp g (fun _ => True) y_Reader_readTri prog_8_method_17_code 3 (some FieldType.long) d 26 [(1, .int r1), (0, .ref (g.1 + 1))] [.int r3] w4 Q
    refine am_istore_n (l' := [(2, .int r3), (1, .int r1), (0, .ref (g.1 + 1))]) d_Reader_readTri_26 (by decide) rfl ?_
    refine am_aload_n d_Reader_readTri_27 2 rfl ?_
    refine am_getf (T := F_Reader) (fs := ob_Reader g w4 1) (C := R_Reader) (N := 8) (ci := 1) 5 d_Reader_readTri_28 wd_55 rfl (by decide) (el_Reader (show ay_sh 1 = _ from rfl)) rfl i_Reader (by decide) rfl ?_
    refine am_iconst (v := -1) d_Reader_readTri_31 rfl ?_
    refine am_icmp_ne (tgt := 43) d_Reader_readTri_32 (by decide) (fun c32 => ?_) (fun c32 => ?_)
    · have h := h.1 c32
      refine am_lconst (v := 0) d_Reader_readTri_43 rfl ?_
      exact am_lreturn d_Reader_readTri_44 rfl (hQ (0 : Int64) w4 h)
    · have h := h.2 c32
      refine am_iload_n d_Reader_readTri_35 1 rfl ?_
      refine am_iload_n d_Reader_readTri_36 0 rfl ?_
      refine am_callS (d2 := d - 1) [.int r1, .int r3] d_Reader_readTri_37 mi_Polys_tri wd_383 wd_384 (by omega) rfl rfl (Nat.le_of_ble_eq_true rfl) ?_
      refine Call.post ?_ (cf_Polys_tri_ok (by omega) r1 r3  w4 _ h)
      rintro _ _ ⟨r5, rfl, rfl, h⟩
      show wp g (fun _ => True) y_Reader_readTri prog_8_method_17_code 3 (some FieldType.long) d 40 [(2, .int r3), (1, .int r1), (0, .ref (g.1 + 1))] [.long r5] w4 Q
      refine am_goto (tgt := 44) d_Reader_readTri_40 (by decide) ?_
      exact am_lreturn d_Reader_readTri_44 rfl (hQ r5 w4 h)
  · have h := h.2 c13
    refine am_lconst (v := 0) d_Reader_readTri_16 rfl ?_
    exact am_lreturn d_Reader_readTri_17 rfl (hQ (0 : Int64) w2 h)
theorem d_Reader_readOne_0 : decode prog_8_method_16_code 0 = .ok (.aload_n 0, 1) := by decide +kernel
theorem d_Reader_readOne_1 : decode prog_8_method_16_code 1 = .ok (.invokevirtual 51, 3) := by decide +kernel
theorem d_Reader_readOne_4 : decode prog_8_method_16_code 4 = .ok (.istore_n 1, 1) := by decide +kernel
theorem d_Reader_readOne_5 : decode prog_8_method_16_code 5 = .ok (.iload_n 1, 1) := by decide +kernel
theorem d_Reader_readOne_6 : decode prog_8_method_16_code 6 = .ok (.invokestatic 99, 3) := by decide +kernel
theorem d_Reader_readOne_9 : decode prog_8_method_16_code 9 = .ok (.ifCond .eq 11, 3) := by decide +kernel
theorem d_Reader_readOne_12 : decode prog_8_method_16_code 12 = .ok (.aload_n 0, 1) := by decide +kernel
theorem d_Reader_readOne_13 : decode prog_8_method_16_code 13 = .ok (.iconst 0, 1) := by decide +kernel
theorem d_Reader_readOne_14 : decode prog_8_method_16_code 14 = .ok (.iconst 1, 1) := by decide +kernel
theorem d_Reader_readOne_15 : decode prog_8_method_16_code 15 = .ok (.invokevirtual 73, 3) := by decide +kernel
theorem d_Reader_readOne_18 : decode prog_8_method_16_code 18 = .ok (.i2l, 1) := by decide +kernel
theorem d_Reader_readOne_19 : decode prog_8_method_16_code 19 = .ok (.lreturn, 1) := by decide +kernel
theorem d_Reader_readOne_20 : decode prog_8_method_16_code 20 = .ok (.iload_n 1, 1) := by decide +kernel
theorem d_Reader_readOne_21 : decode prog_8_method_16_code 21 = .ok (.bipush 40, 2) := by decide +kernel
theorem d_Reader_readOne_23 : decode prog_8_method_16_code 23 = .ok (.if_icmp .ne 8, 3) := by decide +kernel
theorem d_Reader_readOne_26 : decode prog_8_method_16_code 26 = .ok (.aload_n 0, 1) := by decide +kernel
theorem d_Reader_readOne_27 : decode prog_8_method_16_code 27 = .ok (.invokevirtual 113, 3) := by decide +kernel
theorem d_Reader_readOne_30 : decode prog_8_method_16_code 30 = .ok (.lreturn, 1) := by decide +kernel
theorem d_Reader_readOne_31 : decode prog_8_method_16_code 31 = .ok (.aload_n 0, 1) := by decide +kernel
theorem d_Reader_readOne_32 : decode prog_8_method_16_code 32 = .ok (.getfield 42, 3) := by decide +kernel
theorem d_Reader_readOne_35 : decode prog_8_method_16_code 35 = .ok (.istore_n 2, 1) := by decide +kernel
theorem d_Reader_readOne_36 : decode prog_8_method_16_code 36 = .ok (.aload_n 0, 1) := by decide +kernel
theorem d_Reader_readOne_37 : decode prog_8_method_16_code 37 = .ok (.invokevirtual 116, 3) := by decide +kernel
theorem d_Reader_readOne_40 : decode prog_8_method_16_code 40 = .ok (.aload_n 0, 1) := by decide +kernel
theorem d_Reader_readOne_41 : decode prog_8_method_16_code 41 = .ok (.iload_n 2, 1) := by decide +kernel
theorem d_Reader_readOne_42 : decode prog_8_method_16_code 42 = .ok (.ldc 119, 2) := by decide +kernel
theorem d_Reader_readOne_44 : decode prog_8_method_16_code 44 = .ok (.invokevirtual 121, 3) := by decide +kernel
theorem d_Reader_readOne_47 : decode prog_8_method_16_code 47 = .ok (.ifCond .eq 7, 3) := by decide +kernel
theorem d_Reader_readOne_50 : decode prog_8_method_16_code 50 = .ok (.ldc2_w 125, 3) := by decide +kernel
theorem d_Reader_readOne_53 : decode prog_8_method_16_code 53 = .ok (.lreturn, 1) := by decide +kernel
theorem d_Reader_readOne_54 : decode prog_8_method_16_code 54 = .ok (.aload_n 0, 1) := by decide +kernel
theorem d_Reader_readOne_55 : decode prog_8_method_16_code 55 = .ok (.iload_n 2, 1) := by decide +kernel
theorem d_Reader_readOne_56 : decode prog_8_method_16_code 56 = .ok (.ldc 127, 2) := by decide +kernel
theorem d_Reader_readOne_58 : decode prog_8_method_16_code 58 = .ok (.invokevirtual 121, 3) := by decide +kernel
theorem d_Reader_readOne_61 : decode prog_8_method_16_code 61 = .ok (.ifCond .eq 35, 3) := by decide +kernel
theorem d_Reader_readOne_64 : decode prog_8_method_16_code 64 = .ok (.aload_n 0, 1) := by decide +kernel
theorem d_Reader_readOne_65 : decode prog_8_method_16_code 65 = .ok (.iconst 0, 1) := by decide +kernel
theorem d_Reader_readOne_66 : decode prog_8_method_16_code 66 = .ok (.bipush 9, 2) := by decide +kernel
theorem d_Reader_readOne_68 : decode prog_8_method_16_code 68 = .ok (.invokevirtual 73, 3) := by decide +kernel
theorem d_Reader_readOne_71 : decode prog_8_method_16_code 71 = .ok (.istore_n 3, 1) := by decide +kernel
theorem d_Reader_readOne_72 : decode prog_8_method_16_code 72 = .ok (.iload_n 3, 1) := by decide +kernel
theorem d_Reader_readOne_73 : decode prog_8_method_16_code 73 = .ok (.ifCond .lt 21, 3) := by decide +kernel
theorem d_Reader_readOne_76 : decode prog_8_method_16_code 76 = .ok (.iload_n 3, 1) := by decide +kernel
theorem d_Reader_readOne_77 : decode prog_8_method_16_code 77 = .ok (.aload_n 0, 1) := by decide +kernel
theorem d_Reader_readOne_78 : decode prog_8_method_16_code 78 = .ok (.getfield 20, 3) := by decide +kernel
theorem d_Reader_readOne_81 : decode prog_8_method_16_code 81 = .ok (.arraylength, 1) := by decide +kernel
theorem d_Reader_readOne_82 : decode prog_8_method_16_code 82 = .ok (.if_icmp .ge 12, 3) := by decide +kernel
theorem d_Reader_readOne_85 : decode prog_8_method_16_code 85 = .ok (.aload_n 0, 1) := by decide +kernel
theorem d_Reader_readOne_86 : decode prog_8_method_16_code 86 = .ok (.getfield 20, 3) := by decide +kernel
theorem d_Reader_readOne_89 : decode prog_8_method_16_code 89 = .ok (.iload_n 3, 1) := by decide +kernel
theorem d_Reader_readOne_90 : decode prog_8_method_16_code 90 = .ok (.laload, 1) := by decide +kernel
theorem d_Reader_readOne_91 : decode prog_8_method_16_code 91 = .ok (.goto 4, 3) := by decide +kernel
theorem d_Reader_readOne_94 : decode prog_8_method_16_code 94 = .ok (.lconst 0, 1) := by decide +kernel
theorem d_Reader_readOne_95 : decode prog_8_method_16_code 95 = .ok (.lreturn, 1) := by decide +kernel
theorem d_Reader_readOne_96 : decode prog_8_method_16_code 96 = .ok (.aload_n 0, 1) := by decide +kernel
theorem d_Reader_readOne_97 : decode prog_8_method_16_code 97 = .ok (.iload_n 2, 1) := by decide +kernel
theorem d_Reader_readOne_98 : decode prog_8_method_16_code 98 = .ok (.ldc 129, 2) := by decide +kernel
theorem d_Reader_readOne_100 : decode prog_8_method_16_code 100 = .ok (.invokevirtual 121, 3) := by decide +kernel
theorem d_Reader_readOne_103 : decode prog_8_method_16_code 103 = .ok (.ifCond .eq 8, 3) := by decide +kernel
theorem d_Reader_readOne_106 : decode prog_8_method_16_code 106 = .ok (.aload_n 0, 1) := by decide +kernel
theorem d_Reader_readOne_107 : decode prog_8_method_16_code 107 = .ok (.invokevirtual 131, 3) := by decide +kernel
theorem d_Reader_readOne_110 : decode prog_8_method_16_code 110 = .ok (.lreturn, 1) := by decide +kernel
theorem d_Reader_readOne_111 : decode prog_8_method_16_code 111 = .ok (.aload_n 0, 1) := by decide +kernel
theorem d_Reader_readOne_112 : decode prog_8_method_16_code 112 = .ok (.iload_n 2, 1) := by decide +kernel
theorem d_Reader_readOne_113 : decode prog_8_method_16_code 113 = .ok (.ldc 134, 2) := by decide +kernel
theorem d_Reader_readOne_115 : decode prog_8_method_16_code 115 = .ok (.invokevirtual 121, 3) := by decide +kernel
theorem d_Reader_readOne_118 : decode prog_8_method_16_code 118 = .ok (.ifCond .eq 11, 3) := by decide +kernel
theorem d_Reader_readOne_121 : decode prog_8_method_16_code 121 = .ok (.aload_n 0, 1) := by decide +kernel
theorem d_Reader_readOne_122 : decode prog_8_method_16_code 122 = .ok (.invokevirtual 113, 3) := by decide +kernel
theorem d_Reader_readOne_125 : decode prog_8_method_16_code 125 = .ok (.invokestatic 136, 3) := by decide +kernel
theorem d_Reader_readOne_128 : decode prog_8_method_16_code 128 = .ok (.lreturn, 1) := by decide +kernel
theorem d_Reader_readOne_129 : decode prog_8_method_16_code 129 = .ok (.aload_n 0, 1) := by decide +kernel
theorem d_Reader_readOne_130 : decode prog_8_method_16_code 130 = .ok (.iload_n 2, 1) := by decide +kernel
theorem d_Reader_readOne_131 : decode prog_8_method_16_code 131 = .ok (.ldc 140, 2) := by decide +kernel
theorem d_Reader_readOne_133 : decode prog_8_method_16_code 133 = .ok (.invokevirtual 121, 3) := by decide +kernel
theorem d_Reader_readOne_136 : decode prog_8_method_16_code 136 = .ok (.ifCond .eq 11, 3) := by decide +kernel
theorem d_Reader_readOne_139 : decode prog_8_method_16_code 139 = .ok (.aload_n 0, 1) := by decide +kernel
theorem d_Reader_readOne_140 : decode prog_8_method_16_code 140 = .ok (.invokevirtual 113, 3) := by decide +kernel
theorem d_Reader_readOne_143 : decode prog_8_method_16_code 143 = .ok (.invokestatic 142, 3) := by decide +kernel
theorem d_Reader_readOne_146 : decode prog_8_method_16_code 146 = .ok (.lreturn, 1) := by decide +kernel
theorem d_Reader_readOne_147 : decode prog_8_method_16_code 147 = .ok (.aload_n 0, 1) := by decide +kernel
theorem d_Reader_readOne_148 : decode prog_8_method_16_code 148 = .ok (.iconst 1, 1) := by decide +kernel
theorem d_Reader_readOne_149 : decode prog_8_method_16_code 149 = .ok (.iload_n 2, 1) := by decide +kernel
theorem d_Reader_readOne_150 : decode prog_8_method_16_code 150 = .ok (.invokevirtual 69, 3) := by decide +kernel
theorem d_Reader_readOne_153 : decode prog_8_method_16_code 153 = .ok (.lreturn, 1) := by decide +kernel
def cf_Reader_readOne (NR : Wd → (Int64 → Wd → Prop) → Prop)  (w : Wd) (P : Int64 → Wd → Prop) : Prop :=
  cf_Reader_peek  w (fun r1 w2 => cf_Reader_isDigit r1 (fun r3 => ((r3 = 0 → ((¬ r1 = (40 : Int32) → ∀ v4, v4 = w2.1 1 3 → cf_Reader_readLetters  w2 (fun w5 => cf_Reader_isWord 0 v4 w5 (fun r6 => ((r6 = 0 → cf_Reader_isWord 1 v4 w5 (fun r7 => ((r7 = 0 → cf_Reader_isWord 2 v4 w5 (fun r8 => ((r8 = 0 → cf_Reader_isWord 3 v4 w5 (fun r9 => ((r9 = 0 → cf_Reader_isWord 4 v4 w5 (fun r10 => ((r10 = 0 → cf_Reader_fail (1 : Int32) v4 w5 (fun r11 w12 => P r11 w12)) ∧ (¬ r10 = 0 → NR  w5 (fun r13 w14 => cf_Polys_derived r13 (fun r15 => P r15 w14)))))) ∧ (¬ r9 = 0 → NR  w5 (fun r16 w17 => cf_Polys_reversed r16 (fun r18 => P r18 w17)))))) ∧ (¬ r8 = 0 → cf_Reader_readTri  w5 (fun r19 w20 => P r19 w20))))) ∧ (¬ r7 = 0 → cf_Reader_readNumber (0 : Int32) (9 : Int32) w5 (fun r21 w22 => ((r21 < 0 → P (0 : Int64) w22) ∧ (¬ r21 < 0 → (((10 : Int32) ≤ r21 → P (0 : Int64) w22) ∧ (¬ (10 : Int32) ≤ r21 → vp_in r21 10 ∧ P (w22.2 4 r21.toNatClampNeg) w22))))))))) ∧ (¬ r6 = 0 → P (2 : Int64) w5))))) ∧ (r1 = (40 : Int32) → NR  w2 (fun r23 w24 => P r23 w24)))) ∧ (¬ r3 = 0 → cf_Reader_readNumber (0 : Int32) (1 : Int32) w2 (fun r25 w26 => P r25.toInt64 w26)))))
theorem cf_Reader_readOne_ok {g : ayG} {d : Nat} {NR : Wd → (Int64 → Wd → Prop) → Prop} (D0 : Nat) (hNR : ∀ (d2 : Nat) (hd2 : D0 ≤ d2)   (w : Wd) (P : Int64 → Wd → Prop) (h : NR w P), Call g y_Reader_readNested prog_8_method_18_code 3 (some FieldType.long) d2 [.ref (g.1 + 1)] w (fun (r : Option Value) (w2 : Wd) => ∃ x, r = some (.long x) ∧ P x w2)) (hd : D0 + 8 ≤ d)   (w : Wd) (P : Int64 → Wd → Prop) (h : cf_Reader_readOne NR w P) : Call g y_Reader_readOne prog_8_method_16_code 4 (some FieldType.long) d [.ref (g.1 + 1)] w (fun (r : Option Value) (w2 : Wd) => ∃ x, r = some (.long x) ∧ P x w2) := by
  unfold cf_Reader_readOne at h
  refine am_enter mi_Reader_readOne (Nat.le_of_ble_eq_true rfl) ?_
  have hQ : ∀ x w2, P x w2 → (fun (r : Option Value) (w2 : Wd) => ∃ x, r = some (.long x) ∧ P x w2) (some (.long x)) w2 := fun x w2 h => ⟨x, rfl, h⟩
  generalize (fun (r : Option Value) (w2 : Wd) => ∃ x, r = some (.long x) ∧ P x w2) = Q at hQ ⊢
  show wp g (fun _ => True) y_Reader_readOne prog_8_method_16_code 4 (some FieldType.long) d 0 [(0, .ref (g.1 + 1))] [] w Q
  refine am_aload_n d_Reader_readOne_0 0 rfl ?_
  refine am_callV (C := y_Reader_peek.cls) (d2 := d - 1) [] d_Reader_readOne_1 mi_Reader_peek wd_273 wd_275 ws_Reader_peek (by decide) (el_Reader (show ay_sh 1 = _ from rfl)) rfl rfl (by omega) rfl rfl (Nat.le_of_ble_eq_true rfl) ?_
  refine Call.post ?_ (cf_Reader_peek_ok (by omega)   w _ h)
  rintro _ w2 ⟨r1, rfl, h⟩
  show wp g (fun _ => True) y_Reader_readOne prog_8_method_16_code 4 (some FieldType.long) d 4 [(0, .ref (g.1 + 1))] [.int r1] w2 Q
  refine am_istore_n (l' := [(1, .int r1), (0, .ref (g.1 + 1))]) d_Reader_readOne_4 (by decide) rfl ?_
  refine am_iload_n d_Reader_readOne_5 0 rfl ?_
  refine am_callS (d2 := d - 1) [.int r1] d_Reader_readOne_6 mi_Reader_isDigit wd_282 wd_283 (by omega) rfl rfl (Nat.le_of_ble_eq_true rfl) ?_
  refine Call.post ?_ (cf_Reader_isDigit_ok (by omega) r1  w2 _ h)
  rintro _ _ ⟨r3, rfl, rfl, h⟩
  show wp g (fun _ => True) y_Reader_readOne prog_8_method_16_code 4 (some FieldType.long) d 9 [(1, .int r1), (0, .ref (g.1 + 1))] [.int r3] w2 Q
  refine am_if_eq (tgt := 20) d_Reader_readOne_9 (by decide) (fun c9 => ?_) (fun c9 => ?_)
  · have h := h.1 c9
    refine am_iload_n d_Reader_readOne_20 0 rfl ?_
    refine am_bipush (v := 40) d_Reader_readOne_21 rfl ?_
    refine am_icmp_ne (tgt := 31) d_Reader_readOne_23 (by decide) (fun c23 => ?_) (fun c23 => ?_)
    · have h := h.1 c23
      refine am_aload_n d_Reader_readOne_31 1 rfl ?_
      refine am_getf (T := F_Reader) (fs := ob_Reader g w2 1) (C := R_Reader) (N := 8) (ci := 1) 3 d_Reader_readOne_32 wd_53 rfl (by decide) (el_Reader (show ay_sh 1 = _ from rfl)) rfl i_Reader (by decide) rfl ?_
      refine am_topi (fun v4 ev4 => ?_)
      have h := h v4 ev4
      refine am_istore_n (l' := [(2, .int v4), (1, .int r1), (0, .ref (g.1 + 1))]) d_Reader_readOne_35 (by decide) rfl ?_
      refine am_aload_n d_Reader_readOne_36 2 rfl ?_
      refine am_callV (C := y_Reader_readLetters.cls) (d2 := d - 1) [] d_Reader_readOne_37 mi_Reader_readLetters wd_316 wd_318 ws_Reader_readLetters (by decide) (el_Reader (show ay_sh 1 = _ from rfl)) rfl rfl (by omega) rfl rfl (Nat.le_of_ble_eq_true rfl) ?_
      refine Call.post ?_ (cf_Reader_readLetters_ok (by omega)   w2 _ h)
      rintro _ w5 ⟨rfl, h⟩
      show wp g (fun _ => True) y_Reader_readOne prog_8_method_16_code 4 (some FieldType.long) d 40 [(2, .int v4), (1, .int r1), (0, .ref (g.1 + 1))] [] w5 Q
      refine am_aload_n d_Reader_readOne_40 2 rfl ?_
      refine am_iload_n d_Reader_readOne_41 0 rfl ?_
      refine am_ldcS 0 rfl rfl d_Reader_readOne_42 ?_
      refine am_callV (C := y_Reader_isWord.cls) (d2 := d - 1) [.int v4, .ref (g.2.2.2.1 0)] d_Reader_readOne_44 mi_Reader_isWord wd_324 wd_326 ws_Reader_isWord (by decide) (el_Reader (show ay_sh 1 = _ from rfl)) rfl rfl (by omega) rfl rfl (Nat.le_of_ble_eq_true rfl) ?_
      refine Call.post ?_ (cf_Reader_isWord_ok (by omega) 0 v4 (by decide) w5 _ h)
      rintro _ _ ⟨r6, rfl, rfl, h⟩
      show wp g (fun _ => True) y_Reader_readOne prog_8_method_16_code 4 (some FieldType.long) d 47 [(2, .int v4), (1, .int r1), (0, .ref (g.1 + 1))] [.int r6] w5 Q
      refine am_if_eq (tgt := 54) d_Reader_readOne_47 (by decide) (fun c47 => ?_) (fun c47 => ?_)
      · have h := h.1 c47
        refine am_aload_n d_Reader_readOne_54 2 rfl ?_
        refine am_iload_n d_Reader_readOne_55 0 rfl ?_
        refine am_ldcS 1 rfl rfl d_Reader_readOne_56 ?_
        refine am_callV (C := y_Reader_isWord.cls) (d2 := d - 1) [.int v4, .ref (g.2.2.2.1 1)] d_Reader_readOne_58 mi_Reader_isWord wd_324 wd_326 ws_Reader_isWord (by decide) (el_Reader (show ay_sh 1 = _ from rfl)) rfl rfl (by omega) rfl rfl (Nat.le_of_ble_eq_true rfl) ?_
        refine Call.post ?_ (cf_Reader_isWord_ok (by omega) 1 v4 (by decide) w5 _ h)
        rintro _ _ ⟨r7, rfl, rfl, h⟩
        show wp g (fun _ => True) y_Reader_readOne prog_8_method_16_code 4 (some FieldType.long) d 61 [(2, .int v4), (1, .int r1), (0, .ref (g.1 + 1))] [.int r7] w5 Q
        refine am_if_eq (tgt := 96) d_Reader_readOne_61 (by decide) (fun c61 => ?_) (fun c61 => ?_)
        · have h := h.1 c61
          refine am_aload_n d_Reader_readOne_96 2 rfl ?_
          refine am_iload_n d_Reader_readOne_97 0 rfl ?_
          refine am_ldcS 2 rfl rfl d_Reader_readOne_98 ?_
          refine am_callV (C := y_Reader_isWord.cls) (d2 := d - 1) [.int v4, .ref (g.2.2.2.1 2)] d_Reader_readOne_100 mi_Reader_isWord wd_324 wd_326 ws_Reader_isWord (by decide) (el_Reader (show ay_sh 1 = _ from rfl)) rfl rfl (by omega) rfl rfl (Nat.le_of_ble_eq_true rfl) ?_
          refine Call.post ?_ (cf_Reader_isWord_ok (by omega) 2 v4 (by decide) w5 _ h)
          rintro _ _ ⟨r8, rfl, rfl, h⟩
          show wp g (fun _ => True) y_Reader_readOne prog_8_method_16_code 4 (some FieldType.long) d 103 [(2, .int v4), (1, .int r1), (0, .ref (g.1 + 1))] [.int r8] w5 Q
          refine am_if_eq (tgt := 111) d_Reader_readOne_103 (by decide) (fun c103 => ?_) (fun c103 => ?_)
          · have h := h.1 c103
            refine am_aload_n d_Reader_readOne_111 2 rfl ?_
            refine am_iload_n d_Reader_readOne_112 0 rfl ?_
            refine am_ldcS 3 rfl rfl d_Reader_readOne_113 ?_
            refine am_callV (C := y_Reader_isWord.cls) (d2 := d - 1) [.int v4, .ref (g.2.2.2.1 3)] d_Reader_readOne_115 mi_Reader_isWord wd_324 wd_326 ws_Reader_isWord (by decide) (el_Reader (show ay_sh 1 = _ from rfl)) rfl rfl (by omega) rfl rfl (Nat.le_of_ble_eq_true rfl) ?_
            refine Call.post ?_ (cf_Reader_isWord_ok (by omega) 3 v4 (by decide) w5 _ h)
            rintro _ _ ⟨r9, rfl, rfl, h⟩
            show wp g (fun _ => True) y_Reader_readOne prog_8_method_16_code 4 (some FieldType.long) d 118 [(2, .int v4), (1, .int r1), (0, .ref (g.1 + 1))] [.int r9] w5 Q
            refine am_if_eq (tgt := 129) d_Reader_readOne_118 (by decide) (fun c118 => ?_) (fun c118 => ?_)
            · have h := h.1 c118
              refine am_aload_n d_Reader_readOne_129 2 rfl ?_
              refine am_iload_n d_Reader_readOne_130 0 rfl ?_
              refine am_ldcS 4 rfl rfl d_Reader_readOne_131 ?_
              refine am_callV (C := y_Reader_isWord.cls) (d2 := d - 1) [.int v4, .ref (g.2.2.2.1 4)] d_Reader_readOne_133 mi_Reader_isWord wd_324 wd_326 ws_Reader_isWord (by decide) (el_Reader (show ay_sh 1 = _ from rfl)) rfl rfl (by omega) rfl rfl (Nat.le_of_ble_eq_true rfl) ?_
              refine Call.post ?_ (cf_Reader_isWord_ok (by omega) 4 v4 (by decide) w5 _ h)
              rintro _ _ ⟨r10, rfl, rfl, h⟩
              show wp g (fun _ => True) y_Reader_readOne prog_8_method_16_code 4 (some FieldType.long) d 136 [(2, .int v4), (1, .int r1), (0, .ref (g.1 + 1))] [.int r10] w5 Q
              refine am_if_eq (tgt := 147) d_Reader_readOne_136 (by decide) (fun c136 => ?_) (fun c136 => ?_)
              · have h := h.1 c136
                refine am_aload_n d_Reader_readOne_147 2 rfl ?_
                refine am_iconst (v := 1) d_Reader_readOne_148 rfl ?_
                refine am_iload_n d_Reader_readOne_149 0 rfl ?_
                refine am_callV (C := y_Reader_fail.cls) (d2 := d - 1) [.int (1 : Int32), .int v4] d_Reader_readOne_150 mi_Reader_fail wd_285 wd_287 ws_Reader_fail (by decide) (el_Reader (show ay_sh 1 = _ from rfl)) rfl rfl (by omega) rfl rfl (Nat.le_of_ble_eq_true rfl) ?_
                refine Call.post ?_ (cf_Reader_fail_ok (by omega) (1 : Int32) v4  w5 _ h)
                rintro _ w12 ⟨r11, rfl, h⟩
                show wp g (fun _ => True) y_Reader_readOne prog_8_method_16_code 4 (some FieldType.long) d 153 [(2, .int v4), (1, .int r1), (0, .ref (g.1 + 1))] [.long r11] w12 Q
                exact am_lreturn d_Reader_readOne_153 rfl (hQ r11 w12 h)
              · have h := h.2 c136
                refine am_aload_n d_Reader_readOne_139 2 rfl ?_
                refine am_callV (C := y_Reader_readNested.cls) (d2 := d - 1) [] d_Reader_readOne_140 mi_Reader_readNested wd_312 wd_314 ws_Reader_readNested (by decide) (el_Reader (show ay_sh 1 = _ from rfl)) rfl rfl (by omega) rfl rfl (Nat.le_of_ble_eq_true rfl) ?_
                refine Call.post ?_ (hNR (d - 1) (by omega)   w5 _ h)
                rintro _ w14 ⟨r13, rfl, h⟩
                show wp g (fun _ => True) y_Reader_readOne prog_8_method_16_code 4 (some FieldType.long) d 143 [(2, .int v4), (1, .int r1), (0, .ref (g.1 + 1))] [.long r13] w14 Q
                refine am_callS (d2 := d - 1) [.long r13] d_Reader_readOne_143 mi_Polys_derived wd_401 wd_402 (by omega) rfl rfl (Nat.le_of_ble_eq_true rfl) ?_
                refine Call.post ?_ (cf_Polys_derived_ok (by omega) r13  w14 _ h)
                rintro _ _ ⟨r15, rfl, rfl, h⟩
                show wp g (fun _ => True) y_Reader_readOne prog_8_method_16_code 4 (some FieldType.long) d 146 [(2, .int v4), (1, .int r1), (0, .ref (g.1 + 1))] [.long r15] w14 Q
                exact am_lreturn d_Reader_readOne_146 rfl (hQ r15 w14 h)
            · have h := h.2 c118
              refine am_aload_n d_Reader_readOne_121 2 rfl ?_
              refine am_callV (C := y_Reader_readNested.cls) (d2 := d - 1) [] d_Reader_readOne_122 mi_Reader_readNested wd_312 wd_314 ws_Reader_readNested (by decide) (el_Reader (show ay_sh 1 = _ from rfl)) rfl rfl (by omega) rfl rfl (Nat.le_of_ble_eq_true rfl) ?_
              refine Call.post ?_ (hNR (d - 1) (by omega)   w5 _ h)
              rintro _ w17 ⟨r16, rfl, h⟩
              show wp g (fun _ => True) y_Reader_readOne prog_8_method_16_code 4 (some FieldType.long) d 125 [(2, .int v4), (1, .int r1), (0, .ref (g.1 + 1))] [.long r16] w17 Q
              refine am_callS (d2 := d - 1) [.long r16] d_Reader_readOne_125 mi_Polys_reversed wd_387 wd_388 (by omega) rfl rfl (Nat.le_of_ble_eq_true rfl) ?_
              refine Call.post ?_ (cf_Polys_reversed_ok (by omega) r16  w17 _ h)
              rintro _ _ ⟨r18, rfl, rfl, h⟩
              show wp g (fun _ => True) y_Reader_readOne prog_8_method_16_code 4 (some FieldType.long) d 128 [(2, .int v4), (1, .int r1), (0, .ref (g.1 + 1))] [.long r18] w17 Q
              exact am_lreturn d_Reader_readOne_128 rfl (hQ r18 w17 h)
          · have h := h.2 c103
            refine am_aload_n d_Reader_readOne_106 2 rfl ?_
            refine am_callV (C := y_Reader_readTri.cls) (d2 := d - 1) [] d_Reader_readOne_107 mi_Reader_readTri wd_379 wd_381 ws_Reader_readTri (by decide) (el_Reader (show ay_sh 1 = _ from rfl)) rfl rfl (by omega) rfl rfl (Nat.le_of_ble_eq_true rfl) ?_
            refine Call.post ?_ (cf_Reader_readTri_ok (by omega)   w5 _ h)
            rintro _ w20 ⟨r19, rfl, h⟩
            show wp g (fun _ => True) y_Reader_readOne prog_8_method_16_code 4 (some FieldType.long) d 110 [(2, .int v4), (1, .int r1), (0, .ref (g.1 + 1))] [.long r19] w20 Q
            exact am_lreturn d_Reader_readOne_110 rfl (hQ r19 w20 h)
        · have h := h.2 c61
          refine am_aload_n d_Reader_readOne_64 2 rfl ?_
          refine am_iconst (v := 0) d_Reader_readOne_65 rfl ?_
          refine am_bipush (v := 9) d_Reader_readOne_66 rfl ?_
          refine am_callV (C := y_Reader_readNumber.cls) (d2 := d - 1) [.int (0 : Int32), .int (9 : Int32)] d_Reader_readOne_68 mi_Reader_readNumber wd_269 wd_271 ws_Reader_readNumber (by decide) (el_Reader (show ay_sh 1 = _ from rfl)) rfl rfl (by omega) rfl rfl (Nat.le_of_ble_eq_true rfl) ?_
          refine Call.post ?_ (cf_Reader_readNumber_ok (by omega) (0 : Int32) (9 : Int32)  w5 _ h)
          rintro _ w22 ⟨r21, rfl, h⟩
          show wp g (fun _ => True) y_Reader_readOne prog_8_method_16_code 4 (some FieldType.long) d 71 [(2, .int v4), (1, .int r1), (0, .ref (g.1 + 1))] [.int r21] w22 Q
          refine am_istore_n (l' := [(3, .int r21), (2, .int v4), (1, .int r1), (0, .ref (g.1 + 1))]) d_Reader_readOne_71 (by decide) rfl ?_
          refine am_iload_n d_Reader_readOne_72 0 rfl ?_
          refine am_if_lt (tgt := 94) d_Reader_readOne_73 (by decide) (fun c73 => ?_) (fun c73 => ?_)
          · have h := h.1 c73
            refine am_lconst (v := 0) d_Reader_readOne_94 rfl ?_
            exact am_lreturn d_Reader_readOne_95 rfl (hQ (0 : Int64) w22 h)
          · have h := h.2 c73
            refine am_iload_n d_Reader_readOne_76 0 rfl ?_
            refine am_aload_n d_Reader_readOne_77 3 rfl ?_
            refine am_getf (T := F_Reader) (fs := ob_Reader g w22 1) (C := R_Reader) (N := 8) (ci := 1) 1 d_Reader_readOne_78 wd_51 rfl (by decide) (el_Reader (show ay_sh 1 = _ from rfl)) rfl i_Reader (by decide) rfl ?_
            refine am_alen (v := 10) d_Reader_readOne_81 (show ay_sh 4 = _ from rfl) (by decide) rfl ?_
            refine am_icmp_ge (tgt := 94) d_Reader_readOne_82 (by decide) (fun c82 => ?_) (fun c82 => ?_)
            · have h := h.1 c82
              refine am_lconst (v := 0) d_Reader_readOne_94 rfl ?_
              exact am_lreturn d_Reader_readOne_95 rfl (hQ (0 : Int64) w22 h)
            · have h := h.2 c82
              refine am_aload_n d_Reader_readOne_85 3 rfl ?_
              refine am_getf (T := F_Reader) (fs := ob_Reader g w22 1) (C := R_Reader) (N := 8) (ci := 1) 1 d_Reader_readOne_86 wd_51 rfl (by decide) (el_Reader (show ay_sh 1 = _ from rfl)) rfl i_Reader (by decide) rfl ?_
              refine am_iload_n d_Reader_readOne_89 0 rfl ?_
              have hi90 := h.1
              have h := h.2
              refine am_laload d_Reader_readOne_90 (show ay_sh 4 = _ from rfl) hi90 ?_
              refine am_goto (tgt := 95) d_Reader_readOne_91 (by decide) ?_
              exact am_lreturn d_Reader_readOne_95 rfl (hQ (w22.2 4 r21.toNatClampNeg) w22 h)
      · have h := h.2 c47
        refine am_ldc2 (v := 2) d_Reader_readOne_50 wd_376 ?_
        exact am_lreturn d_Reader_readOne_53 rfl (hQ (2 : Int64) w5 h)
    · have h := h.2 c23
      refine am_aload_n d_Reader_readOne_26 1 rfl ?_
      refine am_callV (C := y_Reader_readNested.cls) (d2 := d - 1) [] d_Reader_readOne_27 mi_Reader_readNested wd_312 wd_314 ws_Reader_readNested (by decide) (el_Reader (show ay_sh 1 = _ from rfl)) rfl rfl (by omega) rfl rfl (Nat.le_of_ble_eq_true rfl) ?_
      refine Call.post ?_ (hNR (d - 1) (by omega)   w2 _ h)
      rintro _ w24 ⟨r23, rfl, h⟩
      show wp g (fun _ => True) y_Reader_readOne prog_8_method_16_code 4 (some FieldType.long) d 30 [(1, .int r1), (0, .ref (g.1 + 1))] [.long r23] w24 Q
      exact am_lreturn d_Reader_readOne_30 rfl (hQ r23 w24 h)
  · have h := h.2 c9
    refine am_aload_n d_Reader_readOne_12 1 rfl ?_
    refine am_iconst (v := 0) d_Reader_readOne_13 rfl ?_
    refine am_iconst (v := 1) d_Reader_readOne_14 rfl ?_
    refine am_callV (C := y_Reader_readNumber.cls) (d2 := d - 1) [.int (0 : Int32), .int (1 : Int32)] d_Reader_readOne_15 mi_Reader_readNumber wd_269 wd_271 ws_Reader_readNumber (by decide) (el_Reader (show ay_sh 1 = _ from rfl)) rfl rfl (by omega) rfl rfl (Nat.le_of_ble_eq_true rfl) ?_
    refine Call.post ?_ (cf_Reader_readNumber_ok (by omega) (0 : Int32) (1 : Int32)  w2 _ h)
    rintro _ w26 ⟨r25, rfl, h⟩
    show wp g (fun _ => True) y_Reader_readOne prog_8_method_16_code 4 (some FieldType.long) d 18 [(1, .int r1), (0, .ref (g.1 + 1))] [.int r25] w26 Q
    refine am_i2l d_Reader_readOne_18 ?_
    exact am_lreturn d_Reader_readOne_19 rfl (hQ r25.toInt64 w26 h)
theorem d_Reader_readPower_0 : decode prog_8_method_15_code 0 = .ok (.aload_n 0, 1) := by decide +kernel
theorem d_Reader_readPower_1 : decode prog_8_method_15_code 1 = .ok (.invokevirtual 51, 3) := by decide +kernel
theorem d_Reader_readPower_4 : decode prog_8_method_15_code 4 = .ok (.pop, 1) := by decide +kernel
theorem d_Reader_readPower_5 : decode prog_8_method_15_code 5 = .ok (.aload_n 0, 1) := by decide +kernel
theorem d_Reader_readPower_6 : decode prog_8_method_15_code 6 = .ok (.getfield 42, 3) := by decide +kernel
theorem d_Reader_readPower_9 : decode prog_8_method_15_code 9 = .ok (.istore_n 1, 1) := by decide +kernel
theorem d_Reader_readPower_10 : decode prog_8_method_15_code 10 = .ok (.aload_n 0, 1) := by decide +kernel
theorem d_Reader_readPower_11 : decode prog_8_method_15_code 11 = .ok (.invokevirtual 106, 3) := by decide +kernel
theorem d_Reader_readPower_14 : decode prog_8_method_15_code 14 = .ok (.lstore_n 2, 1) := by decide +kernel
theorem d_Reader_readPower_15 : decode prog_8_method_15_code 15 = .ok (.aload_n 0, 1) := by decide +kernel
theorem d_Reader_readPower_16 : decode prog_8_method_15_code 16 = .ok (.getfield 28, 3) := by decide +kernel
theorem d_Reader_readPower_19 : decode prog_8_method_15_code 19 = .ok (.iconst (-1), 1) := by decide +kernel
theorem d_Reader_readPower_20 : decode prog_8_method_15_code 20 = .ok (.if_icmp .ne 12, 3) := by decide +kernel
theorem d_Reader_readPower_23 : decode prog_8_method_15_code 23 = .ok (.aload_n 0, 1) := by decide +kernel
theorem d_Reader_readPower_24 : decode prog_8_method_15_code 24 = .ok (.invokevirtual 51, 3) := by decide +kernel
theorem d_Reader_readPower_27 : decode prog_8_method_15_code 27 = .ok (.bipush 94, 2) := by decide +kernel
theorem d_Reader_readPower_29 : decode prog_8_method_15_code 29 = .ok (.if_icmp .eq 5, 3) := by decide +kernel
theorem d_Reader_readPower_32 : decode prog_8_method_15_code 32 = .ok (.lload_n 2, 1) := by decide +kernel
theorem d_Reader_readPower_33 : decode prog_8_method_15_code 33 = .ok (.lreturn, 1) := by decide +kernel
theorem d_Reader_readPower_34 : decode prog_8_method_15_code 34 = .ok (.aload_n 0, 1) := by decide +kernel
theorem d_Reader_readPower_35 : decode prog_8_method_15_code 35 = .ok (.dup, 1) := by decide +kernel
theorem d_Reader_readPower_36 : decode prog_8_method_15_code 36 = .ok (.getfield 42, 3) := by decide +kernel
theorem d_Reader_readPower_39 : decode prog_8_method_15_code 39 = .ok (.iconst 1, 1) := by decide +kernel
theorem d_Reader_readPower_40 : decode prog_8_method_15_code 40 = .ok (.iadd, 1) := by decide +kernel
theorem d_Reader_readPower_41 : decode prog_8_method_15_code 41 = .ok (.putfield 42, 3) := by decide +kernel
theorem d_Reader_readPower_44 : decode prog_8_method_15_code 44 = .ok (.aload_n 0, 1) := by decide +kernel
theorem d_Reader_readPower_45 : decode prog_8_method_15_code 45 = .ok (.iconst 0, 1) := by decide +kernel
theorem d_Reader_readPower_46 : decode prog_8_method_15_code 46 = .ok (.bipush 31, 2) := by decide +kernel
theorem d_Reader_readPower_48 : decode prog_8_method_15_code 48 = .ok (.invokevirtual 73, 3) := by decide +kernel
theorem d_Reader_readPower_51 : decode prog_8_method_15_code 51 = .ok (.istore 4, 2) := by decide +kernel
theorem d_Reader_readPower_53 : decode prog_8_method_15_code 53 = .ok (.aload_n 0, 1) := by decide +kernel
theorem d_Reader_readPower_54 : decode prog_8_method_15_code 54 = .ok (.getfield 28, 3) := by decide +kernel
theorem d_Reader_readPower_57 : decode prog_8_method_15_code 57 = .ok (.iconst (-1), 1) := by decide +kernel
theorem d_Reader_readPower_58 : decode prog_8_method_15_code 58 = .ok (.if_icmp .eq 5, 3) := by decide +kernel
theorem d_Reader_readPower_61 : decode prog_8_method_15_code 61 = .ok (.lconst 0, 1) := by decide +kernel
theorem d_Reader_readPower_62 : decode prog_8_method_15_code 62 = .ok (.lreturn, 1) := by decide +kernel
theorem d_Reader_readPower_63 : decode prog_8_method_15_code 63 = .ok (.lload_n 2, 1) := by decide +kernel
theorem d_Reader_readPower_64 : decode prog_8_method_15_code 64 = .ok (.invokestatic 109, 3) := by decide +kernel
theorem d_Reader_readPower_67 : decode prog_8_method_15_code 67 = .ok (.iload 4, 2) := by decide +kernel
theorem d_Reader_readPower_69 : decode prog_8_method_15_code 69 = .ok (.imul, 1) := by decide +kernel
theorem d_Reader_readPower_70 : decode prog_8_method_15_code 70 = .ok (.bipush 31, 2) := by decide +kernel
theorem d_Reader_readPower_72 : decode prog_8_method_15_code 72 = .ok (.if_icmp .le 10, 3) := by decide +kernel
theorem d_Reader_readPower_75 : decode prog_8_method_15_code 75 = .ok (.aload_n 0, 1) := by decide +kernel
theorem d_Reader_readPower_76 : decode prog_8_method_15_code 76 = .ok (.iconst 3, 1) := by decide +kernel
theorem d_Reader_readPower_77 : decode prog_8_method_15_code 77 = .ok (.iload_n 1, 1) := by decide +kernel
theorem d_Reader_readPower_78 : decode prog_8_method_15_code 78 = .ok (.invokevirtual 69, 3) := by decide +kernel
theorem d_Reader_readPower_81 : decode prog_8_method_15_code 81 = .ok (.lreturn, 1) := by decide +kernel
theorem d_Reader_readPower_82 : decode prog_8_method_15_code 82 = .ok (.lconst 1, 1) := by decide +kernel
theorem d_Reader_readPower_83 : decode prog_8_method_15_code 83 = .ok (.lstore 5, 2) := by decide +kernel
theorem d_Reader_readPower_85 : decode prog_8_method_15_code 85 = .ok (.iconst 0, 1) := by decide +kernel
theorem d_Reader_readPower_86 : decode prog_8_method_15_code 86 = .ok (.istore 7, 2) := by decide +kernel
theorem d_Reader_readPower_88 : decode prog_8_method_15_code 88 = .ok (.iload 7, 2) := by decide +kernel
theorem d_Reader_readPower_90 : decode prog_8_method_15_code 90 = .ok (.iload 4, 2) := by decide +kernel
theorem d_Reader_readPower_92 : decode prog_8_method_15_code 92 = .ok (.if_icmp .ge 17, 3) := by decide +kernel
theorem d_Reader_readPower_95 : decode prog_8_method_15_code 95 = .ok (.lload 5, 2) := by decide +kernel
theorem d_Reader_readPower_97 : decode prog_8_method_15_code 97 = .ok (.lload_n 2, 1) := by decide +kernel
theorem d_Reader_readPower_98 : decode prog_8_method_15_code 98 = .ok (.invokestatic 91, 3) := by decide +kernel
theorem d_Reader_readPower_101 : decode prog_8_method_15_code 101 = .ok (.lstore 5, 2) := by decide +kernel
theorem d_Reader_readPower_103 : decode prog_8_method_15_code 103 = .ok (.iinc 7 1, 3) := by decide +kernel
theorem d_Reader_readPower_106 : decode prog_8_method_15_code 106 = .ok (.goto (-18), 3) := by decide +kernel
theorem d_Reader_readPower_109 : decode prog_8_method_15_code 109 = .ok (.lload 5, 2) := by decide +kernel
theorem d_Reader_readPower_111 : decode prog_8_method_15_code 111 = .ok (.lreturn, 1) := by decide +kernel
def cf_Reader_readPower_B88 (NR : Wd → (Int64 → Wd → Prop) → Prop)  (K88 : Int64 → Int32 → Int64 → Int32 → Wd → Prop) (P : Int64 → Wd → Prop) (x2 : Int64) (x4 : Int32) (x5 : Int64) (x7 : Int32) (w : Wd) : Prop :=
  ((x4 ≤ x7 → P x5 w) ∧ (¬ x4 ≤ x7 → cf_Polys_product x5 x2 (fun r12 => ∀ v13, v13 = x7 + (1 : Int32) → K88 x2 x4 r12 v13 w)))
def cf_Reader_readPower_L88 (NR : Wd → (Int64 → Wd → Prop) → Prop)   (P : Int64 → Wd → Prop) : Nat → Int64 → Int32 → Int64 → Int32 → Wd → Prop
  | 0 => fun x2 x4 x5 x7 w => False
  | n + 1 => fun x2 x4 x5 x7 w => cf_Reader_readPower_B88 NR (cf_Reader_readPower_L88 NR P n) P x2 x4 x5 x7 w
def cf_Reader_readPower (NR : Wd → (Int64 → Wd → Prop) → Prop)  (w : Wd) (P : Int64 → Wd → Prop) : Prop :=
  cf_Reader_peek  w (fun r1 w2 => ∀ v3, v3 = w2.1 1 3 → cf_Reader_readOne NR  w2 (fun r4 w5 => ((¬ (w5.1 1 5) = (-1 : Int32) → P r4 w5) ∧ ((w5.1 1 5) = (-1 : Int32) → cf_Reader_peek  w5 (fun r6 w7 => ((r6 = (94 : Int32) → ∀ w8, w8 = wI w7 1 3 ((w7.1 1 3) + (1 : Int32)) → cf_Reader_readNumber (0 : Int32) (31 : Int32) w8 (fun r9 w10 => (((w10.1 1 5) = (-1 : Int32) → cf_Polys_degree r4 (fun r11 => (((r11 * r9) ≤ (31 : Int32) → ∃ n, cf_Reader_readPower_L88 NR P n r4 r9 (1 : Int64) (0 : Int32) w10) ∧ (¬ (r11 * r9) ≤ (31 : Int32) → cf_Reader_fail (3 : Int32) v3 w10 (fun r14 w15 => P r14 w15))))) ∧ (¬ (w10.1 1 5) = (-1 : Int32) → P (0 : Int64) w10)))) ∧ (¬ r6 = (94 : Int32) → P r4 w7)))))))
theorem cf_Reader_readPower_B88_ok {g : ayG} {d : Nat} {NR : Wd → (Int64 → Wd → Prop) → Prop} (D0 : Nat) (hNR : ∀ (d2 : Nat) (hd2 : D0 ≤ d2)   (w : Wd) (P : Int64 → Wd → Prop) (h : NR w P), Call g y_Reader_readNested prog_8_method_18_code 3 (some FieldType.long) d2 [.ref (g.1 + 1)] w (fun (r : Option Value) (w2 : Wd) => ∃ x, r = some (.long x) ∧ P x w2)) (hd : D0 + 9 ≤ d)   (w : Wd) (K88 : Int64 → Int32 → Int64 → Int32 → Wd → Prop) (P : Int64 → Wd → Prop) (Q : Option Value → Wd → Prop) (hQ : ∀ x w2, P x w2 → Q (some (.long x)) w2) (hK88 : ∀ (x2 : Int64) (x4 : Int32) (x5 : Int64) (x7 : Int32) (w : Wd), (K88 x2 x4 x5 x7 w → wp g (fun _ => True) y_Reader_readPower prog_8_method_15_code 8 (some FieldType.long) d 88 [(2, .long x2), (4, .int x4), (5, .long x5), (7, .int x7)] [] w Q)) (x2 : Int64) (x4 : Int32) (x5 : Int64) (x7 : Int32) (h : cf_Reader_readPower_B88 NR K88 P x2 x4 x5 x7 w) : wp g (fun _ => True) y_Reader_readPower prog_8_method_15_code 8 (some FieldType.long) d 88 [(2, .long x2), (4, .int x4), (5, .long x5), (7, .int x7)] [] w Q := by
  unfold cf_Reader_readPower_B88 at h
  refine am_iload d_Reader_readPower_88 3 rfl ?_
  refine am_iload d_Reader_readPower_90 1 rfl ?_
  refine am_icmp_ge (tgt := 109) d_Reader_readPower_92 (by decide) (fun c92 => ?_) (fun c92 => ?_)
  · have h := h.1 c92
    refine am_lload d_Reader_readPower_109 2 rfl ?_
    exact am_lreturn d_Reader_readPower_111 rfl (hQ x5 w h)
  · have h := h.2 c92
    refine am_lload d_Reader_readPower_95 2 rfl ?_
    refine am_lload_n d_Reader_readPower_97 0 rfl ?_
    refine am_callS (d2 := d - 1) [.long x5, .long x2] d_Reader_readPower_98 mi_Polys_product wd_406 wd_407 (by omega) rfl rfl (Nat.le_of_ble_eq_true rfl) ?_
    refine Call.post ?_ (cf_Polys_product_ok (by omega) x5 x2  w _ h)
    rintro _ _ ⟨r12, rfl, rfl, h⟩
    show wp g (fun _ => True) y_Reader_readPower prog_8_method_15_code 8 (some FieldType.long) d 101 [(2, .long x2), (4, .int x4), (5, .long x5), (7, .int x7)] [.long r12] w Q
    refine am_lstore (l' := [(5, .long r12), (2, .long x2), (4, .int x4), (7, .int x7)]) d_Reader_readPower_101 (by decide) rfl ?_
    obtain ⟨v13, ev13⟩ : ∃ z : Int32, z = x7 + (1 : Int32) := ⟨_, rfl⟩
    have h := h v13 ev13
    refine am_iinc (v := v13) (l' := [(7, .int v13), (5, .long r12), (2, .long x2), (4, .int x4)]) d_Reader_readPower_103 3 rfl (by rw [ev13]; rfl) (by decide) rfl ?_
    refine am_goto (tgt := 88) d_Reader_readPower_106 (by decide) ?_
    refine am_sub [2, 3, 1, 0] rfl ?_
    exact hK88 x2 x4 r12 v13 w h
theorem cf_Reader_readPower_L88_ok {g : ayG} {d : Nat} {NR : Wd → (Int64 → Wd → Prop) → Prop} (D0 : Nat) (hNR : ∀ (d2 : Nat) (hd2 : D0 ≤ d2)   (w : Wd) (P : Int64 → Wd → Prop) (h : NR w P), Call g y_Reader_readNested prog_8_method_18_code 3 (some FieldType.long) d2 [.ref (g.1 + 1)] w (fun (r : Option Value) (w2 : Wd) => ∃ x, r = some (.long x) ∧ P x w2)) (hd : D0 + 9 ≤ d)    (P : Int64 → Wd → Prop) (Q : Option Value → Wd → Prop) (hQ : ∀ x w2, P x w2 → Q (some (.long x)) w2)  : ∀ (n : Nat) (x2 : Int64) (x4 : Int32) (x5 : Int64) (x7 : Int32) (w : Wd) (h : cf_Reader_readPower_L88 NR P n x2 x4 x5 x7 w), wp g (fun _ => True) y_Reader_readPower prog_8_method_15_code 8 (some FieldType.long) d 88 [(2, .long x2), (4, .int x4), (5, .long x5), (7, .int x7)] [] w Q
  | 0, x2, x4, x5, x7, w, h => False.elim h
  | n + 1, x2, x4, x5, x7, w, h => cf_Reader_readPower_B88_ok D0 hNR hd   w (cf_Reader_readPower_L88 NR P n) P Q hQ (fun x2 x4 x5 x7 w h => cf_Reader_readPower_L88_ok D0 hNR hd    P Q hQ  n x2 x4 x5 x7 w h) x2 x4 x5 x7 h
theorem cf_Reader_readPower_ok {g : ayG} {d : Nat} {NR : Wd → (Int64 → Wd → Prop) → Prop} (D0 : Nat) (hNR : ∀ (d2 : Nat) (hd2 : D0 ≤ d2)   (w : Wd) (P : Int64 → Wd → Prop) (h : NR w P), Call g y_Reader_readNested prog_8_method_18_code 3 (some FieldType.long) d2 [.ref (g.1 + 1)] w (fun (r : Option Value) (w2 : Wd) => ∃ x, r = some (.long x) ∧ P x w2)) (hd : D0 + 9 ≤ d)   (w : Wd) (P : Int64 → Wd → Prop) (h : cf_Reader_readPower NR w P) : Call g y_Reader_readPower prog_8_method_15_code 8 (some FieldType.long) d [.ref (g.1 + 1)] w (fun (r : Option Value) (w2 : Wd) => ∃ x, r = some (.long x) ∧ P x w2) := by
  unfold cf_Reader_readPower at h
  refine am_enter mi_Reader_readPower (Nat.le_of_ble_eq_true rfl) ?_
  have hQ : ∀ x w2, P x w2 → (fun (r : Option Value) (w2 : Wd) => ∃ x, r = some (.long x) ∧ P x w2) (some (.long x)) w2 := fun x w2 h => ⟨x, rfl, h⟩
  generalize (fun (r : Option Value) (w2 : Wd) => ∃ x, r = some (.long x) ∧ P x w2) = Q at hQ ⊢
  show wp g (fun _ => True) y_Reader_readPower prog_8_method_15_code 8 (some FieldType.long) d 0 [(0, .ref (g.1 + 1))] [] w Q
  refine am_aload_n d_Reader_readPower_0 0 rfl ?_
  refine am_callV (C := y_Reader_peek.cls) (d2 := d - 1) [] d_Reader_readPower_1 mi_Reader_peek wd_273 wd_275 ws_Reader_peek (by decide) (el_Reader (show ay_sh 1 = _ from rfl)) rfl rfl (by omega) rfl rfl (Nat.le_of_ble_eq_true rfl) ?_
  refine Call.post ?_ (cf_Reader_peek_ok (by omega)   w _ h)
  rintro _ w2 ⟨r1, rfl, h⟩
  show wp g (fun _ => True) y_Reader_readPower prog_8_method_15_code 8 (some FieldType.long) d 4 [(0, .ref (g.1 + 1))] [.int r1] w2 Q
  refine am_pop d_Reader_readPower_4 rfl ?_
  refine am_aload_n d_Reader_readPower_5 0 rfl ?_
  refine am_getf (T := F_Reader) (fs := ob_Reader g w2 1) (C := R_Reader) (N := 8) (ci := 1) 3 d_Reader_readPower_6 wd_53 rfl (by decide) (el_Reader (show ay_sh 1 = _ from rfl)) rfl i_Reader (by decide) rfl ?_
  refine am_topi (fun v3 ev3 => ?_)
  have h := h v3 ev3
  refine am_istore_n (l' := [(1, .int v3), (0, .ref (g.1 + 1))]) d_Reader_readPower_9 (by decide) rfl ?_
  refine am_aload_n d_Reader_readPower_10 1 rfl ?_
  refine am_callV (C := y_Reader_readOne.cls) (d2 := d - 1) [] d_Reader_readPower_11 mi_Reader_readOne wd_308 wd_310 ws_Reader_readOne (by decide) (el_Reader (show ay_sh 1 = _ from rfl)) rfl rfl (by omega) rfl rfl (Nat.le_of_ble_eq_true rfl) ?_
  refine Call.post ?_ (cf_Reader_readOne_ok _ hNR (by omega)   w2 _ h)
  rintro _ w5 ⟨r4, rfl, h⟩
  show wp g (fun _ => True) y_Reader_readPower prog_8_method_15_code 8 (some FieldType.long) d 14 [(1, .int v3), (0, .ref (g.1 + 1))] [.long r4] w5 Q
  refine am_lstore_n (l' := [(2, .long r4), (1, .int v3), (0, .ref (g.1 + 1))]) d_Reader_readPower_14 (by decide) rfl ?_
  refine am_aload_n d_Reader_readPower_15 2 rfl ?_
  refine am_getf (T := F_Reader) (fs := ob_Reader g w5 1) (C := R_Reader) (N := 8) (ci := 1) 5 d_Reader_readPower_16 wd_55 rfl (by decide) (el_Reader (show ay_sh 1 = _ from rfl)) rfl i_Reader (by decide) rfl ?_
  refine am_iconst (v := -1) d_Reader_readPower_19 rfl ?_
  refine am_icmp_ne (tgt := 32) d_Reader_readPower_20 (by decide) (fun c20 => ?_) (fun c20 => ?_)
  · have h := h.1 c20
    refine am_lload_n d_Reader_readPower_32 0 rfl ?_
    exact am_lreturn d_Reader_readPower_33 rfl (hQ r4 w5 h)
  · have h := h.2 c20
    refine am_aload_n d_Reader_readPower_23 2 rfl ?_
    refine am_callV (C := y_Reader_peek.cls) (d2 := d - 1) [] d_Reader_readPower_24 mi_Reader_peek wd_273 wd_275 ws_Reader_peek (by decide) (el_Reader (show ay_sh 1 = _ from rfl)) rfl rfl (by omega) rfl rfl (Nat.le_of_ble_eq_true rfl) ?_
    refine Call.post ?_ (cf_Reader_peek_ok (by omega)   w5 _ h)
    rintro _ w7 ⟨r6, rfl, h⟩
    show wp g (fun _ => True) y_Reader_readPower prog_8_method_15_code 8 (some FieldType.long) d 27 [(2, .long r4), (1, .int v3), (0, .ref (g.1 + 1))] [.int r6] w7 Q
    refine am_bipush (v := 94) d_Reader_readPower_27 rfl ?_
    refine am_icmp_eq (tgt := 34) d_Reader_readPower_29 (by decide) (fun c29 => ?_) (fun c29 => ?_)
    · have h := h.1 c29
      refine am_aload_n d_Reader_readPower_34 2 rfl ?_
      refine am_dup d_Reader_readPower_35 rfl ?_
      refine am_getf (T := F_Reader) (fs := ob_Reader g w7 1) (C := R_Reader) (N := 8) (ci := 1) 3 d_Reader_readPower_36 wd_53 rfl (by decide) (el_Reader (show ay_sh 1 = _ from rfl)) rfl i_Reader (by decide) rfl ?_
      refine am_iconst (v := 1) d_Reader_readPower_39 rfl ?_
      refine am_iadd d_Reader_readPower_40 ?_
      refine am_putf (w' := wI w7 1 3 ((w7.1 1 3) + (1 : Int32))) (ty := .int) (T := F_Reader) (fs := ob_Reader g w7 1) (C := R_Reader) (N := 8) (ci := 1) 3 d_Reader_readPower_41 wd_53 rfl (by decide) (el_Reader (show ay_sh 1 = _ from rfl)) rfl i_Reader (by decide) G_Reader ty_Reader n_Reader rfl (ty_Reader 3 (by decide)) rfl rfl (Nat.le_of_ble_eq_true rfl) ((el_Reader (show ay_sh 1 = _ from rfl)).trans (by rw [pf_Reader_at])) wI_o ?_
      obtain ⟨w8, ew8⟩ : ∃ z, z = wI w7 1 3 ((w7.1 1 3) + (1 : Int32)) := ⟨_, rfl⟩
      rw [← ew8]
      have h := h w8 ew8
      refine am_aload_n d_Reader_readPower_44 2 rfl ?_
      refine am_iconst (v := 0) d_Reader_readPower_45 rfl ?_
      refine am_bipush (v := 31) d_Reader_readPower_46 rfl ?_
      refine am_callV (C := y_Reader_readNumber.cls) (d2 := d - 1) [.int (0 : Int32), .int (31 : Int32)] d_Reader_readPower_48 mi_Reader_readNumber wd_269 wd_271 ws_Reader_readNumber (by decide) (el_Reader (show ay_sh 1 = _ from rfl)) rfl rfl (by omega) rfl rfl (Nat.le_of_ble_eq_true rfl) ?_
      refine Call.post ?_ (cf_Reader_readNumber_ok (by omega) (0 : Int32) (31 : Int32)  w8 _ h)
      rintro _ w10 ⟨r9, rfl, h⟩
      show wp g (fun _ => True) y_Reader_readPower prog_8_method_15_code 8 (some FieldType.long) d 51 [(2, .long r4), (1, .int v3), (0, .ref (g.1 + 1))] [.int r9] w10 Q
      refine am_istore (l' := [(4, .int r9), (2, .long r4), (1, .int v3), (0, .ref (g.1 + 1))]) d_Reader_readPower_51 (by decide) rfl ?_
      refine am_aload_n d_Reader_readPower_53 3 rfl ?_
      refine am_getf (T := F_Reader) (fs := ob_Reader g w10 1) (C := R_Reader) (N := 8) (ci := 1) 5 d_Reader_readPower_54 wd_55 rfl (by decide) (el_Reader (show ay_sh 1 = _ from rfl)) rfl i_Reader (by decide) rfl ?_
      refine am_iconst (v := -1) d_Reader_readPower_57 rfl ?_
      refine am_icmp_eq (tgt := 63) d_Reader_readPower_58 (by decide) (fun c58 => ?_) (fun c58 => ?_)
      · have h := h.1 c58
        refine am_lload_n d_Reader_readPower_63 1 rfl ?_
        refine am_callS (d2 := d - 1) [.long r4] d_Reader_readPower_64 mi_Polys_degree wd_405 wd_391 (by omega) rfl rfl (Nat.le_of_ble_eq_true rfl) ?_
        refine Call.post ?_ (cf_Polys_degree_ok (by omega) r4  w10 _ h)
        rintro _ _ ⟨r11, rfl, rfl, h⟩
        show wp g (fun _ => True) y_Reader_readPower prog_8_method_15_code 8 (some FieldType.long) d 67 [(4, .int r9), (2, .long r4), (1, .int v3), (0, .ref (g.1 + 1))] [.int r11] w10 Q
        refine am_iload d_Reader_readPower_67 0 rfl ?_
        refine am_imul d_Reader_readPower_69 ?_
        refine am_bipush (v := 31) d_Reader_readPower_70 rfl ?_
        refine am_icmp_le (tgt := 82) d_Reader_readPower_72 (by decide) (fun c72 => ?_) (fun c72 => ?_)
        · have h := h.1 c72
          refine am_lconst (v := 1) d_Reader_readPower_82 rfl ?_
          refine am_lstore (l' := [(5, .long (1 : Int64)), (4, .int r9), (2, .long r4), (1, .int v3), (0, .ref (g.1 + 1))]) d_Reader_readPower_83 (by decide) rfl ?_
          refine am_iconst (v := 0) d_Reader_readPower_85 rfl ?_
          refine am_istore (l' := [(7, .int (0 : Int32)), (5, .long (1 : Int64)), (4, .int r9), (2, .long r4), (1, .int v3), (0, .ref (g.1 + 1))]) d_Reader_readPower_86 (by decide) rfl ?_
          refine am_sub [3, 2, 1, 0] rfl ?_
          obtain ⟨n, h⟩ := h
          exact cf_Reader_readPower_L88_ok _ hNR (by omega)    P Q hQ  n r4 r9 (1 : Int64) (0 : Int32) w10 h
        · have h := h.2 c72
          refine am_aload_n d_Reader_readPower_75 3 rfl ?_
          refine am_iconst (v := 3) d_Reader_readPower_76 rfl ?_
          refine am_iload_n d_Reader_readPower_77 2 rfl ?_
          refine am_callV (C := y_Reader_fail.cls) (d2 := d - 1) [.int (3 : Int32), .int v3] d_Reader_readPower_78 mi_Reader_fail wd_285 wd_287 ws_Reader_fail (by decide) (el_Reader (show ay_sh 1 = _ from rfl)) rfl rfl (by omega) rfl rfl (Nat.le_of_ble_eq_true rfl) ?_
          refine Call.post ?_ (cf_Reader_fail_ok (by omega) (3 : Int32) v3  w10 _ h)
          rintro _ w15 ⟨r14, rfl, h⟩
          show wp g (fun _ => True) y_Reader_readPower prog_8_method_15_code 8 (some FieldType.long) d 81 [(4, .int r9), (2, .long r4), (1, .int v3), (0, .ref (g.1 + 1))] [.long r14] w15 Q
          exact am_lreturn d_Reader_readPower_81 rfl (hQ r14 w15 h)
      · have h := h.2 c58
        refine am_lconst (v := 0) d_Reader_readPower_61 rfl ?_
        exact am_lreturn d_Reader_readPower_62 rfl (hQ (0 : Int64) w10 h)
    · have h := h.2 c29
      refine am_lload_n d_Reader_readPower_32 0 rfl ?_
      exact am_lreturn d_Reader_readPower_33 rfl (hQ r4 w7 h)
theorem d_Reader_isPowerAhead_0 : decode prog_8_method_14_code 0 = .ok (.aload_n 0, 1) := by decide +kernel
theorem d_Reader_isPowerAhead_1 : decode prog_8_method_14_code 1 = .ok (.invokevirtual 51, 3) := by decide +kernel
theorem d_Reader_isPowerAhead_4 : decode prog_8_method_14_code 4 = .ok (.istore_n 1, 1) := by decide +kernel
theorem d_Reader_isPowerAhead_5 : decode prog_8_method_14_code 5 = .ok (.iload_n 1, 1) := by decide +kernel
theorem d_Reader_isPowerAhead_6 : decode prog_8_method_14_code 6 = .ok (.bipush 42, 2) := by decide +kernel
theorem d_Reader_isPowerAhead_8 : decode prog_8_method_14_code 8 = .ok (.if_icmp .ne 15, 3) := by decide +kernel
theorem d_Reader_isPowerAhead_11 : decode prog_8_method_14_code 11 = .ok (.aload_n 0, 1) := by decide +kernel
theorem d_Reader_isPowerAhead_12 : decode prog_8_method_14_code 12 = .ok (.dup, 1) := by decide +kernel
theorem d_Reader_isPowerAhead_13 : decode prog_8_method_14_code 13 = .ok (.getfield 42, 3) := by decide +kernel
theorem d_Reader_isPowerAhead_16 : decode prog_8_method_14_code 16 = .ok (.iconst 1, 1) := by decide +kernel
theorem d_Reader_isPowerAhead_17 : decode prog_8_method_14_code 17 = .ok (.iadd, 1) := by decide +kernel
theorem d_Reader_isPowerAhead_18 : decode prog_8_method_14_code 18 = .ok (.putfield 42, 3) := by decide +kernel
theorem d_Reader_isPowerAhead_21 : decode prog_8_method_14_code 21 = .ok (.iconst 1, 1) := by decide +kernel
theorem d_Reader_isPowerAhead_22 : decode prog_8_method_14_code 22 = .ok (.ireturn, 1) := by decide +kernel
theorem d_Reader_isPowerAhead_23 : decode prog_8_method_14_code 23 = .ok (.iload_n 1, 1) := by decide +kernel
theorem d_Reader_isPowerAhead_24 : decode prog_8_method_14_code 24 = .ok (.bipush 40, 2) := by decide +kernel
theorem d_Reader_isPowerAhead_26 : decode prog_8_method_14_code 26 = .ok (.if_icmp .eq 17, 3) := by decide +kernel
theorem d_Reader_isPowerAhead_29 : decode prog_8_method_14_code 29 = .ok (.iload_n 1, 1) := by decide +kernel
theorem d_Reader_isPowerAhead_30 : decode prog_8_method_14_code 30 = .ok (.invokestatic 99, 3) := by decide +kernel
theorem d_Reader_isPowerAhead_33 : decode prog_8_method_14_code 33 = .ok (.ifCond .ne 10, 3) := by decide +kernel
theorem d_Reader_isPowerAhead_36 : decode prog_8_method_14_code 36 = .ok (.iload_n 1, 1) := by decide +kernel
theorem d_Reader_isPowerAhead_37 : decode prog_8_method_14_code 37 = .ok (.invokestatic 103, 3) := by decide +kernel
theorem d_Reader_isPowerAhead_40 : decode prog_8_method_14_code 40 = .ok (.ifCond .eq 7, 3) := by decide +kernel
theorem d_Reader_isPowerAhead_43 : decode prog_8_method_14_code 43 = .ok (.iconst 1, 1) := by decide +kernel
theorem d_Reader_isPowerAhead_44 : decode prog_8_method_14_code 44 = .ok (.goto 4, 3) := by decide +kernel
theorem d_Reader_isPowerAhead_47 : decode prog_8_method_14_code 47 = .ok (.iconst 0, 1) := by decide +kernel
theorem d_Reader_isPowerAhead_48 : decode prog_8_method_14_code 48 = .ok (.ireturn, 1) := by decide +kernel
def cf_Reader_isPowerAhead  (w : Wd) (P : Int32 → Wd → Prop) : Prop :=
  cf_Reader_peek  w (fun r1 w2 => ((¬ r1 = (42 : Int32) → ((r1 = (40 : Int32) → P (1 : Int32) w2) ∧ (¬ r1 = (40 : Int32) → cf_Reader_isDigit r1 (fun r3 => ((¬ r3 = 0 → P (1 : Int32) w2) ∧ (r3 = 0 → cf_Reader_isSmallLetter r1 (fun r4 => ((r4 = 0 → P (0 : Int32) w2) ∧ (¬ r4 = 0 → P (1 : Int32) w2))))))))) ∧ (r1 = (42 : Int32) → ∀ w5, w5 = wI w2 1 3 ((w2.1 1 3) + (1 : Int32)) → P (1 : Int32) w5)))
theorem cf_Reader_isPowerAhead_ok {g : ayG} {d : Nat} (hd : 2 ≤ d)   (w : Wd) (P : Int32 → Wd → Prop) (h : cf_Reader_isPowerAhead w P) : Call g y_Reader_isPowerAhead prog_8_method_14_code 2 (some FieldType.boolean) d [.ref (g.1 + 1)] w (fun (r : Option Value) (w2 : Wd) => ∃ x, r = some (.int x) ∧ P x w2) := by
  unfold cf_Reader_isPowerAhead at h
  refine am_enter mi_Reader_isPowerAhead (Nat.le_of_ble_eq_true rfl) ?_
  have hQ : ∀ x w2, P x w2 → (fun (r : Option Value) (w2 : Wd) => ∃ x, r = some (.int x) ∧ P x w2) (some (.int x)) w2 := fun x w2 h => ⟨x, rfl, h⟩
  generalize (fun (r : Option Value) (w2 : Wd) => ∃ x, r = some (.int x) ∧ P x w2) = Q at hQ ⊢
  show wp g (fun _ => True) y_Reader_isPowerAhead prog_8_method_14_code 2 (some FieldType.boolean) d 0 [(0, .ref (g.1 + 1))] [] w Q
  refine am_aload_n d_Reader_isPowerAhead_0 0 rfl ?_
  refine am_callV (C := y_Reader_peek.cls) (d2 := d - 1) [] d_Reader_isPowerAhead_1 mi_Reader_peek wd_273 wd_275 ws_Reader_peek (by decide) (el_Reader (show ay_sh 1 = _ from rfl)) rfl rfl (by omega) rfl rfl (Nat.le_of_ble_eq_true rfl) ?_
  refine Call.post ?_ (cf_Reader_peek_ok (by omega)   w _ h)
  rintro _ w2 ⟨r1, rfl, h⟩
  show wp g (fun _ => True) y_Reader_isPowerAhead prog_8_method_14_code 2 (some FieldType.boolean) d 4 [(0, .ref (g.1 + 1))] [.int r1] w2 Q
  refine am_istore_n (l' := [(1, .int r1), (0, .ref (g.1 + 1))]) d_Reader_isPowerAhead_4 (by decide) rfl ?_
  refine am_iload_n d_Reader_isPowerAhead_5 0 rfl ?_
  refine am_bipush (v := 42) d_Reader_isPowerAhead_6 rfl ?_
  refine am_icmp_ne (tgt := 23) d_Reader_isPowerAhead_8 (by decide) (fun c8 => ?_) (fun c8 => ?_)
  · have h := h.1 c8
    refine am_iload_n d_Reader_isPowerAhead_23 0 rfl ?_
    refine am_bipush (v := 40) d_Reader_isPowerAhead_24 rfl ?_
    refine am_icmp_eq (tgt := 43) d_Reader_isPowerAhead_26 (by decide) (fun c26 => ?_) (fun c26 => ?_)
    · have h := h.1 c26
      refine am_iconst (v := 1) d_Reader_isPowerAhead_43 rfl ?_
      refine am_goto (tgt := 48) d_Reader_isPowerAhead_44 (by decide) ?_
      exact am_ireturn d_Reader_isPowerAhead_48 rfl rfl (hQ (1 : Int32) w2 h)
    · have h := h.2 c26
      refine am_iload_n d_Reader_isPowerAhead_29 0 rfl ?_
      refine am_callS (d2 := d - 1) [.int r1] d_Reader_isPowerAhead_30 mi_Reader_isDigit wd_282 wd_283 (by omega) rfl rfl (Nat.le_of_ble_eq_true rfl) ?_
      refine Call.post ?_ (cf_Reader_isDigit_ok (by omega) r1  w2 _ h)
      rintro _ _ ⟨r3, rfl, rfl, h⟩
      show wp g (fun _ => True) y_Reader_isPowerAhead prog_8_method_14_code 2 (some FieldType.boolean) d 33 [(1, .int r1), (0, .ref (g.1 + 1))] [.int r3] w2 Q
      refine am_if_ne (tgt := 43) d_Reader_isPowerAhead_33 (by decide) (fun c33 => ?_) (fun c33 => ?_)
      · have h := h.1 c33
        refine am_iconst (v := 1) d_Reader_isPowerAhead_43 rfl ?_
        refine am_goto (tgt := 48) d_Reader_isPowerAhead_44 (by decide) ?_
        exact am_ireturn d_Reader_isPowerAhead_48 rfl rfl (hQ (1 : Int32) w2 h)
      · have h := h.2 c33
        refine am_iload_n d_Reader_isPowerAhead_36 0 rfl ?_
        refine am_callS (d2 := d - 1) [.int r1] d_Reader_isPowerAhead_37 mi_Reader_isSmallLetter wd_320 wd_321 (by omega) rfl rfl (Nat.le_of_ble_eq_true rfl) ?_
        refine Call.post ?_ (cf_Reader_isSmallLetter_ok (by omega) r1  w2 _ h)
        rintro _ _ ⟨r4, rfl, rfl, h⟩
        show wp g (fun _ => True) y_Reader_isPowerAhead prog_8_method_14_code 2 (some FieldType.boolean) d 40 [(1, .int r1), (0, .ref (g.1 + 1))] [.int r4] w2 Q
        refine am_if_eq (tgt := 47) d_Reader_isPowerAhead_40 (by decide) (fun c40 => ?_) (fun c40 => ?_)
        · have h := h.1 c40
          refine am_iconst (v := 0) d_Reader_isPowerAhead_47 rfl ?_
          exact am_ireturn d_Reader_isPowerAhead_48 rfl rfl (hQ (0 : Int32) w2 h)
        · have h := h.2 c40
          refine am_iconst (v := 1) d_Reader_isPowerAhead_43 rfl ?_
          refine am_goto (tgt := 48) d_Reader_isPowerAhead_44 (by decide) ?_
          exact am_ireturn d_Reader_isPowerAhead_48 rfl rfl (hQ (1 : Int32) w2 h)
  · have h := h.2 c8
    refine am_aload_n d_Reader_isPowerAhead_11 1 rfl ?_
    refine am_dup d_Reader_isPowerAhead_12 rfl ?_
    refine am_getf (T := F_Reader) (fs := ob_Reader g w2 1) (C := R_Reader) (N := 8) (ci := 1) 3 d_Reader_isPowerAhead_13 wd_53 rfl (by decide) (el_Reader (show ay_sh 1 = _ from rfl)) rfl i_Reader (by decide) rfl ?_
    refine am_iconst (v := 1) d_Reader_isPowerAhead_16 rfl ?_
    refine am_iadd d_Reader_isPowerAhead_17 ?_
    refine am_putf (w' := wI w2 1 3 ((w2.1 1 3) + (1 : Int32))) (ty := .int) (T := F_Reader) (fs := ob_Reader g w2 1) (C := R_Reader) (N := 8) (ci := 1) 3 d_Reader_isPowerAhead_18 wd_53 rfl (by decide) (el_Reader (show ay_sh 1 = _ from rfl)) rfl i_Reader (by decide) G_Reader ty_Reader n_Reader rfl (ty_Reader 3 (by decide)) rfl rfl (Nat.le_of_ble_eq_true rfl) ((el_Reader (show ay_sh 1 = _ from rfl)).trans (by rw [pf_Reader_at])) wI_o ?_
    obtain ⟨w5, ew5⟩ : ∃ z, z = wI w2 1 3 ((w2.1 1 3) + (1 : Int32)) := ⟨_, rfl⟩
    rw [← ew5]
    have h := h w5 ew5
    refine am_iconst (v := 1) d_Reader_isPowerAhead_21 rfl ?_
    exact am_ireturn d_Reader_isPowerAhead_22 rfl rfl (hQ (1 : Int32) w5 h)
theorem d_Reader_readProduct_0 : decode prog_8_method_13_code 0 = .ok (.aload_n 0, 1) := by decide +kernel
theorem d_Reader_readProduct_1 : decode prog_8_method_13_code 1 = .ok (.invokevirtual 51, 3) := by decide +kernel
theorem d_Reader_readProduct_4 : decode prog_8_method_13_code 4 = .ok (.pop, 1) := by decide +kernel
theorem d_Reader_readProduct_5 : decode prog_8_method_13_code 5 = .ok (.aload_n 0, 1) := by decide +kernel
theorem d_Reader_readProduct_6 : decode prog_8_method_13_code 6 = .ok (.getfield 42, 3) := by decide +kernel
theorem d_Reader_readProduct_9 : decode prog_8_method_13_code 9 = .ok (.istore_n 1, 1) := by decide +kernel
theorem d_Reader_readProduct_10 : decode prog_8_method_13_code 10 = .ok (.aload_n 0, 1) := by decide +kernel
theorem d_Reader_readProduct_11 : decode prog_8_method_13_code 11 = .ok (.invokevirtual 84, 3) := by decide +kernel
theorem d_Reader_readProduct_14 : decode prog_8_method_13_code 14 = .ok (.lstore_n 2, 1) := by decide +kernel
theorem d_Reader_readProduct_15 : decode prog_8_method_13_code 15 = .ok (.iconst 0, 1) := by decide +kernel
theorem d_Reader_readProduct_16 : decode prog_8_method_13_code 16 = .ok (.istore 4, 2) := by decide +kernel
theorem d_Reader_readProduct_18 : decode prog_8_method_13_code 18 = .ok (.iload 4, 2) := by decide +kernel
theorem d_Reader_readProduct_20 : decode prog_8_method_13_code 20 = .ok (.sipush 300, 3) := by decide +kernel
theorem d_Reader_readProduct_23 : decode prog_8_method_13_code 23 = .ok (.if_icmp .ge 60, 3) := by decide +kernel
theorem d_Reader_readProduct_26 : decode prog_8_method_13_code 26 = .ok (.aload_n 0, 1) := by decide +kernel
theorem d_Reader_readProduct_27 : decode prog_8_method_13_code 27 = .ok (.getfield 28, 3) := by decide +kernel
theorem d_Reader_readProduct_30 : decode prog_8_method_13_code 30 = .ok (.iconst (-1), 1) := by decide +kernel
theorem d_Reader_readProduct_31 : decode prog_8_method_13_code 31 = .ok (.if_icmp .ne 52, 3) := by decide +kernel
theorem d_Reader_readProduct_34 : decode prog_8_method_13_code 34 = .ok (.aload_n 0, 1) := by decide +kernel
theorem d_Reader_readProduct_35 : decode prog_8_method_13_code 35 = .ok (.invokevirtual 87, 3) := by decide +kernel
theorem d_Reader_readProduct_38 : decode prog_8_method_13_code 38 = .ok (.ifCond .eq 45, 3) := by decide +kernel
theorem d_Reader_readProduct_41 : decode prog_8_method_13_code 41 = .ok (.aload_n 0, 1) := by decide +kernel
theorem d_Reader_readProduct_42 : decode prog_8_method_13_code 42 = .ok (.invokevirtual 84, 3) := by decide +kernel
theorem d_Reader_readProduct_45 : decode prog_8_method_13_code 45 = .ok (.lstore 5, 2) := by decide +kernel
theorem d_Reader_readProduct_47 : decode prog_8_method_13_code 47 = .ok (.aload_n 0, 1) := by decide +kernel
theorem d_Reader_readProduct_48 : decode prog_8_method_13_code 48 = .ok (.getfield 28, 3) := by decide +kernel
theorem d_Reader_readProduct_51 : decode prog_8_method_13_code 51 = .ok (.iconst (-1), 1) := by decide +kernel
theorem d_Reader_readProduct_52 : decode prog_8_method_13_code 52 = .ok (.if_icmp .ne 25, 3) := by decide +kernel
theorem d_Reader_readProduct_55 : decode prog_8_method_13_code 55 = .ok (.lload_n 2, 1) := by decide +kernel
theorem d_Reader_readProduct_56 : decode prog_8_method_13_code 56 = .ok (.lload 5, 2) := by decide +kernel
theorem d_Reader_readProduct_58 : decode prog_8_method_13_code 58 = .ok (.invokestatic 91, 3) := by decide +kernel
theorem d_Reader_readProduct_61 : decode prog_8_method_13_code 61 = .ok (.lstore_n 2, 1) := by decide +kernel
theorem d_Reader_readProduct_62 : decode prog_8_method_13_code 62 = .ok (.lload_n 2, 1) := by decide +kernel
theorem d_Reader_readProduct_63 : decode prog_8_method_13_code 63 = .ok (.ldc2_w 97, 3) := by decide +kernel
theorem d_Reader_readProduct_66 : decode prog_8_method_13_code 66 = .ok (.lcmp, 1) := by decide +kernel
theorem d_Reader_readProduct_67 : decode prog_8_method_13_code 67 = .ok (.ifCond .le 10, 3) := by decide +kernel
theorem d_Reader_readProduct_70 : decode prog_8_method_13_code 70 = .ok (.aload_n 0, 1) := by decide +kernel
theorem d_Reader_readProduct_71 : decode prog_8_method_13_code 71 = .ok (.iconst 3, 1) := by decide +kernel
theorem d_Reader_readProduct_72 : decode prog_8_method_13_code 72 = .ok (.iload_n 1, 1) := by decide +kernel
theorem d_Reader_readProduct_73 : decode prog_8_method_13_code 73 = .ok (.invokevirtual 69, 3) := by decide +kernel
theorem d_Reader_readProduct_76 : decode prog_8_method_13_code 76 = .ok (.lreturn, 1) := by decide +kernel
theorem d_Reader_readProduct_77 : decode prog_8_method_13_code 77 = .ok (.iinc 4 1, 3) := by decide +kernel
theorem d_Reader_readProduct_80 : decode prog_8_method_13_code 80 = .ok (.goto (-62), 3) := by decide +kernel
theorem d_Reader_readProduct_83 : decode prog_8_method_13_code 83 = .ok (.lload_n 2, 1) := by decide +kernel
theorem d_Reader_readProduct_84 : decode prog_8_method_13_code 84 = .ok (.lreturn, 1) := by decide +kernel
def cf_Reader_readProduct_B18 (NR : Wd → (Int64 → Wd → Prop) → Prop)  (K18 : Int32 → Int64 → Int32 → Wd → Prop) (P : Int64 → Wd → Prop) (x1 : Int32) (x2 : Int64) (x4 : Int32) (w : Wd) : Prop :=
  (((300 : Int32) ≤ x4 → P x2 w) ∧ (¬ (300 : Int32) ≤ x4 → ((¬ (w.1 1 5) = (-1 : Int32) → P x2 w) ∧ ((w.1 1 5) = (-1 : Int32) → cf_Reader_isPowerAhead  w (fun r6 w7 => ((r6 = 0 → P x2 w7) ∧ (¬ r6 = 0 → cf_Reader_readPower NR  w7 (fun r8 w9 => ((¬ (w9.1 1 5) = (-1 : Int32) → ∀ v10, v10 = x4 + (1 : Int32) → K18 x1 x2 v10 w9) ∧ ((w9.1 1 5) = (-1 : Int32) → cf_Polys_product x2 r8 (fun r11 => ((r11 ≤ (4294967295 : Int64) → ∀ v12, v12 = x4 + (1 : Int32) → K18 x1 r11 v12 w9) ∧ (¬ r11 ≤ (4294967295 : Int64) → cf_Reader_fail (3 : Int32) x1 w9 (fun r13 w14 => P r13 w14))))))))))))))
def cf_Reader_readProduct_L18 (NR : Wd → (Int64 → Wd → Prop) → Prop)   (P : Int64 → Wd → Prop) : Nat → Int32 → Int64 → Int32 → Wd → Prop
  | 0 => fun x1 x2 x4 w => False
  | n + 1 => fun x1 x2 x4 w => cf_Reader_readProduct_B18 NR (cf_Reader_readProduct_L18 NR P n) P x1 x2 x4 w
def cf_Reader_readProduct (NR : Wd → (Int64 → Wd → Prop) → Prop)  (w : Wd) (P : Int64 → Wd → Prop) : Prop :=
  cf_Reader_peek  w (fun r1 w2 => ∀ v3, v3 = w2.1 1 3 → cf_Reader_readPower NR  w2 (fun r4 w5 => ∃ n, cf_Reader_readProduct_L18 NR P n v3 r4 (0 : Int32) w5))
theorem cf_Reader_readProduct_B18_ok {g : ayG} {d : Nat} {NR : Wd → (Int64 → Wd → Prop) → Prop} (D0 : Nat) (hNR : ∀ (d2 : Nat) (hd2 : D0 ≤ d2)   (w : Wd) (P : Int64 → Wd → Prop) (h : NR w P), Call g y_Reader_readNested prog_8_method_18_code 3 (some FieldType.long) d2 [.ref (g.1 + 1)] w (fun (r : Option Value) (w2 : Wd) => ∃ x, r = some (.long x) ∧ P x w2)) (hd : D0 + 10 ≤ d)   (w : Wd) (K18 : Int32 → Int64 → Int32 → Wd → Prop) (P : Int64 → Wd → Prop) (Q : Option Value → Wd → Prop) (hQ : ∀ x w2, P x w2 → Q (some (.long x)) w2) (hK18 : ∀ (x1 : Int32) (x2 : Int64) (x4 : Int32) (w : Wd), (K18 x1 x2 x4 w → wp g (fun _ => True) y_Reader_readProduct prog_8_method_13_code 7 (some FieldType.long) d 18 [(0, .ref (g.1 + 1)), (1, .int x1), (2, .long x2), (4, .int x4)] [] w Q)) (x1 : Int32) (x2 : Int64) (x4 : Int32) (h : cf_Reader_readProduct_B18 NR K18 P x1 x2 x4 w) : wp g (fun _ => True) y_Reader_readProduct prog_8_method_13_code 7 (some FieldType.long) d 18 [(0, .ref (g.1 + 1)), (1, .int x1), (2, .long x2), (4, .int x4)] [] w Q := by
  unfold cf_Reader_readProduct_B18 at h
  refine am_iload d_Reader_readProduct_18 3 rfl ?_
  refine am_sipush (v := 300) d_Reader_readProduct_20 rfl ?_
  refine am_icmp_ge (tgt := 83) d_Reader_readProduct_23 (by decide) (fun c23 => ?_) (fun c23 => ?_)
  · have h := h.1 c23
    refine am_lload_n d_Reader_readProduct_83 2 rfl ?_
    exact am_lreturn d_Reader_readProduct_84 rfl (hQ x2 w h)
  · have h := h.2 c23
    refine am_aload_n d_Reader_readProduct_26 0 rfl ?_
    refine am_getf (T := F_Reader) (fs := ob_Reader g w 1) (C := R_Reader) (N := 8) (ci := 1) 5 d_Reader_readProduct_27 wd_55 rfl (by decide) (el_Reader (show ay_sh 1 = _ from rfl)) rfl i_Reader (by decide) rfl ?_
    refine am_iconst (v := -1) d_Reader_readProduct_30 rfl ?_
    refine am_icmp_ne (tgt := 83) d_Reader_readProduct_31 (by decide) (fun c31 => ?_) (fun c31 => ?_)
    · have h := h.1 c31
      refine am_lload_n d_Reader_readProduct_83 2 rfl ?_
      exact am_lreturn d_Reader_readProduct_84 rfl (hQ x2 w h)
    · have h := h.2 c31
      refine am_aload_n d_Reader_readProduct_34 0 rfl ?_
      refine am_callV (C := y_Reader_isPowerAhead.cls) (d2 := d - 1) [] d_Reader_readProduct_35 mi_Reader_isPowerAhead wd_409 wd_411 ws_Reader_isPowerAhead (by decide) (el_Reader (show ay_sh 1 = _ from rfl)) rfl rfl (by omega) rfl rfl (Nat.le_of_ble_eq_true rfl) ?_
      refine Call.post ?_ (cf_Reader_isPowerAhead_ok (by omega)   w _ h)
      rintro _ w7 ⟨r6, rfl, h⟩
      show wp g (fun _ => True) y_Reader_readProduct prog_8_method_13_code 7 (some FieldType.long) d 38 [(0, .ref (g.1 + 1)), (1, .int x1), (2, .long x2), (4, .int x4)] [.int r6] w7 Q
      refine am_if_eq (tgt := 83) d_Reader_readProduct_38 (by decide) (fun c38 => ?_) (fun c38 => ?_)
      · have h := h.1 c38
        refine am_lload_n d_Reader_readProduct_83 2 rfl ?_
        exact am_lreturn d_Reader_readProduct_84 rfl (hQ x2 w7 h)
      · have h := h.2 c38
        refine am_aload_n d_Reader_readProduct_41 0 rfl ?_
        refine am_callV (C := y_Reader_readPower.cls) (d2 := d - 1) [] d_Reader_readProduct_42 mi_Reader_readPower wd_304 wd_306 ws_Reader_readPower (by decide) (el_Reader (show ay_sh 1 = _ from rfl)) rfl rfl (by omega) rfl rfl (Nat.le_of_ble_eq_true rfl) ?_
        refine Call.post ?_ (cf_Reader_readPower_ok _ hNR (by omega)   w7 _ h)
        rintro _ w9 ⟨r8, rfl, h⟩
        show wp g (fun _ => True) y_Reader_readProduct prog_8_method_13_code 7 (some FieldType.long) d 45 [(0, .ref (g.1 + 1)), (1, .int x1), (2, .long x2), (4, .int x4)] [.long r8] w9 Q
        refine am_lstore (l' := [(5, .long r8), (0, .ref (g.1 + 1)), (1, .int x1), (2, .long x2), (4, .int x4)]) d_Reader_readProduct_45 (by decide) rfl ?_
        refine am_aload_n d_Reader_readProduct_47 1 rfl ?_
        refine am_getf (T := F_Reader) (fs := ob_Reader g w9 1) (C := R_Reader) (N := 8) (ci := 1) 5 d_Reader_readProduct_48 wd_55 rfl (by decide) (el_Reader (show ay_sh 1 = _ from rfl)) rfl i_Reader (by decide) rfl ?_
        refine am_iconst (v := -1) d_Reader_readProduct_51 rfl ?_
        refine am_icmp_ne (tgt := 77) d_Reader_readProduct_52 (by decide) (fun c52 => ?_) (fun c52 => ?_)
        · have h := h.1 c52
          obtain ⟨v10, ev10⟩ : ∃ z : Int32, z = x4 + (1 : Int32) := ⟨_, rfl⟩
          have h := h v10 ev10
          refine am_iinc (v := v10) (l' := [(4, .int v10), (5, .long r8), (0, .ref (g.1 + 1)), (1, .int x1), (2, .long x2)]) d_Reader_readProduct_77 4 rfl (by rw [ev10]; rfl) (by decide) rfl ?_
          refine am_goto (tgt := 18) d_Reader_readProduct_80 (by decide) ?_
          refine am_sub [2, 3, 4, 0] rfl ?_
          exact hK18 x1 x2 v10 w9 h
        · have h := h.2 c52
          refine am_lload_n d_Reader_readProduct_55 3 rfl ?_
          refine am_lload d_Reader_readProduct_56 0 rfl ?_
          refine am_callS (d2 := d - 1) [.long x2, .long r8] d_Reader_readProduct_58 mi_Polys_product wd_406 wd_407 (by omega) rfl rfl (Nat.le_of_ble_eq_true rfl) ?_
          refine Call.post ?_ (cf_Polys_product_ok (by omega) x2 r8  w9 _ h)
          rintro _ _ ⟨r11, rfl, rfl, h⟩
          show wp g (fun _ => True) y_Reader_readProduct prog_8_method_13_code 7 (some FieldType.long) d 61 [(5, .long r8), (0, .ref (g.1 + 1)), (1, .int x1), (2, .long x2), (4, .int x4)] [.long r11] w9 Q
          refine am_lstore_n (l' := [(2, .long r11), (5, .long r8), (0, .ref (g.1 + 1)), (1, .int x1), (4, .int x4)]) d_Reader_readProduct_61 (by decide) rfl ?_
          refine am_lload_n d_Reader_readProduct_62 0 rfl ?_
          refine am_ldc2 (v := 4294967295) d_Reader_readProduct_63 wd_413 ?_
          refine am_lif_le (tgt := 77) d_Reader_readProduct_66 d_Reader_readProduct_67 (by decide) (fun c66 => ?_) (fun c66 => ?_)
          · have h := h.1 c66
            obtain ⟨v12, ev12⟩ : ∃ z : Int32, z = x4 + (1 : Int32) := ⟨_, rfl⟩
            have h := h v12 ev12
            refine am_iinc (v := v12) (l' := [(4, .int v12), (2, .long r11), (5, .long r8), (0, .ref (g.1 + 1)), (1, .int x1)]) d_Reader_readProduct_77 4 rfl (by rw [ev12]; rfl) (by decide) rfl ?_
            refine am_goto (tgt := 18) d_Reader_readProduct_80 (by decide) ?_
            refine am_sub [3, 4, 1, 0] rfl ?_
            exact hK18 x1 r11 v12 w9 h
          · have h := h.2 c66
            refine am_aload_n d_Reader_readProduct_70 2 rfl ?_
            refine am_iconst (v := 3) d_Reader_readProduct_71 rfl ?_
            refine am_iload_n d_Reader_readProduct_72 3 rfl ?_
            refine am_callV (C := y_Reader_fail.cls) (d2 := d - 1) [.int (3 : Int32), .int x1] d_Reader_readProduct_73 mi_Reader_fail wd_285 wd_287 ws_Reader_fail (by decide) (el_Reader (show ay_sh 1 = _ from rfl)) rfl rfl (by omega) rfl rfl (Nat.le_of_ble_eq_true rfl) ?_
            refine Call.post ?_ (cf_Reader_fail_ok (by omega) (3 : Int32) x1  w9 _ h)
            rintro _ w14 ⟨r13, rfl, h⟩
            show wp g (fun _ => True) y_Reader_readProduct prog_8_method_13_code 7 (some FieldType.long) d 76 [(2, .long r11), (5, .long r8), (0, .ref (g.1 + 1)), (1, .int x1), (4, .int x4)] [.long r13] w14 Q
            exact am_lreturn d_Reader_readProduct_76 rfl (hQ r13 w14 h)
theorem cf_Reader_readProduct_L18_ok {g : ayG} {d : Nat} {NR : Wd → (Int64 → Wd → Prop) → Prop} (D0 : Nat) (hNR : ∀ (d2 : Nat) (hd2 : D0 ≤ d2)   (w : Wd) (P : Int64 → Wd → Prop) (h : NR w P), Call g y_Reader_readNested prog_8_method_18_code 3 (some FieldType.long) d2 [.ref (g.1 + 1)] w (fun (r : Option Value) (w2 : Wd) => ∃ x, r = some (.long x) ∧ P x w2)) (hd : D0 + 10 ≤ d)    (P : Int64 → Wd → Prop) (Q : Option Value → Wd → Prop) (hQ : ∀ x w2, P x w2 → Q (some (.long x)) w2)  : ∀ (n : Nat) (x1 : Int32) (x2 : Int64) (x4 : Int32) (w : Wd) (h : cf_Reader_readProduct_L18 NR P n x1 x2 x4 w), wp g (fun _ => True) y_Reader_readProduct prog_8_method_13_code 7 (some FieldType.long) d 18 [(0, .ref (g.1 + 1)), (1, .int x1), (2, .long x2), (4, .int x4)] [] w Q
  | 0, x1, x2, x4, w, h => False.elim h
  | n + 1, x1, x2, x4, w, h => cf_Reader_readProduct_B18_ok D0 hNR hd   w (cf_Reader_readProduct_L18 NR P n) P Q hQ (fun x1 x2 x4 w h => cf_Reader_readProduct_L18_ok D0 hNR hd    P Q hQ  n x1 x2 x4 w h) x1 x2 x4 h
theorem cf_Reader_readProduct_ok {g : ayG} {d : Nat} {NR : Wd → (Int64 → Wd → Prop) → Prop} (D0 : Nat) (hNR : ∀ (d2 : Nat) (hd2 : D0 ≤ d2)   (w : Wd) (P : Int64 → Wd → Prop) (h : NR w P), Call g y_Reader_readNested prog_8_method_18_code 3 (some FieldType.long) d2 [.ref (g.1 + 1)] w (fun (r : Option Value) (w2 : Wd) => ∃ x, r = some (.long x) ∧ P x w2)) (hd : D0 + 10 ≤ d)   (w : Wd) (P : Int64 → Wd → Prop) (h : cf_Reader_readProduct NR w P) : Call g y_Reader_readProduct prog_8_method_13_code 7 (some FieldType.long) d [.ref (g.1 + 1)] w (fun (r : Option Value) (w2 : Wd) => ∃ x, r = some (.long x) ∧ P x w2) := by
  unfold cf_Reader_readProduct at h
  refine am_enter mi_Reader_readProduct (Nat.le_of_ble_eq_true rfl) ?_
  have hQ : ∀ x w2, P x w2 → (fun (r : Option Value) (w2 : Wd) => ∃ x, r = some (.long x) ∧ P x w2) (some (.long x)) w2 := fun x w2 h => ⟨x, rfl, h⟩
  generalize (fun (r : Option Value) (w2 : Wd) => ∃ x, r = some (.long x) ∧ P x w2) = Q at hQ ⊢
  show wp g (fun _ => True) y_Reader_readProduct prog_8_method_13_code 7 (some FieldType.long) d 0 [(0, .ref (g.1 + 1))] [] w Q
  refine am_aload_n d_Reader_readProduct_0 0 rfl ?_
  refine am_callV (C := y_Reader_peek.cls) (d2 := d - 1) [] d_Reader_readProduct_1 mi_Reader_peek wd_273 wd_275 ws_Reader_peek (by decide) (el_Reader (show ay_sh 1 = _ from rfl)) rfl rfl (by omega) rfl rfl (Nat.le_of_ble_eq_true rfl) ?_
  refine Call.post ?_ (cf_Reader_peek_ok (by omega)   w _ h)
  rintro _ w2 ⟨r1, rfl, h⟩
  show wp g (fun _ => True) y_Reader_readProduct prog_8_method_13_code 7 (some FieldType.long) d 4 [(0, .ref (g.1 + 1))] [.int r1] w2 Q
  refine am_pop d_Reader_readProduct_4 rfl ?_
  refine am_aload_n d_Reader_readProduct_5 0 rfl ?_
  refine am_getf (T := F_Reader) (fs := ob_Reader g w2 1) (C := R_Reader) (N := 8) (ci := 1) 3 d_Reader_readProduct_6 wd_53 rfl (by decide) (el_Reader (show ay_sh 1 = _ from rfl)) rfl i_Reader (by decide) rfl ?_
  refine am_topi (fun v3 ev3 => ?_)
  have h := h v3 ev3
  refine am_istore_n (l' := [(1, .int v3), (0, .ref (g.1 + 1))]) d_Reader_readProduct_9 (by decide) rfl ?_
  refine am_aload_n d_Reader_readProduct_10 1 rfl ?_
  refine am_callV (C := y_Reader_readPower.cls) (d2 := d - 1) [] d_Reader_readProduct_11 mi_Reader_readPower wd_304 wd_306 ws_Reader_readPower (by decide) (el_Reader (show ay_sh 1 = _ from rfl)) rfl rfl (by omega) rfl rfl (Nat.le_of_ble_eq_true rfl) ?_
  refine Call.post ?_ (cf_Reader_readPower_ok _ hNR (by omega)   w2 _ h)
  rintro _ w5 ⟨r4, rfl, h⟩
  show wp g (fun _ => True) y_Reader_readProduct prog_8_method_13_code 7 (some FieldType.long) d 14 [(1, .int v3), (0, .ref (g.1 + 1))] [.long r4] w5 Q
  refine am_lstore_n (l' := [(2, .long r4), (1, .int v3), (0, .ref (g.1 + 1))]) d_Reader_readProduct_14 (by decide) rfl ?_
  refine am_iconst (v := 0) d_Reader_readProduct_15 rfl ?_
  refine am_istore (l' := [(4, .int (0 : Int32)), (2, .long r4), (1, .int v3), (0, .ref (g.1 + 1))]) d_Reader_readProduct_16 (by decide) rfl ?_
  refine am_sub [3, 2, 1, 0] rfl ?_
  obtain ⟨n, h⟩ := h
  exact cf_Reader_readProduct_L18_ok _ hNR (by omega)    P Q hQ  n v3 r4 (0 : Int32) w5 h
theorem d_Reader_readSum_0 : decode prog_8_method_12_code 0 = .ok (.aload_n 0, 1) := by decide +kernel
theorem d_Reader_readSum_1 : decode prog_8_method_12_code 1 = .ok (.invokevirtual 81, 3) := by decide +kernel
theorem d_Reader_readSum_4 : decode prog_8_method_12_code 4 = .ok (.lstore_n 1, 1) := by decide +kernel
theorem d_Reader_readSum_5 : decode prog_8_method_12_code 5 = .ok (.iconst 0, 1) := by decide +kernel
theorem d_Reader_readSum_6 : decode prog_8_method_12_code 6 = .ok (.istore_n 3, 1) := by decide +kernel
theorem d_Reader_readSum_7 : decode prog_8_method_12_code 7 = .ok (.iload_n 3, 1) := by decide +kernel
theorem d_Reader_readSum_8 : decode prog_8_method_12_code 8 = .ok (.sipush 300, 3) := by decide +kernel
theorem d_Reader_readSum_11 : decode prog_8_method_12_code 11 = .ok (.if_icmp .ge 43, 3) := by decide +kernel
theorem d_Reader_readSum_14 : decode prog_8_method_12_code 14 = .ok (.aload_n 0, 1) := by decide +kernel
theorem d_Reader_readSum_15 : decode prog_8_method_12_code 15 = .ok (.getfield 28, 3) := by decide +kernel
theorem d_Reader_readSum_18 : decode prog_8_method_12_code 18 = .ok (.iconst (-1), 1) := by decide +kernel
theorem d_Reader_readSum_19 : decode prog_8_method_12_code 19 = .ok (.if_icmp .ne 35, 3) := by decide +kernel
theorem d_Reader_readSum_22 : decode prog_8_method_12_code 22 = .ok (.aload_n 0, 1) := by decide +kernel
theorem d_Reader_readSum_23 : decode prog_8_method_12_code 23 = .ok (.invokevirtual 51, 3) := by decide +kernel
theorem d_Reader_readSum_26 : decode prog_8_method_12_code 26 = .ok (.bipush 43, 2) := by decide +kernel
theorem d_Reader_readSum_28 : decode prog_8_method_12_code 28 = .ok (.if_icmp .ne 26, 3) := by decide +kernel
theorem d_Reader_readSum_31 : decode prog_8_method_12_code 31 = .ok (.aload_n 0, 1) := by decide +kernel
theorem d_Reader_readSum_32 : decode prog_8_method_12_code 32 = .ok (.dup, 1) := by decide +kernel
theorem d_Reader_readSum_33 : decode prog_8_method_12_code 33 = .ok (.getfield 42, 3) := by decide +kernel
theorem d_Reader_readSum_36 : decode prog_8_method_12_code 36 = .ok (.iconst 1, 1) := by decide +kernel
theorem d_Reader_readSum_37 : decode prog_8_method_12_code 37 = .ok (.iadd, 1) := by decide +kernel
theorem d_Reader_readSum_38 : decode prog_8_method_12_code 38 = .ok (.putfield 42, 3) := by decide +kernel
theorem d_Reader_readSum_41 : decode prog_8_method_12_code 41 = .ok (.lload_n 1, 1) := by decide +kernel
theorem d_Reader_readSum_42 : decode prog_8_method_12_code 42 = .ok (.aload_n 0, 1) := by decide +kernel
theorem d_Reader_readSum_43 : decode prog_8_method_12_code 43 = .ok (.invokevirtual 81, 3) := by decide +kernel
theorem d_Reader_readSum_46 : decode prog_8_method_12_code 46 = .ok (.lxor, 1) := by decide +kernel
theorem d_Reader_readSum_47 : decode prog_8_method_12_code 47 = .ok (.lstore_n 1, 1) := by decide +kernel
theorem d_Reader_readSum_48 : decode prog_8_method_12_code 48 = .ok (.iinc 3 1, 3) := by decide +kernel
theorem d_Reader_readSum_51 : decode prog_8_method_12_code 51 = .ok (.goto (-44), 3) := by decide +kernel
theorem d_Reader_readSum_54 : decode prog_8_method_12_code 54 = .ok (.lload_n 1, 1) := by decide +kernel
theorem d_Reader_readSum_55 : decode prog_8_method_12_code 55 = .ok (.lreturn, 1) := by decide +kernel
def cf_Reader_readSum_B7 (NR : Wd → (Int64 → Wd → Prop) → Prop)  (K7 : Int64 → Int32 → Wd → Prop) (P : Int64 → Wd → Prop) (x1 : Int64) (x3 : Int32) (w : Wd) : Prop :=
  (((300 : Int32) ≤ x3 → P x1 w) ∧ (¬ (300 : Int32) ≤ x3 → ((¬ (w.1 1 5) = (-1 : Int32) → P x1 w) ∧ ((w.1 1 5) = (-1 : Int32) → cf_Reader_peek  w (fun r3 w4 => ((¬ r3 = (43 : Int32) → P x1 w4) ∧ (r3 = (43 : Int32) → ∀ w5, w5 = wI w4 1 3 ((w4.1 1 3) + (1 : Int32)) → cf_Reader_readProduct NR  w5 (fun r6 w7 => ∀ v8, v8 = x1 ^^^ r6 → ∀ v9, v9 = x3 + (1 : Int32) → K7 v8 v9 w7))))))))
def cf_Reader_readSum_L7 (NR : Wd → (Int64 → Wd → Prop) → Prop)   (P : Int64 → Wd → Prop) : Nat → Int64 → Int32 → Wd → Prop
  | 0 => fun x1 x3 w => False
  | n + 1 => fun x1 x3 w => cf_Reader_readSum_B7 NR (cf_Reader_readSum_L7 NR P n) P x1 x3 w
def cf_Reader_readSum (NR : Wd → (Int64 → Wd → Prop) → Prop)  (w : Wd) (P : Int64 → Wd → Prop) : Prop :=
  cf_Reader_readProduct NR  w (fun r1 w2 => ∃ n, cf_Reader_readSum_L7 NR P n r1 (0 : Int32) w2)
theorem cf_Reader_readSum_B7_ok {g : ayG} {d : Nat} {NR : Wd → (Int64 → Wd → Prop) → Prop} (D0 : Nat) (hNR : ∀ (d2 : Nat) (hd2 : D0 ≤ d2)   (w : Wd) (P : Int64 → Wd → Prop) (h : NR w P), Call g y_Reader_readNested prog_8_method_18_code 3 (some FieldType.long) d2 [.ref (g.1 + 1)] w (fun (r : Option Value) (w2 : Wd) => ∃ x, r = some (.long x) ∧ P x w2)) (hd : D0 + 11 ≤ d)   (w : Wd) (K7 : Int64 → Int32 → Wd → Prop) (P : Int64 → Wd → Prop) (Q : Option Value → Wd → Prop) (hQ : ∀ x w2, P x w2 → Q (some (.long x)) w2) (hK7 : ∀ (x1 : Int64) (x3 : Int32) (w : Wd), (K7 x1 x3 w → wp g (fun _ => True) y_Reader_readSum prog_8_method_12_code 4 (some FieldType.long) d 7 [(0, .ref (g.1 + 1)), (1, .long x1), (3, .int x3)] [] w Q)) (x1 : Int64) (x3 : Int32) (h : cf_Reader_readSum_B7 NR K7 P x1 x3 w) : wp g (fun _ => True) y_Reader_readSum prog_8_method_12_code 4 (some FieldType.long) d 7 [(0, .ref (g.1 + 1)), (1, .long x1), (3, .int x3)] [] w Q := by
  unfold cf_Reader_readSum_B7 at h
  refine am_iload_n d_Reader_readSum_7 2 rfl ?_
  refine am_sipush (v := 300) d_Reader_readSum_8 rfl ?_
  refine am_icmp_ge (tgt := 54) d_Reader_readSum_11 (by decide) (fun c11 => ?_) (fun c11 => ?_)
  · have h := h.1 c11
    refine am_lload_n d_Reader_readSum_54 1 rfl ?_
    exact am_lreturn d_Reader_readSum_55 rfl (hQ x1 w h)
  · have h := h.2 c11
    refine am_aload_n d_Reader_readSum_14 0 rfl ?_
    refine am_getf (T := F_Reader) (fs := ob_Reader g w 1) (C := R_Reader) (N := 8) (ci := 1) 5 d_Reader_readSum_15 wd_55 rfl (by decide) (el_Reader (show ay_sh 1 = _ from rfl)) rfl i_Reader (by decide) rfl ?_
    refine am_iconst (v := -1) d_Reader_readSum_18 rfl ?_
    refine am_icmp_ne (tgt := 54) d_Reader_readSum_19 (by decide) (fun c19 => ?_) (fun c19 => ?_)
    · have h := h.1 c19
      refine am_lload_n d_Reader_readSum_54 1 rfl ?_
      exact am_lreturn d_Reader_readSum_55 rfl (hQ x1 w h)
    · have h := h.2 c19
      refine am_aload_n d_Reader_readSum_22 0 rfl ?_
      refine am_callV (C := y_Reader_peek.cls) (d2 := d - 1) [] d_Reader_readSum_23 mi_Reader_peek wd_273 wd_275 ws_Reader_peek (by decide) (el_Reader (show ay_sh 1 = _ from rfl)) rfl rfl (by omega) rfl rfl (Nat.le_of_ble_eq_true rfl) ?_
      refine Call.post ?_ (cf_Reader_peek_ok (by omega)   w _ h)
      rintro _ w4 ⟨r3, rfl, h⟩
      show wp g (fun _ => True) y_Reader_readSum prog_8_method_12_code 4 (some FieldType.long) d 26 [(0, .ref (g.1 + 1)), (1, .long x1), (3, .int x3)] [.int r3] w4 Q
      refine am_bipush (v := 43) d_Reader_readSum_26 rfl ?_
      refine am_icmp_ne (tgt := 54) d_Reader_readSum_28 (by decide) (fun c28 => ?_) (fun c28 => ?_)
      · have h := h.1 c28
        refine am_lload_n d_Reader_readSum_54 1 rfl ?_
        exact am_lreturn d_Reader_readSum_55 rfl (hQ x1 w4 h)
      · have h := h.2 c28
        refine am_aload_n d_Reader_readSum_31 0 rfl ?_
        refine am_dup d_Reader_readSum_32 rfl ?_
        refine am_getf (T := F_Reader) (fs := ob_Reader g w4 1) (C := R_Reader) (N := 8) (ci := 1) 3 d_Reader_readSum_33 wd_53 rfl (by decide) (el_Reader (show ay_sh 1 = _ from rfl)) rfl i_Reader (by decide) rfl ?_
        refine am_iconst (v := 1) d_Reader_readSum_36 rfl ?_
        refine am_iadd d_Reader_readSum_37 ?_
        refine am_putf (w' := wI w4 1 3 ((w4.1 1 3) + (1 : Int32))) (ty := .int) (T := F_Reader) (fs := ob_Reader g w4 1) (C := R_Reader) (N := 8) (ci := 1) 3 d_Reader_readSum_38 wd_53 rfl (by decide) (el_Reader (show ay_sh 1 = _ from rfl)) rfl i_Reader (by decide) G_Reader ty_Reader n_Reader rfl (ty_Reader 3 (by decide)) rfl rfl (Nat.le_of_ble_eq_true rfl) ((el_Reader (show ay_sh 1 = _ from rfl)).trans (by rw [pf_Reader_at])) wI_o ?_
        obtain ⟨w5, ew5⟩ : ∃ z, z = wI w4 1 3 ((w4.1 1 3) + (1 : Int32)) := ⟨_, rfl⟩
        rw [← ew5]
        have h := h w5 ew5
        refine am_lload_n d_Reader_readSum_41 1 rfl ?_
        refine am_aload_n d_Reader_readSum_42 0 rfl ?_
        refine am_callV (C := y_Reader_readProduct.cls) (d2 := d - 1) [] d_Reader_readSum_43 mi_Reader_readProduct wd_300 wd_302 ws_Reader_readProduct (by decide) (el_Reader (show ay_sh 1 = _ from rfl)) rfl rfl (by omega) rfl rfl (Nat.le_of_ble_eq_true rfl) ?_
        refine Call.post ?_ (cf_Reader_readProduct_ok _ hNR (by omega)   w5 _ h)
        rintro _ w7 ⟨r6, rfl, h⟩
        show wp g (fun _ => True) y_Reader_readSum prog_8_method_12_code 4 (some FieldType.long) d 46 [(0, .ref (g.1 + 1)), (1, .long x1), (3, .int x3)] [.long r6, .long x1] w7 Q
        refine am_lxor d_Reader_readSum_46 ?_
        refine am_topl (fun v8 ev8 => ?_)
        have h := h v8 ev8
        refine am_lstore_n (l' := [(1, .long v8), (0, .ref (g.1 + 1)), (3, .int x3)]) d_Reader_readSum_47 (by decide) rfl ?_
        obtain ⟨v9, ev9⟩ : ∃ z : Int32, z = x3 + (1 : Int32) := ⟨_, rfl⟩
        have h := h v9 ev9
        refine am_iinc (v := v9) (l' := [(3, .int v9), (1, .long v8), (0, .ref (g.1 + 1))]) d_Reader_readSum_48 2 rfl (by rw [ev9]; rfl) (by decide) rfl ?_
        refine am_goto (tgt := 7) d_Reader_readSum_51 (by decide) ?_
        refine am_sub [2, 1, 0] rfl ?_
        exact hK7 v8 v9 w7 h
theorem cf_Reader_readSum_L7_ok {g : ayG} {d : Nat} {NR : Wd → (Int64 → Wd → Prop) → Prop} (D0 : Nat) (hNR : ∀ (d2 : Nat) (hd2 : D0 ≤ d2)   (w : Wd) (P : Int64 → Wd → Prop) (h : NR w P), Call g y_Reader_readNested prog_8_method_18_code 3 (some FieldType.long) d2 [.ref (g.1 + 1)] w (fun (r : Option Value) (w2 : Wd) => ∃ x, r = some (.long x) ∧ P x w2)) (hd : D0 + 11 ≤ d)    (P : Int64 → Wd → Prop) (Q : Option Value → Wd → Prop) (hQ : ∀ x w2, P x w2 → Q (some (.long x)) w2)  : ∀ (n : Nat) (x1 : Int64) (x3 : Int32) (w : Wd) (h : cf_Reader_readSum_L7 NR P n x1 x3 w), wp g (fun _ => True) y_Reader_readSum prog_8_method_12_code 4 (some FieldType.long) d 7 [(0, .ref (g.1 + 1)), (1, .long x1), (3, .int x3)] [] w Q
  | 0, x1, x3, w, h => False.elim h
  | n + 1, x1, x3, w, h => cf_Reader_readSum_B7_ok D0 hNR hd   w (cf_Reader_readSum_L7 NR P n) P Q hQ (fun x1 x3 w h => cf_Reader_readSum_L7_ok D0 hNR hd    P Q hQ  n x1 x3 w h) x1 x3 h
theorem cf_Reader_readSum_ok {g : ayG} {d : Nat} {NR : Wd → (Int64 → Wd → Prop) → Prop} (D0 : Nat) (hNR : ∀ (d2 : Nat) (hd2 : D0 ≤ d2)   (w : Wd) (P : Int64 → Wd → Prop) (h : NR w P), Call g y_Reader_readNested prog_8_method_18_code 3 (some FieldType.long) d2 [.ref (g.1 + 1)] w (fun (r : Option Value) (w2 : Wd) => ∃ x, r = some (.long x) ∧ P x w2)) (hd : D0 + 11 ≤ d)   (w : Wd) (P : Int64 → Wd → Prop) (h : cf_Reader_readSum NR w P) : Call g y_Reader_readSum prog_8_method_12_code 4 (some FieldType.long) d [.ref (g.1 + 1)] w (fun (r : Option Value) (w2 : Wd) => ∃ x, r = some (.long x) ∧ P x w2) := by
  unfold cf_Reader_readSum at h
  refine am_enter mi_Reader_readSum (Nat.le_of_ble_eq_true rfl) ?_
  have hQ : ∀ x w2, P x w2 → (fun (r : Option Value) (w2 : Wd) => ∃ x, r = some (.long x) ∧ P x w2) (some (.long x)) w2 := fun x w2 h => ⟨x, rfl, h⟩
  generalize (fun (r : Option Value) (w2 : Wd) => ∃ x, r = some (.long x) ∧ P x w2) = Q at hQ ⊢
  show wp g (fun _ => True) y_Reader_readSum prog_8_method_12_code 4 (some FieldType.long) d 0 [(0, .ref (g.1 + 1))] [] w Q
  refine am_aload_n d_Reader_readSum_0 0 rfl ?_
  refine am_callV (C := y_Reader_readProduct.cls) (d2 := d - 1) [] d_Reader_readSum_1 mi_Reader_readProduct wd_300 wd_302 ws_Reader_readProduct (by decide) (el_Reader (show ay_sh 1 = _ from rfl)) rfl rfl (by omega) rfl rfl (Nat.le_of_ble_eq_true rfl) ?_
  refine Call.post ?_ (cf_Reader_readProduct_ok _ hNR (by omega)   w _ h)
  rintro _ w2 ⟨r1, rfl, h⟩
  show wp g (fun _ => True) y_Reader_readSum prog_8_method_12_code 4 (some FieldType.long) d 4 [(0, .ref (g.1 + 1))] [.long r1] w2 Q
  refine am_lstore_n (l' := [(1, .long r1), (0, .ref (g.1 + 1))]) d_Reader_readSum_4 (by decide) rfl ?_
  refine am_iconst (v := 0) d_Reader_readSum_5 rfl ?_
  refine am_istore_n (l' := [(3, .int (0 : Int32)), (1, .long r1), (0, .ref (g.1 + 1))]) d_Reader_readSum_6 (by decide) rfl ?_
  refine am_sub [2, 1, 0] rfl ?_
  obtain ⟨n, h⟩ := h
  exact cf_Reader_readSum_L7_ok _ hNR (by omega)    P Q hQ  n r1 (0 : Int32) w2 h
theorem d_Reader_readNested_0 : decode prog_8_method_18_code 0 = .ok (.aload_n 0, 1) := by decide +kernel
theorem d_Reader_readNested_1 : decode prog_8_method_18_code 1 = .ok (.invokevirtual 51, 3) := by decide +kernel
theorem d_Reader_readNested_4 : decode prog_8_method_18_code 4 = .ok (.bipush 40, 2) := by decide +kernel
theorem d_Reader_readNested_6 : decode prog_8_method_18_code 6 = .ok (.if_icmp .eq 13, 3) := by decide +kernel
theorem d_Reader_readNested_9 : decode prog_8_method_18_code 9 = .ok (.aload_n 0, 1) := by decide +kernel
theorem d_Reader_readNested_10 : decode prog_8_method_18_code 10 = .ok (.iconst 1, 1) := by decide +kernel
theorem d_Reader_readNested_11 : decode prog_8_method_18_code 11 = .ok (.aload_n 0, 1) := by decide +kernel
theorem d_Reader_readNested_12 : decode prog_8_method_18_code 12 = .ok (.getfield 42, 3) := by decide +kernel
theorem d_Reader_readNested_15 : decode prog_8_method_18_code 15 = .ok (.invokevirtual 69, 3) := by decide +kernel
theorem d_Reader_readNested_18 : decode prog_8_method_18_code 18 = .ok (.lreturn, 1) := by decide +kernel
theorem d_Reader_readNested_19 : decode prog_8_method_18_code 19 = .ok (.aload_n 0, 1) := by decide +kernel
theorem d_Reader_readNested_20 : decode prog_8_method_18_code 20 = .ok (.getfield 45, 3) := by decide +kernel
theorem d_Reader_readNested_23 : decode prog_8_method_18_code 23 = .ok (.ifCond .lt 15, 3) := by decide +kernel
theorem d_Reader_readNested_26 : decode prog_8_method_18_code 26 = .ok (.aload_n 0, 1) := by decide +kernel
theorem d_Reader_readNested_27 : decode prog_8_method_18_code 27 = .ok (.getfield 45, 3) := by decide +kernel
theorem d_Reader_readNested_30 : decode prog_8_method_18_code 30 = .ok (.aload_n 0, 1) := by decide +kernel
theorem d_Reader_readNested_31 : decode prog_8_method_18_code 31 = .ok (.getfield 24, 3) := by decide +kernel
theorem d_Reader_readNested_34 : decode prog_8_method_18_code 34 = .ok (.arraylength, 1) := by decide +kernel
theorem d_Reader_readNested_35 : decode prog_8_method_18_code 35 = .ok (.if_icmp .lt 13, 3) := by decide +kernel
theorem d_Reader_readNested_38 : decode prog_8_method_18_code 38 = .ok (.aload_n 0, 1) := by decide +kernel
theorem d_Reader_readNested_39 : decode prog_8_method_18_code 39 = .ok (.iconst 4, 1) := by decide +kernel
theorem d_Reader_readNested_40 : decode prog_8_method_18_code 40 = .ok (.aload_n 0, 1) := by decide +kernel
theorem d_Reader_readNested_41 : decode prog_8_method_18_code 41 = .ok (.getfield 42, 3) := by decide +kernel
theorem d_Reader_readNested_44 : decode prog_8_method_18_code 44 = .ok (.invokevirtual 69, 3) := by decide +kernel
theorem d_Reader_readNested_47 : decode prog_8_method_18_code 47 = .ok (.lreturn, 1) := by decide +kernel
theorem d_Reader_readNested_48 : decode prog_8_method_18_code 48 = .ok (.aload_n 0, 1) := by decide +kernel
theorem d_Reader_readNested_49 : decode prog_8_method_18_code 49 = .ok (.getfield 24, 3) := by decide +kernel
theorem d_Reader_readNested_52 : decode prog_8_method_18_code 52 = .ok (.aload_n 0, 1) := by decide +kernel
theorem d_Reader_readNested_53 : decode prog_8_method_18_code 53 = .ok (.getfield 45, 3) := by decide +kernel
theorem d_Reader_readNested_56 : decode prog_8_method_18_code 56 = .ok (.aload_n 0, 1) := by decide +kernel
theorem d_Reader_readNested_57 : decode prog_8_method_18_code 57 = .ok (.getfield 42, 3) := by decide +kernel
theorem d_Reader_readNested_60 : decode prog_8_method_18_code 60 = .ok (.iastore, 1) := by decide +kernel
theorem d_Reader_readNested_61 : decode prog_8_method_18_code 61 = .ok (.aload_n 0, 1) := by decide +kernel
theorem d_Reader_readNested_62 : decode prog_8_method_18_code 62 = .ok (.dup, 1) := by decide +kernel
theorem d_Reader_readNested_63 : decode prog_8_method_18_code 63 = .ok (.getfield 45, 3) := by decide +kernel
theorem d_Reader_readNested_66 : decode prog_8_method_18_code 66 = .ok (.iconst 1, 1) := by decide +kernel
theorem d_Reader_readNested_67 : decode prog_8_method_18_code 67 = .ok (.iadd, 1) := by decide +kernel
theorem d_Reader_readNested_68 : decode prog_8_method_18_code 68 = .ok (.putfield 45, 3) := by decide +kernel
theorem d_Reader_readNested_71 : decode prog_8_method_18_code 71 = .ok (.aload_n 0, 1) := by decide +kernel
theorem d_Reader_readNested_72 : decode prog_8_method_18_code 72 = .ok (.dup, 1) := by decide +kernel
theorem d_Reader_readNested_73 : decode prog_8_method_18_code 73 = .ok (.getfield 42, 3) := by decide +kernel
theorem d_Reader_readNested_76 : decode prog_8_method_18_code 76 = .ok (.iconst 1, 1) := by decide +kernel
theorem d_Reader_readNested_77 : decode prog_8_method_18_code 77 = .ok (.iadd, 1) := by decide +kernel
theorem d_Reader_readNested_78 : decode prog_8_method_18_code 78 = .ok (.putfield 42, 3) := by decide +kernel
theorem d_Reader_readNested_81 : decode prog_8_method_18_code 81 = .ok (.aload_n 0, 1) := by decide +kernel
theorem d_Reader_readNested_82 : decode prog_8_method_18_code 82 = .ok (.invokevirtual 77, 3) := by decide +kernel
theorem d_Reader_readNested_85 : decode prog_8_method_18_code 85 = .ok (.lstore_n 1, 1) := by decide +kernel
theorem d_Reader_readNested_86 : decode prog_8_method_18_code 86 = .ok (.aload_n 0, 1) := by decide +kernel
theorem d_Reader_readNested_87 : decode prog_8_method_18_code 87 = .ok (.getfield 28, 3) := by decide +kernel
theorem d_Reader_readNested_90 : decode prog_8_method_18_code 90 = .ok (.iconst (-1), 1) := by decide +kernel
theorem d_Reader_readNested_91 : decode prog_8_method_18_code 91 = .ok (.if_icmp .ne 22, 3) := by decide +kernel
theorem d_Reader_readNested_94 : decode prog_8_method_18_code 94 = .ok (.aload_n 0, 1) := by decide +kernel
theorem d_Reader_readNested_95 : decode prog_8_method_18_code 95 = .ok (.bipush 41, 2) := by decide +kernel
theorem d_Reader_readNested_97 : decode prog_8_method_18_code 97 = .ok (.invokevirtual 55, 3) := by decide +kernel
theorem d_Reader_readNested_100 : decode prog_8_method_18_code 100 = .ok (.ifCond .eq 13, 3) := by decide +kernel
theorem d_Reader_readNested_103 : decode prog_8_method_18_code 103 = .ok (.aload_n 0, 1) := by decide +kernel
theorem d_Reader_readNested_104 : decode prog_8_method_18_code 104 = .ok (.dup, 1) := by decide +kernel
theorem d_Reader_readNested_105 : decode prog_8_method_18_code 105 = .ok (.getfield 45, 3) := by decide +kernel
theorem d_Reader_readNested_108 : decode prog_8_method_18_code 108 = .ok (.iconst 1, 1) := by decide +kernel
theorem d_Reader_readNested_109 : decode prog_8_method_18_code 109 = .ok (.isub, 1) := by decide +kernel
theorem d_Reader_readNested_110 : decode prog_8_method_18_code 110 = .ok (.putfield 45, 3) := by decide +kernel
theorem d_Reader_readNested_113 : decode prog_8_method_18_code 113 = .ok (.lload_n 1, 1) := by decide +kernel
theorem d_Reader_readNested_114 : decode prog_8_method_18_code 114 = .ok (.lreturn, 1) := by decide +kernel
def cf_Reader_readNested_E (NR : Wd → (Int64 → Wd → Prop) → Prop)  (w : Wd) (P : Int64 → Wd → Prop) : Prop :=
  cf_Reader_peek  w (fun r1 w2 => ((r1 = (40 : Int32) → (((w2.1 1 4) < 0 → cf_Reader_fail (4 : Int32) (w2.1 1 3) w2 (fun r3 w4 => P r3 w4)) ∧ (¬ (w2.1 1 4) < 0 → (((w2.1 1 4) < (6 : Int32) → vp_in (w2.1 1 4) 6 ∧ ∀ w5, w5 = wI w2 5 (w2.1 1 4).toNatClampNeg (w2.1 1 3) → ∀ w6, w6 = wI w5 1 4 ((w5.1 1 4) + (1 : Int32)) → ∀ w7, w7 = wI w6 1 3 ((w6.1 1 3) + (1 : Int32)) → cf_Reader_readSum NR  w7 (fun r8 w9 => ((¬ (w9.1 1 5) = (-1 : Int32) → P r8 w9) ∧ ((w9.1 1 5) = (-1 : Int32) → cf_Reader_readSign (41 : Int32) w9 (fun r10 w11 => ((r10 = 0 → P r8 w11) ∧ (¬ r10 = 0 → ∀ w12, w12 = wI w11 1 4 ((w11.1 1 4) - (1 : Int32)) → P r8 w12))))))) ∧ (¬ (w2.1 1 4) < (6 : Int32) → cf_Reader_fail (4 : Int32) (w2.1 1 3) w2 (fun r13 w14 => P r13 w14)))))) ∧ (¬ r1 = (40 : Int32) → cf_Reader_fail (1 : Int32) (w2.1 1 3) w2 (fun r15 w16 => P r15 w16))))
def cf_Reader_readNested : Nat → Wd → (Int64 → Wd → Prop) → Prop
  | 0 => fun w P => False
  | n + 1 => fun w P => cf_Reader_readNested_E (cf_Reader_readNested n) w P
theorem cf_Reader_readNested_ok {g : ayG} : ∀ (n d : Nat) (hd : 12 * n + 3 ≤ d)   (w : Wd) (P : Int64 → Wd → Prop) (h : cf_Reader_readNested n w P), Call g y_Reader_readNested prog_8_method_18_code 3 (some FieldType.long) d [.ref (g.1 + 1)] w (fun (r : Option Value) (w2 : Wd) => ∃ x, r = some (.long x) ∧ P x w2)
  | 0, d, hd, w, P, h => False.elim h
  | n + 1, d, hd, w, P, h => by
    have h : cf_Reader_readNested_E (cf_Reader_readNested n) w P := h
    have hNR : ∀ (d2 : Nat) (hd2 : 12 * n + 3 ≤ d2)   (w : Wd) (P : Int64 → Wd → Prop) (h : (cf_Reader_readNested n) w P), Call g y_Reader_readNested prog_8_method_18_code 3 (some FieldType.long) d2 [.ref (g.1 + 1)] w (fun (r : Option Value) (w2 : Wd) => ∃ x, r = some (.long x) ∧ P x w2) := fun  d2 hd2 => cf_Reader_readNested_ok n d2 hd2 
    generalize cf_Reader_readNested n = NR at h hNR
    unfold cf_Reader_readNested_E at h
    refine am_enter mi_Reader_readNested (Nat.le_of_ble_eq_true rfl) ?_
    have hQ : ∀ x w2, P x w2 → (fun (r : Option Value) (w2 : Wd) => ∃ x, r = some (.long x) ∧ P x w2) (some (.long x)) w2 := fun x w2 h => ⟨x, rfl, h⟩
    generalize (fun (r : Option Value) (w2 : Wd) => ∃ x, r = some (.long x) ∧ P x w2) = Q at hQ ⊢
    show wp g (fun _ => True) y_Reader_readNested prog_8_method_18_code 3 (some FieldType.long) d 0 [(0, .ref (g.1 + 1))] [] w Q
    refine am_aload_n d_Reader_readNested_0 0 rfl ?_
    refine am_callV (C := y_Reader_peek.cls) (d2 := d - 1) [] d_Reader_readNested_1 mi_Reader_peek wd_273 wd_275 ws_Reader_peek (by decide) (el_Reader (show ay_sh 1 = _ from rfl)) rfl rfl (by omega) rfl rfl (Nat.le_of_ble_eq_true rfl) ?_
    refine Call.post ?_ (cf_Reader_peek_ok (by omega)   w _ h)
    rintro _ w2 ⟨r1, rfl, h⟩
    show wp g (fun _ => True) y_Reader_readNested prog_8_method_18_code 3 (some FieldType.long) d 4 [(0, .ref (g.1 + 1))] [.int r1] w2 Q
    refine am_bipush (v := 40) d_Reader_readNested_4 rfl ?_
    refine am_icmp_eq (tgt := 19) d_Reader_readNested_6 (by decide) (fun c6 => ?_) (fun c6 => ?_)
    · have h := h.1 c6
      refine am_aload_n d_Reader_readNested_19 0 rfl ?_
      refine am_getf (T := F_Reader) (fs := ob_Reader g w2 1) (C := R_Reader) (N := 8) (ci := 1) 4 d_Reader_readNested_20 wd_54 rfl (by decide) (el_Reader (show ay_sh 1 = _ from rfl)) rfl i_Reader (by decide) rfl ?_
      refine am_if_lt (tgt := 38) d_Reader_readNested_23 (by decide) (fun c23 => ?_) (fun c23 => ?_)
      · have h := h.1 c23
        refine am_aload_n d_Reader_readNested_38 0 rfl ?_
        refine am_iconst (v := 4) d_Reader_readNested_39 rfl ?_
        refine am_aload_n d_Reader_readNested_40 0 rfl ?_
        refine am_getf (T := F_Reader) (fs := ob_Reader g w2 1) (C := R_Reader) (N := 8) (ci := 1) 3 d_Reader_readNested_41 wd_53 rfl (by decide) (el_Reader (show ay_sh 1 = _ from rfl)) rfl i_Reader (by decide) rfl ?_
        refine am_callV (C := y_Reader_fail.cls) (d2 := d - 1) [.int (4 : Int32), .int (w2.1 1 3)] d_Reader_readNested_44 mi_Reader_fail wd_285 wd_287 ws_Reader_fail (by decide) (el_Reader (show ay_sh 1 = _ from rfl)) rfl rfl (by omega) rfl rfl (Nat.le_of_ble_eq_true rfl) ?_
        refine Call.post ?_ (cf_Reader_fail_ok (by omega) (4 : Int32) (w2.1 1 3)  w2 _ h)
        rintro _ w4 ⟨r3, rfl, h⟩
        show wp g (fun _ => True) y_Reader_readNested prog_8_method_18_code 3 (some FieldType.long) d 47 [(0, .ref (g.1 + 1))] [.long r3] w4 Q
        exact am_lreturn d_Reader_readNested_47 rfl (hQ r3 w4 h)
      · have h := h.2 c23
        refine am_aload_n d_Reader_readNested_26 0 rfl ?_
        refine am_getf (T := F_Reader) (fs := ob_Reader g w2 1) (C := R_Reader) (N := 8) (ci := 1) 4 d_Reader_readNested_27 wd_54 rfl (by decide) (el_Reader (show ay_sh 1 = _ from rfl)) rfl i_Reader (by decide) rfl ?_
        refine am_aload_n d_Reader_readNested_30 0 rfl ?_
        refine am_getf (T := F_Reader) (fs := ob_Reader g w2 1) (C := R_Reader) (N := 8) (ci := 1) 2 d_Reader_readNested_31 wd_52 rfl (by decide) (el_Reader (show ay_sh 1 = _ from rfl)) rfl i_Reader (by decide) rfl ?_
        refine am_alen (v := 6) d_Reader_readNested_34 (show ay_sh 5 = _ from rfl) (by decide) rfl ?_
        refine am_icmp_lt (tgt := 48) d_Reader_readNested_35 (by decide) (fun c35 => ?_) (fun c35 => ?_)
        · have h := h.1 c35
          refine am_aload_n d_Reader_readNested_48 0 rfl ?_
          refine am_getf (T := F_Reader) (fs := ob_Reader g w2 1) (C := R_Reader) (N := 8) (ci := 1) 2 d_Reader_readNested_49 wd_52 rfl (by decide) (el_Reader (show ay_sh 1 = _ from rfl)) rfl i_Reader (by decide) rfl ?_
          refine am_aload_n d_Reader_readNested_52 0 rfl ?_
          refine am_getf (T := F_Reader) (fs := ob_Reader g w2 1) (C := R_Reader) (N := 8) (ci := 1) 4 d_Reader_readNested_53 wd_54 rfl (by decide) (el_Reader (show ay_sh 1 = _ from rfl)) rfl i_Reader (by decide) rfl ?_
          refine am_aload_n d_Reader_readNested_56 0 rfl ?_
          refine am_getf (T := F_Reader) (fs := ob_Reader g w2 1) (C := R_Reader) (N := 8) (ci := 1) 3 d_Reader_readNested_57 wd_53 rfl (by decide) (el_Reader (show ay_sh 1 = _ from rfl)) rfl i_Reader (by decide) rfl ?_
          have hi60 := h.1
          have h := h.2
          refine am_iastore d_Reader_readNested_60 (show ay_sh 5 = _ from rfl) hi60 ?_
          obtain ⟨w5, ew5⟩ : ∃ z, z = wI w2 5 (w2.1 1 4).toNatClampNeg (w2.1 1 3) := ⟨_, rfl⟩
          rw [← ew5]
          have h := h w5 ew5
          refine am_aload_n d_Reader_readNested_61 0 rfl ?_
          refine am_dup d_Reader_readNested_62 rfl ?_
          refine am_getf (T := F_Reader) (fs := ob_Reader g w5 1) (C := R_Reader) (N := 8) (ci := 1) 4 d_Reader_readNested_63 wd_54 rfl (by decide) (el_Reader (show ay_sh 1 = _ from rfl)) rfl i_Reader (by decide) rfl ?_
          refine am_iconst (v := 1) d_Reader_readNested_66 rfl ?_
          refine am_iadd d_Reader_readNested_67 ?_
          refine am_putf (w' := wI w5 1 4 ((w5.1 1 4) + (1 : Int32))) (ty := .int) (T := F_Reader) (fs := ob_Reader g w5 1) (C := R_Reader) (N := 8) (ci := 1) 4 d_Reader_readNested_68 wd_54 rfl (by decide) (el_Reader (show ay_sh 1 = _ from rfl)) rfl i_Reader (by decide) G_Reader ty_Reader n_Reader rfl (ty_Reader 4 (by decide)) rfl rfl (Nat.le_of_ble_eq_true rfl) ((el_Reader (show ay_sh 1 = _ from rfl)).trans (by rw [pf_Reader_open])) wI_o ?_
          obtain ⟨w6, ew6⟩ : ∃ z, z = wI w5 1 4 ((w5.1 1 4) + (1 : Int32)) := ⟨_, rfl⟩
          rw [← ew6]
          have h := h w6 ew6
          refine am_aload_n d_Reader_readNested_71 0 rfl ?_
          refine am_dup d_Reader_readNested_72 rfl ?_
          refine am_getf (T := F_Reader) (fs := ob_Reader g w6 1) (C := R_Reader) (N := 8) (ci := 1) 3 d_Reader_readNested_73 wd_53 rfl (by decide) (el_Reader (show ay_sh 1 = _ from rfl)) rfl i_Reader (by decide) rfl ?_
          refine am_iconst (v := 1) d_Reader_readNested_76 rfl ?_
          refine am_iadd d_Reader_readNested_77 ?_
          refine am_putf (w' := wI w6 1 3 ((w6.1 1 3) + (1 : Int32))) (ty := .int) (T := F_Reader) (fs := ob_Reader g w6 1) (C := R_Reader) (N := 8) (ci := 1) 3 d_Reader_readNested_78 wd_53 rfl (by decide) (el_Reader (show ay_sh 1 = _ from rfl)) rfl i_Reader (by decide) G_Reader ty_Reader n_Reader rfl (ty_Reader 3 (by decide)) rfl rfl (Nat.le_of_ble_eq_true rfl) ((el_Reader (show ay_sh 1 = _ from rfl)).trans (by rw [pf_Reader_at])) wI_o ?_
          obtain ⟨w7, ew7⟩ : ∃ z, z = wI w6 1 3 ((w6.1 1 3) + (1 : Int32)) := ⟨_, rfl⟩
          rw [← ew7]
          have h := h w7 ew7
          refine am_aload_n d_Reader_readNested_81 0 rfl ?_
          refine am_callV (C := y_Reader_readSum.cls) (d2 := d - 1) [] d_Reader_readNested_82 mi_Reader_readSum wd_296 wd_298 ws_Reader_readSum (by decide) (el_Reader (show ay_sh 1 = _ from rfl)) rfl rfl (by omega) rfl rfl (Nat.le_of_ble_eq_true rfl) ?_
          refine Call.post ?_ (cf_Reader_readSum_ok _ hNR (by omega)   w7 _ h)
          rintro _ w9 ⟨r8, rfl, h⟩
          show wp g (fun _ => True) y_Reader_readNested prog_8_method_18_code 3 (some FieldType.long) d 85 [(0, .ref (g.1 + 1))] [.long r8] w9 Q
          refine am_lstore_n (l' := [(1, .long r8), (0, .ref (g.1 + 1))]) d_Reader_readNested_85 (by decide) rfl ?_
          refine am_aload_n d_Reader_readNested_86 1 rfl ?_
          refine am_getf (T := F_Reader) (fs := ob_Reader g w9 1) (C := R_Reader) (N := 8) (ci := 1) 5 d_Reader_readNested_87 wd_55 rfl (by decide) (el_Reader (show ay_sh 1 = _ from rfl)) rfl i_Reader (by decide) rfl ?_
          refine am_iconst (v := -1) d_Reader_readNested_90 rfl ?_
          refine am_icmp_ne (tgt := 113) d_Reader_readNested_91 (by decide) (fun c91 => ?_) (fun c91 => ?_)
          · have h := h.1 c91
            refine am_lload_n d_Reader_readNested_113 0 rfl ?_
            exact am_lreturn d_Reader_readNested_114 rfl (hQ r8 w9 h)
          · have h := h.2 c91
            refine am_aload_n d_Reader_readNested_94 1 rfl ?_
            refine am_bipush (v := 41) d_Reader_readNested_95 rfl ?_
            refine am_callV (C := y_Reader_readSign.cls) (d2 := d - 1) [.int (41 : Int32)] d_Reader_readNested_97 mi_Reader_readSign wd_292 wd_294 ws_Reader_readSign (by decide) (el_Reader (show ay_sh 1 = _ from rfl)) rfl rfl (by omega) rfl rfl (Nat.le_of_ble_eq_true rfl) ?_
            refine Call.post ?_ (cf_Reader_readSign_ok (by omega) (41 : Int32)  w9 _ h)
            rintro _ w11 ⟨r10, rfl, h⟩
            show wp g (fun _ => True) y_Reader_readNested prog_8_method_18_code 3 (some FieldType.long) d 100 [(1, .long r8), (0, .ref (g.1 + 1))] [.int r10] w11 Q
            refine am_if_eq (tgt := 113) d_Reader_readNested_100 (by decide) (fun c100 => ?_) (fun c100 => ?_)
            · have h := h.1 c100
              refine am_lload_n d_Reader_readNested_113 0 rfl ?_
              exact am_lreturn d_Reader_readNested_114 rfl (hQ r8 w11 h)
            · have h := h.2 c100
              refine am_aload_n d_Reader_readNested_103 1 rfl ?_
              refine am_dup d_Reader_readNested_104 rfl ?_
              refine am_getf (T := F_Reader) (fs := ob_Reader g w11 1) (C := R_Reader) (N := 8) (ci := 1) 4 d_Reader_readNested_105 wd_54 rfl (by decide) (el_Reader (show ay_sh 1 = _ from rfl)) rfl i_Reader (by decide) rfl ?_
              refine am_iconst (v := 1) d_Reader_readNested_108 rfl ?_
              refine am_isub d_Reader_readNested_109 ?_
              refine am_putf (w' := wI w11 1 4 ((w11.1 1 4) - (1 : Int32))) (ty := .int) (T := F_Reader) (fs := ob_Reader g w11 1) (C := R_Reader) (N := 8) (ci := 1) 4 d_Reader_readNested_110 wd_54 rfl (by decide) (el_Reader (show ay_sh 1 = _ from rfl)) rfl i_Reader (by decide) G_Reader ty_Reader n_Reader rfl (ty_Reader 4 (by decide)) rfl rfl (Nat.le_of_ble_eq_true rfl) ((el_Reader (show ay_sh 1 = _ from rfl)).trans (by rw [pf_Reader_open])) wI_o ?_
              obtain ⟨w12, ew12⟩ : ∃ z, z = wI w11 1 4 ((w11.1 1 4) - (1 : Int32)) := ⟨_, rfl⟩
              rw [← ew12]
              have h := h w12 ew12
              refine am_lload_n d_Reader_readNested_113 0 rfl ?_
              exact am_lreturn d_Reader_readNested_114 rfl (hQ r8 w12 h)
        · have h := h.2 c35
          refine am_aload_n d_Reader_readNested_38 0 rfl ?_
          refine am_iconst (v := 4) d_Reader_readNested_39 rfl ?_
          refine am_aload_n d_Reader_readNested_40 0 rfl ?_
          refine am_getf (T := F_Reader) (fs := ob_Reader g w2 1) (C := R_Reader) (N := 8) (ci := 1) 3 d_Reader_readNested_41 wd_53 rfl (by decide) (el_Reader (show ay_sh 1 = _ from rfl)) rfl i_Reader (by decide) rfl ?_
          refine am_callV (C := y_Reader_fail.cls) (d2 := d - 1) [.int (4 : Int32), .int (w2.1 1 3)] d_Reader_readNested_44 mi_Reader_fail wd_285 wd_287 ws_Reader_fail (by decide) (el_Reader (show ay_sh 1 = _ from rfl)) rfl rfl (by omega) rfl rfl (Nat.le_of_ble_eq_true rfl) ?_
          refine Call.post ?_ (cf_Reader_fail_ok (by omega) (4 : Int32) (w2.1 1 3)  w2 _ h)
          rintro _ w14 ⟨r13, rfl, h⟩
          show wp g (fun _ => True) y_Reader_readNested prog_8_method_18_code 3 (some FieldType.long) d 47 [(0, .ref (g.1 + 1))] [.long r13] w14 Q
          exact am_lreturn d_Reader_readNested_47 rfl (hQ r13 w14 h)
    · have h := h.2 c6
      refine am_aload_n d_Reader_readNested_9 0 rfl ?_
      refine am_iconst (v := 1) d_Reader_readNested_10 rfl ?_
      refine am_aload_n d_Reader_readNested_11 0 rfl ?_
      refine am_getf (T := F_Reader) (fs := ob_Reader g w2 1) (C := R_Reader) (N := 8) (ci := 1) 3 d_Reader_readNested_12 wd_53 rfl (by decide) (el_Reader (show ay_sh 1 = _ from rfl)) rfl i_Reader (by decide) rfl ?_
      refine am_callV (C := y_Reader_fail.cls) (d2 := d - 1) [.int (1 : Int32), .int (w2.1 1 3)] d_Reader_readNested_15 mi_Reader_fail wd_285 wd_287 ws_Reader_fail (by decide) (el_Reader (show ay_sh 1 = _ from rfl)) rfl rfl (by omega) rfl rfl (Nat.le_of_ble_eq_true rfl) ?_
      refine Call.post ?_ (cf_Reader_fail_ok (by omega) (1 : Int32) (w2.1 1 3)  w2 _ h)
      rintro _ w16 ⟨r15, rfl, h⟩
      show wp g (fun _ => True) y_Reader_readNested prog_8_method_18_code 3 (some FieldType.long) d 18 [(0, .ref (g.1 + 1))] [.long r15] w16 Q
      exact am_lreturn d_Reader_readNested_18 rfl (hQ r15 w16 h)
def cf_Reader_readNested_W  (w : Wd) (P : Int64 → Wd → Prop) : Prop := ∃ n, n ≤ 8 ∧ cf_Reader_readNested n w P
theorem cf_Reader_readNested_W_ok {g : ayG} {d : Nat} (hd : 99 ≤ d)   (w : Wd) (P : Int64 → Wd → Prop) (h : cf_Reader_readNested_W w P) : Call g y_Reader_readNested prog_8_method_18_code 3 (some FieldType.long) d [.ref (g.1 + 1)] w (fun (r : Option Value) (w2 : Wd) => ∃ x, r = some (.long x) ∧ P x w2) := by
  obtain ⟨n, hn, h⟩ := h
  exact cf_Reader_readNested_ok n d (by omega)   w P h
def cf_Reader_readSum_W  (w : Wd) (P : Int64 → Wd → Prop) : Prop := ∃ n, n ≤ 8 ∧ cf_Reader_readSum (cf_Reader_readNested n) w P
theorem cf_Reader_readSum_W_ok {g : ayG} {d : Nat} (hd : 110 ≤ d)   (w : Wd) (P : Int64 → Wd → Prop) (h : cf_Reader_readSum_W w P) : Call g y_Reader_readSum prog_8_method_12_code 4 (some FieldType.long) d [.ref (g.1 + 1)] w (fun (r : Option Value) (w2 : Wd) => ∃ x, r = some (.long x) ∧ P x w2) := by
  obtain ⟨n, hn, h⟩ := h
  exact cf_Reader_readSum_ok (12 * n + 3) (fun d2 hd2 => cf_Reader_readNested_ok n d2 hd2) (by omega)   w P h
theorem d_Reader_readStatement_0 : decode prog_8_method_11_code 0 = .ok (.aload_n 0, 1) := by decide +kernel
theorem d_Reader_readStatement_1 : decode prog_8_method_11_code 1 = .ok (.iconst 0, 1) := by decide +kernel
theorem d_Reader_readStatement_2 : decode prog_8_method_11_code 2 = .ok (.bipush 9, 2) := by decide +kernel
theorem d_Reader_readStatement_4 : decode prog_8_method_11_code 4 = .ok (.invokevirtual 73, 3) := by decide +kernel
theorem d_Reader_readStatement_7 : decode prog_8_method_11_code 7 = .ok (.istore_n 1, 1) := by decide +kernel
theorem d_Reader_readStatement_8 : decode prog_8_method_11_code 8 = .ok (.aload_n 0, 1) := by decide +kernel
theorem d_Reader_readStatement_9 : decode prog_8_method_11_code 9 = .ok (.getfield 28, 3) := by decide +kernel
theorem d_Reader_readStatement_12 : decode prog_8_method_11_code 12 = .ok (.iconst (-1), 1) := by decide +kernel
theorem d_Reader_readStatement_13 : decode prog_8_method_11_code 13 = .ok (.if_icmp .ne 12, 3) := by decide +kernel
theorem d_Reader_readStatement_16 : decode prog_8_method_11_code 16 = .ok (.aload_n 0, 1) := by decide +kernel
theorem d_Reader_readStatement_17 : decode prog_8_method_11_code 17 = .ok (.bipush 61, 2) := by decide +kernel
theorem d_Reader_readStatement_19 : decode prog_8_method_11_code 19 = .ok (.invokevirtual 55, 3) := by decide +kernel
theorem d_Reader_readStatement_22 : decode prog_8_method_11_code 22 = .ok (.ifCond .ne 4, 3) := by decide +kernel
theorem d_Reader_readStatement_25 : decode prog_8_method_11_code 25 = .ok (.return_, 1) := by decide +kernel
theorem d_Reader_readStatement_26 : decode prog_8_method_11_code 26 = .ok (.aload_n 0, 1) := by decide +kernel
theorem d_Reader_readStatement_27 : decode prog_8_method_11_code 27 = .ok (.invokevirtual 77, 3) := by decide +kernel
theorem d_Reader_readStatement_30 : decode prog_8_method_11_code 30 = .ok (.lstore_n 2, 1) := by decide +kernel
theorem d_Reader_readStatement_31 : decode prog_8_method_11_code 31 = .ok (.aload_n 0, 1) := by decide +kernel
theorem d_Reader_readStatement_32 : decode prog_8_method_11_code 32 = .ok (.getfield 28, 3) := by decide +kernel
theorem d_Reader_readStatement_35 : decode prog_8_method_11_code 35 = .ok (.iconst (-1), 1) := by decide +kernel
theorem d_Reader_readStatement_36 : decode prog_8_method_11_code 36 = .ok (.if_icmp .ne 23, 3) := by decide +kernel
theorem d_Reader_readStatement_39 : decode prog_8_method_11_code 39 = .ok (.iload_n 1, 1) := by decide +kernel
theorem d_Reader_readStatement_40 : decode prog_8_method_11_code 40 = .ok (.ifCond .lt 19, 3) := by decide +kernel
theorem d_Reader_readStatement_43 : decode prog_8_method_11_code 43 = .ok (.iload_n 1, 1) := by decide +kernel
theorem d_Reader_readStatement_44 : decode prog_8_method_11_code 44 = .ok (.aload_n 0, 1) := by decide +kernel
theorem d_Reader_readStatement_45 : decode prog_8_method_11_code 45 = .ok (.getfield 20, 3) := by decide +kernel
theorem d_Reader_readStatement_48 : decode prog_8_method_11_code 48 = .ok (.arraylength, 1) := by decide +kernel
theorem d_Reader_readStatement_49 : decode prog_8_method_11_code 49 = .ok (.if_icmp .ge 10, 3) := by decide +kernel
theorem d_Reader_readStatement_52 : decode prog_8_method_11_code 52 = .ok (.aload_n 0, 1) := by decide +kernel
theorem d_Reader_readStatement_53 : decode prog_8_method_11_code 53 = .ok (.getfield 20, 3) := by decide +kernel
theorem d_Reader_readStatement_56 : decode prog_8_method_11_code 56 = .ok (.iload_n 1, 1) := by decide +kernel
theorem d_Reader_readStatement_57 : decode prog_8_method_11_code 57 = .ok (.lload_n 2, 1) := by decide +kernel
theorem d_Reader_readStatement_58 : decode prog_8_method_11_code 58 = .ok (.lastore, 1) := by decide +kernel
theorem d_Reader_readStatement_59 : decode prog_8_method_11_code 59 = .ok (.return_, 1) := by decide +kernel
def cf_Reader_readStatement  (w : Wd) (P : Wd → Prop) : Prop :=
  cf_Reader_readNumber (0 : Int32) (9 : Int32) w (fun r1 w2 => ((¬ (w2.1 1 5) = (-1 : Int32) → P w2) ∧ ((w2.1 1 5) = (-1 : Int32) → cf_Reader_readSign (61 : Int32) w2 (fun r3 w4 => ((¬ r3 = 0 → cf_Reader_readSum_W  w4 (fun r5 w6 => ((¬ (w6.1 1 5) = (-1 : Int32) → P w6) ∧ ((w6.1 1 5) = (-1 : Int32) → ((r1 < 0 → P w6) ∧ (¬ r1 < 0 → (((10 : Int32) ≤ r1 → P w6) ∧ (¬ (10 : Int32) ≤ r1 → vp_in r1 10 ∧ ∀ w7, w7 = wL w6 4 r1.toNatClampNeg r5 → P w7)))))))) ∧ (r3 = 0 → P w4))))))
theorem cf_Reader_readStatement_ok {g : ayG} {d : Nat} (hd : 111 ≤ d)   (w : Wd) (P : Wd → Prop) (h : cf_Reader_readStatement w P) : Call g y_Reader_readStatement prog_8_method_11_code 4 none d [.ref (g.1 + 1)] w (fun (r : Option Value) (w2 : Wd) => r = none ∧ P w2) := by
  unfold cf_Reader_readStatement at h
  refine am_enter mi_Reader_readStatement (Nat.le_of_ble_eq_true rfl) ?_
  have hQ : ∀ w2, P w2 → (fun (r : Option Value) (w2 : Wd) => r = none ∧ P w2) none w2 := fun w2 h => ⟨rfl, h⟩
  generalize (fun (r : Option Value) (w2 : Wd) => r = none ∧ P w2) = Q at hQ ⊢
  show wp g (fun _ => True) y_Reader_readStatement prog_8_method_11_code 4 none d 0 [(0, .ref (g.1 + 1))] [] w Q
  refine am_aload_n d_Reader_readStatement_0 0 rfl ?_
  refine am_iconst (v := 0) d_Reader_readStatement_1 rfl ?_
  refine am_bipush (v := 9) d_Reader_readStatement_2 rfl ?_
  refine am_callV (C := y_Reader_readNumber.cls) (d2 := d - 1) [.int (0 : Int32), .int (9 : Int32)] d_Reader_readStatement_4 mi_Reader_readNumber wd_269 wd_271 ws_Reader_readNumber (by decide) (el_Reader (show ay_sh 1 = _ from rfl)) rfl rfl (by omega) rfl rfl (Nat.le_of_ble_eq_true rfl) ?_
  refine Call.post ?_ (cf_Reader_readNumber_ok (by omega) (0 : Int32) (9 : Int32)  w _ h)
  rintro _ w2 ⟨r1, rfl, h⟩
  show wp g (fun _ => True) y_Reader_readStatement prog_8_method_11_code 4 none d 7 [(0, .ref (g.1 + 1))] [.int r1] w2 Q
  refine am_istore_n (l' := [(1, .int r1), (0, .ref (g.1 + 1))]) d_Reader_readStatement_7 (by decide) rfl ?_
  refine am_aload_n d_Reader_readStatement_8 1 rfl ?_
  refine am_getf (T := F_Reader) (fs := ob_Reader g w2 1) (C := R_Reader) (N := 8) (ci := 1) 5 d_Reader_readStatement_9 wd_55 rfl (by decide) (el_Reader (show ay_sh 1 = _ from rfl)) rfl i_Reader (by decide) rfl ?_
  refine am_iconst (v := -1) d_Reader_readStatement_12 rfl ?_
  refine am_icmp_ne (tgt := 25) d_Reader_readStatement_13 (by decide) (fun c13 => ?_) (fun c13 => ?_)
  · have h := h.1 c13
    exact am_return d_Reader_readStatement_25 rfl (hQ w2 h)
  · have h := h.2 c13
    refine am_aload_n d_Reader_readStatement_16 1 rfl ?_
    refine am_bipush (v := 61) d_Reader_readStatement_17 rfl ?_
    refine am_callV (C := y_Reader_readSign.cls) (d2 := d - 1) [.int (61 : Int32)] d_Reader_readStatement_19 mi_Reader_readSign wd_292 wd_294 ws_Reader_readSign (by decide) (el_Reader (show ay_sh 1 = _ from rfl)) rfl rfl (by omega) rfl rfl (Nat.le_of_ble_eq_true rfl) ?_
    refine Call.post ?_ (cf_Reader_readSign_ok (by omega) (61 : Int32)  w2 _ h)
    rintro _ w4 ⟨r3, rfl, h⟩
    show wp g (fun _ => True) y_Reader_readStatement prog_8_method_11_code 4 none d 22 [(1, .int r1), (0, .ref (g.1 + 1))] [.int r3] w4 Q
    refine am_if_ne (tgt := 26) d_Reader_readStatement_22 (by decide) (fun c22 => ?_) (fun c22 => ?_)
    · have h := h.1 c22
      refine am_aload_n d_Reader_readStatement_26 1 rfl ?_
      refine am_callV (C := y_Reader_readSum.cls) (d2 := d - 1) [] d_Reader_readStatement_27 mi_Reader_readSum wd_296 wd_298 ws_Reader_readSum (by decide) (el_Reader (show ay_sh 1 = _ from rfl)) rfl rfl (by omega) rfl rfl (Nat.le_of_ble_eq_true rfl) ?_
      refine Call.post ?_ (cf_Reader_readSum_W_ok (by omega)   w4 _ h)
      rintro _ w6 ⟨r5, rfl, h⟩
      show wp g (fun _ => True) y_Reader_readStatement prog_8_method_11_code 4 none d 30 [(1, .int r1), (0, .ref (g.1 + 1))] [.long r5] w6 Q
      refine am_lstore_n (l' := [(2, .long r5), (1, .int r1), (0, .ref (g.1 + 1))]) d_Reader_readStatement_30 (by decide) rfl ?_
      refine am_aload_n d_Reader_readStatement_31 2 rfl ?_
      refine am_getf (T := F_Reader) (fs := ob_Reader g w6 1) (C := R_Reader) (N := 8) (ci := 1) 5 d_Reader_readStatement_32 wd_55 rfl (by decide) (el_Reader (show ay_sh 1 = _ from rfl)) rfl i_Reader (by decide) rfl ?_
      refine am_iconst (v := -1) d_Reader_readStatement_35 rfl ?_
      refine am_icmp_ne (tgt := 59) d_Reader_readStatement_36 (by decide) (fun c36 => ?_) (fun c36 => ?_)
      · have h := h.1 c36
        exact am_return d_Reader_readStatement_59 rfl (hQ w6 h)
      · have h := h.2 c36
        refine am_iload_n d_Reader_readStatement_39 1 rfl ?_
        refine am_if_lt (tgt := 59) d_Reader_readStatement_40 (by decide) (fun c40 => ?_) (fun c40 => ?_)
        · have h := h.1 c40
          exact am_return d_Reader_readStatement_59 rfl (hQ w6 h)
        · have h := h.2 c40
          refine am_iload_n d_Reader_readStatement_43 1 rfl ?_
          refine am_aload_n d_Reader_readStatement_44 2 rfl ?_
          refine am_getf (T := F_Reader) (fs := ob_Reader g w6 1) (C := R_Reader) (N := 8) (ci := 1) 1 d_Reader_readStatement_45 wd_51 rfl (by decide) (el_Reader (show ay_sh 1 = _ from rfl)) rfl i_Reader (by decide) rfl ?_
          refine am_alen (v := 10) d_Reader_readStatement_48 (show ay_sh 4 = _ from rfl) (by decide) rfl ?_
          refine am_icmp_ge (tgt := 59) d_Reader_readStatement_49 (by decide) (fun c49 => ?_) (fun c49 => ?_)
          · have h := h.1 c49
            exact am_return d_Reader_readStatement_59 rfl (hQ w6 h)
          · have h := h.2 c49
            refine am_aload_n d_Reader_readStatement_52 2 rfl ?_
            refine am_getf (T := F_Reader) (fs := ob_Reader g w6 1) (C := R_Reader) (N := 8) (ci := 1) 1 d_Reader_readStatement_53 wd_51 rfl (by decide) (el_Reader (show ay_sh 1 = _ from rfl)) rfl i_Reader (by decide) rfl ?_
            refine am_iload_n d_Reader_readStatement_56 1 rfl ?_
            refine am_lload_n d_Reader_readStatement_57 0 rfl ?_
            have hi58 := h.1
            have h := h.2
            refine am_lastore d_Reader_readStatement_58 (show ay_sh 4 = _ from rfl) hi58 ?_
            obtain ⟨w7, ew7⟩ : ∃ z, z = wL w6 4 r1.toNatClampNeg r5 := ⟨_, rfl⟩
            rw [← ew7]
            have h := h w7 ew7
            exact am_return d_Reader_readStatement_59 rfl (hQ w7 h)
    · have h := h.2 c22
      exact am_return d_Reader_readStatement_25 rfl (hQ w4 h)
theorem d_Reader_readText_0 : decode prog_8_method_6_code 0 = .ok (.iconst 0, 1) := by decide +kernel
theorem d_Reader_readText_1 : decode prog_8_method_6_code 1 = .ok (.istore_n 2, 1) := by decide +kernel
theorem d_Reader_readText_2 : decode prog_8_method_6_code 2 = .ok (.iload_n 2, 1) := by decide +kernel
theorem d_Reader_readText_3 : decode prog_8_method_6_code 3 = .ok (.aload_n 0, 1) := by decide +kernel
theorem d_Reader_readText_4 : decode prog_8_method_6_code 4 = .ok (.getfield 20, 3) := by decide +kernel
theorem d_Reader_readText_7 : decode prog_8_method_6_code 7 = .ok (.arraylength, 1) := by decide +kernel
theorem d_Reader_readText_8 : decode prog_8_method_6_code 8 = .ok (.if_icmp .ge 20, 3) := by decide +kernel
theorem d_Reader_readText_11 : decode prog_8_method_6_code 11 = .ok (.aload_n 0, 1) := by decide +kernel
theorem d_Reader_readText_12 : decode prog_8_method_6_code 12 = .ok (.getfield 20, 3) := by decide +kernel
theorem d_Reader_readText_15 : decode prog_8_method_6_code 15 = .ok (.iload_n 2, 1) := by decide +kernel
theorem d_Reader_readText_16 : decode prog_8_method_6_code 16 = .ok (.aload_n 1, 1) := by decide +kernel
theorem d_Reader_readText_17 : decode prog_8_method_6_code 17 = .ok (.iload_n 2, 1) := by decide +kernel
theorem d_Reader_readText_18 : decode prog_8_method_6_code 18 = .ok (.invokevirtual 38, 3) := by decide +kernel
theorem d_Reader_readText_21 : decode prog_8_method_6_code 21 = .ok (.lastore, 1) := by decide +kernel
theorem d_Reader_readText_22 : decode prog_8_method_6_code 22 = .ok (.iinc 2 1, 3) := by decide +kernel
theorem d_Reader_readText_25 : decode prog_8_method_6_code 25 = .ok (.goto (-23), 3) := by decide +kernel
theorem d_Reader_readText_28 : decode prog_8_method_6_code 28 = .ok (.aload_n 0, 1) := by decide +kernel
theorem d_Reader_readText_29 : decode prog_8_method_6_code 29 = .ok (.iconst 0, 1) := by decide +kernel
theorem d_Reader_readText_30 : decode prog_8_method_6_code 30 = .ok (.putfield 42, 3) := by decide +kernel
theorem d_Reader_readText_33 : decode prog_8_method_6_code 33 = .ok (.aload_n 0, 1) := by decide +kernel
theorem d_Reader_readText_34 : decode prog_8_method_6_code 34 = .ok (.iconst 0, 1) := by decide +kernel
theorem d_Reader_readText_35 : decode prog_8_method_6_code 35 = .ok (.putfield 45, 3) := by decide +kernel
theorem d_Reader_readText_38 : decode prog_8_method_6_code 38 = .ok (.aload_n 0, 1) := by decide +kernel
theorem d_Reader_readText_39 : decode prog_8_method_6_code 39 = .ok (.iconst (-1), 1) := by decide +kernel
theorem d_Reader_readText_40 : decode prog_8_method_6_code 40 = .ok (.putfield 28, 3) := by decide +kernel
theorem d_Reader_readText_43 : decode prog_8_method_6_code 43 = .ok (.aload_n 0, 1) := by decide +kernel
theorem d_Reader_readText_44 : decode prog_8_method_6_code 44 = .ok (.iconst 0, 1) := by decide +kernel
theorem d_Reader_readText_45 : decode prog_8_method_6_code 45 = .ok (.putfield 35, 3) := by decide +kernel
theorem d_Reader_readText_48 : decode prog_8_method_6_code 48 = .ok (.aload_n 0, 1) := by decide +kernel
theorem d_Reader_readText_49 : decode prog_8_method_6_code 49 = .ok (.iconst (-1), 1) := by decide +kernel
theorem d_Reader_readText_50 : decode prog_8_method_6_code 50 = .ok (.putfield 32, 3) := by decide +kernel
theorem d_Reader_readText_53 : decode prog_8_method_6_code 53 = .ok (.iconst 0, 1) := by decide +kernel
theorem d_Reader_readText_54 : decode prog_8_method_6_code 54 = .ok (.istore_n 2, 1) := by decide +kernel
theorem d_Reader_readText_55 : decode prog_8_method_6_code 55 = .ok (.iconst 0, 1) := by decide +kernel
theorem d_Reader_readText_56 : decode prog_8_method_6_code 56 = .ok (.istore_n 3, 1) := by decide +kernel
theorem d_Reader_readText_57 : decode prog_8_method_6_code 57 = .ok (.iload_n 3, 1) := by decide +kernel
theorem d_Reader_readText_58 : decode prog_8_method_6_code 58 = .ok (.sipush 300, 3) := by decide +kernel
theorem d_Reader_readText_61 : decode prog_8_method_6_code 61 = .ok (.if_icmp .ge 44, 3) := by decide +kernel
theorem d_Reader_readText_64 : decode prog_8_method_6_code 64 = .ok (.aload_n 0, 1) := by decide +kernel
theorem d_Reader_readText_65 : decode prog_8_method_6_code 65 = .ok (.invokevirtual 48, 3) := by decide +kernel
theorem d_Reader_readText_68 : decode prog_8_method_6_code 68 = .ok (.iinc 2 1, 3) := by decide +kernel
theorem d_Reader_readText_71 : decode prog_8_method_6_code 71 = .ok (.aload_n 0, 1) := by decide +kernel
theorem d_Reader_readText_72 : decode prog_8_method_6_code 72 = .ok (.getfield 28, 3) := by decide +kernel
theorem d_Reader_readText_75 : decode prog_8_method_6_code 75 = .ok (.iconst (-1), 1) := by decide +kernel
theorem d_Reader_readText_76 : decode prog_8_method_6_code 76 = .ok (.if_icmp .ne 29, 3) := by decide +kernel
theorem d_Reader_readText_79 : decode prog_8_method_6_code 79 = .ok (.aload_n 0, 1) := by decide +kernel
theorem d_Reader_readText_80 : decode prog_8_method_6_code 80 = .ok (.invokevirtual 51, 3) := by decide +kernel
theorem d_Reader_readText_83 : decode prog_8_method_6_code 83 = .ok (.iconst (-1), 1) := by decide +kernel
theorem d_Reader_readText_84 : decode prog_8_method_6_code 84 = .ok (.if_icmp .eq 21, 3) := by decide +kernel
theorem d_Reader_readText_87 : decode prog_8_method_6_code 87 = .ok (.aload_n 0, 1) := by decide +kernel
theorem d_Reader_readText_88 : decode prog_8_method_6_code 88 = .ok (.bipush 59, 2) := by decide +kernel
theorem d_Reader_readText_90 : decode prog_8_method_6_code 90 = .ok (.invokevirtual 55, 3) := by decide +kernel
theorem d_Reader_readText_93 : decode prog_8_method_6_code 93 = .ok (.ifCond .ne 6, 3) := by decide +kernel
theorem d_Reader_readText_96 : decode prog_8_method_6_code 96 = .ok (.goto 9, 3) := by decide +kernel
theorem d_Reader_readText_99 : decode prog_8_method_6_code 99 = .ok (.iinc 3 1, 3) := by decide +kernel
theorem d_Reader_readText_102 : decode prog_8_method_6_code 102 = .ok (.goto (-45), 3) := by decide +kernel
theorem d_Reader_readText_105 : decode prog_8_method_6_code 105 = .ok (.iload_n 2, 1) := by decide +kernel
theorem d_Reader_readText_106 : decode prog_8_method_6_code 106 = .ok (.ireturn, 1) := by decide +kernel
def cf_Reader_readText_B57  (K57 : Int32 → Int32 → Wd → Prop) (P : Int32 → Wd → Prop) (x2 : Int32) (x3 : Int32) (w : Wd) : Prop :=
  (((300 : Int32) ≤ x3 → P x2 w) ∧ (¬ (300 : Int32) ≤ x3 → cf_Reader_readStatement  w (fun w6 => ∀ v7, v7 = x2 + (1 : Int32) → ((¬ (w6.1 1 5) = (-1 : Int32) → P v7 w6) ∧ ((w6.1 1 5) = (-1 : Int32) → cf_Reader_peek  w6 (fun r8 w9 => ((r8 = (-1 : Int32) → P v7 w9) ∧ (¬ r8 = (-1 : Int32) → cf_Reader_readSign (59 : Int32) w9 (fun r10 w11 => ((¬ r10 = 0 → ∀ v12, v12 = x3 + (1 : Int32) → K57 v7 v12 w11) ∧ (r10 = 0 → P v7 w11)))))))))))
def cf_Reader_readText_L57   (P : Int32 → Wd → Prop) : Nat → Int32 → Int32 → Wd → Prop
  | 0 => fun x2 x3 w => False
  | n + 1 => fun x2 x3 w => cf_Reader_readText_B57 (cf_Reader_readText_L57 P n) P x2 x3 w
def cf_Reader_readText_B2  (K2 : Int32 → Wd → Prop) (P : Int32 → Wd → Prop) (x2 : Int32) (w : Wd) : Prop :=
  (((10 : Int32) ≤ x2 → ∀ w1, w1 = wI w 1 3 (0 : Int32) → ∀ w2, w2 = wI w1 1 4 (0 : Int32) → ∀ w3, w3 = wI w2 1 5 (-1 : Int32) → ∀ w4, w4 = wI w3 1 6 (0 : Int32) → ∀ w5, w5 = wI w4 1 7 (-1 : Int32) → ∃ n, cf_Reader_readText_L57 P n (0 : Int32) (0 : Int32) w5) ∧ (¬ (10 : Int32) ≤ x2 → cf_Store_polyAt x2 w (fun r13 => vp_in x2 10 ∧ ∀ w14, w14 = wL w 4 x2.toNatClampNeg r13 → ∀ v15, v15 = x2 + (1 : Int32) → K2 v15 w14)))
def cf_Reader_readText_L2   (P : Int32 → Wd → Prop) : Nat → Int32 → Wd → Prop
  | 0 => fun x2 w => False
  | n + 1 => fun x2 w => cf_Reader_readText_B2 (cf_Reader_readText_L2 P n) P x2 w
def cf_Reader_readText  (w : Wd) (P : Int32 → Wd → Prop) : Prop :=
  ∃ n, cf_Reader_readText_L2 P n (0 : Int32) w
theorem cf_Reader_readText_B57_ok {g : ayG} {d : Nat} (hd : 112 ≤ d)   (w : Wd) (K57 : Int32 → Int32 → Wd → Prop) (P : Int32 → Wd → Prop) (Q : Option Value → Wd → Prop) (hQ : ∀ x w2, P x w2 → Q (some (.int x)) w2) (hK57 : ∀ (x2 : Int32) (x3 : Int32) (w : Wd), (K57 x2 x3 w → wp g (fun _ => True) y_Reader_readText prog_8_method_6_code 4 (some FieldType.int) d 57 [(0, .ref (g.1 + 1)), (2, .int x2), (3, .int x3)] [] w Q)) (x2 : Int32) (x3 : Int32) (h : cf_Reader_readText_B57 K57 P x2 x3 w) : wp g (fun _ => True) y_Reader_readText prog_8_method_6_code 4 (some FieldType.int) d 57 [(0, .ref (g.1 + 1)), (2, .int x2), (3, .int x3)] [] w Q := by
  unfold cf_Reader_readText_B57 at h
  refine am_iload_n d_Reader_readText_57 2 rfl ?_
  refine am_sipush (v := 300) d_Reader_readText_58 rfl ?_
  refine am_icmp_ge (tgt := 105) d_Reader_readText_61 (by decide) (fun c61 => ?_) (fun c61 => ?_)
  · have h := h.1 c61
    refine am_iload_n d_Reader_readText_105 1 rfl ?_
    exact am_ireturn d_Reader_readText_106 rfl rfl (hQ x2 w h)
  · have h := h.2 c61
    refine am_aload_n d_Reader_readText_64 0 rfl ?_
    refine am_callV (C := y_Reader_readStatement.cls) (d2 := d - 1) [] d_Reader_readText_65 mi_Reader_readStatement wd_265 wd_267 ws_Reader_readStatement (by decide) (el_Reader (show ay_sh 1 = _ from rfl)) rfl rfl (by omega) rfl rfl (Nat.le_of_ble_eq_true rfl) ?_
    refine Call.post ?_ (cf_Reader_readStatement_ok (by omega)   w _ h)
    rintro _ w6 ⟨rfl, h⟩
    show wp g (fun _ => True) y_Reader_readText prog_8_method_6_code 4 (some FieldType.int) d 68 [(0, .ref (g.1 + 1)), (2, .int x2), (3, .int x3)] [] w6 Q
    obtain ⟨v7, ev7⟩ : ∃ z : Int32, z = x2 + (1 : Int32) := ⟨_, rfl⟩
    have h := h v7 ev7
    refine am_iinc (v := v7) (l' := [(2, .int v7), (0, .ref (g.1 + 1)), (3, .int x3)]) d_Reader_readText_68 1 rfl (by rw [ev7]; rfl) (by decide) rfl ?_
    refine am_aload_n d_Reader_readText_71 1 rfl ?_
    refine am_getf (T := F_Reader) (fs := ob_Reader g w6 1) (C := R_Reader) (N := 8) (ci := 1) 5 d_Reader_readText_72 wd_55 rfl (by decide) (el_Reader (show ay_sh 1 = _ from rfl)) rfl i_Reader (by decide) rfl ?_
    refine am_iconst (v := -1) d_Reader_readText_75 rfl ?_
    refine am_icmp_ne (tgt := 105) d_Reader_readText_76 (by decide) (fun c76 => ?_) (fun c76 => ?_)
    · have h := h.1 c76
      refine am_iload_n d_Reader_readText_105 0 rfl ?_
      exact am_ireturn d_Reader_readText_106 rfl rfl (hQ v7 w6 h)
    · have h := h.2 c76
      refine am_aload_n d_Reader_readText_79 1 rfl ?_
      refine am_callV (C := y_Reader_peek.cls) (d2 := d - 1) [] d_Reader_readText_80 mi_Reader_peek wd_273 wd_275 ws_Reader_peek (by decide) (el_Reader (show ay_sh 1 = _ from rfl)) rfl rfl (by omega) rfl rfl (Nat.le_of_ble_eq_true rfl) ?_
      refine Call.post ?_ (cf_Reader_peek_ok (by omega)   w6 _ h)
      rintro _ w9 ⟨r8, rfl, h⟩
      show wp g (fun _ => True) y_Reader_readText prog_8_method_6_code 4 (some FieldType.int) d 83 [(2, .int v7), (0, .ref (g.1 + 1)), (3, .int x3)] [.int r8] w9 Q
      refine am_iconst (v := -1) d_Reader_readText_83 rfl ?_
      refine am_icmp_eq (tgt := 105) d_Reader_readText_84 (by decide) (fun c84 => ?_) (fun c84 => ?_)
      · have h := h.1 c84
        refine am_iload_n d_Reader_readText_105 0 rfl ?_
        exact am_ireturn d_Reader_readText_106 rfl rfl (hQ v7 w9 h)
      · have h := h.2 c84
        refine am_aload_n d_Reader_readText_87 1 rfl ?_
        refine am_bipush (v := 59) d_Reader_readText_88 rfl ?_
        refine am_callV (C := y_Reader_readSign.cls) (d2 := d - 1) [.int (59 : Int32)] d_Reader_readText_90 mi_Reader_readSign wd_292 wd_294 ws_Reader_readSign (by decide) (el_Reader (show ay_sh 1 = _ from rfl)) rfl rfl (by omega) rfl rfl (Nat.le_of_ble_eq_true rfl) ?_
        refine Call.post ?_ (cf_Reader_readSign_ok (by omega) (59 : Int32)  w9 _ h)
        rintro _ w11 ⟨r10, rfl, h⟩
        show wp g (fun _ => True) y_Reader_readText prog_8_method_6_code 4 (some FieldType.int) d 93 [(2, .int v7), (0, .ref (g.1 + 1)), (3, .int x3)] [.int r10] w11 Q
        refine am_if_ne (tgt := 99) d_Reader_readText_93 (by decide) (fun c93 => ?_) (fun c93 => ?_)
        · have h := h.1 c93
          obtain ⟨v12, ev12⟩ : ∃ z : Int32, z = x3 + (1 : Int32) := ⟨_, rfl⟩
          have h := h v12 ev12
          refine am_iinc (v := v12) (l' := [(3, .int v12), (2, .int v7), (0, .ref (g.1 + 1))]) d_Reader_readText_99 2 rfl (by rw [ev12]; rfl) (by decide) rfl ?_
          refine am_goto (tgt := 57) d_Reader_readText_102 (by decide) ?_
          refine am_sub [2, 1, 0] rfl ?_
          exact hK57 v7 v12 w11 h
        · have h := h.2 c93
          refine am_goto (tgt := 105) d_Reader_readText_96 (by decide) ?_
          refine am_iload_n d_Reader_readText_105 0 rfl ?_
          exact am_ireturn d_Reader_readText_106 rfl rfl (hQ v7 w11 h)
theorem cf_Reader_readText_L57_ok {g : ayG} {d : Nat} (hd : 112 ≤ d)    (P : Int32 → Wd → Prop) (Q : Option Value → Wd → Prop) (hQ : ∀ x w2, P x w2 → Q (some (.int x)) w2)  : ∀ (n : Nat) (x2 : Int32) (x3 : Int32) (w : Wd) (h : cf_Reader_readText_L57 P n x2 x3 w), wp g (fun _ => True) y_Reader_readText prog_8_method_6_code 4 (some FieldType.int) d 57 [(0, .ref (g.1 + 1)), (2, .int x2), (3, .int x3)] [] w Q
  | 0, x2, x3, w, h => False.elim h
  | n + 1, x2, x3, w, h => cf_Reader_readText_B57_ok hd   w (cf_Reader_readText_L57 P n) P Q hQ (fun x2 x3 w h => cf_Reader_readText_L57_ok hd    P Q hQ  n x2 x3 w h) x2 x3 h
theorem cf_Reader_readText_B2_ok {g : ayG} {d : Nat} (hd : 112 ≤ d)   (w : Wd) (K2 : Int32 → Wd → Prop) (P : Int32 → Wd → Prop) (Q : Option Value → Wd → Prop) (hQ : ∀ x w2, P x w2 → Q (some (.int x)) w2) (hK2 : ∀ (x2 : Int32) (w : Wd), (K2 x2 w → wp g (fun _ => True) y_Reader_readText prog_8_method_6_code 4 (some FieldType.int) d 2 [(0, .ref (g.1 + 1)), (1, .ref (g.1 + 6)), (2, .int x2)] [] w Q)) (x2 : Int32) (h : cf_Reader_readText_B2 K2 P x2 w) : wp g (fun _ => True) y_Reader_readText prog_8_method_6_code 4 (some FieldType.int) d 2 [(0, .ref (g.1 + 1)), (1, .ref (g.1 + 6)), (2, .int x2)] [] w Q := by
  unfold cf_Reader_readText_B2 at h
  refine am_iload_n d_Reader_readText_2 2 rfl ?_
  refine am_aload_n d_Reader_readText_3 0 rfl ?_
  refine am_getf (T := F_Reader) (fs := ob_Reader g w 1) (C := R_Reader) (N := 8) (ci := 1) 1 d_Reader_readText_4 wd_51 rfl (by decide) (el_Reader (show ay_sh 1 = _ from rfl)) rfl i_Reader (by decide) rfl ?_
  refine am_alen (v := 10) d_Reader_readText_7 (show ay_sh 4 = _ from rfl) (by decide) rfl ?_
  refine am_icmp_ge (tgt := 28) d_Reader_readText_8 (by decide) (fun c8 => ?_) (fun c8 => ?_)
  · have h := h.1 c8
    refine am_aload_n d_Reader_readText_28 0 rfl ?_
    refine am_iconst (v := 0) d_Reader_readText_29 rfl ?_
    refine am_putf (w' := wI w 1 3 (0 : Int32)) (ty := .int) (T := F_Reader) (fs := ob_Reader g w 1) (C := R_Reader) (N := 8) (ci := 1) 3 d_Reader_readText_30 wd_53 rfl (by decide) (el_Reader (show ay_sh 1 = _ from rfl)) rfl i_Reader (by decide) G_Reader ty_Reader n_Reader rfl (ty_Reader 3 (by decide)) rfl rfl (Nat.le_of_ble_eq_true rfl) ((el_Reader (show ay_sh 1 = _ from rfl)).trans (by rw [pf_Reader_at])) wI_o ?_
    obtain ⟨w1, ew1⟩ : ∃ z, z = wI w 1 3 (0 : Int32) := ⟨_, rfl⟩
    rw [← ew1]
    have h := h w1 ew1
    refine am_aload_n d_Reader_readText_33 0 rfl ?_
    refine am_iconst (v := 0) d_Reader_readText_34 rfl ?_
    refine am_putf (w' := wI w1 1 4 (0 : Int32)) (ty := .int) (T := F_Reader) (fs := ob_Reader g w1 1) (C := R_Reader) (N := 8) (ci := 1) 4 d_Reader_readText_35 wd_54 rfl (by decide) (el_Reader (show ay_sh 1 = _ from rfl)) rfl i_Reader (by decide) G_Reader ty_Reader n_Reader rfl (ty_Reader 4 (by decide)) rfl rfl (Nat.le_of_ble_eq_true rfl) ((el_Reader (show ay_sh 1 = _ from rfl)).trans (by rw [pf_Reader_open])) wI_o ?_
    obtain ⟨w2, ew2⟩ : ∃ z, z = wI w1 1 4 (0 : Int32) := ⟨_, rfl⟩
    rw [← ew2]
    have h := h w2 ew2
    refine am_aload_n d_Reader_readText_38 0 rfl ?_
    refine am_iconst (v := -1) d_Reader_readText_39 rfl ?_
    refine am_putf (w' := wI w2 1 5 (-1 : Int32)) (ty := .int) (T := F_Reader) (fs := ob_Reader g w2 1) (C := R_Reader) (N := 8) (ci := 1) 5 d_Reader_readText_40 wd_55 rfl (by decide) (el_Reader (show ay_sh 1 = _ from rfl)) rfl i_Reader (by decide) G_Reader ty_Reader n_Reader rfl (ty_Reader 5 (by decide)) rfl rfl (Nat.le_of_ble_eq_true rfl) ((el_Reader (show ay_sh 1 = _ from rfl)).trans (by rw [pf_Reader_fault])) wI_o ?_
    obtain ⟨w3, ew3⟩ : ∃ z, z = wI w2 1 5 (-1 : Int32) := ⟨_, rfl⟩
    rw [← ew3]
    have h := h w3 ew3
    refine am_aload_n d_Reader_readText_43 0 rfl ?_
    refine am_iconst (v := 0) d_Reader_readText_44 rfl ?_
    refine am_putf (w' := wI w3 1 6 (0 : Int32)) (ty := .int) (T := F_Reader) (fs := ob_Reader g w3 1) (C := R_Reader) (N := 8) (ci := 1) 6 d_Reader_readText_45 wd_56 rfl (by decide) (el_Reader (show ay_sh 1 = _ from rfl)) rfl i_Reader (by decide) G_Reader ty_Reader n_Reader rfl (ty_Reader 6 (by decide)) rfl rfl (Nat.le_of_ble_eq_true rfl) ((el_Reader (show ay_sh 1 = _ from rfl)).trans (by rw [pf_Reader_within])) wI_o ?_
    obtain ⟨w4, ew4⟩ : ∃ z, z = wI w3 1 6 (0 : Int32) := ⟨_, rfl⟩
    rw [← ew4]
    have h := h w4 ew4
    refine am_aload_n d_Reader_readText_48 0 rfl ?_
    refine am_iconst (v := -1) d_Reader_readText_49 rfl ?_
    refine am_putf (w' := wI w4 1 7 (-1 : Int32)) (ty := .int) (T := F_Reader) (fs := ob_Reader g w4 1) (C := R_Reader) (N := 8) (ci := 1) 7 d_Reader_readText_50 wd_57 rfl (by decide) (el_Reader (show ay_sh 1 = _ from rfl)) rfl i_Reader (by decide) G_Reader ty_Reader n_Reader rfl (ty_Reader 7 (by decide)) rfl rfl (Nat.le_of_ble_eq_true rfl) ((el_Reader (show ay_sh 1 = _ from rfl)).trans (by rw [pf_Reader_innermost])) wI_o ?_
    obtain ⟨w5, ew5⟩ : ∃ z, z = wI w4 1 7 (-1 : Int32) := ⟨_, rfl⟩
    rw [← ew5]
    have h := h w5 ew5
    refine am_iconst (v := 0) d_Reader_readText_53 rfl ?_
    refine am_istore_n (l' := [(2, .int (0 : Int32)), (0, .ref (g.1 + 1)), (1, .ref (g.1 + 6))]) d_Reader_readText_54 (by decide) rfl ?_
    refine am_iconst (v := 0) d_Reader_readText_55 rfl ?_
    refine am_istore_n (l' := [(3, .int (0 : Int32)), (2, .int (0 : Int32)), (0, .ref (g.1 + 1)), (1, .ref (g.1 + 6))]) d_Reader_readText_56 (by decide) rfl ?_
    refine am_sub [2, 1, 0] rfl ?_
    obtain ⟨n, h⟩ := h
    exact cf_Reader_readText_L57_ok (by omega)    P Q hQ  n (0 : Int32) (0 : Int32) w5 h
  · have h := h.2 c8
    refine am_aload_n d_Reader_readText_11 0 rfl ?_
    refine am_getf (T := F_Reader) (fs := ob_Reader g w 1) (C := R_Reader) (N := 8) (ci := 1) 1 d_Reader_readText_12 wd_51 rfl (by decide) (el_Reader (show ay_sh 1 = _ from rfl)) rfl i_Reader (by decide) rfl ?_
    refine am_iload_n d_Reader_readText_15 2 rfl ?_
    refine am_aload_n d_Reader_readText_16 1 rfl ?_
    refine am_iload_n d_Reader_readText_17 2 rfl ?_
    refine am_callV (C := "TriSplits$Store") (d2 := d - 1) [.int x2] d_Reader_readText_18 mi_Store_polyAt wd_258 wd_259 wd_260 (by decide) (el_Store (show ay_sh 6 = _ from rfl)) rfl rfl (by omega) rfl rfl (Nat.le_of_ble_eq_true rfl) ?_
    refine Call.post ?_ (cf_Store_polyAt_ok (by omega) x2  w _ h)
    rintro _ _ ⟨r13, rfl, rfl, h⟩
    show wp g (fun _ => True) y_Reader_readText prog_8_method_6_code 4 (some FieldType.int) d 21 [(0, .ref (g.1 + 1)), (1, .ref (g.1 + 6)), (2, .int x2)] [.long r13, .int x2, .ref (g.1 + 4)] w Q
    have hi21 := h.1
    have h := h.2
    refine am_lastore d_Reader_readText_21 (show ay_sh 4 = _ from rfl) hi21 ?_
    obtain ⟨w14, ew14⟩ : ∃ z, z = wL w 4 x2.toNatClampNeg r13 := ⟨_, rfl⟩
    rw [← ew14]
    have h := h w14 ew14
    obtain ⟨v15, ev15⟩ : ∃ z : Int32, z = x2 + (1 : Int32) := ⟨_, rfl⟩
    have h := h v15 ev15
    refine am_iinc (v := v15) (l' := [(2, .int v15), (0, .ref (g.1 + 1)), (1, .ref (g.1 + 6))]) d_Reader_readText_22 2 rfl (by rw [ev15]; rfl) (by decide) rfl ?_
    refine am_goto (tgt := 2) d_Reader_readText_25 (by decide) ?_
    refine am_sub [1, 2, 0] rfl ?_
    exact hK2 v15 w14 h
theorem cf_Reader_readText_L2_ok {g : ayG} {d : Nat} (hd : 112 ≤ d)    (P : Int32 → Wd → Prop) (Q : Option Value → Wd → Prop) (hQ : ∀ x w2, P x w2 → Q (some (.int x)) w2)  : ∀ (n : Nat) (x2 : Int32) (w : Wd) (h : cf_Reader_readText_L2 P n x2 w), wp g (fun _ => True) y_Reader_readText prog_8_method_6_code 4 (some FieldType.int) d 2 [(0, .ref (g.1 + 1)), (1, .ref (g.1 + 6)), (2, .int x2)] [] w Q
  | 0, x2, w, h => False.elim h
  | n + 1, x2, w, h => cf_Reader_readText_B2_ok hd   w (cf_Reader_readText_L2 P n) P Q hQ (fun x2 w h => cf_Reader_readText_L2_ok hd    P Q hQ  n x2 w h) x2 h
theorem cf_Reader_readText_ok {g : ayG} {d : Nat} (hd : 112 ≤ d)   (w : Wd) (P : Int32 → Wd → Prop) (h : cf_Reader_readText w P) : Call g y_Reader_readText prog_8_method_6_code 4 (some FieldType.int) d [.ref (g.1 + 1), .ref (g.1 + 6)] w (fun (r : Option Value) (w2 : Wd) => ∃ x, r = some (.int x) ∧ P x w2) := by
  unfold cf_Reader_readText at h
  refine am_enter mi_Reader_readText (Nat.le_of_ble_eq_true rfl) ?_
  have hQ : ∀ x w2, P x w2 → (fun (r : Option Value) (w2 : Wd) => ∃ x, r = some (.int x) ∧ P x w2) (some (.int x)) w2 := fun x w2 h => ⟨x, rfl, h⟩
  generalize (fun (r : Option Value) (w2 : Wd) => ∃ x, r = some (.int x) ∧ P x w2) = Q at hQ ⊢
  show wp g (fun _ => True) y_Reader_readText prog_8_method_6_code 4 (some FieldType.int) d 0 [(0, .ref (g.1 + 1)), (1, .ref (g.1 + 6))] [] w Q
  refine am_iconst (v := 0) d_Reader_readText_0 rfl ?_
  refine am_istore_n (l' := [(2, .int (0 : Int32)), (0, .ref (g.1 + 1)), (1, .ref (g.1 + 6))]) d_Reader_readText_1 (by decide) rfl ?_
  refine am_sub [1, 2, 0] rfl ?_
  obtain ⟨n, h⟩ := h
  exact cf_Reader_readText_L2_ok (by omega)    P Q hQ  n (0 : Int32) w h
theorem d_Reader_handOver_0 : decode prog_8_method_7_code 0 = .ok (.iconst 0, 1) := by decide +kernel
theorem d_Reader_handOver_1 : decode prog_8_method_7_code 1 = .ok (.istore_n 2, 1) := by decide +kernel
theorem d_Reader_handOver_2 : decode prog_8_method_7_code 2 = .ok (.iload_n 2, 1) := by decide +kernel
theorem d_Reader_handOver_3 : decode prog_8_method_7_code 3 = .ok (.aload_n 0, 1) := by decide +kernel
theorem d_Reader_handOver_4 : decode prog_8_method_7_code 4 = .ok (.getfield 20, 3) := by decide +kernel
theorem d_Reader_handOver_7 : decode prog_8_method_7_code 7 = .ok (.arraylength, 1) := by decide +kernel
theorem d_Reader_handOver_8 : decode prog_8_method_7_code 8 = .ok (.if_icmp .ge 20, 3) := by decide +kernel
theorem d_Reader_handOver_11 : decode prog_8_method_7_code 11 = .ok (.aload_n 1, 1) := by decide +kernel
theorem d_Reader_handOver_12 : decode prog_8_method_7_code 12 = .ok (.iload_n 2, 1) := by decide +kernel
theorem d_Reader_handOver_13 : decode prog_8_method_7_code 13 = .ok (.aload_n 0, 1) := by decide +kernel
theorem d_Reader_handOver_14 : decode prog_8_method_7_code 14 = .ok (.getfield 20, 3) := by decide +kernel
theorem d_Reader_handOver_17 : decode prog_8_method_7_code 17 = .ok (.iload_n 2, 1) := by decide +kernel
theorem d_Reader_handOver_18 : decode prog_8_method_7_code 18 = .ok (.laload, 1) := by decide +kernel
theorem d_Reader_handOver_19 : decode prog_8_method_7_code 19 = .ok (.invokevirtual 59, 3) := by decide +kernel
theorem d_Reader_handOver_22 : decode prog_8_method_7_code 22 = .ok (.iinc 2 1, 3) := by decide +kernel
theorem d_Reader_handOver_25 : decode prog_8_method_7_code 25 = .ok (.goto (-23), 3) := by decide +kernel
theorem d_Reader_handOver_28 : decode prog_8_method_7_code 28 = .ok (.return_, 1) := by decide +kernel
def cf_Reader_handOver_B2  (K2 : Int32 → Wd → Prop) (P : Wd → Prop) (x2 : Int32) (w : Wd) : Prop :=
  (((10 : Int32) ≤ x2 → P w) ∧ (¬ (10 : Int32) ≤ x2 → vp_in x2 10 ∧ cf_Store_write x2 (w.2 4 x2.toNatClampNeg) w (fun w1 => ∀ v2, v2 = x2 + (1 : Int32) → K2 v2 w1)))
def cf_Reader_handOver_L2   (P : Wd → Prop) : Nat → Int32 → Wd → Prop
  | 0 => fun x2 w => False
  | n + 1 => fun x2 w => cf_Reader_handOver_B2 (cf_Reader_handOver_L2 P n) P x2 w
def cf_Reader_handOver  (w : Wd) (P : Wd → Prop) : Prop :=
  ∃ n, cf_Reader_handOver_L2 P n (0 : Int32) w
theorem cf_Reader_handOver_B2_ok {g : ayG} {d : Nat} (hd : 2 ≤ d)   (w : Wd) (K2 : Int32 → Wd → Prop) (P : Wd → Prop) (Q : Option Value → Wd → Prop) (hQ : ∀ w2, P w2 → Q none w2) (hK2 : ∀ (x2 : Int32) (w : Wd), (K2 x2 w → wp g (fun _ => True) y_Reader_handOver prog_8_method_7_code 3 none d 2 [(0, .ref (g.1 + 1)), (1, .ref (g.1 + 6)), (2, .int x2)] [] w Q)) (x2 : Int32) (h : cf_Reader_handOver_B2 K2 P x2 w) : wp g (fun _ => True) y_Reader_handOver prog_8_method_7_code 3 none d 2 [(0, .ref (g.1 + 1)), (1, .ref (g.1 + 6)), (2, .int x2)] [] w Q := by
  unfold cf_Reader_handOver_B2 at h
  refine am_iload_n d_Reader_handOver_2 2 rfl ?_
  refine am_aload_n d_Reader_handOver_3 0 rfl ?_
  refine am_getf (T := F_Reader) (fs := ob_Reader g w 1) (C := R_Reader) (N := 8) (ci := 1) 1 d_Reader_handOver_4 wd_51 rfl (by decide) (el_Reader (show ay_sh 1 = _ from rfl)) rfl i_Reader (by decide) rfl ?_
  refine am_alen (v := 10) d_Reader_handOver_7 (show ay_sh 4 = _ from rfl) (by decide) rfl ?_
  refine am_icmp_ge (tgt := 28) d_Reader_handOver_8 (by decide) (fun c8 => ?_) (fun c8 => ?_)
  · have h := h.1 c8
    exact am_return d_Reader_handOver_28 rfl (hQ w h)
  · have h := h.2 c8
    refine am_aload_n d_Reader_handOver_11 1 rfl ?_
    refine am_iload_n d_Reader_handOver_12 2 rfl ?_
    refine am_aload_n d_Reader_handOver_13 0 rfl ?_
    refine am_getf (T := F_Reader) (fs := ob_Reader g w 1) (C := R_Reader) (N := 8) (ci := 1) 1 d_Reader_handOver_14 wd_51 rfl (by decide) (el_Reader (show ay_sh 1 = _ from rfl)) rfl i_Reader (by decide) rfl ?_
    refine am_iload_n d_Reader_handOver_17 2 rfl ?_
    have hi18 := h.1
    have h := h.2
    refine am_laload d_Reader_handOver_18 (show ay_sh 4 = _ from rfl) hi18 ?_
    refine am_callV (C := "TriSplits$Store") (d2 := d - 1) [.int x2, .long (w.2 4 x2.toNatClampNeg)] d_Reader_handOver_19 mi_Store_write wd_433 wd_434 wd_435 (by decide) (el_Store (show ay_sh 6 = _ from rfl)) rfl rfl (by omega) rfl rfl (Nat.le_of_ble_eq_true rfl) ?_
    refine Call.post ?_ (cf_Store_write_ok (by omega) x2 (w.2 4 x2.toNatClampNeg)  w _ h)
    rintro _ w1 ⟨rfl, h⟩
    show wp g (fun _ => True) y_Reader_handOver prog_8_method_7_code 3 none d 22 [(0, .ref (g.1 + 1)), (1, .ref (g.1 + 6)), (2, .int x2)] [] w1 Q
    obtain ⟨v2, ev2⟩ : ∃ z : Int32, z = x2 + (1 : Int32) := ⟨_, rfl⟩
    have h := h v2 ev2
    refine am_iinc (v := v2) (l' := [(2, .int v2), (0, .ref (g.1 + 1)), (1, .ref (g.1 + 6))]) d_Reader_handOver_22 2 rfl (by rw [ev2]; rfl) (by decide) rfl ?_
    refine am_goto (tgt := 2) d_Reader_handOver_25 (by decide) ?_
    refine am_sub [1, 2, 0] rfl ?_
    exact hK2 v2 w1 h
theorem cf_Reader_handOver_L2_ok {g : ayG} {d : Nat} (hd : 2 ≤ d)    (P : Wd → Prop) (Q : Option Value → Wd → Prop) (hQ : ∀ w2, P w2 → Q none w2)  : ∀ (n : Nat) (x2 : Int32) (w : Wd) (h : cf_Reader_handOver_L2 P n x2 w), wp g (fun _ => True) y_Reader_handOver prog_8_method_7_code 3 none d 2 [(0, .ref (g.1 + 1)), (1, .ref (g.1 + 6)), (2, .int x2)] [] w Q
  | 0, x2, w, h => False.elim h
  | n + 1, x2, w, h => cf_Reader_handOver_B2_ok hd   w (cf_Reader_handOver_L2 P n) P Q hQ (fun x2 w h => cf_Reader_handOver_L2_ok hd    P Q hQ  n x2 w h) x2 h
theorem cf_Reader_handOver_ok {g : ayG} {d : Nat} (hd : 2 ≤ d)   (w : Wd) (P : Wd → Prop) (h : cf_Reader_handOver w P) : Call g y_Reader_handOver prog_8_method_7_code 3 none d [.ref (g.1 + 1), .ref (g.1 + 6)] w (fun (r : Option Value) (w2 : Wd) => r = none ∧ P w2) := by
  unfold cf_Reader_handOver at h
  refine am_enter mi_Reader_handOver (Nat.le_of_ble_eq_true rfl) ?_
  have hQ : ∀ w2, P w2 → (fun (r : Option Value) (w2 : Wd) => r = none ∧ P w2) none w2 := fun w2 h => ⟨rfl, h⟩
  generalize (fun (r : Option Value) (w2 : Wd) => r = none ∧ P w2) = Q at hQ ⊢
  show wp g (fun _ => True) y_Reader_handOver prog_8_method_7_code 3 none d 0 [(0, .ref (g.1 + 1)), (1, .ref (g.1 + 6))] [] w Q
  refine am_iconst (v := 0) d_Reader_handOver_0 rfl ?_
  refine am_istore_n (l' := [(2, .int (0 : Int32)), (0, .ref (g.1 + 1)), (1, .ref (g.1 + 6))]) d_Reader_handOver_1 (by decide) rfl ?_
  refine am_sub [1, 2, 0] rfl ?_
  obtain ⟨n, h⟩ := h
  exact cf_Reader_handOver_L2_ok (by omega)    P Q hQ  n (0 : Int32) w h
