-- bytecode as predicates, by program (wip/whole/gen/extract.py)
theorem mi_Rows_multipleN : ay_MI y_Rows_multipleN prog_9_method_2_code 1 (some FieldType.int) 0 := ⟨wd_892, wd_9, by decide +kernel, by decide +kernel, by decide⟩
theorem mi_Rows_multipleK : ay_MI y_Rows_multipleK prog_9_method_3_code 1 (some FieldType.int) 0 := ⟨wd_896, wd_9, by decide +kernel, by decide +kernel, by decide⟩
theorem mi_Rows_append : ay_MI y_Rows_append prog_9_method_8_code 3 none 1 := ⟨wd_777, wd_9, by decide +kernel, by decide +kernel, by decide⟩
theorem mi_Rows_gatherDivisors : ay_MI y_Rows_gatherDivisors prog_9_method_4_code 5 (some FieldType.int) 1 := ⟨wd_773, wd_9, by decide +kernel, by decide +kernel, by decide⟩
theorem mi_Rows_countAlike : ay_MI y_Rows_countAlike prog_9_method_7_code 6 (some FieldType.int) 2 := ⟨wd_789, wd_9, by decide +kernel, by decide +kernel, by decide⟩
theorem mi_Rows_risingDivisor : ay_MI y_Rows_risingDivisor prog_9_method_5_code 7 (some FieldType.long) 1 := ⟨wd_785, wd_9, by decide +kernel, by decide +kernel, by decide⟩
theorem mi_Rows_findMultiple : ay_MI y_Rows_findMultiple prog_9_method_6_code 7 (some FieldType.boolean) 1 := ⟨wd_887, wd_9, by decide +kernel, by decide +kernel, by decide⟩
theorem d_Rows_multipleN_0 : decode prog_9_method_2_code 0 = .ok (.aload_n 0, 1) := by decide +kernel
theorem d_Rows_multipleN_1 : decode prog_9_method_2_code 1 = .ok (.getfield 13, 3) := by decide +kernel
theorem d_Rows_multipleN_4 : decode prog_9_method_2_code 4 = .ok (.ireturn, 1) := by decide +kernel
def cf_Rows_multipleN  (w : Wd) (P : Int32 → Prop) : Prop :=
  P (w.1 26 2)
theorem cf_Rows_multipleN_ok {g : ayG} {d : Nat} (hd : 0 ≤ d)   (w : Wd) (P : Int32 → Prop) (h : cf_Rows_multipleN w P) : Call g y_Rows_multipleN prog_9_method_2_code 1 (some FieldType.int) d [.ref (g.1 + 26)] w (fun (r : Option Value) (w2 : Wd) => ∃ x, r = some (.int x) ∧ w = w2 ∧ P x) := by
  unfold cf_Rows_multipleN at h
  refine am_enter mi_Rows_multipleN (Nat.le_of_ble_eq_true rfl) ?_
  have hQ : ∀ x, P x → (fun (r : Option Value) (w2 : Wd) => ∃ x, r = some (.int x) ∧ w = w2 ∧ P x) (some (.int x)) w := fun x h => ⟨x, rfl, rfl, h⟩
  generalize (fun (r : Option Value) (w2 : Wd) => ∃ x, r = some (.int x) ∧ w = w2 ∧ P x) = Q at hQ ⊢
  show wp g (fun _ => True) y_Rows_multipleN prog_9_method_2_code 1 (some FieldType.int) d 0 [(0, .ref (g.1 + 26))] [] w Q
  refine am_aload_n d_Rows_multipleN_0 0 rfl ?_
  refine am_getf (T := F_Rows) (fs := ob_Rows g w 26) (C := R_Rows) (N := 4) (ci := 8) 2 d_Rows_multipleN_1 wd_170 rfl (by decide) (el_Rows (show ay_sh 26 = _ from rfl)) rfl i_Rows (by decide) rfl ?_
  exact am_ireturn d_Rows_multipleN_4 rfl rfl (hQ (w.1 26 2) h)
theorem d_Rows_multipleK_0 : decode prog_9_method_3_code 0 = .ok (.aload_n 0, 1) := by decide +kernel
theorem d_Rows_multipleK_1 : decode prog_9_method_3_code 1 = .ok (.getfield 17, 3) := by decide +kernel
theorem d_Rows_multipleK_4 : decode prog_9_method_3_code 4 = .ok (.ireturn, 1) := by decide +kernel
def cf_Rows_multipleK  (w : Wd) (P : Int32 → Prop) : Prop :=
  P (w.1 26 3)
theorem cf_Rows_multipleK_ok {g : ayG} {d : Nat} (hd : 0 ≤ d)   (w : Wd) (P : Int32 → Prop) (h : cf_Rows_multipleK w P) : Call g y_Rows_multipleK prog_9_method_3_code 1 (some FieldType.int) d [.ref (g.1 + 26)] w (fun (r : Option Value) (w2 : Wd) => ∃ x, r = some (.int x) ∧ w = w2 ∧ P x) := by
  unfold cf_Rows_multipleK at h
  refine am_enter mi_Rows_multipleK (Nat.le_of_ble_eq_true rfl) ?_
  have hQ : ∀ x, P x → (fun (r : Option Value) (w2 : Wd) => ∃ x, r = some (.int x) ∧ w = w2 ∧ P x) (some (.int x)) w := fun x h => ⟨x, rfl, rfl, h⟩
  generalize (fun (r : Option Value) (w2 : Wd) => ∃ x, r = some (.int x) ∧ w = w2 ∧ P x) = Q at hQ ⊢
  show wp g (fun _ => True) y_Rows_multipleK prog_9_method_3_code 1 (some FieldType.int) d 0 [(0, .ref (g.1 + 26))] [] w Q
  refine am_aload_n d_Rows_multipleK_0 0 rfl ?_
  refine am_getf (T := F_Rows) (fs := ob_Rows g w 26) (C := R_Rows) (N := 4) (ci := 8) 3 d_Rows_multipleK_1 wd_171 rfl (by decide) (el_Rows (show ay_sh 26 = _ from rfl)) rfl i_Rows (by decide) rfl ?_
  exact am_ireturn d_Rows_multipleK_4 rfl rfl (hQ (w.1 26 3) h)
theorem d_Rows_append_0 : decode prog_9_method_8_code 0 = .ok (.aload_n 0, 1) := by decide +kernel
theorem d_Rows_append_1 : decode prog_9_method_8_code 1 = .ok (.getfield 20, 3) := by decide +kernel
theorem d_Rows_append_4 : decode prog_9_method_8_code 4 = .ok (.aload_n 0, 1) := by decide +kernel
theorem d_Rows_append_5 : decode prog_9_method_8_code 5 = .ok (.getfield 9, 3) := by decide +kernel
theorem d_Rows_append_8 : decode prog_9_method_8_code 8 = .ok (.arraylength, 1) := by decide +kernel
theorem d_Rows_append_9 : decode prog_9_method_8_code 9 = .ok (.if_icmp .ge 23, 3) := by decide +kernel
theorem d_Rows_append_12 : decode prog_9_method_8_code 12 = .ok (.aload_n 0, 1) := by decide +kernel
theorem d_Rows_append_13 : decode prog_9_method_8_code 13 = .ok (.getfield 9, 3) := by decide +kernel
theorem d_Rows_append_16 : decode prog_9_method_8_code 16 = .ok (.aload_n 0, 1) := by decide +kernel
theorem d_Rows_append_17 : decode prog_9_method_8_code 17 = .ok (.getfield 20, 3) := by decide +kernel
theorem d_Rows_append_20 : decode prog_9_method_8_code 20 = .ok (.lload_n 1, 1) := by decide +kernel
theorem d_Rows_append_21 : decode prog_9_method_8_code 21 = .ok (.lastore, 1) := by decide +kernel
theorem d_Rows_append_22 : decode prog_9_method_8_code 22 = .ok (.aload_n 0, 1) := by decide +kernel
theorem d_Rows_append_23 : decode prog_9_method_8_code 23 = .ok (.dup, 1) := by decide +kernel
theorem d_Rows_append_24 : decode prog_9_method_8_code 24 = .ok (.getfield 20, 3) := by decide +kernel
theorem d_Rows_append_27 : decode prog_9_method_8_code 27 = .ok (.iconst 1, 1) := by decide +kernel
theorem d_Rows_append_28 : decode prog_9_method_8_code 28 = .ok (.iadd, 1) := by decide +kernel
theorem d_Rows_append_29 : decode prog_9_method_8_code 29 = .ok (.putfield 20, 3) := by decide +kernel
theorem d_Rows_append_32 : decode prog_9_method_8_code 32 = .ok (.return_, 1) := by decide +kernel
def cf_Rows_append (a0 : Int64) (w : Wd) (P : Wd → Prop) : Prop :=
  (((2880 : Int32) ≤ (w.1 26 1) → P w) ∧ (¬ (2880 : Int32) ≤ (w.1 26 1) → vp_in (w.1 26 1) 2880 ∧ ∀ w1, w1 = wL w 27 (w.1 26 1).toNatClampNeg a0 → ∀ w2, w2 = wI w1 26 1 ((w1.1 26 1) + (1 : Int32)) → P w2))
theorem cf_Rows_append_ok {g : ayG} {d : Nat} (hd : 0 ≤ d) (a0 : Int64)  (w : Wd) (P : Wd → Prop) (h : cf_Rows_append a0 w P) : Call g y_Rows_append prog_9_method_8_code 3 none d [.ref (g.1 + 26), .long a0] w (fun (r : Option Value) (w2 : Wd) => r = none ∧ P w2) := by
  unfold cf_Rows_append at h
  refine am_enter mi_Rows_append (Nat.le_of_ble_eq_true rfl) ?_
  have hQ : ∀ w2, P w2 → (fun (r : Option Value) (w2 : Wd) => r = none ∧ P w2) none w2 := fun w2 h => ⟨rfl, h⟩
  generalize (fun (r : Option Value) (w2 : Wd) => r = none ∧ P w2) = Q at hQ ⊢
  show wp g (fun _ => True) y_Rows_append prog_9_method_8_code 3 none d 0 [(0, .ref (g.1 + 26)), (1, .long a0)] [] w Q
  refine am_aload_n d_Rows_append_0 0 rfl ?_
  refine am_getf (T := F_Rows) (fs := ob_Rows g w 26) (C := R_Rows) (N := 4) (ci := 8) 1 d_Rows_append_1 wd_169 rfl (by decide) (el_Rows (show ay_sh 26 = _ from rfl)) rfl i_Rows (by decide) rfl ?_
  refine am_aload_n d_Rows_append_4 0 rfl ?_
  refine am_getf (T := F_Rows) (fs := ob_Rows g w 26) (C := R_Rows) (N := 4) (ci := 8) 0 d_Rows_append_5 wd_168 rfl (by decide) (el_Rows (show ay_sh 26 = _ from rfl)) rfl i_Rows (by decide) rfl ?_
  refine am_alen (v := 2880) d_Rows_append_8 (show ay_sh 27 = _ from rfl) (by decide) rfl ?_
  refine am_icmp_ge (tgt := 32) d_Rows_append_9 (by decide) (fun c9 => ?_) (fun c9 => ?_)
  · have h := h.1 c9
    exact am_return d_Rows_append_32 rfl (hQ w h)
  · have h := h.2 c9
    refine am_aload_n d_Rows_append_12 0 rfl ?_
    refine am_getf (T := F_Rows) (fs := ob_Rows g w 26) (C := R_Rows) (N := 4) (ci := 8) 0 d_Rows_append_13 wd_168 rfl (by decide) (el_Rows (show ay_sh 26 = _ from rfl)) rfl i_Rows (by decide) rfl ?_
    refine am_aload_n d_Rows_append_16 0 rfl ?_
    refine am_getf (T := F_Rows) (fs := ob_Rows g w 26) (C := R_Rows) (N := 4) (ci := 8) 1 d_Rows_append_17 wd_169 rfl (by decide) (el_Rows (show ay_sh 26 = _ from rfl)) rfl i_Rows (by decide) rfl ?_
    refine am_lload_n d_Rows_append_20 1 rfl ?_
    have hi21 := h.1
    have h := h.2
    refine am_lastore d_Rows_append_21 (show ay_sh 27 = _ from rfl) hi21 ?_
    obtain ⟨w1, ew1⟩ : ∃ z, z = wL w 27 (w.1 26 1).toNatClampNeg a0 := ⟨_, rfl⟩
    rw [← ew1]
    have h := h w1 ew1
    refine am_aload_n d_Rows_append_22 0 rfl ?_
    refine am_dup d_Rows_append_23 rfl ?_
    refine am_getf (T := F_Rows) (fs := ob_Rows g w1 26) (C := R_Rows) (N := 4) (ci := 8) 1 d_Rows_append_24 wd_169 rfl (by decide) (el_Rows (show ay_sh 26 = _ from rfl)) rfl i_Rows (by decide) rfl ?_
    refine am_iconst (v := 1) d_Rows_append_27 rfl ?_
    refine am_iadd d_Rows_append_28 ?_
    refine am_putf (w' := wI w1 26 1 ((w1.1 26 1) + (1 : Int32))) (ty := .int) (T := F_Rows) (fs := ob_Rows g w1 26) (C := R_Rows) (N := 4) (ci := 8) 1 d_Rows_append_29 wd_169 rfl (by decide) (el_Rows (show ay_sh 26 = _ from rfl)) rfl i_Rows (by decide) G_Rows ty_Rows n_Rows rfl (ty_Rows 1 (by decide)) rfl rfl (Nat.le_of_ble_eq_true rfl) ((el_Rows (show ay_sh 26 = _ from rfl)).trans (by rw [pf_Rows_many])) wI_o ?_
    obtain ⟨w2, ew2⟩ : ∃ z, z = wI w1 26 1 ((w1.1 26 1) + (1 : Int32)) := ⟨_, rfl⟩
    rw [← ew2]
    have h := h w2 ew2
    exact am_return d_Rows_append_32 rfl (hQ w2 h)
theorem d_Rows_gatherDivisors_0 : decode prog_9_method_4_code 0 = .ok (.aload_n 0, 1) := by decide +kernel
theorem d_Rows_gatherDivisors_1 : decode prog_9_method_4_code 1 = .ok (.iconst 0, 1) := by decide +kernel
theorem d_Rows_gatherDivisors_2 : decode prog_9_method_4_code 2 = .ok (.putfield 20, 3) := by decide +kernel
theorem d_Rows_gatherDivisors_5 : decode prog_9_method_4_code 5 = .ok (.aload_n 0, 1) := by decide +kernel
theorem d_Rows_gatherDivisors_6 : decode prog_9_method_4_code 6 = .ok (.lconst 1, 1) := by decide +kernel
theorem d_Rows_gatherDivisors_7 : decode prog_9_method_4_code 7 = .ok (.invokevirtual 23, 3) := by decide +kernel
theorem d_Rows_gatherDivisors_10 : decode prog_9_method_4_code 10 = .ok (.iconst 0, 1) := by decide +kernel
theorem d_Rows_gatherDivisors_11 : decode prog_9_method_4_code 11 = .ok (.istore_n 2, 1) := by decide +kernel
theorem d_Rows_gatherDivisors_12 : decode prog_9_method_4_code 12 = .ok (.iload_n 2, 1) := by decide +kernel
theorem d_Rows_gatherDivisors_13 : decode prog_9_method_4_code 13 = .ok (.aload_n 1, 1) := by decide +kernel
theorem d_Rows_gatherDivisors_14 : decode prog_9_method_4_code 14 = .ok (.invokevirtual 27, 3) := by decide +kernel
theorem d_Rows_gatherDivisors_17 : decode prog_9_method_4_code 17 = .ok (.if_icmp .ge 64, 3) := by decide +kernel
theorem d_Rows_gatherDivisors_20 : decode prog_9_method_4_code 20 = .ok (.aload_n 0, 1) := by decide +kernel
theorem d_Rows_gatherDivisors_21 : decode prog_9_method_4_code 21 = .ok (.getfield 20, 3) := by decide +kernel
theorem d_Rows_gatherDivisors_24 : decode prog_9_method_4_code 24 = .ok (.istore_n 3, 1) := by decide +kernel
theorem d_Rows_gatherDivisors_25 : decode prog_9_method_4_code 25 = .ok (.iconst 0, 1) := by decide +kernel
theorem d_Rows_gatherDivisors_26 : decode prog_9_method_4_code 26 = .ok (.istore 4, 2) := by decide +kernel
theorem d_Rows_gatherDivisors_28 : decode prog_9_method_4_code 28 = .ok (.iload 4, 2) := by decide +kernel
theorem d_Rows_gatherDivisors_30 : decode prog_9_method_4_code 30 = .ok (.iload_n 3, 1) := by decide +kernel
theorem d_Rows_gatherDivisors_31 : decode prog_9_method_4_code 31 = .ok (.aload_n 1, 1) := by decide +kernel
theorem d_Rows_gatherDivisors_32 : decode prog_9_method_4_code 32 = .ok (.iload_n 2, 1) := by decide +kernel
theorem d_Rows_gatherDivisors_33 : decode prog_9_method_4_code 33 = .ok (.invokevirtual 33, 3) := by decide +kernel
theorem d_Rows_gatherDivisors_36 : decode prog_9_method_4_code 36 = .ok (.imul, 1) := by decide +kernel
theorem d_Rows_gatherDivisors_37 : decode prog_9_method_4_code 37 = .ok (.if_icmp .ge 38, 3) := by decide +kernel
theorem d_Rows_gatherDivisors_40 : decode prog_9_method_4_code 40 = .ok (.iload 4, 2) := by decide +kernel
theorem d_Rows_gatherDivisors_42 : decode prog_9_method_4_code 42 = .ok (.aload_n 0, 1) := by decide +kernel
theorem d_Rows_gatherDivisors_43 : decode prog_9_method_4_code 43 = .ok (.getfield 9, 3) := by decide +kernel
theorem d_Rows_gatherDivisors_46 : decode prog_9_method_4_code 46 = .ok (.arraylength, 1) := by decide +kernel
theorem d_Rows_gatherDivisors_47 : decode prog_9_method_4_code 47 = .ok (.if_icmp .ge 28, 3) := by decide +kernel
theorem d_Rows_gatherDivisors_50 : decode prog_9_method_4_code 50 = .ok (.aload_n 0, 1) := by decide +kernel
theorem d_Rows_gatherDivisors_51 : decode prog_9_method_4_code 51 = .ok (.aload_n 0, 1) := by decide +kernel
theorem d_Rows_gatherDivisors_52 : decode prog_9_method_4_code 52 = .ok (.getfield 9, 3) := by decide +kernel
theorem d_Rows_gatherDivisors_55 : decode prog_9_method_4_code 55 = .ok (.iload 4, 2) := by decide +kernel
theorem d_Rows_gatherDivisors_57 : decode prog_9_method_4_code 57 = .ok (.laload, 1) := by decide +kernel
theorem d_Rows_gatherDivisors_58 : decode prog_9_method_4_code 58 = .ok (.aload_n 1, 1) := by decide +kernel
theorem d_Rows_gatherDivisors_59 : decode prog_9_method_4_code 59 = .ok (.iload_n 2, 1) := by decide +kernel
theorem d_Rows_gatherDivisors_60 : decode prog_9_method_4_code 60 = .ok (.invokevirtual 37, 3) := by decide +kernel
theorem d_Rows_gatherDivisors_63 : decode prog_9_method_4_code 63 = .ok (.invokestatic 41, 3) := by decide +kernel
theorem d_Rows_gatherDivisors_66 : decode prog_9_method_4_code 66 = .ok (.invokevirtual 23, 3) := by decide +kernel
theorem d_Rows_gatherDivisors_69 : decode prog_9_method_4_code 69 = .ok (.iinc 4 1, 3) := by decide +kernel
theorem d_Rows_gatherDivisors_72 : decode prog_9_method_4_code 72 = .ok (.goto (-44), 3) := by decide +kernel
theorem d_Rows_gatherDivisors_75 : decode prog_9_method_4_code 75 = .ok (.iinc 2 1, 3) := by decide +kernel
theorem d_Rows_gatherDivisors_78 : decode prog_9_method_4_code 78 = .ok (.goto (-66), 3) := by decide +kernel
theorem d_Rows_gatherDivisors_81 : decode prog_9_method_4_code 81 = .ok (.aload_n 0, 1) := by decide +kernel
theorem d_Rows_gatherDivisors_82 : decode prog_9_method_4_code 82 = .ok (.getfield 20, 3) := by decide +kernel
theorem d_Rows_gatherDivisors_85 : decode prog_9_method_4_code 85 = .ok (.ireturn, 1) := by decide +kernel
def cf_Rows_gatherDivisors_B28 (c0 : Nat) (K12 : Int32 → Wd → Prop) (K28 : Int32 → Int32 → Int32 → Wd → Prop) (P : Int32 → Wd → Prop) (x2 : Int32) (x3 : Int32) (x4 : Int32) (w : Wd) : Prop :=
  cf_Factors_often c0 x2 w (fun r5 => (((x3 * r5) ≤ x4 → ∀ v6, v6 = x2 + (1 : Int32) → K12 v6 w) ∧ (¬ (x3 * r5) ≤ x4 → (((2880 : Int32) ≤ x4 → ∀ v7, v7 = x2 + (1 : Int32) → K12 v7 w) ∧ (¬ (2880 : Int32) ≤ x4 → vp_in x4 2880 ∧ cf_Factors_base c0 x2 w (fun r8 => cf_Polys_product (w.2 27 x4.toNatClampNeg) r8 (fun r9 => cf_Rows_append r9 w (fun w10 => ∀ v11, v11 = x4 + (1 : Int32) → K28 x2 x3 v11 w10))))))))
def cf_Rows_gatherDivisors_L28 (c0 : Nat) (K12 : Int32 → Wd → Prop) (P : Int32 → Wd → Prop) : Nat → Int32 → Int32 → Int32 → Wd → Prop
  | 0 => fun x2 x3 x4 w => False
  | n + 1 => fun x2 x3 x4 w => cf_Rows_gatherDivisors_B28 c0 K12 (cf_Rows_gatherDivisors_L28 c0 K12 P n) P x2 x3 x4 w
def cf_Rows_gatherDivisors_B12 (c0 : Nat) (K12 : Int32 → Wd → Prop) (P : Int32 → Wd → Prop) (x2 : Int32) (w : Wd) : Prop :=
  cf_Factors_unlike c0 w (fun r3 => ((r3 ≤ x2 → P (w.1 26 1) w) ∧ (¬ r3 ≤ x2 → ∀ v4, v4 = w.1 26 1 → ∃ n, cf_Rows_gatherDivisors_L28 c0 K12 P n x2 v4 (0 : Int32) w)))
def cf_Rows_gatherDivisors_L12 (c0 : Nat)  (P : Int32 → Wd → Prop) : Nat → Int32 → Wd → Prop
  | 0 => fun x2 w => False
  | n + 1 => fun x2 w => cf_Rows_gatherDivisors_B12 c0 (cf_Rows_gatherDivisors_L12 c0 P n) P x2 w
def cf_Rows_gatherDivisors (c0 : Nat) (w : Wd) (P : Int32 → Wd → Prop) : Prop :=
  ∀ w1, w1 = wI w 26 1 (0 : Int32) → cf_Rows_append (1 : Int64) w1 (fun w2 => ∃ n, cf_Rows_gatherDivisors_L12 c0 P n (0 : Int32) w2)
theorem cf_Rows_gatherDivisors_B28_ok {g : ayG} {d : Nat} (hd : 3 ≤ d) (c0 : Nat) (hc0 : ay_sh c0 = (14, 0)) (w : Wd) (K12 : Int32 → Wd → Prop) (K28 : Int32 → Int32 → Int32 → Wd → Prop) (P : Int32 → Wd → Prop) (Q : Option Value → Wd → Prop) (hQ : ∀ x w2, P x w2 → Q (some (.int x)) w2) (hK12 : ∀ (x2 : Int32) (w : Wd), (K12 x2 w → wp g (fun _ => True) y_Rows_gatherDivisors prog_9_method_4_code 5 (some FieldType.int) d 12 [(0, .ref (g.1 + 26)), (1, .ref (g.1 + c0)), (2, .int x2)] [] w Q)) (hK28 : ∀ (x2 : Int32) (x3 : Int32) (x4 : Int32) (w : Wd), (K28 x2 x3 x4 w → wp g (fun _ => True) y_Rows_gatherDivisors prog_9_method_4_code 5 (some FieldType.int) d 28 [(0, .ref (g.1 + 26)), (1, .ref (g.1 + c0)), (2, .int x2), (3, .int x3), (4, .int x4)] [] w Q)) (x2 : Int32) (x3 : Int32) (x4 : Int32) (h : cf_Rows_gatherDivisors_B28 c0 K12 K28 P x2 x3 x4 w) : wp g (fun _ => True) y_Rows_gatherDivisors prog_9_method_4_code 5 (some FieldType.int) d 28 [(0, .ref (g.1 + 26)), (1, .ref (g.1 + c0)), (2, .int x2), (3, .int x3), (4, .int x4)] [] w Q := by
  unfold cf_Rows_gatherDivisors_B28 at h
  refine am_iload d_Rows_gatherDivisors_28 4 rfl ?_
  refine am_iload_n d_Rows_gatherDivisors_30 3 rfl ?_
  refine am_aload_n d_Rows_gatherDivisors_31 1 rfl ?_
  refine am_iload_n d_Rows_gatherDivisors_32 2 rfl ?_
  refine am_callV (C := "TriSplits$Factors") (d2 := d - 1) [.int x2] d_Rows_gatherDivisors_33 mi_Factors_often wd_779 wd_733 wd_734 (ay_shlt hc0 (by decide)) (el_Factors hc0) rfl rfl (by omega) rfl rfl (Nat.le_of_ble_eq_true rfl) ?_
  refine Call.post ?_ (cf_Factors_often_ok (by omega) c0 x2 hc0 w _ h)
  rintro _ _ ⟨r5, rfl, rfl, h⟩
  show wp g (fun _ => True) y_Rows_gatherDivisors prog_9_method_4_code 5 (some FieldType.int) d 36 [(0, .ref (g.1 + 26)), (1, .ref (g.1 + c0)), (2, .int x2), (3, .int x3), (4, .int x4)] [.int r5, .int x3, .int x4] w Q
  refine am_imul d_Rows_gatherDivisors_36 ?_
  refine am_icmp_ge (tgt := 75) d_Rows_gatherDivisors_37 (by decide) (fun c37 => ?_) (fun c37 => ?_)
  · have h := h.1 c37
    obtain ⟨v6, ev6⟩ : ∃ z : Int32, z = x2 + (1 : Int32) := ⟨_, rfl⟩
    have h := h v6 ev6
    refine am_iinc (v := v6) (l' := [(2, .int v6), (0, .ref (g.1 + 26)), (1, .ref (g.1 + c0)), (3, .int x3), (4, .int x4)]) d_Rows_gatherDivisors_75 2 rfl (by rw [ev6]; rfl) (by decide) rfl ?_
    refine am_goto (tgt := 12) d_Rows_gatherDivisors_78 (by decide) ?_
    refine am_sub [1, 2, 0] rfl ?_
    exact hK12 v6 w h
  · have h := h.2 c37
    refine am_iload d_Rows_gatherDivisors_40 4 rfl ?_
    refine am_aload_n d_Rows_gatherDivisors_42 0 rfl ?_
    refine am_getf (T := F_Rows) (fs := ob_Rows g w 26) (C := R_Rows) (N := 4) (ci := 8) 0 d_Rows_gatherDivisors_43 wd_168 rfl (by decide) (el_Rows (show ay_sh 26 = _ from rfl)) rfl i_Rows (by decide) rfl ?_
    refine am_alen (v := 2880) d_Rows_gatherDivisors_46 (show ay_sh 27 = _ from rfl) (by decide) rfl ?_
    refine am_icmp_ge (tgt := 75) d_Rows_gatherDivisors_47 (by decide) (fun c47 => ?_) (fun c47 => ?_)
    · have h := h.1 c47
      obtain ⟨v7, ev7⟩ : ∃ z : Int32, z = x2 + (1 : Int32) := ⟨_, rfl⟩
      have h := h v7 ev7
      refine am_iinc (v := v7) (l' := [(2, .int v7), (0, .ref (g.1 + 26)), (1, .ref (g.1 + c0)), (3, .int x3), (4, .int x4)]) d_Rows_gatherDivisors_75 2 rfl (by rw [ev7]; rfl) (by decide) rfl ?_
      refine am_goto (tgt := 12) d_Rows_gatherDivisors_78 (by decide) ?_
      refine am_sub [1, 2, 0] rfl ?_
      exact hK12 v7 w h
    · have h := h.2 c47
      refine am_aload_n d_Rows_gatherDivisors_50 0 rfl ?_
      refine am_aload_n d_Rows_gatherDivisors_51 0 rfl ?_
      refine am_getf (T := F_Rows) (fs := ob_Rows g w 26) (C := R_Rows) (N := 4) (ci := 8) 0 d_Rows_gatherDivisors_52 wd_168 rfl (by decide) (el_Rows (show ay_sh 26 = _ from rfl)) rfl i_Rows (by decide) rfl ?_
      refine am_iload d_Rows_gatherDivisors_55 4 rfl ?_
      have hi57 := h.1
      have h := h.2
      refine am_laload d_Rows_gatherDivisors_57 (show ay_sh 27 = _ from rfl) hi57 ?_
      refine am_aload_n d_Rows_gatherDivisors_58 1 rfl ?_
      refine am_iload_n d_Rows_gatherDivisors_59 2 rfl ?_
      refine am_callV (C := "TriSplits$Factors") (d2 := d - 1) [.int x2] d_Rows_gatherDivisors_60 mi_Factors_base wd_780 wd_721 wd_722 (ay_shlt hc0 (by decide)) (el_Factors hc0) rfl rfl (by omega) rfl rfl (Nat.le_of_ble_eq_true rfl) ?_
      refine Call.post ?_ (cf_Factors_base_ok (by omega) c0 x2 hc0 w _ h)
      rintro _ _ ⟨r8, rfl, rfl, h⟩
      show wp g (fun _ => True) y_Rows_gatherDivisors prog_9_method_4_code 5 (some FieldType.int) d 63 [(0, .ref (g.1 + 26)), (1, .ref (g.1 + c0)), (2, .int x2), (3, .int x3), (4, .int x4)] [.long r8, .long (w.2 27 x4.toNatClampNeg), .ref (g.1 + 26)] w Q
      refine am_callS (d2 := d - 1) [.long (w.2 27 x4.toNatClampNeg), .long r8] d_Rows_gatherDivisors_63 mi_Polys_product wd_781 wd_407 (by omega) rfl rfl (Nat.le_of_ble_eq_true rfl) ?_
      refine Call.post ?_ (cf_Polys_product_ok (by omega) (w.2 27 x4.toNatClampNeg) r8  w _ h)
      rintro _ _ ⟨r9, rfl, rfl, h⟩
      show wp g (fun _ => True) y_Rows_gatherDivisors prog_9_method_4_code 5 (some FieldType.int) d 66 [(0, .ref (g.1 + 26)), (1, .ref (g.1 + c0)), (2, .int x2), (3, .int x3), (4, .int x4)] [.long r9, .ref (g.1 + 26)] w Q
      refine am_callV (C := y_Rows_append.cls) (d2 := d - 1) [.long r9] d_Rows_gatherDivisors_66 mi_Rows_append wd_774 wd_776 ws_Rows_append (by decide) (el_Rows (show ay_sh 26 = _ from rfl)) rfl rfl (by omega) rfl rfl (Nat.le_of_ble_eq_true rfl) ?_
      refine Call.post ?_ (cf_Rows_append_ok (by omega) r9  w _ h)
      rintro _ w10 ⟨rfl, h⟩
      show wp g (fun _ => True) y_Rows_gatherDivisors prog_9_method_4_code 5 (some FieldType.int) d 69 [(0, .ref (g.1 + 26)), (1, .ref (g.1 + c0)), (2, .int x2), (3, .int x3), (4, .int x4)] [] w10 Q
      obtain ⟨v11, ev11⟩ : ∃ z : Int32, z = x4 + (1 : Int32) := ⟨_, rfl⟩
      have h := h v11 ev11
      refine am_iinc (v := v11) (l' := [(4, .int v11), (0, .ref (g.1 + 26)), (1, .ref (g.1 + c0)), (2, .int x2), (3, .int x3)]) d_Rows_gatherDivisors_69 4 rfl (by rw [ev11]; rfl) (by decide) rfl ?_
      refine am_goto (tgt := 28) d_Rows_gatherDivisors_72 (by decide) ?_
      refine am_sub [1, 2, 3, 4, 0] rfl ?_
      exact hK28 x2 x3 v11 w10 h
theorem cf_Rows_gatherDivisors_L28_ok {g : ayG} {d : Nat} (hd : 3 ≤ d) (c0 : Nat) (hc0 : ay_sh c0 = (14, 0)) (K12 : Int32 → Wd → Prop) (P : Int32 → Wd → Prop) (Q : Option Value → Wd → Prop) (hQ : ∀ x w2, P x w2 → Q (some (.int x)) w2) (hK12 : ∀ (x2 : Int32) (w : Wd), (K12 x2 w → wp g (fun _ => True) y_Rows_gatherDivisors prog_9_method_4_code 5 (some FieldType.int) d 12 [(0, .ref (g.1 + 26)), (1, .ref (g.1 + c0)), (2, .int x2)] [] w Q)) : ∀ (n : Nat) (x2 : Int32) (x3 : Int32) (x4 : Int32) (w : Wd) (h : cf_Rows_gatherDivisors_L28 c0 K12 P n x2 x3 x4 w), wp g (fun _ => True) y_Rows_gatherDivisors prog_9_method_4_code 5 (some FieldType.int) d 28 [(0, .ref (g.1 + 26)), (1, .ref (g.1 + c0)), (2, .int x2), (3, .int x3), (4, .int x4)] [] w Q
  | 0, x2, x3, x4, w, h => False.elim h
  | n + 1, x2, x3, x4, w, h => cf_Rows_gatherDivisors_B28_ok hd c0 hc0 w K12 (cf_Rows_gatherDivisors_L28 c0 K12 P n) P Q hQ hK12 (fun x2 x3 x4 w h => cf_Rows_gatherDivisors_L28_ok hd c0 hc0 K12 P Q hQ hK12 n x2 x3 x4 w h) x2 x3 x4 h
theorem cf_Rows_gatherDivisors_B12_ok {g : ayG} {d : Nat} (hd : 3 ≤ d) (c0 : Nat) (hc0 : ay_sh c0 = (14, 0)) (w : Wd) (K12 : Int32 → Wd → Prop) (P : Int32 → Wd → Prop) (Q : Option Value → Wd → Prop) (hQ : ∀ x w2, P x w2 → Q (some (.int x)) w2) (hK12 : ∀ (x2 : Int32) (w : Wd), (K12 x2 w → wp g (fun _ => True) y_Rows_gatherDivisors prog_9_method_4_code 5 (some FieldType.int) d 12 [(0, .ref (g.1 + 26)), (1, .ref (g.1 + c0)), (2, .int x2)] [] w Q)) (x2 : Int32) (h : cf_Rows_gatherDivisors_B12 c0 K12 P x2 w) : wp g (fun _ => True) y_Rows_gatherDivisors prog_9_method_4_code 5 (some FieldType.int) d 12 [(0, .ref (g.1 + 26)), (1, .ref (g.1 + c0)), (2, .int x2)] [] w Q := by
  unfold cf_Rows_gatherDivisors_B12 at h
  refine am_iload_n d_Rows_gatherDivisors_12 2 rfl ?_
  refine am_aload_n d_Rows_gatherDivisors_13 1 rfl ?_
  refine am_callV (C := "TriSplits$Factors") (d2 := d - 1) [] d_Rows_gatherDivisors_14 mi_Factors_unlike wd_778 wd_713 wd_714 (ay_shlt hc0 (by decide)) (el_Factors hc0) rfl rfl (by omega) rfl rfl (Nat.le_of_ble_eq_true rfl) ?_
  refine Call.post ?_ (cf_Factors_unlike_ok (by omega) c0 hc0 w _ h)
  rintro _ _ ⟨r3, rfl, rfl, h⟩
  show wp g (fun _ => True) y_Rows_gatherDivisors prog_9_method_4_code 5 (some FieldType.int) d 17 [(0, .ref (g.1 + 26)), (1, .ref (g.1 + c0)), (2, .int x2)] [.int r3, .int x2] w Q
  refine am_icmp_ge (tgt := 81) d_Rows_gatherDivisors_17 (by decide) (fun c17 => ?_) (fun c17 => ?_)
  · have h := h.1 c17
    refine am_aload_n d_Rows_gatherDivisors_81 0 rfl ?_
    refine am_getf (T := F_Rows) (fs := ob_Rows g w 26) (C := R_Rows) (N := 4) (ci := 8) 1 d_Rows_gatherDivisors_82 wd_169 rfl (by decide) (el_Rows (show ay_sh 26 = _ from rfl)) rfl i_Rows (by decide) rfl ?_
    exact am_ireturn d_Rows_gatherDivisors_85 rfl rfl (hQ (w.1 26 1) w h)
  · have h := h.2 c17
    refine am_aload_n d_Rows_gatherDivisors_20 0 rfl ?_
    refine am_getf (T := F_Rows) (fs := ob_Rows g w 26) (C := R_Rows) (N := 4) (ci := 8) 1 d_Rows_gatherDivisors_21 wd_169 rfl (by decide) (el_Rows (show ay_sh 26 = _ from rfl)) rfl i_Rows (by decide) rfl ?_
    refine am_topi (fun v4 ev4 => ?_)
    have h := h v4 ev4
    refine am_istore_n (l' := [(3, .int v4), (0, .ref (g.1 + 26)), (1, .ref (g.1 + c0)), (2, .int x2)]) d_Rows_gatherDivisors_24 (by decide) rfl ?_
    refine am_iconst (v := 0) d_Rows_gatherDivisors_25 rfl ?_
    refine am_istore (l' := [(4, .int (0 : Int32)), (3, .int v4), (0, .ref (g.1 + 26)), (1, .ref (g.1 + c0)), (2, .int x2)]) d_Rows_gatherDivisors_26 (by decide) rfl ?_
    refine am_sub [2, 3, 4, 1, 0] rfl ?_
    obtain ⟨n, h⟩ := h
    exact cf_Rows_gatherDivisors_L28_ok (by omega) c0 hc0 K12 P Q hQ hK12 n x2 v4 (0 : Int32) w h
theorem cf_Rows_gatherDivisors_L12_ok {g : ayG} {d : Nat} (hd : 3 ≤ d) (c0 : Nat) (hc0 : ay_sh c0 = (14, 0))  (P : Int32 → Wd → Prop) (Q : Option Value → Wd → Prop) (hQ : ∀ x w2, P x w2 → Q (some (.int x)) w2)  : ∀ (n : Nat) (x2 : Int32) (w : Wd) (h : cf_Rows_gatherDivisors_L12 c0 P n x2 w), wp g (fun _ => True) y_Rows_gatherDivisors prog_9_method_4_code 5 (some FieldType.int) d 12 [(0, .ref (g.1 + 26)), (1, .ref (g.1 + c0)), (2, .int x2)] [] w Q
  | 0, x2, w, h => False.elim h
  | n + 1, x2, w, h => cf_Rows_gatherDivisors_B12_ok hd c0 hc0 w (cf_Rows_gatherDivisors_L12 c0 P n) P Q hQ (fun x2 w h => cf_Rows_gatherDivisors_L12_ok hd c0 hc0  P Q hQ  n x2 w h) x2 h
theorem cf_Rows_gatherDivisors_ok {g : ayG} {d : Nat} (hd : 3 ≤ d) (c0 : Nat) (hc0 : ay_sh c0 = (14, 0)) (w : Wd) (P : Int32 → Wd → Prop) (h : cf_Rows_gatherDivisors c0 w P) : Call g y_Rows_gatherDivisors prog_9_method_4_code 5 (some FieldType.int) d [.ref (g.1 + 26), .ref (g.1 + c0)] w (fun (r : Option Value) (w2 : Wd) => ∃ x, r = some (.int x) ∧ P x w2) := by
  unfold cf_Rows_gatherDivisors at h
  refine am_enter mi_Rows_gatherDivisors (Nat.le_of_ble_eq_true rfl) ?_
  have hQ : ∀ x w2, P x w2 → (fun (r : Option Value) (w2 : Wd) => ∃ x, r = some (.int x) ∧ P x w2) (some (.int x)) w2 := fun x w2 h => ⟨x, rfl, h⟩
  generalize (fun (r : Option Value) (w2 : Wd) => ∃ x, r = some (.int x) ∧ P x w2) = Q at hQ ⊢
  show wp g (fun _ => True) y_Rows_gatherDivisors prog_9_method_4_code 5 (some FieldType.int) d 0 [(0, .ref (g.1 + 26)), (1, .ref (g.1 + c0))] [] w Q
  refine am_aload_n d_Rows_gatherDivisors_0 0 rfl ?_
  refine am_iconst (v := 0) d_Rows_gatherDivisors_1 rfl ?_
  refine am_putf (w' := wI w 26 1 (0 : Int32)) (ty := .int) (T := F_Rows) (fs := ob_Rows g w 26) (C := R_Rows) (N := 4) (ci := 8) 1 d_Rows_gatherDivisors_2 wd_169 rfl (by decide) (el_Rows (show ay_sh 26 = _ from rfl)) rfl i_Rows (by decide) G_Rows ty_Rows n_Rows rfl (ty_Rows 1 (by decide)) rfl rfl (Nat.le_of_ble_eq_true rfl) ((el_Rows (show ay_sh 26 = _ from rfl)).trans (by rw [pf_Rows_many])) wI_o ?_
  obtain ⟨w1, ew1⟩ : ∃ z, z = wI w 26 1 (0 : Int32) := ⟨_, rfl⟩
  rw [← ew1]
  have h := h w1 ew1
  refine am_aload_n d_Rows_gatherDivisors_5 0 rfl ?_
  refine am_lconst (v := 1) d_Rows_gatherDivisors_6 rfl ?_
  refine am_callV (C := y_Rows_append.cls) (d2 := d - 1) [.long (1 : Int64)] d_Rows_gatherDivisors_7 mi_Rows_append wd_774 wd_776 ws_Rows_append (by decide) (el_Rows (show ay_sh 26 = _ from rfl)) rfl rfl (by omega) rfl rfl (Nat.le_of_ble_eq_true rfl) ?_
  refine Call.post ?_ (cf_Rows_append_ok (by omega) (1 : Int64)  w1 _ h)
  rintro _ w2 ⟨rfl, h⟩
  show wp g (fun _ => True) y_Rows_gatherDivisors prog_9_method_4_code 5 (some FieldType.int) d 10 [(0, .ref (g.1 + 26)), (1, .ref (g.1 + c0))] [] w2 Q
  refine am_iconst (v := 0) d_Rows_gatherDivisors_10 rfl ?_
  refine am_istore_n (l' := [(2, .int (0 : Int32)), (0, .ref (g.1 + 26)), (1, .ref (g.1 + c0))]) d_Rows_gatherDivisors_11 (by decide) rfl ?_
  refine am_sub [1, 2, 0] rfl ?_
  obtain ⟨n, h⟩ := h
  exact cf_Rows_gatherDivisors_L12_ok (by omega) c0 hc0  P Q hQ  n (0 : Int32) w2 h
theorem d_Rows_countAlike_0 : decode prog_9_method_7_code 0 = .ok (.iconst 0, 1) := by decide +kernel
theorem d_Rows_countAlike_1 : decode prog_9_method_7_code 1 = .ok (.istore 4, 2) := by decide +kernel
theorem d_Rows_countAlike_3 : decode prog_9_method_7_code 3 = .ok (.iconst 0, 1) := by decide +kernel
theorem d_Rows_countAlike_4 : decode prog_9_method_7_code 4 = .ok (.istore 5, 2) := by decide +kernel
theorem d_Rows_countAlike_6 : decode prog_9_method_7_code 6 = .ok (.iload 5, 2) := by decide +kernel
theorem d_Rows_countAlike_8 : decode prog_9_method_7_code 8 = .ok (.aload_n 0, 1) := by decide +kernel
theorem d_Rows_countAlike_9 : decode prog_9_method_7_code 9 = .ok (.getfield 20, 3) := by decide +kernel
theorem d_Rows_countAlike_12 : decode prog_9_method_7_code 12 = .ok (.if_icmp .ge 36, 3) := by decide +kernel
theorem d_Rows_countAlike_15 : decode prog_9_method_7_code 15 = .ok (.iload 5, 2) := by decide +kernel
theorem d_Rows_countAlike_17 : decode prog_9_method_7_code 17 = .ok (.aload_n 0, 1) := by decide +kernel
theorem d_Rows_countAlike_18 : decode prog_9_method_7_code 18 = .ok (.getfield 9, 3) := by decide +kernel
theorem d_Rows_countAlike_21 : decode prog_9_method_7_code 21 = .ok (.arraylength, 1) := by decide +kernel
theorem d_Rows_countAlike_22 : decode prog_9_method_7_code 22 = .ok (.if_icmp .ge 26, 3) := by decide +kernel
theorem d_Rows_countAlike_25 : decode prog_9_method_7_code 25 = .ok (.aload_n 0, 1) := by decide +kernel
theorem d_Rows_countAlike_26 : decode prog_9_method_7_code 26 = .ok (.getfield 9, 3) := by decide +kernel
theorem d_Rows_countAlike_29 : decode prog_9_method_7_code 29 = .ok (.iload 5, 2) := by decide +kernel
theorem d_Rows_countAlike_31 : decode prog_9_method_7_code 31 = .ok (.laload, 1) := by decide +kernel
theorem d_Rows_countAlike_32 : decode prog_9_method_7_code 32 = .ok (.iload_n 3, 1) := by decide +kernel
theorem d_Rows_countAlike_33 : decode prog_9_method_7_code 33 = .ok (.lshr, 1) := by decide +kernel
theorem d_Rows_countAlike_34 : decode prog_9_method_7_code 34 = .ok (.lload_n 1, 1) := by decide +kernel
theorem d_Rows_countAlike_35 : decode prog_9_method_7_code 35 = .ok (.lcmp, 1) := by decide +kernel
theorem d_Rows_countAlike_36 : decode prog_9_method_7_code 36 = .ok (.ifCond .ne 6, 3) := by decide +kernel
theorem d_Rows_countAlike_39 : decode prog_9_method_7_code 39 = .ok (.iinc 4 1, 3) := by decide +kernel
theorem d_Rows_countAlike_42 : decode prog_9_method_7_code 42 = .ok (.iinc 5 1, 3) := by decide +kernel
theorem d_Rows_countAlike_45 : decode prog_9_method_7_code 45 = .ok (.goto (-39), 3) := by decide +kernel
theorem d_Rows_countAlike_48 : decode prog_9_method_7_code 48 = .ok (.iload 4, 2) := by decide +kernel
theorem d_Rows_countAlike_50 : decode prog_9_method_7_code 50 = .ok (.ireturn, 1) := by decide +kernel
def cf_Rows_countAlike_B6  (w : Wd) (K6 : Int64 → Int32 → Int32 → Int32 → Prop) (P : Int32 → Prop) (x1 : Int64) (x3 : Int32) (x4 : Int32) (x5 : Int32)  : Prop :=
  (((w.1 26 1) ≤ x5 → P x4) ∧ (¬ (w.1 26 1) ≤ x5 → (((2880 : Int32) ≤ x5 → P x4) ∧ (¬ (2880 : Int32) ≤ x5 → vp_in x5 2880 ∧ ((¬ (lshr (w.2 27 x5.toNatClampNeg) x3) = x1 → ∀ v1, v1 = x5 + (1 : Int32) → K6 x1 x3 x4 v1) ∧ ((lshr (w.2 27 x5.toNatClampNeg) x3) = x1 → ∀ v2, v2 = x4 + (1 : Int32) → ∀ v3, v3 = x5 + (1 : Int32) → K6 x1 x3 v2 v3))))))
def cf_Rows_countAlike_L6  (w : Wd)  (P : Int32 → Prop) : Nat → Int64 → Int32 → Int32 → Int32 → Prop
  | 0 => fun x1 x3 x4 x5 => False
  | n + 1 => fun x1 x3 x4 x5 => cf_Rows_countAlike_B6 w (cf_Rows_countAlike_L6 w P n) P x1 x3 x4 x5
def cf_Rows_countAlike (a0 : Int64) (a1 : Int32) (w : Wd) (P : Int32 → Prop) : Prop :=
  ∃ n, cf_Rows_countAlike_L6 w P n a0 a1 (0 : Int32) (0 : Int32)
theorem cf_Rows_countAlike_B6_ok {g : ayG} {d : Nat} (hd : 0 ≤ d)   (w : Wd) (K6 : Int64 → Int32 → Int32 → Int32 → Prop) (P : Int32 → Prop) (Q : Option Value → Wd → Prop) (hQ : ∀ x, P x → Q (some (.int x)) w) (hK6 : ∀ (x1 : Int64) (x3 : Int32) (x4 : Int32) (x5 : Int32), (K6 x1 x3 x4 x5 → wp g (fun _ => True) y_Rows_countAlike prog_9_method_7_code 6 (some FieldType.int) d 6 [(0, .ref (g.1 + 26)), (1, .long x1), (3, .int x3), (4, .int x4), (5, .int x5)] [] w Q)) (x1 : Int64) (x3 : Int32) (x4 : Int32) (x5 : Int32) (h : cf_Rows_countAlike_B6 w K6 P x1 x3 x4 x5) : wp g (fun _ => True) y_Rows_countAlike prog_9_method_7_code 6 (some FieldType.int) d 6 [(0, .ref (g.1 + 26)), (1, .long x1), (3, .int x3), (4, .int x4), (5, .int x5)] [] w Q := by
  unfold cf_Rows_countAlike_B6 at h
  refine am_iload d_Rows_countAlike_6 4 rfl ?_
  refine am_aload_n d_Rows_countAlike_8 0 rfl ?_
  refine am_getf (T := F_Rows) (fs := ob_Rows g w 26) (C := R_Rows) (N := 4) (ci := 8) 1 d_Rows_countAlike_9 wd_169 rfl (by decide) (el_Rows (show ay_sh 26 = _ from rfl)) rfl i_Rows (by decide) rfl ?_
  refine am_icmp_ge (tgt := 48) d_Rows_countAlike_12 (by decide) (fun c12 => ?_) (fun c12 => ?_)
  · have h := h.1 c12
    refine am_iload d_Rows_countAlike_48 3 rfl ?_
    exact am_ireturn d_Rows_countAlike_50 rfl rfl (hQ x4 h)
  · have h := h.2 c12
    refine am_iload d_Rows_countAlike_15 4 rfl ?_
    refine am_aload_n d_Rows_countAlike_17 0 rfl ?_
    refine am_getf (T := F_Rows) (fs := ob_Rows g w 26) (C := R_Rows) (N := 4) (ci := 8) 0 d_Rows_countAlike_18 wd_168 rfl (by decide) (el_Rows (show ay_sh 26 = _ from rfl)) rfl i_Rows (by decide) rfl ?_
    refine am_alen (v := 2880) d_Rows_countAlike_21 (show ay_sh 27 = _ from rfl) (by decide) rfl ?_
    refine am_icmp_ge (tgt := 48) d_Rows_countAlike_22 (by decide) (fun c22 => ?_) (fun c22 => ?_)
    · have h := h.1 c22
      refine am_iload d_Rows_countAlike_48 3 rfl ?_
      exact am_ireturn d_Rows_countAlike_50 rfl rfl (hQ x4 h)
    · have h := h.2 c22
      refine am_aload_n d_Rows_countAlike_25 0 rfl ?_
      refine am_getf (T := F_Rows) (fs := ob_Rows g w 26) (C := R_Rows) (N := 4) (ci := 8) 0 d_Rows_countAlike_26 wd_168 rfl (by decide) (el_Rows (show ay_sh 26 = _ from rfl)) rfl i_Rows (by decide) rfl ?_
      refine am_iload d_Rows_countAlike_29 4 rfl ?_
      have hi31 := h.1
      have h := h.2
      refine am_laload d_Rows_countAlike_31 (show ay_sh 27 = _ from rfl) hi31 ?_
      refine am_iload_n d_Rows_countAlike_32 2 rfl ?_
      refine am_lshr d_Rows_countAlike_33 ?_
      refine am_lload_n d_Rows_countAlike_34 1 rfl ?_
      refine am_lif_ne (tgt := 42) d_Rows_countAlike_35 d_Rows_countAlike_36 (by decide) (fun c35 => ?_) (fun c35 => ?_)
      · have h := h.1 c35
        obtain ⟨v1, ev1⟩ : ∃ z : Int32, z = x5 + (1 : Int32) := ⟨_, rfl⟩
        have h := h v1 ev1
        refine am_iinc (v := v1) (l' := [(5, .int v1), (0, .ref (g.1 + 26)), (1, .long x1), (3, .int x3), (4, .int x4)]) d_Rows_countAlike_42 4 rfl (by rw [ev1]; rfl) (by decide) rfl ?_
        refine am_goto (tgt := 6) d_Rows_countAlike_45 (by decide) ?_
        refine am_sub [1, 2, 3, 4, 0] rfl ?_
        exact hK6 x1 x3 x4 v1 h
      · have h := h.2 c35
        obtain ⟨v2, ev2⟩ : ∃ z : Int32, z = x4 + (1 : Int32) := ⟨_, rfl⟩
        have h := h v2 ev2
        refine am_iinc (v := v2) (l' := [(4, .int v2), (0, .ref (g.1 + 26)), (1, .long x1), (3, .int x3), (5, .int x5)]) d_Rows_countAlike_39 3 rfl (by rw [ev2]; rfl) (by decide) rfl ?_
        obtain ⟨v3, ev3⟩ : ∃ z : Int32, z = x5 + (1 : Int32) := ⟨_, rfl⟩
        have h := h v3 ev3
        refine am_iinc (v := v3) (l' := [(5, .int v3), (4, .int v2), (0, .ref (g.1 + 26)), (1, .long x1), (3, .int x3)]) d_Rows_countAlike_42 4 rfl (by rw [ev3]; rfl) (by decide) rfl ?_
        refine am_goto (tgt := 6) d_Rows_countAlike_45 (by decide) ?_
        refine am_sub [2, 3, 4, 1, 0] rfl ?_
        exact hK6 x1 x3 v2 v3 h
theorem cf_Rows_countAlike_L6_ok {g : ayG} {d : Nat} (hd : 0 ≤ d)   (w : Wd)  (P : Int32 → Prop) (Q : Option Value → Wd → Prop) (hQ : ∀ x, P x → Q (some (.int x)) w)  : ∀ (n : Nat) (x1 : Int64) (x3 : Int32) (x4 : Int32) (x5 : Int32) (h : cf_Rows_countAlike_L6 w P n x1 x3 x4 x5), wp g (fun _ => True) y_Rows_countAlike prog_9_method_7_code 6 (some FieldType.int) d 6 [(0, .ref (g.1 + 26)), (1, .long x1), (3, .int x3), (4, .int x4), (5, .int x5)] [] w Q
  | 0, x1, x3, x4, x5, h => False.elim h
  | n + 1, x1, x3, x4, x5, h => cf_Rows_countAlike_B6_ok hd   w (cf_Rows_countAlike_L6 w P n) P Q hQ (fun x1 x3 x4 x5 h => cf_Rows_countAlike_L6_ok hd   w  P Q hQ  n x1 x3 x4 x5 h) x1 x3 x4 x5 h
theorem cf_Rows_countAlike_ok {g : ayG} {d : Nat} (hd : 0 ≤ d) (a0 : Int64) (a1 : Int32)  (w : Wd) (P : Int32 → Prop) (h : cf_Rows_countAlike a0 a1 w P) : Call g y_Rows_countAlike prog_9_method_7_code 6 (some FieldType.int) d [.ref (g.1 + 26), .long a0, .int a1] w (fun (r : Option Value) (w2 : Wd) => ∃ x, r = some (.int x) ∧ w = w2 ∧ P x) := by
  unfold cf_Rows_countAlike at h
  refine am_enter mi_Rows_countAlike (Nat.le_of_ble_eq_true rfl) ?_
  have hQ : ∀ x, P x → (fun (r : Option Value) (w2 : Wd) => ∃ x, r = some (.int x) ∧ w = w2 ∧ P x) (some (.int x)) w := fun x h => ⟨x, rfl, rfl, h⟩
  generalize (fun (r : Option Value) (w2 : Wd) => ∃ x, r = some (.int x) ∧ w = w2 ∧ P x) = Q at hQ ⊢
  show wp g (fun _ => True) y_Rows_countAlike prog_9_method_7_code 6 (some FieldType.int) d 0 [(0, .ref (g.1 + 26)), (1, .long a0), (3, .int a1)] [] w Q
  refine am_iconst (v := 0) d_Rows_countAlike_0 rfl ?_
  refine am_istore (l' := [(4, .int (0 : Int32)), (0, .ref (g.1 + 26)), (1, .long a0), (3, .int a1)]) d_Rows_countAlike_1 (by decide) rfl ?_
  refine am_iconst (v := 0) d_Rows_countAlike_3 rfl ?_
  refine am_istore (l' := [(5, .int (0 : Int32)), (4, .int (0 : Int32)), (0, .ref (g.1 + 26)), (1, .long a0), (3, .int a1)]) d_Rows_countAlike_4 (by decide) rfl ?_
  refine am_sub [2, 3, 4, 1, 0] rfl ?_
  obtain ⟨n, h⟩ := h
  exact cf_Rows_countAlike_L6_ok (by omega)   w  P Q hQ  n a0 a1 (0 : Int32) (0 : Int32) h
theorem d_Rows_risingDivisor_0 : decode prog_9_method_5_code 0 = .ok (.iload_n 1, 1) := by decide +kernel
theorem d_Rows_risingDivisor_1 : decode prog_9_method_5_code 1 = .ok (.istore_n 2, 1) := by decide +kernel
theorem d_Rows_risingDivisor_2 : decode prog_9_method_5_code 2 = .ok (.lconst 0, 1) := by decide +kernel
theorem d_Rows_risingDivisor_3 : decode prog_9_method_5_code 3 = .ok (.lstore_n 3, 1) := by decide +kernel
theorem d_Rows_risingDivisor_4 : decode prog_9_method_5_code 4 = .ok (.bipush 31, 2) := by decide +kernel
theorem d_Rows_risingDivisor_6 : decode prog_9_method_5_code 6 = .ok (.istore 5, 2) := by decide +kernel
theorem d_Rows_risingDivisor_8 : decode prog_9_method_5_code 8 = .ok (.iload 5, 2) := by decide +kernel
theorem d_Rows_risingDivisor_10 : decode prog_9_method_5_code 10 = .ok (.ifCond .lt 37, 3) := by decide +kernel
theorem d_Rows_risingDivisor_13 : decode prog_9_method_5_code 13 = .ok (.lload_n 3, 1) := by decide +kernel
theorem d_Rows_risingDivisor_14 : decode prog_9_method_5_code 14 = .ok (.iconst 1, 1) := by decide +kernel
theorem d_Rows_risingDivisor_15 : decode prog_9_method_5_code 15 = .ok (.lshl, 1) := by decide +kernel
theorem d_Rows_risingDivisor_16 : decode prog_9_method_5_code 16 = .ok (.lstore_n 3, 1) := by decide +kernel
theorem d_Rows_risingDivisor_17 : decode prog_9_method_5_code 17 = .ok (.aload_n 0, 1) := by decide +kernel
theorem d_Rows_risingDivisor_18 : decode prog_9_method_5_code 18 = .ok (.lload_n 3, 1) := by decide +kernel
theorem d_Rows_risingDivisor_19 : decode prog_9_method_5_code 19 = .ok (.iload 5, 2) := by decide +kernel
theorem d_Rows_risingDivisor_21 : decode prog_9_method_5_code 21 = .ok (.invokevirtual 47, 3) := by decide +kernel
theorem d_Rows_risingDivisor_24 : decode prog_9_method_5_code 24 = .ok (.istore 6, 2) := by decide +kernel
theorem d_Rows_risingDivisor_26 : decode prog_9_method_5_code 26 = .ok (.iload_n 2, 1) := by decide +kernel
theorem d_Rows_risingDivisor_27 : decode prog_9_method_5_code 27 = .ok (.iload 6, 2) := by decide +kernel
theorem d_Rows_risingDivisor_29 : decode prog_9_method_5_code 29 = .ok (.if_icmp .lt 12, 3) := by decide +kernel
theorem d_Rows_risingDivisor_32 : decode prog_9_method_5_code 32 = .ok (.iload_n 2, 1) := by decide +kernel
theorem d_Rows_risingDivisor_33 : decode prog_9_method_5_code 33 = .ok (.iload 6, 2) := by decide +kernel
theorem d_Rows_risingDivisor_35 : decode prog_9_method_5_code 35 = .ok (.isub, 1) := by decide +kernel
theorem d_Rows_risingDivisor_36 : decode prog_9_method_5_code 36 = .ok (.istore_n 2, 1) := by decide +kernel
theorem d_Rows_risingDivisor_37 : decode prog_9_method_5_code 37 = .ok (.lload_n 3, 1) := by decide +kernel
theorem d_Rows_risingDivisor_38 : decode prog_9_method_5_code 38 = .ok (.lconst 1, 1) := by decide +kernel
theorem d_Rows_risingDivisor_39 : decode prog_9_method_5_code 39 = .ok (.lor, 1) := by decide +kernel
theorem d_Rows_risingDivisor_40 : decode prog_9_method_5_code 40 = .ok (.lstore_n 3, 1) := by decide +kernel
theorem d_Rows_risingDivisor_41 : decode prog_9_method_5_code 41 = .ok (.iinc 5 (-1), 3) := by decide +kernel
theorem d_Rows_risingDivisor_44 : decode prog_9_method_5_code 44 = .ok (.goto (-36), 3) := by decide +kernel
theorem d_Rows_risingDivisor_47 : decode prog_9_method_5_code 47 = .ok (.lload_n 3, 1) := by decide +kernel
theorem d_Rows_risingDivisor_48 : decode prog_9_method_5_code 48 = .ok (.lreturn, 1) := by decide +kernel
def cf_Rows_risingDivisor_B8  (w : Wd) (K8 : Int32 → Int64 → Int32 → Prop) (P : Int64 → Prop) (x2 : Int32) (x3 : Int64) (x5 : Int32)  : Prop :=
  ((x5 < 0 → P x3) ∧ (¬ x5 < 0 → ∀ v1, v1 = lshl x3 (1 : Int32) → cf_Rows_countAlike v1 x5 w (fun r2 => ((x2 < r2 → ∀ v3, v3 = x5 + (-1 : Int32) → K8 x2 v1 v3) ∧ (¬ x2 < r2 → ∀ v4, v4 = x2 - r2 → ∀ v5, v5 = v1 ||| (1 : Int64) → ∀ v6, v6 = x5 + (-1 : Int32) → K8 v4 v5 v6)))))
def cf_Rows_risingDivisor_L8  (w : Wd)  (P : Int64 → Prop) : Nat → Int32 → Int64 → Int32 → Prop
  | 0 => fun x2 x3 x5 => False
  | n + 1 => fun x2 x3 x5 => cf_Rows_risingDivisor_B8 w (cf_Rows_risingDivisor_L8 w P n) P x2 x3 x5
def cf_Rows_risingDivisor (a0 : Int32) (w : Wd) (P : Int64 → Prop) : Prop :=
  ∃ n, cf_Rows_risingDivisor_L8 w P n a0 (0 : Int64) (31 : Int32)
theorem cf_Rows_risingDivisor_B8_ok {g : ayG} {d : Nat} (hd : 1 ≤ d)   (w : Wd) (K8 : Int32 → Int64 → Int32 → Prop) (P : Int64 → Prop) (Q : Option Value → Wd → Prop) (hQ : ∀ x, P x → Q (some (.long x)) w) (hK8 : ∀ (x2 : Int32) (x3 : Int64) (x5 : Int32), (K8 x2 x3 x5 → wp g (fun _ => True) y_Rows_risingDivisor prog_9_method_5_code 7 (some FieldType.long) d 8 [(0, .ref (g.1 + 26)), (2, .int x2), (3, .long x3), (5, .int x5)] [] w Q)) (x2 : Int32) (x3 : Int64) (x5 : Int32) (h : cf_Rows_risingDivisor_B8 w K8 P x2 x3 x5) : wp g (fun _ => True) y_Rows_risingDivisor prog_9_method_5_code 7 (some FieldType.long) d 8 [(0, .ref (g.1 + 26)), (2, .int x2), (3, .long x3), (5, .int x5)] [] w Q := by
  unfold cf_Rows_risingDivisor_B8 at h
  refine am_iload d_Rows_risingDivisor_8 3 rfl ?_
  refine am_if_lt (tgt := 47) d_Rows_risingDivisor_10 (by decide) (fun c10 => ?_) (fun c10 => ?_)
  · have h := h.1 c10
    refine am_lload_n d_Rows_risingDivisor_47 2 rfl ?_
    exact am_lreturn d_Rows_risingDivisor_48 rfl (hQ x3 h)
  · have h := h.2 c10
    refine am_lload_n d_Rows_risingDivisor_13 2 rfl ?_
    refine am_iconst (v := 1) d_Rows_risingDivisor_14 rfl ?_
    refine am_lshl d_Rows_risingDivisor_15 ?_
    refine am_topl (fun v1 ev1 => ?_)
    have h := h v1 ev1
    refine am_lstore_n (l' := [(3, .long v1), (0, .ref (g.1 + 26)), (2, .int x2), (5, .int x5)]) d_Rows_risingDivisor_16 (by decide) rfl ?_
    refine am_aload_n d_Rows_risingDivisor_17 1 rfl ?_
    refine am_lload_n d_Rows_risingDivisor_18 0 rfl ?_
    refine am_iload d_Rows_risingDivisor_19 3 rfl ?_
    refine am_callV (C := y_Rows_countAlike.cls) (d2 := d - 1) [.long v1, .int x5] d_Rows_risingDivisor_21 mi_Rows_countAlike wd_786 wd_788 ws_Rows_countAlike (by decide) (el_Rows (show ay_sh 26 = _ from rfl)) rfl rfl (by omega) rfl rfl (Nat.le_of_ble_eq_true rfl) ?_
    refine Call.post ?_ (cf_Rows_countAlike_ok (by omega) v1 x5  w _ h)
    rintro _ _ ⟨r2, rfl, rfl, h⟩
    show wp g (fun _ => True) y_Rows_risingDivisor prog_9_method_5_code 7 (some FieldType.long) d 24 [(3, .long v1), (0, .ref (g.1 + 26)), (2, .int x2), (5, .int x5)] [.int r2] w Q
    refine am_istore (l' := [(6, .int r2), (3, .long v1), (0, .ref (g.1 + 26)), (2, .int x2), (5, .int x5)]) d_Rows_risingDivisor_24 (by decide) rfl ?_
    refine am_iload_n d_Rows_risingDivisor_26 3 rfl ?_
    refine am_iload d_Rows_risingDivisor_27 0 rfl ?_
    refine am_icmp_lt (tgt := 41) d_Rows_risingDivisor_29 (by decide) (fun c29 => ?_) (fun c29 => ?_)
    · have h := h.1 c29
      obtain ⟨v3, ev3⟩ : ∃ z : Int32, z = x5 + (-1 : Int32) := ⟨_, rfl⟩
      have h := h v3 ev3
      refine am_iinc (v := v3) (l' := [(5, .int v3), (6, .int r2), (3, .long v1), (0, .ref (g.1 + 26)), (2, .int x2)]) d_Rows_risingDivisor_41 4 rfl (by rw [ev3]; rfl) (by decide) rfl ?_
      refine am_goto (tgt := 8) d_Rows_risingDivisor_44 (by decide) ?_
      refine am_sub [3, 4, 2, 0] rfl ?_
      exact hK8 x2 v1 v3 h
    · have h := h.2 c29
      refine am_iload_n d_Rows_risingDivisor_32 3 rfl ?_
      refine am_iload d_Rows_risingDivisor_33 0 rfl ?_
      refine am_isub d_Rows_risingDivisor_35 ?_
      refine am_topi (fun v4 ev4 => ?_)
      have h := h v4 ev4
      refine am_istore_n (l' := [(2, .int v4), (6, .int r2), (3, .long v1), (0, .ref (g.1 + 26)), (5, .int x5)]) d_Rows_risingDivisor_36 (by decide) rfl ?_
      refine am_lload_n d_Rows_risingDivisor_37 2 rfl ?_
      refine am_lconst (v := 1) d_Rows_risingDivisor_38 rfl ?_
      refine am_lor d_Rows_risingDivisor_39 ?_
      refine am_topl (fun v5 ev5 => ?_)
      have h := h v5 ev5
      refine am_lstore_n (l' := [(3, .long v5), (2, .int v4), (6, .int r2), (0, .ref (g.1 + 26)), (5, .int x5)]) d_Rows_risingDivisor_40 (by decide) rfl ?_
      obtain ⟨v6, ev6⟩ : ∃ z : Int32, z = x5 + (-1 : Int32) := ⟨_, rfl⟩
      have h := h v6 ev6
      refine am_iinc (v := v6) (l' := [(5, .int v6), (3, .long v5), (2, .int v4), (6, .int r2), (0, .ref (g.1 + 26))]) d_Rows_risingDivisor_41 4 rfl (by rw [ev6]; rfl) (by decide) rfl ?_
      refine am_goto (tgt := 8) d_Rows_risingDivisor_44 (by decide) ?_
      refine am_sub [4, 2, 1, 0] rfl ?_
      exact hK8 v4 v5 v6 h
theorem cf_Rows_risingDivisor_L8_ok {g : ayG} {d : Nat} (hd : 1 ≤ d)   (w : Wd)  (P : Int64 → Prop) (Q : Option Value → Wd → Prop) (hQ : ∀ x, P x → Q (some (.long x)) w)  : ∀ (n : Nat) (x2 : Int32) (x3 : Int64) (x5 : Int32) (h : cf_Rows_risingDivisor_L8 w P n x2 x3 x5), wp g (fun _ => True) y_Rows_risingDivisor prog_9_method_5_code 7 (some FieldType.long) d 8 [(0, .ref (g.1 + 26)), (2, .int x2), (3, .long x3), (5, .int x5)] [] w Q
  | 0, x2, x3, x5, h => False.elim h
  | n + 1, x2, x3, x5, h => cf_Rows_risingDivisor_B8_ok hd   w (cf_Rows_risingDivisor_L8 w P n) P Q hQ (fun x2 x3 x5 h => cf_Rows_risingDivisor_L8_ok hd   w  P Q hQ  n x2 x3 x5 h) x2 x3 x5 h
theorem cf_Rows_risingDivisor_ok {g : ayG} {d : Nat} (hd : 1 ≤ d) (a0 : Int32)  (w : Wd) (P : Int64 → Prop) (h : cf_Rows_risingDivisor a0 w P) : Call g y_Rows_risingDivisor prog_9_method_5_code 7 (some FieldType.long) d [.ref (g.1 + 26), .int a0] w (fun (r : Option Value) (w2 : Wd) => ∃ x, r = some (.long x) ∧ w = w2 ∧ P x) := by
  unfold cf_Rows_risingDivisor at h
  refine am_enter mi_Rows_risingDivisor (Nat.le_of_ble_eq_true rfl) ?_
  have hQ : ∀ x, P x → (fun (r : Option Value) (w2 : Wd) => ∃ x, r = some (.long x) ∧ w = w2 ∧ P x) (some (.long x)) w := fun x h => ⟨x, rfl, rfl, h⟩
  generalize (fun (r : Option Value) (w2 : Wd) => ∃ x, r = some (.long x) ∧ w = w2 ∧ P x) = Q at hQ ⊢
  show wp g (fun _ => True) y_Rows_risingDivisor prog_9_method_5_code 7 (some FieldType.long) d 0 [(0, .ref (g.1 + 26)), (1, .int a0)] [] w Q
  refine am_iload_n d_Rows_risingDivisor_0 1 rfl ?_
  refine am_istore_n (l' := [(2, .int a0), (0, .ref (g.1 + 26)), (1, .int a0)]) d_Rows_risingDivisor_1 (by decide) rfl ?_
  refine am_lconst (v := 0) d_Rows_risingDivisor_2 rfl ?_
  refine am_lstore_n (l' := [(3, .long (0 : Int64)), (2, .int a0), (0, .ref (g.1 + 26)), (1, .int a0)]) d_Rows_risingDivisor_3 (by decide) rfl ?_
  refine am_bipush (v := 31) d_Rows_risingDivisor_4 rfl ?_
  refine am_istore (l' := [(5, .int (31 : Int32)), (3, .long (0 : Int64)), (2, .int a0), (0, .ref (g.1 + 26)), (1, .int a0)]) d_Rows_risingDivisor_6 (by decide) rfl ?_
  refine am_sub [3, 2, 1, 0] rfl ?_
  obtain ⟨n, h⟩ := h
  exact cf_Rows_risingDivisor_L8_ok (by omega)   w  P Q hQ  n a0 (0 : Int64) (31 : Int32) h
theorem d_Rows_findMultiple_0 : decode prog_9_method_6_code 0 = .ok (.lconst 1, 1) := by decide +kernel
theorem d_Rows_findMultiple_1 : decode prog_9_method_6_code 1 = .ok (.lload_n 1, 1) := by decide +kernel
theorem d_Rows_findMultiple_2 : decode prog_9_method_6_code 2 = .ok (.invokestatic 51, 3) := by decide +kernel
theorem d_Rows_findMultiple_5 : decode prog_9_method_6_code 5 = .ok (.lstore_n 3, 1) := by decide +kernel
theorem d_Rows_findMultiple_6 : decode prog_9_method_6_code 6 = .ok (.iconst 0, 1) := by decide +kernel
theorem d_Rows_findMultiple_7 : decode prog_9_method_6_code 7 = .ok (.istore 5, 2) := by decide +kernel
theorem d_Rows_findMultiple_9 : decode prog_9_method_6_code 9 = .ok (.iload 5, 2) := by decide +kernel
theorem d_Rows_findMultiple_11 : decode prog_9_method_6_code 11 = .ok (.sipush 300, 3) := by decide +kernel
theorem d_Rows_findMultiple_14 : decode prog_9_method_6_code 14 = .ok (.if_icmp .gt 79, 3) := by decide +kernel
theorem d_Rows_findMultiple_17 : decode prog_9_method_6_code 17 = .ok (.iload 5, 2) := by decide +kernel
theorem d_Rows_findMultiple_19 : decode prog_9_method_6_code 19 = .ok (.aload_n 0, 1) := by decide +kernel
theorem d_Rows_findMultiple_20 : decode prog_9_method_6_code 20 = .ok (.getfield 9, 3) := by decide +kernel
theorem d_Rows_findMultiple_23 : decode prog_9_method_6_code 23 = .ok (.arraylength, 1) := by decide +kernel
theorem d_Rows_findMultiple_24 : decode prog_9_method_6_code 24 = .ok (.if_icmp .ge 69, 3) := by decide +kernel
theorem d_Rows_findMultiple_27 : decode prog_9_method_6_code 27 = .ok (.aload_n 0, 1) := by decide +kernel
theorem d_Rows_findMultiple_28 : decode prog_9_method_6_code 28 = .ok (.getfield 9, 3) := by decide +kernel
theorem d_Rows_findMultiple_31 : decode prog_9_method_6_code 31 = .ok (.iload 5, 2) := by decide +kernel
theorem d_Rows_findMultiple_33 : decode prog_9_method_6_code 33 = .ok (.lload_n 3, 1) := by decide +kernel
theorem d_Rows_findMultiple_34 : decode prog_9_method_6_code 34 = .ok (.lastore, 1) := by decide +kernel
theorem d_Rows_findMultiple_35 : decode prog_9_method_6_code 35 = .ok (.iconst 1, 1) := by decide +kernel
theorem d_Rows_findMultiple_36 : decode prog_9_method_6_code 36 = .ok (.istore 6, 2) := by decide +kernel
theorem d_Rows_findMultiple_38 : decode prog_9_method_6_code 38 = .ok (.iload 6, 2) := by decide +kernel
theorem d_Rows_findMultiple_40 : decode prog_9_method_6_code 40 = .ok (.iload 5, 2) := by decide +kernel
theorem d_Rows_findMultiple_42 : decode prog_9_method_6_code 42 = .ok (.if_icmp .ge 37, 3) := by decide +kernel
theorem d_Rows_findMultiple_45 : decode prog_9_method_6_code 45 = .ok (.aload_n 0, 1) := by decide +kernel
theorem d_Rows_findMultiple_46 : decode prog_9_method_6_code 46 = .ok (.getfield 9, 3) := by decide +kernel
theorem d_Rows_findMultiple_49 : decode prog_9_method_6_code 49 = .ok (.iload 6, 2) := by decide +kernel
theorem d_Rows_findMultiple_51 : decode prog_9_method_6_code 51 = .ok (.laload, 1) := by decide +kernel
theorem d_Rows_findMultiple_52 : decode prog_9_method_6_code 52 = .ok (.lload_n 3, 1) := by decide +kernel
theorem d_Rows_findMultiple_53 : decode prog_9_method_6_code 53 = .ok (.lconst 1, 1) := by decide +kernel
theorem d_Rows_findMultiple_54 : decode prog_9_method_6_code 54 = .ok (.lxor, 1) := by decide +kernel
theorem d_Rows_findMultiple_55 : decode prog_9_method_6_code 55 = .ok (.lcmp, 1) := by decide +kernel
theorem d_Rows_findMultiple_56 : decode prog_9_method_6_code 56 = .ok (.ifCond .ne 17, 3) := by decide +kernel
theorem d_Rows_findMultiple_59 : decode prog_9_method_6_code 59 = .ok (.aload_n 0, 1) := by decide +kernel
theorem d_Rows_findMultiple_60 : decode prog_9_method_6_code 60 = .ok (.iload 5, 2) := by decide +kernel
theorem d_Rows_findMultiple_62 : decode prog_9_method_6_code 62 = .ok (.putfield 13, 3) := by decide +kernel
theorem d_Rows_findMultiple_65 : decode prog_9_method_6_code 65 = .ok (.aload_n 0, 1) := by decide +kernel
theorem d_Rows_findMultiple_66 : decode prog_9_method_6_code 66 = .ok (.iload 6, 2) := by decide +kernel
theorem d_Rows_findMultiple_68 : decode prog_9_method_6_code 68 = .ok (.putfield 17, 3) := by decide +kernel
theorem d_Rows_findMultiple_71 : decode prog_9_method_6_code 71 = .ok (.iconst 1, 1) := by decide +kernel
theorem d_Rows_findMultiple_72 : decode prog_9_method_6_code 72 = .ok (.ireturn, 1) := by decide +kernel
theorem d_Rows_findMultiple_73 : decode prog_9_method_6_code 73 = .ok (.iinc 6 1, 3) := by decide +kernel
theorem d_Rows_findMultiple_76 : decode prog_9_method_6_code 76 = .ok (.goto (-38), 3) := by decide +kernel
theorem d_Rows_findMultiple_79 : decode prog_9_method_6_code 79 = .ok (.lload_n 3, 1) := by decide +kernel
theorem d_Rows_findMultiple_80 : decode prog_9_method_6_code 80 = .ok (.iconst 1, 1) := by decide +kernel
theorem d_Rows_findMultiple_81 : decode prog_9_method_6_code 81 = .ok (.lshl, 1) := by decide +kernel
theorem d_Rows_findMultiple_82 : decode prog_9_method_6_code 82 = .ok (.lload_n 1, 1) := by decide +kernel
theorem d_Rows_findMultiple_83 : decode prog_9_method_6_code 83 = .ok (.invokestatic 51, 3) := by decide +kernel
theorem d_Rows_findMultiple_86 : decode prog_9_method_6_code 86 = .ok (.lstore_n 3, 1) := by decide +kernel
theorem d_Rows_findMultiple_87 : decode prog_9_method_6_code 87 = .ok (.iinc 5 1, 3) := by decide +kernel
theorem d_Rows_findMultiple_90 : decode prog_9_method_6_code 90 = .ok (.goto (-81), 3) := by decide +kernel
theorem d_Rows_findMultiple_93 : decode prog_9_method_6_code 93 = .ok (.iconst 0, 1) := by decide +kernel
theorem d_Rows_findMultiple_94 : decode prog_9_method_6_code 94 = .ok (.ireturn, 1) := by decide +kernel
def cf_Rows_findMultiple_B38  (K9 : Int64 → Int64 → Int32 → Wd → Prop) (K38 : Int64 → Int64 → Int32 → Int32 → Wd → Prop) (P : Int32 → Wd → Prop) (x1 : Int64) (x3 : Int64) (x5 : Int32) (x6 : Int32) (w : Wd) : Prop :=
  ((x5 ≤ x6 → cf_Polys_remainder (lshl x3 (1 : Int32)) x1 (fun r3 => ∀ v4, v4 = x5 + (1 : Int32) → K9 x1 r3 v4 w)) ∧ (¬ x5 ≤ x6 → vp_in x6 2880 ∧ ((¬ (w.2 27 x6.toNatClampNeg) = (x3 ^^^ (1 : Int64)) → ∀ v5, v5 = x6 + (1 : Int32) → K38 x1 x3 x5 v5 w) ∧ ((w.2 27 x6.toNatClampNeg) = (x3 ^^^ (1 : Int64)) → ∀ w6, w6 = wI w 26 2 x5 → ∀ w7, w7 = wI w6 26 3 x6 → P (1 : Int32) w7))))
def cf_Rows_findMultiple_L38  (K9 : Int64 → Int64 → Int32 → Wd → Prop) (P : Int32 → Wd → Prop) : Nat → Int64 → Int64 → Int32 → Int32 → Wd → Prop
  | 0 => fun x1 x3 x5 x6 w => False
  | n + 1 => fun x1 x3 x5 x6 w => cf_Rows_findMultiple_B38 K9 (cf_Rows_findMultiple_L38 K9 P n) P x1 x3 x5 x6 w
def cf_Rows_findMultiple_B9  (K9 : Int64 → Int64 → Int32 → Wd → Prop) (P : Int32 → Wd → Prop) (x1 : Int64) (x3 : Int64) (x5 : Int32) (w : Wd) : Prop :=
  (((300 : Int32) < x5 → P (0 : Int32) w) ∧ (¬ (300 : Int32) < x5 → (((2880 : Int32) ≤ x5 → P (0 : Int32) w) ∧ (¬ (2880 : Int32) ≤ x5 → vp_in x5 2880 ∧ ∀ w2, w2 = wL w 27 x5.toNatClampNeg x3 → ∃ n, cf_Rows_findMultiple_L38 K9 P n x1 x3 x5 (1 : Int32) w2))))
def cf_Rows_findMultiple_L9   (P : Int32 → Wd → Prop) : Nat → Int64 → Int64 → Int32 → Wd → Prop
  | 0 => fun x1 x3 x5 w => False
  | n + 1 => fun x1 x3 x5 w => cf_Rows_findMultiple_B9 (cf_Rows_findMultiple_L9 P n) P x1 x3 x5 w
def cf_Rows_findMultiple (a0 : Int64) (w : Wd) (P : Int32 → Wd → Prop) : Prop :=
  cf_Polys_remainder (1 : Int64) a0 (fun r1 => ∃ n, cf_Rows_findMultiple_L9 P n a0 r1 (0 : Int32) w)
theorem cf_Rows_findMultiple_B38_ok {g : ayG} {d : Nat} (hd : 3 ≤ d)   (w : Wd) (K9 : Int64 → Int64 → Int32 → Wd → Prop) (K38 : Int64 → Int64 → Int32 → Int32 → Wd → Prop) (P : Int32 → Wd → Prop) (Q : Option Value → Wd → Prop) (hQ : ∀ x w2, P x w2 → Q (some (.int x)) w2) (hK9 : ∀ (x1 : Int64) (x3 : Int64) (x5 : Int32) (w : Wd), (K9 x1 x3 x5 w → wp g (fun _ => True) y_Rows_findMultiple prog_9_method_6_code 7 (some FieldType.boolean) d 9 [(0, .ref (g.1 + 26)), (1, .long x1), (3, .long x3), (5, .int x5)] [] w Q)) (hK38 : ∀ (x1 : Int64) (x3 : Int64) (x5 : Int32) (x6 : Int32) (w : Wd), (K38 x1 x3 x5 x6 w → wp g (fun _ => True) y_Rows_findMultiple prog_9_method_6_code 7 (some FieldType.boolean) d 38 [(0, .ref (g.1 + 26)), (1, .long x1), (3, .long x3), (5, .int x5), (6, .int x6)] [] w Q)) (x1 : Int64) (x3 : Int64) (x5 : Int32) (x6 : Int32) (h : cf_Rows_findMultiple_B38 K9 K38 P x1 x3 x5 x6 w) : wp g (fun _ => True) y_Rows_findMultiple prog_9_method_6_code 7 (some FieldType.boolean) d 38 [(0, .ref (g.1 + 26)), (1, .long x1), (3, .long x3), (5, .int x5), (6, .int x6)] [] w Q := by
  unfold cf_Rows_findMultiple_B38 at h
  refine am_iload d_Rows_findMultiple_38 4 rfl ?_
  refine am_iload d_Rows_findMultiple_40 3 rfl ?_
  refine am_icmp_ge (tgt := 79) d_Rows_findMultiple_42 (by decide) (fun c42 => ?_) (fun c42 => ?_)
  · have h := h.1 c42
    refine am_lload_n d_Rows_findMultiple_79 2 rfl ?_
    refine am_iconst (v := 1) d_Rows_findMultiple_80 rfl ?_
    refine am_lshl d_Rows_findMultiple_81 ?_
    refine am_lload_n d_Rows_findMultiple_82 1 rfl ?_
    refine am_callS (d2 := d - 1) [.long (lshl x3 (1 : Int32)), .long x1] d_Rows_findMultiple_83 mi_Polys_remainder wd_888 wd_486 (by omega) rfl rfl (Nat.le_of_ble_eq_true rfl) ?_
    refine Call.post ?_ (cf_Polys_remainder_ok (by omega) (lshl x3 (1 : Int32)) x1  w _ h)
    rintro _ _ ⟨r3, rfl, rfl, h⟩
    show wp g (fun _ => True) y_Rows_findMultiple prog_9_method_6_code 7 (some FieldType.boolean) d 86 [(0, .ref (g.1 + 26)), (1, .long x1), (3, .long x3), (5, .int x5), (6, .int x6)] [.long r3] w Q
    refine am_lstore_n (l' := [(3, .long r3), (0, .ref (g.1 + 26)), (1, .long x1), (5, .int x5), (6, .int x6)]) d_Rows_findMultiple_86 (by decide) rfl ?_
    obtain ⟨v4, ev4⟩ : ∃ z : Int32, z = x5 + (1 : Int32) := ⟨_, rfl⟩
    have h := h v4 ev4
    refine am_iinc (v := v4) (l' := [(5, .int v4), (3, .long r3), (0, .ref (g.1 + 26)), (1, .long x1), (6, .int x6)]) d_Rows_findMultiple_87 3 rfl (by rw [ev4]; rfl) (by decide) rfl ?_
    refine am_goto (tgt := 9) d_Rows_findMultiple_90 (by decide) ?_
    refine am_sub [2, 3, 1, 0] rfl ?_
    exact hK9 x1 r3 v4 w h
  · have h := h.2 c42
    refine am_aload_n d_Rows_findMultiple_45 0 rfl ?_
    refine am_getf (T := F_Rows) (fs := ob_Rows g w 26) (C := R_Rows) (N := 4) (ci := 8) 0 d_Rows_findMultiple_46 wd_168 rfl (by decide) (el_Rows (show ay_sh 26 = _ from rfl)) rfl i_Rows (by decide) rfl ?_
    refine am_iload d_Rows_findMultiple_49 4 rfl ?_
    have hi51 := h.1
    have h := h.2
    refine am_laload d_Rows_findMultiple_51 (show ay_sh 27 = _ from rfl) hi51 ?_
    refine am_lload_n d_Rows_findMultiple_52 2 rfl ?_
    refine am_lconst (v := 1) d_Rows_findMultiple_53 rfl ?_
    refine am_lxor d_Rows_findMultiple_54 ?_
    refine am_lif_ne (tgt := 73) d_Rows_findMultiple_55 d_Rows_findMultiple_56 (by decide) (fun c55 => ?_) (fun c55 => ?_)
    · have h := h.1 c55
      obtain ⟨v5, ev5⟩ : ∃ z : Int32, z = x6 + (1 : Int32) := ⟨_, rfl⟩
      have h := h v5 ev5
      refine am_iinc (v := v5) (l' := [(6, .int v5), (0, .ref (g.1 + 26)), (1, .long x1), (3, .long x3), (5, .int x5)]) d_Rows_findMultiple_73 4 rfl (by rw [ev5]; rfl) (by decide) rfl ?_
      refine am_goto (tgt := 38) d_Rows_findMultiple_76 (by decide) ?_
      refine am_sub [1, 2, 3, 4, 0] rfl ?_
      exact hK38 x1 x3 x5 v5 w h
    · have h := h.2 c55
      refine am_aload_n d_Rows_findMultiple_59 0 rfl ?_
      refine am_iload d_Rows_findMultiple_60 3 rfl ?_
      refine am_putf (w' := wI w 26 2 x5) (ty := .int) (T := F_Rows) (fs := ob_Rows g w 26) (C := R_Rows) (N := 4) (ci := 8) 2 d_Rows_findMultiple_62 wd_170 rfl (by decide) (el_Rows (show ay_sh 26 = _ from rfl)) rfl i_Rows (by decide) G_Rows ty_Rows n_Rows rfl (ty_Rows 2 (by decide)) rfl rfl (Nat.le_of_ble_eq_true rfl) ((el_Rows (show ay_sh 26 = _ from rfl)).trans (by rw [pf_Rows_multipleN])) wI_o ?_
      obtain ⟨w6, ew6⟩ : ∃ z, z = wI w 26 2 x5 := ⟨_, rfl⟩
      rw [← ew6]
      have h := h w6 ew6
      refine am_aload_n d_Rows_findMultiple_65 0 rfl ?_
      refine am_iload d_Rows_findMultiple_66 4 rfl ?_
      refine am_putf (w' := wI w6 26 3 x6) (ty := .int) (T := F_Rows) (fs := ob_Rows g w6 26) (C := R_Rows) (N := 4) (ci := 8) 3 d_Rows_findMultiple_68 wd_171 rfl (by decide) (el_Rows (show ay_sh 26 = _ from rfl)) rfl i_Rows (by decide) G_Rows ty_Rows n_Rows rfl (ty_Rows 3 (by decide)) rfl rfl (Nat.le_of_ble_eq_true rfl) ((el_Rows (show ay_sh 26 = _ from rfl)).trans (by rw [pf_Rows_multipleK])) wI_o ?_
      obtain ⟨w7, ew7⟩ : ∃ z, z = wI w6 26 3 x6 := ⟨_, rfl⟩
      rw [← ew7]
      have h := h w7 ew7
      refine am_iconst (v := 1) d_Rows_findMultiple_71 rfl ?_
      exact am_ireturn d_Rows_findMultiple_72 rfl rfl (hQ (1 : Int32) w7 h)
theorem cf_Rows_findMultiple_L38_ok {g : ayG} {d : Nat} (hd : 3 ≤ d)   (K9 : Int64 → Int64 → Int32 → Wd → Prop) (P : Int32 → Wd → Prop) (Q : Option Value → Wd → Prop) (hQ : ∀ x w2, P x w2 → Q (some (.int x)) w2) (hK9 : ∀ (x1 : Int64) (x3 : Int64) (x5 : Int32) (w : Wd), (K9 x1 x3 x5 w → wp g (fun _ => True) y_Rows_findMultiple prog_9_method_6_code 7 (some FieldType.boolean) d 9 [(0, .ref (g.1 + 26)), (1, .long x1), (3, .long x3), (5, .int x5)] [] w Q)) : ∀ (n : Nat) (x1 : Int64) (x3 : Int64) (x5 : Int32) (x6 : Int32) (w : Wd) (h : cf_Rows_findMultiple_L38 K9 P n x1 x3 x5 x6 w), wp g (fun _ => True) y_Rows_findMultiple prog_9_method_6_code 7 (some FieldType.boolean) d 38 [(0, .ref (g.1 + 26)), (1, .long x1), (3, .long x3), (5, .int x5), (6, .int x6)] [] w Q
  | 0, x1, x3, x5, x6, w, h => False.elim h
  | n + 1, x1, x3, x5, x6, w, h => cf_Rows_findMultiple_B38_ok hd   w K9 (cf_Rows_findMultiple_L38 K9 P n) P Q hQ hK9 (fun x1 x3 x5 x6 w h => cf_Rows_findMultiple_L38_ok hd   K9 P Q hQ hK9 n x1 x3 x5 x6 w h) x1 x3 x5 x6 h
theorem cf_Rows_findMultiple_B9_ok {g : ayG} {d : Nat} (hd : 3 ≤ d)   (w : Wd) (K9 : Int64 → Int64 → Int32 → Wd → Prop) (P : Int32 → Wd → Prop) (Q : Option Value → Wd → Prop) (hQ : ∀ x w2, P x w2 → Q (some (.int x)) w2) (hK9 : ∀ (x1 : Int64) (x3 : Int64) (x5 : Int32) (w : Wd), (K9 x1 x3 x5 w → wp g (fun _ => True) y_Rows_findMultiple prog_9_method_6_code 7 (some FieldType.boolean) d 9 [(0, .ref (g.1 + 26)), (1, .long x1), (3, .long x3), (5, .int x5)] [] w Q)) (x1 : Int64) (x3 : Int64) (x5 : Int32) (h : cf_Rows_findMultiple_B9 K9 P x1 x3 x5 w) : wp g (fun _ => True) y_Rows_findMultiple prog_9_method_6_code 7 (some FieldType.boolean) d 9 [(0, .ref (g.1 + 26)), (1, .long x1), (3, .long x3), (5, .int x5)] [] w Q := by
  unfold cf_Rows_findMultiple_B9 at h
  refine am_iload d_Rows_findMultiple_9 3 rfl ?_
  refine am_sipush (v := 300) d_Rows_findMultiple_11 rfl ?_
  refine am_icmp_gt (tgt := 93) d_Rows_findMultiple_14 (by decide) (fun c14 => ?_) (fun c14 => ?_)
  · have h := h.1 c14
    refine am_iconst (v := 0) d_Rows_findMultiple_93 rfl ?_
    exact am_ireturn d_Rows_findMultiple_94 rfl rfl (hQ (0 : Int32) w h)
  · have h := h.2 c14
    refine am_iload d_Rows_findMultiple_17 3 rfl ?_
    refine am_aload_n d_Rows_findMultiple_19 0 rfl ?_
    refine am_getf (T := F_Rows) (fs := ob_Rows g w 26) (C := R_Rows) (N := 4) (ci := 8) 0 d_Rows_findMultiple_20 wd_168 rfl (by decide) (el_Rows (show ay_sh 26 = _ from rfl)) rfl i_Rows (by decide) rfl ?_
    refine am_alen (v := 2880) d_Rows_findMultiple_23 (show ay_sh 27 = _ from rfl) (by decide) rfl ?_
    refine am_icmp_ge (tgt := 93) d_Rows_findMultiple_24 (by decide) (fun c24 => ?_) (fun c24 => ?_)
    · have h := h.1 c24
      refine am_iconst (v := 0) d_Rows_findMultiple_93 rfl ?_
      exact am_ireturn d_Rows_findMultiple_94 rfl rfl (hQ (0 : Int32) w h)
    · have h := h.2 c24
      refine am_aload_n d_Rows_findMultiple_27 0 rfl ?_
      refine am_getf (T := F_Rows) (fs := ob_Rows g w 26) (C := R_Rows) (N := 4) (ci := 8) 0 d_Rows_findMultiple_28 wd_168 rfl (by decide) (el_Rows (show ay_sh 26 = _ from rfl)) rfl i_Rows (by decide) rfl ?_
      refine am_iload d_Rows_findMultiple_31 3 rfl ?_
      refine am_lload_n d_Rows_findMultiple_33 2 rfl ?_
      have hi34 := h.1
      have h := h.2
      refine am_lastore d_Rows_findMultiple_34 (show ay_sh 27 = _ from rfl) hi34 ?_
      obtain ⟨w2, ew2⟩ : ∃ z, z = wL w 27 x5.toNatClampNeg x3 := ⟨_, rfl⟩
      rw [← ew2]
      have h := h w2 ew2
      refine am_iconst (v := 1) d_Rows_findMultiple_35 rfl ?_
      refine am_istore (l' := [(6, .int (1 : Int32)), (0, .ref (g.1 + 26)), (1, .long x1), (3, .long x3), (5, .int x5)]) d_Rows_findMultiple_36 (by decide) rfl ?_
      refine am_sub [1, 2, 3, 4, 0] rfl ?_
      obtain ⟨n, h⟩ := h
      exact cf_Rows_findMultiple_L38_ok (by omega)   K9 P Q hQ hK9 n x1 x3 x5 (1 : Int32) w2 h
theorem cf_Rows_findMultiple_L9_ok {g : ayG} {d : Nat} (hd : 3 ≤ d)    (P : Int32 → Wd → Prop) (Q : Option Value → Wd → Prop) (hQ : ∀ x w2, P x w2 → Q (some (.int x)) w2)  : ∀ (n : Nat) (x1 : Int64) (x3 : Int64) (x5 : Int32) (w : Wd) (h : cf_Rows_findMultiple_L9 P n x1 x3 x5 w), wp g (fun _ => True) y_Rows_findMultiple prog_9_method_6_code 7 (some FieldType.boolean) d 9 [(0, .ref (g.1 + 26)), (1, .long x1), (3, .long x3), (5, .int x5)] [] w Q
  | 0, x1, x3, x5, w, h => False.elim h
  | n + 1, x1, x3, x5, w, h => cf_Rows_findMultiple_B9_ok hd   w (cf_Rows_findMultiple_L9 P n) P Q hQ (fun x1 x3 x5 w h => cf_Rows_findMultiple_L9_ok hd    P Q hQ  n x1 x3 x5 w h) x1 x3 x5 h
theorem cf_Rows_findMultiple_ok {g : ayG} {d : Nat} (hd : 3 ≤ d) (a0 : Int64)  (w : Wd) (P : Int32 → Wd → Prop) (h : cf_Rows_findMultiple a0 w P) : Call g y_Rows_findMultiple prog_9_method_6_code 7 (some FieldType.boolean) d [.ref (g.1 + 26), .long a0] w (fun (r : Option Value) (w2 : Wd) => ∃ x, r = some (.int x) ∧ P x w2) := by
  unfold cf_Rows_findMultiple at h
  refine am_enter mi_Rows_findMultiple (Nat.le_of_ble_eq_true rfl) ?_
  have hQ : ∀ x w2, P x w2 → (fun (r : Option Value) (w2 : Wd) => ∃ x, r = some (.int x) ∧ P x w2) (some (.int x)) w2 := fun x w2 h => ⟨x, rfl, h⟩
  generalize (fun (r : Option Value) (w2 : Wd) => ∃ x, r = some (.int x) ∧ P x w2) = Q at hQ ⊢
  show wp g (fun _ => True) y_Rows_findMultiple prog_9_method_6_code 7 (some FieldType.boolean) d 0 [(0, .ref (g.1 + 26)), (1, .long a0)] [] w Q
  refine am_lconst (v := 1) d_Rows_findMultiple_0 rfl ?_
  refine am_lload_n d_Rows_findMultiple_1 1 rfl ?_
  refine am_callS (d2 := d - 1) [.long (1 : Int64), .long a0] d_Rows_findMultiple_2 mi_Polys_remainder wd_888 wd_486 (by omega) rfl rfl (Nat.le_of_ble_eq_true rfl) ?_
  refine Call.post ?_ (cf_Polys_remainder_ok (by omega) (1 : Int64) a0  w _ h)
  rintro _ _ ⟨r1, rfl, rfl, h⟩
  show wp g (fun _ => True) y_Rows_findMultiple prog_9_method_6_code 7 (some FieldType.boolean) d 5 [(0, .ref (g.1 + 26)), (1, .long a0)] [.long r1] w Q
  refine am_lstore_n (l' := [(3, .long r1), (0, .ref (g.1 + 26)), (1, .long a0)]) d_Rows_findMultiple_5 (by decide) rfl ?_
  refine am_iconst (v := 0) d_Rows_findMultiple_6 rfl ?_
  refine am_istore (l' := [(5, .int (0 : Int32)), (3, .long r1), (0, .ref (g.1 + 26)), (1, .long a0)]) d_Rows_findMultiple_7 (by decide) rfl ?_
  refine am_sub [2, 3, 1, 0] rfl ?_
  obtain ⟨n, h⟩ := h
  exact cf_Rows_findMultiple_L9_ok (by omega)    P Q hQ  n a0 r1 (0 : Int32) w h
