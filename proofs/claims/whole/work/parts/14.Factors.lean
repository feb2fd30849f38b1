-- bytecode as predicates, by program (wip/whole/gen/extract.py)
theorem mi_Factors_unlike : ay_MI y_Factors_unlike prog_2_method_2_code 1 (some FieldType.int) 0 := ⟨wd_715, wd_5, by decide +kernel, by decide +kernel, by decide⟩
theorem mi_Factors_all : ay_MI y_Factors_all prog_2_method_3_code 1 (some FieldType.int) 0 := ⟨wd_711, wd_5, by decide +kernel, by decide +kernel, by decide⟩
theorem mi_Factors_base : ay_MI y_Factors_base prog_2_method_4_code 2 (some FieldType.long) 1 := ⟨wd_723, wd_5, by decide +kernel, by decide +kernel, by decide⟩
theorem mi_Factors_often : ay_MI y_Factors_often prog_2_method_5_code 2 (some FieldType.int) 1 := ⟨wd_735, wd_5, by decide +kernel, by decide +kernel, by decide⟩
theorem mi_Factors_greatestDegree : ay_MI y_Factors_greatestDegree prog_2_method_6_code 1 (some FieldType.int) 0 := ⟨wd_719, wd_5, by decide +kernel, by decide +kernel, by decide⟩
theorem mi_Factors_ofOneDegree : ay_MI y_Factors_ofOneDegree prog_2_method_7_code 4 (some FieldType.int) 1 := ⟨wd_743, wd_5, by decide +kernel, by decide +kernel, by decide⟩
theorem mi_Factors_inOrder : ay_MI y_Factors_inOrder prog_2_method_8_code 4 (some FieldType.long) 1 := ⟨wd_731, wd_5, by decide +kernel, by decide +kernel, by decide⟩
theorem mi_Factors_hasSameAs : ay_MI y_Factors_hasSameAs prog_2_method_9_code 3 (some FieldType.boolean) 1 := ⟨wd_806, wd_5, by decide +kernel, by decide +kernel, by decide⟩
theorem mi_Factors_cutParts : ay_MI y_Factors_cutParts prog_2_method_13_code 8 (some FieldType.int) 2 := ⟨wd_689, wd_5, by decide +kernel, by decide +kernel, by decide⟩
theorem mi_Factors_partInto : ay_MI y_Factors_partInto prog_2_method_12_code 12 (some FieldType.int) 2 := ⟨wd_684, wd_5, by decide +kernel, by decide +kernel, by decide⟩
theorem mi_Factors_sortParts : ay_MI y_Factors_sortParts prog_2_method_14_code 7 none 1 := ⟨wd_694, wd_5, by decide +kernel, by decide +kernel, by decide⟩
theorem mi_Factors_note : ay_MI y_Factors_note prog_2_method_15_code 4 none 2 := ⟨wd_703, wd_5, by decide +kernel, by decide +kernel, by decide⟩
theorem mi_Factors_takeOut : ay_MI y_Factors_takeOut prog_2_method_11_code 9 (some FieldType.long) 2 := ⟨wd_698, wd_5, by decide +kernel, by decide +kernel, by decide⟩
theorem mi_Factors_split : ay_MI y_Factors_split prog_2_method_10_code 10 none 1 := ⟨wd_676, wd_5, by decide +kernel, by decide +kernel, by decide⟩
theorem d_Factors_unlike_0 : decode prog_2_method_2_code 0 = .ok (.aload_n 0, 1) := by decide +kernel
theorem d_Factors_unlike_1 : decode prog_2_method_2_code 1 = .ok (.getfield 20, 3) := by decide +kernel
theorem d_Factors_unlike_4 : decode prog_2_method_2_code 4 = .ok (.ireturn, 1) := by decide +kernel
def cf_Factors_unlike (c : Nat) (w : Wd) (P : Int32 → Prop) : Prop :=
  P (w.1 c 3)
theorem cf_Factors_unlike_ok {g : ayG} {d : Nat} (hd : 0 ≤ d) (c : Nat) (hc : ay_sh c = (14, 0)) (w : Wd) (P : Int32 → Prop) (h : cf_Factors_unlike c w P) : Call g y_Factors_unlike prog_2_method_2_code 1 (some FieldType.int) d [.ref (g.1 + c)] w (fun (r : Option Value) (w2 : Wd) => ∃ x, r = some (.int x) ∧ w = w2 ∧ P x) := by
  unfold cf_Factors_unlike at h
  refine am_enter mi_Factors_unlike (Nat.le_of_ble_eq_true rfl) ?_
  have hQ : ∀ x, P x → (fun (r : Option Value) (w2 : Wd) => ∃ x, r = some (.int x) ∧ w = w2 ∧ P x) (some (.int x)) w := fun x h => ⟨x, rfl, rfl, h⟩
  generalize (fun (r : Option Value) (w2 : Wd) => ∃ x, r = some (.int x) ∧ w = w2 ∧ P x) = Q at hQ ⊢
  show wp g (fun _ => True) y_Factors_unlike prog_2_method_2_code 1 (some FieldType.int) d 0 [(0, .ref (g.1 + c))] [] w Q
  refine am_aload_n d_Factors_unlike_0 0 rfl ?_
  refine am_getf (T := F_Factors) (fs := ob_Factors g w c) (C := R_Factors) (N := 5) (ci := 4) 3 d_Factors_unlike_1 wd_111 rfl (ay_shlt hc (by decide)) (el_Factors hc) rfl i_Factors (by decide) rfl ?_
  exact am_ireturn d_Factors_unlike_4 rfl rfl (hQ (w.1 c 3) h)
theorem d_Factors_all_0 : decode prog_2_method_3_code 0 = .ok (.aload_n 0, 1) := by decide +kernel
theorem d_Factors_all_1 : decode prog_2_method_3_code 1 = .ok (.getfield 24, 3) := by decide +kernel
theorem d_Factors_all_4 : decode prog_2_method_3_code 4 = .ok (.ireturn, 1) := by decide +kernel
def cf_Factors_all (c : Nat) (w : Wd) (P : Int32 → Prop) : Prop :=
  P (w.1 c 4)
theorem cf_Factors_all_ok {g : ayG} {d : Nat} (hd : 0 ≤ d) (c : Nat) (hc : ay_sh c = (14, 0)) (w : Wd) (P : Int32 → Prop) (h : cf_Factors_all c w P) : Call g y_Factors_all prog_2_method_3_code 1 (some FieldType.int) d [.ref (g.1 + c)] w (fun (r : Option Value) (w2 : Wd) => ∃ x, r = some (.int x) ∧ w = w2 ∧ P x) := by
  unfold cf_Factors_all at h
  refine am_enter mi_Factors_all (Nat.le_of_ble_eq_true rfl) ?_
  have hQ : ∀ x, P x → (fun (r : Option Value) (w2 : Wd) => ∃ x, r = some (.int x) ∧ w = w2 ∧ P x) (some (.int x)) w := fun x h => ⟨x, rfl, rfl, h⟩
  generalize (fun (r : Option Value) (w2 : Wd) => ∃ x, r = some (.int x) ∧ w = w2 ∧ P x) = Q at hQ ⊢
  show wp g (fun _ => True) y_Factors_all prog_2_method_3_code 1 (some FieldType.int) d 0 [(0, .ref (g.1 + c))] [] w Q
  refine am_aload_n d_Factors_all_0 0 rfl ?_
  refine am_getf (T := F_Factors) (fs := ob_Factors g w c) (C := R_Factors) (N := 5) (ci := 4) 4 d_Factors_all_1 wd_112 rfl (ay_shlt hc (by decide)) (el_Factors hc) rfl i_Factors (by decide) rfl ?_
  exact am_ireturn d_Factors_all_4 rfl rfl (hQ (w.1 c 4) h)
theorem d_Factors_base_0 : decode prog_2_method_4_code 0 = .ok (.iload_n 1, 1) := by decide +kernel
theorem d_Factors_base_1 : decode prog_2_method_4_code 1 = .ok (.ifCond .lt 29, 3) := by decide +kernel
theorem d_Factors_base_4 : decode prog_2_method_4_code 4 = .ok (.iload_n 1, 1) := by decide +kernel
theorem d_Factors_base_5 : decode prog_2_method_4_code 5 = .ok (.aload_n 0, 1) := by decide +kernel
theorem d_Factors_base_6 : decode prog_2_method_4_code 6 = .ok (.getfield 20, 3) := by decide +kernel
theorem d_Factors_base_9 : decode prog_2_method_4_code 9 = .ok (.if_icmp .ge 21, 3) := by decide +kernel
theorem d_Factors_base_12 : decode prog_2_method_4_code 12 = .ok (.iload_n 1, 1) := by decide +kernel
theorem d_Factors_base_13 : decode prog_2_method_4_code 13 = .ok (.aload_n 0, 1) := by decide +kernel
theorem d_Factors_base_14 : decode prog_2_method_4_code 14 = .ok (.getfield 9, 3) := by decide +kernel
theorem d_Factors_base_17 : decode prog_2_method_4_code 17 = .ok (.arraylength, 1) := by decide +kernel
theorem d_Factors_base_18 : decode prog_2_method_4_code 18 = .ok (.if_icmp .ge 12, 3) := by decide +kernel
theorem d_Factors_base_21 : decode prog_2_method_4_code 21 = .ok (.aload_n 0, 1) := by decide +kernel
theorem d_Factors_base_22 : decode prog_2_method_4_code 22 = .ok (.getfield 9, 3) := by decide +kernel
theorem d_Factors_base_25 : decode prog_2_method_4_code 25 = .ok (.iload_n 1, 1) := by decide +kernel
theorem d_Factors_base_26 : decode prog_2_method_4_code 26 = .ok (.laload, 1) := by decide +kernel
theorem d_Factors_base_27 : decode prog_2_method_4_code 27 = .ok (.goto 4, 3) := by decide +kernel
theorem d_Factors_base_30 : decode prog_2_method_4_code 30 = .ok (.lconst 0, 1) := by decide +kernel
theorem d_Factors_base_31 : decode prog_2_method_4_code 31 = .ok (.lreturn, 1) := by decide +kernel
def cf_Factors_base (c : Nat) (a0 : Int32) (w : Wd) (P : Int64 → Prop) : Prop :=
  ((a0 < 0 → P (0 : Int64)) ∧ (¬ a0 < 0 → (((w.1 c 3) ≤ a0 → P (0 : Int64)) ∧ (¬ (w.1 c 3) ≤ a0 → (((31 : Int32) ≤ a0 → P (0 : Int64)) ∧ (¬ (31 : Int32) ≤ a0 → vp_in a0 31 ∧ P (w.2 (c + 1) a0.toNatClampNeg)))))))
theorem cf_Factors_base_ok {g : ayG} {d : Nat} (hd : 0 ≤ d) (c : Nat) (a0 : Int32) (hc : ay_sh c = (14, 0)) (w : Wd) (P : Int64 → Prop) (h : cf_Factors_base c a0 w P) : Call g y_Factors_base prog_2_method_4_code 2 (some FieldType.long) d [.ref (g.1 + c), .int a0] w (fun (r : Option Value) (w2 : Wd) => ∃ x, r = some (.long x) ∧ w = w2 ∧ P x) := by
  unfold cf_Factors_base at h
  refine am_enter mi_Factors_base (Nat.le_of_ble_eq_true rfl) ?_
  have hQ : ∀ x, P x → (fun (r : Option Value) (w2 : Wd) => ∃ x, r = some (.long x) ∧ w = w2 ∧ P x) (some (.long x)) w := fun x h => ⟨x, rfl, rfl, h⟩
  generalize (fun (r : Option Value) (w2 : Wd) => ∃ x, r = some (.long x) ∧ w = w2 ∧ P x) = Q at hQ ⊢
  show wp g (fun _ => True) y_Factors_base prog_2_method_4_code 2 (some FieldType.long) d 0 [(0, .ref (g.1 + c)), (1, .int a0)] [] w Q
  refine am_iload_n d_Factors_base_0 1 rfl ?_
  refine am_if_lt (tgt := 30) d_Factors_base_1 (by decide) (fun c1 => ?_) (fun c1 => ?_)
  · have h := h.1 c1
    refine am_lconst (v := 0) d_Factors_base_30 rfl ?_
    exact am_lreturn d_Factors_base_31 rfl (hQ (0 : Int64) h)
  · have h := h.2 c1
    refine am_iload_n d_Factors_base_4 1 rfl ?_
    refine am_aload_n d_Factors_base_5 0 rfl ?_
    refine am_getf (T := F_Factors) (fs := ob_Factors g w c) (C := R_Factors) (N := 5) (ci := 4) 3 d_Factors_base_6 wd_111 rfl (ay_shlt hc (by decide)) (el_Factors hc) rfl i_Factors (by decide) rfl ?_
    refine am_icmp_ge (tgt := 30) d_Factors_base_9 (by decide) (fun c9 => ?_) (fun c9 => ?_)
    · have h := h.1 c9
      refine am_lconst (v := 0) d_Factors_base_30 rfl ?_
      exact am_lreturn d_Factors_base_31 rfl (hQ (0 : Int64) h)
    · have h := h.2 c9
      refine am_iload_n d_Factors_base_12 1 rfl ?_
      refine am_aload_n d_Factors_base_13 0 rfl ?_
      refine am_getf (T := F_Factors) (fs := ob_Factors g w c) (C := R_Factors) (N := 5) (ci := 4) 0 d_Factors_base_14 wd_108 rfl (ay_shlt hc (by decide)) (el_Factors hc) rfl i_Factors (by decide) rfl ?_
      refine am_alen (v := 31) d_Factors_base_17 (sh_F1 hc) (by decide) rfl ?_
      refine am_icmp_ge (tgt := 30) d_Factors_base_18 (by decide) (fun c18 => ?_) (fun c18 => ?_)
      · have h := h.1 c18
        refine am_lconst (v := 0) d_Factors_base_30 rfl ?_
        exact am_lreturn d_Factors_base_31 rfl (hQ (0 : Int64) h)
      · have h := h.2 c18
        refine am_aload_n d_Factors_base_21 0 rfl ?_
        refine am_getf (T := F_Factors) (fs := ob_Factors g w c) (C := R_Factors) (N := 5) (ci := 4) 0 d_Factors_base_22 wd_108 rfl (ay_shlt hc (by decide)) (el_Factors hc) rfl i_Factors (by decide) rfl ?_
        refine am_iload_n d_Factors_base_25 1 rfl ?_
        have hi26 := h.1
        have h := h.2
        refine am_laload d_Factors_base_26 (sh_F1 hc) hi26 ?_
        refine am_goto (tgt := 31) d_Factors_base_27 (by decide) ?_
        exact am_lreturn d_Factors_base_31 rfl (hQ (w.2 (c + 1) a0.toNatClampNeg) h)
theorem d_Factors_often_0 : decode prog_2_method_5_code 0 = .ok (.iload_n 1, 1) := by decide +kernel
theorem d_Factors_often_1 : decode prog_2_method_5_code 1 = .ok (.ifCond .lt 29, 3) := by decide +kernel
theorem d_Factors_often_4 : decode prog_2_method_5_code 4 = .ok (.iload_n 1, 1) := by decide +kernel
theorem d_Factors_often_5 : decode prog_2_method_5_code 5 = .ok (.aload_n 0, 1) := by decide +kernel
theorem d_Factors_often_6 : decode prog_2_method_5_code 6 = .ok (.getfield 20, 3) := by decide +kernel
theorem d_Factors_often_9 : decode prog_2_method_5_code 9 = .ok (.if_icmp .ge 21, 3) := by decide +kernel
theorem d_Factors_often_12 : decode prog_2_method_5_code 12 = .ok (.iload_n 1, 1) := by decide +kernel
theorem d_Factors_often_13 : decode prog_2_method_5_code 13 = .ok (.aload_n 0, 1) := by decide +kernel
theorem d_Factors_often_14 : decode prog_2_method_5_code 14 = .ok (.getfield 13, 3) := by decide +kernel
theorem d_Factors_often_17 : decode prog_2_method_5_code 17 = .ok (.arraylength, 1) := by decide +kernel
theorem d_Factors_often_18 : decode prog_2_method_5_code 18 = .ok (.if_icmp .ge 12, 3) := by decide +kernel
theorem d_Factors_often_21 : decode prog_2_method_5_code 21 = .ok (.aload_n 0, 1) := by decide +kernel
theorem d_Factors_often_22 : decode prog_2_method_5_code 22 = .ok (.getfield 13, 3) := by decide +kernel
theorem d_Factors_often_25 : decode prog_2_method_5_code 25 = .ok (.iload_n 1, 1) := by decide +kernel
theorem d_Factors_often_26 : decode prog_2_method_5_code 26 = .ok (.iaload, 1) := by decide +kernel
theorem d_Factors_often_27 : decode prog_2_method_5_code 27 = .ok (.goto 4, 3) := by decide +kernel
theorem d_Factors_often_30 : decode prog_2_method_5_code 30 = .ok (.iconst 0, 1) := by decide +kernel
theorem d_Factors_often_31 : decode prog_2_method_5_code 31 = .ok (.ireturn, 1) := by decide +kernel
def cf_Factors_often (c : Nat) (a0 : Int32) (w : Wd) (P : Int32 → Prop) : Prop :=
  ((a0 < 0 → P (0 : Int32)) ∧ (¬ a0 < 0 → (((w.1 c 3) ≤ a0 → P (0 : Int32)) ∧ (¬ (w.1 c 3) ≤ a0 → (((31 : Int32) ≤ a0 → P (0 : Int32)) ∧ (¬ (31 : Int32) ≤ a0 → vp_in a0 31 ∧ P (w.1 (c + 2) a0.toNatClampNeg)))))))
theorem cf_Factors_often_ok {g : ayG} {d : Nat} (hd : 0 ≤ d) (c : Nat) (a0 : Int32) (hc : ay_sh c = (14, 0)) (w : Wd) (P : Int32 → Prop) (h : cf_Factors_often c a0 w P) : Call g y_Factors_often prog_2_method_5_code 2 (some FieldType.int) d [.ref (g.1 + c), .int a0] w (fun (r : Option Value) (w2 : Wd) => ∃ x, r = some (.int x) ∧ w = w2 ∧ P x) := by
  unfold cf_Factors_often at h
  refine am_enter mi_Factors_often (Nat.le_of_ble_eq_true rfl) ?_
  have hQ : ∀ x, P x → (fun (r : Option Value) (w2 : Wd) => ∃ x, r = some (.int x) ∧ w = w2 ∧ P x) (some (.int x)) w := fun x h => ⟨x, rfl, rfl, h⟩
  generalize (fun (r : Option Value) (w2 : Wd) => ∃ x, r = some (.int x) ∧ w = w2 ∧ P x) = Q at hQ ⊢
  show wp g (fun _ => True) y_Factors_often prog_2_method_5_code 2 (some FieldType.int) d 0 [(0, .ref (g.1 + c)), (1, .int a0)] [] w Q
  refine am_iload_n d_Factors_often_0 1 rfl ?_
  refine am_if_lt (tgt := 30) d_Factors_often_1 (by decide) (fun c1 => ?_) (fun c1 => ?_)
  · have h := h.1 c1
    refine am_iconst (v := 0) d_Factors_often_30 rfl ?_
    exact am_ireturn d_Factors_often_31 rfl rfl (hQ (0 : Int32) h)
  · have h := h.2 c1
    refine am_iload_n d_Factors_often_4 1 rfl ?_
    refine am_aload_n d_Factors_often_5 0 rfl ?_
    refine am_getf (T := F_Factors) (fs := ob_Factors g w c) (C := R_Factors) (N := 5) (ci := 4) 3 d_Factors_often_6 wd_111 rfl (ay_shlt hc (by decide)) (el_Factors hc) rfl i_Factors (by decide) rfl ?_
    refine am_icmp_ge (tgt := 30) d_Factors_often_9 (by decide) (fun c9 => ?_) (fun c9 => ?_)
    · have h := h.1 c9
      refine am_iconst (v := 0) d_Factors_often_30 rfl ?_
      exact am_ireturn d_Factors_often_31 rfl rfl (hQ (0 : Int32) h)
    · have h := h.2 c9
      refine am_iload_n d_Factors_often_12 1 rfl ?_
      refine am_aload_n d_Factors_often_13 0 rfl ?_
      refine am_getf (T := F_Factors) (fs := ob_Factors g w c) (C := R_Factors) (N := 5) (ci := 4) 1 d_Factors_often_14 wd_109 rfl (ay_shlt hc (by decide)) (el_Factors hc) rfl i_Factors (by decide) rfl ?_
      refine am_alen (v := 31) d_Factors_often_17 (sh_F2 hc) (by decide) rfl ?_
      refine am_icmp_ge (tgt := 30) d_Factors_often_18 (by decide) (fun c18 => ?_) (fun c18 => ?_)
      · have h := h.1 c18
        refine am_iconst (v := 0) d_Factors_often_30 rfl ?_
        exact am_ireturn d_Factors_often_31 rfl rfl (hQ (0 : Int32) h)
      · have h := h.2 c18
        refine am_aload_n d_Factors_often_21 0 rfl ?_
        refine am_getf (T := F_Factors) (fs := ob_Factors g w c) (C := R_Factors) (N := 5) (ci := 4) 1 d_Factors_often_22 wd_109 rfl (ay_shlt hc (by decide)) (el_Factors hc) rfl i_Factors (by decide) rfl ?_
        refine am_iload_n d_Factors_often_25 1 rfl ?_
        have hi26 := h.1
        have h := h.2
        refine am_iaload d_Factors_often_26 (sh_F2 hc) hi26 ?_
        refine am_goto (tgt := 31) d_Factors_often_27 (by decide) ?_
        exact am_ireturn d_Factors_often_31 rfl rfl (hQ (w.1 (c + 2) a0.toNatClampNeg) h)
theorem d_Factors_greatestDegree_0 : decode prog_2_method_6_code 0 = .ok (.aload_n 0, 1) := by decide +kernel
theorem d_Factors_greatestDegree_1 : decode prog_2_method_6_code 1 = .ok (.getfield 20, 3) := by decide +kernel
theorem d_Factors_greatestDegree_4 : decode prog_2_method_6_code 4 = .ok (.ifCond .ne 7, 3) := by decide +kernel
theorem d_Factors_greatestDegree_7 : decode prog_2_method_6_code 7 = .ok (.iconst 0, 1) := by decide +kernel
theorem d_Factors_greatestDegree_8 : decode prog_2_method_6_code 8 = .ok (.goto 16, 3) := by decide +kernel
theorem d_Factors_greatestDegree_11 : decode prog_2_method_6_code 11 = .ok (.aload_n 0, 1) := by decide +kernel
theorem d_Factors_greatestDegree_12 : decode prog_2_method_6_code 12 = .ok (.aload_n 0, 1) := by decide +kernel
theorem d_Factors_greatestDegree_13 : decode prog_2_method_6_code 13 = .ok (.getfield 20, 3) := by decide +kernel
theorem d_Factors_greatestDegree_16 : decode prog_2_method_6_code 16 = .ok (.iconst 1, 1) := by decide +kernel
theorem d_Factors_greatestDegree_17 : decode prog_2_method_6_code 17 = .ok (.isub, 1) := by decide +kernel
theorem d_Factors_greatestDegree_18 : decode prog_2_method_6_code 18 = .ok (.invokevirtual 27, 3) := by decide +kernel
theorem d_Factors_greatestDegree_21 : decode prog_2_method_6_code 21 = .ok (.invokestatic 31, 3) := by decide +kernel
theorem d_Factors_greatestDegree_24 : decode prog_2_method_6_code 24 = .ok (.ireturn, 1) := by decide +kernel
def cf_Factors_greatestDegree (c : Nat) (w : Wd) (P : Int32 → Prop) : Prop :=
  ((¬ (w.1 c 3) = 0 → cf_Factors_base c ((w.1 c 3) - (1 : Int32)) w (fun r1 => cf_Polys_degree r1 (fun r2 => P r2))) ∧ ((w.1 c 3) = 0 → P (0 : Int32)))
theorem cf_Factors_greatestDegree_ok {g : ayG} {d : Nat} (hd : 3 ≤ d) (c : Nat) (hc : ay_sh c = (14, 0)) (w : Wd) (P : Int32 → Prop) (h : cf_Factors_greatestDegree c w P) : Call g y_Factors_greatestDegree prog_2_method_6_code 1 (some FieldType.int) d [.ref (g.1 + c)] w (fun (r : Option Value) (w2 : Wd) => ∃ x, r = some (.int x) ∧ w = w2 ∧ P x) := by
  unfold cf_Factors_greatestDegree at h
  refine am_enter mi_Factors_greatestDegree (Nat.le_of_ble_eq_true rfl) ?_
  have hQ : ∀ x, P x → (fun (r : Option Value) (w2 : Wd) => ∃ x, r = some (.int x) ∧ w = w2 ∧ P x) (some (.int x)) w := fun x h => ⟨x, rfl, rfl, h⟩
  generalize (fun (r : Option Value) (w2 : Wd) => ∃ x, r = some (.int x) ∧ w = w2 ∧ P x) = Q at hQ ⊢
  show wp g (fun _ => True) y_Factors_greatestDegree prog_2_method_6_code 1 (some FieldType.int) d 0 [(0, .ref (g.1 + c))] [] w Q
  refine am_aload_n d_Factors_greatestDegree_0 0 rfl ?_
  refine am_getf (T := F_Factors) (fs := ob_Factors g w c) (C := R_Factors) (N := 5) (ci := 4) 3 d_Factors_greatestDegree_1 wd_111 rfl (ay_shlt hc (by decide)) (el_Factors hc) rfl i_Factors (by decide) rfl ?_
  refine am_if_ne (tgt := 11) d_Factors_greatestDegree_4 (by decide) (fun c4 => ?_) (fun c4 => ?_)
  · have h := h.1 c4
    refine am_aload_n d_Factors_greatestDegree_11 0 rfl ?_
    refine am_aload_n d_Factors_greatestDegree_12 0 rfl ?_
    refine am_getf (T := F_Factors) (fs := ob_Factors g w c) (C := R_Factors) (N := 5) (ci := 4) 3 d_Factors_greatestDegree_13 wd_111 rfl (ay_shlt hc (by decide)) (el_Factors hc) rfl i_Factors (by decide) rfl ?_
    refine am_iconst (v := 1) d_Factors_greatestDegree_16 rfl ?_
    refine am_isub d_Factors_greatestDegree_17 ?_
    refine am_callV (C := "TriSplits$Factors") (d2 := d - 1) [.int ((w.1 c 3) - (1 : Int32))] d_Factors_greatestDegree_18 mi_Factors_base wd_720 wd_721 wd_722 (ay_shlt hc (by decide)) (el_Factors hc) rfl rfl (by omega) rfl rfl (Nat.le_of_ble_eq_true rfl) ?_
    refine Call.post ?_ (cf_Factors_base_ok (by omega) c ((w.1 c 3) - (1 : Int32)) hc w _ h)
    rintro _ _ ⟨r1, rfl, rfl, h⟩
    show wp g (fun _ => True) y_Factors_greatestDegree prog_2_method_6_code 1 (some FieldType.int) d 21 [(0, .ref (g.1 + c))] [.long r1] w Q
    refine am_callS (d2 := d - 1) [.long r1] d_Factors_greatestDegree_21 mi_Polys_degree wd_678 wd_391 (by omega) rfl rfl (Nat.le_of_ble_eq_true rfl) ?_
    refine Call.post ?_ (cf_Polys_degree_ok (by omega) r1  w _ h)
    rintro _ _ ⟨r2, rfl, rfl, h⟩
    show wp g (fun _ => True) y_Factors_greatestDegree prog_2_method_6_code 1 (some FieldType.int) d 24 [(0, .ref (g.1 + c))] [.int r2] w Q
    exact am_ireturn d_Factors_greatestDegree_24 rfl rfl (hQ r2 h)
  · have h := h.2 c4
    refine am_iconst (v := 0) d_Factors_greatestDegree_7 rfl ?_
    refine am_goto (tgt := 24) d_Factors_greatestDegree_8 (by decide) ?_
    exact am_ireturn d_Factors_greatestDegree_24 rfl rfl (hQ (0 : Int32) h)
theorem d_Factors_ofOneDegree_0 : decode prog_2_method_7_code 0 = .ok (.iconst 0, 1) := by decide +kernel
theorem d_Factors_ofOneDegree_1 : decode prog_2_method_7_code 1 = .ok (.istore_n 2, 1) := by decide +kernel
theorem d_Factors_ofOneDegree_2 : decode prog_2_method_7_code 2 = .ok (.iconst 0, 1) := by decide +kernel
theorem d_Factors_ofOneDegree_3 : decode prog_2_method_7_code 3 = .ok (.istore_n 3, 1) := by decide +kernel
theorem d_Factors_ofOneDegree_4 : decode prog_2_method_7_code 4 = .ok (.iload_n 3, 1) := by decide +kernel
theorem d_Factors_ofOneDegree_5 : decode prog_2_method_7_code 5 = .ok (.aload_n 0, 1) := by decide +kernel
theorem d_Factors_ofOneDegree_6 : decode prog_2_method_7_code 6 = .ok (.getfield 20, 3) := by decide +kernel
theorem d_Factors_ofOneDegree_9 : decode prog_2_method_7_code 9 = .ok (.if_icmp .ge 29, 3) := by decide +kernel
theorem d_Factors_ofOneDegree_12 : decode prog_2_method_7_code 12 = .ok (.aload_n 0, 1) := by decide +kernel
theorem d_Factors_ofOneDegree_13 : decode prog_2_method_7_code 13 = .ok (.iload_n 3, 1) := by decide +kernel
theorem d_Factors_ofOneDegree_14 : decode prog_2_method_7_code 14 = .ok (.invokevirtual 27, 3) := by decide +kernel
theorem d_Factors_ofOneDegree_17 : decode prog_2_method_7_code 17 = .ok (.invokestatic 31, 3) := by decide +kernel
theorem d_Factors_ofOneDegree_20 : decode prog_2_method_7_code 20 = .ok (.iload_n 1, 1) := by decide +kernel
theorem d_Factors_ofOneDegree_21 : decode prog_2_method_7_code 21 = .ok (.if_icmp .ne 11, 3) := by decide +kernel
theorem d_Factors_ofOneDegree_24 : decode prog_2_method_7_code 24 = .ok (.iload_n 2, 1) := by decide +kernel
theorem d_Factors_ofOneDegree_25 : decode prog_2_method_7_code 25 = .ok (.aload_n 0, 1) := by decide +kernel
theorem d_Factors_ofOneDegree_26 : decode prog_2_method_7_code 26 = .ok (.iload_n 3, 1) := by decide +kernel
theorem d_Factors_ofOneDegree_27 : decode prog_2_method_7_code 27 = .ok (.invokevirtual 37, 3) := by decide +kernel
theorem d_Factors_ofOneDegree_30 : decode prog_2_method_7_code 30 = .ok (.iadd, 1) := by decide +kernel
theorem d_Factors_ofOneDegree_31 : decode prog_2_method_7_code 31 = .ok (.istore_n 2, 1) := by decide +kernel
theorem d_Factors_ofOneDegree_32 : decode prog_2_method_7_code 32 = .ok (.iinc 3 1, 3) := by decide +kernel
theorem d_Factors_ofOneDegree_35 : decode prog_2_method_7_code 35 = .ok (.goto (-31), 3) := by decide +kernel
theorem d_Factors_ofOneDegree_38 : decode prog_2_method_7_code 38 = .ok (.iload_n 2, 1) := by decide +kernel
theorem d_Factors_ofOneDegree_39 : decode prog_2_method_7_code 39 = .ok (.ireturn, 1) := by decide +kernel
def cf_Factors_ofOneDegree_B4 (c : Nat) (w : Wd) (K4 : Int32 → Int32 → Int32 → Prop) (P : Int32 → Prop) (x1 : Int32) (x2 : Int32) (x3 : Int32)  : Prop :=
  (((w.1 c 3) ≤ x3 → P x2) ∧ (¬ (w.1 c 3) ≤ x3 → cf_Factors_base c x3 w (fun r1 => cf_Polys_degree r1 (fun r2 => ((¬ r2 = x1 → ∀ v3, v3 = x3 + (1 : Int32) → K4 x1 x2 v3) ∧ (r2 = x1 → cf_Factors_often c x3 w (fun r4 => ∀ v5, v5 = x2 + r4 → ∀ v6, v6 = x3 + (1 : Int32) → K4 x1 v5 v6)))))))
def cf_Factors_ofOneDegree_L4 (c : Nat) (w : Wd)  (P : Int32 → Prop) : Nat → Int32 → Int32 → Int32 → Prop
  | 0 => fun x1 x2 x3 => False
  | n + 1 => fun x1 x2 x3 => cf_Factors_ofOneDegree_B4 c w (cf_Factors_ofOneDegree_L4 c w P n) P x1 x2 x3
def cf_Factors_ofOneDegree (c : Nat) (a0 : Int32) (w : Wd) (P : Int32 → Prop) : Prop :=
  ∃ n, cf_Factors_ofOneDegree_L4 c w P n a0 (0 : Int32) (0 : Int32)
theorem cf_Factors_ofOneDegree_B4_ok {g : ayG} {d : Nat} (hd : 3 ≤ d) (c : Nat) (hc : ay_sh c = (14, 0)) (w : Wd) (K4 : Int32 → Int32 → Int32 → Prop) (P : Int32 → Prop) (Q : Option Value → Wd → Prop) (hQ : ∀ x, P x → Q (some (.int x)) w) (hK4 : ∀ (x1 : Int32) (x2 : Int32) (x3 : Int32), (K4 x1 x2 x3 → wp g (fun _ => True) y_Factors_ofOneDegree prog_2_method_7_code 4 (some FieldType.int) d 4 [(0, .ref (g.1 + c)), (1, .int x1), (2, .int x2), (3, .int x3)] [] w Q)) (x1 : Int32) (x2 : Int32) (x3 : Int32) (h : cf_Factors_ofOneDegree_B4 c w K4 P x1 x2 x3) : wp g (fun _ => True) y_Factors_ofOneDegree prog_2_method_7_code 4 (some FieldType.int) d 4 [(0, .ref (g.1 + c)), (1, .int x1), (2, .int x2), (3, .int x3)] [] w Q := by
  unfold cf_Factors_ofOneDegree_B4 at h
  refine am_iload_n d_Factors_ofOneDegree_4 3 rfl ?_
  refine am_aload_n d_Factors_ofOneDegree_5 0 rfl ?_
  refine am_getf (T := F_Factors) (fs := ob_Factors g w c) (C := R_Factors) (N := 5) (ci := 4) 3 d_Factors_ofOneDegree_6 wd_111 rfl (ay_shlt hc (by decide)) (el_Factors hc) rfl i_Factors (by decide) rfl ?_
  refine am_icmp_ge (tgt := 38) d_Factors_ofOneDegree_9 (by decide) (fun c9 => ?_) (fun c9 => ?_)
  · have h := h.1 c9
    refine am_iload_n d_Factors_ofOneDegree_38 2 rfl ?_
    exact am_ireturn d_Factors_ofOneDegree_39 rfl rfl (hQ x2 h)
  · have h := h.2 c9
    refine am_aload_n d_Factors_ofOneDegree_12 0 rfl ?_
    refine am_iload_n d_Factors_ofOneDegree_13 3 rfl ?_
    refine am_callV (C := "TriSplits$Factors") (d2 := d - 1) [.int x3] d_Factors_ofOneDegree_14 mi_Factors_base wd_720 wd_721 wd_722 (ay_shlt hc (by decide)) (el_Factors hc) rfl rfl (by omega) rfl rfl (Nat.le_of_ble_eq_true rfl) ?_
    refine Call.post ?_ (cf_Factors_base_ok (by omega) c x3 hc w _ h)
    rintro _ _ ⟨r1, rfl, rfl, h⟩
    show wp g (fun _ => True) y_Factors_ofOneDegree prog_2_method_7_code 4 (some FieldType.int) d 17 [(0, .ref (g.1 + c)), (1, .int x1), (2, .int x2), (3, .int x3)] [.long r1] w Q
    refine am_callS (d2 := d - 1) [.long r1] d_Factors_ofOneDegree_17 mi_Polys_degree wd_678 wd_391 (by omega) rfl rfl (Nat.le_of_ble_eq_true rfl) ?_
    refine Call.post ?_ (cf_Polys_degree_ok (by omega) r1  w _ h)
    rintro _ _ ⟨r2, rfl, rfl, h⟩
    show wp g (fun _ => True) y_Factors_ofOneDegree prog_2_method_7_code 4 (some FieldType.int) d 20 [(0, .ref (g.1 + c)), (1, .int x1), (2, .int x2), (3, .int x3)] [.int r2] w Q
    refine am_iload_n d_Factors_ofOneDegree_20 1 rfl ?_
    refine am_icmp_ne (tgt := 32) d_Factors_ofOneDegree_21 (by decide) (fun c21 => ?_) (fun c21 => ?_)
    · have h := h.1 c21
      obtain ⟨v3, ev3⟩ : ∃ z : Int32, z = x3 + (1 : Int32) := ⟨_, rfl⟩
      have h := h v3 ev3
      refine am_iinc (v := v3) (l' := [(3, .int v3), (0, .ref (g.1 + c)), (1, .int x1), (2, .int x2)]) d_Factors_ofOneDegree_32 3 rfl (by rw [ev3]; rfl) (by decide) rfl ?_
      refine am_goto (tgt := 4) d_Factors_ofOneDegree_35 (by decide) ?_
      refine am_sub [1, 2, 3, 0] rfl ?_
      exact hK4 x1 x2 v3 h
    · have h := h.2 c21
      refine am_iload_n d_Factors_ofOneDegree_24 2 rfl ?_
      refine am_aload_n d_Factors_ofOneDegree_25 0 rfl ?_
      refine am_iload_n d_Factors_ofOneDegree_26 3 rfl ?_
      refine am_callV (C := "TriSplits$Factors") (d2 := d - 1) [.int x3] d_Factors_ofOneDegree_27 mi_Factors_often wd_732 wd_733 wd_734 (ay_shlt hc (by decide)) (el_Factors hc) rfl rfl (by omega) rfl rfl (Nat.le_of_ble_eq_true rfl) ?_
      refine Call.post ?_ (cf_Factors_often_ok (by omega) c x3 hc w _ h)
      rintro _ _ ⟨r4, rfl, rfl, h⟩
      show wp g (fun _ => True) y_Factors_ofOneDegree prog_2_method_7_code 4 (some FieldType.int) d 30 [(0, .ref (g.1 + c)), (1, .int x1), (2, .int x2), (3, .int x3)] [.int r4, .int x2] w Q
      refine am_iadd d_Factors_ofOneDegree_30 ?_
      refine am_topi (fun v5 ev5 => ?_)
      have h := h v5 ev5
      refine am_istore_n (l' := [(2, .int v5), (0, .ref (g.1 + c)), (1, .int x1), (3, .int x3)]) d_Factors_ofOneDegree_31 (by decide) rfl ?_
      obtain ⟨v6, ev6⟩ : ∃ z : Int32, z = x3 + (1 : Int32) := ⟨_, rfl⟩
      have h := h v6 ev6
      refine am_iinc (v := v6) (l' := [(3, .int v6), (2, .int v5), (0, .ref (g.1 + c)), (1, .int x1)]) d_Factors_ofOneDegree_32 3 rfl (by rw [ev6]; rfl) (by decide) rfl ?_
      refine am_goto (tgt := 4) d_Factors_ofOneDegree_35 (by decide) ?_
      refine am_sub [2, 3, 1, 0] rfl ?_
      exact hK4 x1 v5 v6 h
theorem cf_Factors_ofOneDegree_L4_ok {g : ayG} {d : Nat} (hd : 3 ≤ d) (c : Nat) (hc : ay_sh c = (14, 0)) (w : Wd)  (P : Int32 → Prop) (Q : Option Value → Wd → Prop) (hQ : ∀ x, P x → Q (some (.int x)) w)  : ∀ (n : Nat) (x1 : Int32) (x2 : Int32) (x3 : Int32) (h : cf_Factors_ofOneDegree_L4 c w P n x1 x2 x3), wp g (fun _ => True) y_Factors_ofOneDegree prog_2_method_7_code 4 (some FieldType.int) d 4 [(0, .ref (g.1 + c)), (1, .int x1), (2, .int x2), (3, .int x3)] [] w Q
  | 0, x1, x2, x3, h => False.elim h
  | n + 1, x1, x2, x3, h => cf_Factors_ofOneDegree_B4_ok hd c hc w (cf_Factors_ofOneDegree_L4 c w P n) P Q hQ (fun x1 x2 x3 h => cf_Factors_ofOneDegree_L4_ok hd c hc w  P Q hQ  n x1 x2 x3 h) x1 x2 x3 h
theorem cf_Factors_ofOneDegree_ok {g : ayG} {d : Nat} (hd : 3 ≤ d) (c : Nat) (a0 : Int32) (hc : ay_sh c = (14, 0)) (w : Wd) (P : Int32 → Prop) (h : cf_Factors_ofOneDegree c a0 w P) : Call g y_Factors_ofOneDegree prog_2_method_7_code 4 (some FieldType.int) d [.ref (g.1 + c), .int a0] w (fun (r : Option Value) (w2 : Wd) => ∃ x, r = some (.int x) ∧ w = w2 ∧ P x) := by
  unfold cf_Factors_ofOneDegree at h
  refine am_enter mi_Factors_ofOneDegree (Nat.le_of_ble_eq_true rfl) ?_
  have hQ : ∀ x, P x → (fun (r : Option Value) (w2 : Wd) => ∃ x, r = some (.int x) ∧ w = w2 ∧ P x) (some (.int x)) w := fun x h => ⟨x, rfl, rfl, h⟩
  generalize (fun (r : Option Value) (w2 : Wd) => ∃ x, r = some (.int x) ∧ w = w2 ∧ P x) = Q at hQ ⊢
  show wp g (fun _ => True) y_Factors_ofOneDegree prog_2_method_7_code 4 (some FieldType.int) d 0 [(0, .ref (g.1 + c)), (1, .int a0)] [] w Q
  refine am_iconst (v := 0) d_Factors_ofOneDegree_0 rfl ?_
  refine am_istore_n (l' := [(2, .int (0 : Int32)), (0, .ref (g.1 + c)), (1, .int a0)]) d_Factors_ofOneDegree_1 (by decide) rfl ?_
  refine am_iconst (v := 0) d_Factors_ofOneDegree_2 rfl ?_
  refine am_istore_n (l' := [(3, .int (0 : Int32)), (2, .int (0 : Int32)), (0, .ref (g.1 + c)), (1, .int a0)]) d_Factors_ofOneDegree_3 (by decide) rfl ?_
  refine am_sub [2, 3, 1, 0] rfl ?_
  obtain ⟨n, h⟩ := h
  exact cf_Factors_ofOneDegree_L4_ok (by omega) c hc w  P Q hQ  n a0 (0 : Int32) (0 : Int32) h
theorem d_Factors_inOrder_0 : decode prog_2_method_8_code 0 = .ok (.iload_n 1, 1) := by decide +kernel
theorem d_Factors_inOrder_1 : decode prog_2_method_8_code 1 = .ok (.istore_n 2, 1) := by decide +kernel
theorem d_Factors_inOrder_2 : decode prog_2_method_8_code 2 = .ok (.iconst 0, 1) := by decide +kernel
theorem d_Factors_inOrder_3 : decode prog_2_method_8_code 3 = .ok (.istore_n 3, 1) := by decide +kernel
theorem d_Factors_inOrder_4 : decode prog_2_method_8_code 4 = .ok (.iload_n 3, 1) := by decide +kernel
theorem d_Factors_inOrder_5 : decode prog_2_method_8_code 5 = .ok (.aload_n 0, 1) := by decide +kernel
theorem d_Factors_inOrder_6 : decode prog_2_method_8_code 6 = .ok (.getfield 20, 3) := by decide +kernel
theorem d_Factors_inOrder_9 : decode prog_2_method_8_code 9 = .ok (.if_icmp .ge 32, 3) := by decide +kernel
theorem d_Factors_inOrder_12 : decode prog_2_method_8_code 12 = .ok (.iload_n 2, 1) := by decide +kernel
theorem d_Factors_inOrder_13 : decode prog_2_method_8_code 13 = .ok (.aload_n 0, 1) := by decide +kernel
theorem d_Factors_inOrder_14 : decode prog_2_method_8_code 14 = .ok (.iload_n 3, 1) := by decide +kernel
theorem d_Factors_inOrder_15 : decode prog_2_method_8_code 15 = .ok (.invokevirtual 37, 3) := by decide +kernel
theorem d_Factors_inOrder_18 : decode prog_2_method_8_code 18 = .ok (.if_icmp .ge 9, 3) := by decide +kernel
theorem d_Factors_inOrder_21 : decode prog_2_method_8_code 21 = .ok (.aload_n 0, 1) := by decide +kernel
theorem d_Factors_inOrder_22 : decode prog_2_method_8_code 22 = .ok (.iload_n 3, 1) := by decide +kernel
theorem d_Factors_inOrder_23 : decode prog_2_method_8_code 23 = .ok (.invokevirtual 27, 3) := by decide +kernel
theorem d_Factors_inOrder_26 : decode prog_2_method_8_code 26 = .ok (.lreturn, 1) := by decide +kernel
theorem d_Factors_inOrder_27 : decode prog_2_method_8_code 27 = .ok (.iload_n 2, 1) := by decide +kernel
theorem d_Factors_inOrder_28 : decode prog_2_method_8_code 28 = .ok (.aload_n 0, 1) := by decide +kernel
theorem d_Factors_inOrder_29 : decode prog_2_method_8_code 29 = .ok (.iload_n 3, 1) := by decide +kernel
theorem d_Factors_inOrder_30 : decode prog_2_method_8_code 30 = .ok (.invokevirtual 37, 3) := by decide +kernel
theorem d_Factors_inOrder_33 : decode prog_2_method_8_code 33 = .ok (.isub, 1) := by decide +kernel
theorem d_Factors_inOrder_34 : decode prog_2_method_8_code 34 = .ok (.istore_n 2, 1) := by decide +kernel
theorem d_Factors_inOrder_35 : decode prog_2_method_8_code 35 = .ok (.iinc 3 1, 3) := by decide +kernel
theorem d_Factors_inOrder_38 : decode prog_2_method_8_code 38 = .ok (.goto (-34), 3) := by decide +kernel
theorem d_Factors_inOrder_41 : decode prog_2_method_8_code 41 = .ok (.lconst 0, 1) := by decide +kernel
theorem d_Factors_inOrder_42 : decode prog_2_method_8_code 42 = .ok (.lreturn, 1) := by decide +kernel
def cf_Factors_inOrder_B4 (c : Nat) (w : Wd) (K4 : Int32 → Int32 → Prop) (P : Int64 → Prop) (x2 : Int32) (x3 : Int32)  : Prop :=
  (((w.1 c 3) ≤ x3 → P (0 : Int64)) ∧ (¬ (w.1 c 3) ≤ x3 → cf_Factors_often c x3 w (fun r1 => ((r1 ≤ x2 → cf_Factors_often c x3 w (fun r2 => ∀ v3, v3 = x2 - r2 → ∀ v4, v4 = x3 + (1 : Int32) → K4 v3 v4)) ∧ (¬ r1 ≤ x2 → cf_Factors_base c x3 w (fun r5 => P r5))))))
def cf_Factors_inOrder_L4 (c : Nat) (w : Wd)  (P : Int64 → Prop) : Nat → Int32 → Int32 → Prop
  | 0 => fun x2 x3 => False
  | n + 1 => fun x2 x3 => cf_Factors_inOrder_B4 c w (cf_Factors_inOrder_L4 c w P n) P x2 x3
def cf_Factors_inOrder (c : Nat) (a0 : Int32) (w : Wd) (P : Int64 → Prop) : Prop :=
  ∃ n, cf_Factors_inOrder_L4 c w P n a0 (0 : Int32)
theorem cf_Factors_inOrder_B4_ok {g : ayG} {d : Nat} (hd : 1 ≤ d) (c : Nat) (hc : ay_sh c = (14, 0)) (w : Wd) (K4 : Int32 → Int32 → Prop) (P : Int64 → Prop) (Q : Option Value → Wd → Prop) (hQ : ∀ x, P x → Q (some (.long x)) w) (hK4 : ∀ (x2 : Int32) (x3 : Int32), (K4 x2 x3 → wp g (fun _ => True) y_Factors_inOrder prog_2_method_8_code 4 (some FieldType.long) d 4 [(0, .ref (g.1 + c)), (2, .int x2), (3, .int x3)] [] w Q)) (x2 : Int32) (x3 : Int32) (h : cf_Factors_inOrder_B4 c w K4 P x2 x3) : wp g (fun _ => True) y_Factors_inOrder prog_2_method_8_code 4 (some FieldType.long) d 4 [(0, .ref (g.1 + c)), (2, .int x2), (3, .int x3)] [] w Q := by
  unfold cf_Factors_inOrder_B4 at h
  refine am_iload_n d_Factors_inOrder_4 2 rfl ?_
  refine am_aload_n d_Factors_inOrder_5 0 rfl ?_
  refine am_getf (T := F_Factors) (fs := ob_Factors g w c) (C := R_Factors) (N := 5) (ci := 4) 3 d_Factors_inOrder_6 wd_111 rfl (ay_shlt hc (by decide)) (el_Factors hc) rfl i_Factors (by decide) rfl ?_
  refine am_icmp_ge (tgt := 41) d_Factors_inOrder_9 (by decide) (fun c9 => ?_) (fun c9 => ?_)
  · have h := h.1 c9
    refine am_lconst (v := 0) d_Factors_inOrder_41 rfl ?_
    exact am_lreturn d_Factors_inOrder_42 rfl (hQ (0 : Int64) h)
  · have h := h.2 c9
    refine am_iload_n d_Factors_inOrder_12 1 rfl ?_
    refine am_aload_n d_Factors_inOrder_13 0 rfl ?_
    refine am_iload_n d_Factors_inOrder_14 2 rfl ?_
    refine am_callV (C := "TriSplits$Factors") (d2 := d - 1) [.int x3] d_Factors_inOrder_15 mi_Factors_often wd_732 wd_733 wd_734 (ay_shlt hc (by decide)) (el_Factors hc) rfl rfl (by omega) rfl rfl (Nat.le_of_ble_eq_true rfl) ?_
    refine Call.post ?_ (cf_Factors_often_ok (by omega) c x3 hc w _ h)
    rintro _ _ ⟨r1, rfl, rfl, h⟩
    show wp g (fun _ => True) y_Factors_inOrder prog_2_method_8_code 4 (some FieldType.long) d 18 [(0, .ref (g.1 + c)), (2, .int x2), (3, .int x3)] [.int r1, .int x2] w Q
    refine am_icmp_ge (tgt := 27) d_Factors_inOrder_18 (by decide) (fun c18 => ?_) (fun c18 => ?_)
    · have h := h.1 c18
      refine am_iload_n d_Factors_inOrder_27 1 rfl ?_
      refine am_aload_n d_Factors_inOrder_28 0 rfl ?_
      refine am_iload_n d_Factors_inOrder_29 2 rfl ?_
      refine am_callV (C := "TriSplits$Factors") (d2 := d - 1) [.int x3] d_Factors_inOrder_30 mi_Factors_often wd_732 wd_733 wd_734 (ay_shlt hc (by decide)) (el_Factors hc) rfl rfl (by omega) rfl rfl (Nat.le_of_ble_eq_true rfl) ?_
      refine Call.post ?_ (cf_Factors_often_ok (by omega) c x3 hc w _ h)
      rintro _ _ ⟨r2, rfl, rfl, h⟩
      show wp g (fun _ => True) y_Factors_inOrder prog_2_method_8_code 4 (some FieldType.long) d 33 [(0, .ref (g.1 + c)), (2, .int x2), (3, .int x3)] [.int r2, .int x2] w Q
      refine am_isub d_Factors_inOrder_33 ?_
      refine am_topi (fun v3 ev3 => ?_)
      have h := h v3 ev3
      refine am_istore_n (l' := [(2, .int v3), (0, .ref (g.1 + c)), (3, .int x3)]) d_Factors_inOrder_34 (by decide) rfl ?_
      obtain ⟨v4, ev4⟩ : ∃ z : Int32, z = x3 + (1 : Int32) := ⟨_, rfl⟩
      have h := h v4 ev4
      refine am_iinc (v := v4) (l' := [(3, .int v4), (2, .int v3), (0, .ref (g.1 + c))]) d_Factors_inOrder_35 2 rfl (by rw [ev4]; rfl) (by decide) rfl ?_
      refine am_goto (tgt := 4) d_Factors_inOrder_38 (by decide) ?_
      refine am_sub [2, 1, 0] rfl ?_
      exact hK4 v3 v4 h
    · have h := h.2 c18
      refine am_aload_n d_Factors_inOrder_21 0 rfl ?_
      refine am_iload_n d_Factors_inOrder_22 2 rfl ?_
      refine am_callV (C := "TriSplits$Factors") (d2 := d - 1) [.int x3] d_Factors_inOrder_23 mi_Factors_base wd_720 wd_721 wd_722 (ay_shlt hc (by decide)) (el_Factors hc) rfl rfl (by omega) rfl rfl (Nat.le_of_ble_eq_true rfl) ?_
      refine Call.post ?_ (cf_Factors_base_ok (by omega) c x3 hc w _ h)
      rintro _ _ ⟨r5, rfl, rfl, h⟩
      show wp g (fun _ => True) y_Factors_inOrder prog_2_method_8_code 4 (some FieldType.long) d 26 [(0, .ref (g.1 + c)), (2, .int x2), (3, .int x3)] [.long r5] w Q
      exact am_lreturn d_Factors_inOrder_26 rfl (hQ r5 h)
theorem cf_Factors_inOrder_L4_ok {g : ayG} {d : Nat} (hd : 1 ≤ d) (c : Nat) (hc : ay_sh c = (14, 0)) (w : Wd)  (P : Int64 → Prop) (Q : Option Value → Wd → Prop) (hQ : ∀ x, P x → Q (some (.long x)) w)  : ∀ (n : Nat) (x2 : Int32) (x3 : Int32) (h : cf_Factors_inOrder_L4 c w P n x2 x3), wp g (fun _ => True) y_Factors_inOrder prog_2_method_8_code 4 (some FieldType.long) d 4 [(0, .ref (g.1 + c)), (2, .int x2), (3, .int x3)] [] w Q
  | 0, x2, x3, h => False.elim h
  | n + 1, x2, x3, h => cf_Factors_inOrder_B4_ok hd c hc w (cf_Factors_inOrder_L4 c w P n) P Q hQ (fun x2 x3 h => cf_Factors_inOrder_L4_ok hd c hc w  P Q hQ  n x2 x3 h) x2 x3 h
theorem cf_Factors_inOrder_ok {g : ayG} {d : Nat} (hd : 1 ≤ d) (c : Nat) (a0 : Int32) (hc : ay_sh c = (14, 0)) (w : Wd) (P : Int64 → Prop) (h : cf_Factors_inOrder c a0 w P) : Call g y_Factors_inOrder prog_2_method_8_code 4 (some FieldType.long) d [.ref (g.1 + c), .int a0] w (fun (r : Option Value) (w2 : Wd) => ∃ x, r = some (.long x) ∧ w = w2 ∧ P x) := by
  unfold cf_Factors_inOrder at h
  refine am_enter mi_Factors_inOrder (Nat.le_of_ble_eq_true rfl) ?_
  have hQ : ∀ x, P x → (fun (r : Option Value) (w2 : Wd) => ∃ x, r = some (.long x) ∧ w = w2 ∧ P x) (some (.long x)) w := fun x h => ⟨x, rfl, rfl, h⟩
  generalize (fun (r : Option Value) (w2 : Wd) => ∃ x, r = some (.long x) ∧ w = w2 ∧ P x) = Q at hQ ⊢
  show wp g (fun _ => True) y_Factors_inOrder prog_2_method_8_code 4 (some FieldType.long) d 0 [(0, .ref (g.1 + c)), (1, .int a0)] [] w Q
  refine am_iload_n d_Factors_inOrder_0 1 rfl ?_
  refine am_istore_n (l' := [(2, .int a0), (0, .ref (g.1 + c)), (1, .int a0)]) d_Factors_inOrder_1 (by decide) rfl ?_
  refine am_iconst (v := 0) d_Factors_inOrder_2 rfl ?_
  refine am_istore_n (l' := [(3, .int (0 : Int32)), (2, .int a0), (0, .ref (g.1 + c)), (1, .int a0)]) d_Factors_inOrder_3 (by decide) rfl ?_
  refine am_sub [2, 1, 0] rfl ?_
  obtain ⟨n, h⟩ := h
  exact cf_Factors_inOrder_L4_ok (by omega) c hc w  P Q hQ  n a0 (0 : Int32) h
theorem d_Factors_hasSameAs_0 : decode prog_2_method_9_code 0 = .ok (.aload_n 1, 1) := by decide +kernel
theorem d_Factors_hasSameAs_1 : decode prog_2_method_9_code 1 = .ok (.ifnull 14, 3) := by decide +kernel
theorem d_Factors_hasSameAs_4 : decode prog_2_method_9_code 4 = .ok (.aload_n 0, 1) := by decide +kernel
theorem d_Factors_hasSameAs_5 : decode prog_2_method_9_code 5 = .ok (.getfield 20, 3) := by decide +kernel
theorem d_Factors_hasSameAs_8 : decode prog_2_method_9_code 8 = .ok (.aload_n 1, 1) := by decide +kernel
theorem d_Factors_hasSameAs_9 : decode prog_2_method_9_code 9 = .ok (.getfield 20, 3) := by decide +kernel
theorem d_Factors_hasSameAs_12 : decode prog_2_method_9_code 12 = .ok (.if_icmp .eq 5, 3) := by decide +kernel
theorem d_Factors_hasSameAs_15 : decode prog_2_method_9_code 15 = .ok (.iconst 0, 1) := by decide +kernel
theorem d_Factors_hasSameAs_16 : decode prog_2_method_9_code 16 = .ok (.ireturn, 1) := by decide +kernel
theorem d_Factors_hasSameAs_17 : decode prog_2_method_9_code 17 = .ok (.iconst 0, 1) := by decide +kernel
theorem d_Factors_hasSameAs_18 : decode prog_2_method_9_code 18 = .ok (.istore_n 2, 1) := by decide +kernel
theorem d_Factors_hasSameAs_19 : decode prog_2_method_9_code 19 = .ok (.iload_n 2, 1) := by decide +kernel
theorem d_Factors_hasSameAs_20 : decode prog_2_method_9_code 20 = .ok (.aload_n 0, 1) := by decide +kernel
theorem d_Factors_hasSameAs_21 : decode prog_2_method_9_code 21 = .ok (.getfield 20, 3) := by decide +kernel
theorem d_Factors_hasSameAs_24 : decode prog_2_method_9_code 24 = .ok (.if_icmp .ge 25, 3) := by decide +kernel
theorem d_Factors_hasSameAs_27 : decode prog_2_method_9_code 27 = .ok (.aload_n 0, 1) := by decide +kernel
theorem d_Factors_hasSameAs_28 : decode prog_2_method_9_code 28 = .ok (.iload_n 2, 1) := by decide +kernel
theorem d_Factors_hasSameAs_29 : decode prog_2_method_9_code 29 = .ok (.invokevirtual 27, 3) := by decide +kernel
theorem d_Factors_hasSameAs_32 : decode prog_2_method_9_code 32 = .ok (.aload_n 1, 1) := by decide +kernel
theorem d_Factors_hasSameAs_33 : decode prog_2_method_9_code 33 = .ok (.iload_n 2, 1) := by decide +kernel
theorem d_Factors_hasSameAs_34 : decode prog_2_method_9_code 34 = .ok (.invokevirtual 27, 3) := by decide +kernel
theorem d_Factors_hasSameAs_37 : decode prog_2_method_9_code 37 = .ok (.lcmp, 1) := by decide +kernel
theorem d_Factors_hasSameAs_38 : decode prog_2_method_9_code 38 = .ok (.ifCond .eq 5, 3) := by decide +kernel
theorem d_Factors_hasSameAs_41 : decode prog_2_method_9_code 41 = .ok (.iconst 0, 1) := by decide +kernel
theorem d_Factors_hasSameAs_42 : decode prog_2_method_9_code 42 = .ok (.ireturn, 1) := by decide +kernel
theorem d_Factors_hasSameAs_43 : decode prog_2_method_9_code 43 = .ok (.iinc 2 1, 3) := by decide +kernel
theorem d_Factors_hasSameAs_46 : decode prog_2_method_9_code 46 = .ok (.goto (-27), 3) := by decide +kernel
theorem d_Factors_hasSameAs_49 : decode prog_2_method_9_code 49 = .ok (.iconst 1, 1) := by decide +kernel
theorem d_Factors_hasSameAs_50 : decode prog_2_method_9_code 50 = .ok (.ireturn, 1) := by decide +kernel
def cf_Factors_hasSameAs_B19 (c : Nat) (c0 : Nat) (w : Wd) (K19 : Int32 → Prop) (P : Int32 → Prop) (x2 : Int32)  : Prop :=
  (((w.1 c 3) ≤ x2 → P (1 : Int32)) ∧ (¬ (w.1 c 3) ≤ x2 → cf_Factors_base c x2 w (fun r1 => cf_Factors_base c0 x2 w (fun r2 => ((r1 = r2 → ∀ v3, v3 = x2 + (1 : Int32) → K19 v3) ∧ (¬ r1 = r2 → P (0 : Int32)))))))
def cf_Factors_hasSameAs_L19 (c : Nat) (c0 : Nat) (w : Wd)  (P : Int32 → Prop) : Nat → Int32 → Prop
  | 0 => fun x2 => False
  | n + 1 => fun x2 => cf_Factors_hasSameAs_B19 c c0 w (cf_Factors_hasSameAs_L19 c c0 w P n) P x2
def cf_Factors_hasSameAs (c : Nat) (c0 : Nat) (w : Wd) (P : Int32 → Prop) : Prop :=
  (((w.1 c 3) = (w.1 c0 3) → ∃ n, cf_Factors_hasSameAs_L19 c c0 w P n (0 : Int32)) ∧ (¬ (w.1 c 3) = (w.1 c0 3) → P (0 : Int32)))
theorem cf_Factors_hasSameAs_B19_ok {g : ayG} {d : Nat} (hd : 1 ≤ d) (c : Nat) (c0 : Nat) (hc : ay_sh c = (14, 0)) (hc0 : ay_sh c0 = (14, 0)) (w : Wd) (K19 : Int32 → Prop) (P : Int32 → Prop) (Q : Option Value → Wd → Prop) (hQ : ∀ x, P x → Q (some (.int x)) w) (hK19 : ∀ (x2 : Int32), (K19 x2 → wp g (fun _ => True) y_Factors_hasSameAs prog_2_method_9_code 3 (some FieldType.boolean) d 19 [(0, .ref (g.1 + c)), (1, .ref (g.1 + c0)), (2, .int x2)] [] w Q)) (x2 : Int32) (h : cf_Factors_hasSameAs_B19 c c0 w K19 P x2) : wp g (fun _ => True) y_Factors_hasSameAs prog_2_method_9_code 3 (some FieldType.boolean) d 19 [(0, .ref (g.1 + c)), (1, .ref (g.1 + c0)), (2, .int x2)] [] w Q := by
  unfold cf_Factors_hasSameAs_B19 at h
  refine am_iload_n d_Factors_hasSameAs_19 2 rfl ?_
  refine am_aload_n d_Factors_hasSameAs_20 0 rfl ?_
  refine am_getf (T := F_Factors) (fs := ob_Factors g w c) (C := R_Factors) (N := 5) (ci := 4) 3 d_Factors_hasSameAs_21 wd_111 rfl (ay_shlt hc (by decide)) (el_Factors hc) rfl i_Factors (by decide) rfl ?_
  refine am_icmp_ge (tgt := 49) d_Factors_hasSameAs_24 (by decide) (fun c24 => ?_) (fun c24 => ?_)
  · have h := h.1 c24
    refine am_iconst (v := 1) d_Factors_hasSameAs_49 rfl ?_
    exact am_ireturn d_Factors_hasSameAs_50 rfl rfl (hQ (1 : Int32) h)
  · have h := h.2 c24
    refine am_aload_n d_Factors_hasSameAs_27 0 rfl ?_
    refine am_iload_n d_Factors_hasSameAs_28 2 rfl ?_
    refine am_callV (C := "TriSplits$Factors") (d2 := d - 1) [.int x2] d_Factors_hasSameAs_29 mi_Factors_base wd_720 wd_721 wd_722 (ay_shlt hc (by decide)) (el_Factors hc) rfl rfl (by omega) rfl rfl (Nat.le_of_ble_eq_true rfl) ?_
    refine Call.post ?_ (cf_Factors_base_ok (by omega) c x2 hc w _ h)
    rintro _ _ ⟨r1, rfl, rfl, h⟩
    show wp g (fun _ => True) y_Factors_hasSameAs prog_2_method_9_code 3 (some FieldType.boolean) d 32 [(0, .ref (g.1 + c)), (1, .ref (g.1 + c0)), (2, .int x2)] [.long r1] w Q
    refine am_aload_n d_Factors_hasSameAs_32 1 rfl ?_
    refine am_iload_n d_Factors_hasSameAs_33 2 rfl ?_
    refine am_callV (C := "TriSplits$Factors") (d2 := d - 1) [.int x2] d_Factors_hasSameAs_34 mi_Factors_base wd_720 wd_721 wd_722 (ay_shlt hc0 (by decide)) (el_Factors hc0) rfl rfl (by omega) rfl rfl (Nat.le_of_ble_eq_true rfl) ?_
    refine Call.post ?_ (cf_Factors_base_ok (by omega) c0 x2 hc0 w _ h)
    rintro _ _ ⟨r2, rfl, rfl, h⟩
    show wp g (fun _ => True) y_Factors_hasSameAs prog_2_method_9_code 3 (some FieldType.boolean) d 37 [(0, .ref (g.1 + c)), (1, .ref (g.1 + c0)), (2, .int x2)] [.long r2, .long r1] w Q
    refine am_lif_eq (tgt := 43) d_Factors_hasSameAs_37 d_Factors_hasSameAs_38 (by decide) (fun c37 => ?_) (fun c37 => ?_)
    · have h := h.1 c37
      obtain ⟨v3, ev3⟩ : ∃ z : Int32, z = x2 + (1 : Int32) := ⟨_, rfl⟩
      have h := h v3 ev3
      refine am_iinc (v := v3) (l' := [(2, .int v3), (0, .ref (g.1 + c)), (1, .ref (g.1 + c0))]) d_Factors_hasSameAs_43 2 rfl (by rw [ev3]; rfl) (by decide) rfl ?_
      refine am_goto (tgt := 19) d_Factors_hasSameAs_46 (by decide) ?_
      refine am_sub [1, 2, 0] rfl ?_
      exact hK19 v3 h
    · have h := h.2 c37
      refine am_iconst (v := 0) d_Factors_hasSameAs_41 rfl ?_
      exact am_ireturn d_Factors_hasSameAs_42 rfl rfl (hQ (0 : Int32) h)
theorem cf_Factors_hasSameAs_L19_ok {g : ayG} {d : Nat} (hd : 1 ≤ d) (c : Nat) (c0 : Nat) (hc : ay_sh c = (14, 0)) (hc0 : ay_sh c0 = (14, 0)) (w : Wd)  (P : Int32 → Prop) (Q : Option Value → Wd → Prop) (hQ : ∀ x, P x → Q (some (.int x)) w)  : ∀ (n : Nat) (x2 : Int32) (h : cf_Factors_hasSameAs_L19 c c0 w P n x2), wp g (fun _ => True) y_Factors_hasSameAs prog_2_method_9_code 3 (some FieldType.boolean) d 19 [(0, .ref (g.1 + c)), (1, .ref (g.1 + c0)), (2, .int x2)] [] w Q
  | 0, x2, h => False.elim h
  | n + 1, x2, h => cf_Factors_hasSameAs_B19_ok hd c c0 hc hc0 w (cf_Factors_hasSameAs_L19 c c0 w P n) P Q hQ (fun x2 h => cf_Factors_hasSameAs_L19_ok hd c c0 hc hc0 w  P Q hQ  n x2 h) x2 h
theorem cf_Factors_hasSameAs_ok {g : ayG} {d : Nat} (hd : 1 ≤ d) (c : Nat) (c0 : Nat) (hc : ay_sh c = (14, 0)) (hc0 : ay_sh c0 = (14, 0)) (w : Wd) (P : Int32 → Prop) (h : cf_Factors_hasSameAs c c0 w P) : Call g y_Factors_hasSameAs prog_2_method_9_code 3 (some FieldType.boolean) d [.ref (g.1 + c), .ref (g.1 + c0)] w (fun (r : Option Value) (w2 : Wd) => ∃ x, r = some (.int x) ∧ w = w2 ∧ P x) := by
  unfold cf_Factors_hasSameAs at h
  refine am_enter mi_Factors_hasSameAs (Nat.le_of_ble_eq_true rfl) ?_
  have hQ : ∀ x, P x → (fun (r : Option Value) (w2 : Wd) => ∃ x, r = some (.int x) ∧ w = w2 ∧ P x) (some (.int x)) w := fun x h => ⟨x, rfl, rfl, h⟩
  generalize (fun (r : Option Value) (w2 : Wd) => ∃ x, r = some (.int x) ∧ w = w2 ∧ P x) = Q at hQ ⊢
  show wp g (fun _ => True) y_Factors_hasSameAs prog_2_method_9_code 3 (some FieldType.boolean) d 0 [(0, .ref (g.1 + c)), (1, .ref (g.1 + c0))] [] w Q
  refine am_aload_n d_Factors_hasSameAs_0 1 rfl ?_
  refine am_ifnull d_Factors_hasSameAs_1 ?_
  refine am_aload_n d_Factors_hasSameAs_4 0 rfl ?_
  refine am_getf (T := F_Factors) (fs := ob_Factors g w c) (C := R_Factors) (N := 5) (ci := 4) 3 d_Factors_hasSameAs_5 wd_111 rfl (ay_shlt hc (by decide)) (el_Factors hc) rfl i_Factors (by decide) rfl ?_
  refine am_aload_n d_Factors_hasSameAs_8 1 rfl ?_
  refine am_getf (T := F_Factors) (fs := ob_Factors g w c0) (C := R_Factors) (N := 5) (ci := 4) 3 d_Factors_hasSameAs_9 wd_111 rfl (ay_shlt hc0 (by decide)) (el_Factors hc0) rfl i_Factors (by decide) rfl ?_
  refine am_icmp_eq (tgt := 17) d_Factors_hasSameAs_12 (by decide) (fun c12 => ?_) (fun c12 => ?_)
  · have h := h.1 c12
    refine am_iconst (v := 0) d_Factors_hasSameAs_17 rfl ?_
    refine am_istore_n (l' := [(2, .int (0 : Int32)), (0, .ref (g.1 + c)), (1, .ref (g.1 + c0))]) d_Factors_hasSameAs_18 (by decide) rfl ?_
    refine am_sub [1, 2, 0] rfl ?_
    obtain ⟨n, h⟩ := h
    exact cf_Factors_hasSameAs_L19_ok (by omega) c c0 hc hc0 w  P Q hQ  n (0 : Int32) h
  · have h := h.2 c12
    refine am_iconst (v := 0) d_Factors_hasSameAs_15 rfl ?_
    exact am_ireturn d_Factors_hasSameAs_16 rfl rfl (hQ (0 : Int32) h)
theorem d_Factors_cutParts_0 : decode prog_2_method_13_code 0 = .ok (.iload_n 1, 1) := by decide +kernel
theorem d_Factors_cutParts_1 : decode prog_2_method_13_code 1 = .ok (.istore 4, 2) := by decide +kernel
theorem d_Factors_cutParts_3 : decode prog_2_method_13_code 3 = .ok (.iconst 0, 1) := by decide +kernel
theorem d_Factors_cutParts_4 : decode prog_2_method_13_code 4 = .ok (.istore 5, 2) := by decide +kernel
theorem d_Factors_cutParts_6 : decode prog_2_method_13_code 6 = .ok (.iload 5, 2) := by decide +kernel
theorem d_Factors_cutParts_8 : decode prog_2_method_13_code 8 = .ok (.iload_n 1, 1) := by decide +kernel
theorem d_Factors_cutParts_9 : decode prog_2_method_13_code 9 = .ok (.if_icmp .ge 93, 3) := by decide +kernel
theorem d_Factors_cutParts_12 : decode prog_2_method_13_code 12 = .ok (.iload 5, 2) := by decide +kernel
theorem d_Factors_cutParts_14 : decode prog_2_method_13_code 14 = .ok (.aload_n 0, 1) := by decide +kernel
theorem d_Factors_cutParts_15 : decode prog_2_method_13_code 15 = .ok (.getfield 17, 3) := by decide +kernel
theorem d_Factors_cutParts_18 : decode prog_2_method_13_code 18 = .ok (.arraylength, 1) := by decide +kernel
theorem d_Factors_cutParts_19 : decode prog_2_method_13_code 19 = .ok (.if_icmp .ge 83, 3) := by decide +kernel
theorem d_Factors_cutParts_22 : decode prog_2_method_13_code 22 = .ok (.aload_n 0, 1) := by decide +kernel
theorem d_Factors_cutParts_23 : decode prog_2_method_13_code 23 = .ok (.getfield 17, 3) := by decide +kernel
theorem d_Factors_cutParts_26 : decode prog_2_method_13_code 26 = .ok (.iload 5, 2) := by decide +kernel
theorem d_Factors_cutParts_28 : decode prog_2_method_13_code 28 = .ok (.laload, 1) := by decide +kernel
theorem d_Factors_cutParts_29 : decode prog_2_method_13_code 29 = .ok (.lload_n 2, 1) := by decide +kernel
theorem d_Factors_cutParts_30 : decode prog_2_method_13_code 30 = .ok (.invokestatic 47, 3) := by decide +kernel
theorem d_Factors_cutParts_33 : decode prog_2_method_13_code 33 = .ok (.lstore 6, 2) := by decide +kernel
theorem d_Factors_cutParts_35 : decode prog_2_method_13_code 35 = .ok (.lload 6, 2) := by decide +kernel
theorem d_Factors_cutParts_37 : decode prog_2_method_13_code 37 = .ok (.lconst 1, 1) := by decide +kernel
theorem d_Factors_cutParts_38 : decode prog_2_method_13_code 38 = .ok (.lcmp, 1) := by decide +kernel
theorem d_Factors_cutParts_39 : decode prog_2_method_13_code 39 = .ok (.ifCond .eq 57, 3) := by decide +kernel
theorem d_Factors_cutParts_42 : decode prog_2_method_13_code 42 = .ok (.lload 6, 2) := by decide +kernel
theorem d_Factors_cutParts_44 : decode prog_2_method_13_code 44 = .ok (.aload_n 0, 1) := by decide +kernel
theorem d_Factors_cutParts_45 : decode prog_2_method_13_code 45 = .ok (.getfield 17, 3) := by decide +kernel
theorem d_Factors_cutParts_48 : decode prog_2_method_13_code 48 = .ok (.iload 5, 2) := by decide +kernel
theorem d_Factors_cutParts_50 : decode prog_2_method_13_code 50 = .ok (.laload, 1) := by decide +kernel
theorem d_Factors_cutParts_51 : decode prog_2_method_13_code 51 = .ok (.lcmp, 1) := by decide +kernel
theorem d_Factors_cutParts_52 : decode prog_2_method_13_code 52 = .ok (.ifCond .eq 44, 3) := by decide +kernel
theorem d_Factors_cutParts_55 : decode prog_2_method_13_code 55 = .ok (.iload 4, 2) := by decide +kernel
theorem d_Factors_cutParts_57 : decode prog_2_method_13_code 57 = .ok (.aload_n 0, 1) := by decide +kernel
theorem d_Factors_cutParts_58 : decode prog_2_method_13_code 58 = .ok (.getfield 17, 3) := by decide +kernel
theorem d_Factors_cutParts_61 : decode prog_2_method_13_code 61 = .ok (.arraylength, 1) := by decide +kernel
theorem d_Factors_cutParts_62 : decode prog_2_method_13_code 62 = .ok (.if_icmp .ge 34, 3) := by decide +kernel
theorem d_Factors_cutParts_65 : decode prog_2_method_13_code 65 = .ok (.aload_n 0, 1) := by decide +kernel
theorem d_Factors_cutParts_66 : decode prog_2_method_13_code 66 = .ok (.getfield 17, 3) := by decide +kernel
theorem d_Factors_cutParts_69 : decode prog_2_method_13_code 69 = .ok (.iload 4, 2) := by decide +kernel
theorem d_Factors_cutParts_71 : decode prog_2_method_13_code 71 = .ok (.aload_n 0, 1) := by decide +kernel
theorem d_Factors_cutParts_72 : decode prog_2_method_13_code 72 = .ok (.getfield 17, 3) := by decide +kernel
theorem d_Factors_cutParts_75 : decode prog_2_method_13_code 75 = .ok (.iload 5, 2) := by decide +kernel
theorem d_Factors_cutParts_77 : decode prog_2_method_13_code 77 = .ok (.laload, 1) := by decide +kernel
theorem d_Factors_cutParts_78 : decode prog_2_method_13_code 78 = .ok (.lload 6, 2) := by decide +kernel
theorem d_Factors_cutParts_80 : decode prog_2_method_13_code 80 = .ok (.invokestatic 68, 3) := by decide +kernel
theorem d_Factors_cutParts_83 : decode prog_2_method_13_code 83 = .ok (.lastore, 1) := by decide +kernel
theorem d_Factors_cutParts_84 : decode prog_2_method_13_code 84 = .ok (.aload_n 0, 1) := by decide +kernel
theorem d_Factors_cutParts_85 : decode prog_2_method_13_code 85 = .ok (.getfield 17, 3) := by decide +kernel
theorem d_Factors_cutParts_88 : decode prog_2_method_13_code 88 = .ok (.iload 5, 2) := by decide +kernel
theorem d_Factors_cutParts_90 : decode prog_2_method_13_code 90 = .ok (.lload 6, 2) := by decide +kernel
theorem d_Factors_cutParts_92 : decode prog_2_method_13_code 92 = .ok (.lastore, 1) := by decide +kernel
theorem d_Factors_cutParts_93 : decode prog_2_method_13_code 93 = .ok (.iinc 4 1, 3) := by decide +kernel
theorem d_Factors_cutParts_96 : decode prog_2_method_13_code 96 = .ok (.iinc 5 1, 3) := by decide +kernel
theorem d_Factors_cutParts_99 : decode prog_2_method_13_code 99 = .ok (.goto (-93), 3) := by decide +kernel
theorem d_Factors_cutParts_102 : decode prog_2_method_13_code 102 = .ok (.iload 4, 2) := by decide +kernel
theorem d_Factors_cutParts_104 : decode prog_2_method_13_code 104 = .ok (.ireturn, 1) := by decide +kernel
def cf_Factors_cutParts_B6 (c : Nat) (K6 : Int32 → Int64 → Int32 → Int32 → Wd → Prop) (P : Int32 → Wd → Prop) (x1 : Int32) (x2 : Int64) (x4 : Int32) (x5 : Int32) (w : Wd) : Prop :=
  ((x1 ≤ x5 → P x4 w) ∧ (¬ x1 ≤ x5 → (((31 : Int32) ≤ x5 → P x4 w) ∧ (¬ (31 : Int32) ≤ x5 → vp_in x5 31 ∧ cf_Polys_gcd (w.2 (c + 3) x5.toNatClampNeg) x2 (fun r1 => ((r1 = (1 : Int64) → ∀ v2, v2 = x5 + (1 : Int32) → K6 x1 x2 x4 v2 w) ∧ (¬ r1 = (1 : Int64) → vp_in x5 31 ∧ ((r1 = (w.2 (c + 3) x5.toNatClampNeg) → ∀ v3, v3 = x5 + (1 : Int32) → K6 x1 x2 x4 v3 w) ∧ (¬ r1 = (w.2 (c + 3) x5.toNatClampNeg) → (((31 : Int32) ≤ x4 → ∀ v4, v4 = x5 + (1 : Int32) → K6 x1 x2 x4 v4 w) ∧ (¬ (31 : Int32) ≤ x4 → vp_in x5 31 ∧ cf_Polys_quotient (w.2 (c + 3) x5.toNatClampNeg) r1 (fun r5 => vp_in x4 31 ∧ ∀ w6, w6 = wL w (c + 3) x4.toNatClampNeg r5 → vp_in x5 31 ∧ ∀ w7, w7 = wL w6 (c + 3) x5.toNatClampNeg r1 → ∀ v8, v8 = x4 + (1 : Int32) → ∀ v9, v9 = x5 + (1 : Int32) → K6 x1 x2 v8 v9 w7))))))))))))
def cf_Factors_cutParts_L6 (c : Nat)  (P : Int32 → Wd → Prop) : Nat → Int32 → Int64 → Int32 → Int32 → Wd → Prop
  | 0 => fun x1 x2 x4 x5 w => False
  | n + 1 => fun x1 x2 x4 x5 w => cf_Factors_cutParts_B6 c (cf_Factors_cutParts_L6 c P n) P x1 x2 x4 x5 w
def cf_Factors_cutParts (c : Nat) (a0 : Int32) (a1 : Int64) (w : Wd) (P : Int32 → Wd → Prop) : Prop :=
  ∃ n, cf_Factors_cutParts_L6 c P n a0 a1 a0 (0 : Int32) w
theorem cf_Factors_cutParts_B6_ok {g : ayG} {d : Nat} (hd : 4 ≤ d) (c : Nat) (hc : ay_sh c = (14, 0)) (w : Wd) (K6 : Int32 → Int64 → Int32 → Int32 → Wd → Prop) (P : Int32 → Wd → Prop) (Q : Option Value → Wd → Prop) (hQ : ∀ x w2, P x w2 → Q (some (.int x)) w2) (hK6 : ∀ (x1 : Int32) (x2 : Int64) (x4 : Int32) (x5 : Int32) (w : Wd), (K6 x1 x2 x4 x5 w → wp g (fun _ => True) y_Factors_cutParts prog_2_method_13_code 8 (some FieldType.int) d 6 [(0, .ref (g.1 + c)), (1, .int x1), (2, .long x2), (4, .int x4), (5, .int x5)] [] w Q)) (x1 : Int32) (x2 : Int64) (x4 : Int32) (x5 : Int32) (h : cf_Factors_cutParts_B6 c K6 P x1 x2 x4 x5 w) : wp g (fun _ => True) y_Factors_cutParts prog_2_method_13_code 8 (some FieldType.int) d 6 [(0, .ref (g.1 + c)), (1, .int x1), (2, .long x2), (4, .int x4), (5, .int x5)] [] w Q := by
  unfold cf_Factors_cutParts_B6 at h
  refine am_iload d_Factors_cutParts_6 4 rfl ?_
  refine am_iload_n d_Factors_cutParts_8 1 rfl ?_
  refine am_icmp_ge (tgt := 102) d_Factors_cutParts_9 (by decide) (fun c9 => ?_) (fun c9 => ?_)
  · have h := h.1 c9
    refine am_iload d_Factors_cutParts_102 3 rfl ?_
    exact am_ireturn d_Factors_cutParts_104 rfl rfl (hQ x4 w h)
  · have h := h.2 c9
    refine am_iload d_Factors_cutParts_12 4 rfl ?_
    refine am_aload_n d_Factors_cutParts_14 0 rfl ?_
    refine am_getf (T := F_Factors) (fs := ob_Factors g w c) (C := R_Factors) (N := 5) (ci := 4) 2 d_Factors_cutParts_15 wd_110 rfl (ay_shlt hc (by decide)) (el_Factors hc) rfl i_Factors (by decide) rfl ?_
    refine am_alen (v := 31) d_Factors_cutParts_18 (sh_F3 hc) (by decide) rfl ?_
    refine am_icmp_ge (tgt := 102) d_Factors_cutParts_19 (by decide) (fun c19 => ?_) (fun c19 => ?_)
    · have h := h.1 c19
      refine am_iload d_Factors_cutParts_102 3 rfl ?_
      exact am_ireturn d_Factors_cutParts_104 rfl rfl (hQ x4 w h)
    · have h := h.2 c19
      refine am_aload_n d_Factors_cutParts_22 0 rfl ?_
      refine am_getf (T := F_Factors) (fs := ob_Factors g w c) (C := R_Factors) (N := 5) (ci := 4) 2 d_Factors_cutParts_23 wd_110 rfl (ay_shlt hc (by decide)) (el_Factors hc) rfl i_Factors (by decide) rfl ?_
      refine am_iload d_Factors_cutParts_26 4 rfl ?_
      have hi28 := h.1
      have h := h.2
      refine am_laload d_Factors_cutParts_28 (sh_F3 hc) hi28 ?_
      refine am_lload_n d_Factors_cutParts_29 2 rfl ?_
      refine am_callS (d2 := d - 1) [.long (w.2 (c + 3) x5.toNatClampNeg), .long x2] d_Factors_cutParts_30 mi_Polys_gcd wd_680 wd_493 (by omega) rfl rfl (Nat.le_of_ble_eq_true rfl) ?_
      refine Call.post ?_ (cf_Polys_gcd_ok (by omega) (w.2 (c + 3) x5.toNatClampNeg) x2  w _ h)
      rintro _ _ ⟨r1, rfl, rfl, h⟩
      show wp g (fun _ => True) y_Factors_cutParts prog_2_method_13_code 8 (some FieldType.int) d 33 [(0, .ref (g.1 + c)), (1, .int x1), (2, .long x2), (4, .int x4), (5, .int x5)] [.long r1] w Q
      refine am_lstore (l' := [(6, .long r1), (0, .ref (g.1 + c)), (1, .int x1), (2, .long x2), (4, .int x4), (5, .int x5)]) d_Factors_cutParts_33 (by decide) rfl ?_
      refine am_lload d_Factors_cutParts_35 0 rfl ?_
      refine am_lconst (v := 1) d_Factors_cutParts_37 rfl ?_
      refine am_lif_eq (tgt := 96) d_Factors_cutParts_38 d_Factors_cutParts_39 (by decide) (fun c38 => ?_) (fun c38 => ?_)
      · have h := h.1 c38
        obtain ⟨v2, ev2⟩ : ∃ z : Int32, z = x5 + (1 : Int32) := ⟨_, rfl⟩
        have h := h v2 ev2
        refine am_iinc (v := v2) (l' := [(5, .int v2), (6, .long r1), (0, .ref (g.1 + c)), (1, .int x1), (2, .long x2), (4, .int x4)]) d_Factors_cutParts_96 5 rfl (by rw [ev2]; rfl) (by decide) rfl ?_
        refine am_goto (tgt := 6) d_Factors_cutParts_99 (by decide) ?_
        refine am_sub [2, 3, 4, 5, 0] rfl ?_
        exact hK6 x1 x2 x4 v2 w h
      · have h := h.2 c38
        refine am_lload d_Factors_cutParts_42 0 rfl ?_
        refine am_aload_n d_Factors_cutParts_44 1 rfl ?_
        refine am_getf (T := F_Factors) (fs := ob_Factors g w c) (C := R_Factors) (N := 5) (ci := 4) 2 d_Factors_cutParts_45 wd_110 rfl (ay_shlt hc (by decide)) (el_Factors hc) rfl i_Factors (by decide) rfl ?_
        refine am_iload d_Factors_cutParts_48 5 rfl ?_
        have hi50 := h.1
        have h := h.2
        refine am_laload d_Factors_cutParts_50 (sh_F3 hc) hi50 ?_
        refine am_lif_eq (tgt := 96) d_Factors_cutParts_51 d_Factors_cutParts_52 (by decide) (fun c51 => ?_) (fun c51 => ?_)
        · have h := h.1 c51
          obtain ⟨v3, ev3⟩ : ∃ z : Int32, z = x5 + (1 : Int32) := ⟨_, rfl⟩
          have h := h v3 ev3
          refine am_iinc (v := v3) (l' := [(5, .int v3), (6, .long r1), (0, .ref (g.1 + c)), (1, .int x1), (2, .long x2), (4, .int x4)]) d_Factors_cutParts_96 5 rfl (by rw [ev3]; rfl) (by decide) rfl ?_
          refine am_goto (tgt := 6) d_Factors_cutParts_99 (by decide) ?_
          refine am_sub [2, 3, 4, 5, 0] rfl ?_
          exact hK6 x1 x2 x4 v3 w h
        · have h := h.2 c51
          refine am_iload d_Factors_cutParts_55 4 rfl ?_
          refine am_aload_n d_Factors_cutParts_57 1 rfl ?_
          refine am_getf (T := F_Factors) (fs := ob_Factors g w c) (C := R_Factors) (N := 5) (ci := 4) 2 d_Factors_cutParts_58 wd_110 rfl (ay_shlt hc (by decide)) (el_Factors hc) rfl i_Factors (by decide) rfl ?_
          refine am_alen (v := 31) d_Factors_cutParts_61 (sh_F3 hc) (by decide) rfl ?_
          refine am_icmp_ge (tgt := 96) d_Factors_cutParts_62 (by decide) (fun c62 => ?_) (fun c62 => ?_)
          · have h := h.1 c62
            obtain ⟨v4, ev4⟩ : ∃ z : Int32, z = x5 + (1 : Int32) := ⟨_, rfl⟩
            have h := h v4 ev4
            refine am_iinc (v := v4) (l' := [(5, .int v4), (6, .long r1), (0, .ref (g.1 + c)), (1, .int x1), (2, .long x2), (4, .int x4)]) d_Factors_cutParts_96 5 rfl (by rw [ev4]; rfl) (by decide) rfl ?_
            refine am_goto (tgt := 6) d_Factors_cutParts_99 (by decide) ?_
            refine am_sub [2, 3, 4, 5, 0] rfl ?_
            exact hK6 x1 x2 x4 v4 w h
          · have h := h.2 c62
            refine am_aload_n d_Factors_cutParts_65 1 rfl ?_
            refine am_getf (T := F_Factors) (fs := ob_Factors g w c) (C := R_Factors) (N := 5) (ci := 4) 2 d_Factors_cutParts_66 wd_110 rfl (ay_shlt hc (by decide)) (el_Factors hc) rfl i_Factors (by decide) rfl ?_
            refine am_iload d_Factors_cutParts_69 4 rfl ?_
            refine am_aload_n d_Factors_cutParts_71 1 rfl ?_
            refine am_getf (T := F_Factors) (fs := ob_Factors g w c) (C := R_Factors) (N := 5) (ci := 4) 2 d_Factors_cutParts_72 wd_110 rfl (ay_shlt hc (by decide)) (el_Factors hc) rfl i_Factors (by decide) rfl ?_
            refine am_iload d_Factors_cutParts_75 5 rfl ?_
            have hi77 := h.1
            have h := h.2
            refine am_laload d_Factors_cutParts_77 (sh_F3 hc) hi77 ?_
            refine am_lload d_Factors_cutParts_78 0 rfl ?_
            refine am_callS (d2 := d - 1) [.long (w.2 (c + 3) x5.toNatClampNeg), .long r1] d_Factors_cutParts_80 mi_Polys_quotient wd_690 wd_479 (by omega) rfl rfl (Nat.le_of_ble_eq_true rfl) ?_
            refine Call.post ?_ (cf_Polys_quotient_ok (by omega) (w.2 (c + 3) x5.toNatClampNeg) r1  w _ h)
            rintro _ _ ⟨r5, rfl, rfl, h⟩
            show wp g (fun _ => True) y_Factors_cutParts prog_2_method_13_code 8 (some FieldType.int) d 83 [(6, .long r1), (0, .ref (g.1 + c)), (1, .int x1), (2, .long x2), (4, .int x4), (5, .int x5)] [.long r5, .int x4, .ref (g.1 + (c + 3))] w Q
            have hi83 := h.1
            have h := h.2
            refine am_lastore d_Factors_cutParts_83 (sh_F3 hc) hi83 ?_
            obtain ⟨w6, ew6⟩ : ∃ z, z = wL w (c + 3) x4.toNatClampNeg r5 := ⟨_, rfl⟩
            rw [← ew6]
            have h := h w6 ew6
            refine am_aload_n d_Factors_cutParts_84 1 rfl ?_
            refine am_getf (T := F_Factors) (fs := ob_Factors g w6 c) (C := R_Factors) (N := 5) (ci := 4) 2 d_Factors_cutParts_85 wd_110 rfl (ay_shlt hc (by decide)) (el_Factors hc) rfl i_Factors (by decide) rfl ?_
            refine am_iload d_Factors_cutParts_88 5 rfl ?_
            refine am_lload d_Factors_cutParts_90 0 rfl ?_
            have hi92 := h.1
            have h := h.2
            refine am_lastore d_Factors_cutParts_92 (sh_F3 hc) hi92 ?_
            obtain ⟨w7, ew7⟩ : ∃ z, z = wL w6 (c + 3) x5.toNatClampNeg r1 := ⟨_, rfl⟩
            rw [← ew7]
            have h := h w7 ew7
            obtain ⟨v8, ev8⟩ : ∃ z : Int32, z = x4 + (1 : Int32) := ⟨_, rfl⟩
            have h := h v8 ev8
            refine am_iinc (v := v8) (l' := [(4, .int v8), (6, .long r1), (0, .ref (g.1 + c)), (1, .int x1), (2, .long x2), (5, .int x5)]) d_Factors_cutParts_93 4 rfl (by rw [ev8]; rfl) (by decide) rfl ?_
            obtain ⟨v9, ev9⟩ : ∃ z : Int32, z = x5 + (1 : Int32) := ⟨_, rfl⟩
            have h := h v9 ev9
            refine am_iinc (v := v9) (l' := [(5, .int v9), (4, .int v8), (6, .long r1), (0, .ref (g.1 + c)), (1, .int x1), (2, .long x2)]) d_Factors_cutParts_96 5 rfl (by rw [ev9]; rfl) (by decide) rfl ?_
            refine am_goto (tgt := 6) d_Factors_cutParts_99 (by decide) ?_
            refine am_sub [3, 4, 5, 1, 0] rfl ?_
            exact hK6 x1 x2 v8 v9 w7 h
theorem cf_Factors_cutParts_L6_ok {g : ayG} {d : Nat} (hd : 4 ≤ d) (c : Nat) (hc : ay_sh c = (14, 0))  (P : Int32 → Wd → Prop) (Q : Option Value → Wd → Prop) (hQ : ∀ x w2, P x w2 → Q (some (.int x)) w2)  : ∀ (n : Nat) (x1 : Int32) (x2 : Int64) (x4 : Int32) (x5 : Int32) (w : Wd) (h : cf_Factors_cutParts_L6 c P n x1 x2 x4 x5 w), wp g (fun _ => True) y_Factors_cutParts prog_2_method_13_code 8 (some FieldType.int) d 6 [(0, .ref (g.1 + c)), (1, .int x1), (2, .long x2), (4, .int x4), (5, .int x5)] [] w Q
  | 0, x1, x2, x4, x5, w, h => False.elim h
  | n + 1, x1, x2, x4, x5, w, h => cf_Factors_cutParts_B6_ok hd c hc w (cf_Factors_cutParts_L6 c P n) P Q hQ (fun x1 x2 x4 x5 w h => cf_Factors_cutParts_L6_ok hd c hc  P Q hQ  n x1 x2 x4 x5 w h) x1 x2 x4 x5 h
theorem cf_Factors_cutParts_ok {g : ayG} {d : Nat} (hd : 4 ≤ d) (c : Nat) (a0 : Int32) (a1 : Int64) (hc : ay_sh c = (14, 0)) (w : Wd) (P : Int32 → Wd → Prop) (h : cf_Factors_cutParts c a0 a1 w P) : Call g y_Factors_cutParts prog_2_method_13_code 8 (some FieldType.int) d [.ref (g.1 + c), .int a0, .long a1] w (fun (r : Option Value) (w2 : Wd) => ∃ x, r = some (.int x) ∧ P x w2) := by
  unfold cf_Factors_cutParts at h
  refine am_enter mi_Factors_cutParts (Nat.le_of_ble_eq_true rfl) ?_
  have hQ : ∀ x w2, P x w2 → (fun (r : Option Value) (w2 : Wd) => ∃ x, r = some (.int x) ∧ P x w2) (some (.int x)) w2 := fun x w2 h => ⟨x, rfl, h⟩
  generalize (fun (r : Option Value) (w2 : Wd) => ∃ x, r = some (.int x) ∧ P x w2) = Q at hQ ⊢
  show wp g (fun _ => True) y_Factors_cutParts prog_2_method_13_code 8 (some FieldType.int) d 0 [(0, .ref (g.1 + c)), (1, .int a0), (2, .long a1)] [] w Q
  refine am_iload_n d_Factors_cutParts_0 1 rfl ?_
  refine am_istore (l' := [(4, .int a0), (0, .ref (g.1 + c)), (1, .int a0), (2, .long a1)]) d_Factors_cutParts_1 (by decide) rfl ?_
  refine am_iconst (v := 0) d_Factors_cutParts_3 rfl ?_
  refine am_istore (l' := [(5, .int (0 : Int32)), (4, .int a0), (0, .ref (g.1 + c)), (1, .int a0), (2, .long a1)]) d_Factors_cutParts_4 (by decide) rfl ?_
  refine am_sub [2, 3, 4, 1, 0] rfl ?_
  obtain ⟨n, h⟩ := h
  exact cf_Factors_cutParts_L6_ok (by omega) c hc  P Q hQ  n a0 a1 a0 (0 : Int32) w h
theorem d_Factors_partInto_0 : decode prog_2_method_12_code 0 = .ok (.lload_n 1, 1) := by decide +kernel
theorem d_Factors_partInto_1 : decode prog_2_method_12_code 1 = .ok (.invokestatic 31, 3) := by decide +kernel
theorem d_Factors_partInto_4 : decode prog_2_method_12_code 4 = .ok (.istore 4, 2) := by decide +kernel
theorem d_Factors_partInto_6 : decode prog_2_method_12_code 6 = .ok (.iload 4, 2) := by decide +kernel
theorem d_Factors_partInto_8 : decode prog_2_method_12_code 8 = .ok (.iconst 1, 1) := by decide +kernel
theorem d_Factors_partInto_9 : decode prog_2_method_12_code 9 = .ok (.if_icmp .lt 8, 3) := by decide +kernel
theorem d_Factors_partInto_12 : decode prog_2_method_12_code 12 = .ok (.iload_n 3, 1) := by decide +kernel
theorem d_Factors_partInto_13 : decode prog_2_method_12_code 13 = .ok (.iconst 1, 1) := by decide +kernel
theorem d_Factors_partInto_14 : decode prog_2_method_12_code 14 = .ok (.if_icmp .ge 5, 3) := by decide +kernel
theorem d_Factors_partInto_17 : decode prog_2_method_12_code 17 = .ok (.iconst 0, 1) := by decide +kernel
theorem d_Factors_partInto_18 : decode prog_2_method_12_code 18 = .ok (.ireturn, 1) := by decide +kernel
theorem d_Factors_partInto_19 : decode prog_2_method_12_code 19 = .ok (.aload_n 0, 1) := by decide +kernel
theorem d_Factors_partInto_20 : decode prog_2_method_12_code 20 = .ok (.getfield 17, 3) := by decide +kernel
theorem d_Factors_partInto_23 : decode prog_2_method_12_code 23 = .ok (.iconst 0, 1) := by decide +kernel
theorem d_Factors_partInto_24 : decode prog_2_method_12_code 24 = .ok (.lload_n 1, 1) := by decide +kernel
theorem d_Factors_partInto_25 : decode prog_2_method_12_code 25 = .ok (.lastore, 1) := by decide +kernel
theorem d_Factors_partInto_26 : decode prog_2_method_12_code 26 = .ok (.iconst 1, 1) := by decide +kernel
theorem d_Factors_partInto_27 : decode prog_2_method_12_code 27 = .ok (.istore 5, 2) := by decide +kernel
theorem d_Factors_partInto_29 : decode prog_2_method_12_code 29 = .ok (.iconst 1, 1) := by decide +kernel
theorem d_Factors_partInto_30 : decode prog_2_method_12_code 30 = .ok (.istore 6, 2) := by decide +kernel
theorem d_Factors_partInto_32 : decode prog_2_method_12_code 32 = .ok (.iload 6, 2) := by decide +kernel
theorem d_Factors_partInto_34 : decode prog_2_method_12_code 34 = .ok (.iload 4, 2) := by decide +kernel
theorem d_Factors_partInto_36 : decode prog_2_method_12_code 36 = .ok (.if_icmp .ge 74, 3) := by decide +kernel
theorem d_Factors_partInto_39 : decode prog_2_method_12_code 39 = .ok (.iload 5, 2) := by decide +kernel
theorem d_Factors_partInto_41 : decode prog_2_method_12_code 41 = .ok (.iload_n 3, 1) := by decide +kernel
theorem d_Factors_partInto_42 : decode prog_2_method_12_code 42 = .ok (.imul, 1) := by decide +kernel
theorem d_Factors_partInto_43 : decode prog_2_method_12_code 43 = .ok (.iload 4, 2) := by decide +kernel
theorem d_Factors_partInto_45 : decode prog_2_method_12_code 45 = .ok (.if_icmp .ge 65, 3) := by decide +kernel
theorem d_Factors_partInto_48 : decode prog_2_method_12_code 48 = .ok (.ldc2_w 41, 3) := by decide +kernel
theorem d_Factors_partInto_51 : decode prog_2_method_12_code 51 = .ok (.iload 6, 2) := by decide +kernel
theorem d_Factors_partInto_53 : decode prog_2_method_12_code 53 = .ok (.i2l, 1) := by decide +kernel
theorem d_Factors_partInto_54 : decode prog_2_method_12_code 54 = .ok (.lload_n 1, 1) := by decide +kernel
theorem d_Factors_partInto_55 : decode prog_2_method_12_code 55 = .ok (.invokestatic 71, 3) := by decide +kernel
theorem d_Factors_partInto_58 : decode prog_2_method_12_code 58 = .ok (.lstore 7, 2) := by decide +kernel
theorem d_Factors_partInto_60 : decode prog_2_method_12_code 60 = .ok (.lload 7, 2) := by decide +kernel
theorem d_Factors_partInto_62 : decode prog_2_method_12_code 62 = .ok (.lstore 9, 2) := by decide +kernel
theorem d_Factors_partInto_64 : decode prog_2_method_12_code 64 = .ok (.iconst 1, 1) := by decide +kernel
theorem d_Factors_partInto_65 : decode prog_2_method_12_code 65 = .ok (.istore 11, 2) := by decide +kernel
theorem d_Factors_partInto_67 : decode prog_2_method_12_code 67 = .ok (.iload 11, 2) := by decide +kernel
theorem d_Factors_partInto_69 : decode prog_2_method_12_code 69 = .ok (.iload_n 3, 1) := by decide +kernel
theorem d_Factors_partInto_70 : decode prog_2_method_12_code 70 = .ok (.if_icmp .ge 24, 3) := by decide +kernel
theorem d_Factors_partInto_73 : decode prog_2_method_12_code 73 = .ok (.lload 7, 2) := by decide +kernel
theorem d_Factors_partInto_75 : decode prog_2_method_12_code 75 = .ok (.lload_n 1, 1) := by decide +kernel
theorem d_Factors_partInto_76 : decode prog_2_method_12_code 76 = .ok (.invokestatic 43, 3) := by decide +kernel
theorem d_Factors_partInto_79 : decode prog_2_method_12_code 79 = .ok (.lstore 7, 2) := by decide +kernel
theorem d_Factors_partInto_81 : decode prog_2_method_12_code 81 = .ok (.lload 9, 2) := by decide +kernel
theorem d_Factors_partInto_83 : decode prog_2_method_12_code 83 = .ok (.lload 7, 2) := by decide +kernel
theorem d_Factors_partInto_85 : decode prog_2_method_12_code 85 = .ok (.lxor, 1) := by decide +kernel
theorem d_Factors_partInto_86 : decode prog_2_method_12_code 86 = .ok (.lstore 9, 2) := by decide +kernel
theorem d_Factors_partInto_88 : decode prog_2_method_12_code 88 = .ok (.iinc 11 1, 3) := by decide +kernel
theorem d_Factors_partInto_91 : decode prog_2_method_12_code 91 = .ok (.goto (-24), 3) := by decide +kernel
theorem d_Factors_partInto_94 : decode prog_2_method_12_code 94 = .ok (.aload_n 0, 1) := by decide +kernel
theorem d_Factors_partInto_95 : decode prog_2_method_12_code 95 = .ok (.iload 5, 2) := by decide +kernel
theorem d_Factors_partInto_97 : decode prog_2_method_12_code 97 = .ok (.lload 9, 2) := by decide +kernel
theorem d_Factors_partInto_99 : decode prog_2_method_12_code 99 = .ok (.invokevirtual 75, 3) := by decide +kernel
theorem d_Factors_partInto_102 : decode prog_2_method_12_code 102 = .ok (.istore 5, 2) := by decide +kernel
theorem d_Factors_partInto_104 : decode prog_2_method_12_code 104 = .ok (.iinc 6 2, 3) := by decide +kernel
theorem d_Factors_partInto_107 : decode prog_2_method_12_code 107 = .ok (.goto (-75), 3) := by decide +kernel
theorem d_Factors_partInto_110 : decode prog_2_method_12_code 110 = .ok (.iload 5, 2) := by decide +kernel
theorem d_Factors_partInto_112 : decode prog_2_method_12_code 112 = .ok (.ireturn, 1) := by decide +kernel
def cf_Factors_partInto_B67 (c : Nat) (K32 : Int64 → Int32 → Int32 → Int32 → Int32 → Wd → Prop) (K67 : Int64 → Int32 → Int32 → Int32 → Int32 → Int64 → Int64 → Int32 → Wd → Prop) (P : Int32 → Wd → Prop) (x1 : Int64) (x3 : Int32) (x4 : Int32) (x5 : Int32) (x6 : Int32) (x7 : Int64) (x9 : Int64) (x11 : Int32) (w : Wd) : Prop :=
  ((x3 ≤ x11 → cf_Factors_cutParts c x5 x9 w (fun r4 w5 => ∀ v6, v6 = x6 + (2 : Int32) → K32 x1 x3 x4 r4 v6 w5)) ∧ (¬ x3 ≤ x11 → cf_Polys_squareBy x7 x1 (fun r7 => ∀ v8, v8 = x9 ^^^ r7 → ∀ v9, v9 = x11 + (1 : Int32) → K67 x1 x3 x4 x5 x6 r7 v8 v9 w)))
def cf_Factors_partInto_L67 (c : Nat) (K32 : Int64 → Int32 → Int32 → Int32 → Int32 → Wd → Prop) (P : Int32 → Wd → Prop) : Nat → Int64 → Int32 → Int32 → Int32 → Int32 → Int64 → Int64 → Int32 → Wd → Prop
  | 0 => fun x1 x3 x4 x5 x6 x7 x9 x11 w => False
  | n + 1 => fun x1 x3 x4 x5 x6 x7 x9 x11 w => cf_Factors_partInto_B67 c K32 (cf_Factors_partInto_L67 c K32 P n) P x1 x3 x4 x5 x6 x7 x9 x11 w
def cf_Factors_partInto_B32 (c : Nat) (K32 : Int64 → Int32 → Int32 → Int32 → Int32 → Wd → Prop) (P : Int32 → Wd → Prop) (x1 : Int64) (x3 : Int32) (x4 : Int32) (x5 : Int32) (x6 : Int32) (w : Wd) : Prop :=
  ((x4 ≤ x6 → P x5 w) ∧ (¬ x4 ≤ x6 → ((x4 ≤ (x5 * x3) → P x5 w) ∧ (¬ x4 ≤ (x5 * x3) → cf_Polys_powerBy (2 : Int64) x6.toInt64 x1 (fun r3 => ∃ n, cf_Factors_partInto_L67 c K32 P n x1 x3 x4 x5 x6 r3 r3 (1 : Int32) w)))))
def cf_Factors_partInto_L32 (c : Nat)  (P : Int32 → Wd → Prop) : Nat → Int64 → Int32 → Int32 → Int32 → Int32 → Wd → Prop
  | 0 => fun x1 x3 x4 x5 x6 w => False
  | n + 1 => fun x1 x3 x4 x5 x6 w => cf_Factors_partInto_B32 c (cf_Factors_partInto_L32 c P n) P x1 x3 x4 x5 x6 w
def cf_Factors_partInto (c : Nat) (a0 : Int64) (a1 : Int32) (w : Wd) (P : Int32 → Wd → Prop) : Prop :=
  cf_Polys_degree a0 (fun r1 => ((r1 < (1 : Int32) → P (0 : Int32) w) ∧ (¬ r1 < (1 : Int32) → (((1 : Int32) ≤ a1 → vp_in (0 : Int32) 31 ∧ ∀ w2, w2 = wL w (c + 3) (0 : Int32).toNatClampNeg a0 → ∃ n, cf_Factors_partInto_L32 c P n a0 a1 r1 (1 : Int32) (1 : Int32) w2) ∧ (¬ (1 : Int32) ≤ a1 → P (0 : Int32) w)))))
theorem cf_Factors_partInto_B67_ok {g : ayG} {d : Nat} (hd : 5 ≤ d) (c : Nat) (hc : ay_sh c = (14, 0)) (w : Wd) (K32 : Int64 → Int32 → Int32 → Int32 → Int32 → Wd → Prop) (K67 : Int64 → Int32 → Int32 → Int32 → Int32 → Int64 → Int64 → Int32 → Wd → Prop) (P : Int32 → Wd → Prop) (Q : Option Value → Wd → Prop) (hQ : ∀ x w2, P x w2 → Q (some (.int x)) w2) (hK32 : ∀ (x1 : Int64) (x3 : Int32) (x4 : Int32) (x5 : Int32) (x6 : Int32) (w : Wd), (K32 x1 x3 x4 x5 x6 w → wp g (fun _ => True) y_Factors_partInto prog_2_method_12_code 12 (some FieldType.int) d 32 [(0, .ref (g.1 + c)), (1, .long x1), (3, .int x3), (4, .int x4), (5, .int x5), (6, .int x6)] [] w Q)) (hK67 : ∀ (x1 : Int64) (x3 : Int32) (x4 : Int32) (x5 : Int32) (x6 : Int32) (x7 : Int64) (x9 : Int64) (x11 : Int32) (w : Wd), (K67 x1 x3 x4 x5 x6 x7 x9 x11 w → wp g (fun _ => True) y_Factors_partInto prog_2_method_12_code 12 (some FieldType.int) d 67 [(0, .ref (g.1 + c)), (1, .long x1), (3, .int x3), (4, .int x4), (5, .int x5), (6, .int x6), (7, .long x7), (9, .long x9), (11, .int x11)] [] w Q)) (x1 : Int64) (x3 : Int32) (x4 : Int32) (x5 : Int32) (x6 : Int32) (x7 : Int64) (x9 : Int64) (x11 : Int32) (h : cf_Factors_partInto_B67 c K32 K67 P x1 x3 x4 x5 x6 x7 x9 x11 w) : wp g (fun _ => True) y_Factors_partInto prog_2_method_12_code 12 (some FieldType.int) d 67 [(0, .ref (g.1 + c)), (1, .long x1), (3, .int x3), (4, .int x4), (5, .int x5), (6, .int x6), (7, .long x7), (9, .long x9), (11, .int x11)] [] w Q := by
  unfold cf_Factors_partInto_B67 at h
  refine am_iload d_Factors_partInto_67 8 rfl ?_
  refine am_iload_n d_Factors_partInto_69 2 rfl ?_
  refine am_icmp_ge (tgt := 94) d_Factors_partInto_70 (by decide) (fun c70 => ?_) (fun c70 => ?_)
  · have h := h.1 c70
    refine am_aload_n d_Factors_partInto_94 0 rfl ?_
    refine am_iload d_Factors_partInto_95 4 rfl ?_
    refine am_lload d_Factors_partInto_97 7 rfl ?_
    refine am_callV (C := y_Factors_cutParts.cls) (d2 := d - 1) [.int x5, .long x9] d_Factors_partInto_99 mi_Factors_cutParts wd_686 wd_688 ws_Factors_cutParts (ay_shlt hc (by decide)) (el_Factors hc) rfl rfl (by omega) rfl rfl (Nat.le_of_ble_eq_true rfl) ?_
    refine Call.post ?_ (cf_Factors_cutParts_ok (by omega) c x5 x9 hc w _ h)
    rintro _ w5 ⟨r4, rfl, h⟩
    show wp g (fun _ => True) y_Factors_partInto prog_2_method_12_code 12 (some FieldType.int) d 102 [(0, .ref (g.1 + c)), (1, .long x1), (3, .int x3), (4, .int x4), (5, .int x5), (6, .int x6), (7, .long x7), (9, .long x9), (11, .int x11)] [.int r4] w5 Q
    refine am_istore (l' := [(5, .int r4), (0, .ref (g.1 + c)), (1, .long x1), (3, .int x3), (4, .int x4), (6, .int x6), (7, .long x7), (9, .long x9), (11, .int x11)]) d_Factors_partInto_102 (by decide) rfl ?_
    obtain ⟨v6, ev6⟩ : ∃ z : Int32, z = x6 + (2 : Int32) := ⟨_, rfl⟩
    have h := h v6 ev6
    refine am_iinc (v := v6) (l' := [(6, .int v6), (5, .int r4), (0, .ref (g.1 + c)), (1, .long x1), (3, .int x3), (4, .int x4), (7, .long x7), (9, .long x9), (11, .int x11)]) d_Factors_partInto_104 5 rfl (by rw [ev6]; rfl) (by decide) rfl ?_
    refine am_goto (tgt := 32) d_Factors_partInto_107 (by decide) ?_
    refine am_sub [2, 3, 4, 5, 1, 0] rfl ?_
    exact hK32 x1 x3 x4 r4 v6 w5 h
  · have h := h.2 c70
    refine am_lload d_Factors_partInto_73 6 rfl ?_
    refine am_lload_n d_Factors_partInto_75 1 rfl ?_
    refine am_callS (d2 := d - 1) [.long x7, .long x1] d_Factors_partInto_76 mi_Polys_squareBy wd_679 wd_649 (by omega) rfl rfl (Nat.le_of_ble_eq_true rfl) ?_
    refine Call.post ?_ (cf_Polys_squareBy_ok (by omega) x7 x1  w _ h)
    rintro _ _ ⟨r7, rfl, rfl, h⟩
    show wp g (fun _ => True) y_Factors_partInto prog_2_method_12_code 12 (some FieldType.int) d 79 [(0, .ref (g.1 + c)), (1, .long x1), (3, .int x3), (4, .int x4), (5, .int x5), (6, .int x6), (7, .long x7), (9, .long x9), (11, .int x11)] [.long r7] w Q
    refine am_lstore (l' := [(7, .long r7), (0, .ref (g.1 + c)), (1, .long x1), (3, .int x3), (4, .int x4), (5, .int x5), (6, .int x6), (9, .long x9), (11, .int x11)]) d_Factors_partInto_79 (by decide) rfl ?_
    refine am_lload d_Factors_partInto_81 7 rfl ?_
    refine am_lload d_Factors_partInto_83 0 rfl ?_
    refine am_lxor d_Factors_partInto_85 ?_
    refine am_topl (fun v8 ev8 => ?_)
    have h := h v8 ev8
    refine am_lstore (l' := [(9, .long v8), (7, .long r7), (0, .ref (g.1 + c)), (1, .long x1), (3, .int x3), (4, .int x4), (5, .int x5), (6, .int x6), (11, .int x11)]) d_Factors_partInto_86 (by decide) rfl ?_
    obtain ⟨v9, ev9⟩ : ∃ z : Int32, z = x11 + (1 : Int32) := ⟨_, rfl⟩
    have h := h v9 ev9
    refine am_iinc (v := v9) (l' := [(11, .int v9), (9, .long v8), (7, .long r7), (0, .ref (g.1 + c)), (1, .long x1), (3, .int x3), (4, .int x4), (5, .int x5), (6, .int x6)]) d_Factors_partInto_88 8 rfl (by rw [ev9]; rfl) (by decide) rfl ?_
    refine am_goto (tgt := 67) d_Factors_partInto_91 (by decide) ?_
    refine am_sub [3, 4, 5, 6, 7, 8, 2, 1, 0] rfl ?_
    exact hK67 x1 x3 x4 x5 x6 r7 v8 v9 w h
theorem cf_Factors_partInto_L67_ok {g : ayG} {d : Nat} (hd : 5 ≤ d) (c : Nat) (hc : ay_sh c = (14, 0)) (K32 : Int64 → Int32 → Int32 → Int32 → Int32 → Wd → Prop) (P : Int32 → Wd → Prop) (Q : Option Value → Wd → Prop) (hQ : ∀ x w2, P x w2 → Q (some (.int x)) w2) (hK32 : ∀ (x1 : Int64) (x3 : Int32) (x4 : Int32) (x5 : Int32) (x6 : Int32) (w : Wd), (K32 x1 x3 x4 x5 x6 w → wp g (fun _ => True) y_Factors_partInto prog_2_method_12_code 12 (some FieldType.int) d 32 [(0, .ref (g.1 + c)), (1, .long x1), (3, .int x3), (4, .int x4), (5, .int x5), (6, .int x6)] [] w Q)) : ∀ (n : Nat) (x1 : Int64) (x3 : Int32) (x4 : Int32) (x5 : Int32) (x6 : Int32) (x7 : Int64) (x9 : Int64) (x11 : Int32) (w : Wd) (h : cf_Factors_partInto_L67 c K32 P n x1 x3 x4 x5 x6 x7 x9 x11 w), wp g (fun _ => True) y_Factors_partInto prog_2_method_12_code 12 (some FieldType.int) d 67 [(0, .ref (g.1 + c)), (1, .long x1), (3, .int x3), (4, .int x4), (5, .int x5), (6, .int x6), (7, .long x7), (9, .long x9), (11, .int x11)] [] w Q
  | 0, x1, x3, x4, x5, x6, x7, x9, x11, w, h => False.elim h
  | n + 1, x1, x3, x4, x5, x6, x7, x9, x11, w, h => cf_Factors_partInto_B67_ok hd c hc w K32 (cf_Factors_partInto_L67 c K32 P n) P Q hQ hK32 (fun x1 x3 x4 x5 x6 x7 x9 x11 w h => cf_Factors_partInto_L67_ok hd c hc K32 P Q hQ hK32 n x1 x3 x4 x5 x6 x7 x9 x11 w h) x1 x3 x4 x5 x6 x7 x9 x11 h
theorem cf_Factors_partInto_B32_ok {g : ayG} {d : Nat} (hd : 5 ≤ d) (c : Nat) (hc : ay_sh c = (14, 0)) (w : Wd) (K32 : Int64 → Int32 → Int32 → Int32 → Int32 → Wd → Prop) (P : Int32 → Wd → Prop) (Q : Option Value → Wd → Prop) (hQ : ∀ x w2, P x w2 → Q (some (.int x)) w2) (hK32 : ∀ (x1 : Int64) (x3 : Int32) (x4 : Int32) (x5 : Int32) (x6 : Int32) (w : Wd), (K32 x1 x3 x4 x5 x6 w → wp g (fun _ => True) y_Factors_partInto prog_2_method_12_code 12 (some FieldType.int) d 32 [(0, .ref (g.1 + c)), (1, .long x1), (3, .int x3), (4, .int x4), (5, .int x5), (6, .int x6)] [] w Q)) (x1 : Int64) (x3 : Int32) (x4 : Int32) (x5 : Int32) (x6 : Int32) (h : cf_Factors_partInto_B32 c K32 P x1 x3 x4 x5 x6 w) : wp g (fun _ => True) y_Factors_partInto prog_2_method_12_code 12 (some FieldType.int) d 32 [(0, .ref (g.1 + c)), (1, .long x1), (3, .int x3), (4, .int x4), (5, .int x5), (6, .int x6)] [] w Q := by
  unfold cf_Factors_partInto_B32 at h
  refine am_iload d_Factors_partInto_32 5 rfl ?_
  refine am_iload d_Factors_partInto_34 3 rfl ?_
  refine am_icmp_ge (tgt := 110) d_Factors_partInto_36 (by decide) (fun c36 => ?_) (fun c36 => ?_)
  · have h := h.1 c36
    refine am_iload d_Factors_partInto_110 4 rfl ?_
    exact am_ireturn d_Factors_partInto_112 rfl rfl (hQ x5 w h)
  · have h := h.2 c36
    refine am_iload d_Factors_partInto_39 4 rfl ?_
    refine am_iload_n d_Factors_partInto_41 2 rfl ?_
    refine am_imul d_Factors_partInto_42 ?_
    refine am_iload d_Factors_partInto_43 3 rfl ?_
    refine am_icmp_ge (tgt := 110) d_Factors_partInto_45 (by decide) (fun c45 => ?_) (fun c45 => ?_)
    · have h := h.1 c45
      refine am_iload d_Factors_partInto_110 4 rfl ?_
      exact am_ireturn d_Factors_partInto_112 rfl rfl (hQ x5 w h)
    · have h := h.2 c45
      refine am_ldc2 (v := 2) d_Factors_partInto_48 wd_677 ?_
      refine am_iload d_Factors_partInto_51 5 rfl ?_
      refine am_i2l d_Factors_partInto_53 ?_
      refine am_lload_n d_Factors_partInto_54 1 rfl ?_
      refine am_callS (d2 := d - 1) [.long (2 : Int64), .long x6.toInt64, .long x1] d_Factors_partInto_55 mi_Polys_powerBy wd_685 wd_505 (by omega) rfl rfl (Nat.le_of_ble_eq_true rfl) ?_
      refine Call.post ?_ (cf_Polys_powerBy_ok (by omega) (2 : Int64) x6.toInt64 x1  w _ h)
      rintro _ _ ⟨r3, rfl, rfl, h⟩
      show wp g (fun _ => True) y_Factors_partInto prog_2_method_12_code 12 (some FieldType.int) d 58 [(0, .ref (g.1 + c)), (1, .long x1), (3, .int x3), (4, .int x4), (5, .int x5), (6, .int x6)] [.long r3] w Q
      refine am_lstore (l' := [(7, .long r3), (0, .ref (g.1 + c)), (1, .long x1), (3, .int x3), (4, .int x4), (5, .int x5), (6, .int x6)]) d_Factors_partInto_58 (by decide) rfl ?_
      refine am_lload d_Factors_partInto_60 0 rfl ?_
      refine am_lstore (l' := [(9, .long r3), (7, .long r3), (0, .ref (g.1 + c)), (1, .long x1), (3, .int x3), (4, .int x4), (5, .int x5), (6, .int x6)]) d_Factors_partInto_62 (by decide) rfl ?_
      refine am_iconst (v := 1) d_Factors_partInto_64 rfl ?_
      refine am_istore (l' := [(11, .int (1 : Int32)), (9, .long r3), (7, .long r3), (0, .ref (g.1 + c)), (1, .long x1), (3, .int x3), (4, .int x4), (5, .int x5), (6, .int x6)]) d_Factors_partInto_65 (by decide) rfl ?_
      refine am_sub [3, 4, 5, 6, 7, 8, 2, 1, 0] rfl ?_
      obtain ⟨n, h⟩ := h
      exact cf_Factors_partInto_L67_ok (by omega) c hc K32 P Q hQ hK32 n x1 x3 x4 x5 x6 r3 r3 (1 : Int32) w h
theorem cf_Factors_partInto_L32_ok {g : ayG} {d : Nat} (hd : 5 ≤ d) (c : Nat) (hc : ay_sh c = (14, 0))  (P : Int32 → Wd → Prop) (Q : Option Value → Wd → Prop) (hQ : ∀ x w2, P x w2 → Q (some (.int x)) w2)  : ∀ (n : Nat) (x1 : Int64) (x3 : Int32) (x4 : Int32) (x5 : Int32) (x6 : Int32) (w : Wd) (h : cf_Factors_partInto_L32 c P n x1 x3 x4 x5 x6 w), wp g (fun _ => True) y_Factors_partInto prog_2_method_12_code 12 (some FieldType.int) d 32 [(0, .ref (g.1 + c)), (1, .long x1), (3, .int x3), (4, .int x4), (5, .int x5), (6, .int x6)] [] w Q
  | 0, x1, x3, x4, x5, x6, w, h => False.elim h
  | n + 1, x1, x3, x4, x5, x6, w, h => cf_Factors_partInto_B32_ok hd c hc w (cf_Factors_partInto_L32 c P n) P Q hQ (fun x1 x3 x4 x5 x6 w h => cf_Factors_partInto_L32_ok hd c hc  P Q hQ  n x1 x3 x4 x5 x6 w h) x1 x3 x4 x5 x6 h
theorem cf_Factors_partInto_ok {g : ayG} {d : Nat} (hd : 5 ≤ d) (c : Nat) (a0 : Int64) (a1 : Int32) (hc : ay_sh c = (14, 0)) (w : Wd) (P : Int32 → Wd → Prop) (h : cf_Factors_partInto c a0 a1 w P) : Call g y_Factors_partInto prog_2_method_12_code 12 (some FieldType.int) d [.ref (g.1 + c), .long a0, .int a1] w (fun (r : Option Value) (w2 : Wd) => ∃ x, r = some (.int x) ∧ P x w2) := by
  unfold cf_Factors_partInto at h
  refine am_enter mi_Factors_partInto (Nat.le_of_ble_eq_true rfl) ?_
  have hQ : ∀ x w2, P x w2 → (fun (r : Option Value) (w2 : Wd) => ∃ x, r = some (.int x) ∧ P x w2) (some (.int x)) w2 := fun x w2 h => ⟨x, rfl, h⟩
  generalize (fun (r : Option Value) (w2 : Wd) => ∃ x, r = some (.int x) ∧ P x w2) = Q at hQ ⊢
  show wp g (fun _ => True) y_Factors_partInto prog_2_method_12_code 12 (some FieldType.int) d 0 [(0, .ref (g.1 + c)), (1, .long a0), (3, .int a1)] [] w Q
  refine am_lload_n d_Factors_partInto_0 1 rfl ?_
  refine am_callS (d2 := d - 1) [.long a0] d_Factors_partInto_1 mi_Polys_degree wd_678 wd_391 (by omega) rfl rfl (Nat.le_of_ble_eq_true rfl) ?_
  refine Call.post ?_ (cf_Polys_degree_ok (by omega) a0  w _ h)
  rintro _ _ ⟨r1, rfl, rfl, h⟩
  show wp g (fun _ => True) y_Factors_partInto prog_2_method_12_code 12 (some FieldType.int) d 4 [(0, .ref (g.1 + c)), (1, .long a0), (3, .int a1)] [.int r1] w Q
  refine am_istore (l' := [(4, .int r1), (0, .ref (g.1 + c)), (1, .long a0), (3, .int a1)]) d_Factors_partInto_4 (by decide) rfl ?_
  refine am_iload d_Factors_partInto_6 0 rfl ?_
  refine am_iconst (v := 1) d_Factors_partInto_8 rfl ?_
  refine am_icmp_lt (tgt := 17) d_Factors_partInto_9 (by decide) (fun c9 => ?_) (fun c9 => ?_)
  · have h := h.1 c9
    refine am_iconst (v := 0) d_Factors_partInto_17 rfl ?_
    exact am_ireturn d_Factors_partInto_18 rfl rfl (hQ (0 : Int32) w h)
  · have h := h.2 c9
    refine am_iload_n d_Factors_partInto_12 3 rfl ?_
    refine am_iconst (v := 1) d_Factors_partInto_13 rfl ?_
    refine am_icmp_ge (tgt := 19) d_Factors_partInto_14 (by decide) (fun c14 => ?_) (fun c14 => ?_)
    · have h := h.1 c14
      refine am_aload_n d_Factors_partInto_19 1 rfl ?_
      refine am_getf (T := F_Factors) (fs := ob_Factors g w c) (C := R_Factors) (N := 5) (ci := 4) 2 d_Factors_partInto_20 wd_110 rfl (ay_shlt hc (by decide)) (el_Factors hc) rfl i_Factors (by decide) rfl ?_
      refine am_iconst (v := 0) d_Factors_partInto_23 rfl ?_
      refine am_lload_n d_Factors_partInto_24 2 rfl ?_
      have hi25 := h.1
      have h := h.2
      refine am_lastore d_Factors_partInto_25 (sh_F3 hc) hi25 ?_
      obtain ⟨w2, ew2⟩ : ∃ z, z = wL w (c + 3) (0 : Int32).toNatClampNeg a0 := ⟨_, rfl⟩
      rw [← ew2]
      have h := h w2 ew2
      refine am_iconst (v := 1) d_Factors_partInto_26 rfl ?_
      refine am_istore (l' := [(5, .int (1 : Int32)), (4, .int r1), (0, .ref (g.1 + c)), (1, .long a0), (3, .int a1)]) d_Factors_partInto_27 (by decide) rfl ?_
      refine am_iconst (v := 1) d_Factors_partInto_29 rfl ?_
      refine am_istore (l' := [(6, .int (1 : Int32)), (5, .int (1 : Int32)), (4, .int r1), (0, .ref (g.1 + c)), (1, .long a0), (3, .int a1)]) d_Factors_partInto_30 (by decide) rfl ?_
      refine am_sub [3, 4, 5, 2, 1, 0] rfl ?_
      obtain ⟨n, h⟩ := h
      exact cf_Factors_partInto_L32_ok (by omega) c hc  P Q hQ  n a0 a1 r1 (1 : Int32) (1 : Int32) w2 h
    · have h := h.2 c14
      refine am_iconst (v := 0) d_Factors_partInto_17 rfl ?_
      exact am_ireturn d_Factors_partInto_18 rfl rfl (hQ (0 : Int32) w h)
theorem d_Factors_sortParts_0 : decode prog_2_method_14_code 0 = .ok (.iconst 1, 1) := by decide +kernel
theorem d_Factors_sortParts_1 : decode prog_2_method_14_code 1 = .ok (.istore_n 2, 1) := by decide +kernel
theorem d_Factors_sortParts_2 : decode prog_2_method_14_code 2 = .ok (.iload_n 2, 1) := by decide +kernel
theorem d_Factors_sortParts_3 : decode prog_2_method_14_code 3 = .ok (.iload_n 1, 1) := by decide +kernel
theorem d_Factors_sortParts_4 : decode prog_2_method_14_code 4 = .ok (.if_icmp .ge 84, 3) := by decide +kernel
theorem d_Factors_sortParts_7 : decode prog_2_method_14_code 7 = .ok (.iload_n 2, 1) := by decide +kernel
theorem d_Factors_sortParts_8 : decode prog_2_method_14_code 8 = .ok (.aload_n 0, 1) := by decide +kernel
theorem d_Factors_sortParts_9 : decode prog_2_method_14_code 9 = .ok (.getfield 17, 3) := by decide +kernel
theorem d_Factors_sortParts_12 : decode prog_2_method_14_code 12 = .ok (.arraylength, 1) := by decide +kernel
theorem d_Factors_sortParts_13 : decode prog_2_method_14_code 13 = .ok (.if_icmp .ge 75, 3) := by decide +kernel
theorem d_Factors_sortParts_16 : decode prog_2_method_14_code 16 = .ok (.aload_n 0, 1) := by decide +kernel
theorem d_Factors_sortParts_17 : decode prog_2_method_14_code 17 = .ok (.getfield 17, 3) := by decide +kernel
theorem d_Factors_sortParts_20 : decode prog_2_method_14_code 20 = .ok (.iload_n 2, 1) := by decide +kernel
theorem d_Factors_sortParts_21 : decode prog_2_method_14_code 21 = .ok (.laload, 1) := by decide +kernel
theorem d_Factors_sortParts_22 : decode prog_2_method_14_code 22 = .ok (.lstore_n 3, 1) := by decide +kernel
theorem d_Factors_sortParts_23 : decode prog_2_method_14_code 23 = .ok (.iload_n 2, 1) := by decide +kernel
theorem d_Factors_sortParts_24 : decode prog_2_method_14_code 24 = .ok (.istore 5, 2) := by decide +kernel
theorem d_Factors_sortParts_26 : decode prog_2_method_14_code 26 = .ok (.iload_n 2, 1) := by decide +kernel
theorem d_Factors_sortParts_27 : decode prog_2_method_14_code 27 = .ok (.iconst 1, 1) := by decide +kernel
theorem d_Factors_sortParts_28 : decode prog_2_method_14_code 28 = .ok (.isub, 1) := by decide +kernel
theorem d_Factors_sortParts_29 : decode prog_2_method_14_code 29 = .ok (.istore 6, 2) := by decide +kernel
theorem d_Factors_sortParts_31 : decode prog_2_method_14_code 31 = .ok (.iload 6, 2) := by decide +kernel
theorem d_Factors_sortParts_33 : decode prog_2_method_14_code 33 = .ok (.ifCond .lt 41, 3) := by decide +kernel
theorem d_Factors_sortParts_36 : decode prog_2_method_14_code 36 = .ok (.aload_n 0, 1) := by decide +kernel
theorem d_Factors_sortParts_37 : decode prog_2_method_14_code 37 = .ok (.getfield 17, 3) := by decide +kernel
theorem d_Factors_sortParts_40 : decode prog_2_method_14_code 40 = .ok (.iload 6, 2) := by decide +kernel
theorem d_Factors_sortParts_42 : decode prog_2_method_14_code 42 = .ok (.laload, 1) := by decide +kernel
theorem d_Factors_sortParts_43 : decode prog_2_method_14_code 43 = .ok (.lload_n 3, 1) := by decide +kernel
theorem d_Factors_sortParts_44 : decode prog_2_method_14_code 44 = .ok (.lcmp, 1) := by decide +kernel
theorem d_Factors_sortParts_45 : decode prog_2_method_14_code 45 = .ok (.ifCond .le 29, 3) := by decide +kernel
theorem d_Factors_sortParts_48 : decode prog_2_method_14_code 48 = .ok (.aload_n 0, 1) := by decide +kernel
theorem d_Factors_sortParts_49 : decode prog_2_method_14_code 49 = .ok (.getfield 17, 3) := by decide +kernel
theorem d_Factors_sortParts_52 : decode prog_2_method_14_code 52 = .ok (.iload 6, 2) := by decide +kernel
theorem d_Factors_sortParts_54 : decode prog_2_method_14_code 54 = .ok (.iconst 1, 1) := by decide +kernel
theorem d_Factors_sortParts_55 : decode prog_2_method_14_code 55 = .ok (.iadd, 1) := by decide +kernel
theorem d_Factors_sortParts_56 : decode prog_2_method_14_code 56 = .ok (.aload_n 0, 1) := by decide +kernel
theorem d_Factors_sortParts_57 : decode prog_2_method_14_code 57 = .ok (.getfield 17, 3) := by decide +kernel
theorem d_Factors_sortParts_60 : decode prog_2_method_14_code 60 = .ok (.iload 6, 2) := by decide +kernel
theorem d_Factors_sortParts_62 : decode prog_2_method_14_code 62 = .ok (.laload, 1) := by decide +kernel
theorem d_Factors_sortParts_63 : decode prog_2_method_14_code 63 = .ok (.lastore, 1) := by decide +kernel
theorem d_Factors_sortParts_64 : decode prog_2_method_14_code 64 = .ok (.iload 6, 2) := by decide +kernel
theorem d_Factors_sortParts_66 : decode prog_2_method_14_code 66 = .ok (.istore 5, 2) := by decide +kernel
theorem d_Factors_sortParts_68 : decode prog_2_method_14_code 68 = .ok (.iinc 6 (-1), 3) := by decide +kernel
theorem d_Factors_sortParts_71 : decode prog_2_method_14_code 71 = .ok (.goto (-40), 3) := by decide +kernel
theorem d_Factors_sortParts_74 : decode prog_2_method_14_code 74 = .ok (.aload_n 0, 1) := by decide +kernel
theorem d_Factors_sortParts_75 : decode prog_2_method_14_code 75 = .ok (.getfield 17, 3) := by decide +kernel
theorem d_Factors_sortParts_78 : decode prog_2_method_14_code 78 = .ok (.iload 5, 2) := by decide +kernel
theorem d_Factors_sortParts_80 : decode prog_2_method_14_code 80 = .ok (.lload_n 3, 1) := by decide +kernel
theorem d_Factors_sortParts_81 : decode prog_2_method_14_code 81 = .ok (.lastore, 1) := by decide +kernel
theorem d_Factors_sortParts_82 : decode prog_2_method_14_code 82 = .ok (.iinc 2 1, 3) := by decide +kernel
theorem d_Factors_sortParts_85 : decode prog_2_method_14_code 85 = .ok (.goto (-83), 3) := by decide +kernel
theorem d_Factors_sortParts_88 : decode prog_2_method_14_code 88 = .ok (.return_, 1) := by decide +kernel
def cf_Factors_sortParts_B31 (c : Nat) (K2 : Int32 → Int32 → Wd → Prop) (K31 : Int32 → Int32 → Int64 → Int32 → Int32 → Wd → Prop) (P : Wd → Prop) (x1 : Int32) (x2 : Int32) (x3 : Int64) (x5 : Int32) (x6 : Int32) (w : Wd) : Prop :=
  ((x6 < 0 → vp_in x5 31 ∧ ∀ w3, w3 = wL w (c + 3) x5.toNatClampNeg x3 → ∀ v4, v4 = x2 + (1 : Int32) → K2 x1 v4 w3) ∧ (¬ x6 < 0 → vp_in x6 31 ∧ (((w.2 (c + 3) x6.toNatClampNeg) ≤ x3 → vp_in x5 31 ∧ ∀ w5, w5 = wL w (c + 3) x5.toNatClampNeg x3 → ∀ v6, v6 = x2 + (1 : Int32) → K2 x1 v6 w5) ∧ (¬ (w.2 (c + 3) x6.toNatClampNeg) ≤ x3 → vp_in x6 31 ∧ vp_in (x6 + (1 : Int32)) 31 ∧ ∀ w7, w7 = wL w (c + 3) (x6 + (1 : Int32)).toNatClampNeg (w.2 (c + 3) x6.toNatClampNeg) → ∀ v8, v8 = x6 + (-1 : Int32) → K31 x1 x2 x3 x6 v8 w7))))
def cf_Factors_sortParts_L31 (c : Nat) (K2 : Int32 → Int32 → Wd → Prop) (P : Wd → Prop) : Nat → Int32 → Int32 → Int64 → Int32 → Int32 → Wd → Prop
  | 0 => fun x1 x2 x3 x5 x6 w => False
  | n + 1 => fun x1 x2 x3 x5 x6 w => cf_Factors_sortParts_B31 c K2 (cf_Factors_sortParts_L31 c K2 P n) P x1 x2 x3 x5 x6 w
def cf_Factors_sortParts_B2 (c : Nat) (K2 : Int32 → Int32 → Wd → Prop) (P : Wd → Prop) (x1 : Int32) (x2 : Int32) (w : Wd) : Prop :=
  ((x1 ≤ x2 → P w) ∧ (¬ x1 ≤ x2 → (((31 : Int32) ≤ x2 → P w) ∧ (¬ (31 : Int32) ≤ x2 → vp_in x2 31 ∧ ∀ v1, v1 = w.2 (c + 3) x2.toNatClampNeg → ∀ v2, v2 = x2 - (1 : Int32) → ∃ n, cf_Factors_sortParts_L31 c K2 P n x1 x2 v1 x2 v2 w))))
def cf_Factors_sortParts_L2 (c : Nat)  (P : Wd → Prop) : Nat → Int32 → Int32 → Wd → Prop
  | 0 => fun x1 x2 w => False
  | n + 1 => fun x1 x2 w => cf_Factors_sortParts_B2 c (cf_Factors_sortParts_L2 c P n) P x1 x2 w
def cf_Factors_sortParts (c : Nat) (a0 : Int32) (w : Wd) (P : Wd → Prop) : Prop :=
  ∃ n, cf_Factors_sortParts_L2 c P n a0 (1 : Int32) w
theorem cf_Factors_sortParts_B31_ok {g : ayG} {d : Nat} (hd : 0 ≤ d) (c : Nat) (hc : ay_sh c = (14, 0)) (w : Wd) (K2 : Int32 → Int32 → Wd → Prop) (K31 : Int32 → Int32 → Int64 → Int32 → Int32 → Wd → Prop) (P : Wd → Prop) (Q : Option Value → Wd → Prop) (hQ : ∀ w2, P w2 → Q none w2) (hK2 : ∀ (x1 : Int32) (x2 : Int32) (w : Wd), (K2 x1 x2 w → wp g (fun _ => True) y_Factors_sortParts prog_2_method_14_code 7 none d 2 [(0, .ref (g.1 + c)), (1, .int x1), (2, .int x2)] [] w Q)) (hK31 : ∀ (x1 : Int32) (x2 : Int32) (x3 : Int64) (x5 : Int32) (x6 : Int32) (w : Wd), (K31 x1 x2 x3 x5 x6 w → wp g (fun _ => True) y_Factors_sortParts prog_2_method_14_code 7 none d 31 [(0, .ref (g.1 + c)), (1, .int x1), (2, .int x2), (3, .long x3), (5, .int x5), (6, .int x6)] [] w Q)) (x1 : Int32) (x2 : Int32) (x3 : Int64) (x5 : Int32) (x6 : Int32) (h : cf_Factors_sortParts_B31 c K2 K31 P x1 x2 x3 x5 x6 w) : wp g (fun _ => True) y_Factors_sortParts prog_2_method_14_code 7 none d 31 [(0, .ref (g.1 + c)), (1, .int x1), (2, .int x2), (3, .long x3), (5, .int x5), (6, .int x6)] [] w Q := by
  unfold cf_Factors_sortParts_B31 at h
  refine am_iload d_Factors_sortParts_31 5 rfl ?_
  refine am_if_lt (tgt := 74) d_Factors_sortParts_33 (by decide) (fun c33 => ?_) (fun c33 => ?_)
  · have h := h.1 c33
    refine am_aload_n d_Factors_sortParts_74 0 rfl ?_
    refine am_getf (T := F_Factors) (fs := ob_Factors g w c) (C := R_Factors) (N := 5) (ci := 4) 2 d_Factors_sortParts_75 wd_110 rfl (ay_shlt hc (by decide)) (el_Factors hc) rfl i_Factors (by decide) rfl ?_
    refine am_iload d_Factors_sortParts_78 4 rfl ?_
    refine am_lload_n d_Factors_sortParts_80 3 rfl ?_
    have hi81 := h.1
    have h := h.2
    refine am_lastore d_Factors_sortParts_81 (sh_F3 hc) hi81 ?_
    obtain ⟨w3, ew3⟩ : ∃ z, z = wL w (c + 3) x5.toNatClampNeg x3 := ⟨_, rfl⟩
    rw [← ew3]
    have h := h w3 ew3
    obtain ⟨v4, ev4⟩ : ∃ z : Int32, z = x2 + (1 : Int32) := ⟨_, rfl⟩
    have h := h v4 ev4
    refine am_iinc (v := v4) (l' := [(2, .int v4), (0, .ref (g.1 + c)), (1, .int x1), (3, .long x3), (5, .int x5), (6, .int x6)]) d_Factors_sortParts_82 2 rfl (by rw [ev4]; rfl) (by decide) rfl ?_
    refine am_goto (tgt := 2) d_Factors_sortParts_85 (by decide) ?_
    refine am_sub [1, 2, 0] rfl ?_
    exact hK2 x1 v4 w3 h
  · have h := h.2 c33
    refine am_aload_n d_Factors_sortParts_36 0 rfl ?_
    refine am_getf (T := F_Factors) (fs := ob_Factors g w c) (C := R_Factors) (N := 5) (ci := 4) 2 d_Factors_sortParts_37 wd_110 rfl (ay_shlt hc (by decide)) (el_Factors hc) rfl i_Factors (by decide) rfl ?_
    refine am_iload d_Factors_sortParts_40 5 rfl ?_
    have hi42 := h.1
    have h := h.2
    refine am_laload d_Factors_sortParts_42 (sh_F3 hc) hi42 ?_
    refine am_lload_n d_Factors_sortParts_43 3 rfl ?_
    refine am_lif_le (tgt := 74) d_Factors_sortParts_44 d_Factors_sortParts_45 (by decide) (fun c44 => ?_) (fun c44 => ?_)
    · have h := h.1 c44
      refine am_aload_n d_Factors_sortParts_74 0 rfl ?_
      refine am_getf (T := F_Factors) (fs := ob_Factors g w c) (C := R_Factors) (N := 5) (ci := 4) 2 d_Factors_sortParts_75 wd_110 rfl (ay_shlt hc (by decide)) (el_Factors hc) rfl i_Factors (by decide) rfl ?_
      refine am_iload d_Factors_sortParts_78 4 rfl ?_
      refine am_lload_n d_Factors_sortParts_80 3 rfl ?_
      have hi81 := h.1
      have h := h.2
      refine am_lastore d_Factors_sortParts_81 (sh_F3 hc) hi81 ?_
      obtain ⟨w5, ew5⟩ : ∃ z, z = wL w (c + 3) x5.toNatClampNeg x3 := ⟨_, rfl⟩
      rw [← ew5]
      have h := h w5 ew5
      obtain ⟨v6, ev6⟩ : ∃ z : Int32, z = x2 + (1 : Int32) := ⟨_, rfl⟩
      have h := h v6 ev6
      refine am_iinc (v := v6) (l' := [(2, .int v6), (0, .ref (g.1 + c)), (1, .int x1), (3, .long x3), (5, .int x5), (6, .int x6)]) d_Factors_sortParts_82 2 rfl (by rw [ev6]; rfl) (by decide) rfl ?_
      refine am_goto (tgt := 2) d_Factors_sortParts_85 (by decide) ?_
      refine am_sub [1, 2, 0] rfl ?_
      exact hK2 x1 v6 w5 h
    · have h := h.2 c44
      refine am_aload_n d_Factors_sortParts_48 0 rfl ?_
      refine am_getf (T := F_Factors) (fs := ob_Factors g w c) (C := R_Factors) (N := 5) (ci := 4) 2 d_Factors_sortParts_49 wd_110 rfl (ay_shlt hc (by decide)) (el_Factors hc) rfl i_Factors (by decide) rfl ?_
      refine am_iload d_Factors_sortParts_52 5 rfl ?_
      refine am_iconst (v := 1) d_Factors_sortParts_54 rfl ?_
      refine am_iadd d_Factors_sortParts_55 ?_
      refine am_aload_n d_Factors_sortParts_56 0 rfl ?_
      refine am_getf (T := F_Factors) (fs := ob_Factors g w c) (C := R_Factors) (N := 5) (ci := 4) 2 d_Factors_sortParts_57 wd_110 rfl (ay_shlt hc (by decide)) (el_Factors hc) rfl i_Factors (by decide) rfl ?_
      refine am_iload d_Factors_sortParts_60 5 rfl ?_
      have hi62 := h.1
      have h := h.2
      refine am_laload d_Factors_sortParts_62 (sh_F3 hc) hi62 ?_
      have hi63 := h.1
      have h := h.2
      refine am_lastore d_Factors_sortParts_63 (sh_F3 hc) hi63 ?_
      obtain ⟨w7, ew7⟩ : ∃ z, z = wL w (c + 3) (x6 + (1 : Int32)).toNatClampNeg (w.2 (c + 3) x6.toNatClampNeg) := ⟨_, rfl⟩
      rw [← ew7]
      have h := h w7 ew7
      refine am_iload d_Factors_sortParts_64 5 rfl ?_
      refine am_istore (l' := [(5, .int x6), (0, .ref (g.1 + c)), (1, .int x1), (2, .int x2), (3, .long x3), (6, .int x6)]) d_Factors_sortParts_66 (by decide) rfl ?_
      obtain ⟨v8, ev8⟩ : ∃ z : Int32, z = x6 + (-1 : Int32) := ⟨_, rfl⟩
      have h := h v8 ev8
      refine am_iinc (v := v8) (l' := [(6, .int v8), (5, .int x6), (0, .ref (g.1 + c)), (1, .int x1), (2, .int x2), (3, .long x3)]) d_Factors_sortParts_68 5 rfl (by rw [ev8]; rfl) (by decide) rfl ?_
      refine am_goto (tgt := 31) d_Factors_sortParts_71 (by decide) ?_
      refine am_sub [2, 3, 4, 5, 1, 0] rfl ?_
      exact hK31 x1 x2 x3 x6 v8 w7 h
theorem cf_Factors_sortParts_L31_ok {g : ayG} {d : Nat} (hd : 0 ≤ d) (c : Nat) (hc : ay_sh c = (14, 0)) (K2 : Int32 → Int32 → Wd → Prop) (P : Wd → Prop) (Q : Option Value → Wd → Prop) (hQ : ∀ w2, P w2 → Q none w2) (hK2 : ∀ (x1 : Int32) (x2 : Int32) (w : Wd), (K2 x1 x2 w → wp g (fun _ => True) y_Factors_sortParts prog_2_method_14_code 7 none d 2 [(0, .ref (g.1 + c)), (1, .int x1), (2, .int x2)] [] w Q)) : ∀ (n : Nat) (x1 : Int32) (x2 : Int32) (x3 : Int64) (x5 : Int32) (x6 : Int32) (w : Wd) (h : cf_Factors_sortParts_L31 c K2 P n x1 x2 x3 x5 x6 w), wp g (fun _ => True) y_Factors_sortParts prog_2_method_14_code 7 none d 31 [(0, .ref (g.1 + c)), (1, .int x1), (2, .int x2), (3, .long x3), (5, .int x5), (6, .int x6)] [] w Q
  | 0, x1, x2, x3, x5, x6, w, h => False.elim h
  | n + 1, x1, x2, x3, x5, x6, w, h => cf_Factors_sortParts_B31_ok hd c hc w K2 (cf_Factors_sortParts_L31 c K2 P n) P Q hQ hK2 (fun x1 x2 x3 x5 x6 w h => cf_Factors_sortParts_L31_ok hd c hc K2 P Q hQ hK2 n x1 x2 x3 x5 x6 w h) x1 x2 x3 x5 x6 h
theorem cf_Factors_sortParts_B2_ok {g : ayG} {d : Nat} (hd : 0 ≤ d) (c : Nat) (hc : ay_sh c = (14, 0)) (w : Wd) (K2 : Int32 → Int32 → Wd → Prop) (P : Wd → Prop) (Q : Option Value → Wd → Prop) (hQ : ∀ w2, P w2 → Q none w2) (hK2 : ∀ (x1 : Int32) (x2 : Int32) (w : Wd), (K2 x1 x2 w → wp g (fun _ => True) y_Factors_sortParts prog_2_method_14_code 7 none d 2 [(0, .ref (g.1 + c)), (1, .int x1), (2, .int x2)] [] w Q)) (x1 : Int32) (x2 : Int32) (h : cf_Factors_sortParts_B2 c K2 P x1 x2 w) : wp g (fun _ => True) y_Factors_sortParts prog_2_method_14_code 7 none d 2 [(0, .ref (g.1 + c)), (1, .int x1), (2, .int x2)] [] w Q := by
  unfold cf_Factors_sortParts_B2 at h
  refine am_iload_n d_Factors_sortParts_2 2 rfl ?_
  refine am_iload_n d_Factors_sortParts_3 1 rfl ?_
  refine am_icmp_ge (tgt := 88) d_Factors_sortParts_4 (by decide) (fun c4 => ?_) (fun c4 => ?_)
  · have h := h.1 c4
    exact am_return d_Factors_sortParts_88 rfl (hQ w h)
  · have h := h.2 c4
    refine am_iload_n d_Factors_sortParts_7 2 rfl ?_
    refine am_aload_n d_Factors_sortParts_8 0 rfl ?_
    refine am_getf (T := F_Factors) (fs := ob_Factors g w c) (C := R_Factors) (N := 5) (ci := 4) 2 d_Factors_sortParts_9 wd_110 rfl (ay_shlt hc (by decide)) (el_Factors hc) rfl i_Factors (by decide) rfl ?_
    refine am_alen (v := 31) d_Factors_sortParts_12 (sh_F3 hc) (by decide) rfl ?_
    refine am_icmp_ge (tgt := 88) d_Factors_sortParts_13 (by decide) (fun c13 => ?_) (fun c13 => ?_)
    · have h := h.1 c13
      exact am_return d_Factors_sortParts_88 rfl (hQ w h)
    · have h := h.2 c13
      refine am_aload_n d_Factors_sortParts_16 0 rfl ?_
      refine am_getf (T := F_Factors) (fs := ob_Factors g w c) (C := R_Factors) (N := 5) (ci := 4) 2 d_Factors_sortParts_17 wd_110 rfl (ay_shlt hc (by decide)) (el_Factors hc) rfl i_Factors (by decide) rfl ?_
      refine am_iload_n d_Factors_sortParts_20 2 rfl ?_
      have hi21 := h.1
      have h := h.2
      refine am_laload d_Factors_sortParts_21 (sh_F3 hc) hi21 ?_
      refine am_topl (fun v1 ev1 => ?_)
      have h := h v1 ev1
      refine am_lstore_n (l' := [(3, .long v1), (0, .ref (g.1 + c)), (1, .int x1), (2, .int x2)]) d_Factors_sortParts_22 (by decide) rfl ?_
      refine am_iload_n d_Factors_sortParts_23 3 rfl ?_
      refine am_istore (l' := [(5, .int x2), (3, .long v1), (0, .ref (g.1 + c)), (1, .int x1), (2, .int x2)]) d_Factors_sortParts_24 (by decide) rfl ?_
      refine am_iload_n d_Factors_sortParts_26 4 rfl ?_
      refine am_iconst (v := 1) d_Factors_sortParts_27 rfl ?_
      refine am_isub d_Factors_sortParts_28 ?_
      refine am_topi (fun v2 ev2 => ?_)
      have h := h v2 ev2
      refine am_istore (l' := [(6, .int v2), (5, .int x2), (3, .long v1), (0, .ref (g.1 + c)), (1, .int x1), (2, .int x2)]) d_Factors_sortParts_29 (by decide) rfl ?_
      refine am_sub [3, 4, 5, 2, 1, 0] rfl ?_
      obtain ⟨n, h⟩ := h
      exact cf_Factors_sortParts_L31_ok (by omega) c hc K2 P Q hQ hK2 n x1 x2 v1 x2 v2 w h
theorem cf_Factors_sortParts_L2_ok {g : ayG} {d : Nat} (hd : 0 ≤ d) (c : Nat) (hc : ay_sh c = (14, 0))  (P : Wd → Prop) (Q : Option Value → Wd → Prop) (hQ : ∀ w2, P w2 → Q none w2)  : ∀ (n : Nat) (x1 : Int32) (x2 : Int32) (w : Wd) (h : cf_Factors_sortParts_L2 c P n x1 x2 w), wp g (fun _ => True) y_Factors_sortParts prog_2_method_14_code 7 none d 2 [(0, .ref (g.1 + c)), (1, .int x1), (2, .int x2)] [] w Q
  | 0, x1, x2, w, h => False.elim h
  | n + 1, x1, x2, w, h => cf_Factors_sortParts_B2_ok hd c hc w (cf_Factors_sortParts_L2 c P n) P Q hQ (fun x1 x2 w h => cf_Factors_sortParts_L2_ok hd c hc  P Q hQ  n x1 x2 w h) x1 x2 h
theorem cf_Factors_sortParts_ok {g : ayG} {d : Nat} (hd : 0 ≤ d) (c : Nat) (a0 : Int32) (hc : ay_sh c = (14, 0)) (w : Wd) (P : Wd → Prop) (h : cf_Factors_sortParts c a0 w P) : Call g y_Factors_sortParts prog_2_method_14_code 7 none d [.ref (g.1 + c), .int a0] w (fun (r : Option Value) (w2 : Wd) => r = none ∧ P w2) := by
  unfold cf_Factors_sortParts at h
  refine am_enter mi_Factors_sortParts (Nat.le_of_ble_eq_true rfl) ?_
  have hQ : ∀ w2, P w2 → (fun (r : Option Value) (w2 : Wd) => r = none ∧ P w2) none w2 := fun w2 h => ⟨rfl, h⟩
  generalize (fun (r : Option Value) (w2 : Wd) => r = none ∧ P w2) = Q at hQ ⊢
  show wp g (fun _ => True) y_Factors_sortParts prog_2_method_14_code 7 none d 0 [(0, .ref (g.1 + c)), (1, .int a0)] [] w Q
  refine am_iconst (v := 1) d_Factors_sortParts_0 rfl ?_
  refine am_istore_n (l' := [(2, .int (1 : Int32)), (0, .ref (g.1 + c)), (1, .int a0)]) d_Factors_sortParts_1 (by decide) rfl ?_
  refine am_sub [1, 2, 0] rfl ?_
  obtain ⟨n, h⟩ := h
  exact cf_Factors_sortParts_L2_ok (by omega) c hc  P Q hQ  n a0 (1 : Int32) w h
theorem d_Factors_note_0 : decode prog_2_method_15_code 0 = .ok (.aload_n 0, 1) := by decide +kernel
theorem d_Factors_note_1 : decode prog_2_method_15_code 1 = .ok (.getfield 20, 3) := by decide +kernel
theorem d_Factors_note_4 : decode prog_2_method_15_code 4 = .ok (.aload_n 0, 1) := by decide +kernel
theorem d_Factors_note_5 : decode prog_2_method_15_code 5 = .ok (.getfield 9, 3) := by decide +kernel
theorem d_Factors_note_8 : decode prog_2_method_15_code 8 = .ok (.arraylength, 1) := by decide +kernel
theorem d_Factors_note_9 : decode prog_2_method_15_code 9 = .ok (.if_icmp .ge 55, 3) := by decide +kernel
theorem d_Factors_note_12 : decode prog_2_method_15_code 12 = .ok (.aload_n 0, 1) := by decide +kernel
theorem d_Factors_note_13 : decode prog_2_method_15_code 13 = .ok (.getfield 20, 3) := by decide +kernel
theorem d_Factors_note_16 : decode prog_2_method_15_code 16 = .ok (.aload_n 0, 1) := by decide +kernel
theorem d_Factors_note_17 : decode prog_2_method_15_code 17 = .ok (.getfield 13, 3) := by decide +kernel
theorem d_Factors_note_20 : decode prog_2_method_15_code 20 = .ok (.arraylength, 1) := by decide +kernel
theorem d_Factors_note_21 : decode prog_2_method_15_code 21 = .ok (.if_icmp .ge 43, 3) := by decide +kernel
theorem d_Factors_note_24 : decode prog_2_method_15_code 24 = .ok (.aload_n 0, 1) := by decide +kernel
theorem d_Factors_note_25 : decode prog_2_method_15_code 25 = .ok (.getfield 9, 3) := by decide +kernel
theorem d_Factors_note_28 : decode prog_2_method_15_code 28 = .ok (.aload_n 0, 1) := by decide +kernel
theorem d_Factors_note_29 : decode prog_2_method_15_code 29 = .ok (.getfield 20, 3) := by decide +kernel
theorem d_Factors_note_32 : decode prog_2_method_15_code 32 = .ok (.lload_n 1, 1) := by decide +kernel
theorem d_Factors_note_33 : decode prog_2_method_15_code 33 = .ok (.lastore, 1) := by decide +kernel
theorem d_Factors_note_34 : decode prog_2_method_15_code 34 = .ok (.aload_n 0, 1) := by decide +kernel
theorem d_Factors_note_35 : decode prog_2_method_15_code 35 = .ok (.getfield 13, 3) := by decide +kernel
theorem d_Factors_note_38 : decode prog_2_method_15_code 38 = .ok (.aload_n 0, 1) := by decide +kernel
theorem d_Factors_note_39 : decode prog_2_method_15_code 39 = .ok (.getfield 20, 3) := by decide +kernel
theorem d_Factors_note_42 : decode prog_2_method_15_code 42 = .ok (.iload_n 3, 1) := by decide +kernel
theorem d_Factors_note_43 : decode prog_2_method_15_code 43 = .ok (.iastore, 1) := by decide +kernel
theorem d_Factors_note_44 : decode prog_2_method_15_code 44 = .ok (.aload_n 0, 1) := by decide +kernel
theorem d_Factors_note_45 : decode prog_2_method_15_code 45 = .ok (.dup, 1) := by decide +kernel
theorem d_Factors_note_46 : decode prog_2_method_15_code 46 = .ok (.getfield 20, 3) := by decide +kernel
theorem d_Factors_note_49 : decode prog_2_method_15_code 49 = .ok (.iconst 1, 1) := by decide +kernel
theorem d_Factors_note_50 : decode prog_2_method_15_code 50 = .ok (.iadd, 1) := by decide +kernel
theorem d_Factors_note_51 : decode prog_2_method_15_code 51 = .ok (.putfield 20, 3) := by decide +kernel
theorem d_Factors_note_54 : decode prog_2_method_15_code 54 = .ok (.aload_n 0, 1) := by decide +kernel
theorem d_Factors_note_55 : decode prog_2_method_15_code 55 = .ok (.dup, 1) := by decide +kernel
theorem d_Factors_note_56 : decode prog_2_method_15_code 56 = .ok (.getfield 24, 3) := by decide +kernel
theorem d_Factors_note_59 : decode prog_2_method_15_code 59 = .ok (.iload_n 3, 1) := by decide +kernel
theorem d_Factors_note_60 : decode prog_2_method_15_code 60 = .ok (.iadd, 1) := by decide +kernel
theorem d_Factors_note_61 : decode prog_2_method_15_code 61 = .ok (.putfield 24, 3) := by decide +kernel
theorem d_Factors_note_64 : decode prog_2_method_15_code 64 = .ok (.return_, 1) := by decide +kernel
def cf_Factors_note (c : Nat) (a0 : Int64) (a1 : Int32) (w : Wd) (P : Wd → Prop) : Prop :=
  (((31 : Int32) ≤ (w.1 c 3) → P w) ∧ (¬ (31 : Int32) ≤ (w.1 c 3) → (((31 : Int32) ≤ (w.1 c 3) → P w) ∧ (¬ (31 : Int32) ≤ (w.1 c 3) → vp_in (w.1 c 3) 31 ∧ ∀ w1, w1 = wL w (c + 1) (w.1 c 3).toNatClampNeg a0 → vp_in (w1.1 c 3) 31 ∧ ∀ w2, w2 = wI w1 (c + 2) (w1.1 c 3).toNatClampNeg a1 → ∀ w3, w3 = wI w2 c 3 ((w2.1 c 3) + (1 : Int32)) → ∀ w4, w4 = wI w3 c 4 ((w3.1 c 4) + a1) → P w4))))
theorem cf_Factors_note_ok {g : ayG} {d : Nat} (hd : 0 ≤ d) (c : Nat) (a0 : Int64) (a1 : Int32) (hc : ay_sh c = (14, 0)) (w : Wd) (P : Wd → Prop) (h : cf_Factors_note c a0 a1 w P) : Call g y_Factors_note prog_2_method_15_code 4 none d [.ref (g.1 + c), .long a0, .int a1] w (fun (r : Option Value) (w2 : Wd) => r = none ∧ P w2) := by
  unfold cf_Factors_note at h
  refine am_enter mi_Factors_note (Nat.le_of_ble_eq_true rfl) ?_
  have hQ : ∀ w2, P w2 → (fun (r : Option Value) (w2 : Wd) => r = none ∧ P w2) none w2 := fun w2 h => ⟨rfl, h⟩
  generalize (fun (r : Option Value) (w2 : Wd) => r = none ∧ P w2) = Q at hQ ⊢
  show wp g (fun _ => True) y_Factors_note prog_2_method_15_code 4 none d 0 [(0, .ref (g.1 + c)), (1, .long a0), (3, .int a1)] [] w Q
  refine am_aload_n d_Factors_note_0 0 rfl ?_
  refine am_getf (T := F_Factors) (fs := ob_Factors g w c) (C := R_Factors) (N := 5) (ci := 4) 3 d_Factors_note_1 wd_111 rfl (ay_shlt hc (by decide)) (el_Factors hc) rfl i_Factors (by decide) rfl ?_
  refine am_aload_n d_Factors_note_4 0 rfl ?_
  refine am_getf (T := F_Factors) (fs := ob_Factors g w c) (C := R_Factors) (N := 5) (ci := 4) 0 d_Factors_note_5 wd_108 rfl (ay_shlt hc (by decide)) (el_Factors hc) rfl i_Factors (by decide) rfl ?_
  refine am_alen (v := 31) d_Factors_note_8 (sh_F1 hc) (by decide) rfl ?_
  refine am_icmp_ge (tgt := 64) d_Factors_note_9 (by decide) (fun c9 => ?_) (fun c9 => ?_)
  · have h := h.1 c9
    exact am_return d_Factors_note_64 rfl (hQ w h)
  · have h := h.2 c9
    refine am_aload_n d_Factors_note_12 0 rfl ?_
    refine am_getf (T := F_Factors) (fs := ob_Factors g w c) (C := R_Factors) (N := 5) (ci := 4) 3 d_Factors_note_13 wd_111 rfl (ay_shlt hc (by decide)) (el_Factors hc) rfl i_Factors (by decide) rfl ?_
    refine am_aload_n d_Factors_note_16 0 rfl ?_
    refine am_getf (T := F_Factors) (fs := ob_Factors g w c) (C := R_Factors) (N := 5) (ci := 4) 1 d_Factors_note_17 wd_109 rfl (ay_shlt hc (by decide)) (el_Factors hc) rfl i_Factors (by decide) rfl ?_
    refine am_alen (v := 31) d_Factors_note_20 (sh_F2 hc) (by decide) rfl ?_
    refine am_icmp_ge (tgt := 64) d_Factors_note_21 (by decide) (fun c21 => ?_) (fun c21 => ?_)
    · have h := h.1 c21
      exact am_return d_Factors_note_64 rfl (hQ w h)
    · have h := h.2 c21
      refine am_aload_n d_Factors_note_24 0 rfl ?_
      refine am_getf (T := F_Factors) (fs := ob_Factors g w c) (C := R_Factors) (N := 5) (ci := 4) 0 d_Factors_note_25 wd_108 rfl (ay_shlt hc (by decide)) (el_Factors hc) rfl i_Factors (by decide) rfl ?_
      refine am_aload_n d_Factors_note_28 0 rfl ?_
      refine am_getf (T := F_Factors) (fs := ob_Factors g w c) (C := R_Factors) (N := 5) (ci := 4) 3 d_Factors_note_29 wd_111 rfl (ay_shlt hc (by decide)) (el_Factors hc) rfl i_Factors (by decide) rfl ?_
      refine am_lload_n d_Factors_note_32 1 rfl ?_
      have hi33 := h.1
      have h := h.2
      refine am_lastore d_Factors_note_33 (sh_F1 hc) hi33 ?_
      obtain ⟨w1, ew1⟩ : ∃ z, z = wL w (c + 1) (w.1 c 3).toNatClampNeg a0 := ⟨_, rfl⟩
      rw [← ew1]
      have h := h w1 ew1
      refine am_aload_n d_Factors_note_34 0 rfl ?_
      refine am_getf (T := F_Factors) (fs := ob_Factors g w1 c) (C := R_Factors) (N := 5) (ci := 4) 1 d_Factors_note_35 wd_109 rfl (ay_shlt hc (by decide)) (el_Factors hc) rfl i_Factors (by decide) rfl ?_
      refine am_aload_n d_Factors_note_38 0 rfl ?_
      refine am_getf (T := F_Factors) (fs := ob_Factors g w1 c) (C := R_Factors) (N := 5) (ci := 4) 3 d_Factors_note_39 wd_111 rfl (ay_shlt hc (by decide)) (el_Factors hc) rfl i_Factors (by decide) rfl ?_
      refine am_iload_n d_Factors_note_42 2 rfl ?_
      have hi43 := h.1
      have h := h.2
      refine am_iastore d_Factors_note_43 (sh_F2 hc) hi43 ?_
      obtain ⟨w2, ew2⟩ : ∃ z, z = wI w1 (c + 2) (w1.1 c 3).toNatClampNeg a1 := ⟨_, rfl⟩
      rw [← ew2]
      have h := h w2 ew2
      refine am_aload_n d_Factors_note_44 0 rfl ?_
      refine am_dup d_Factors_note_45 rfl ?_
      refine am_getf (T := F_Factors) (fs := ob_Factors g w2 c) (C := R_Factors) (N := 5) (ci := 4) 3 d_Factors_note_46 wd_111 rfl (ay_shlt hc (by decide)) (el_Factors hc) rfl i_Factors (by decide) rfl ?_
      refine am_iconst (v := 1) d_Factors_note_49 rfl ?_
      refine am_iadd d_Factors_note_50 ?_
      refine am_putf (w' := wI w2 c 3 ((w2.1 c 3) + (1 : Int32))) (ty := .int) (T := F_Factors) (fs := ob_Factors g w2 c) (C := R_Factors) (N := 5) (ci := 4) 3 d_Factors_note_51 wd_111 rfl (ay_shlt hc (by decide)) (el_Factors hc) rfl i_Factors (by decide) G_Factors ty_Factors n_Factors rfl (ty_Factors 3 (by decide)) rfl rfl (Nat.le_of_ble_eq_true rfl) ((el_Factors hc).trans (by rw [pf_Factors_unlike])) wI_o ?_
      obtain ⟨w3, ew3⟩ : ∃ z, z = wI w2 c 3 ((w2.1 c 3) + (1 : Int32)) := ⟨_, rfl⟩
      rw [← ew3]
      have h := h w3 ew3
      refine am_aload_n d_Factors_note_54 0 rfl ?_
      refine am_dup d_Factors_note_55 rfl ?_
      refine am_getf (T := F_Factors) (fs := ob_Factors g w3 c) (C := R_Factors) (N := 5) (ci := 4) 4 d_Factors_note_56 wd_112 rfl (ay_shlt hc (by decide)) (el_Factors hc) rfl i_Factors (by decide) rfl ?_
      refine am_iload_n d_Factors_note_59 2 rfl ?_
      refine am_iadd d_Factors_note_60 ?_
      refine am_putf (w' := wI w3 c 4 ((w3.1 c 4) + a1)) (ty := .int) (T := F_Factors) (fs := ob_Factors g w3 c) (C := R_Factors) (N := 5) (ci := 4) 4 d_Factors_note_61 wd_112 rfl (ay_shlt hc (by decide)) (el_Factors hc) rfl i_Factors (by decide) G_Factors ty_Factors n_Factors rfl (ty_Factors 4 (by decide)) rfl rfl (Nat.le_of_ble_eq_true rfl) ((el_Factors hc).trans (by rw [pf_Factors_all])) wI_o ?_
      obtain ⟨w4, ew4⟩ : ∃ z, z = wI w3 c 4 ((w3.1 c 4) + a1) := ⟨_, rfl⟩
      rw [← ew4]
      have h := h w4 ew4
      exact am_return d_Factors_note_64 rfl (hQ w4 h)
theorem d_Factors_takeOut_0 : decode prog_2_method_11_code 0 = .ok (.lload_n 1, 1) := by decide +kernel
theorem d_Factors_takeOut_1 : decode prog_2_method_11_code 1 = .ok (.lstore 5, 2) := by decide +kernel
theorem d_Factors_takeOut_3 : decode prog_2_method_11_code 3 = .ok (.iconst 0, 1) := by decide +kernel
theorem d_Factors_takeOut_4 : decode prog_2_method_11_code 4 = .ok (.istore 7, 2) := by decide +kernel
theorem d_Factors_takeOut_6 : decode prog_2_method_11_code 6 = .ok (.iconst 0, 1) := by decide +kernel
theorem d_Factors_takeOut_7 : decode prog_2_method_11_code 7 = .ok (.istore 8, 2) := by decide +kernel
theorem d_Factors_takeOut_9 : decode prog_2_method_11_code 9 = .ok (.iload 8, 2) := by decide +kernel
theorem d_Factors_takeOut_11 : decode prog_2_method_11_code 11 = .ok (.bipush 31, 2) := by decide +kernel
theorem d_Factors_takeOut_13 : decode prog_2_method_11_code 13 = .ok (.if_icmp .ge 31, 3) := by decide +kernel
theorem d_Factors_takeOut_16 : decode prog_2_method_11_code 16 = .ok (.lload 5, 2) := by decide +kernel
theorem d_Factors_takeOut_18 : decode prog_2_method_11_code 18 = .ok (.lload_n 3, 1) := by decide +kernel
theorem d_Factors_takeOut_19 : decode prog_2_method_11_code 19 = .ok (.invokestatic 61, 3) := by decide +kernel
theorem d_Factors_takeOut_22 : decode prog_2_method_11_code 22 = .ok (.lconst 0, 1) := by decide +kernel
theorem d_Factors_takeOut_23 : decode prog_2_method_11_code 23 = .ok (.lcmp, 1) := by decide +kernel
theorem d_Factors_takeOut_24 : decode prog_2_method_11_code 24 = .ok (.ifCond .ne 20, 3) := by decide +kernel
theorem d_Factors_takeOut_27 : decode prog_2_method_11_code 27 = .ok (.lload 5, 2) := by decide +kernel
theorem d_Factors_takeOut_29 : decode prog_2_method_11_code 29 = .ok (.lload_n 3, 1) := by decide +kernel
theorem d_Factors_takeOut_30 : decode prog_2_method_11_code 30 = .ok (.invokestatic 68, 3) := by decide +kernel
theorem d_Factors_takeOut_33 : decode prog_2_method_11_code 33 = .ok (.lstore 5, 2) := by decide +kernel
theorem d_Factors_takeOut_35 : decode prog_2_method_11_code 35 = .ok (.iinc 7 1, 3) := by decide +kernel
theorem d_Factors_takeOut_38 : decode prog_2_method_11_code 38 = .ok (.iinc 8 1, 3) := by decide +kernel
theorem d_Factors_takeOut_41 : decode prog_2_method_11_code 41 = .ok (.goto (-32), 3) := by decide +kernel
theorem d_Factors_takeOut_44 : decode prog_2_method_11_code 44 = .ok (.aload_n 0, 1) := by decide +kernel
theorem d_Factors_takeOut_45 : decode prog_2_method_11_code 45 = .ok (.lload_n 3, 1) := by decide +kernel
theorem d_Factors_takeOut_46 : decode prog_2_method_11_code 46 = .ok (.iload 7, 2) := by decide +kernel
theorem d_Factors_takeOut_48 : decode prog_2_method_11_code 48 = .ok (.invokevirtual 64, 3) := by decide +kernel
theorem d_Factors_takeOut_51 : decode prog_2_method_11_code 51 = .ok (.lload 5, 2) := by decide +kernel
theorem d_Factors_takeOut_53 : decode prog_2_method_11_code 53 = .ok (.lreturn, 1) := by decide +kernel
def cf_Factors_takeOut_B9 (c : Nat) (K9 : Int64 → Int64 → Int32 → Int32 → Wd → Prop) (P : Int64 → Wd → Prop) (x3 : Int64) (x5 : Int64) (x7 : Int32) (x8 : Int32) (w : Wd) : Prop :=
  (((31 : Int32) ≤ x8 → cf_Factors_note c x3 x7 w (fun w1 => P x5 w1)) ∧ (¬ (31 : Int32) ≤ x8 → cf_Polys_remainder x5 x3 (fun r2 => ((¬ r2 = (0 : Int64) → cf_Factors_note c x3 x7 w (fun w3 => P x5 w3)) ∧ (r2 = (0 : Int64) → cf_Polys_quotient x5 x3 (fun r4 => ∀ v5, v5 = x7 + (1 : Int32) → ∀ v6, v6 = x8 + (1 : Int32) → K9 x3 r4 v5 v6 w))))))
def cf_Factors_takeOut_L9 (c : Nat)  (P : Int64 → Wd → Prop) : Nat → Int64 → Int64 → Int32 → Int32 → Wd → Prop
  | 0 => fun x3 x5 x7 x8 w => False
  | n + 1 => fun x3 x5 x7 x8 w => cf_Factors_takeOut_B9 c (cf_Factors_takeOut_L9 c P n) P x3 x5 x7 x8 w
def cf_Factors_takeOut (c : Nat) (a0 : Int64) (a1 : Int64) (w : Wd) (P : Int64 → Wd → Prop) : Prop :=
  ∃ n, cf_Factors_takeOut_L9 c P n a1 a0 (0 : Int32) (0 : Int32) w
theorem cf_Factors_takeOut_B9_ok {g : ayG} {d : Nat} (hd : 4 ≤ d) (c : Nat) (hc : ay_sh c = (14, 0)) (w : Wd) (K9 : Int64 → Int64 → Int32 → Int32 → Wd → Prop) (P : Int64 → Wd → Prop) (Q : Option Value → Wd → Prop) (hQ : ∀ x w2, P x w2 → Q (some (.long x)) w2) (hK9 : ∀ (x3 : Int64) (x5 : Int64) (x7 : Int32) (x8 : Int32) (w : Wd), (K9 x3 x5 x7 x8 w → wp g (fun _ => True) y_Factors_takeOut prog_2_method_11_code 9 (some FieldType.long) d 9 [(0, .ref (g.1 + c)), (3, .long x3), (5, .long x5), (7, .int x7), (8, .int x8)] [] w Q)) (x3 : Int64) (x5 : Int64) (x7 : Int32) (x8 : Int32) (h : cf_Factors_takeOut_B9 c K9 P x3 x5 x7 x8 w) : wp g (fun _ => True) y_Factors_takeOut prog_2_method_11_code 9 (some FieldType.long) d 9 [(0, .ref (g.1 + c)), (3, .long x3), (5, .long x5), (7, .int x7), (8, .int x8)] [] w Q := by
  unfold cf_Factors_takeOut_B9 at h
  refine am_iload d_Factors_takeOut_9 4 rfl ?_
  refine am_bipush (v := 31) d_Factors_takeOut_11 rfl ?_
  refine am_icmp_ge (tgt := 44) d_Factors_takeOut_13 (by decide) (fun c13 => ?_) (fun c13 => ?_)
  · have h := h.1 c13
    refine am_aload_n d_Factors_takeOut_44 0 rfl ?_
    refine am_lload_n d_Factors_takeOut_45 1 rfl ?_
    refine am_iload d_Factors_takeOut_46 3 rfl ?_
    refine am_callV (C := y_Factors_note.cls) (d2 := d - 1) [.long x3, .int x7] d_Factors_takeOut_48 mi_Factors_note wd_700 wd_702 ws_Factors_note (ay_shlt hc (by decide)) (el_Factors hc) rfl rfl (by omega) rfl rfl (Nat.le_of_ble_eq_true rfl) ?_
    refine Call.post ?_ (cf_Factors_note_ok (by omega) c x3 x7 hc w _ h)
    rintro _ w1 ⟨rfl, h⟩
    show wp g (fun _ => True) y_Factors_takeOut prog_2_method_11_code 9 (some FieldType.long) d 51 [(0, .ref (g.1 + c)), (3, .long x3), (5, .long x5), (7, .int x7), (8, .int x8)] [] w1 Q
    refine am_lload d_Factors_takeOut_51 2 rfl ?_
    exact am_lreturn d_Factors_takeOut_53 rfl (hQ x5 w1 h)
  · have h := h.2 c13
    refine am_lload d_Factors_takeOut_16 2 rfl ?_
    refine am_lload_n d_Factors_takeOut_18 1 rfl ?_
    refine am_callS (d2 := d - 1) [.long x5, .long x3] d_Factors_takeOut_19 mi_Polys_remainder wd_699 wd_486 (by omega) rfl rfl (Nat.le_of_ble_eq_true rfl) ?_
    refine Call.post ?_ (cf_Polys_remainder_ok (by omega) x5 x3  w _ h)
    rintro _ _ ⟨r2, rfl, rfl, h⟩
    show wp g (fun _ => True) y_Factors_takeOut prog_2_method_11_code 9 (some FieldType.long) d 22 [(0, .ref (g.1 + c)), (3, .long x3), (5, .long x5), (7, .int x7), (8, .int x8)] [.long r2] w Q
    refine am_lconst (v := 0) d_Factors_takeOut_22 rfl ?_
    refine am_lif_ne (tgt := 44) d_Factors_takeOut_23 d_Factors_takeOut_24 (by decide) (fun c23 => ?_) (fun c23 => ?_)
    · have h := h.1 c23
      refine am_aload_n d_Factors_takeOut_44 0 rfl ?_
      refine am_lload_n d_Factors_takeOut_45 1 rfl ?_
      refine am_iload d_Factors_takeOut_46 3 rfl ?_
      refine am_callV (C := y_Factors_note.cls) (d2 := d - 1) [.long x3, .int x7] d_Factors_takeOut_48 mi_Factors_note wd_700 wd_702 ws_Factors_note (ay_shlt hc (by decide)) (el_Factors hc) rfl rfl (by omega) rfl rfl (Nat.le_of_ble_eq_true rfl) ?_
      refine Call.post ?_ (cf_Factors_note_ok (by omega) c x3 x7 hc w _ h)
      rintro _ w3 ⟨rfl, h⟩
      show wp g (fun _ => True) y_Factors_takeOut prog_2_method_11_code 9 (some FieldType.long) d 51 [(0, .ref (g.1 + c)), (3, .long x3), (5, .long x5), (7, .int x7), (8, .int x8)] [] w3 Q
      refine am_lload d_Factors_takeOut_51 2 rfl ?_
      exact am_lreturn d_Factors_takeOut_53 rfl (hQ x5 w3 h)
    · have h := h.2 c23
      refine am_lload d_Factors_takeOut_27 2 rfl ?_
      refine am_lload_n d_Factors_takeOut_29 1 rfl ?_
      refine am_callS (d2 := d - 1) [.long x5, .long x3] d_Factors_takeOut_30 mi_Polys_quotient wd_690 wd_479 (by omega) rfl rfl (Nat.le_of_ble_eq_true rfl) ?_
      refine Call.post ?_ (cf_Polys_quotient_ok (by omega) x5 x3  w _ h)
      rintro _ _ ⟨r4, rfl, rfl, h⟩
      show wp g (fun _ => True) y_Factors_takeOut prog_2_method_11_code 9 (some FieldType.long) d 33 [(0, .ref (g.1 + c)), (3, .long x3), (5, .long x5), (7, .int x7), (8, .int x8)] [.long r4] w Q
      refine am_lstore (l' := [(5, .long r4), (0, .ref (g.1 + c)), (3, .long x3), (7, .int x7), (8, .int x8)]) d_Factors_takeOut_33 (by decide) rfl ?_
      obtain ⟨v5, ev5⟩ : ∃ z : Int32, z = x7 + (1 : Int32) := ⟨_, rfl⟩
      have h := h v5 ev5
      refine am_iinc (v := v5) (l' := [(7, .int v5), (5, .long r4), (0, .ref (g.1 + c)), (3, .long x3), (8, .int x8)]) d_Factors_takeOut_35 3 rfl (by rw [ev5]; rfl) (by decide) rfl ?_
      obtain ⟨v6, ev6⟩ : ∃ z : Int32, z = x8 + (1 : Int32) := ⟨_, rfl⟩
      have h := h v6 ev6
      refine am_iinc (v := v6) (l' := [(8, .int v6), (7, .int v5), (5, .long r4), (0, .ref (g.1 + c)), (3, .long x3)]) d_Factors_takeOut_38 4 rfl (by rw [ev6]; rfl) (by decide) rfl ?_
      refine am_goto (tgt := 9) d_Factors_takeOut_41 (by decide) ?_
      refine am_sub [3, 4, 2, 1, 0] rfl ?_
      exact hK9 x3 r4 v5 v6 w h
theorem cf_Factors_takeOut_L9_ok {g : ayG} {d : Nat} (hd : 4 ≤ d) (c : Nat) (hc : ay_sh c = (14, 0))  (P : Int64 → Wd → Prop) (Q : Option Value → Wd → Prop) (hQ : ∀ x w2, P x w2 → Q (some (.long x)) w2)  : ∀ (n : Nat) (x3 : Int64) (x5 : Int64) (x7 : Int32) (x8 : Int32) (w : Wd) (h : cf_Factors_takeOut_L9 c P n x3 x5 x7 x8 w), wp g (fun _ => True) y_Factors_takeOut prog_2_method_11_code 9 (some FieldType.long) d 9 [(0, .ref (g.1 + c)), (3, .long x3), (5, .long x5), (7, .int x7), (8, .int x8)] [] w Q
  | 0, x3, x5, x7, x8, w, h => False.elim h
  | n + 1, x3, x5, x7, x8, w, h => cf_Factors_takeOut_B9_ok hd c hc w (cf_Factors_takeOut_L9 c P n) P Q hQ (fun x3 x5 x7 x8 w h => cf_Factors_takeOut_L9_ok hd c hc  P Q hQ  n x3 x5 x7 x8 w h) x3 x5 x7 x8 h
theorem cf_Factors_takeOut_ok {g : ayG} {d : Nat} (hd : 4 ≤ d) (c : Nat) (a0 : Int64) (a1 : Int64) (hc : ay_sh c = (14, 0)) (w : Wd) (P : Int64 → Wd → Prop) (h : cf_Factors_takeOut c a0 a1 w P) : Call g y_Factors_takeOut prog_2_method_11_code 9 (some FieldType.long) d [.ref (g.1 + c), .long a0, .long a1] w (fun (r : Option Value) (w2 : Wd) => ∃ x, r = some (.long x) ∧ P x w2) := by
  unfold cf_Factors_takeOut at h
  refine am_enter mi_Factors_takeOut (Nat.le_of_ble_eq_true rfl) ?_
  have hQ : ∀ x w2, P x w2 → (fun (r : Option Value) (w2 : Wd) => ∃ x, r = some (.long x) ∧ P x w2) (some (.long x)) w2 := fun x w2 h => ⟨x, rfl, h⟩
  generalize (fun (r : Option Value) (w2 : Wd) => ∃ x, r = some (.long x) ∧ P x w2) = Q at hQ ⊢
  show wp g (fun _ => True) y_Factors_takeOut prog_2_method_11_code 9 (some FieldType.long) d 0 [(0, .ref (g.1 + c)), (1, .long a0), (3, .long a1)] [] w Q
  refine am_lload_n d_Factors_takeOut_0 1 rfl ?_
  refine am_lstore (l' := [(5, .long a0), (0, .ref (g.1 + c)), (1, .long a0), (3, .long a1)]) d_Factors_takeOut_1 (by decide) rfl ?_
  refine am_iconst (v := 0) d_Factors_takeOut_3 rfl ?_
  refine am_istore (l' := [(7, .int (0 : Int32)), (5, .long a0), (0, .ref (g.1 + c)), (1, .long a0), (3, .long a1)]) d_Factors_takeOut_4 (by decide) rfl ?_
  refine am_iconst (v := 0) d_Factors_takeOut_6 rfl ?_
  refine am_istore (l' := [(8, .int (0 : Int32)), (7, .int (0 : Int32)), (5, .long a0), (0, .ref (g.1 + c)), (1, .long a0), (3, .long a1)]) d_Factors_takeOut_7 (by decide) rfl ?_
  refine am_sub [3, 5, 2, 1, 0] rfl ?_
  obtain ⟨n, h⟩ := h
  exact cf_Factors_takeOut_L9_ok (by omega) c hc  P Q hQ  n a1 a0 (0 : Int32) (0 : Int32) w h
theorem d_Factors_split_0 : decode prog_2_method_10_code 0 = .ok (.aload_n 0, 1) := by decide +kernel
theorem d_Factors_split_1 : decode prog_2_method_10_code 1 = .ok (.iconst 0, 1) := by decide +kernel
theorem d_Factors_split_2 : decode prog_2_method_10_code 2 = .ok (.putfield 20, 3) := by decide +kernel
theorem d_Factors_split_5 : decode prog_2_method_10_code 5 = .ok (.aload_n 0, 1) := by decide +kernel
theorem d_Factors_split_6 : decode prog_2_method_10_code 6 = .ok (.iconst 0, 1) := by decide +kernel
theorem d_Factors_split_7 : decode prog_2_method_10_code 7 = .ok (.putfield 24, 3) := by decide +kernel
theorem d_Factors_split_10 : decode prog_2_method_10_code 10 = .ok (.lload_n 1, 1) := by decide +kernel
theorem d_Factors_split_11 : decode prog_2_method_10_code 11 = .ok (.lstore_n 3, 1) := by decide +kernel
theorem d_Factors_split_12 : decode prog_2_method_10_code 12 = .ok (.ldc2_w 41, 3) := by decide +kernel
theorem d_Factors_split_15 : decode prog_2_method_10_code 15 = .ok (.lstore 5, 2) := by decide +kernel
theorem d_Factors_split_17 : decode prog_2_method_10_code 17 = .ok (.iconst 1, 1) := by decide +kernel
theorem d_Factors_split_18 : decode prog_2_method_10_code 18 = .ok (.istore 7, 2) := by decide +kernel
theorem d_Factors_split_20 : decode prog_2_method_10_code 20 = .ok (.iload 7, 2) := by decide +kernel
theorem d_Factors_split_22 : decode prog_2_method_10_code 22 = .ok (.bipush 31, 2) := by decide +kernel
theorem d_Factors_split_24 : decode prog_2_method_10_code 24 = .ok (.if_icmp .gt 102, 3) := by decide +kernel
theorem d_Factors_split_27 : decode prog_2_method_10_code 27 = .ok (.lload_n 3, 1) := by decide +kernel
theorem d_Factors_split_28 : decode prog_2_method_10_code 28 = .ok (.invokestatic 31, 3) := by decide +kernel
theorem d_Factors_split_31 : decode prog_2_method_10_code 31 = .ok (.iconst 2, 1) := by decide +kernel
theorem d_Factors_split_32 : decode prog_2_method_10_code 32 = .ok (.iload 7, 2) := by decide +kernel
theorem d_Factors_split_34 : decode prog_2_method_10_code 34 = .ok (.imul, 1) := by decide +kernel
theorem d_Factors_split_35 : decode prog_2_method_10_code 35 = .ok (.if_icmp .ge 6, 3) := by decide +kernel
theorem d_Factors_split_38 : decode prog_2_method_10_code 38 = .ok (.goto 88, 3) := by decide +kernel
theorem d_Factors_split_41 : decode prog_2_method_10_code 41 = .ok (.lload 5, 2) := by decide +kernel
theorem d_Factors_split_43 : decode prog_2_method_10_code 43 = .ok (.lload_n 3, 1) := by decide +kernel
theorem d_Factors_split_44 : decode prog_2_method_10_code 44 = .ok (.invokestatic 43, 3) := by decide +kernel
theorem d_Factors_split_47 : decode prog_2_method_10_code 47 = .ok (.lstore 5, 2) := by decide +kernel
theorem d_Factors_split_49 : decode prog_2_method_10_code 49 = .ok (.aload_n 0, 1) := by decide +kernel
theorem d_Factors_split_50 : decode prog_2_method_10_code 50 = .ok (.lload_n 3, 1) := by decide +kernel
theorem d_Factors_split_51 : decode prog_2_method_10_code 51 = .ok (.lload 5, 2) := by decide +kernel
theorem d_Factors_split_53 : decode prog_2_method_10_code 53 = .ok (.ldc2_w 41, 3) := by decide +kernel
theorem d_Factors_split_56 : decode prog_2_method_10_code 56 = .ok (.lxor, 1) := by decide +kernel
theorem d_Factors_split_57 : decode prog_2_method_10_code 57 = .ok (.invokestatic 47, 3) := by decide +kernel
theorem d_Factors_split_60 : decode prog_2_method_10_code 60 = .ok (.iload 7, 2) := by decide +kernel
theorem d_Factors_split_62 : decode prog_2_method_10_code 62 = .ok (.invokevirtual 50, 3) := by decide +kernel
theorem d_Factors_split_65 : decode prog_2_method_10_code 65 = .ok (.istore 8, 2) := by decide +kernel
theorem d_Factors_split_67 : decode prog_2_method_10_code 67 = .ok (.aload_n 0, 1) := by decide +kernel
theorem d_Factors_split_68 : decode prog_2_method_10_code 68 = .ok (.iload 8, 2) := by decide +kernel
theorem d_Factors_split_70 : decode prog_2_method_10_code 70 = .ok (.invokevirtual 54, 3) := by decide +kernel
theorem d_Factors_split_73 : decode prog_2_method_10_code 73 = .ok (.iconst 0, 1) := by decide +kernel
theorem d_Factors_split_74 : decode prog_2_method_10_code 74 = .ok (.istore 9, 2) := by decide +kernel
theorem d_Factors_split_76 : decode prog_2_method_10_code 76 = .ok (.iload 9, 2) := by decide +kernel
theorem d_Factors_split_78 : decode prog_2_method_10_code 78 = .ok (.iload 8, 2) := by decide +kernel
theorem d_Factors_split_80 : decode prog_2_method_10_code 80 = .ok (.if_icmp .ge 32, 3) := by decide +kernel
theorem d_Factors_split_83 : decode prog_2_method_10_code 83 = .ok (.iload 9, 2) := by decide +kernel
theorem d_Factors_split_85 : decode prog_2_method_10_code 85 = .ok (.aload_n 0, 1) := by decide +kernel
theorem d_Factors_split_86 : decode prog_2_method_10_code 86 = .ok (.getfield 17, 3) := by decide +kernel
theorem d_Factors_split_89 : decode prog_2_method_10_code 89 = .ok (.arraylength, 1) := by decide +kernel
theorem d_Factors_split_90 : decode prog_2_method_10_code 90 = .ok (.if_icmp .ge 22, 3) := by decide +kernel
theorem d_Factors_split_93 : decode prog_2_method_10_code 93 = .ok (.aload_n 0, 1) := by decide +kernel
theorem d_Factors_split_94 : decode prog_2_method_10_code 94 = .ok (.lload_n 3, 1) := by decide +kernel
theorem d_Factors_split_95 : decode prog_2_method_10_code 95 = .ok (.aload_n 0, 1) := by decide +kernel
theorem d_Factors_split_96 : decode prog_2_method_10_code 96 = .ok (.getfield 17, 3) := by decide +kernel
theorem d_Factors_split_99 : decode prog_2_method_10_code 99 = .ok (.iload 9, 2) := by decide +kernel
theorem d_Factors_split_101 : decode prog_2_method_10_code 101 = .ok (.laload, 1) := by decide +kernel
theorem d_Factors_split_102 : decode prog_2_method_10_code 102 = .ok (.invokevirtual 58, 3) := by decide +kernel
theorem d_Factors_split_105 : decode prog_2_method_10_code 105 = .ok (.lstore_n 3, 1) := by decide +kernel
theorem d_Factors_split_106 : decode prog_2_method_10_code 106 = .ok (.iinc 9 1, 3) := by decide +kernel
theorem d_Factors_split_109 : decode prog_2_method_10_code 109 = .ok (.goto (-33), 3) := by decide +kernel
theorem d_Factors_split_112 : decode prog_2_method_10_code 112 = .ok (.lload 5, 2) := by decide +kernel
theorem d_Factors_split_114 : decode prog_2_method_10_code 114 = .ok (.lload_n 3, 1) := by decide +kernel
theorem d_Factors_split_115 : decode prog_2_method_10_code 115 = .ok (.invokestatic 61, 3) := by decide +kernel
theorem d_Factors_split_118 : decode prog_2_method_10_code 118 = .ok (.lstore 5, 2) := by decide +kernel
theorem d_Factors_split_120 : decode prog_2_method_10_code 120 = .ok (.iinc 7 1, 3) := by decide +kernel
theorem d_Factors_split_123 : decode prog_2_method_10_code 123 = .ok (.goto (-103), 3) := by decide +kernel
theorem d_Factors_split_126 : decode prog_2_method_10_code 126 = .ok (.lload_n 3, 1) := by decide +kernel
theorem d_Factors_split_127 : decode prog_2_method_10_code 127 = .ok (.lconst 1, 1) := by decide +kernel
theorem d_Factors_split_128 : decode prog_2_method_10_code 128 = .ok (.lcmp, 1) := by decide +kernel
theorem d_Factors_split_129 : decode prog_2_method_10_code 129 = .ok (.ifCond .le 9, 3) := by decide +kernel
theorem d_Factors_split_132 : decode prog_2_method_10_code 132 = .ok (.aload_n 0, 1) := by decide +kernel
theorem d_Factors_split_133 : decode prog_2_method_10_code 133 = .ok (.lload_n 3, 1) := by decide +kernel
theorem d_Factors_split_134 : decode prog_2_method_10_code 134 = .ok (.iconst 1, 1) := by decide +kernel
theorem d_Factors_split_135 : decode prog_2_method_10_code 135 = .ok (.invokevirtual 64, 3) := by decide +kernel
theorem d_Factors_split_138 : decode prog_2_method_10_code 138 = .ok (.return_, 1) := by decide +kernel
def cf_Factors_split_B76 (c : Nat) (K20 : Int64 → Int64 → Int32 → Wd → Prop) (K76 : Int64 → Int64 → Int32 → Int32 → Int32 → Wd → Prop) (P : Wd → Prop) (x3 : Int64) (x5 : Int64) (x7 : Int32) (x8 : Int32) (x9 : Int32) (w : Wd) : Prop :=
  ((x8 ≤ x9 → cf_Polys_remainder x5 x3 (fun r10 => ∀ v11, v11 = x7 + (1 : Int32) → K20 x3 r10 v11 w)) ∧ (¬ x8 ≤ x9 → (((31 : Int32) ≤ x9 → cf_Polys_remainder x5 x3 (fun r12 => ∀ v13, v13 = x7 + (1 : Int32) → K20 x3 r12 v13 w)) ∧ (¬ (31 : Int32) ≤ x9 → vp_in x9 31 ∧ cf_Factors_takeOut c x3 (w.2 (c + 3) x9.toNatClampNeg) w (fun r14 w15 => ∀ v16, v16 = x9 + (1 : Int32) → K76 r14 x5 x7 x8 v16 w15)))))
def cf_Factors_split_L76 (c : Nat) (K20 : Int64 → Int64 → Int32 → Wd → Prop) (P : Wd → Prop) : Nat → Int64 → Int64 → Int32 → Int32 → Int32 → Wd → Prop
  | 0 => fun x3 x5 x7 x8 x9 w => False
  | n + 1 => fun x3 x5 x7 x8 x9 w => cf_Factors_split_B76 c K20 (cf_Factors_split_L76 c K20 P n) P x3 x5 x7 x8 x9 w
def cf_Factors_split_B20 (c : Nat) (K20 : Int64 → Int64 → Int32 → Wd → Prop) (P : Wd → Prop) (x3 : Int64) (x5 : Int64) (x7 : Int32) (w : Wd) : Prop :=
  (((31 : Int32) < x7 → ((x3 ≤ (1 : Int64) → P w) ∧ (¬ x3 ≤ (1 : Int64) → cf_Factors_note c x3 (1 : Int32) w (fun w3 => P w3)))) ∧ (¬ (31 : Int32) < x7 → cf_Polys_degree x3 (fun r4 => ((((2 : Int32) * x7) ≤ r4 → cf_Polys_squareBy x5 x3 (fun r5 => cf_Polys_gcd x3 (r5 ^^^ (2 : Int64)) (fun r6 => cf_Factors_partInto c r6 x7 w (fun r7 w8 => cf_Factors_sortParts c r7 w8 (fun w9 => ∃ n, cf_Factors_split_L76 c K20 P n x3 r5 x7 r7 (0 : Int32) w9))))) ∧ (¬ ((2 : Int32) * x7) ≤ r4 → ((x3 ≤ (1 : Int64) → P w) ∧ (¬ x3 ≤ (1 : Int64) → cf_Factors_note c x3 (1 : Int32) w (fun w17 => P w17))))))))
def cf_Factors_split_L20 (c : Nat)  (P : Wd → Prop) : Nat → Int64 → Int64 → Int32 → Wd → Prop
  | 0 => fun x3 x5 x7 w => False
  | n + 1 => fun x3 x5 x7 w => cf_Factors_split_B20 c (cf_Factors_split_L20 c P n) P x3 x5 x7 w
def cf_Factors_split (c : Nat) (a0 : Int64) (w : Wd) (P : Wd → Prop) : Prop :=
  ∀ w1, w1 = wI w c 3 (0 : Int32) → ∀ w2, w2 = wI w1 c 4 (0 : Int32) → ∃ n, cf_Factors_split_L20 c P n a0 (2 : Int64) (1 : Int32) w2
theorem cf_Factors_split_B76_ok {g : ayG} {d : Nat} (hd : 6 ≤ d) (c : Nat) (hc : ay_sh c = (14, 0)) (w : Wd) (K20 : Int64 → Int64 → Int32 → Wd → Prop) (K76 : Int64 → Int64 → Int32 → Int32 → Int32 → Wd → Prop) (P : Wd → Prop) (Q : Option Value → Wd → Prop) (hQ : ∀ w2, P w2 → Q none w2) (hK20 : ∀ (x3 : Int64) (x5 : Int64) (x7 : Int32) (w : Wd), (K20 x3 x5 x7 w → wp g (fun _ => True) y_Factors_split prog_2_method_10_code 10 none d 20 [(0, .ref (g.1 + c)), (3, .long x3), (5, .long x5), (7, .int x7)] [] w Q)) (hK76 : ∀ (x3 : Int64) (x5 : Int64) (x7 : Int32) (x8 : Int32) (x9 : Int32) (w : Wd), (K76 x3 x5 x7 x8 x9 w → wp g (fun _ => True) y_Factors_split prog_2_method_10_code 10 none d 76 [(0, .ref (g.1 + c)), (3, .long x3), (5, .long x5), (7, .int x7), (8, .int x8), (9, .int x9)] [] w Q)) (x3 : Int64) (x5 : Int64) (x7 : Int32) (x8 : Int32) (x9 : Int32) (h : cf_Factors_split_B76 c K20 K76 P x3 x5 x7 x8 x9 w) : wp g (fun _ => True) y_Factors_split prog_2_method_10_code 10 none d 76 [(0, .ref (g.1 + c)), (3, .long x3), (5, .long x5), (7, .int x7), (8, .int x8), (9, .int x9)] [] w Q := by
  unfold cf_Factors_split_B76 at h
  refine am_iload d_Factors_split_76 5 rfl ?_
  refine am_iload d_Factors_split_78 4 rfl ?_
  refine am_icmp_ge (tgt := 112) d_Factors_split_80 (by decide) (fun c80 => ?_) (fun c80 => ?_)
  · have h := h.1 c80
    refine am_lload d_Factors_split_112 2 rfl ?_
    refine am_lload_n d_Factors_split_114 1 rfl ?_
    refine am_callS (d2 := d - 1) [.long x5, .long x3] d_Factors_split_115 mi_Polys_remainder wd_699 wd_486 (by omega) rfl rfl (Nat.le_of_ble_eq_true rfl) ?_
    refine Call.post ?_ (cf_Polys_remainder_ok (by omega) x5 x3  w _ h)
    rintro _ _ ⟨r10, rfl, rfl, h⟩
    show wp g (fun _ => True) y_Factors_split prog_2_method_10_code 10 none d 118 [(0, .ref (g.1 + c)), (3, .long x3), (5, .long x5), (7, .int x7), (8, .int x8), (9, .int x9)] [.long r10] w Q
    refine am_lstore (l' := [(5, .long r10), (0, .ref (g.1 + c)), (3, .long x3), (7, .int x7), (8, .int x8), (9, .int x9)]) d_Factors_split_118 (by decide) rfl ?_
    obtain ⟨v11, ev11⟩ : ∃ z : Int32, z = x7 + (1 : Int32) := ⟨_, rfl⟩
    have h := h v11 ev11
    refine am_iinc (v := v11) (l' := [(7, .int v11), (5, .long r10), (0, .ref (g.1 + c)), (3, .long x3), (8, .int x8), (9, .int x9)]) d_Factors_split_120 3 rfl (by rw [ev11]; rfl) (by decide) rfl ?_
    refine am_goto (tgt := 20) d_Factors_split_123 (by decide) ?_
    refine am_sub [2, 3, 1, 0] rfl ?_
    exact hK20 x3 r10 v11 w h
  · have h := h.2 c80
    refine am_iload d_Factors_split_83 5 rfl ?_
    refine am_aload_n d_Factors_split_85 0 rfl ?_
    refine am_getf (T := F_Factors) (fs := ob_Factors g w c) (C := R_Factors) (N := 5) (ci := 4) 2 d_Factors_split_86 wd_110 rfl (ay_shlt hc (by decide)) (el_Factors hc) rfl i_Factors (by decide) rfl ?_
    refine am_alen (v := 31) d_Factors_split_89 (sh_F3 hc) (by decide) rfl ?_
    refine am_icmp_ge (tgt := 112) d_Factors_split_90 (by decide) (fun c90 => ?_) (fun c90 => ?_)
    · have h := h.1 c90
      refine am_lload d_Factors_split_112 2 rfl ?_
      refine am_lload_n d_Factors_split_114 1 rfl ?_
      refine am_callS (d2 := d - 1) [.long x5, .long x3] d_Factors_split_115 mi_Polys_remainder wd_699 wd_486 (by omega) rfl rfl (Nat.le_of_ble_eq_true rfl) ?_
      refine Call.post ?_ (cf_Polys_remainder_ok (by omega) x5 x3  w _ h)
      rintro _ _ ⟨r12, rfl, rfl, h⟩
      show wp g (fun _ => True) y_Factors_split prog_2_method_10_code 10 none d 118 [(0, .ref (g.1 + c)), (3, .long x3), (5, .long x5), (7, .int x7), (8, .int x8), (9, .int x9)] [.long r12] w Q
      refine am_lstore (l' := [(5, .long r12), (0, .ref (g.1 + c)), (3, .long x3), (7, .int x7), (8, .int x8), (9, .int x9)]) d_Factors_split_118 (by decide) rfl ?_
      obtain ⟨v13, ev13⟩ : ∃ z : Int32, z = x7 + (1 : Int32) := ⟨_, rfl⟩
      have h := h v13 ev13
      refine am_iinc (v := v13) (l' := [(7, .int v13), (5, .long r12), (0, .ref (g.1 + c)), (3, .long x3), (8, .int x8), (9, .int x9)]) d_Factors_split_120 3 rfl (by rw [ev13]; rfl) (by decide) rfl ?_
      refine am_goto (tgt := 20) d_Factors_split_123 (by decide) ?_
      refine am_sub [2, 3, 1, 0] rfl ?_
      exact hK20 x3 r12 v13 w h
    · have h := h.2 c90
      refine am_aload_n d_Factors_split_93 0 rfl ?_
      refine am_lload_n d_Factors_split_94 1 rfl ?_
      refine am_aload_n d_Factors_split_95 0 rfl ?_
      refine am_getf (T := F_Factors) (fs := ob_Factors g w c) (C := R_Factors) (N := 5) (ci := 4) 2 d_Factors_split_96 wd_110 rfl (ay_shlt hc (by decide)) (el_Factors hc) rfl i_Factors (by decide) rfl ?_
      refine am_iload d_Factors_split_99 5 rfl ?_
      have hi101 := h.1
      have h := h.2
      refine am_laload d_Factors_split_101 (sh_F3 hc) hi101 ?_
      refine am_callV (C := y_Factors_takeOut.cls) (d2 := d - 1) [.long x3, .long (w.2 (c + 3) x9.toNatClampNeg)] d_Factors_split_102 mi_Factors_takeOut wd_695 wd_697 ws_Factors_takeOut (ay_shlt hc (by decide)) (el_Factors hc) rfl rfl (by omega) rfl rfl (Nat.le_of_ble_eq_true rfl) ?_
      refine Call.post ?_ (cf_Factors_takeOut_ok (by omega) c x3 (w.2 (c + 3) x9.toNatClampNeg) hc w _ h)
      rintro _ w15 ⟨r14, rfl, h⟩
      show wp g (fun _ => True) y_Factors_split prog_2_method_10_code 10 none d 105 [(0, .ref (g.1 + c)), (3, .long x3), (5, .long x5), (7, .int x7), (8, .int x8), (9, .int x9)] [.long r14] w15 Q
      refine am_lstore_n (l' := [(3, .long r14), (0, .ref (g.1 + c)), (5, .long x5), (7, .int x7), (8, .int x8), (9, .int x9)]) d_Factors_split_105 (by decide) rfl ?_
      obtain ⟨v16, ev16⟩ : ∃ z : Int32, z = x9 + (1 : Int32) := ⟨_, rfl⟩
      have h := h v16 ev16
      refine am_iinc (v := v16) (l' := [(9, .int v16), (3, .long r14), (0, .ref (g.1 + c)), (5, .long x5), (7, .int x7), (8, .int x8)]) d_Factors_split_106 5 rfl (by rw [ev16]; rfl) (by decide) rfl ?_
      refine am_goto (tgt := 76) d_Factors_split_109 (by decide) ?_
      refine am_sub [2, 1, 3, 4, 5, 0] rfl ?_
      exact hK76 r14 x5 x7 x8 v16 w15 h
theorem cf_Factors_split_L76_ok {g : ayG} {d : Nat} (hd : 6 ≤ d) (c : Nat) (hc : ay_sh c = (14, 0)) (K20 : Int64 → Int64 → Int32 → Wd → Prop) (P : Wd → Prop) (Q : Option Value → Wd → Prop) (hQ : ∀ w2, P w2 → Q none w2) (hK20 : ∀ (x3 : Int64) (x5 : Int64) (x7 : Int32) (w : Wd), (K20 x3 x5 x7 w → wp g (fun _ => True) y_Factors_split prog_2_method_10_code 10 none d 20 [(0, .ref (g.1 + c)), (3, .long x3), (5, .long x5), (7, .int x7)] [] w Q)) : ∀ (n : Nat) (x3 : Int64) (x5 : Int64) (x7 : Int32) (x8 : Int32) (x9 : Int32) (w : Wd) (h : cf_Factors_split_L76 c K20 P n x3 x5 x7 x8 x9 w), wp g (fun _ => True) y_Factors_split prog_2_method_10_code 10 none d 76 [(0, .ref (g.1 + c)), (3, .long x3), (5, .long x5), (7, .int x7), (8, .int x8), (9, .int x9)] [] w Q
  | 0, x3, x5, x7, x8, x9, w, h => False.elim h
  | n + 1, x3, x5, x7, x8, x9, w, h => cf_Factors_split_B76_ok hd c hc w K20 (cf_Factors_split_L76 c K20 P n) P Q hQ hK20 (fun x3 x5 x7 x8 x9 w h => cf_Factors_split_L76_ok hd c hc K20 P Q hQ hK20 n x3 x5 x7 x8 x9 w h) x3 x5 x7 x8 x9 h
theorem cf_Factors_split_B20_ok {g : ayG} {d : Nat} (hd : 6 ≤ d) (c : Nat) (hc : ay_sh c = (14, 0)) (w : Wd) (K20 : Int64 → Int64 → Int32 → Wd → Prop) (P : Wd → Prop) (Q : Option Value → Wd → Prop) (hQ : ∀ w2, P w2 → Q none w2) (hK20 : ∀ (x3 : Int64) (x5 : Int64) (x7 : Int32) (w : Wd), (K20 x3 x5 x7 w → wp g (fun _ => True) y_Factors_split prog_2_method_10_code 10 none d 20 [(0, .ref (g.1 + c)), (3, .long x3), (5, .long x5), (7, .int x7)] [] w Q)) (x3 : Int64) (x5 : Int64) (x7 : Int32) (h : cf_Factors_split_B20 c K20 P x3 x5 x7 w) : wp g (fun _ => True) y_Factors_split prog_2_method_10_code 10 none d 20 [(0, .ref (g.1 + c)), (3, .long x3), (5, .long x5), (7, .int x7)] [] w Q := by
  unfold cf_Factors_split_B20 at h
  refine am_iload d_Factors_split_20 3 rfl ?_
  refine am_bipush (v := 31) d_Factors_split_22 rfl ?_
  refine am_icmp_gt (tgt := 126) d_Factors_split_24 (by decide) (fun c24 => ?_) (fun c24 => ?_)
  · have h := h.1 c24
    refine am_lload_n d_Factors_split_126 1 rfl ?_
    refine am_lconst (v := 1) d_Factors_split_127 rfl ?_
    refine am_lif_le (tgt := 138) d_Factors_split_128 d_Factors_split_129 (by decide) (fun c128 => ?_) (fun c128 => ?_)
    · have h := h.1 c128
      exact am_return d_Factors_split_138 rfl (hQ w h)
    · have h := h.2 c128
      refine am_aload_n d_Factors_split_132 0 rfl ?_
      refine am_lload_n d_Factors_split_133 1 rfl ?_
      refine am_iconst (v := 1) d_Factors_split_134 rfl ?_
      refine am_callV (C := y_Factors_note.cls) (d2 := d - 1) [.long x3, .int (1 : Int32)] d_Factors_split_135 mi_Factors_note wd_700 wd_702 ws_Factors_note (ay_shlt hc (by decide)) (el_Factors hc) rfl rfl (by omega) rfl rfl (Nat.le_of_ble_eq_true rfl) ?_
      refine Call.post ?_ (cf_Factors_note_ok (by omega) c x3 (1 : Int32) hc w _ h)
      rintro _ w3 ⟨rfl, h⟩
      show wp g (fun _ => True) y_Factors_split prog_2_method_10_code 10 none d 138 [(0, .ref (g.1 + c)), (3, .long x3), (5, .long x5), (7, .int x7)] [] w3 Q
      exact am_return d_Factors_split_138 rfl (hQ w3 h)
  · have h := h.2 c24
    refine am_lload_n d_Factors_split_27 1 rfl ?_
    refine am_callS (d2 := d - 1) [.long x3] d_Factors_split_28 mi_Polys_degree wd_678 wd_391 (by omega) rfl rfl (Nat.le_of_ble_eq_true rfl) ?_
    refine Call.post ?_ (cf_Polys_degree_ok (by omega) x3  w _ h)
    rintro _ _ ⟨r4, rfl, rfl, h⟩
    show wp g (fun _ => True) y_Factors_split prog_2_method_10_code 10 none d 31 [(0, .ref (g.1 + c)), (3, .long x3), (5, .long x5), (7, .int x7)] [.int r4] w Q
    refine am_iconst (v := 2) d_Factors_split_31 rfl ?_
    refine am_iload d_Factors_split_32 3 rfl ?_
    refine am_imul d_Factors_split_34 ?_
    refine am_icmp_ge (tgt := 41) d_Factors_split_35 (by decide) (fun c35 => ?_) (fun c35 => ?_)
    · have h := h.1 c35
      refine am_lload d_Factors_split_41 2 rfl ?_
      refine am_lload_n d_Factors_split_43 1 rfl ?_
      refine am_callS (d2 := d - 1) [.long x5, .long x3] d_Factors_split_44 mi_Polys_squareBy wd_679 wd_649 (by omega) rfl rfl (Nat.le_of_ble_eq_true rfl) ?_
      refine Call.post ?_ (cf_Polys_squareBy_ok (by omega) x5 x3  w _ h)
      rintro _ _ ⟨r5, rfl, rfl, h⟩
      show wp g (fun _ => True) y_Factors_split prog_2_method_10_code 10 none d 47 [(0, .ref (g.1 + c)), (3, .long x3), (5, .long x5), (7, .int x7)] [.long r5] w Q
      refine am_lstore (l' := [(5, .long r5), (0, .ref (g.1 + c)), (3, .long x3), (7, .int x7)]) d_Factors_split_47 (by decide) rfl ?_
      refine am_aload_n d_Factors_split_49 1 rfl ?_
      refine am_lload_n d_Factors_split_50 2 rfl ?_
      refine am_lload d_Factors_split_51 0 rfl ?_
      refine am_ldc2 (v := 2) d_Factors_split_53 wd_677 ?_
      refine am_lxor d_Factors_split_56 ?_
      refine am_callS (d2 := d - 1) [.long x3, .long (r5 ^^^ (2 : Int64))] d_Factors_split_57 mi_Polys_gcd wd_680 wd_493 (by omega) rfl rfl (Nat.le_of_ble_eq_true rfl) ?_
      refine Call.post ?_ (cf_Polys_gcd_ok (by omega) x3 (r5 ^^^ (2 : Int64))  w _ h)
      rintro _ _ ⟨r6, rfl, rfl, h⟩
      show wp g (fun _ => True) y_Factors_split prog_2_method_10_code 10 none d 60 [(5, .long r5), (0, .ref (g.1 + c)), (3, .long x3), (7, .int x7)] [.long r6, .ref (g.1 + c)] w Q
      refine am_iload d_Factors_split_60 3 rfl ?_
      refine am_callV (C := y_Factors_partInto.cls) (d2 := d - 1) [.long r6, .int x7] d_Factors_split_62 mi_Factors_partInto wd_681 wd_683 ws_Factors_partInto (ay_shlt hc (by decide)) (el_Factors hc) rfl rfl (by omega) rfl rfl (Nat.le_of_ble_eq_true rfl) ?_
      refine Call.post ?_ (cf_Factors_partInto_ok (by omega) c r6 x7 hc w _ h)
      rintro _ w8 ⟨r7, rfl, h⟩
      show wp g (fun _ => True) y_Factors_split prog_2_method_10_code 10 none d 65 [(5, .long r5), (0, .ref (g.1 + c)), (3, .long x3), (7, .int x7)] [.int r7] w8 Q
      refine am_istore (l' := [(8, .int r7), (5, .long r5), (0, .ref (g.1 + c)), (3, .long x3), (7, .int x7)]) d_Factors_split_65 (by decide) rfl ?_
      refine am_aload_n d_Factors_split_67 2 rfl ?_
      refine am_iload d_Factors_split_68 0 rfl ?_
      refine am_callV (C := y_Factors_sortParts.cls) (d2 := d - 1) [.int r7] d_Factors_split_70 mi_Factors_sortParts wd_691 wd_693 ws_Factors_sortParts (ay_shlt hc (by decide)) (el_Factors hc) rfl rfl (by omega) rfl rfl (Nat.le_of_ble_eq_true rfl) ?_
      refine Call.post ?_ (cf_Factors_sortParts_ok (by omega) c r7 hc w8 _ h)
      rintro _ w9 ⟨rfl, h⟩
      show wp g (fun _ => True) y_Factors_split prog_2_method_10_code 10 none d 73 [(8, .int r7), (5, .long r5), (0, .ref (g.1 + c)), (3, .long x3), (7, .int x7)] [] w9 Q
      refine am_iconst (v := 0) d_Factors_split_73 rfl ?_
      refine am_istore (l' := [(9, .int (0 : Int32)), (8, .int r7), (5, .long r5), (0, .ref (g.1 + c)), (3, .long x3), (7, .int x7)]) d_Factors_split_74 (by decide) rfl ?_
      refine am_sub [3, 4, 2, 5, 1, 0] rfl ?_
      obtain ⟨n, h⟩ := h
      exact cf_Factors_split_L76_ok (by omega) c hc K20 P Q hQ hK20 n x3 r5 x7 r7 (0 : Int32) w9 h
    · have h := h.2 c35
      refine am_goto (tgt := 126) d_Factors_split_38 (by decide) ?_
      refine am_lload_n d_Factors_split_126 1 rfl ?_
      refine am_lconst (v := 1) d_Factors_split_127 rfl ?_
      refine am_lif_le (tgt := 138) d_Factors_split_128 d_Factors_split_129 (by decide) (fun c128 => ?_) (fun c128 => ?_)
      · have h := h.1 c128
        exact am_return d_Factors_split_138 rfl (hQ w h)
      · have h := h.2 c128
        refine am_aload_n d_Factors_split_132 0 rfl ?_
        refine am_lload_n d_Factors_split_133 1 rfl ?_
        refine am_iconst (v := 1) d_Factors_split_134 rfl ?_
        refine am_callV (C := y_Factors_note.cls) (d2 := d - 1) [.long x3, .int (1 : Int32)] d_Factors_split_135 mi_Factors_note wd_700 wd_702 ws_Factors_note (ay_shlt hc (by decide)) (el_Factors hc) rfl rfl (by omega) rfl rfl (Nat.le_of_ble_eq_true rfl) ?_
        refine Call.post ?_ (cf_Factors_note_ok (by omega) c x3 (1 : Int32) hc w _ h)
        rintro _ w17 ⟨rfl, h⟩
        show wp g (fun _ => True) y_Factors_split prog_2_method_10_code 10 none d 138 [(0, .ref (g.1 + c)), (3, .long x3), (5, .long x5), (7, .int x7)] [] w17 Q
        exact am_return d_Factors_split_138 rfl (hQ w17 h)
theorem cf_Factors_split_L20_ok {g : ayG} {d : Nat} (hd : 6 ≤ d) (c : Nat) (hc : ay_sh c = (14, 0))  (P : Wd → Prop) (Q : Option Value → Wd → Prop) (hQ : ∀ w2, P w2 → Q none w2)  : ∀ (n : Nat) (x3 : Int64) (x5 : Int64) (x7 : Int32) (w : Wd) (h : cf_Factors_split_L20 c P n x3 x5 x7 w), wp g (fun _ => True) y_Factors_split prog_2_method_10_code 10 none d 20 [(0, .ref (g.1 + c)), (3, .long x3), (5, .long x5), (7, .int x7)] [] w Q
  | 0, x3, x5, x7, w, h => False.elim h
  | n + 1, x3, x5, x7, w, h => cf_Factors_split_B20_ok hd c hc w (cf_Factors_split_L20 c P n) P Q hQ (fun x3 x5 x7 w h => cf_Factors_split_L20_ok hd c hc  P Q hQ  n x3 x5 x7 w h) x3 x5 x7 h
theorem cf_Factors_split_ok {g : ayG} {d : Nat} (hd : 6 ≤ d) (c : Nat) (a0 : Int64) (hc : ay_sh c = (14, 0)) (w : Wd) (P : Wd → Prop) (h : cf_Factors_split c a0 w P) : Call g y_Factors_split prog_2_method_10_code 10 none d [.ref (g.1 + c), .long a0] w (fun (r : Option Value) (w2 : Wd) => r = none ∧ P w2) := by
  unfold cf_Factors_split at h
  refine am_enter mi_Factors_split (Nat.le_of_ble_eq_true rfl) ?_
  have hQ : ∀ w2, P w2 → (fun (r : Option Value) (w2 : Wd) => r = none ∧ P w2) none w2 := fun w2 h => ⟨rfl, h⟩
  generalize (fun (r : Option Value) (w2 : Wd) => r = none ∧ P w2) = Q at hQ ⊢
  show wp g (fun _ => True) y_Factors_split prog_2_method_10_code 10 none d 0 [(0, .ref (g.1 + c)), (1, .long a0)] [] w Q
  refine am_aload_n d_Factors_split_0 0 rfl ?_
  refine am_iconst (v := 0) d_Factors_split_1 rfl ?_
  refine am_putf (w' := wI w c 3 (0 : Int32)) (ty := .int) (T := F_Factors) (fs := ob_Factors g w c) (C := R_Factors) (N := 5) (ci := 4) 3 d_Factors_split_2 wd_111 rfl (ay_shlt hc (by decide)) (el_Factors hc) rfl i_Factors (by decide) G_Factors ty_Factors n_Factors rfl (ty_Factors 3 (by decide)) rfl rfl (Nat.le_of_ble_eq_true rfl) ((el_Factors hc).trans (by rw [pf_Factors_unlike])) wI_o ?_
  obtain ⟨w1, ew1⟩ : ∃ z, z = wI w c 3 (0 : Int32) := ⟨_, rfl⟩
  rw [← ew1]
  have h := h w1 ew1
  refine am_aload_n d_Factors_split_5 0 rfl ?_
  refine am_iconst (v := 0) d_Factors_split_6 rfl ?_
  refine am_putf (w' := wI w1 c 4 (0 : Int32)) (ty := .int) (T := F_Factors) (fs := ob_Factors g w1 c) (C := R_Factors) (N := 5) (ci := 4) 4 d_Factors_split_7 wd_112 rfl (ay_shlt hc (by decide)) (el_Factors hc) rfl i_Factors (by decide) G_Factors ty_Factors n_Factors rfl (ty_Factors 4 (by decide)) rfl rfl (Nat.le_of_ble_eq_true rfl) ((el_Factors hc).trans (by rw [pf_Factors_all])) wI_o ?_
  obtain ⟨w2, ew2⟩ : ∃ z, z = wI w1 c 4 (0 : Int32) := ⟨_, rfl⟩
  rw [← ew2]
  have h := h w2 ew2
  refine am_lload_n d_Factors_split_10 1 rfl ?_
  refine am_lstore_n (l' := [(3, .long a0), (0, .ref (g.1 + c)), (1, .long a0)]) d_Factors_split_11 (by decide) rfl ?_
  refine am_ldc2 (v := 2) d_Factors_split_12 wd_677 ?_
  refine am_lstore (l' := [(5, .long (2 : Int64)), (3, .long a0), (0, .ref (g.1 + c)), (1, .long a0)]) d_Factors_split_15 (by decide) rfl ?_
  refine am_iconst (v := 1) d_Factors_split_17 rfl ?_
  refine am_istore (l' := [(7, .int (1 : Int32)), (5, .long (2 : Int64)), (3, .long a0), (0, .ref (g.1 + c)), (1, .long a0)]) d_Factors_split_18 (by decide) rfl ?_
  refine am_sub [3, 2, 1, 0] rfl ?_
  obtain ⟨n, h⟩ := h
  exact cf_Factors_split_L20_ok (by omega) c hc  P Q hQ  n a0 (2 : Int64) (1 : Int32) w2 h
