-- bytecode as predicates, by program (wip/whole/gen/extract.py)
theorem mi_Tape_size : ay_MI y_Tape_size prog_12_method_2_code 1 (some FieldType.int) 0 := ⟨wd_241, wd_3, by decide +kernel, by decide +kernel, by decide⟩
theorem mi_Tape_hasRoom : ay_MI y_Tape_hasRoom prog_12_method_3_code 2 (some FieldType.boolean) 1 := ⟨wd_233, wd_3, by decide +kernel, by decide +kernel, by decide⟩
theorem mi_Tape_at : ay_MI y_Tape_at prog_12_method_4_code 2 (some FieldType.int) 1 := ⟨wd_281, wd_3, by decide +kernel, by decide +kernel, by decide⟩
theorem mi_Tape_write : ay_MI y_Tape_write prog_12_method_5_code 3 none 1 := ⟨wd_237, wd_3, by decide +kernel, by decide +kernel, by decide⟩
theorem mi_Tape_cut : ay_MI y_Tape_cut prog_12_method_6_code 2 (some FieldType.boolean) 1 := ⟨wd_249, wd_3, by decide +kernel, by decide +kernel, by decide⟩
theorem d_Tape_size_0 : decode prog_12_method_2_code 0 = .ok (.aload_n 0, 1) := by decide +kernel
theorem d_Tape_size_1 : decode prog_12_method_2_code 1 = .ok (.getfield 15, 3) := by decide +kernel
theorem d_Tape_size_4 : decode prog_12_method_2_code 4 = .ok (.ireturn, 1) := by decide +kernel
def cf_Tape_size  (w : Wd) (P : Int32 → Prop) : Prop :=
  P (w.1 2 1)
theorem cf_Tape_size_ok {g : ayG} {d : Nat} (hd : 0 ≤ d)   (w : Wd) (P : Int32 → Prop) (h : cf_Tape_size w P) : Call g y_Tape_size prog_12_method_2_code 1 (some FieldType.int) d [.ref (g.1 + 2)] w (fun (r : Option Value) (w2 : Wd) => ∃ x, r = some (.int x) ∧ w = w2 ∧ P x) := by
  unfold cf_Tape_size at h
  refine am_enter mi_Tape_size (Nat.le_of_ble_eq_true rfl) ?_
  have hQ : ∀ x, P x → (fun (r : Option Value) (w2 : Wd) => ∃ x, r = some (.int x) ∧ w = w2 ∧ P x) (some (.int x)) w := fun x h => ⟨x, rfl, rfl, h⟩
  generalize (fun (r : Option Value) (w2 : Wd) => ∃ x, r = some (.int x) ∧ w = w2 ∧ P x) = Q at hQ ⊢
  show wp g (fun _ => True) y_Tape_size prog_12_method_2_code 1 (some FieldType.int) d 0 [(0, .ref (g.1 + 2))] [] w Q
  refine am_aload_n d_Tape_size_0 0 rfl ?_
  refine am_getf (T := F_Tape) (fs := ob_Tape g w 2) (C := R_Tape) (N := 2) (ci := 2) 1 d_Tape_size_1 wd_43 rfl (by decide) (el_Tape (show ay_sh 2 = _ from rfl)) rfl i_Tape (by decide) rfl ?_
  exact am_ireturn d_Tape_size_4 rfl rfl (hQ (w.1 2 1) h)
theorem d_Tape_hasRoom_0 : decode prog_12_method_3_code 0 = .ok (.aload_n 0, 1) := by decide +kernel
theorem d_Tape_hasRoom_1 : decode prog_12_method_3_code 1 = .ok (.getfield 15, 3) := by decide +kernel
theorem d_Tape_hasRoom_4 : decode prog_12_method_3_code 4 = .ok (.iload_n 1, 1) := by decide +kernel
theorem d_Tape_hasRoom_5 : decode prog_12_method_3_code 5 = .ok (.iadd, 1) := by decide +kernel
theorem d_Tape_hasRoom_6 : decode prog_12_method_3_code 6 = .ok (.sipush 300, 3) := by decide +kernel
theorem d_Tape_hasRoom_9 : decode prog_12_method_3_code 9 = .ok (.if_icmp .gt 7, 3) := by decide +kernel
theorem d_Tape_hasRoom_12 : decode prog_12_method_3_code 12 = .ok (.iconst 1, 1) := by decide +kernel
theorem d_Tape_hasRoom_13 : decode prog_12_method_3_code 13 = .ok (.goto 4, 3) := by decide +kernel
theorem d_Tape_hasRoom_16 : decode prog_12_method_3_code 16 = .ok (.iconst 0, 1) := by decide +kernel
theorem d_Tape_hasRoom_17 : decode prog_12_method_3_code 17 = .ok (.ireturn, 1) := by decide +kernel
def cf_Tape_hasRoom (a0 : Int32) (w : Wd) (P : Int32 → Prop) : Prop :=
  (((300 : Int32) < ((w.1 2 1) + a0) → P (0 : Int32)) ∧ (¬ (300 : Int32) < ((w.1 2 1) + a0) → P (1 : Int32)))
theorem cf_Tape_hasRoom_ok {g : ayG} {d : Nat} (hd : 0 ≤ d) (a0 : Int32)  (w : Wd) (P : Int32 → Prop) (h : cf_Tape_hasRoom a0 w P) : Call g y_Tape_hasRoom prog_12_method_3_code 2 (some FieldType.boolean) d [.ref (g.1 + 2), .int a0] w (fun (r : Option Value) (w2 : Wd) => ∃ x, r = some (.int x) ∧ w = w2 ∧ P x) := by
  unfold cf_Tape_hasRoom at h
  refine am_enter mi_Tape_hasRoom (Nat.le_of_ble_eq_true rfl) ?_
  have hQ : ∀ x, P x → (fun (r : Option Value) (w2 : Wd) => ∃ x, r = some (.int x) ∧ w = w2 ∧ P x) (some (.int x)) w := fun x h => ⟨x, rfl, rfl, h⟩
  generalize (fun (r : Option Value) (w2 : Wd) => ∃ x, r = some (.int x) ∧ w = w2 ∧ P x) = Q at hQ ⊢
  show wp g (fun _ => True) y_Tape_hasRoom prog_12_method_3_code 2 (some FieldType.boolean) d 0 [(0, .ref (g.1 + 2)), (1, .int a0)] [] w Q
  refine am_aload_n d_Tape_hasRoom_0 0 rfl ?_
  refine am_getf (T := F_Tape) (fs := ob_Tape g w 2) (C := R_Tape) (N := 2) (ci := 2) 1 d_Tape_hasRoom_1 wd_43 rfl (by decide) (el_Tape (show ay_sh 2 = _ from rfl)) rfl i_Tape (by decide) rfl ?_
  refine am_iload_n d_Tape_hasRoom_4 1 rfl ?_
  refine am_iadd d_Tape_hasRoom_5 ?_
  refine am_sipush (v := 300) d_Tape_hasRoom_6 rfl ?_
  refine am_icmp_gt (tgt := 16) d_Tape_hasRoom_9 (by decide) (fun c9 => ?_) (fun c9 => ?_)
  · have h := h.1 c9
    refine am_iconst (v := 0) d_Tape_hasRoom_16 rfl ?_
    exact am_ireturn d_Tape_hasRoom_17 rfl rfl (hQ (0 : Int32) h)
  · have h := h.2 c9
    refine am_iconst (v := 1) d_Tape_hasRoom_12 rfl ?_
    refine am_goto (tgt := 17) d_Tape_hasRoom_13 (by decide) ?_
    exact am_ireturn d_Tape_hasRoom_17 rfl rfl (hQ (1 : Int32) h)
theorem d_Tape_at_0 : decode prog_12_method_4_code 0 = .ok (.iload_n 1, 1) := by decide +kernel
theorem d_Tape_at_1 : decode prog_12_method_4_code 1 = .ok (.ifCond .lt 33, 3) := by decide +kernel
theorem d_Tape_at_4 : decode prog_12_method_4_code 4 = .ok (.iload_n 1, 1) := by decide +kernel
theorem d_Tape_at_5 : decode prog_12_method_4_code 5 = .ok (.aload_n 0, 1) := by decide +kernel
theorem d_Tape_at_6 : decode prog_12_method_4_code 6 = .ok (.getfield 15, 3) := by decide +kernel
theorem d_Tape_at_9 : decode prog_12_method_4_code 9 = .ok (.if_icmp .ge 25, 3) := by decide +kernel
theorem d_Tape_at_12 : decode prog_12_method_4_code 12 = .ok (.iload_n 1, 1) := by decide +kernel
theorem d_Tape_at_13 : decode prog_12_method_4_code 13 = .ok (.aload_n 0, 1) := by decide +kernel
theorem d_Tape_at_14 : decode prog_12_method_4_code 14 = .ok (.getfield 11, 3) := by decide +kernel
theorem d_Tape_at_17 : decode prog_12_method_4_code 17 = .ok (.arraylength, 1) := by decide +kernel
theorem d_Tape_at_18 : decode prog_12_method_4_code 18 = .ok (.if_icmp .ge 16, 3) := by decide +kernel
theorem d_Tape_at_21 : decode prog_12_method_4_code 21 = .ok (.aload_n 0, 1) := by decide +kernel
theorem d_Tape_at_22 : decode prog_12_method_4_code 22 = .ok (.getfield 11, 3) := by decide +kernel
theorem d_Tape_at_25 : decode prog_12_method_4_code 25 = .ok (.iload_n 1, 1) := by decide +kernel
theorem d_Tape_at_26 : decode prog_12_method_4_code 26 = .ok (.baload, 1) := by decide +kernel
theorem d_Tape_at_27 : decode prog_12_method_4_code 27 = .ok (.sipush 255, 3) := by decide +kernel
theorem d_Tape_at_30 : decode prog_12_method_4_code 30 = .ok (.iand, 1) := by decide +kernel
theorem d_Tape_at_31 : decode prog_12_method_4_code 31 = .ok (.goto 4, 3) := by decide +kernel
theorem d_Tape_at_34 : decode prog_12_method_4_code 34 = .ok (.iconst (-1), 1) := by decide +kernel
theorem d_Tape_at_35 : decode prog_12_method_4_code 35 = .ok (.ireturn, 1) := by decide +kernel
def cf_Tape_at (a0 : Int32) (w : Wd) (P : Int32 → Prop) : Prop :=
  ((a0 < 0 → P (-1 : Int32)) ∧ (¬ a0 < 0 → (((w.1 2 1) ≤ a0 → P (-1 : Int32)) ∧ (¬ (w.1 2 1) ≤ a0 → (((300 : Int32) ≤ a0 → P (-1 : Int32)) ∧ (¬ (300 : Int32) ≤ a0 → vp_in a0 300 ∧ P ((w.1 3 a0.toNatClampNeg) &&& (255 : Int32))))))))
theorem cf_Tape_at_ok {g : ayG} {d : Nat} (hd : 0 ≤ d) (a0 : Int32)  (w : Wd) (P : Int32 → Prop) (h : cf_Tape_at a0 w P) : Call g y_Tape_at prog_12_method_4_code 2 (some FieldType.int) d [.ref (g.1 + 2), .int a0] w (fun (r : Option Value) (w2 : Wd) => ∃ x, r = some (.int x) ∧ w = w2 ∧ P x) := by
  unfold cf_Tape_at at h
  refine am_enter mi_Tape_at (Nat.le_of_ble_eq_true rfl) ?_
  have hQ : ∀ x, P x → (fun (r : Option Value) (w2 : Wd) => ∃ x, r = some (.int x) ∧ w = w2 ∧ P x) (some (.int x)) w := fun x h => ⟨x, rfl, rfl, h⟩
  generalize (fun (r : Option Value) (w2 : Wd) => ∃ x, r = some (.int x) ∧ w = w2 ∧ P x) = Q at hQ ⊢
  show wp g (fun _ => True) y_Tape_at prog_12_method_4_code 2 (some FieldType.int) d 0 [(0, .ref (g.1 + 2)), (1, .int a0)] [] w Q
  refine am_iload_n d_Tape_at_0 1 rfl ?_
  refine am_if_lt (tgt := 34) d_Tape_at_1 (by decide) (fun c1 => ?_) (fun c1 => ?_)
  · have h := h.1 c1
    refine am_iconst (v := -1) d_Tape_at_34 rfl ?_
    exact am_ireturn d_Tape_at_35 rfl rfl (hQ (-1 : Int32) h)
  · have h := h.2 c1
    refine am_iload_n d_Tape_at_4 1 rfl ?_
    refine am_aload_n d_Tape_at_5 0 rfl ?_
    refine am_getf (T := F_Tape) (fs := ob_Tape g w 2) (C := R_Tape) (N := 2) (ci := 2) 1 d_Tape_at_6 wd_43 rfl (by decide) (el_Tape (show ay_sh 2 = _ from rfl)) rfl i_Tape (by decide) rfl ?_
    refine am_icmp_ge (tgt := 34) d_Tape_at_9 (by decide) (fun c9 => ?_) (fun c9 => ?_)
    · have h := h.1 c9
      refine am_iconst (v := -1) d_Tape_at_34 rfl ?_
      exact am_ireturn d_Tape_at_35 rfl rfl (hQ (-1 : Int32) h)
    · have h := h.2 c9
      refine am_iload_n d_Tape_at_12 1 rfl ?_
      refine am_aload_n d_Tape_at_13 0 rfl ?_
      refine am_getf (T := F_Tape) (fs := ob_Tape g w 2) (C := R_Tape) (N := 2) (ci := 2) 0 d_Tape_at_14 wd_42 rfl (by decide) (el_Tape (show ay_sh 2 = _ from rfl)) rfl i_Tape (by decide) rfl ?_
      refine am_alen (v := 300) d_Tape_at_17 (show ay_sh 3 = _ from rfl) (by decide) rfl ?_
      refine am_icmp_ge (tgt := 34) d_Tape_at_18 (by decide) (fun c18 => ?_) (fun c18 => ?_)
      · have h := h.1 c18
        refine am_iconst (v := -1) d_Tape_at_34 rfl ?_
        exact am_ireturn d_Tape_at_35 rfl rfl (hQ (-1 : Int32) h)
      · have h := h.2 c18
        refine am_aload_n d_Tape_at_21 0 rfl ?_
        refine am_getf (T := F_Tape) (fs := ob_Tape g w 2) (C := R_Tape) (N := 2) (ci := 2) 0 d_Tape_at_22 wd_42 rfl (by decide) (el_Tape (show ay_sh 2 = _ from rfl)) rfl i_Tape (by decide) rfl ?_
        refine am_iload_n d_Tape_at_25 1 rfl ?_
        have hi26 := h.1
        have h := h.2
        refine am_baload d_Tape_at_26 (show ay_sh 3 = _ from rfl) hi26 ?_
        refine am_sipush (v := 255) d_Tape_at_27 rfl ?_
        refine am_iand d_Tape_at_30 ?_
        refine am_goto (tgt := 35) d_Tape_at_31 (by decide) ?_
        exact am_ireturn d_Tape_at_35 rfl rfl (hQ ((w.1 3 a0.toNatClampNeg) &&& (255 : Int32)) h)
theorem d_Tape_write_0 : decode prog_12_method_5_code 0 = .ok (.bipush 24, 2) := by decide +kernel
theorem d_Tape_write_2 : decode prog_12_method_5_code 2 = .ok (.istore_n 2, 1) := by decide +kernel
theorem d_Tape_write_3 : decode prog_12_method_5_code 3 = .ok (.iload_n 2, 1) := by decide +kernel
theorem d_Tape_write_4 : decode prog_12_method_5_code 4 = .ok (.ifCond .lt 51, 3) := by decide +kernel
theorem d_Tape_write_7 : decode prog_12_method_5_code 7 = .ok (.aload_n 0, 1) := by decide +kernel
theorem d_Tape_write_8 : decode prog_12_method_5_code 8 = .ok (.getfield 15, 3) := by decide +kernel
theorem d_Tape_write_11 : decode prog_12_method_5_code 11 = .ok (.ifCond .lt 38, 3) := by decide +kernel
theorem d_Tape_write_14 : decode prog_12_method_5_code 14 = .ok (.aload_n 0, 1) := by decide +kernel
theorem d_Tape_write_15 : decode prog_12_method_5_code 15 = .ok (.getfield 15, 3) := by decide +kernel
theorem d_Tape_write_18 : decode prog_12_method_5_code 18 = .ok (.aload_n 0, 1) := by decide +kernel
theorem d_Tape_write_19 : decode prog_12_method_5_code 19 = .ok (.getfield 11, 3) := by decide +kernel
theorem d_Tape_write_22 : decode prog_12_method_5_code 22 = .ok (.arraylength, 1) := by decide +kernel
theorem d_Tape_write_23 : decode prog_12_method_5_code 23 = .ok (.if_icmp .ge 26, 3) := by decide +kernel
theorem d_Tape_write_26 : decode prog_12_method_5_code 26 = .ok (.aload_n 0, 1) := by decide +kernel
theorem d_Tape_write_27 : decode prog_12_method_5_code 27 = .ok (.getfield 11, 3) := by decide +kernel
theorem d_Tape_write_30 : decode prog_12_method_5_code 30 = .ok (.aload_n 0, 1) := by decide +kernel
theorem d_Tape_write_31 : decode prog_12_method_5_code 31 = .ok (.getfield 15, 3) := by decide +kernel
theorem d_Tape_write_34 : decode prog_12_method_5_code 34 = .ok (.iload_n 1, 1) := by decide +kernel
theorem d_Tape_write_35 : decode prog_12_method_5_code 35 = .ok (.iload_n 2, 1) := by decide +kernel
theorem d_Tape_write_36 : decode prog_12_method_5_code 36 = .ok (.iushr, 1) := by decide +kernel
theorem d_Tape_write_37 : decode prog_12_method_5_code 37 = .ok (.i2b, 1) := by decide +kernel
theorem d_Tape_write_38 : decode prog_12_method_5_code 38 = .ok (.bastore, 1) := by decide +kernel
theorem d_Tape_write_39 : decode prog_12_method_5_code 39 = .ok (.aload_n 0, 1) := by decide +kernel
theorem d_Tape_write_40 : decode prog_12_method_5_code 40 = .ok (.dup, 1) := by decide +kernel
theorem d_Tape_write_41 : decode prog_12_method_5_code 41 = .ok (.getfield 15, 3) := by decide +kernel
theorem d_Tape_write_44 : decode prog_12_method_5_code 44 = .ok (.iconst 1, 1) := by decide +kernel
theorem d_Tape_write_45 : decode prog_12_method_5_code 45 = .ok (.iadd, 1) := by decide +kernel
theorem d_Tape_write_46 : decode prog_12_method_5_code 46 = .ok (.putfield 15, 3) := by decide +kernel
theorem d_Tape_write_49 : decode prog_12_method_5_code 49 = .ok (.iinc 2 (-8), 3) := by decide +kernel
theorem d_Tape_write_52 : decode prog_12_method_5_code 52 = .ok (.goto (-49), 3) := by decide +kernel
theorem d_Tape_write_55 : decode prog_12_method_5_code 55 = .ok (.return_, 1) := by decide +kernel
def cf_Tape_write_B3  (K3 : Int32 → Int32 → Wd → Prop) (P : Wd → Prop) (x1 : Int32) (x2 : Int32) (w : Wd) : Prop :=
  ((x2 < 0 → P w) ∧ (¬ x2 < 0 → (((w.1 2 1) < 0 → ∀ v1, v1 = x2 + (-8 : Int32) → K3 x1 v1 w) ∧ (¬ (w.1 2 1) < 0 → (((300 : Int32) ≤ (w.1 2 1) → ∀ v2, v2 = x2 + (-8 : Int32) → K3 x1 v2 w) ∧ (¬ (300 : Int32) ≤ (w.1 2 1) → vp_in (w.1 2 1) 300 ∧ ∀ w3, w3 = wI w 3 (w.1 2 1).toNatClampNeg ((iushr x1 x2).toInt8.toInt32).toInt8.toInt32 → ∀ w4, w4 = wI w3 2 1 ((w3.1 2 1) + (1 : Int32)) → ∀ v5, v5 = x2 + (-8 : Int32) → K3 x1 v5 w4))))))
def cf_Tape_write_L3   (P : Wd → Prop) : Nat → Int32 → Int32 → Wd → Prop
  | 0 => fun x1 x2 w => False
  | n + 1 => fun x1 x2 w => cf_Tape_write_B3 (cf_Tape_write_L3 P n) P x1 x2 w
def cf_Tape_write (a0 : Int32) (w : Wd) (P : Wd → Prop) : Prop :=
  ∃ n, cf_Tape_write_L3 P n a0 (24 : Int32) w
theorem cf_Tape_write_B3_ok {g : ayG} {d : Nat} (hd : 0 ≤ d)   (w : Wd) (K3 : Int32 → Int32 → Wd → Prop) (P : Wd → Prop) (Q : Option Value → Wd → Prop) (hQ : ∀ w2, P w2 → Q none w2) (hK3 : ∀ (x1 : Int32) (x2 : Int32) (w : Wd), (K3 x1 x2 w → wp g (fun _ => True) y_Tape_write prog_12_method_5_code 3 none d 3 [(0, .ref (g.1 + 2)), (1, .int x1), (2, .int x2)] [] w Q)) (x1 : Int32) (x2 : Int32) (h : cf_Tape_write_B3 K3 P x1 x2 w) : wp g (fun _ => True) y_Tape_write prog_12_method_5_code 3 none d 3 [(0, .ref (g.1 + 2)), (1, .int x1), (2, .int x2)] [] w Q := by
  unfold cf_Tape_write_B3 at h
  refine am_iload_n d_Tape_write_3 2 rfl ?_
  refine am_if_lt (tgt := 55) d_Tape_write_4 (by decide) (fun c4 => ?_) (fun c4 => ?_)
  · have h := h.1 c4
    exact am_return d_Tape_write_55 rfl (hQ w h)
  · have h := h.2 c4
    refine am_aload_n d_Tape_write_7 0 rfl ?_
    refine am_getf (T := F_Tape) (fs := ob_Tape g w 2) (C := R_Tape) (N := 2) (ci := 2) 1 d_Tape_write_8 wd_43 rfl (by decide) (el_Tape (show ay_sh 2 = _ from rfl)) rfl i_Tape (by decide) rfl ?_
    refine am_if_lt (tgt := 49) d_Tape_write_11 (by decide) (fun c11 => ?_) (fun c11 => ?_)
    · have h := h.1 c11
      obtain ⟨v1, ev1⟩ : ∃ z : Int32, z = x2 + (-8 : Int32) := ⟨_, rfl⟩
      have h := h v1 ev1
      refine am_iinc (v := v1) (l' := [(2, .int v1), (0, .ref (g.1 + 2)), (1, .int x1)]) d_Tape_write_49 2 rfl (by rw [ev1]; rfl) (by decide) rfl ?_
      refine am_goto (tgt := 3) d_Tape_write_52 (by decide) ?_
      refine am_sub [1, 2, 0] rfl ?_
      exact hK3 x1 v1 w h
    · have h := h.2 c11
      refine am_aload_n d_Tape_write_14 0 rfl ?_
      refine am_getf (T := F_Tape) (fs := ob_Tape g w 2) (C := R_Tape) (N := 2) (ci := 2) 1 d_Tape_write_15 wd_43 rfl (by decide) (el_Tape (show ay_sh 2 = _ from rfl)) rfl i_Tape (by decide) rfl ?_
      refine am_aload_n d_Tape_write_18 0 rfl ?_
      refine am_getf (T := F_Tape) (fs := ob_Tape g w 2) (C := R_Tape) (N := 2) (ci := 2) 0 d_Tape_write_19 wd_42 rfl (by decide) (el_Tape (show ay_sh 2 = _ from rfl)) rfl i_Tape (by decide) rfl ?_
      refine am_alen (v := 300) d_Tape_write_22 (show ay_sh 3 = _ from rfl) (by decide) rfl ?_
      refine am_icmp_ge (tgt := 49) d_Tape_write_23 (by decide) (fun c23 => ?_) (fun c23 => ?_)
      · have h := h.1 c23
        obtain ⟨v2, ev2⟩ : ∃ z : Int32, z = x2 + (-8 : Int32) := ⟨_, rfl⟩
        have h := h v2 ev2
        refine am_iinc (v := v2) (l' := [(2, .int v2), (0, .ref (g.1 + 2)), (1, .int x1)]) d_Tape_write_49 2 rfl (by rw [ev2]; rfl) (by decide) rfl ?_
        refine am_goto (tgt := 3) d_Tape_write_52 (by decide) ?_
        refine am_sub [1, 2, 0] rfl ?_
        exact hK3 x1 v2 w h
      · have h := h.2 c23
        refine am_aload_n d_Tape_write_26 0 rfl ?_
        refine am_getf (T := F_Tape) (fs := ob_Tape g w 2) (C := R_Tape) (N := 2) (ci := 2) 0 d_Tape_write_27 wd_42 rfl (by decide) (el_Tape (show ay_sh 2 = _ from rfl)) rfl i_Tape (by decide) rfl ?_
        refine am_aload_n d_Tape_write_30 0 rfl ?_
        refine am_getf (T := F_Tape) (fs := ob_Tape g w 2) (C := R_Tape) (N := 2) (ci := 2) 1 d_Tape_write_31 wd_43 rfl (by decide) (el_Tape (show ay_sh 2 = _ from rfl)) rfl i_Tape (by decide) rfl ?_
        refine am_iload_n d_Tape_write_34 1 rfl ?_
        refine am_iload_n d_Tape_write_35 2 rfl ?_
        refine am_iushr d_Tape_write_36 ?_
        refine am_i2b d_Tape_write_37 ?_
        have hi38 := h.1
        have h := h.2
        refine am_bastore d_Tape_write_38 (show ay_sh 3 = _ from rfl) hi38 ?_
        obtain ⟨w3, ew3⟩ : ∃ z, z = wI w 3 (w.1 2 1).toNatClampNeg ((iushr x1 x2).toInt8.toInt32).toInt8.toInt32 := ⟨_, rfl⟩
        rw [← ew3]
        have h := h w3 ew3
        refine am_aload_n d_Tape_write_39 0 rfl ?_
        refine am_dup d_Tape_write_40 rfl ?_
        refine am_getf (T := F_Tape) (fs := ob_Tape g w3 2) (C := R_Tape) (N := 2) (ci := 2) 1 d_Tape_write_41 wd_43 rfl (by decide) (el_Tape (show ay_sh 2 = _ from rfl)) rfl i_Tape (by decide) rfl ?_
        refine am_iconst (v := 1) d_Tape_write_44 rfl ?_
        refine am_iadd d_Tape_write_45 ?_
        refine am_putf (w' := wI w3 2 1 ((w3.1 2 1) + (1 : Int32))) (ty := .int) (T := F_Tape) (fs := ob_Tape g w3 2) (C := R_Tape) (N := 2) (ci := 2) 1 d_Tape_write_46 wd_43 rfl (by decide) (el_Tape (show ay_sh 2 = _ from rfl)) rfl i_Tape (by decide) G_Tape ty_Tape n_Tape rfl (ty_Tape 1 (by decide)) rfl rfl (Nat.le_of_ble_eq_true rfl) ((el_Tape (show ay_sh 2 = _ from rfl)).trans (by rw [pf_Tape_size])) wI_o ?_
        obtain ⟨w4, ew4⟩ : ∃ z, z = wI w3 2 1 ((w3.1 2 1) + (1 : Int32)) := ⟨_, rfl⟩
        rw [← ew4]
        have h := h w4 ew4
        obtain ⟨v5, ev5⟩ : ∃ z : Int32, z = x2 + (-8 : Int32) := ⟨_, rfl⟩
        have h := h v5 ev5
        refine am_iinc (v := v5) (l' := [(2, .int v5), (0, .ref (g.1 + 2)), (1, .int x1)]) d_Tape_write_49 2 rfl (by rw [ev5]; rfl) (by decide) rfl ?_
        refine am_goto (tgt := 3) d_Tape_write_52 (by decide) ?_
        refine am_sub [1, 2, 0] rfl ?_
        exact hK3 x1 v5 w4 h
theorem cf_Tape_write_L3_ok {g : ayG} {d : Nat} (hd : 0 ≤ d)    (P : Wd → Prop) (Q : Option Value → Wd → Prop) (hQ : ∀ w2, P w2 → Q none w2)  : ∀ (n : Nat) (x1 : Int32) (x2 : Int32) (w : Wd) (h : cf_Tape_write_L3 P n x1 x2 w), wp g (fun _ => True) y_Tape_write prog_12_method_5_code 3 none d 3 [(0, .ref (g.1 + 2)), (1, .int x1), (2, .int x2)] [] w Q
  | 0, x1, x2, w, h => False.elim h
  | n + 1, x1, x2, w, h => cf_Tape_write_B3_ok hd   w (cf_Tape_write_L3 P n) P Q hQ (fun x1 x2 w h => cf_Tape_write_L3_ok hd    P Q hQ  n x1 x2 w h) x1 x2 h
theorem cf_Tape_write_ok {g : ayG} {d : Nat} (hd : 0 ≤ d) (a0 : Int32)  (w : Wd) (P : Wd → Prop) (h : cf_Tape_write a0 w P) : Call g y_Tape_write prog_12_method_5_code 3 none d [.ref (g.1 + 2), .int a0] w (fun (r : Option Value) (w2 : Wd) => r = none ∧ P w2) := by
  unfold cf_Tape_write at h
  refine am_enter mi_Tape_write (Nat.le_of_ble_eq_true rfl) ?_
  have hQ : ∀ w2, P w2 → (fun (r : Option Value) (w2 : Wd) => r = none ∧ P w2) none w2 := fun w2 h => ⟨rfl, h⟩
  generalize (fun (r : Option Value) (w2 : Wd) => r = none ∧ P w2) = Q at hQ ⊢
  show wp g (fun _ => True) y_Tape_write prog_12_method_5_code 3 none d 0 [(0, .ref (g.1 + 2)), (1, .int a0)] [] w Q
  refine am_bipush (v := 24) d_Tape_write_0 rfl ?_
  refine am_istore_n (l' := [(2, .int (24 : Int32)), (0, .ref (g.1 + 2)), (1, .int a0)]) d_Tape_write_2 (by decide) rfl ?_
  refine am_sub [1, 2, 0] rfl ?_
  obtain ⟨n, h⟩ := h
  exact cf_Tape_write_L3_ok (by omega)    P Q hQ  n a0 (24 : Int32) w h
theorem d_Tape_cut_0 : decode prog_12_method_6_code 0 = .ok (.iload_n 1, 1) := by decide +kernel
theorem d_Tape_cut_1 : decode prog_12_method_6_code 1 = .ok (.ifCond .lt 11, 3) := by decide +kernel
theorem d_Tape_cut_4 : decode prog_12_method_6_code 4 = .ok (.iload_n 1, 1) := by decide +kernel
theorem d_Tape_cut_5 : decode prog_12_method_6_code 5 = .ok (.aload_n 0, 1) := by decide +kernel
theorem d_Tape_cut_6 : decode prog_12_method_6_code 6 = .ok (.getfield 15, 3) := by decide +kernel
theorem d_Tape_cut_9 : decode prog_12_method_6_code 9 = .ok (.if_icmp .le 5, 3) := by decide +kernel
theorem d_Tape_cut_12 : decode prog_12_method_6_code 12 = .ok (.iconst 0, 1) := by decide +kernel
theorem d_Tape_cut_13 : decode prog_12_method_6_code 13 = .ok (.ireturn, 1) := by decide +kernel
theorem d_Tape_cut_14 : decode prog_12_method_6_code 14 = .ok (.aload_n 0, 1) := by decide +kernel
theorem d_Tape_cut_15 : decode prog_12_method_6_code 15 = .ok (.iload_n 1, 1) := by decide +kernel
theorem d_Tape_cut_16 : decode prog_12_method_6_code 16 = .ok (.putfield 15, 3) := by decide +kernel
theorem d_Tape_cut_19 : decode prog_12_method_6_code 19 = .ok (.iconst 1, 1) := by decide +kernel
theorem d_Tape_cut_20 : decode prog_12_method_6_code 20 = .ok (.ireturn, 1) := by decide +kernel
def cf_Tape_cut (a0 : Int32) (w : Wd) (P : Int32 → Wd → Prop) : Prop :=
  ((a0 < 0 → P (0 : Int32) w) ∧ (¬ a0 < 0 → ((a0 ≤ (w.1 2 1) → ∀ w1, w1 = wI w 2 1 a0 → P (1 : Int32) w1) ∧ (¬ a0 ≤ (w.1 2 1) → P (0 : Int32) w))))
theorem cf_Tape_cut_ok {g : ayG} {d : Nat} (hd : 0 ≤ d) (a0 : Int32)  (w : Wd) (P : Int32 → Wd → Prop) (h : cf_Tape_cut a0 w P) : Call g y_Tape_cut prog_12_method_6_code 2 (some FieldType.boolean) d [.ref (g.1 + 2), .int a0] w (fun (r : Option Value) (w2 : Wd) => ∃ x, r = some (.int x) ∧ P x w2) := by
  unfold cf_Tape_cut at h
  refine am_enter mi_Tape_cut (Nat.le_of_ble_eq_true rfl) ?_
  have hQ : ∀ x w2, P x w2 → (fun (r : Option Value) (w2 : Wd) => ∃ x, r = some (.int x) ∧ P x w2) (some (.int x)) w2 := fun x w2 h => ⟨x, rfl, h⟩
  generalize (fun (r : Option Value) (w2 : Wd) => ∃ x, r = some (.int x) ∧ P x w2) = Q at hQ ⊢
  show wp g (fun _ => True) y_Tape_cut prog_12_method_6_code 2 (some FieldType.boolean) d 0 [(0, .ref (g.1 + 2)), (1, .int a0)] [] w Q
  refine am_iload_n d_Tape_cut_0 1 rfl ?_
  refine am_if_lt (tgt := 12) d_Tape_cut_1 (by decide) (fun c1 => ?_) (fun c1 => ?_)
  · have h := h.1 c1
    refine am_iconst (v := 0) d_Tape_cut_12 rfl ?_
    exact am_ireturn d_Tape_cut_13 rfl rfl (hQ (0 : Int32) w h)
  · have h := h.2 c1
    refine am_iload_n d_Tape_cut_4 1 rfl ?_
    refine am_aload_n d_Tape_cut_5 0 rfl ?_
    refine am_getf (T := F_Tape) (fs := ob_Tape g w 2) (C := R_Tape) (N := 2) (ci := 2) 1 d_Tape_cut_6 wd_43 rfl (by decide) (el_Tape (show ay_sh 2 = _ from rfl)) rfl i_Tape (by decide) rfl ?_
    refine am_icmp_le (tgt := 14) d_Tape_cut_9 (by decide) (fun c9 => ?_) (fun c9 => ?_)
    · have h := h.1 c9
      refine am_aload_n d_Tape_cut_14 0 rfl ?_
      refine am_iload_n d_Tape_cut_15 1 rfl ?_
      refine am_putf (w' := wI w 2 1 a0) (ty := .int) (T := F_Tape) (fs := ob_Tape g w 2) (C := R_Tape) (N := 2) (ci := 2) 1 d_Tape_cut_16 wd_43 rfl (by decide) (el_Tape (show ay_sh 2 = _ from rfl)) rfl i_Tape (by decide) G_Tape ty_Tape n_Tape rfl (ty_Tape 1 (by decide)) rfl rfl (Nat.le_of_ble_eq_true rfl) ((el_Tape (show ay_sh 2 = _ from rfl)).trans (by rw [pf_Tape_size])) wI_o ?_
      obtain ⟨w1, ew1⟩ : ∃ z, z = wI w 2 1 a0 := ⟨_, rfl⟩
      rw [← ew1]
      have h := h w1 ew1
      refine am_iconst (v := 1) d_Tape_cut_19 rfl ?_
      exact am_ireturn d_Tape_cut_20 rfl rfl (hQ (1 : Int32) w1 h)
    · have h := h.2 c9
      refine am_iconst (v := 0) d_Tape_cut_12 rfl ?_
      exact am_ireturn d_Tape_cut_13 rfl rfl (hQ (0 : Int32) w h)
