-- bytecode as predicates, by program (wip/whole/gen/extract.py)
theorem mi_Letters_size : ay_MI y_Letters_size prog_5_method_2_code 1 (some FieldType.int) 0 := ⟨wd_839, wd_10, by decide +kernel, by decide +kernel, by decide⟩
theorem mi_Letters_byteAt : ay_MI y_Letters_byteAt prog_5_method_3_code 2 (some FieldType.int) 1 := ⟨wd_843, wd_10, by decide +kernel, by decide +kernel, by decide⟩
theorem mi_Letters_restart : ay_MI y_Letters_restart prog_5_method_4_code 1 none 0 := ⟨wd_814, wd_10, by decide +kernel, by decide +kernel, by decide⟩
theorem mi_Letters_write : ay_MI y_Letters_write prog_5_method_9_code 2 none 1 := ⟨wd_823, wd_10, by decide +kernel, by decide +kernel, by decide⟩
theorem mi_Letters_writeNumber : ay_MI y_Letters_writeNumber prog_5_method_8_code 2 none 1 := ⟨wd_831, wd_10, by decide +kernel, by decide +kernel, by decide⟩
theorem mi_Letters_writePowerOfX : ay_MI y_Letters_writePowerOfX prog_5_method_7_code 2 none 1 := ⟨wd_827, wd_10, by decide +kernel, by decide +kernel, by decide⟩
theorem mi_Letters_writePoly : ay_MI y_Letters_writePoly prog_5_method_5_code 5 none 1 := ⟨wd_818, wd_10, by decide +kernel, by decide +kernel, by decide⟩
theorem mi_Letters_writeFactors : ay_MI y_Letters_writeFactors prog_5_method_6_code 3 none 1 := ⟨wd_851, wd_10, by decide +kernel, by decide +kernel, by decide⟩
theorem d_Letters_size_0 : decode prog_5_method_2_code 0 = .ok (.aload_n 0, 1) := by decide +kernel
theorem d_Letters_size_1 : decode prog_5_method_2_code 1 = .ok (.getfield 15, 3) := by decide +kernel
theorem d_Letters_size_4 : decode prog_5_method_2_code 4 = .ok (.ireturn, 1) := by decide +kernel
def cf_Letters_size  (w : Wd) (P : Int32 → Prop) : Prop :=
  P (w.1 28 1)
theorem cf_Letters_size_ok {g : ayG} {d : Nat} (hd : 0 ≤ d)   (w : Wd) (P : Int32 → Prop) (h : cf_Letters_size w P) : Call g y_Letters_size prog_5_method_2_code 1 (some FieldType.int) d [.ref (g.1 + 28)] w (fun (r : Option Value) (w2 : Wd) => ∃ x, r = some (.int x) ∧ w = w2 ∧ P x) := by
  unfold cf_Letters_size at h
  refine am_enter mi_Letters_size (Nat.le_of_ble_eq_true rfl) ?_
  have hQ : ∀ x, P x → (fun (r : Option Value) (w2 : Wd) => ∃ x, r = some (.int x) ∧ w = w2 ∧ P x) (some (.int x)) w := fun x h => ⟨x, rfl, rfl, h⟩
  generalize (fun (r : Option Value) (w2 : Wd) => ∃ x, r = some (.int x) ∧ w = w2 ∧ P x) = Q at hQ ⊢
  show wp g (fun _ => True) y_Letters_size prog_5_method_2_code 1 (some FieldType.int) d 0 [(0, .ref (g.1 + 28))] [] w Q
  refine am_aload_n d_Letters_size_0 0 rfl ?_
  refine am_getf (T := F_Letters) (fs := ob_Letters g w 28) (C := R_Letters) (N := 2) (ci := 9) 1 d_Letters_size_1 wd_188 rfl (by decide) (el_Letters (show ay_sh 28 = _ from rfl)) rfl i_Letters (by decide) rfl ?_
  exact am_ireturn d_Letters_size_4 rfl rfl (hQ (w.1 28 1) h)
theorem d_Letters_byteAt_0 : decode prog_5_method_3_code 0 = .ok (.iload_n 1, 1) := by decide +kernel
theorem d_Letters_byteAt_1 : decode prog_5_method_3_code 1 = .ok (.ifCond .lt 29, 3) := by decide +kernel
theorem d_Letters_byteAt_4 : decode prog_5_method_3_code 4 = .ok (.iload_n 1, 1) := by decide +kernel
theorem d_Letters_byteAt_5 : decode prog_5_method_3_code 5 = .ok (.aload_n 0, 1) := by decide +kernel
theorem d_Letters_byteAt_6 : decode prog_5_method_3_code 6 = .ok (.getfield 15, 3) := by decide +kernel
theorem d_Letters_byteAt_9 : decode prog_5_method_3_code 9 = .ok (.if_icmp .ge 21, 3) := by decide +kernel
theorem d_Letters_byteAt_12 : decode prog_5_method_3_code 12 = .ok (.iload_n 1, 1) := by decide +kernel
theorem d_Letters_byteAt_13 : decode prog_5_method_3_code 13 = .ok (.aload_n 0, 1) := by decide +kernel
theorem d_Letters_byteAt_14 : decode prog_5_method_3_code 14 = .ok (.getfield 11, 3) := by decide +kernel
theorem d_Letters_byteAt_17 : decode prog_5_method_3_code 17 = .ok (.arraylength, 1) := by decide +kernel
theorem d_Letters_byteAt_18 : decode prog_5_method_3_code 18 = .ok (.if_icmp .ge 12, 3) := by decide +kernel
theorem d_Letters_byteAt_21 : decode prog_5_method_3_code 21 = .ok (.aload_n 0, 1) := by decide +kernel
theorem d_Letters_byteAt_22 : decode prog_5_method_3_code 22 = .ok (.getfield 11, 3) := by decide +kernel
theorem d_Letters_byteAt_25 : decode prog_5_method_3_code 25 = .ok (.iload_n 1, 1) := by decide +kernel
theorem d_Letters_byteAt_26 : decode prog_5_method_3_code 26 = .ok (.baload, 1) := by decide +kernel
theorem d_Letters_byteAt_27 : decode prog_5_method_3_code 27 = .ok (.goto 4, 3) := by decide +kernel
theorem d_Letters_byteAt_30 : decode prog_5_method_3_code 30 = .ok (.iconst (-1), 1) := by decide +kernel
theorem d_Letters_byteAt_31 : decode prog_5_method_3_code 31 = .ok (.ireturn, 1) := by decide +kernel
def cf_Letters_byteAt (a0 : Int32) (w : Wd) (P : Int32 → Prop) : Prop :=
  ((a0 < 0 → P (-1 : Int32)) ∧ (¬ a0 < 0 → (((w.1 28 1) ≤ a0 → P (-1 : Int32)) ∧ (¬ (w.1 28 1) ≤ a0 → (((400 : Int32) ≤ a0 → P (-1 : Int32)) ∧ (¬ (400 : Int32) ≤ a0 → vp_in a0 400 ∧ P (w.1 29 a0.toNatClampNeg)))))))
theorem cf_Letters_byteAt_ok {g : ayG} {d : Nat} (hd : 0 ≤ d) (a0 : Int32)  (w : Wd) (P : Int32 → Prop) (h : cf_Letters_byteAt a0 w P) : Call g y_Letters_byteAt prog_5_method_3_code 2 (some FieldType.int) d [.ref (g.1 + 28), .int a0] w (fun (r : Option Value) (w2 : Wd) => ∃ x, r = some (.int x) ∧ w = w2 ∧ P x) := by
  unfold cf_Letters_byteAt at h
  refine am_enter mi_Letters_byteAt (Nat.le_of_ble_eq_true rfl) ?_
  have hQ : ∀ x, P x → (fun (r : Option Value) (w2 : Wd) => ∃ x, r = some (.int x) ∧ w = w2 ∧ P x) (some (.int x)) w := fun x h => ⟨x, rfl, rfl, h⟩
  generalize (fun (r : Option Value) (w2 : Wd) => ∃ x, r = some (.int x) ∧ w = w2 ∧ P x) = Q at hQ ⊢
  show wp g (fun _ => True) y_Letters_byteAt prog_5_method_3_code 2 (some FieldType.int) d 0 [(0, .ref (g.1 + 28)), (1, .int a0)] [] w Q
  refine am_iload_n d_Letters_byteAt_0 1 rfl ?_
  refine am_if_lt (tgt := 30) d_Letters_byteAt_1 (by decide) (fun c1 => ?_) (fun c1 => ?_)
  · have h := h.1 c1
    refine am_iconst (v := -1) d_Letters_byteAt_30 rfl ?_
    exact am_ireturn d_Letters_byteAt_31 rfl rfl (hQ (-1 : Int32) h)
  · have h := h.2 c1
    refine am_iload_n d_Letters_byteAt_4 1 rfl ?_
    refine am_aload_n d_Letters_byteAt_5 0 rfl ?_
    refine am_getf (T := F_Letters) (fs := ob_Letters g w 28) (C := R_Letters) (N := 2) (ci := 9) 1 d_Letters_byteAt_6 wd_188 rfl (by decide) (el_Letters (show ay_sh 28 = _ from rfl)) rfl i_Letters (by decide) rfl ?_
    refine am_icmp_ge (tgt := 30) d_Letters_byteAt_9 (by decide) (fun c9 => ?_) (fun c9 => ?_)
    · have h := h.1 c9
      refine am_iconst (v := -1) d_Letters_byteAt_30 rfl ?_
      exact am_ireturn d_Letters_byteAt_31 rfl rfl (hQ (-1 : Int32) h)
    · have h := h.2 c9
      refine am_iload_n d_Letters_byteAt_12 1 rfl ?_
      refine am_aload_n d_Letters_byteAt_13 0 rfl ?_
      refine am_getf (T := F_Letters) (fs := ob_Letters g w 28) (C := R_Letters) (N := 2) (ci := 9) 0 d_Letters_byteAt_14 wd_187 rfl (by decide) (el_Letters (show ay_sh 28 = _ from rfl)) rfl i_Letters (by decide) rfl ?_
      refine am_alen (v := 400) d_Letters_byteAt_17 (show ay_sh 29 = _ from rfl) (by decide) rfl ?_
      refine am_icmp_ge (tgt := 30) d_Letters_byteAt_18 (by decide) (fun c18 => ?_) (fun c18 => ?_)
      · have h := h.1 c18
        refine am_iconst (v := -1) d_Letters_byteAt_30 rfl ?_
        exact am_ireturn d_Letters_byteAt_31 rfl rfl (hQ (-1 : Int32) h)
      · have h := h.2 c18
        refine am_aload_n d_Letters_byteAt_21 0 rfl ?_
        refine am_getf (T := F_Letters) (fs := ob_Letters g w 28) (C := R_Letters) (N := 2) (ci := 9) 0 d_Letters_byteAt_22 wd_187 rfl (by decide) (el_Letters (show ay_sh 28 = _ from rfl)) rfl i_Letters (by decide) rfl ?_
        refine am_iload_n d_Letters_byteAt_25 1 rfl ?_
        have hi26 := h.1
        have h := h.2
        refine am_baload d_Letters_byteAt_26 (show ay_sh 29 = _ from rfl) hi26 ?_
        refine am_goto (tgt := 31) d_Letters_byteAt_27 (by decide) ?_
        exact am_ireturn d_Letters_byteAt_31 rfl rfl (hQ (w.1 29 a0.toNatClampNeg) h)
theorem d_Letters_restart_0 : decode prog_5_method_4_code 0 = .ok (.aload_n 0, 1) := by decide +kernel
theorem d_Letters_restart_1 : decode prog_5_method_4_code 1 = .ok (.iconst 0, 1) := by decide +kernel
theorem d_Letters_restart_2 : decode prog_5_method_4_code 2 = .ok (.putfield 15, 3) := by decide +kernel
theorem d_Letters_restart_5 : decode prog_5_method_4_code 5 = .ok (.return_, 1) := by decide +kernel
def cf_Letters_restart  (w : Wd) (P : Wd → Prop) : Prop :=
  ∀ w1, w1 = wI w 28 1 (0 : Int32) → P w1
theorem cf_Letters_restart_ok {g : ayG} {d : Nat} (hd : 0 ≤ d)   (w : Wd) (P : Wd → Prop) (h : cf_Letters_restart w P) : Call g y_Letters_restart prog_5_method_4_code 1 none d [.ref (g.1 + 28)] w (fun (r : Option Value) (w2 : Wd) => r = none ∧ P w2) := by
  unfold cf_Letters_restart at h
  refine am_enter mi_Letters_restart (Nat.le_of_ble_eq_true rfl) ?_
  have hQ : ∀ w2, P w2 → (fun (r : Option Value) (w2 : Wd) => r = none ∧ P w2) none w2 := fun w2 h => ⟨rfl, h⟩
  generalize (fun (r : Option Value) (w2 : Wd) => r = none ∧ P w2) = Q at hQ ⊢
  show wp g (fun _ => True) y_Letters_restart prog_5_method_4_code 1 none d 0 [(0, .ref (g.1 + 28))] [] w Q
  refine am_aload_n d_Letters_restart_0 0 rfl ?_
  refine am_iconst (v := 0) d_Letters_restart_1 rfl ?_
  refine am_putf (w' := wI w 28 1 (0 : Int32)) (ty := .int) (T := F_Letters) (fs := ob_Letters g w 28) (C := R_Letters) (N := 2) (ci := 9) 1 d_Letters_restart_2 wd_188 rfl (by decide) (el_Letters (show ay_sh 28 = _ from rfl)) rfl i_Letters (by decide) G_Letters ty_Letters n_Letters rfl (ty_Letters 1 (by decide)) rfl rfl (Nat.le_of_ble_eq_true rfl) ((el_Letters (show ay_sh 28 = _ from rfl)).trans (by rw [pf_Letters_size])) wI_o ?_
  obtain ⟨w1, ew1⟩ : ∃ z, z = wI w 28 1 (0 : Int32) := ⟨_, rfl⟩
  rw [← ew1]
  have h := h w1 ew1
  exact am_return d_Letters_restart_5 rfl (hQ w1 h)
theorem d_Letters_write_0 : decode prog_5_method_9_code 0 = .ok (.aload_n 0, 1) := by decide +kernel
theorem d_Letters_write_1 : decode prog_5_method_9_code 1 = .ok (.getfield 15, 3) := by decide +kernel
theorem d_Letters_write_4 : decode prog_5_method_9_code 4 = .ok (.aload_n 0, 1) := by decide +kernel
theorem d_Letters_write_5 : decode prog_5_method_9_code 5 = .ok (.getfield 11, 3) := by decide +kernel
theorem d_Letters_write_8 : decode prog_5_method_9_code 8 = .ok (.arraylength, 1) := by decide +kernel
theorem d_Letters_write_9 : decode prog_5_method_9_code 9 = .ok (.if_icmp .ge 24, 3) := by decide +kernel
theorem d_Letters_write_12 : decode prog_5_method_9_code 12 = .ok (.aload_n 0, 1) := by decide +kernel
theorem d_Letters_write_13 : decode prog_5_method_9_code 13 = .ok (.getfield 11, 3) := by decide +kernel
theorem d_Letters_write_16 : decode prog_5_method_9_code 16 = .ok (.aload_n 0, 1) := by decide +kernel
theorem d_Letters_write_17 : decode prog_5_method_9_code 17 = .ok (.getfield 15, 3) := by decide +kernel
theorem d_Letters_write_20 : decode prog_5_method_9_code 20 = .ok (.iload_n 1, 1) := by decide +kernel
theorem d_Letters_write_21 : decode prog_5_method_9_code 21 = .ok (.i2b, 1) := by decide +kernel
theorem d_Letters_write_22 : decode prog_5_method_9_code 22 = .ok (.bastore, 1) := by decide +kernel
theorem d_Letters_write_23 : decode prog_5_method_9_code 23 = .ok (.aload_n 0, 1) := by decide +kernel
theorem d_Letters_write_24 : decode prog_5_method_9_code 24 = .ok (.dup, 1) := by decide +kernel
theorem d_Letters_write_25 : decode prog_5_method_9_code 25 = .ok (.getfield 15, 3) := by decide +kernel
theorem d_Letters_write_28 : decode prog_5_method_9_code 28 = .ok (.iconst 1, 1) := by decide +kernel
theorem d_Letters_write_29 : decode prog_5_method_9_code 29 = .ok (.iadd, 1) := by decide +kernel
theorem d_Letters_write_30 : decode prog_5_method_9_code 30 = .ok (.putfield 15, 3) := by decide +kernel
theorem d_Letters_write_33 : decode prog_5_method_9_code 33 = .ok (.return_, 1) := by decide +kernel
def cf_Letters_write (a0 : Int32) (w : Wd) (P : Wd → Prop) : Prop :=
  (((400 : Int32) ≤ (w.1 28 1) → P w) ∧ (¬ (400 : Int32) ≤ (w.1 28 1) → vp_in (w.1 28 1) 400 ∧ ∀ w1, w1 = wI w 29 (w.1 28 1).toNatClampNeg a0.toInt8.toInt32.toInt8.toInt32 → ∀ w2, w2 = wI w1 28 1 ((w1.1 28 1) + (1 : Int32)) → P w2))
theorem cf_Letters_write_ok {g : ayG} {d : Nat} (hd : 0 ≤ d) (a0 : Int32)  (w : Wd) (P : Wd → Prop) (h : cf_Letters_write a0 w P) : Call g y_Letters_write prog_5_method_9_code 2 none d [.ref (g.1 + 28), .int a0] w (fun (r : Option Value) (w2 : Wd) => r = none ∧ P w2) := by
  unfold cf_Letters_write at h
  refine am_enter mi_Letters_write (Nat.le_of_ble_eq_true rfl) ?_
  have hQ : ∀ w2, P w2 → (fun (r : Option Value) (w2 : Wd) => r = none ∧ P w2) none w2 := fun w2 h => ⟨rfl, h⟩
  generalize (fun (r : Option Value) (w2 : Wd) => r = none ∧ P w2) = Q at hQ ⊢
  show wp g (fun _ => True) y_Letters_write prog_5_method_9_code 2 none d 0 [(0, .ref (g.1 + 28)), (1, .int a0)] [] w Q
  refine am_aload_n d_Letters_write_0 0 rfl ?_
  refine am_getf (T := F_Letters) (fs := ob_Letters g w 28) (C := R_Letters) (N := 2) (ci := 9) 1 d_Letters_write_1 wd_188 rfl (by decide) (el_Letters (show ay_sh 28 = _ from rfl)) rfl i_Letters (by decide) rfl ?_
  refine am_aload_n d_Letters_write_4 0 rfl ?_
  refine am_getf (T := F_Letters) (fs := ob_Letters g w 28) (C := R_Letters) (N := 2) (ci := 9) 0 d_Letters_write_5 wd_187 rfl (by decide) (el_Letters (show ay_sh 28 = _ from rfl)) rfl i_Letters (by decide) rfl ?_
  refine am_alen (v := 400) d_Letters_write_8 (show ay_sh 29 = _ from rfl) (by decide) rfl ?_
  refine am_icmp_ge (tgt := 33) d_Letters_write_9 (by decide) (fun c9 => ?_) (fun c9 => ?_)
  · have h := h.1 c9
    exact am_return d_Letters_write_33 rfl (hQ w h)
  · have h := h.2 c9
    refine am_aload_n d_Letters_write_12 0 rfl ?_
    refine am_getf (T := F_Letters) (fs := ob_Letters g w 28) (C := R_Letters) (N := 2) (ci := 9) 0 d_Letters_write_13 wd_187 rfl (by decide) (el_Letters (show ay_sh 28 = _ from rfl)) rfl i_Letters (by decide) rfl ?_
    refine am_aload_n d_Letters_write_16 0 rfl ?_
    refine am_getf (T := F_Letters) (fs := ob_Letters g w 28) (C := R_Letters) (N := 2) (ci := 9) 1 d_Letters_write_17 wd_188 rfl (by decide) (el_Letters (show ay_sh 28 = _ from rfl)) rfl i_Letters (by decide) rfl ?_
    refine am_iload_n d_Letters_write_20 1 rfl ?_
    refine am_i2b d_Letters_write_21 ?_
    have hi22 := h.1
    have h := h.2
    refine am_bastore d_Letters_write_22 (show ay_sh 29 = _ from rfl) hi22 ?_
    obtain ⟨w1, ew1⟩ : ∃ z, z = wI w 29 (w.1 28 1).toNatClampNeg a0.toInt8.toInt32.toInt8.toInt32 := ⟨_, rfl⟩
    rw [← ew1]
    have h := h w1 ew1
    refine am_aload_n d_Letters_write_23 0 rfl ?_
    refine am_dup d_Letters_write_24 rfl ?_
    refine am_getf (T := F_Letters) (fs := ob_Letters g w1 28) (C := R_Letters) (N := 2) (ci := 9) 1 d_Letters_write_25 wd_188 rfl (by decide) (el_Letters (show ay_sh 28 = _ from rfl)) rfl i_Letters (by decide) rfl ?_
    refine am_iconst (v := 1) d_Letters_write_28 rfl ?_
    refine am_iadd d_Letters_write_29 ?_
    refine am_putf (w' := wI w1 28 1 ((w1.1 28 1) + (1 : Int32))) (ty := .int) (T := F_Letters) (fs := ob_Letters g w1 28) (C := R_Letters) (N := 2) (ci := 9) 1 d_Letters_write_30 wd_188 rfl (by decide) (el_Letters (show ay_sh 28 = _ from rfl)) rfl i_Letters (by decide) G_Letters ty_Letters n_Letters rfl (ty_Letters 1 (by decide)) rfl rfl (Nat.le_of_ble_eq_true rfl) ((el_Letters (show ay_sh 28 = _ from rfl)).trans (by rw [pf_Letters_size])) wI_o ?_
    obtain ⟨w2, ew2⟩ : ∃ z, z = wI w1 28 1 ((w1.1 28 1) + (1 : Int32)) := ⟨_, rfl⟩
    rw [← ew2]
    have h := h w2 ew2
    exact am_return d_Letters_write_33 rfl (hQ w2 h)
theorem d_Letters_writeNumber_0 : decode prog_5_method_8_code 0 = .ok (.iload_n 1, 1) := by decide +kernel
theorem d_Letters_writeNumber_1 : decode prog_5_method_8_code 1 = .ok (.bipush 10, 2) := by decide +kernel
theorem d_Letters_writeNumber_3 : decode prog_5_method_8_code 3 = .ok (.if_icmp .lt 14, 3) := by decide +kernel
theorem d_Letters_writeNumber_6 : decode prog_5_method_8_code 6 = .ok (.aload_n 0, 1) := by decide +kernel
theorem d_Letters_writeNumber_7 : decode prog_5_method_8_code 7 = .ok (.bipush 48, 2) := by decide +kernel
theorem d_Letters_writeNumber_9 : decode prog_5_method_8_code 9 = .ok (.iload_n 1, 1) := by decide +kernel
theorem d_Letters_writeNumber_10 : decode prog_5_method_8_code 10 = .ok (.bipush 10, 2) := by decide +kernel
theorem d_Letters_writeNumber_12 : decode prog_5_method_8_code 12 = .ok (.idiv, 1) := by decide +kernel
theorem d_Letters_writeNumber_13 : decode prog_5_method_8_code 13 = .ok (.iadd, 1) := by decide +kernel
theorem d_Letters_writeNumber_14 : decode prog_5_method_8_code 14 = .ok (.invokevirtual 25, 3) := by decide +kernel
theorem d_Letters_writeNumber_17 : decode prog_5_method_8_code 17 = .ok (.aload_n 0, 1) := by decide +kernel
theorem d_Letters_writeNumber_18 : decode prog_5_method_8_code 18 = .ok (.bipush 48, 2) := by decide +kernel
theorem d_Letters_writeNumber_20 : decode prog_5_method_8_code 20 = .ok (.iload_n 1, 1) := by decide +kernel
theorem d_Letters_writeNumber_21 : decode prog_5_method_8_code 21 = .ok (.bipush 10, 2) := by decide +kernel
theorem d_Letters_writeNumber_23 : decode prog_5_method_8_code 23 = .ok (.irem, 1) := by decide +kernel
theorem d_Letters_writeNumber_24 : decode prog_5_method_8_code 24 = .ok (.iadd, 1) := by decide +kernel
theorem d_Letters_writeNumber_25 : decode prog_5_method_8_code 25 = .ok (.invokevirtual 25, 3) := by decide +kernel
theorem d_Letters_writeNumber_28 : decode prog_5_method_8_code 28 = .ok (.return_, 1) := by decide +kernel
def cf_Letters_writeNumber (a0 : Int32) (w : Wd) (P : Wd → Prop) : Prop :=
  ((a0 < (10 : Int32) → cf_Letters_write ((48 : Int32) + (irem a0 (10 : Int32))) w (fun w1 => P w1)) ∧ (¬ a0 < (10 : Int32) → cf_Letters_write ((48 : Int32) + (a0 / (10 : Int32))) w (fun w2 => cf_Letters_write ((48 : Int32) + (irem a0 (10 : Int32))) w2 (fun w3 => P w3))))
theorem cf_Letters_writeNumber_ok {g : ayG} {d : Nat} (hd : 1 ≤ d) (a0 : Int32)  (w : Wd) (P : Wd → Prop) (h : cf_Letters_writeNumber a0 w P) : Call g y_Letters_writeNumber prog_5_method_8_code 2 none d [.ref (g.1 + 28), .int a0] w (fun (r : Option Value) (w2 : Wd) => r = none ∧ P w2) := by
  unfold cf_Letters_writeNumber at h
  refine am_enter mi_Letters_writeNumber (Nat.le_of_ble_eq_true rfl) ?_
  have hQ : ∀ w2, P w2 → (fun (r : Option Value) (w2 : Wd) => r = none ∧ P w2) none w2 := fun w2 h => ⟨rfl, h⟩
  generalize (fun (r : Option Value) (w2 : Wd) => r = none ∧ P w2) = Q at hQ ⊢
  show wp g (fun _ => True) y_Letters_writeNumber prog_5_method_8_code 2 none d 0 [(0, .ref (g.1 + 28)), (1, .int a0)] [] w Q
  refine am_iload_n d_Letters_writeNumber_0 1 rfl ?_
  refine am_bipush (v := 10) d_Letters_writeNumber_1 rfl ?_
  refine am_icmp_lt (tgt := 17) d_Letters_writeNumber_3 (by decide) (fun c3 => ?_) (fun c3 => ?_)
  · have h := h.1 c3
    refine am_aload_n d_Letters_writeNumber_17 0 rfl ?_
    refine am_bipush (v := 48) d_Letters_writeNumber_18 rfl ?_
    refine am_iload_n d_Letters_writeNumber_20 1 rfl ?_
    refine am_bipush (v := 10) d_Letters_writeNumber_21 rfl ?_
    refine am_irem d_Letters_writeNumber_23 (by decide) ?_
    refine am_iadd d_Letters_writeNumber_24 ?_
    refine am_callV (C := y_Letters_write.cls) (d2 := d - 1) [.int ((48 : Int32) + (irem a0 (10 : Int32)))] d_Letters_writeNumber_25 mi_Letters_write wd_820 wd_822 ws_Letters_write (by decide) (el_Letters (show ay_sh 28 = _ from rfl)) rfl rfl (by omega) rfl rfl (Nat.le_of_ble_eq_true rfl) ?_
    refine Call.post ?_ (cf_Letters_write_ok (by omega) ((48 : Int32) + (irem a0 (10 : Int32)))  w _ h)
    rintro _ w1 ⟨rfl, h⟩
    show wp g (fun _ => True) y_Letters_writeNumber prog_5_method_8_code 2 none d 28 [(0, .ref (g.1 + 28)), (1, .int a0)] [] w1 Q
    exact am_return d_Letters_writeNumber_28 rfl (hQ w1 h)
  · have h := h.2 c3
    refine am_aload_n d_Letters_writeNumber_6 0 rfl ?_
    refine am_bipush (v := 48) d_Letters_writeNumber_7 rfl ?_
    refine am_iload_n d_Letters_writeNumber_9 1 rfl ?_
    refine am_bipush (v := 10) d_Letters_writeNumber_10 rfl ?_
    refine am_idiv d_Letters_writeNumber_12 (by decide) ?_
    refine am_iadd d_Letters_writeNumber_13 ?_
    refine am_callV (C := y_Letters_write.cls) (d2 := d - 1) [.int ((48 : Int32) + (a0 / (10 : Int32)))] d_Letters_writeNumber_14 mi_Letters_write wd_820 wd_822 ws_Letters_write (by decide) (el_Letters (show ay_sh 28 = _ from rfl)) rfl rfl (by omega) rfl rfl (Nat.le_of_ble_eq_true rfl) ?_
    refine Call.post ?_ (cf_Letters_write_ok (by omega) ((48 : Int32) + (a0 / (10 : Int32)))  w _ h)
    rintro _ w2 ⟨rfl, h⟩
    show wp g (fun _ => True) y_Letters_writeNumber prog_5_method_8_code 2 none d 17 [(0, .ref (g.1 + 28)), (1, .int a0)] [] w2 Q
    refine am_aload_n d_Letters_writeNumber_17 0 rfl ?_
    refine am_bipush (v := 48) d_Letters_writeNumber_18 rfl ?_
    refine am_iload_n d_Letters_writeNumber_20 1 rfl ?_
    refine am_bipush (v := 10) d_Letters_writeNumber_21 rfl ?_
    refine am_irem d_Letters_writeNumber_23 (by decide) ?_
    refine am_iadd d_Letters_writeNumber_24 ?_
    refine am_callV (C := y_Letters_write.cls) (d2 := d - 1) [.int ((48 : Int32) + (irem a0 (10 : Int32)))] d_Letters_writeNumber_25 mi_Letters_write wd_820 wd_822 ws_Letters_write (by decide) (el_Letters (show ay_sh 28 = _ from rfl)) rfl rfl (by omega) rfl rfl (Nat.le_of_ble_eq_true rfl) ?_
    refine Call.post ?_ (cf_Letters_write_ok (by omega) ((48 : Int32) + (irem a0 (10 : Int32)))  w2 _ h)
    rintro _ w3 ⟨rfl, h⟩
    show wp g (fun _ => True) y_Letters_writeNumber prog_5_method_8_code 2 none d 28 [(0, .ref (g.1 + 28)), (1, .int a0)] [] w3 Q
    exact am_return d_Letters_writeNumber_28 rfl (hQ w3 h)
theorem d_Letters_writePowerOfX_0 : decode prog_5_method_7_code 0 = .ok (.iload_n 1, 1) := by decide +kernel
theorem d_Letters_writePowerOfX_1 : decode prog_5_method_7_code 1 = .ok (.ifCond .ne 10, 3) := by decide +kernel
theorem d_Letters_writePowerOfX_4 : decode prog_5_method_7_code 4 = .ok (.aload_n 0, 1) := by decide +kernel
theorem d_Letters_writePowerOfX_5 : decode prog_5_method_7_code 5 = .ok (.bipush 49, 2) := by decide +kernel
theorem d_Letters_writePowerOfX_7 : decode prog_5_method_7_code 7 = .ok (.invokevirtual 25, 3) := by decide +kernel
theorem d_Letters_writePowerOfX_10 : decode prog_5_method_7_code 10 = .ok (.return_, 1) := by decide +kernel
theorem d_Letters_writePowerOfX_11 : decode prog_5_method_7_code 11 = .ok (.aload_n 0, 1) := by decide +kernel
theorem d_Letters_writePowerOfX_12 : decode prog_5_method_7_code 12 = .ok (.bipush 120, 2) := by decide +kernel
theorem d_Letters_writePowerOfX_14 : decode prog_5_method_7_code 14 = .ok (.invokevirtual 25, 3) := by decide +kernel
theorem d_Letters_writePowerOfX_17 : decode prog_5_method_7_code 17 = .ok (.iload_n 1, 1) := by decide +kernel
theorem d_Letters_writePowerOfX_18 : decode prog_5_method_7_code 18 = .ok (.iconst 1, 1) := by decide +kernel
theorem d_Letters_writePowerOfX_19 : decode prog_5_method_7_code 19 = .ok (.if_icmp .le 14, 3) := by decide +kernel
theorem d_Letters_writePowerOfX_22 : decode prog_5_method_7_code 22 = .ok (.aload_n 0, 1) := by decide +kernel
theorem d_Letters_writePowerOfX_23 : decode prog_5_method_7_code 23 = .ok (.bipush 94, 2) := by decide +kernel
theorem d_Letters_writePowerOfX_25 : decode prog_5_method_7_code 25 = .ok (.invokevirtual 25, 3) := by decide +kernel
theorem d_Letters_writePowerOfX_28 : decode prog_5_method_7_code 28 = .ok (.aload_n 0, 1) := by decide +kernel
theorem d_Letters_writePowerOfX_29 : decode prog_5_method_7_code 29 = .ok (.iload_n 1, 1) := by decide +kernel
theorem d_Letters_writePowerOfX_30 : decode prog_5_method_7_code 30 = .ok (.invokevirtual 50, 3) := by decide +kernel
theorem d_Letters_writePowerOfX_33 : decode prog_5_method_7_code 33 = .ok (.return_, 1) := by decide +kernel
def cf_Letters_writePowerOfX (a0 : Int32) (w : Wd) (P : Wd → Prop) : Prop :=
  ((¬ a0 = 0 → cf_Letters_write (120 : Int32) w (fun w1 => ((a0 ≤ (1 : Int32) → P w1) ∧ (¬ a0 ≤ (1 : Int32) → cf_Letters_write (94 : Int32) w1 (fun w2 => cf_Letters_writeNumber a0 w2 (fun w3 => P w3)))))) ∧ (a0 = 0 → cf_Letters_write (49 : Int32) w (fun w4 => P w4)))
theorem cf_Letters_writePowerOfX_ok {g : ayG} {d : Nat} (hd : 2 ≤ d) (a0 : Int32)  (w : Wd) (P : Wd → Prop) (h : cf_Letters_writePowerOfX a0 w P) : Call g y_Letters_writePowerOfX prog_5_method_7_code 2 none d [.ref (g.1 + 28), .int a0] w (fun (r : Option Value) (w2 : Wd) => r = none ∧ P w2) := by
  unfold cf_Letters_writePowerOfX at h
  refine am_enter mi_Letters_writePowerOfX (Nat.le_of_ble_eq_true rfl) ?_
  have hQ : ∀ w2, P w2 → (fun (r : Option Value) (w2 : Wd) => r = none ∧ P w2) none w2 := fun w2 h => ⟨rfl, h⟩
  generalize (fun (r : Option Value) (w2 : Wd) => r = none ∧ P w2) = Q at hQ ⊢
  show wp g (fun _ => True) y_Letters_writePowerOfX prog_5_method_7_code 2 none d 0 [(0, .ref (g.1 + 28)), (1, .int a0)] [] w Q
  refine am_iload_n d_Letters_writePowerOfX_0 1 rfl ?_
  refine am_if_ne (tgt := 11) d_Letters_writePowerOfX_1 (by decide) (fun c1 => ?_) (fun c1 => ?_)
  · have h := h.1 c1
    refine am_aload_n d_Letters_writePowerOfX_11 0 rfl ?_
    refine am_bipush (v := 120) d_Letters_writePowerOfX_12 rfl ?_
    refine am_callV (C := y_Letters_write.cls) (d2 := d - 1) [.int (120 : Int32)] d_Letters_writePowerOfX_14 mi_Letters_write wd_820 wd_822 ws_Letters_write (by decide) (el_Letters (show ay_sh 28 = _ from rfl)) rfl rfl (by omega) rfl rfl (Nat.le_of_ble_eq_true rfl) ?_
    refine Call.post ?_ (cf_Letters_write_ok (by omega) (120 : Int32)  w _ h)
    rintro _ w1 ⟨rfl, h⟩
    show wp g (fun _ => True) y_Letters_writePowerOfX prog_5_method_7_code 2 none d 17 [(0, .ref (g.1 + 28)), (1, .int a0)] [] w1 Q
    refine am_iload_n d_Letters_writePowerOfX_17 1 rfl ?_
    refine am_iconst (v := 1) d_Letters_writePowerOfX_18 rfl ?_
    refine am_icmp_le (tgt := 33) d_Letters_writePowerOfX_19 (by decide) (fun c19 => ?_) (fun c19 => ?_)
    · have h := h.1 c19
      exact am_return d_Letters_writePowerOfX_33 rfl (hQ w1 h)
    · have h := h.2 c19
      refine am_aload_n d_Letters_writePowerOfX_22 0 rfl ?_
      refine am_bipush (v := 94) d_Letters_writePowerOfX_23 rfl ?_
      refine am_callV (C := y_Letters_write.cls) (d2 := d - 1) [.int (94 : Int32)] d_Letters_writePowerOfX_25 mi_Letters_write wd_820 wd_822 ws_Letters_write (by decide) (el_Letters (show ay_sh 28 = _ from rfl)) rfl rfl (by omega) rfl rfl (Nat.le_of_ble_eq_true rfl) ?_
      refine Call.post ?_ (cf_Letters_write_ok (by omega) (94 : Int32)  w1 _ h)
      rintro _ w2 ⟨rfl, h⟩
      show wp g (fun _ => True) y_Letters_writePowerOfX prog_5_method_7_code 2 none d 28 [(0, .ref (g.1 + 28)), (1, .int a0)] [] w2 Q
      refine am_aload_n d_Letters_writePowerOfX_28 0 rfl ?_
      refine am_iload_n d_Letters_writePowerOfX_29 1 rfl ?_
      refine am_callV (C := y_Letters_writeNumber.cls) (d2 := d - 1) [.int a0] d_Letters_writePowerOfX_30 mi_Letters_writeNumber wd_828 wd_830 ws_Letters_writeNumber (by decide) (el_Letters (show ay_sh 28 = _ from rfl)) rfl rfl (by omega) rfl rfl (Nat.le_of_ble_eq_true rfl) ?_
      refine Call.post ?_ (cf_Letters_writeNumber_ok (by omega) a0  w2 _ h)
      rintro _ w3 ⟨rfl, h⟩
      show wp g (fun _ => True) y_Letters_writePowerOfX prog_5_method_7_code 2 none d 33 [(0, .ref (g.1 + 28)), (1, .int a0)] [] w3 Q
      exact am_return d_Letters_writePowerOfX_33 rfl (hQ w3 h)
  · have h := h.2 c1
    refine am_aload_n d_Letters_writePowerOfX_4 0 rfl ?_
    refine am_bipush (v := 49) d_Letters_writePowerOfX_5 rfl ?_
    refine am_callV (C := y_Letters_write.cls) (d2 := d - 1) [.int (49 : Int32)] d_Letters_writePowerOfX_7 mi_Letters_write wd_820 wd_822 ws_Letters_write (by decide) (el_Letters (show ay_sh 28 = _ from rfl)) rfl rfl (by omega) rfl rfl (Nat.le_of_ble_eq_true rfl) ?_
    refine Call.post ?_ (cf_Letters_write_ok (by omega) (49 : Int32)  w _ h)
    rintro _ w4 ⟨rfl, h⟩
    show wp g (fun _ => True) y_Letters_writePowerOfX prog_5_method_7_code 2 none d 10 [(0, .ref (g.1 + 28)), (1, .int a0)] [] w4 Q
    exact am_return d_Letters_writePowerOfX_10 rfl (hQ w4 h)
theorem d_Letters_writePoly_0 : decode prog_5_method_5_code 0 = .ok (.lload_n 1, 1) := by decide +kernel
theorem d_Letters_writePoly_1 : decode prog_5_method_5_code 1 = .ok (.invokestatic 19, 3) := by decide +kernel
theorem d_Letters_writePoly_4 : decode prog_5_method_5_code 4 = .ok (.istore_n 3, 1) := by decide +kernel
theorem d_Letters_writePoly_5 : decode prog_5_method_5_code 5 = .ok (.iload_n 3, 1) := by decide +kernel
theorem d_Letters_writePoly_6 : decode prog_5_method_5_code 6 = .ok (.ifCond .ge 9, 3) := by decide +kernel
theorem d_Letters_writePoly_9 : decode prog_5_method_5_code 9 = .ok (.aload_n 0, 1) := by decide +kernel
theorem d_Letters_writePoly_10 : decode prog_5_method_5_code 10 = .ok (.bipush 48, 2) := by decide +kernel
theorem d_Letters_writePoly_12 : decode prog_5_method_5_code 12 = .ok (.invokevirtual 25, 3) := by decide +kernel
theorem d_Letters_writePoly_15 : decode prog_5_method_5_code 15 = .ok (.iload_n 3, 1) := by decide +kernel
theorem d_Letters_writePoly_16 : decode prog_5_method_5_code 16 = .ok (.istore 4, 2) := by decide +kernel
theorem d_Letters_writePoly_18 : decode prog_5_method_5_code 18 = .ok (.iload 4, 2) := by decide +kernel
theorem d_Letters_writePoly_20 : decode prog_5_method_5_code 20 = .ok (.ifCond .lt 38, 3) := by decide +kernel
theorem d_Letters_writePoly_23 : decode prog_5_method_5_code 23 = .ok (.lload_n 1, 1) := by decide +kernel
theorem d_Letters_writePoly_24 : decode prog_5_method_5_code 24 = .ok (.iload 4, 2) := by decide +kernel
theorem d_Letters_writePoly_26 : decode prog_5_method_5_code 26 = .ok (.lshr, 1) := by decide +kernel
theorem d_Letters_writePoly_27 : decode prog_5_method_5_code 27 = .ok (.lconst 1, 1) := by decide +kernel
theorem d_Letters_writePoly_28 : decode prog_5_method_5_code 28 = .ok (.land, 1) := by decide +kernel
theorem d_Letters_writePoly_29 : decode prog_5_method_5_code 29 = .ok (.lconst 0, 1) := by decide +kernel
theorem d_Letters_writePoly_30 : decode prog_5_method_5_code 30 = .ok (.lcmp, 1) := by decide +kernel
theorem d_Letters_writePoly_31 : decode prog_5_method_5_code 31 = .ok (.ifCond .eq 21, 3) := by decide +kernel
theorem d_Letters_writePoly_34 : decode prog_5_method_5_code 34 = .ok (.iload 4, 2) := by decide +kernel
theorem d_Letters_writePoly_36 : decode prog_5_method_5_code 36 = .ok (.iload_n 3, 1) := by decide +kernel
theorem d_Letters_writePoly_37 : decode prog_5_method_5_code 37 = .ok (.if_icmp .ge 9, 3) := by decide +kernel
theorem d_Letters_writePoly_40 : decode prog_5_method_5_code 40 = .ok (.aload_n 0, 1) := by decide +kernel
theorem d_Letters_writePoly_41 : decode prog_5_method_5_code 41 = .ok (.bipush 43, 2) := by decide +kernel
theorem d_Letters_writePoly_43 : decode prog_5_method_5_code 43 = .ok (.invokevirtual 25, 3) := by decide +kernel
theorem d_Letters_writePoly_46 : decode prog_5_method_5_code 46 = .ok (.aload_n 0, 1) := by decide +kernel
theorem d_Letters_writePoly_47 : decode prog_5_method_5_code 47 = .ok (.iload 4, 2) := by decide +kernel
theorem d_Letters_writePoly_49 : decode prog_5_method_5_code 49 = .ok (.invokevirtual 29, 3) := by decide +kernel
theorem d_Letters_writePoly_52 : decode prog_5_method_5_code 52 = .ok (.iinc 4 (-1), 3) := by decide +kernel
theorem d_Letters_writePoly_55 : decode prog_5_method_5_code 55 = .ok (.goto (-37), 3) := by decide +kernel
theorem d_Letters_writePoly_58 : decode prog_5_method_5_code 58 = .ok (.return_, 1) := by decide +kernel
def cf_Letters_writePoly_B18  (K18 : Int64 → Int32 → Int32 → Wd → Prop) (P : Wd → Prop) (x1 : Int64) (x3 : Int32) (x4 : Int32) (w : Wd) : Prop :=
  ((x4 < 0 → P w) ∧ (¬ x4 < 0 → ((((lshr x1 x4) &&& (1 : Int64)) = (0 : Int64) → ∀ v2, v2 = x4 + (-1 : Int32) → K18 x1 x3 v2 w) ∧ (¬ ((lshr x1 x4) &&& (1 : Int64)) = (0 : Int64) → ((x3 ≤ x4 → cf_Letters_writePowerOfX x4 w (fun w3 => ∀ v4, v4 = x4 + (-1 : Int32) → K18 x1 x3 v4 w3)) ∧ (¬ x3 ≤ x4 → cf_Letters_write (43 : Int32) w (fun w5 => cf_Letters_writePowerOfX x4 w5 (fun w6 => ∀ v7, v7 = x4 + (-1 : Int32) → K18 x1 x3 v7 w6))))))))
def cf_Letters_writePoly_L18   (P : Wd → Prop) : Nat → Int64 → Int32 → Int32 → Wd → Prop
  | 0 => fun x1 x3 x4 w => False
  | n + 1 => fun x1 x3 x4 w => cf_Letters_writePoly_B18 (cf_Letters_writePoly_L18 P n) P x1 x3 x4 w
def cf_Letters_writePoly (a0 : Int64) (w : Wd) (P : Wd → Prop) : Prop :=
  cf_Polys_degree a0 (fun r1 => ((0 ≤ r1 → ∃ n, cf_Letters_writePoly_L18 P n a0 r1 r1 w) ∧ (¬ 0 ≤ r1 → cf_Letters_write (48 : Int32) w (fun w8 => ∃ n, cf_Letters_writePoly_L18 P n a0 r1 r1 w8))))
theorem cf_Letters_writePoly_B18_ok {g : ayG} {d : Nat} (hd : 3 ≤ d)   (w : Wd) (K18 : Int64 → Int32 → Int32 → Wd → Prop) (P : Wd → Prop) (Q : Option Value → Wd → Prop) (hQ : ∀ w2, P w2 → Q none w2) (hK18 : ∀ (x1 : Int64) (x3 : Int32) (x4 : Int32) (w : Wd), (K18 x1 x3 x4 w → wp g (fun _ => True) y_Letters_writePoly prog_5_method_5_code 5 none d 18 [(0, .ref (g.1 + 28)), (1, .long x1), (3, .int x3), (4, .int x4)] [] w Q)) (x1 : Int64) (x3 : Int32) (x4 : Int32) (h : cf_Letters_writePoly_B18 K18 P x1 x3 x4 w) : wp g (fun _ => True) y_Letters_writePoly prog_5_method_5_code 5 none d 18 [(0, .ref (g.1 + 28)), (1, .long x1), (3, .int x3), (4, .int x4)] [] w Q := by
  unfold cf_Letters_writePoly_B18 at h
  refine am_iload d_Letters_writePoly_18 3 rfl ?_
  refine am_if_lt (tgt := 58) d_Letters_writePoly_20 (by decide) (fun c20 => ?_) (fun c20 => ?_)
  · have h := h.1 c20
    exact am_return d_Letters_writePoly_58 rfl (hQ w h)
  · have h := h.2 c20
    refine am_lload_n d_Letters_writePoly_23 1 rfl ?_
    refine am_iload d_Letters_writePoly_24 3 rfl ?_
    refine am_lshr d_Letters_writePoly_26 ?_
    refine am_lconst (v := 1) d_Letters_writePoly_27 rfl ?_
    refine am_land d_Letters_writePoly_28 ?_
    refine am_lconst (v := 0) d_Letters_writePoly_29 rfl ?_
    refine am_lif_eq (tgt := 52) d_Letters_writePoly_30 d_Letters_writePoly_31 (by decide) (fun c30 => ?_) (fun c30 => ?_)
    · have h := h.1 c30
      obtain ⟨v2, ev2⟩ : ∃ z : Int32, z = x4 + (-1 : Int32) := ⟨_, rfl⟩
      have h := h v2 ev2
      refine am_iinc (v := v2) (l' := [(4, .int v2), (0, .ref (g.1 + 28)), (1, .long x1), (3, .int x3)]) d_Letters_writePoly_52 3 rfl (by rw [ev2]; rfl) (by decide) rfl ?_
      refine am_goto (tgt := 18) d_Letters_writePoly_55 (by decide) ?_
      refine am_sub [1, 2, 3, 0] rfl ?_
      exact hK18 x1 x3 v2 w h
    · have h := h.2 c30
      refine am_iload d_Letters_writePoly_34 3 rfl ?_
      refine am_iload_n d_Letters_writePoly_36 2 rfl ?_
      refine am_icmp_ge (tgt := 46) d_Letters_writePoly_37 (by decide) (fun c37 => ?_) (fun c37 => ?_)
      · have h := h.1 c37
        refine am_aload_n d_Letters_writePoly_46 0 rfl ?_
        refine am_iload d_Letters_writePoly_47 3 rfl ?_
        refine am_callV (C := y_Letters_writePowerOfX.cls) (d2 := d - 1) [.int x4] d_Letters_writePoly_49 mi_Letters_writePowerOfX wd_824 wd_826 ws_Letters_writePowerOfX (by decide) (el_Letters (show ay_sh 28 = _ from rfl)) rfl rfl (by omega) rfl rfl (Nat.le_of_ble_eq_true rfl) ?_
        refine Call.post ?_ (cf_Letters_writePowerOfX_ok (by omega) x4  w _ h)
        rintro _ w3 ⟨rfl, h⟩
        show wp g (fun _ => True) y_Letters_writePoly prog_5_method_5_code 5 none d 52 [(0, .ref (g.1 + 28)), (1, .long x1), (3, .int x3), (4, .int x4)] [] w3 Q
        obtain ⟨v4, ev4⟩ : ∃ z : Int32, z = x4 + (-1 : Int32) := ⟨_, rfl⟩
        have h := h v4 ev4
        refine am_iinc (v := v4) (l' := [(4, .int v4), (0, .ref (g.1 + 28)), (1, .long x1), (3, .int x3)]) d_Letters_writePoly_52 3 rfl (by rw [ev4]; rfl) (by decide) rfl ?_
        refine am_goto (tgt := 18) d_Letters_writePoly_55 (by decide) ?_
        refine am_sub [1, 2, 3, 0] rfl ?_
        exact hK18 x1 x3 v4 w3 h
      · have h := h.2 c37
        refine am_aload_n d_Letters_writePoly_40 0 rfl ?_
        refine am_bipush (v := 43) d_Letters_writePoly_41 rfl ?_
        refine am_callV (C := y_Letters_write.cls) (d2 := d - 1) [.int (43 : Int32)] d_Letters_writePoly_43 mi_Letters_write wd_820 wd_822 ws_Letters_write (by decide) (el_Letters (show ay_sh 28 = _ from rfl)) rfl rfl (by omega) rfl rfl (Nat.le_of_ble_eq_true rfl) ?_
        refine Call.post ?_ (cf_Letters_write_ok (by omega) (43 : Int32)  w _ h)
        rintro _ w5 ⟨rfl, h⟩
        show wp g (fun _ => True) y_Letters_writePoly prog_5_method_5_code 5 none d 46 [(0, .ref (g.1 + 28)), (1, .long x1), (3, .int x3), (4, .int x4)] [] w5 Q
        refine am_aload_n d_Letters_writePoly_46 0 rfl ?_
        refine am_iload d_Letters_writePoly_47 3 rfl ?_
        refine am_callV (C := y_Letters_writePowerOfX.cls) (d2 := d - 1) [.int x4] d_Letters_writePoly_49 mi_Letters_writePowerOfX wd_824 wd_826 ws_Letters_writePowerOfX (by decide) (el_Letters (show ay_sh 28 = _ from rfl)) rfl rfl (by omega) rfl rfl (Nat.le_of_ble_eq_true rfl) ?_
        refine Call.post ?_ (cf_Letters_writePowerOfX_ok (by omega) x4  w5 _ h)
        rintro _ w6 ⟨rfl, h⟩
        show wp g (fun _ => True) y_Letters_writePoly prog_5_method_5_code 5 none d 52 [(0, .ref (g.1 + 28)), (1, .long x1), (3, .int x3), (4, .int x4)] [] w6 Q
        obtain ⟨v7, ev7⟩ : ∃ z : Int32, z = x4 + (-1 : Int32) := ⟨_, rfl⟩
        have h := h v7 ev7
        refine am_iinc (v := v7) (l' := [(4, .int v7), (0, .ref (g.1 + 28)), (1, .long x1), (3, .int x3)]) d_Letters_writePoly_52 3 rfl (by rw [ev7]; rfl) (by decide) rfl ?_
        refine am_goto (tgt := 18) d_Letters_writePoly_55 (by decide) ?_
        refine am_sub [1, 2, 3, 0] rfl ?_
        exact hK18 x1 x3 v7 w6 h
theorem cf_Letters_writePoly_L18_ok {g : ayG} {d : Nat} (hd : 3 ≤ d)    (P : Wd → Prop) (Q : Option Value → Wd → Prop) (hQ : ∀ w2, P w2 → Q none w2)  : ∀ (n : Nat) (x1 : Int64) (x3 : Int32) (x4 : Int32) (w : Wd) (h : cf_Letters_writePoly_L18 P n x1 x3 x4 w), wp g (fun _ => True) y_Letters_writePoly prog_5_method_5_code 5 none d 18 [(0, .ref (g.1 + 28)), (1, .long x1), (3, .int x3), (4, .int x4)] [] w Q
  | 0, x1, x3, x4, w, h => False.elim h
  | n + 1, x1, x3, x4, w, h => cf_Letters_writePoly_B18_ok hd   w (cf_Letters_writePoly_L18 P n) P Q hQ (fun x1 x3 x4 w h => cf_Letters_writePoly_L18_ok hd    P Q hQ  n x1 x3 x4 w h) x1 x3 x4 h
theorem cf_Letters_writePoly_ok {g : ayG} {d : Nat} (hd : 3 ≤ d) (a0 : Int64)  (w : Wd) (P : Wd → Prop) (h : cf_Letters_writePoly a0 w P) : Call g y_Letters_writePoly prog_5_method_5_code 5 none d [.ref (g.1 + 28), .long a0] w (fun (r : Option Value) (w2 : Wd) => r = none ∧ P w2) := by
  unfold cf_Letters_writePoly at h
  refine am_enter mi_Letters_writePoly (Nat.le_of_ble_eq_true rfl) ?_
  have hQ : ∀ w2, P w2 → (fun (r : Option Value) (w2 : Wd) => r = none ∧ P w2) none w2 := fun w2 h => ⟨rfl, h⟩
  generalize (fun (r : Option Value) (w2 : Wd) => r = none ∧ P w2) = Q at hQ ⊢
  show wp g (fun _ => True) y_Letters_writePoly prog_5_method_5_code 5 none d 0 [(0, .ref (g.1 + 28)), (1, .long a0)] [] w Q
  refine am_lload_n d_Letters_writePoly_0 1 rfl ?_
  refine am_callS (d2 := d - 1) [.long a0] d_Letters_writePoly_1 mi_Polys_degree wd_819 wd_391 (by omega) rfl rfl (Nat.le_of_ble_eq_true rfl) ?_
  refine Call.post ?_ (cf_Polys_degree_ok (by omega) a0  w _ h)
  rintro _ _ ⟨r1, rfl, rfl, h⟩
  show wp g (fun _ => True) y_Letters_writePoly prog_5_method_5_code 5 none d 4 [(0, .ref (g.1 + 28)), (1, .long a0)] [.int r1] w Q
  refine am_istore_n (l' := [(3, .int r1), (0, .ref (g.1 + 28)), (1, .long a0)]) d_Letters_writePoly_4 (by decide) rfl ?_
  refine am_iload_n d_Letters_writePoly_5 0 rfl ?_
  refine am_if_ge (tgt := 15) d_Letters_writePoly_6 (by decide) (fun c6 => ?_) (fun c6 => ?_)
  · have h := h.1 c6
    refine am_iload_n d_Letters_writePoly_15 0 rfl ?_
    refine am_istore (l' := [(4, .int r1), (3, .int r1), (0, .ref (g.1 + 28)), (1, .long a0)]) d_Letters_writePoly_16 (by decide) rfl ?_
    refine am_sub [2, 3, 1, 0] rfl ?_
    obtain ⟨n, h⟩ := h
    exact cf_Letters_writePoly_L18_ok (by omega)    P Q hQ  n a0 r1 r1 w h
  · have h := h.2 c6
    refine am_aload_n d_Letters_writePoly_9 1 rfl ?_
    refine am_bipush (v := 48) d_Letters_writePoly_10 rfl ?_
    refine am_callV (C := y_Letters_write.cls) (d2 := d - 1) [.int (48 : Int32)] d_Letters_writePoly_12 mi_Letters_write wd_820 wd_822 ws_Letters_write (by decide) (el_Letters (show ay_sh 28 = _ from rfl)) rfl rfl (by omega) rfl rfl (Nat.le_of_ble_eq_true rfl) ?_
    refine Call.post ?_ (cf_Letters_write_ok (by omega) (48 : Int32)  w _ h)
    rintro _ w8 ⟨rfl, h⟩
    show wp g (fun _ => True) y_Letters_writePoly prog_5_method_5_code 5 none d 15 [(3, .int r1), (0, .ref (g.1 + 28)), (1, .long a0)] [] w8 Q
    refine am_iload_n d_Letters_writePoly_15 0 rfl ?_
    refine am_istore (l' := [(4, .int r1), (3, .int r1), (0, .ref (g.1 + 28)), (1, .long a0)]) d_Letters_writePoly_16 (by decide) rfl ?_
    refine am_sub [2, 3, 1, 0] rfl ?_
    obtain ⟨n, h⟩ := h
    exact cf_Letters_writePoly_L18_ok (by omega)    P Q hQ  n a0 r1 r1 w8 h
theorem d_Letters_writeFactors_0 : decode prog_5_method_6_code 0 = .ok (.iconst 0, 1) := by decide +kernel
theorem d_Letters_writeFactors_1 : decode prog_5_method_6_code 1 = .ok (.istore_n 2, 1) := by decide +kernel
theorem d_Letters_writeFactors_2 : decode prog_5_method_6_code 2 = .ok (.iload_n 2, 1) := by decide +kernel
theorem d_Letters_writeFactors_3 : decode prog_5_method_6_code 3 = .ok (.aload_n 1, 1) := by decide +kernel
theorem d_Letters_writeFactors_4 : decode prog_5_method_6_code 4 = .ok (.invokevirtual 32, 3) := by decide +kernel
theorem d_Letters_writeFactors_7 : decode prog_5_method_6_code 7 = .ok (.if_icmp .ge 54, 3) := by decide +kernel
theorem d_Letters_writeFactors_10 : decode prog_5_method_6_code 10 = .ok (.aload_n 0, 1) := by decide +kernel
theorem d_Letters_writeFactors_11 : decode prog_5_method_6_code 11 = .ok (.bipush 40, 2) := by decide +kernel
theorem d_Letters_writeFactors_13 : decode prog_5_method_6_code 13 = .ok (.invokevirtual 25, 3) := by decide +kernel
theorem d_Letters_writeFactors_16 : decode prog_5_method_6_code 16 = .ok (.aload_n 0, 1) := by decide +kernel
theorem d_Letters_writeFactors_17 : decode prog_5_method_6_code 17 = .ok (.aload_n 1, 1) := by decide +kernel
theorem d_Letters_writeFactors_18 : decode prog_5_method_6_code 18 = .ok (.iload_n 2, 1) := by decide +kernel
theorem d_Letters_writeFactors_19 : decode prog_5_method_6_code 19 = .ok (.invokevirtual 38, 3) := by decide +kernel
theorem d_Letters_writeFactors_22 : decode prog_5_method_6_code 22 = .ok (.invokevirtual 42, 3) := by decide +kernel
theorem d_Letters_writeFactors_25 : decode prog_5_method_6_code 25 = .ok (.aload_n 0, 1) := by decide +kernel
theorem d_Letters_writeFactors_26 : decode prog_5_method_6_code 26 = .ok (.bipush 41, 2) := by decide +kernel
theorem d_Letters_writeFactors_28 : decode prog_5_method_6_code 28 = .ok (.invokevirtual 25, 3) := by decide +kernel
theorem d_Letters_writeFactors_31 : decode prog_5_method_6_code 31 = .ok (.aload_n 1, 1) := by decide +kernel
theorem d_Letters_writeFactors_32 : decode prog_5_method_6_code 32 = .ok (.iload_n 2, 1) := by decide +kernel
theorem d_Letters_writeFactors_33 : decode prog_5_method_6_code 33 = .ok (.invokevirtual 46, 3) := by decide +kernel
theorem d_Letters_writeFactors_36 : decode prog_5_method_6_code 36 = .ok (.iconst 1, 1) := by decide +kernel
theorem d_Letters_writeFactors_37 : decode prog_5_method_6_code 37 = .ok (.if_icmp .le 18, 3) := by decide +kernel
theorem d_Letters_writeFactors_40 : decode prog_5_method_6_code 40 = .ok (.aload_n 0, 1) := by decide +kernel
theorem d_Letters_writeFactors_41 : decode prog_5_method_6_code 41 = .ok (.bipush 94, 2) := by decide +kernel
theorem d_Letters_writeFactors_43 : decode prog_5_method_6_code 43 = .ok (.invokevirtual 25, 3) := by decide +kernel
theorem d_Letters_writeFactors_46 : decode prog_5_method_6_code 46 = .ok (.aload_n 0, 1) := by decide +kernel
theorem d_Letters_writeFactors_47 : decode prog_5_method_6_code 47 = .ok (.aload_n 1, 1) := by decide +kernel
theorem d_Letters_writeFactors_48 : decode prog_5_method_6_code 48 = .ok (.iload_n 2, 1) := by decide +kernel
theorem d_Letters_writeFactors_49 : decode prog_5_method_6_code 49 = .ok (.invokevirtual 46, 3) := by decide +kernel
theorem d_Letters_writeFactors_52 : decode prog_5_method_6_code 52 = .ok (.invokevirtual 50, 3) := by decide +kernel
theorem d_Letters_writeFactors_55 : decode prog_5_method_6_code 55 = .ok (.iinc 2 1, 3) := by decide +kernel
theorem d_Letters_writeFactors_58 : decode prog_5_method_6_code 58 = .ok (.goto (-56), 3) := by decide +kernel
theorem d_Letters_writeFactors_61 : decode prog_5_method_6_code 61 = .ok (.return_, 1) := by decide +kernel
def cf_Letters_writeFactors_B2 (c0 : Nat) (K2 : Int32 → Wd → Prop) (P : Wd → Prop) (x2 : Int32) (w : Wd) : Prop :=
  cf_Factors_unlike c0 w (fun r1 => ((r1 ≤ x2 → P w) ∧ (¬ r1 ≤ x2 → cf_Letters_write (40 : Int32) w (fun w2 => cf_Factors_base c0 x2 w2 (fun r3 => cf_Letters_writePoly r3 w2 (fun w4 => cf_Letters_write (41 : Int32) w4 (fun w5 => cf_Factors_often c0 x2 w5 (fun r6 => ((r6 ≤ (1 : Int32) → ∀ v7, v7 = x2 + (1 : Int32) → K2 v7 w5) ∧ (¬ r6 ≤ (1 : Int32) → cf_Letters_write (94 : Int32) w5 (fun w8 => cf_Factors_often c0 x2 w8 (fun r9 => cf_Letters_writeNumber r9 w8 (fun w10 => ∀ v11, v11 = x2 + (1 : Int32) → K2 v11 w10)))))))))))))
def cf_Letters_writeFactors_L2 (c0 : Nat)  (P : Wd → Prop) : Nat → Int32 → Wd → Prop
  | 0 => fun x2 w => False
  | n + 1 => fun x2 w => cf_Letters_writeFactors_B2 c0 (cf_Letters_writeFactors_L2 c0 P n) P x2 w
def cf_Letters_writeFactors (c0 : Nat) (w : Wd) (P : Wd → Prop) : Prop :=
  ∃ n, cf_Letters_writeFactors_L2 c0 P n (0 : Int32) w
theorem cf_Letters_writeFactors_B2_ok {g : ayG} {d : Nat} (hd : 4 ≤ d) (c0 : Nat) (hc0 : ay_sh c0 = (14, 0)) (w : Wd) (K2 : Int32 → Wd → Prop) (P : Wd → Prop) (Q : Option Value → Wd → Prop) (hQ : ∀ w2, P w2 → Q none w2) (hK2 : ∀ (x2 : Int32) (w : Wd), (K2 x2 w → wp g (fun _ => True) y_Letters_writeFactors prog_5_method_6_code 3 none d 2 [(0, .ref (g.1 + 28)), (1, .ref (g.1 + c0)), (2, .int x2)] [] w Q)) (x2 : Int32) (h : cf_Letters_writeFactors_B2 c0 K2 P x2 w) : wp g (fun _ => True) y_Letters_writeFactors prog_5_method_6_code 3 none d 2 [(0, .ref (g.1 + 28)), (1, .ref (g.1 + c0)), (2, .int x2)] [] w Q := by
  unfold cf_Letters_writeFactors_B2 at h
  refine am_iload_n d_Letters_writeFactors_2 2 rfl ?_
  refine am_aload_n d_Letters_writeFactors_3 1 rfl ?_
  refine am_callV (C := "TriSplits$Factors") (d2 := d - 1) [] d_Letters_writeFactors_4 mi_Factors_unlike wd_852 wd_713 wd_714 (ay_shlt hc0 (by decide)) (el_Factors hc0) rfl rfl (by omega) rfl rfl (Nat.le_of_ble_eq_true rfl) ?_
  refine Call.post ?_ (cf_Factors_unlike_ok (by omega) c0 hc0 w _ h)
  rintro _ _ ⟨r1, rfl, rfl, h⟩
  show wp g (fun _ => True) y_Letters_writeFactors prog_5_method_6_code 3 none d 7 [(0, .ref (g.1 + 28)), (1, .ref (g.1 + c0)), (2, .int x2)] [.int r1, .int x2] w Q
  refine am_icmp_ge (tgt := 61) d_Letters_writeFactors_7 (by decide) (fun c7 => ?_) (fun c7 => ?_)
  · have h := h.1 c7
    exact am_return d_Letters_writeFactors_61 rfl (hQ w h)
  · have h := h.2 c7
    refine am_aload_n d_Letters_writeFactors_10 0 rfl ?_
    refine am_bipush (v := 40) d_Letters_writeFactors_11 rfl ?_
    refine am_callV (C := y_Letters_write.cls) (d2 := d - 1) [.int (40 : Int32)] d_Letters_writeFactors_13 mi_Letters_write wd_820 wd_822 ws_Letters_write (by decide) (el_Letters (show ay_sh 28 = _ from rfl)) rfl rfl (by omega) rfl rfl (Nat.le_of_ble_eq_true rfl) ?_
    refine Call.post ?_ (cf_Letters_write_ok (by omega) (40 : Int32)  w _ h)
    rintro _ w2 ⟨rfl, h⟩
    show wp g (fun _ => True) y_Letters_writeFactors prog_5_method_6_code 3 none d 16 [(0, .ref (g.1 + 28)), (1, .ref (g.1 + c0)), (2, .int x2)] [] w2 Q
    refine am_aload_n d_Letters_writeFactors_16 0 rfl ?_
    refine am_aload_n d_Letters_writeFactors_17 1 rfl ?_
    refine am_iload_n d_Letters_writeFactors_18 2 rfl ?_
    refine am_callV (C := "TriSplits$Factors") (d2 := d - 1) [.int x2] d_Letters_writeFactors_19 mi_Factors_base wd_853 wd_721 wd_722 (ay_shlt hc0 (by decide)) (el_Factors hc0) rfl rfl (by omega) rfl rfl (Nat.le_of_ble_eq_true rfl) ?_
    refine Call.post ?_ (cf_Factors_base_ok (by omega) c0 x2 hc0 w2 _ h)
    rintro _ _ ⟨r3, rfl, rfl, h⟩
    show wp g (fun _ => True) y_Letters_writeFactors prog_5_method_6_code 3 none d 22 [(0, .ref (g.1 + 28)), (1, .ref (g.1 + c0)), (2, .int x2)] [.long r3, .ref (g.1 + 28)] w2 Q
    refine am_callV (C := "TriSplits$Letters") (d2 := d - 1) [.long r3] d_Letters_writeFactors_22 mi_Letters_writePoly wd_854 wd_816 wd_817 (by decide) (el_Letters (show ay_sh 28 = _ from rfl)) rfl rfl (by omega) rfl rfl (Nat.le_of_ble_eq_true rfl) ?_
    refine Call.post ?_ (cf_Letters_writePoly_ok (by omega) r3  w2 _ h)
    rintro _ w4 ⟨rfl, h⟩
    show wp g (fun _ => True) y_Letters_writeFactors prog_5_method_6_code 3 none d 25 [(0, .ref (g.1 + 28)), (1, .ref (g.1 + c0)), (2, .int x2)] [] w4 Q
    refine am_aload_n d_Letters_writeFactors_25 0 rfl ?_
    refine am_bipush (v := 41) d_Letters_writeFactors_26 rfl ?_
    refine am_callV (C := y_Letters_write.cls) (d2 := d - 1) [.int (41 : Int32)] d_Letters_writeFactors_28 mi_Letters_write wd_820 wd_822 ws_Letters_write (by decide) (el_Letters (show ay_sh 28 = _ from rfl)) rfl rfl (by omega) rfl rfl (Nat.le_of_ble_eq_true rfl) ?_
    refine Call.post ?_ (cf_Letters_write_ok (by omega) (41 : Int32)  w4 _ h)
    rintro _ w5 ⟨rfl, h⟩
    show wp g (fun _ => True) y_Letters_writeFactors prog_5_method_6_code 3 none d 31 [(0, .ref (g.1 + 28)), (1, .ref (g.1 + c0)), (2, .int x2)] [] w5 Q
    refine am_aload_n d_Letters_writeFactors_31 1 rfl ?_
    refine am_iload_n d_Letters_writeFactors_32 2 rfl ?_
    refine am_callV (C := "TriSplits$Factors") (d2 := d - 1) [.int x2] d_Letters_writeFactors_33 mi_Factors_often wd_855 wd_733 wd_734 (ay_shlt hc0 (by decide)) (el_Factors hc0) rfl rfl (by omega) rfl rfl (Nat.le_of_ble_eq_true rfl) ?_
    refine Call.post ?_ (cf_Factors_often_ok (by omega) c0 x2 hc0 w5 _ h)
    rintro _ _ ⟨r6, rfl, rfl, h⟩
    show wp g (fun _ => True) y_Letters_writeFactors prog_5_method_6_code 3 none d 36 [(0, .ref (g.1 + 28)), (1, .ref (g.1 + c0)), (2, .int x2)] [.int r6] w5 Q
    refine am_iconst (v := 1) d_Letters_writeFactors_36 rfl ?_
    refine am_icmp_le (tgt := 55) d_Letters_writeFactors_37 (by decide) (fun c37 => ?_) (fun c37 => ?_)
    · have h := h.1 c37
      obtain ⟨v7, ev7⟩ : ∃ z : Int32, z = x2 + (1 : Int32) := ⟨_, rfl⟩
      have h := h v7 ev7
      refine am_iinc (v := v7) (l' := [(2, .int v7), (0, .ref (g.1 + 28)), (1, .ref (g.1 + c0))]) d_Letters_writeFactors_55 2 rfl (by rw [ev7]; rfl) (by decide) rfl ?_
      refine am_goto (tgt := 2) d_Letters_writeFactors_58 (by decide) ?_
      refine am_sub [1, 2, 0] rfl ?_
      exact hK2 v7 w5 h
    · have h := h.2 c37
      refine am_aload_n d_Letters_writeFactors_40 0 rfl ?_
      refine am_bipush (v := 94) d_Letters_writeFactors_41 rfl ?_
      refine am_callV (C := y_Letters_write.cls) (d2 := d - 1) [.int (94 : Int32)] d_Letters_writeFactors_43 mi_Letters_write wd_820 wd_822 ws_Letters_write (by decide) (el_Letters (show ay_sh 28 = _ from rfl)) rfl rfl (by omega) rfl rfl (Nat.le_of_ble_eq_true rfl) ?_
      refine Call.post ?_ (cf_Letters_write_ok (by omega) (94 : Int32)  w5 _ h)
      rintro _ w8 ⟨rfl, h⟩
      show wp g (fun _ => True) y_Letters_writeFactors prog_5_method_6_code 3 none d 46 [(0, .ref (g.1 + 28)), (1, .ref (g.1 + c0)), (2, .int x2)] [] w8 Q
      refine am_aload_n d_Letters_writeFactors_46 0 rfl ?_
      refine am_aload_n d_Letters_writeFactors_47 1 rfl ?_
      refine am_iload_n d_Letters_writeFactors_48 2 rfl ?_
      refine am_callV (C := "TriSplits$Factors") (d2 := d - 1) [.int x2] d_Letters_writeFactors_49 mi_Factors_often wd_855 wd_733 wd_734 (ay_shlt hc0 (by decide)) (el_Factors hc0) rfl rfl (by omega) rfl rfl (Nat.le_of_ble_eq_true rfl) ?_
      refine Call.post ?_ (cf_Factors_often_ok (by omega) c0 x2 hc0 w8 _ h)
      rintro _ _ ⟨r9, rfl, rfl, h⟩
      show wp g (fun _ => True) y_Letters_writeFactors prog_5_method_6_code 3 none d 52 [(0, .ref (g.1 + 28)), (1, .ref (g.1 + c0)), (2, .int x2)] [.int r9, .ref (g.1 + 28)] w8 Q
      refine am_callV (C := y_Letters_writeNumber.cls) (d2 := d - 1) [.int r9] d_Letters_writeFactors_52 mi_Letters_writeNumber wd_828 wd_830 ws_Letters_writeNumber (by decide) (el_Letters (show ay_sh 28 = _ from rfl)) rfl rfl (by omega) rfl rfl (Nat.le_of_ble_eq_true rfl) ?_
      refine Call.post ?_ (cf_Letters_writeNumber_ok (by omega) r9  w8 _ h)
      rintro _ w10 ⟨rfl, h⟩
      show wp g (fun _ => True) y_Letters_writeFactors prog_5_method_6_code 3 none d 55 [(0, .ref (g.1 + 28)), (1, .ref (g.1 + c0)), (2, .int x2)] [] w10 Q
      obtain ⟨v11, ev11⟩ : ∃ z : Int32, z = x2 + (1 : Int32) := ⟨_, rfl⟩
      have h := h v11 ev11
      refine am_iinc (v := v11) (l' := [(2, .int v11), (0, .ref (g.1 + 28)), (1, .ref (g.1 + c0))]) d_Letters_writeFactors_55 2 rfl (by rw [ev11]; rfl) (by decide) rfl ?_
      refine am_goto (tgt := 2) d_Letters_writeFactors_58 (by decide) ?_
      refine am_sub [1, 2, 0] rfl ?_
      exact hK2 v11 w10 h
theorem cf_Letters_writeFactors_L2_ok {g : ayG} {d : Nat} (hd : 4 ≤ d) (c0 : Nat) (hc0 : ay_sh c0 = (14, 0))  (P : Wd → Prop) (Q : Option Value → Wd → Prop) (hQ : ∀ w2, P w2 → Q none w2)  : ∀ (n : Nat) (x2 : Int32) (w : Wd) (h : cf_Letters_writeFactors_L2 c0 P n x2 w), wp g (fun _ => True) y_Letters_writeFactors prog_5_method_6_code 3 none d 2 [(0, .ref (g.1 + 28)), (1, .ref (g.1 + c0)), (2, .int x2)] [] w Q
  | 0, x2, w, h => False.elim h
  | n + 1, x2, w, h => cf_Letters_writeFactors_B2_ok hd c0 hc0 w (cf_Letters_writeFactors_L2 c0 P n) P Q hQ (fun x2 w h => cf_Letters_writeFactors_L2_ok hd c0 hc0  P Q hQ  n x2 w h) x2 h
theorem cf_Letters_writeFactors_ok {g : ayG} {d : Nat} (hd : 4 ≤ d) (c0 : Nat) (hc0 : ay_sh c0 = (14, 0)) (w : Wd) (P : Wd → Prop) (h : cf_Letters_writeFactors c0 w P) : Call g y_Letters_writeFactors prog_5_method_6_code 3 none d [.ref (g.1 + 28), .ref (g.1 + c0)] w (fun (r : Option Value) (w2 : Wd) => r = none ∧ P w2) := by
  unfold cf_Letters_writeFactors at h
  refine am_enter mi_Letters_writeFactors (Nat.le_of_ble_eq_true rfl) ?_
  have hQ : ∀ w2, P w2 → (fun (r : Option Value) (w2 : Wd) => r = none ∧ P w2) none w2 := fun w2 h => ⟨rfl, h⟩
  generalize (fun (r : Option Value) (w2 : Wd) => r = none ∧ P w2) = Q at hQ ⊢
  show wp g (fun _ => True) y_Letters_writeFactors prog_5_method_6_code 3 none d 0 [(0, .ref (g.1 + 28)), (1, .ref (g.1 + c0))] [] w Q
  refine am_iconst (v := 0) d_Letters_writeFactors_0 rfl ?_
  refine am_istore_n (l' := [(2, .int (0 : Int32)), (0, .ref (g.1 + 28)), (1, .ref (g.1 + c0))]) d_Letters_writeFactors_1 (by decide) rfl ?_
  refine am_sub [1, 2, 0] rfl ?_
  obtain ⟨n, h⟩ := h
  exact cf_Letters_writeFactors_L2_ok (by omega) c0 hc0  P Q hQ  n (0 : Int32) w h
