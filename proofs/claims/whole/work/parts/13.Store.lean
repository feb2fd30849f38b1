-- bytecode as predicates, by program (wip/whole/gen/extract.py)
theorem mi_Store_isPlace : ay_MI y_Store_isPlace prog_11_method_2_code 1 (some FieldType.boolean) 1 := ⟨wd_264, wd_4, by decide +kernel, by decide +kernel, by decide⟩
theorem mi_Store_isShelf : ay_MI y_Store_isShelf prog_11_method_3_code 1 (some FieldType.boolean) 1 := ⟨wd_624, wd_4, by decide +kernel, by decide +kernel, by decide⟩
theorem mi_Store_polyAt : ay_MI y_Store_polyAt prog_11_method_4_code 2 (some FieldType.long) 1 := ⟨wd_261, wd_4, by decide +kernel, by decide +kernel, by decide⟩
theorem mi_Store_write : ay_MI y_Store_write prog_11_method_5_code 4 none 2 := ⟨wd_436, wd_4, by decide +kernel, by decide +kernel, by decide⟩
theorem mi_Store_hasRegister : ay_MI y_Store_hasRegister prog_11_method_6_code 1 (some FieldType.boolean) 0 := ⟨wd_564, wd_4, by decide +kernel, by decide +kernel, by decide⟩
theorem mi_Store_rule : ay_MI y_Store_rule prog_11_method_7_code 1 (some FieldType.long) 0 := ⟨wd_573, wd_4, by decide +kernel, by decide +kernel, by decide⟩
theorem mi_Store_state : ay_MI y_Store_state prog_11_method_8_code 1 (some FieldType.long) 0 := ⟨wd_569, wd_4, by decide +kernel, by decide +kernel, by decide⟩
theorem mi_Store_gone : ay_MI y_Store_gone prog_11_method_9_code 1 (some FieldType.long) 0 := ⟨wd_919, wd_4, by decide +kernel, by decide +kernel, by decide⟩
theorem mi_Store_tellRegister : ay_MI y_Store_tellRegister prog_11_method_10_code 5 none 2 := ⟨wd_555, wd_4, by decide +kernel, by decide +kernel, by decide⟩
theorem mi_Store_stepRegister : ay_MI y_Store_stepRegister prog_11_method_11_code 4 none 2 := ⟨wd_590, wd_4, by decide +kernel, by decide +kernel, by decide⟩
theorem mi_Store_undoable : ay_MI y_Store_undoable prog_11_method_12_code 1 (some FieldType.int) 0 := ⟨wd_613, wd_4, by decide +kernel, by decide +kernel, by decide⟩
theorem mi_Store_keptShelves : ay_MI y_Store_keptShelves prog_11_method_13_code 1 (some FieldType.int) 0 := ⟨wd_1059, wd_4, by decide +kernel, by decide +kernel, by decide⟩
theorem mi_Store_copyRow : ay_MI y_Store_copyRow prog_11_method_21_code 6 none 4 := ⟨wd_424, wd_4, by decide +kernel, by decide +kernel, by decide⟩
theorem mi_Store_remember : ay_MI y_Store_remember prog_11_method_14_code 1 none 0 := ⟨wd_421, wd_4, by decide +kernel, by decide +kernel, by decide⟩
theorem mi_Store_goBack : ay_MI y_Store_goBack prog_11_method_15_code 1 (some FieldType.boolean) 0 := ⟨wd_609, wd_4, by decide +kernel, by decide +kernel, by decide⟩
theorem mi_Store_keepOn : ay_MI y_Store_keepOn prog_11_method_16_code 2 (some FieldType.boolean) 1 := ⟨wd_621, wd_4, by decide +kernel, by decide +kernel, by decide⟩
theorem mi_Store_takeFrom : ay_MI y_Store_takeFrom prog_11_method_17_code 2 (some FieldType.boolean) 1 := ⟨wd_633, wd_4, by decide +kernel, by decide +kernel, by decide⟩
theorem mi_Store_nonzeroPlaces : ay_MI y_Store_nonzeroPlaces prog_11_method_18_code 3 (some FieldType.int) 0 := ⟨wd_1054, wd_4, by decide +kernel, by decide +kernel, by decide⟩
theorem mi_Store_irreduciblePlaces : ay_MI y_Store_irreduciblePlaces prog_11_method_19_code 3 (some FieldType.int) 0 := ⟨wd_1063, wd_4, by decide +kernel, by decide +kernel, by decide⟩
theorem mi_Store_allWeights : ay_MI y_Store_allWeights prog_11_method_20_code 3 (some FieldType.int) 0 := ⟨wd_1068, wd_4, by decide +kernel, by decide +kernel, by decide⟩
theorem d_Store_isPlace_0 : decode prog_11_method_2_code 0 = .ok (.iload_n 0, 1) := by decide +kernel
theorem d_Store_isPlace_1 : decode prog_11_method_2_code 1 = .ok (.ifCond .lt 13, 3) := by decide +kernel
theorem d_Store_isPlace_4 : decode prog_11_method_2_code 4 = .ok (.iload_n 0, 1) := by decide +kernel
theorem d_Store_isPlace_5 : decode prog_11_method_2_code 5 = .ok (.bipush 10, 2) := by decide +kernel
theorem d_Store_isPlace_7 : decode prog_11_method_2_code 7 = .ok (.if_icmp .ge 7, 3) := by decide +kernel
theorem d_Store_isPlace_10 : decode prog_11_method_2_code 10 = .ok (.iconst 1, 1) := by decide +kernel
theorem d_Store_isPlace_11 : decode prog_11_method_2_code 11 = .ok (.goto 4, 3) := by decide +kernel
theorem d_Store_isPlace_14 : decode prog_11_method_2_code 14 = .ok (.iconst 0, 1) := by decide +kernel
theorem d_Store_isPlace_15 : decode prog_11_method_2_code 15 = .ok (.ireturn, 1) := by decide +kernel
def cf_Store_isPlace (a0 : Int32) (P : Int32 → Prop) : Prop :=
  ((a0 < 0 → P (0 : Int32)) ∧ (¬ a0 < 0 → (((10 : Int32) ≤ a0 → P (0 : Int32)) ∧ (¬ (10 : Int32) ≤ a0 → P (1 : Int32)))))
theorem cf_Store_isPlace_ok {g : ayG} {d : Nat} (hd : 0 ≤ d) (a0 : Int32)  (w : Wd) (P : Int32 → Prop) (h : cf_Store_isPlace a0 P) : Call g y_Store_isPlace prog_11_method_2_code 1 (some FieldType.boolean) d [.int a0] w (fun (r : Option Value) (w2 : Wd) => ∃ x, r = some (.int x) ∧ w = w2 ∧ P x) := by
  unfold cf_Store_isPlace at h
  refine am_enter mi_Store_isPlace (Nat.le_of_ble_eq_true rfl) ?_
  have hQ : ∀ x, P x → (fun (r : Option Value) (w2 : Wd) => ∃ x, r = some (.int x) ∧ w = w2 ∧ P x) (some (.int x)) w := fun x h => ⟨x, rfl, rfl, h⟩
  generalize (fun (r : Option Value) (w2 : Wd) => ∃ x, r = some (.int x) ∧ w = w2 ∧ P x) = Q at hQ ⊢
  show wp g (fun _ => True) y_Store_isPlace prog_11_method_2_code 1 (some FieldType.boolean) d 0 [(0, .int a0)] [] w Q
  refine am_iload_n d_Store_isPlace_0 0 rfl ?_
  refine am_if_lt (tgt := 14) d_Store_isPlace_1 (by decide) (fun c1 => ?_) (fun c1 => ?_)
  · have h := h.1 c1
    refine am_iconst (v := 0) d_Store_isPlace_14 rfl ?_
    exact am_ireturn d_Store_isPlace_15 rfl rfl (hQ (0 : Int32) h)
  · have h := h.2 c1
    refine am_iload_n d_Store_isPlace_4 0 rfl ?_
    refine am_bipush (v := 10) d_Store_isPlace_5 rfl ?_
    refine am_icmp_ge (tgt := 14) d_Store_isPlace_7 (by decide) (fun c7 => ?_) (fun c7 => ?_)
    · have h := h.1 c7
      refine am_iconst (v := 0) d_Store_isPlace_14 rfl ?_
      exact am_ireturn d_Store_isPlace_15 rfl rfl (hQ (0 : Int32) h)
    · have h := h.2 c7
      refine am_iconst (v := 1) d_Store_isPlace_10 rfl ?_
      refine am_goto (tgt := 15) d_Store_isPlace_11 (by decide) ?_
      exact am_ireturn d_Store_isPlace_15 rfl rfl (hQ (1 : Int32) h)
theorem d_Store_isShelf_0 : decode prog_11_method_3_code 0 = .ok (.iload_n 0, 1) := by decide +kernel
theorem d_Store_isShelf_1 : decode prog_11_method_3_code 1 = .ok (.ifCond .lt 12, 3) := by decide +kernel
theorem d_Store_isShelf_4 : decode prog_11_method_3_code 4 = .ok (.iload_n 0, 1) := by decide +kernel
theorem d_Store_isShelf_5 : decode prog_11_method_3_code 5 = .ok (.iconst 2, 1) := by decide +kernel
theorem d_Store_isShelf_6 : decode prog_11_method_3_code 6 = .ok (.if_icmp .ge 7, 3) := by decide +kernel
theorem d_Store_isShelf_9 : decode prog_11_method_3_code 9 = .ok (.iconst 1, 1) := by decide +kernel
theorem d_Store_isShelf_10 : decode prog_11_method_3_code 10 = .ok (.goto 4, 3) := by decide +kernel
theorem d_Store_isShelf_13 : decode prog_11_method_3_code 13 = .ok (.iconst 0, 1) := by decide +kernel
theorem d_Store_isShelf_14 : decode prog_11_method_3_code 14 = .ok (.ireturn, 1) := by decide +kernel
def cf_Store_isShelf (a0 : Int32) (P : Int32 → Prop) : Prop :=
  ((a0 < 0 → P (0 : Int32)) ∧ (¬ a0 < 0 → (((2 : Int32) ≤ a0 → P (0 : Int32)) ∧ (¬ (2 : Int32) ≤ a0 → P (1 : Int32)))))
theorem cf_Store_isShelf_ok {g : ayG} {d : Nat} (hd : 0 ≤ d) (a0 : Int32)  (w : Wd) (P : Int32 → Prop) (h : cf_Store_isShelf a0 P) : Call g y_Store_isShelf prog_11_method_3_code 1 (some FieldType.boolean) d [.int a0] w (fun (r : Option Value) (w2 : Wd) => ∃ x, r = some (.int x) ∧ w = w2 ∧ P x) := by
  unfold cf_Store_isShelf at h
  refine am_enter mi_Store_isShelf (Nat.le_of_ble_eq_true rfl) ?_
  have hQ : ∀ x, P x → (fun (r : Option Value) (w2 : Wd) => ∃ x, r = some (.int x) ∧ w = w2 ∧ P x) (some (.int x)) w := fun x h => ⟨x, rfl, rfl, h⟩
  generalize (fun (r : Option Value) (w2 : Wd) => ∃ x, r = some (.int x) ∧ w = w2 ∧ P x) = Q at hQ ⊢
  show wp g (fun _ => True) y_Store_isShelf prog_11_method_3_code 1 (some FieldType.boolean) d 0 [(0, .int a0)] [] w Q
  refine am_iload_n d_Store_isShelf_0 0 rfl ?_
  refine am_if_lt (tgt := 13) d_Store_isShelf_1 (by decide) (fun c1 => ?_) (fun c1 => ?_)
  · have h := h.1 c1
    refine am_iconst (v := 0) d_Store_isShelf_13 rfl ?_
    exact am_ireturn d_Store_isShelf_14 rfl rfl (hQ (0 : Int32) h)
  · have h := h.2 c1
    refine am_iload_n d_Store_isShelf_4 0 rfl ?_
    refine am_iconst (v := 2) d_Store_isShelf_5 rfl ?_
    refine am_icmp_ge (tgt := 13) d_Store_isShelf_6 (by decide) (fun c6 => ?_) (fun c6 => ?_)
    · have h := h.1 c6
      refine am_iconst (v := 0) d_Store_isShelf_13 rfl ?_
      exact am_ireturn d_Store_isShelf_14 rfl rfl (hQ (0 : Int32) h)
    · have h := h.2 c6
      refine am_iconst (v := 1) d_Store_isShelf_9 rfl ?_
      refine am_goto (tgt := 14) d_Store_isShelf_10 (by decide) ?_
      exact am_ireturn d_Store_isShelf_14 rfl rfl (hQ (1 : Int32) h)
theorem d_Store_polyAt_0 : decode prog_11_method_4_code 0 = .ok (.iload_n 1, 1) := by decide +kernel
theorem d_Store_polyAt_1 : decode prog_11_method_4_code 1 = .ok (.invokestatic 19, 3) := by decide +kernel
theorem d_Store_polyAt_4 : decode prog_11_method_4_code 4 = .ok (.ifCond .eq 21, 3) := by decide +kernel
theorem d_Store_polyAt_7 : decode prog_11_method_4_code 7 = .ok (.iload_n 1, 1) := by decide +kernel
theorem d_Store_polyAt_8 : decode prog_11_method_4_code 8 = .ok (.aload_n 0, 1) := by decide +kernel
theorem d_Store_polyAt_9 : decode prog_11_method_4_code 9 = .ok (.getfield 9, 3) := by decide +kernel
theorem d_Store_polyAt_12 : decode prog_11_method_4_code 12 = .ok (.arraylength, 1) := by decide +kernel
theorem d_Store_polyAt_13 : decode prog_11_method_4_code 13 = .ok (.if_icmp .ge 12, 3) := by decide +kernel
theorem d_Store_polyAt_16 : decode prog_11_method_4_code 16 = .ok (.aload_n 0, 1) := by decide +kernel
theorem d_Store_polyAt_17 : decode prog_11_method_4_code 17 = .ok (.getfield 9, 3) := by decide +kernel
theorem d_Store_polyAt_20 : decode prog_11_method_4_code 20 = .ok (.iload_n 1, 1) := by decide +kernel
theorem d_Store_polyAt_21 : decode prog_11_method_4_code 21 = .ok (.laload, 1) := by decide +kernel
theorem d_Store_polyAt_22 : decode prog_11_method_4_code 22 = .ok (.goto 4, 3) := by decide +kernel
theorem d_Store_polyAt_25 : decode prog_11_method_4_code 25 = .ok (.lconst 0, 1) := by decide +kernel
theorem d_Store_polyAt_26 : decode prog_11_method_4_code 26 = .ok (.lreturn, 1) := by decide +kernel
def cf_Store_polyAt (a0 : Int32) (w : Wd) (P : Int64 → Prop) : Prop :=
  cf_Store_isPlace a0 (fun r1 => ((r1 = 0 → P (0 : Int64)) ∧ (¬ r1 = 0 → (((13 : Int32) ≤ a0 → P (0 : Int64)) ∧ (¬ (13 : Int32) ≤ a0 → vp_in a0 13 ∧ P (w.2 7 a0.toNatClampNeg))))))
theorem cf_Store_polyAt_ok {g : ayG} {d : Nat} (hd : 1 ≤ d) (a0 : Int32)  (w : Wd) (P : Int64 → Prop) (h : cf_Store_polyAt a0 w P) : Call g y_Store_polyAt prog_11_method_4_code 2 (some FieldType.long) d [.ref (g.1 + 6), .int a0] w (fun (r : Option Value) (w2 : Wd) => ∃ x, r = some (.long x) ∧ w = w2 ∧ P x) := by
  unfold cf_Store_polyAt at h
  refine am_enter mi_Store_polyAt (Nat.le_of_ble_eq_true rfl) ?_
  have hQ : ∀ x, P x → (fun (r : Option Value) (w2 : Wd) => ∃ x, r = some (.long x) ∧ w = w2 ∧ P x) (some (.long x)) w := fun x h => ⟨x, rfl, rfl, h⟩
  generalize (fun (r : Option Value) (w2 : Wd) => ∃ x, r = some (.long x) ∧ w = w2 ∧ P x) = Q at hQ ⊢
  show wp g (fun _ => True) y_Store_polyAt prog_11_method_4_code 2 (some FieldType.long) d 0 [(0, .ref (g.1 + 6)), (1, .int a0)] [] w Q
  refine am_iload_n d_Store_polyAt_0 1 rfl ?_
  refine am_callS (d2 := d - 1) [.int a0] d_Store_polyAt_1 mi_Store_isPlace wd_262 wd_263 (by omega) rfl rfl (Nat.le_of_ble_eq_true rfl) ?_
  refine Call.post ?_ (cf_Store_isPlace_ok (by omega) a0  w _ h)
  rintro _ _ ⟨r1, rfl, rfl, h⟩
  show wp g (fun _ => True) y_Store_polyAt prog_11_method_4_code 2 (some FieldType.long) d 4 [(0, .ref (g.1 + 6)), (1, .int a0)] [.int r1] w Q
  refine am_if_eq (tgt := 25) d_Store_polyAt_4 (by decide) (fun c4 => ?_) (fun c4 => ?_)
  · have h := h.1 c4
    refine am_lconst (v := 0) d_Store_polyAt_25 rfl ?_
    exact am_lreturn d_Store_polyAt_26 rfl (hQ (0 : Int64) h)
  · have h := h.2 c4
    refine am_iload_n d_Store_polyAt_7 1 rfl ?_
    refine am_aload_n d_Store_polyAt_8 0 rfl ?_
    refine am_getf (T := F_Store) (fs := ob_Store g w 6) (C := R_Store) (N := 6) (ci := 3) 0 d_Store_polyAt_9 wd_83 rfl (by decide) (el_Store (show ay_sh 6 = _ from rfl)) rfl i_Store (by decide) rfl ?_
    refine am_alen (v := 13) d_Store_polyAt_12 (show ay_sh 7 = _ from rfl) (by decide) rfl ?_
    refine am_icmp_ge (tgt := 25) d_Store_polyAt_13 (by decide) (fun c13 => ?_) (fun c13 => ?_)
    · have h := h.1 c13
      refine am_lconst (v := 0) d_Store_polyAt_25 rfl ?_
      exact am_lreturn d_Store_polyAt_26 rfl (hQ (0 : Int64) h)
    · have h := h.2 c13
      refine am_aload_n d_Store_polyAt_16 0 rfl ?_
      refine am_getf (T := F_Store) (fs := ob_Store g w 6) (C := R_Store) (N := 6) (ci := 3) 0 d_Store_polyAt_17 wd_83 rfl (by decide) (el_Store (show ay_sh 6 = _ from rfl)) rfl i_Store (by decide) rfl ?_
      refine am_iload_n d_Store_polyAt_20 1 rfl ?_
      have hi21 := h.1
      have h := h.2
      refine am_laload d_Store_polyAt_21 (show ay_sh 7 = _ from rfl) hi21 ?_
      refine am_goto (tgt := 26) d_Store_polyAt_22 (by decide) ?_
      exact am_lreturn d_Store_polyAt_26 rfl (hQ (w.2 7 a0.toNatClampNeg) h)
theorem d_Store_write_0 : decode prog_11_method_5_code 0 = .ok (.iload_n 1, 1) := by decide +kernel
theorem d_Store_write_1 : decode prog_11_method_5_code 1 = .ok (.invokestatic 19, 3) := by decide +kernel
theorem d_Store_write_4 : decode prog_11_method_5_code 4 = .ok (.ifCond .eq 19, 3) := by decide +kernel
theorem d_Store_write_7 : decode prog_11_method_5_code 7 = .ok (.iload_n 1, 1) := by decide +kernel
theorem d_Store_write_8 : decode prog_11_method_5_code 8 = .ok (.aload_n 0, 1) := by decide +kernel
theorem d_Store_write_9 : decode prog_11_method_5_code 9 = .ok (.getfield 9, 3) := by decide +kernel
theorem d_Store_write_12 : decode prog_11_method_5_code 12 = .ok (.arraylength, 1) := by decide +kernel
theorem d_Store_write_13 : decode prog_11_method_5_code 13 = .ok (.if_icmp .ge 10, 3) := by decide +kernel
theorem d_Store_write_16 : decode prog_11_method_5_code 16 = .ok (.aload_n 0, 1) := by decide +kernel
theorem d_Store_write_17 : decode prog_11_method_5_code 17 = .ok (.getfield 9, 3) := by decide +kernel
theorem d_Store_write_20 : decode prog_11_method_5_code 20 = .ok (.iload_n 1, 1) := by decide +kernel
theorem d_Store_write_21 : decode prog_11_method_5_code 21 = .ok (.lload_n 2, 1) := by decide +kernel
theorem d_Store_write_22 : decode prog_11_method_5_code 22 = .ok (.lastore, 1) := by decide +kernel
theorem d_Store_write_23 : decode prog_11_method_5_code 23 = .ok (.return_, 1) := by decide +kernel
def cf_Store_write (a0 : Int32) (a1 : Int64) (w : Wd) (P : Wd → Prop) : Prop :=
  cf_Store_isPlace a0 (fun r1 => ((r1 = 0 → P w) ∧ (¬ r1 = 0 → (((13 : Int32) ≤ a0 → P w) ∧ (¬ (13 : Int32) ≤ a0 → vp_in a0 13 ∧ ∀ w2, w2 = wL w 7 a0.toNatClampNeg a1 → P w2)))))
theorem cf_Store_write_ok {g : ayG} {d : Nat} (hd : 1 ≤ d) (a0 : Int32) (a1 : Int64)  (w : Wd) (P : Wd → Prop) (h : cf_Store_write a0 a1 w P) : Call g y_Store_write prog_11_method_5_code 4 none d [.ref (g.1 + 6), .int a0, .long a1] w (fun (r : Option Value) (w2 : Wd) => r = none ∧ P w2) := by
  unfold cf_Store_write at h
  refine am_enter mi_Store_write (Nat.le_of_ble_eq_true rfl) ?_
  have hQ : ∀ w2, P w2 → (fun (r : Option Value) (w2 : Wd) => r = none ∧ P w2) none w2 := fun w2 h => ⟨rfl, h⟩
  generalize (fun (r : Option Value) (w2 : Wd) => r = none ∧ P w2) = Q at hQ ⊢
  show wp g (fun _ => True) y_Store_write prog_11_method_5_code 4 none d 0 [(0, .ref (g.1 + 6)), (1, .int a0), (2, .long a1)] [] w Q
  refine am_iload_n d_Store_write_0 1 rfl ?_
  refine am_callS (d2 := d - 1) [.int a0] d_Store_write_1 mi_Store_isPlace wd_262 wd_263 (by omega) rfl rfl (Nat.le_of_ble_eq_true rfl) ?_
  refine Call.post ?_ (cf_Store_isPlace_ok (by omega) a0  w _ h)
  rintro _ _ ⟨r1, rfl, rfl, h⟩
  show wp g (fun _ => True) y_Store_write prog_11_method_5_code 4 none d 4 [(0, .ref (g.1 + 6)), (1, .int a0), (2, .long a1)] [.int r1] w Q
  refine am_if_eq (tgt := 23) d_Store_write_4 (by decide) (fun c4 => ?_) (fun c4 => ?_)
  · have h := h.1 c4
    exact am_return d_Store_write_23 rfl (hQ w h)
  · have h := h.2 c4
    refine am_iload_n d_Store_write_7 1 rfl ?_
    refine am_aload_n d_Store_write_8 0 rfl ?_
    refine am_getf (T := F_Store) (fs := ob_Store g w 6) (C := R_Store) (N := 6) (ci := 3) 0 d_Store_write_9 wd_83 rfl (by decide) (el_Store (show ay_sh 6 = _ from rfl)) rfl i_Store (by decide) rfl ?_
    refine am_alen (v := 13) d_Store_write_12 (show ay_sh 7 = _ from rfl) (by decide) rfl ?_
    refine am_icmp_ge (tgt := 23) d_Store_write_13 (by decide) (fun c13 => ?_) (fun c13 => ?_)
    · have h := h.1 c13
      exact am_return d_Store_write_23 rfl (hQ w h)
    · have h := h.2 c13
      refine am_aload_n d_Store_write_16 0 rfl ?_
      refine am_getf (T := F_Store) (fs := ob_Store g w 6) (C := R_Store) (N := 6) (ci := 3) 0 d_Store_write_17 wd_83 rfl (by decide) (el_Store (show ay_sh 6 = _ from rfl)) rfl i_Store (by decide) rfl ?_
      refine am_iload_n d_Store_write_20 1 rfl ?_
      refine am_lload_n d_Store_write_21 2 rfl ?_
      have hi22 := h.1
      have h := h.2
      refine am_lastore d_Store_write_22 (show ay_sh 7 = _ from rfl) hi22 ?_
      obtain ⟨w2, ew2⟩ : ∃ z, z = wL w 7 a0.toNatClampNeg a1 := ⟨_, rfl⟩
      rw [← ew2]
      have h := h w2 ew2
      exact am_return d_Store_write_23 rfl (hQ w2 h)
theorem d_Store_hasRegister_0 : decode prog_11_method_6_code 0 = .ok (.aload_n 0, 1) := by decide +kernel
theorem d_Store_hasRegister_1 : decode prog_11_method_6_code 1 = .ok (.getfield 9, 3) := by decide +kernel
theorem d_Store_hasRegister_4 : decode prog_11_method_6_code 4 = .ok (.bipush 10, 2) := by decide +kernel
theorem d_Store_hasRegister_6 : decode prog_11_method_6_code 6 = .ok (.laload, 1) := by decide +kernel
theorem d_Store_hasRegister_7 : decode prog_11_method_6_code 7 = .ok (.lconst 0, 1) := by decide +kernel
theorem d_Store_hasRegister_8 : decode prog_11_method_6_code 8 = .ok (.lcmp, 1) := by decide +kernel
theorem d_Store_hasRegister_9 : decode prog_11_method_6_code 9 = .ok (.ifCond .eq 7, 3) := by decide +kernel
theorem d_Store_hasRegister_12 : decode prog_11_method_6_code 12 = .ok (.iconst 1, 1) := by decide +kernel
theorem d_Store_hasRegister_13 : decode prog_11_method_6_code 13 = .ok (.goto 4, 3) := by decide +kernel
theorem d_Store_hasRegister_16 : decode prog_11_method_6_code 16 = .ok (.iconst 0, 1) := by decide +kernel
theorem d_Store_hasRegister_17 : decode prog_11_method_6_code 17 = .ok (.ireturn, 1) := by decide +kernel
def cf_Store_hasRegister  (w : Wd) (P : Int32 → Prop) : Prop :=
  vp_in (10 : Int32) 13 ∧ (((w.2 7 (10 : Int32).toNatClampNeg) = (0 : Int64) → P (0 : Int32)) ∧ (¬ (w.2 7 (10 : Int32).toNatClampNeg) = (0 : Int64) → P (1 : Int32)))
theorem cf_Store_hasRegister_ok {g : ayG} {d : Nat} (hd : 0 ≤ d)   (w : Wd) (P : Int32 → Prop) (h : cf_Store_hasRegister w P) : Call g y_Store_hasRegister prog_11_method_6_code 1 (some FieldType.boolean) d [.ref (g.1 + 6)] w (fun (r : Option Value) (w2 : Wd) => ∃ x, r = some (.int x) ∧ w = w2 ∧ P x) := by
  unfold cf_Store_hasRegister at h
  refine am_enter mi_Store_hasRegister (Nat.le_of_ble_eq_true rfl) ?_
  have hQ : ∀ x, P x → (fun (r : Option Value) (w2 : Wd) => ∃ x, r = some (.int x) ∧ w = w2 ∧ P x) (some (.int x)) w := fun x h => ⟨x, rfl, rfl, h⟩
  generalize (fun (r : Option Value) (w2 : Wd) => ∃ x, r = some (.int x) ∧ w = w2 ∧ P x) = Q at hQ ⊢
  show wp g (fun _ => True) y_Store_hasRegister prog_11_method_6_code 1 (some FieldType.boolean) d 0 [(0, .ref (g.1 + 6))] [] w Q
  refine am_aload_n d_Store_hasRegister_0 0 rfl ?_
  refine am_getf (T := F_Store) (fs := ob_Store g w 6) (C := R_Store) (N := 6) (ci := 3) 0 d_Store_hasRegister_1 wd_83 rfl (by decide) (el_Store (show ay_sh 6 = _ from rfl)) rfl i_Store (by decide) rfl ?_
  refine am_bipush (v := 10) d_Store_hasRegister_4 rfl ?_
  have hi6 := h.1
  have h := h.2
  refine am_laload d_Store_hasRegister_6 (show ay_sh 7 = _ from rfl) hi6 ?_
  refine am_lconst (v := 0) d_Store_hasRegister_7 rfl ?_
  refine am_lif_eq (tgt := 16) d_Store_hasRegister_8 d_Store_hasRegister_9 (by decide) (fun c8 => ?_) (fun c8 => ?_)
  · have h := h.1 c8
    refine am_iconst (v := 0) d_Store_hasRegister_16 rfl ?_
    exact am_ireturn d_Store_hasRegister_17 rfl rfl (hQ (0 : Int32) h)
  · have h := h.2 c8
    refine am_iconst (v := 1) d_Store_hasRegister_12 rfl ?_
    refine am_goto (tgt := 17) d_Store_hasRegister_13 (by decide) ?_
    exact am_ireturn d_Store_hasRegister_17 rfl rfl (hQ (1 : Int32) h)
theorem d_Store_rule_0 : decode prog_11_method_7_code 0 = .ok (.aload_n 0, 1) := by decide +kernel
theorem d_Store_rule_1 : decode prog_11_method_7_code 1 = .ok (.getfield 9, 3) := by decide +kernel
theorem d_Store_rule_4 : decode prog_11_method_7_code 4 = .ok (.bipush 10, 2) := by decide +kernel
theorem d_Store_rule_6 : decode prog_11_method_7_code 6 = .ok (.laload, 1) := by decide +kernel
theorem d_Store_rule_7 : decode prog_11_method_7_code 7 = .ok (.lreturn, 1) := by decide +kernel
def cf_Store_rule  (w : Wd) (P : Int64 → Prop) : Prop :=
  vp_in (10 : Int32) 13 ∧ P (w.2 7 (10 : Int32).toNatClampNeg)
theorem cf_Store_rule_ok {g : ayG} {d : Nat} (hd : 0 ≤ d)   (w : Wd) (P : Int64 → Prop) (h : cf_Store_rule w P) : Call g y_Store_rule prog_11_method_7_code 1 (some FieldType.long) d [.ref (g.1 + 6)] w (fun (r : Option Value) (w2 : Wd) => ∃ x, r = some (.long x) ∧ w = w2 ∧ P x) := by
  unfold cf_Store_rule at h
  refine am_enter mi_Store_rule (Nat.le_of_ble_eq_true rfl) ?_
  have hQ : ∀ x, P x → (fun (r : Option Value) (w2 : Wd) => ∃ x, r = some (.long x) ∧ w = w2 ∧ P x) (some (.long x)) w := fun x h => ⟨x, rfl, rfl, h⟩
  generalize (fun (r : Option Value) (w2 : Wd) => ∃ x, r = some (.long x) ∧ w = w2 ∧ P x) = Q at hQ ⊢
  show wp g (fun _ => True) y_Store_rule prog_11_method_7_code 1 (some FieldType.long) d 0 [(0, .ref (g.1 + 6))] [] w Q
  refine am_aload_n d_Store_rule_0 0 rfl ?_
  refine am_getf (T := F_Store) (fs := ob_Store g w 6) (C := R_Store) (N := 6) (ci := 3) 0 d_Store_rule_1 wd_83 rfl (by decide) (el_Store (show ay_sh 6 = _ from rfl)) rfl i_Store (by decide) rfl ?_
  refine am_bipush (v := 10) d_Store_rule_4 rfl ?_
  have hi6 := h.1
  have h := h.2
  refine am_laload d_Store_rule_6 (show ay_sh 7 = _ from rfl) hi6 ?_
  exact am_lreturn d_Store_rule_7 rfl (hQ (w.2 7 (10 : Int32).toNatClampNeg) h)
theorem d_Store_state_0 : decode prog_11_method_8_code 0 = .ok (.aload_n 0, 1) := by decide +kernel
theorem d_Store_state_1 : decode prog_11_method_8_code 1 = .ok (.getfield 9, 3) := by decide +kernel
theorem d_Store_state_4 : decode prog_11_method_8_code 4 = .ok (.bipush 11, 2) := by decide +kernel
theorem d_Store_state_6 : decode prog_11_method_8_code 6 = .ok (.laload, 1) := by decide +kernel
theorem d_Store_state_7 : decode prog_11_method_8_code 7 = .ok (.lreturn, 1) := by decide +kernel
def cf_Store_state  (w : Wd) (P : Int64 → Prop) : Prop :=
  vp_in (11 : Int32) 13 ∧ P (w.2 7 (11 : Int32).toNatClampNeg)
theorem cf_Store_state_ok {g : ayG} {d : Nat} (hd : 0 ≤ d)   (w : Wd) (P : Int64 → Prop) (h : cf_Store_state w P) : Call g y_Store_state prog_11_method_8_code 1 (some FieldType.long) d [.ref (g.1 + 6)] w (fun (r : Option Value) (w2 : Wd) => ∃ x, r = some (.long x) ∧ w = w2 ∧ P x) := by
  unfold cf_Store_state at h
  refine am_enter mi_Store_state (Nat.le_of_ble_eq_true rfl) ?_
  have hQ : ∀ x, P x → (fun (r : Option Value) (w2 : Wd) => ∃ x, r = some (.long x) ∧ w = w2 ∧ P x) (some (.long x)) w := fun x h => ⟨x, rfl, rfl, h⟩
  generalize (fun (r : Option Value) (w2 : Wd) => ∃ x, r = some (.long x) ∧ w = w2 ∧ P x) = Q at hQ ⊢
  show wp g (fun _ => True) y_Store_state prog_11_method_8_code 1 (some FieldType.long) d 0 [(0, .ref (g.1 + 6))] [] w Q
  refine am_aload_n d_Store_state_0 0 rfl ?_
  refine am_getf (T := F_Store) (fs := ob_Store g w 6) (C := R_Store) (N := 6) (ci := 3) 0 d_Store_state_1 wd_83 rfl (by decide) (el_Store (show ay_sh 6 = _ from rfl)) rfl i_Store (by decide) rfl ?_
  refine am_bipush (v := 11) d_Store_state_4 rfl ?_
  have hi6 := h.1
  have h := h.2
  refine am_laload d_Store_state_6 (show ay_sh 7 = _ from rfl) hi6 ?_
  exact am_lreturn d_Store_state_7 rfl (hQ (w.2 7 (11 : Int32).toNatClampNeg) h)
theorem d_Store_gone_0 : decode prog_11_method_9_code 0 = .ok (.aload_n 0, 1) := by decide +kernel
theorem d_Store_gone_1 : decode prog_11_method_9_code 1 = .ok (.getfield 9, 3) := by decide +kernel
theorem d_Store_gone_4 : decode prog_11_method_9_code 4 = .ok (.bipush 12, 2) := by decide +kernel
theorem d_Store_gone_6 : decode prog_11_method_9_code 6 = .ok (.laload, 1) := by decide +kernel
theorem d_Store_gone_7 : decode prog_11_method_9_code 7 = .ok (.lreturn, 1) := by decide +kernel
def cf_Store_gone  (w : Wd) (P : Int64 → Prop) : Prop :=
  vp_in (12 : Int32) 13 ∧ P (w.2 7 (12 : Int32).toNatClampNeg)
theorem cf_Store_gone_ok {g : ayG} {d : Nat} (hd : 0 ≤ d)   (w : Wd) (P : Int64 → Prop) (h : cf_Store_gone w P) : Call g y_Store_gone prog_11_method_9_code 1 (some FieldType.long) d [.ref (g.1 + 6)] w (fun (r : Option Value) (w2 : Wd) => ∃ x, r = some (.long x) ∧ w = w2 ∧ P x) := by
  unfold cf_Store_gone at h
  refine am_enter mi_Store_gone (Nat.le_of_ble_eq_true rfl) ?_
  have hQ : ∀ x, P x → (fun (r : Option Value) (w2 : Wd) => ∃ x, r = some (.long x) ∧ w = w2 ∧ P x) (some (.long x)) w := fun x h => ⟨x, rfl, rfl, h⟩
  generalize (fun (r : Option Value) (w2 : Wd) => ∃ x, r = some (.long x) ∧ w = w2 ∧ P x) = Q at hQ ⊢
  show wp g (fun _ => True) y_Store_gone prog_11_method_9_code 1 (some FieldType.long) d 0 [(0, .ref (g.1 + 6))] [] w Q
  refine am_aload_n d_Store_gone_0 0 rfl ?_
  refine am_getf (T := F_Store) (fs := ob_Store g w 6) (C := R_Store) (N := 6) (ci := 3) 0 d_Store_gone_1 wd_83 rfl (by decide) (el_Store (show ay_sh 6 = _ from rfl)) rfl i_Store (by decide) rfl ?_
  refine am_bipush (v := 12) d_Store_gone_4 rfl ?_
  have hi6 := h.1
  have h := h.2
  refine am_laload d_Store_gone_6 (show ay_sh 7 = _ from rfl) hi6 ?_
  exact am_lreturn d_Store_gone_7 rfl (hQ (w.2 7 (12 : Int32).toNatClampNeg) h)
theorem d_Store_tellRegister_0 : decode prog_11_method_10_code 0 = .ok (.aload_n 0, 1) := by decide +kernel
theorem d_Store_tellRegister_1 : decode prog_11_method_10_code 1 = .ok (.getfield 9, 3) := by decide +kernel
theorem d_Store_tellRegister_4 : decode prog_11_method_10_code 4 = .ok (.bipush 10, 2) := by decide +kernel
theorem d_Store_tellRegister_6 : decode prog_11_method_10_code 6 = .ok (.lload_n 1, 1) := by decide +kernel
theorem d_Store_tellRegister_7 : decode prog_11_method_10_code 7 = .ok (.lastore, 1) := by decide +kernel
theorem d_Store_tellRegister_8 : decode prog_11_method_10_code 8 = .ok (.aload_n 0, 1) := by decide +kernel
theorem d_Store_tellRegister_9 : decode prog_11_method_10_code 9 = .ok (.getfield 9, 3) := by decide +kernel
theorem d_Store_tellRegister_12 : decode prog_11_method_10_code 12 = .ok (.bipush 11, 2) := by decide +kernel
theorem d_Store_tellRegister_14 : decode prog_11_method_10_code 14 = .ok (.lload_n 3, 1) := by decide +kernel
theorem d_Store_tellRegister_15 : decode prog_11_method_10_code 15 = .ok (.lastore, 1) := by decide +kernel
theorem d_Store_tellRegister_16 : decode prog_11_method_10_code 16 = .ok (.aload_n 0, 1) := by decide +kernel
theorem d_Store_tellRegister_17 : decode prog_11_method_10_code 17 = .ok (.getfield 9, 3) := by decide +kernel
theorem d_Store_tellRegister_20 : decode prog_11_method_10_code 20 = .ok (.bipush 12, 2) := by decide +kernel
theorem d_Store_tellRegister_22 : decode prog_11_method_10_code 22 = .ok (.lconst 0, 1) := by decide +kernel
theorem d_Store_tellRegister_23 : decode prog_11_method_10_code 23 = .ok (.lastore, 1) := by decide +kernel
theorem d_Store_tellRegister_24 : decode prog_11_method_10_code 24 = .ok (.return_, 1) := by decide +kernel
def cf_Store_tellRegister (a0 : Int64) (a1 : Int64) (w : Wd) (P : Wd → Prop) : Prop :=
  vp_in (10 : Int32) 13 ∧ ∀ w1, w1 = wL w 7 (10 : Int32).toNatClampNeg a0 → vp_in (11 : Int32) 13 ∧ ∀ w2, w2 = wL w1 7 (11 : Int32).toNatClampNeg a1 → vp_in (12 : Int32) 13 ∧ ∀ w3, w3 = wL w2 7 (12 : Int32).toNatClampNeg (0 : Int64) → P w3
theorem cf_Store_tellRegister_ok {g : ayG} {d : Nat} (hd : 0 ≤ d) (a0 : Int64) (a1 : Int64)  (w : Wd) (P : Wd → Prop) (h : cf_Store_tellRegister a0 a1 w P) : Call g y_Store_tellRegister prog_11_method_10_code 5 none d [.ref (g.1 + 6), .long a0, .long a1] w (fun (r : Option Value) (w2 : Wd) => r = none ∧ P w2) := by
  unfold cf_Store_tellRegister at h
  refine am_enter mi_Store_tellRegister (Nat.le_of_ble_eq_true rfl) ?_
  have hQ : ∀ w2, P w2 → (fun (r : Option Value) (w2 : Wd) => r = none ∧ P w2) none w2 := fun w2 h => ⟨rfl, h⟩
  generalize (fun (r : Option Value) (w2 : Wd) => r = none ∧ P w2) = Q at hQ ⊢
  show wp g (fun _ => True) y_Store_tellRegister prog_11_method_10_code 5 none d 0 [(0, .ref (g.1 + 6)), (1, .long a0), (3, .long a1)] [] w Q
  refine am_aload_n d_Store_tellRegister_0 0 rfl ?_
  refine am_getf (T := F_Store) (fs := ob_Store g w 6) (C := R_Store) (N := 6) (ci := 3) 0 d_Store_tellRegister_1 wd_83 rfl (by decide) (el_Store (show ay_sh 6 = _ from rfl)) rfl i_Store (by decide) rfl ?_
  refine am_bipush (v := 10) d_Store_tellRegister_4 rfl ?_
  refine am_lload_n d_Store_tellRegister_6 1 rfl ?_
  have hi7 := h.1
  have h := h.2
  refine am_lastore d_Store_tellRegister_7 (show ay_sh 7 = _ from rfl) hi7 ?_
  obtain ⟨w1, ew1⟩ : ∃ z, z = wL w 7 (10 : Int32).toNatClampNeg a0 := ⟨_, rfl⟩
  rw [← ew1]
  have h := h w1 ew1
  refine am_aload_n d_Store_tellRegister_8 0 rfl ?_
  refine am_getf (T := F_Store) (fs := ob_Store g w1 6) (C := R_Store) (N := 6) (ci := 3) 0 d_Store_tellRegister_9 wd_83 rfl (by decide) (el_Store (show ay_sh 6 = _ from rfl)) rfl i_Store (by decide) rfl ?_
  refine am_bipush (v := 11) d_Store_tellRegister_12 rfl ?_
  refine am_lload_n d_Store_tellRegister_14 2 rfl ?_
  have hi15 := h.1
  have h := h.2
  refine am_lastore d_Store_tellRegister_15 (show ay_sh 7 = _ from rfl) hi15 ?_
  obtain ⟨w2, ew2⟩ : ∃ z, z = wL w1 7 (11 : Int32).toNatClampNeg a1 := ⟨_, rfl⟩
  rw [← ew2]
  have h := h w2 ew2
  refine am_aload_n d_Store_tellRegister_16 0 rfl ?_
  refine am_getf (T := F_Store) (fs := ob_Store g w2 6) (C := R_Store) (N := 6) (ci := 3) 0 d_Store_tellRegister_17 wd_83 rfl (by decide) (el_Store (show ay_sh 6 = _ from rfl)) rfl i_Store (by decide) rfl ?_
  refine am_bipush (v := 12) d_Store_tellRegister_20 rfl ?_
  refine am_lconst (v := 0) d_Store_tellRegister_22 rfl ?_
  have hi23 := h.1
  have h := h.2
  refine am_lastore d_Store_tellRegister_23 (show ay_sh 7 = _ from rfl) hi23 ?_
  obtain ⟨w3, ew3⟩ : ∃ z, z = wL w2 7 (12 : Int32).toNatClampNeg (0 : Int64) := ⟨_, rfl⟩
  rw [← ew3]
  have h := h w3 ew3
  exact am_return d_Store_tellRegister_24 rfl (hQ w3 h)
theorem d_Store_stepRegister_0 : decode prog_11_method_11_code 0 = .ok (.aload_n 0, 1) := by decide +kernel
theorem d_Store_stepRegister_1 : decode prog_11_method_11_code 1 = .ok (.getfield 9, 3) := by decide +kernel
theorem d_Store_stepRegister_4 : decode prog_11_method_11_code 4 = .ok (.bipush 11, 2) := by decide +kernel
theorem d_Store_stepRegister_6 : decode prog_11_method_11_code 6 = .ok (.lload_n 1, 1) := by decide +kernel
theorem d_Store_stepRegister_7 : decode prog_11_method_11_code 7 = .ok (.lastore, 1) := by decide +kernel
theorem d_Store_stepRegister_8 : decode prog_11_method_11_code 8 = .ok (.aload_n 0, 1) := by decide +kernel
theorem d_Store_stepRegister_9 : decode prog_11_method_11_code 9 = .ok (.getfield 9, 3) := by decide +kernel
theorem d_Store_stepRegister_12 : decode prog_11_method_11_code 12 = .ok (.bipush 12, 2) := by decide +kernel
theorem d_Store_stepRegister_14 : decode prog_11_method_11_code 14 = .ok (.dup2, 1) := by decide +kernel
theorem d_Store_stepRegister_15 : decode prog_11_method_11_code 15 = .ok (.laload, 1) := by decide +kernel
theorem d_Store_stepRegister_16 : decode prog_11_method_11_code 16 = .ok (.iload_n 3, 1) := by decide +kernel
theorem d_Store_stepRegister_17 : decode prog_11_method_11_code 17 = .ok (.i2l, 1) := by decide +kernel
theorem d_Store_stepRegister_18 : decode prog_11_method_11_code 18 = .ok (.ladd, 1) := by decide +kernel
theorem d_Store_stepRegister_19 : decode prog_11_method_11_code 19 = .ok (.lastore, 1) := by decide +kernel
theorem d_Store_stepRegister_20 : decode prog_11_method_11_code 20 = .ok (.return_, 1) := by decide +kernel
def cf_Store_stepRegister (a0 : Int64) (a1 : Int32) (w : Wd) (P : Wd → Prop) : Prop :=
  vp_in (11 : Int32) 13 ∧ ∀ w1, w1 = wL w 7 (11 : Int32).toNatClampNeg a0 → vp_in (12 : Int32) 13 ∧ vp_in (12 : Int32) 13 ∧ ∀ w2, w2 = wL w1 7 (12 : Int32).toNatClampNeg ((w1.2 7 (12 : Int32).toNatClampNeg) + a1.toInt64) → P w2
theorem cf_Store_stepRegister_ok {g : ayG} {d : Nat} (hd : 0 ≤ d) (a0 : Int64) (a1 : Int32)  (w : Wd) (P : Wd → Prop) (h : cf_Store_stepRegister a0 a1 w P) : Call g y_Store_stepRegister prog_11_method_11_code 4 none d [.ref (g.1 + 6), .long a0, .int a1] w (fun (r : Option Value) (w2 : Wd) => r = none ∧ P w2) := by
  unfold cf_Store_stepRegister at h
  refine am_enter mi_Store_stepRegister (Nat.le_of_ble_eq_true rfl) ?_
  have hQ : ∀ w2, P w2 → (fun (r : Option Value) (w2 : Wd) => r = none ∧ P w2) none w2 := fun w2 h => ⟨rfl, h⟩
  generalize (fun (r : Option Value) (w2 : Wd) => r = none ∧ P w2) = Q at hQ ⊢
  show wp g (fun _ => True) y_Store_stepRegister prog_11_method_11_code 4 none d 0 [(0, .ref (g.1 + 6)), (1, .long a0), (3, .int a1)] [] w Q
  refine am_aload_n d_Store_stepRegister_0 0 rfl ?_
  refine am_getf (T := F_Store) (fs := ob_Store g w 6) (C := R_Store) (N := 6) (ci := 3) 0 d_Store_stepRegister_1 wd_83 rfl (by decide) (el_Store (show ay_sh 6 = _ from rfl)) rfl i_Store (by decide) rfl ?_
  refine am_bipush (v := 11) d_Store_stepRegister_4 rfl ?_
  refine am_lload_n d_Store_stepRegister_6 1 rfl ?_
  have hi7 := h.1
  have h := h.2
  refine am_lastore d_Store_stepRegister_7 (show ay_sh 7 = _ from rfl) hi7 ?_
  obtain ⟨w1, ew1⟩ : ∃ z, z = wL w 7 (11 : Int32).toNatClampNeg a0 := ⟨_, rfl⟩
  rw [← ew1]
  have h := h w1 ew1
  refine am_aload_n d_Store_stepRegister_8 0 rfl ?_
  refine am_getf (T := F_Store) (fs := ob_Store g w1 6) (C := R_Store) (N := 6) (ci := 3) 0 d_Store_stepRegister_9 wd_83 rfl (by decide) (el_Store (show ay_sh 6 = _ from rfl)) rfl i_Store (by decide) rfl ?_
  refine am_bipush (v := 12) d_Store_stepRegister_12 rfl ?_
  refine am_dup2_11 d_Store_stepRegister_14 rfl rfl ?_
  have hi15 := h.1
  have h := h.2
  refine am_laload d_Store_stepRegister_15 (show ay_sh 7 = _ from rfl) hi15 ?_
  refine am_iload_n d_Store_stepRegister_16 2 rfl ?_
  refine am_i2l d_Store_stepRegister_17 ?_
  refine am_ladd d_Store_stepRegister_18 ?_
  have hi19 := h.1
  have h := h.2
  refine am_lastore d_Store_stepRegister_19 (show ay_sh 7 = _ from rfl) hi19 ?_
  obtain ⟨w2, ew2⟩ : ∃ z, z = wL w1 7 (12 : Int32).toNatClampNeg ((w1.2 7 (12 : Int32).toNatClampNeg) + a1.toInt64) := ⟨_, rfl⟩
  rw [← ew2]
  have h := h w2 ew2
  exact am_return d_Store_stepRegister_20 rfl (hQ w2 h)
theorem d_Store_undoable_0 : decode prog_11_method_12_code 0 = .ok (.aload_n 0, 1) := by decide +kernel
theorem d_Store_undoable_1 : decode prog_11_method_12_code 1 = .ok (.getfield 23, 3) := by decide +kernel
theorem d_Store_undoable_4 : decode prog_11_method_12_code 4 = .ok (.ireturn, 1) := by decide +kernel
def cf_Store_undoable  (w : Wd) (P : Int32 → Prop) : Prop :=
  P (w.1 6 3)
theorem cf_Store_undoable_ok {g : ayG} {d : Nat} (hd : 0 ≤ d)   (w : Wd) (P : Int32 → Prop) (h : cf_Store_undoable w P) : Call g y_Store_undoable prog_11_method_12_code 1 (some FieldType.int) d [.ref (g.1 + 6)] w (fun (r : Option Value) (w2 : Wd) => ∃ x, r = some (.int x) ∧ w = w2 ∧ P x) := by
  unfold cf_Store_undoable at h
  refine am_enter mi_Store_undoable (Nat.le_of_ble_eq_true rfl) ?_
  have hQ : ∀ x, P x → (fun (r : Option Value) (w2 : Wd) => ∃ x, r = some (.int x) ∧ w = w2 ∧ P x) (some (.int x)) w := fun x h => ⟨x, rfl, rfl, h⟩
  generalize (fun (r : Option Value) (w2 : Wd) => ∃ x, r = some (.int x) ∧ w = w2 ∧ P x) = Q at hQ ⊢
  show wp g (fun _ => True) y_Store_undoable prog_11_method_12_code 1 (some FieldType.int) d 0 [(0, .ref (g.1 + 6))] [] w Q
  refine am_aload_n d_Store_undoable_0 0 rfl ?_
  refine am_getf (T := F_Store) (fs := ob_Store g w 6) (C := R_Store) (N := 6) (ci := 3) 3 d_Store_undoable_1 wd_86 rfl (by decide) (el_Store (show ay_sh 6 = _ from rfl)) rfl i_Store (by decide) rfl ?_
  exact am_ireturn d_Store_undoable_4 rfl rfl (hQ (w.1 6 3) h)
theorem d_Store_keptShelves_0 : decode prog_11_method_13_code 0 = .ok (.aload_n 0, 1) := by decide +kernel
theorem d_Store_keptShelves_1 : decode prog_11_method_13_code 1 = .ok (.getfield 27, 3) := by decide +kernel
theorem d_Store_keptShelves_4 : decode prog_11_method_13_code 4 = .ok (.ireturn, 1) := by decide +kernel
def cf_Store_keptShelves  (w : Wd) (P : Int32 → Prop) : Prop :=
  P (w.1 6 5)
theorem cf_Store_keptShelves_ok {g : ayG} {d : Nat} (hd : 0 ≤ d)   (w : Wd) (P : Int32 → Prop) (h : cf_Store_keptShelves w P) : Call g y_Store_keptShelves prog_11_method_13_code 1 (some FieldType.int) d [.ref (g.1 + 6)] w (fun (r : Option Value) (w2 : Wd) => ∃ x, r = some (.int x) ∧ w = w2 ∧ P x) := by
  unfold cf_Store_keptShelves at h
  refine am_enter mi_Store_keptShelves (Nat.le_of_ble_eq_true rfl) ?_
  have hQ : ∀ x, P x → (fun (r : Option Value) (w2 : Wd) => ∃ x, r = some (.int x) ∧ w = w2 ∧ P x) (some (.int x)) w := fun x h => ⟨x, rfl, rfl, h⟩
  generalize (fun (r : Option Value) (w2 : Wd) => ∃ x, r = some (.int x) ∧ w = w2 ∧ P x) = Q at hQ ⊢
  show wp g (fun _ => True) y_Store_keptShelves prog_11_method_13_code 1 (some FieldType.int) d 0 [(0, .ref (g.1 + 6))] [] w Q
  refine am_aload_n d_Store_keptShelves_0 0 rfl ?_
  refine am_getf (T := F_Store) (fs := ob_Store g w 6) (C := R_Store) (N := 6) (ci := 3) 5 d_Store_keptShelves_1 wd_88 rfl (by decide) (el_Store (show ay_sh 6 = _ from rfl)) rfl i_Store (by decide) rfl ?_
  exact am_ireturn d_Store_keptShelves_4 rfl rfl (hQ (w.1 6 5) h)
theorem d_Store_copyRow_0 : decode prog_11_method_21_code 0 = .ok (.iload_n 1, 1) := by decide +kernel
theorem d_Store_copyRow_1 : decode prog_11_method_21_code 1 = .ok (.bipush 13, 2) := by decide +kernel
theorem d_Store_copyRow_3 : decode prog_11_method_21_code 3 = .ok (.imul, 1) := by decide +kernel
theorem d_Store_copyRow_4 : decode prog_11_method_21_code 4 = .ok (.istore 4, 2) := by decide +kernel
theorem d_Store_copyRow_6 : decode prog_11_method_21_code 6 = .ok (.iload_n 3, 1) := by decide +kernel
theorem d_Store_copyRow_7 : decode prog_11_method_21_code 7 = .ok (.bipush 13, 2) := by decide +kernel
theorem d_Store_copyRow_9 : decode prog_11_method_21_code 9 = .ok (.imul, 1) := by decide +kernel
theorem d_Store_copyRow_10 : decode prog_11_method_21_code 10 = .ok (.istore 5, 2) := by decide +kernel
theorem d_Store_copyRow_12 : decode prog_11_method_21_code 12 = .ok (.iload 4, 2) := by decide +kernel
theorem d_Store_copyRow_14 : decode prog_11_method_21_code 14 = .ok (.ifCond .lt 39, 3) := by decide +kernel
theorem d_Store_copyRow_17 : decode prog_11_method_21_code 17 = .ok (.iload 4, 2) := by decide +kernel
theorem d_Store_copyRow_19 : decode prog_11_method_21_code 19 = .ok (.bipush 13, 2) := by decide +kernel
theorem d_Store_copyRow_21 : decode prog_11_method_21_code 21 = .ok (.iadd, 1) := by decide +kernel
theorem d_Store_copyRow_22 : decode prog_11_method_21_code 22 = .ok (.aload_n 0, 1) := by decide +kernel
theorem d_Store_copyRow_23 : decode prog_11_method_21_code 23 = .ok (.arraylength, 1) := by decide +kernel
theorem d_Store_copyRow_24 : decode prog_11_method_21_code 24 = .ok (.if_icmp .gt 29, 3) := by decide +kernel
theorem d_Store_copyRow_27 : decode prog_11_method_21_code 27 = .ok (.iload 5, 2) := by decide +kernel
theorem d_Store_copyRow_29 : decode prog_11_method_21_code 29 = .ok (.ifCond .lt 24, 3) := by decide +kernel
theorem d_Store_copyRow_32 : decode prog_11_method_21_code 32 = .ok (.iload 5, 2) := by decide +kernel
theorem d_Store_copyRow_34 : decode prog_11_method_21_code 34 = .ok (.bipush 13, 2) := by decide +kernel
theorem d_Store_copyRow_36 : decode prog_11_method_21_code 36 = .ok (.iadd, 1) := by decide +kernel
theorem d_Store_copyRow_37 : decode prog_11_method_21_code 37 = .ok (.aload_n 2, 1) := by decide +kernel
theorem d_Store_copyRow_38 : decode prog_11_method_21_code 38 = .ok (.arraylength, 1) := by decide +kernel
theorem d_Store_copyRow_39 : decode prog_11_method_21_code 39 = .ok (.if_icmp .gt 14, 3) := by decide +kernel
theorem d_Store_copyRow_42 : decode prog_11_method_21_code 42 = .ok (.aload_n 0, 1) := by decide +kernel
theorem d_Store_copyRow_43 : decode prog_11_method_21_code 43 = .ok (.iload 4, 2) := by decide +kernel
theorem d_Store_copyRow_45 : decode prog_11_method_21_code 45 = .ok (.aload_n 2, 1) := by decide +kernel
theorem d_Store_copyRow_46 : decode prog_11_method_21_code 46 = .ok (.iload 5, 2) := by decide +kernel
theorem d_Store_copyRow_48 : decode prog_11_method_21_code 48 = .ok (.bipush 13, 2) := by decide +kernel
theorem d_Store_copyRow_50 : decode prog_11_method_21_code 50 = .ok (.invokestatic 62, 3) := by decide +kernel
theorem d_Store_copyRow_53 : decode prog_11_method_21_code 53 = .ok (.return_, 1) := by decide +kernel
def cf_Store_copyRow (b0 : Nat) (n0 : Nat) (b2 : Nat) (n2 : Nat) (a1 : Int32) (a3 : Int32) (w : Wd) (P : Wd → Prop) : Prop :=
  ∀ v1, v1 = a1 * (13 : Int32) → ∀ v2, v2 = a3 * (13 : Int32) → ((v1 < 0 → P w) ∧ (¬ v1 < 0 → (((Int32.ofNat n0) < (v1 + (13 : Int32)) → P w) ∧ (¬ (Int32.ofNat n0) < (v1 + (13 : Int32)) → ((v2 < 0 → P w) ∧ (¬ v2 < 0 → (((Int32.ofNat n2) < (v2 + (13 : Int32)) → P w) ∧ (¬ (Int32.ofNat n2) < (v2 + (13 : Int32)) → (¬ v1 < 0 ∧ ¬ v2 < 0 ∧ ¬ (13 : Int32) < 0 ∧ v1.toNatClampNeg + (13 : Int32).toNatClampNeg ≤ n0 ∧ v2.toNatClampNeg + (13 : Int32).toNatClampNeg ≤ n2) ∧ ∀ w3, w3 = wR w b2 (va_cpy (w.2 b0) (w.2 b2) v1.toNatClampNeg v2.toNatClampNeg (13 : Int32).toNatClampNeg) → P w3))))))))
theorem cf_Store_copyRow_ok {g : ayG} {d : Nat} (hd : 1 ≤ d) (b0 : Nat) (n0 : Nat) (b2 : Nat) (n2 : Nat) (a1 : Int32) (a3 : Int32) (hb0 : ay_sh b0 = (0, n0)) (hb2 : ay_sh b2 = (0, n2)) (w : Wd) (P : Wd → Prop) (h : cf_Store_copyRow b0 n0 b2 n2 a1 a3 w P) : Call g y_Store_copyRow prog_11_method_21_code 6 none d [.ref (g.1 + b0), .int a1, .ref (g.1 + b2), .int a3] w (fun (r : Option Value) (w2 : Wd) => r = none ∧ P w2) := by
  unfold cf_Store_copyRow at h
  refine am_enter mi_Store_copyRow (Nat.le_of_ble_eq_true rfl) ?_
  have hQ : ∀ w2, P w2 → (fun (r : Option Value) (w2 : Wd) => r = none ∧ P w2) none w2 := fun w2 h => ⟨rfl, h⟩
  generalize (fun (r : Option Value) (w2 : Wd) => r = none ∧ P w2) = Q at hQ ⊢
  show wp g (fun _ => True) y_Store_copyRow prog_11_method_21_code 6 none d 0 [(0, .ref (g.1 + b0)), (1, .int a1), (2, .ref (g.1 + b2)), (3, .int a3)] [] w Q
  refine am_iload_n d_Store_copyRow_0 1 rfl ?_
  refine am_bipush (v := 13) d_Store_copyRow_1 rfl ?_
  refine am_imul d_Store_copyRow_3 ?_
  refine am_topi (fun v1 ev1 => ?_)
  have h := h v1 ev1
  refine am_istore (l' := [(4, .int v1), (0, .ref (g.1 + b0)), (1, .int a1), (2, .ref (g.1 + b2)), (3, .int a3)]) d_Store_copyRow_4 (by decide) rfl ?_
  refine am_iload_n d_Store_copyRow_6 4 rfl ?_
  refine am_bipush (v := 13) d_Store_copyRow_7 rfl ?_
  refine am_imul d_Store_copyRow_9 ?_
  refine am_topi (fun v2 ev2 => ?_)
  have h := h v2 ev2
  refine am_istore (l' := [(5, .int v2), (4, .int v1), (0, .ref (g.1 + b0)), (1, .int a1), (2, .ref (g.1 + b2)), (3, .int a3)]) d_Store_copyRow_10 (by decide) rfl ?_
  refine am_iload d_Store_copyRow_12 1 rfl ?_
  refine am_if_lt (tgt := 53) d_Store_copyRow_14 (by decide) (fun c14 => ?_) (fun c14 => ?_)
  · have h := h.1 c14
    exact am_return d_Store_copyRow_53 rfl (hQ w h)
  · have h := h.2 c14
    refine am_iload d_Store_copyRow_17 1 rfl ?_
    refine am_bipush (v := 13) d_Store_copyRow_19 rfl ?_
    refine am_iadd d_Store_copyRow_21 ?_
    refine am_aload_n d_Store_copyRow_22 2 rfl ?_
    refine am_alen (v := Int32.ofNat n0) d_Store_copyRow_23 hb0 (by decide) rfl ?_
    refine am_icmp_gt (tgt := 53) d_Store_copyRow_24 (by decide) (fun c24 => ?_) (fun c24 => ?_)
    · have h := h.1 c24
      exact am_return d_Store_copyRow_53 rfl (hQ w h)
    · have h := h.2 c24
      refine am_iload d_Store_copyRow_27 0 rfl ?_
      refine am_if_lt (tgt := 53) d_Store_copyRow_29 (by decide) (fun c29 => ?_) (fun c29 => ?_)
      · have h := h.1 c29
        exact am_return d_Store_copyRow_53 rfl (hQ w h)
      · have h := h.2 c29
        refine am_iload d_Store_copyRow_32 0 rfl ?_
        refine am_bipush (v := 13) d_Store_copyRow_34 rfl ?_
        refine am_iadd d_Store_copyRow_36 ?_
        refine am_aload_n d_Store_copyRow_37 4 rfl ?_
        refine am_alen (v := Int32.ofNat n2) d_Store_copyRow_38 hb2 (by decide) rfl ?_
        refine am_icmp_gt (tgt := 53) d_Store_copyRow_39 (by decide) (fun c39 => ?_) (fun c39 => ?_)
        · have h := h.1 c39
          exact am_return d_Store_copyRow_53 rfl (hQ w h)
        · have h := h.2 c39
          refine am_aload_n d_Store_copyRow_42 2 rfl ?_
          refine am_iload d_Store_copyRow_43 1 rfl ?_
          refine am_aload_n d_Store_copyRow_45 4 rfl ?_
          refine am_iload d_Store_copyRow_46 0 rfl ?_
          refine am_bipush (v := 13) d_Store_copyRow_48 rfl ?_
          have hz50 := h.1
          have h := h.2
          refine am_copyL d_Store_copyRow_50 wd_425 hb0 hb2 hz50 (by omega) (Nat.le_of_ble_eq_true rfl) ?_
          obtain ⟨w3, ew3⟩ : ∃ z, z = wR w b2 (va_cpy (w.2 b0) (w.2 b2) v1.toNatClampNeg v2.toNatClampNeg (13 : Int32).toNatClampNeg) := ⟨_, rfl⟩
          rw [← ew3]
          have h := h w3 ew3
          exact am_return d_Store_copyRow_53 rfl (hQ w3 h)
theorem d_Store_remember_0 : decode prog_11_method_14_code 0 = .ok (.aload_n 0, 1) := by decide +kernel
theorem d_Store_remember_1 : decode prog_11_method_14_code 1 = .ok (.getfield 9, 3) := by decide +kernel
theorem d_Store_remember_4 : decode prog_11_method_14_code 4 = .ok (.iconst 0, 1) := by decide +kernel
theorem d_Store_remember_5 : decode prog_11_method_14_code 5 = .ok (.aload_n 0, 1) := by decide +kernel
theorem d_Store_remember_6 : decode prog_11_method_14_code 6 = .ok (.getfield 13, 3) := by decide +kernel
theorem d_Store_remember_9 : decode prog_11_method_14_code 9 = .ok (.aload_n 0, 1) := by decide +kernel
theorem d_Store_remember_10 : decode prog_11_method_14_code 10 = .ok (.getfield 30, 3) := by decide +kernel
theorem d_Store_remember_13 : decode prog_11_method_14_code 13 = .ok (.invokestatic 33, 3) := by decide +kernel
theorem d_Store_remember_16 : decode prog_11_method_14_code 16 = .ok (.aload_n 0, 1) := by decide +kernel
theorem d_Store_remember_17 : decode prog_11_method_14_code 17 = .ok (.aload_n 0, 1) := by decide +kernel
theorem d_Store_remember_18 : decode prog_11_method_14_code 18 = .ok (.getfield 30, 3) := by decide +kernel
theorem d_Store_remember_21 : decode prog_11_method_14_code 21 = .ok (.iconst 1, 1) := by decide +kernel
theorem d_Store_remember_22 : decode prog_11_method_14_code 22 = .ok (.iadd, 1) := by decide +kernel
theorem d_Store_remember_23 : decode prog_11_method_14_code 23 = .ok (.bipush 10, 2) := by decide +kernel
theorem d_Store_remember_25 : decode prog_11_method_14_code 25 = .ok (.irem, 1) := by decide +kernel
theorem d_Store_remember_26 : decode prog_11_method_14_code 26 = .ok (.putfield 30, 3) := by decide +kernel
theorem d_Store_remember_29 : decode prog_11_method_14_code 29 = .ok (.aload_n 0, 1) := by decide +kernel
theorem d_Store_remember_30 : decode prog_11_method_14_code 30 = .ok (.aload_n 0, 1) := by decide +kernel
theorem d_Store_remember_31 : decode prog_11_method_14_code 31 = .ok (.getfield 23, 3) := by decide +kernel
theorem d_Store_remember_34 : decode prog_11_method_14_code 34 = .ok (.iconst 1, 1) := by decide +kernel
theorem d_Store_remember_35 : decode prog_11_method_14_code 35 = .ok (.iadd, 1) := by decide +kernel
theorem d_Store_remember_36 : decode prog_11_method_14_code 36 = .ok (.bipush 10, 2) := by decide +kernel
theorem d_Store_remember_38 : decode prog_11_method_14_code 38 = .ok (.invokestatic 37, 3) := by decide +kernel
theorem d_Store_remember_41 : decode prog_11_method_14_code 41 = .ok (.putfield 23, 3) := by decide +kernel
theorem d_Store_remember_44 : decode prog_11_method_14_code 44 = .ok (.return_, 1) := by decide +kernel
def cf_Store_remember  (w : Wd) (P : Wd → Prop) : Prop :=
  cf_Store_copyRow 7 13 8 130 (0 : Int32) (w.1 6 4) w (fun w1 => ∀ w2, w2 = wI w1 6 4 (irem ((w1.1 6 4) + (1 : Int32)) (10 : Int32)) → ∀ w3, w3 = wI w2 6 3 (imin ((w2.1 6 3) + (1 : Int32)) (10 : Int32)) → P w3)
theorem cf_Store_remember_ok {g : ayG} {d : Nat} (hd : 2 ≤ d)   (w : Wd) (P : Wd → Prop) (h : cf_Store_remember w P) : Call g y_Store_remember prog_11_method_14_code 1 none d [.ref (g.1 + 6)] w (fun (r : Option Value) (w2 : Wd) => r = none ∧ P w2) := by
  unfold cf_Store_remember at h
  refine am_enter mi_Store_remember (Nat.le_of_ble_eq_true rfl) ?_
  have hQ : ∀ w2, P w2 → (fun (r : Option Value) (w2 : Wd) => r = none ∧ P w2) none w2 := fun w2 h => ⟨rfl, h⟩
  generalize (fun (r : Option Value) (w2 : Wd) => r = none ∧ P w2) = Q at hQ ⊢
  show wp g (fun _ => True) y_Store_remember prog_11_method_14_code 1 none d 0 [(0, .ref (g.1 + 6))] [] w Q
  refine am_aload_n d_Store_remember_0 0 rfl ?_
  refine am_getf (T := F_Store) (fs := ob_Store g w 6) (C := R_Store) (N := 6) (ci := 3) 0 d_Store_remember_1 wd_83 rfl (by decide) (el_Store (show ay_sh 6 = _ from rfl)) rfl i_Store (by decide) rfl ?_
  refine am_iconst (v := 0) d_Store_remember_4 rfl ?_
  refine am_aload_n d_Store_remember_5 0 rfl ?_
  refine am_getf (T := F_Store) (fs := ob_Store g w 6) (C := R_Store) (N := 6) (ci := 3) 1 d_Store_remember_6 wd_84 rfl (by decide) (el_Store (show ay_sh 6 = _ from rfl)) rfl i_Store (by decide) rfl ?_
  refine am_aload_n d_Store_remember_9 0 rfl ?_
  refine am_getf (T := F_Store) (fs := ob_Store g w 6) (C := R_Store) (N := 6) (ci := 3) 4 d_Store_remember_10 wd_87 rfl (by decide) (el_Store (show ay_sh 6 = _ from rfl)) rfl i_Store (by decide) rfl ?_
  refine am_callS (d2 := d - 1) [.ref (g.1 + 7), .int (0 : Int32), .ref (g.1 + 8), .int (w.1 6 4)] d_Store_remember_13 mi_Store_copyRow wd_422 wd_423 (by omega) rfl rfl (Nat.le_of_ble_eq_true rfl) ?_
  refine Call.post ?_ (cf_Store_copyRow_ok (by omega) 7 13 8 130 (0 : Int32) (w.1 6 4) (show ay_sh 7 = _ from rfl) (show ay_sh 8 = _ from rfl) w _ h)
  rintro _ w1 ⟨rfl, h⟩
  show wp g (fun _ => True) y_Store_remember prog_11_method_14_code 1 none d 16 [(0, .ref (g.1 + 6))] [] w1 Q
  refine am_aload_n d_Store_remember_16 0 rfl ?_
  refine am_aload_n d_Store_remember_17 0 rfl ?_
  refine am_getf (T := F_Store) (fs := ob_Store g w1 6) (C := R_Store) (N := 6) (ci := 3) 4 d_Store_remember_18 wd_87 rfl (by decide) (el_Store (show ay_sh 6 = _ from rfl)) rfl i_Store (by decide) rfl ?_
  refine am_iconst (v := 1) d_Store_remember_21 rfl ?_
  refine am_iadd d_Store_remember_22 ?_
  refine am_bipush (v := 10) d_Store_remember_23 rfl ?_
  refine am_irem d_Store_remember_25 (by decide) ?_
  refine am_putf (w' := wI w1 6 4 (irem ((w1.1 6 4) + (1 : Int32)) (10 : Int32))) (ty := .int) (T := F_Store) (fs := ob_Store g w1 6) (C := R_Store) (N := 6) (ci := 3) 4 d_Store_remember_26 wd_87 rfl (by decide) (el_Store (show ay_sh 6 = _ from rfl)) rfl i_Store (by decide) G_Store ty_Store n_Store rfl (ty_Store 4 (by decide)) rfl rfl (Nat.le_of_ble_eq_true rfl) ((el_Store (show ay_sh 6 = _ from rfl)).trans (by rw [pf_Store_slot])) wI_o ?_
  obtain ⟨w2, ew2⟩ : ∃ z, z = wI w1 6 4 (irem ((w1.1 6 4) + (1 : Int32)) (10 : Int32)) := ⟨_, rfl⟩
  rw [← ew2]
  have h := h w2 ew2
  refine am_aload_n d_Store_remember_29 0 rfl ?_
  refine am_aload_n d_Store_remember_30 0 rfl ?_
  refine am_getf (T := F_Store) (fs := ob_Store g w2 6) (C := R_Store) (N := 6) (ci := 3) 3 d_Store_remember_31 wd_86 rfl (by decide) (el_Store (show ay_sh 6 = _ from rfl)) rfl i_Store (by decide) rfl ?_
  refine am_iconst (v := 1) d_Store_remember_34 rfl ?_
  refine am_iadd d_Store_remember_35 ?_
  refine am_bipush (v := 10) d_Store_remember_36 rfl ?_
  refine am_mmin d_Store_remember_38 wd_428 (by omega) (Nat.le_of_ble_eq_true rfl) ?_
  refine am_putf (w' := wI w2 6 3 (imin ((w2.1 6 3) + (1 : Int32)) (10 : Int32))) (ty := .int) (T := F_Store) (fs := ob_Store g w2 6) (C := R_Store) (N := 6) (ci := 3) 3 d_Store_remember_41 wd_86 rfl (by decide) (el_Store (show ay_sh 6 = _ from rfl)) rfl i_Store (by decide) G_Store ty_Store n_Store rfl (ty_Store 3 (by decide)) rfl rfl (Nat.le_of_ble_eq_true rfl) ((el_Store (show ay_sh 6 = _ from rfl)).trans (by rw [pf_Store_undoable])) wI_o ?_
  obtain ⟨w3, ew3⟩ : ∃ z, z = wI w2 6 3 (imin ((w2.1 6 3) + (1 : Int32)) (10 : Int32)) := ⟨_, rfl⟩
  rw [← ew3]
  have h := h w3 ew3
  exact am_return d_Store_remember_44 rfl (hQ w3 h)
theorem d_Store_goBack_0 : decode prog_11_method_15_code 0 = .ok (.aload_n 0, 1) := by decide +kernel
theorem d_Store_goBack_1 : decode prog_11_method_15_code 1 = .ok (.getfield 23, 3) := by decide +kernel
theorem d_Store_goBack_4 : decode prog_11_method_15_code 4 = .ok (.ifCond .gt 5, 3) := by decide +kernel
theorem d_Store_goBack_7 : decode prog_11_method_15_code 7 = .ok (.iconst 0, 1) := by decide +kernel
theorem d_Store_goBack_8 : decode prog_11_method_15_code 8 = .ok (.ireturn, 1) := by decide +kernel
theorem d_Store_goBack_9 : decode prog_11_method_15_code 9 = .ok (.aload_n 0, 1) := by decide +kernel
theorem d_Store_goBack_10 : decode prog_11_method_15_code 10 = .ok (.aload_n 0, 1) := by decide +kernel
theorem d_Store_goBack_11 : decode prog_11_method_15_code 11 = .ok (.getfield 30, 3) := by decide +kernel
theorem d_Store_goBack_14 : decode prog_11_method_15_code 14 = .ok (.bipush 10, 2) := by decide +kernel
theorem d_Store_goBack_16 : decode prog_11_method_15_code 16 = .ok (.iadd, 1) := by decide +kernel
theorem d_Store_goBack_17 : decode prog_11_method_15_code 17 = .ok (.iconst 1, 1) := by decide +kernel
theorem d_Store_goBack_18 : decode prog_11_method_15_code 18 = .ok (.isub, 1) := by decide +kernel
theorem d_Store_goBack_19 : decode prog_11_method_15_code 19 = .ok (.bipush 10, 2) := by decide +kernel
theorem d_Store_goBack_21 : decode prog_11_method_15_code 21 = .ok (.irem, 1) := by decide +kernel
theorem d_Store_goBack_22 : decode prog_11_method_15_code 22 = .ok (.putfield 30, 3) := by decide +kernel
theorem d_Store_goBack_25 : decode prog_11_method_15_code 25 = .ok (.aload_n 0, 1) := by decide +kernel
theorem d_Store_goBack_26 : decode prog_11_method_15_code 26 = .ok (.dup, 1) := by decide +kernel
theorem d_Store_goBack_27 : decode prog_11_method_15_code 27 = .ok (.getfield 23, 3) := by decide +kernel
theorem d_Store_goBack_30 : decode prog_11_method_15_code 30 = .ok (.iconst 1, 1) := by decide +kernel
theorem d_Store_goBack_31 : decode prog_11_method_15_code 31 = .ok (.isub, 1) := by decide +kernel
theorem d_Store_goBack_32 : decode prog_11_method_15_code 32 = .ok (.putfield 23, 3) := by decide +kernel
theorem d_Store_goBack_35 : decode prog_11_method_15_code 35 = .ok (.aload_n 0, 1) := by decide +kernel
theorem d_Store_goBack_36 : decode prog_11_method_15_code 36 = .ok (.getfield 13, 3) := by decide +kernel
theorem d_Store_goBack_39 : decode prog_11_method_15_code 39 = .ok (.aload_n 0, 1) := by decide +kernel
theorem d_Store_goBack_40 : decode prog_11_method_15_code 40 = .ok (.getfield 30, 3) := by decide +kernel
theorem d_Store_goBack_43 : decode prog_11_method_15_code 43 = .ok (.aload_n 0, 1) := by decide +kernel
theorem d_Store_goBack_44 : decode prog_11_method_15_code 44 = .ok (.getfield 9, 3) := by decide +kernel
theorem d_Store_goBack_47 : decode prog_11_method_15_code 47 = .ok (.iconst 0, 1) := by decide +kernel
theorem d_Store_goBack_48 : decode prog_11_method_15_code 48 = .ok (.invokestatic 33, 3) := by decide +kernel
theorem d_Store_goBack_51 : decode prog_11_method_15_code 51 = .ok (.iconst 1, 1) := by decide +kernel
theorem d_Store_goBack_52 : decode prog_11_method_15_code 52 = .ok (.ireturn, 1) := by decide +kernel
def cf_Store_goBack  (w : Wd) (P : Int32 → Wd → Prop) : Prop :=
  ((0 < (w.1 6 3) → ∀ w1, w1 = wI w 6 4 (irem (((w.1 6 4) + (10 : Int32)) - (1 : Int32)) (10 : Int32)) → ∀ w2, w2 = wI w1 6 3 ((w1.1 6 3) - (1 : Int32)) → cf_Store_copyRow 8 130 7 13 (w2.1 6 4) (0 : Int32) w2 (fun w3 => P (1 : Int32) w3)) ∧ (¬ 0 < (w.1 6 3) → P (0 : Int32) w))
theorem cf_Store_goBack_ok {g : ayG} {d : Nat} (hd : 2 ≤ d)   (w : Wd) (P : Int32 → Wd → Prop) (h : cf_Store_goBack w P) : Call g y_Store_goBack prog_11_method_15_code 1 (some FieldType.boolean) d [.ref (g.1 + 6)] w (fun (r : Option Value) (w2 : Wd) => ∃ x, r = some (.int x) ∧ P x w2) := by
  unfold cf_Store_goBack at h
  refine am_enter mi_Store_goBack (Nat.le_of_ble_eq_true rfl) ?_
  have hQ : ∀ x w2, P x w2 → (fun (r : Option Value) (w2 : Wd) => ∃ x, r = some (.int x) ∧ P x w2) (some (.int x)) w2 := fun x w2 h => ⟨x, rfl, h⟩
  generalize (fun (r : Option Value) (w2 : Wd) => ∃ x, r = some (.int x) ∧ P x w2) = Q at hQ ⊢
  show wp g (fun _ => True) y_Store_goBack prog_11_method_15_code 1 (some FieldType.boolean) d 0 [(0, .ref (g.1 + 6))] [] w Q
  refine am_aload_n d_Store_goBack_0 0 rfl ?_
  refine am_getf (T := F_Store) (fs := ob_Store g w 6) (C := R_Store) (N := 6) (ci := 3) 3 d_Store_goBack_1 wd_86 rfl (by decide) (el_Store (show ay_sh 6 = _ from rfl)) rfl i_Store (by decide) rfl ?_
  refine am_if_gt (tgt := 9) d_Store_goBack_4 (by decide) (fun c4 => ?_) (fun c4 => ?_)
  · have h := h.1 c4
    refine am_aload_n d_Store_goBack_9 0 rfl ?_
    refine am_aload_n d_Store_goBack_10 0 rfl ?_
    refine am_getf (T := F_Store) (fs := ob_Store g w 6) (C := R_Store) (N := 6) (ci := 3) 4 d_Store_goBack_11 wd_87 rfl (by decide) (el_Store (show ay_sh 6 = _ from rfl)) rfl i_Store (by decide) rfl ?_
    refine am_bipush (v := 10) d_Store_goBack_14 rfl ?_
    refine am_iadd d_Store_goBack_16 ?_
    refine am_iconst (v := 1) d_Store_goBack_17 rfl ?_
    refine am_isub d_Store_goBack_18 ?_
    refine am_bipush (v := 10) d_Store_goBack_19 rfl ?_
    refine am_irem d_Store_goBack_21 (by decide) ?_
    refine am_putf (w' := wI w 6 4 (irem (((w.1 6 4) + (10 : Int32)) - (1 : Int32)) (10 : Int32))) (ty := .int) (T := F_Store) (fs := ob_Store g w 6) (C := R_Store) (N := 6) (ci := 3) 4 d_Store_goBack_22 wd_87 rfl (by decide) (el_Store (show ay_sh 6 = _ from rfl)) rfl i_Store (by decide) G_Store ty_Store n_Store rfl (ty_Store 4 (by decide)) rfl rfl (Nat.le_of_ble_eq_true rfl) ((el_Store (show ay_sh 6 = _ from rfl)).trans (by rw [pf_Store_slot])) wI_o ?_
    obtain ⟨w1, ew1⟩ : ∃ z, z = wI w 6 4 (irem (((w.1 6 4) + (10 : Int32)) - (1 : Int32)) (10 : Int32)) := ⟨_, rfl⟩
    rw [← ew1]
    have h := h w1 ew1
    refine am_aload_n d_Store_goBack_25 0 rfl ?_
    refine am_dup d_Store_goBack_26 rfl ?_
    refine am_getf (T := F_Store) (fs := ob_Store g w1 6) (C := R_Store) (N := 6) (ci := 3) 3 d_Store_goBack_27 wd_86 rfl (by decide) (el_Store (show ay_sh 6 = _ from rfl)) rfl i_Store (by decide) rfl ?_
    refine am_iconst (v := 1) d_Store_goBack_30 rfl ?_
    refine am_isub d_Store_goBack_31 ?_
    refine am_putf (w' := wI w1 6 3 ((w1.1 6 3) - (1 : Int32))) (ty := .int) (T := F_Store) (fs := ob_Store g w1 6) (C := R_Store) (N := 6) (ci := 3) 3 d_Store_goBack_32 wd_86 rfl (by decide) (el_Store (show ay_sh 6 = _ from rfl)) rfl i_Store (by decide) G_Store ty_Store n_Store rfl (ty_Store 3 (by decide)) rfl rfl (Nat.le_of_ble_eq_true rfl) ((el_Store (show ay_sh 6 = _ from rfl)).trans (by rw [pf_Store_undoable])) wI_o ?_
    obtain ⟨w2, ew2⟩ : ∃ z, z = wI w1 6 3 ((w1.1 6 3) - (1 : Int32)) := ⟨_, rfl⟩
    rw [← ew2]
    have h := h w2 ew2
    refine am_aload_n d_Store_goBack_35 0 rfl ?_
    refine am_getf (T := F_Store) (fs := ob_Store g w2 6) (C := R_Store) (N := 6) (ci := 3) 1 d_Store_goBack_36 wd_84 rfl (by decide) (el_Store (show ay_sh 6 = _ from rfl)) rfl i_Store (by decide) rfl ?_
    refine am_aload_n d_Store_goBack_39 0 rfl ?_
    refine am_getf (T := F_Store) (fs := ob_Store g w2 6) (C := R_Store) (N := 6) (ci := 3) 4 d_Store_goBack_40 wd_87 rfl (by decide) (el_Store (show ay_sh 6 = _ from rfl)) rfl i_Store (by decide) rfl ?_
    refine am_aload_n d_Store_goBack_43 0 rfl ?_
    refine am_getf (T := F_Store) (fs := ob_Store g w2 6) (C := R_Store) (N := 6) (ci := 3) 0 d_Store_goBack_44 wd_83 rfl (by decide) (el_Store (show ay_sh 6 = _ from rfl)) rfl i_Store (by decide) rfl ?_
    refine am_iconst (v := 0) d_Store_goBack_47 rfl ?_
    refine am_callS (d2 := d - 1) [.ref (g.1 + 8), .int (w2.1 6 4), .ref (g.1 + 7), .int (0 : Int32)] d_Store_goBack_48 mi_Store_copyRow wd_422 wd_423 (by omega) rfl rfl (Nat.le_of_ble_eq_true rfl) ?_
    refine Call.post ?_ (cf_Store_copyRow_ok (by omega) 8 130 7 13 (w2.1 6 4) (0 : Int32) (show ay_sh 8 = _ from rfl) (show ay_sh 7 = _ from rfl) w2 _ h)
    rintro _ w3 ⟨rfl, h⟩
    show wp g (fun _ => True) y_Store_goBack prog_11_method_15_code 1 (some FieldType.boolean) d 51 [(0, .ref (g.1 + 6))] [] w3 Q
    refine am_iconst (v := 1) d_Store_goBack_51 rfl ?_
    exact am_ireturn d_Store_goBack_52 rfl rfl (hQ (1 : Int32) w3 h)
  · have h := h.2 c4
    refine am_iconst (v := 0) d_Store_goBack_7 rfl ?_
    exact am_ireturn d_Store_goBack_8 rfl rfl (hQ (0 : Int32) w h)
theorem d_Store_keepOn_0 : decode prog_11_method_16_code 0 = .ok (.iload_n 1, 1) := by decide +kernel
theorem d_Store_keepOn_1 : decode prog_11_method_16_code 1 = .ok (.invokestatic 43, 3) := by decide +kernel
theorem d_Store_keepOn_4 : decode prog_11_method_16_code 4 = .ok (.ifCond .ne 5, 3) := by decide +kernel
theorem d_Store_keepOn_7 : decode prog_11_method_16_code 7 = .ok (.iconst 0, 1) := by decide +kernel
theorem d_Store_keepOn_8 : decode prog_11_method_16_code 8 = .ok (.ireturn, 1) := by decide +kernel
theorem d_Store_keepOn_9 : decode prog_11_method_16_code 9 = .ok (.aload_n 0, 1) := by decide +kernel
theorem d_Store_keepOn_10 : decode prog_11_method_16_code 10 = .ok (.getfield 9, 3) := by decide +kernel
theorem d_Store_keepOn_13 : decode prog_11_method_16_code 13 = .ok (.iconst 0, 1) := by decide +kernel
theorem d_Store_keepOn_14 : decode prog_11_method_16_code 14 = .ok (.aload_n 0, 1) := by decide +kernel
theorem d_Store_keepOn_15 : decode prog_11_method_16_code 15 = .ok (.getfield 16, 3) := by decide +kernel
theorem d_Store_keepOn_18 : decode prog_11_method_16_code 18 = .ok (.iload_n 1, 1) := by decide +kernel
theorem d_Store_keepOn_19 : decode prog_11_method_16_code 19 = .ok (.invokestatic 33, 3) := by decide +kernel
theorem d_Store_keepOn_22 : decode prog_11_method_16_code 22 = .ok (.aload_n 0, 1) := by decide +kernel
theorem d_Store_keepOn_23 : decode prog_11_method_16_code 23 = .ok (.dup, 1) := by decide +kernel
theorem d_Store_keepOn_24 : decode prog_11_method_16_code 24 = .ok (.getfield 27, 3) := by decide +kernel
theorem d_Store_keepOn_27 : decode prog_11_method_16_code 27 = .ok (.iconst 1, 1) := by decide +kernel
theorem d_Store_keepOn_28 : decode prog_11_method_16_code 28 = .ok (.iload_n 1, 1) := by decide +kernel
theorem d_Store_keepOn_29 : decode prog_11_method_16_code 29 = .ok (.ishl, 1) := by decide +kernel
theorem d_Store_keepOn_30 : decode prog_11_method_16_code 30 = .ok (.ior, 1) := by decide +kernel
theorem d_Store_keepOn_31 : decode prog_11_method_16_code 31 = .ok (.putfield 27, 3) := by decide +kernel
theorem d_Store_keepOn_34 : decode prog_11_method_16_code 34 = .ok (.iconst 1, 1) := by decide +kernel
theorem d_Store_keepOn_35 : decode prog_11_method_16_code 35 = .ok (.ireturn, 1) := by decide +kernel
def cf_Store_keepOn (a0 : Int32) (w : Wd) (P : Int32 → Wd → Prop) : Prop :=
  cf_Store_isShelf a0 (fun r1 => ((¬ r1 = 0 → cf_Store_copyRow 7 13 9 26 (0 : Int32) a0 w (fun w2 => ∀ w3, w3 = wI w2 6 5 ((w2.1 6 5) ||| (ishl (1 : Int32) a0)) → P (1 : Int32) w3)) ∧ (r1 = 0 → P (0 : Int32) w)))
theorem cf_Store_keepOn_ok {g : ayG} {d : Nat} (hd : 2 ≤ d) (a0 : Int32)  (w : Wd) (P : Int32 → Wd → Prop) (h : cf_Store_keepOn a0 w P) : Call g y_Store_keepOn prog_11_method_16_code 2 (some FieldType.boolean) d [.ref (g.1 + 6), .int a0] w (fun (r : Option Value) (w2 : Wd) => ∃ x, r = some (.int x) ∧ P x w2) := by
  unfold cf_Store_keepOn at h
  refine am_enter mi_Store_keepOn (Nat.le_of_ble_eq_true rfl) ?_
  have hQ : ∀ x w2, P x w2 → (fun (r : Option Value) (w2 : Wd) => ∃ x, r = some (.int x) ∧ P x w2) (some (.int x)) w2 := fun x w2 h => ⟨x, rfl, h⟩
  generalize (fun (r : Option Value) (w2 : Wd) => ∃ x, r = some (.int x) ∧ P x w2) = Q at hQ ⊢
  show wp g (fun _ => True) y_Store_keepOn prog_11_method_16_code 2 (some FieldType.boolean) d 0 [(0, .ref (g.1 + 6)), (1, .int a0)] [] w Q
  refine am_iload_n d_Store_keepOn_0 1 rfl ?_
  refine am_callS (d2 := d - 1) [.int a0] d_Store_keepOn_1 mi_Store_isShelf wd_622 wd_623 (by omega) rfl rfl (Nat.le_of_ble_eq_true rfl) ?_
  refine Call.post ?_ (cf_Store_isShelf_ok (by omega) a0  w _ h)
  rintro _ _ ⟨r1, rfl, rfl, h⟩
  show wp g (fun _ => True) y_Store_keepOn prog_11_method_16_code 2 (some FieldType.boolean) d 4 [(0, .ref (g.1 + 6)), (1, .int a0)] [.int r1] w Q
  refine am_if_ne (tgt := 9) d_Store_keepOn_4 (by decide) (fun c4 => ?_) (fun c4 => ?_)
  · have h := h.1 c4
    refine am_aload_n d_Store_keepOn_9 0 rfl ?_
    refine am_getf (T := F_Store) (fs := ob_Store g w 6) (C := R_Store) (N := 6) (ci := 3) 0 d_Store_keepOn_10 wd_83 rfl (by decide) (el_Store (show ay_sh 6 = _ from rfl)) rfl i_Store (by decide) rfl ?_
    refine am_iconst (v := 0) d_Store_keepOn_13 rfl ?_
    refine am_aload_n d_Store_keepOn_14 0 rfl ?_
    refine am_getf (T := F_Store) (fs := ob_Store g w 6) (C := R_Store) (N := 6) (ci := 3) 2 d_Store_keepOn_15 wd_85 rfl (by decide) (el_Store (show ay_sh 6 = _ from rfl)) rfl i_Store (by decide) rfl ?_
    refine am_iload_n d_Store_keepOn_18 1 rfl ?_
    refine am_callS (d2 := d - 1) [.ref (g.1 + 7), .int (0 : Int32), .ref (g.1 + 9), .int a0] d_Store_keepOn_19 mi_Store_copyRow wd_422 wd_423 (by omega) rfl rfl (Nat.le_of_ble_eq_true rfl) ?_
    refine Call.post ?_ (cf_Store_copyRow_ok (by omega) 7 13 9 26 (0 : Int32) a0 (show ay_sh 7 = _ from rfl) (show ay_sh 9 = _ from rfl) w _ h)
    rintro _ w2 ⟨rfl, h⟩
    show wp g (fun _ => True) y_Store_keepOn prog_11_method_16_code 2 (some FieldType.boolean) d 22 [(0, .ref (g.1 + 6)), (1, .int a0)] [] w2 Q
    refine am_aload_n d_Store_keepOn_22 0 rfl ?_
    refine am_dup d_Store_keepOn_23 rfl ?_
    refine am_getf (T := F_Store) (fs := ob_Store g w2 6) (C := R_Store) (N := 6) (ci := 3) 5 d_Store_keepOn_24 wd_88 rfl (by decide) (el_Store (show ay_sh 6 = _ from rfl)) rfl i_Store (by decide) rfl ?_
    refine am_iconst (v := 1) d_Store_keepOn_27 rfl ?_
    refine am_iload_n d_Store_keepOn_28 1 rfl ?_
    refine am_ishl d_Store_keepOn_29 ?_
    refine am_ior d_Store_keepOn_30 ?_
    refine am_putf (w' := wI w2 6 5 ((w2.1 6 5) ||| (ishl (1 : Int32) a0))) (ty := .int) (T := F_Store) (fs := ob_Store g w2 6) (C := R_Store) (N := 6) (ci := 3) 5 d_Store_keepOn_31 wd_88 rfl (by decide) (el_Store (show ay_sh 6 = _ from rfl)) rfl i_Store (by decide) G_Store ty_Store n_Store rfl (ty_Store 5 (by decide)) rfl rfl (Nat.le_of_ble_eq_true rfl) ((el_Store (show ay_sh 6 = _ from rfl)).trans (by rw [pf_Store_kept])) wI_o ?_
    obtain ⟨w3, ew3⟩ : ∃ z, z = wI w2 6 5 ((w2.1 6 5) ||| (ishl (1 : Int32) a0)) := ⟨_, rfl⟩
    rw [← ew3]
    have h := h w3 ew3
    refine am_iconst (v := 1) d_Store_keepOn_34 rfl ?_
    exact am_ireturn d_Store_keepOn_35 rfl rfl (hQ (1 : Int32) w3 h)
  · have h := h.2 c4
    refine am_iconst (v := 0) d_Store_keepOn_7 rfl ?_
    exact am_ireturn d_Store_keepOn_8 rfl rfl (hQ (0 : Int32) w h)
theorem d_Store_takeFrom_0 : decode prog_11_method_17_code 0 = .ok (.iload_n 1, 1) := by decide +kernel
theorem d_Store_takeFrom_1 : decode prog_11_method_17_code 1 = .ok (.invokestatic 43, 3) := by decide +kernel
theorem d_Store_takeFrom_4 : decode prog_11_method_17_code 4 = .ok (.ifCond .eq 14, 3) := by decide +kernel
theorem d_Store_takeFrom_7 : decode prog_11_method_17_code 7 = .ok (.aload_n 0, 1) := by decide +kernel
theorem d_Store_takeFrom_8 : decode prog_11_method_17_code 8 = .ok (.getfield 27, 3) := by decide +kernel
theorem d_Store_takeFrom_11 : decode prog_11_method_17_code 11 = .ok (.iload_n 1, 1) := by decide +kernel
theorem d_Store_takeFrom_12 : decode prog_11_method_17_code 12 = .ok (.ishr, 1) := by decide +kernel
theorem d_Store_takeFrom_13 : decode prog_11_method_17_code 13 = .ok (.iconst 1, 1) := by decide +kernel
theorem d_Store_takeFrom_14 : decode prog_11_method_17_code 14 = .ok (.iand, 1) := by decide +kernel
theorem d_Store_takeFrom_15 : decode prog_11_method_17_code 15 = .ok (.ifCond .ne 5, 3) := by decide +kernel
theorem d_Store_takeFrom_18 : decode prog_11_method_17_code 18 = .ok (.iconst 0, 1) := by decide +kernel
theorem d_Store_takeFrom_19 : decode prog_11_method_17_code 19 = .ok (.ireturn, 1) := by decide +kernel
theorem d_Store_takeFrom_20 : decode prog_11_method_17_code 20 = .ok (.aload_n 0, 1) := by decide +kernel
theorem d_Store_takeFrom_21 : decode prog_11_method_17_code 21 = .ok (.getfield 16, 3) := by decide +kernel
theorem d_Store_takeFrom_24 : decode prog_11_method_17_code 24 = .ok (.iload_n 1, 1) := by decide +kernel
theorem d_Store_takeFrom_25 : decode prog_11_method_17_code 25 = .ok (.aload_n 0, 1) := by decide +kernel
theorem d_Store_takeFrom_26 : decode prog_11_method_17_code 26 = .ok (.getfield 9, 3) := by decide +kernel
theorem d_Store_takeFrom_29 : decode prog_11_method_17_code 29 = .ok (.iconst 0, 1) := by decide +kernel
theorem d_Store_takeFrom_30 : decode prog_11_method_17_code 30 = .ok (.invokestatic 33, 3) := by decide +kernel
theorem d_Store_takeFrom_33 : decode prog_11_method_17_code 33 = .ok (.aload_n 0, 1) := by decide +kernel
theorem d_Store_takeFrom_34 : decode prog_11_method_17_code 34 = .ok (.iconst 0, 1) := by decide +kernel
theorem d_Store_takeFrom_35 : decode prog_11_method_17_code 35 = .ok (.putfield 23, 3) := by decide +kernel
theorem d_Store_takeFrom_38 : decode prog_11_method_17_code 38 = .ok (.iconst 1, 1) := by decide +kernel
theorem d_Store_takeFrom_39 : decode prog_11_method_17_code 39 = .ok (.ireturn, 1) := by decide +kernel
def cf_Store_takeFrom (a0 : Int32) (w : Wd) (P : Int32 → Wd → Prop) : Prop :=
  cf_Store_isShelf a0 (fun r1 => ((r1 = 0 → P (0 : Int32) w) ∧ (¬ r1 = 0 → ((¬ ((ishr (w.1 6 5) a0) &&& (1 : Int32)) = 0 → cf_Store_copyRow 9 26 7 13 a0 (0 : Int32) w (fun w2 => ∀ w3, w3 = wI w2 6 3 (0 : Int32) → P (1 : Int32) w3)) ∧ (((ishr (w.1 6 5) a0) &&& (1 : Int32)) = 0 → P (0 : Int32) w)))))
theorem cf_Store_takeFrom_ok {g : ayG} {d : Nat} (hd : 2 ≤ d) (a0 : Int32)  (w : Wd) (P : Int32 → Wd → Prop) (h : cf_Store_takeFrom a0 w P) : Call g y_Store_takeFrom prog_11_method_17_code 2 (some FieldType.boolean) d [.ref (g.1 + 6), .int a0] w (fun (r : Option Value) (w2 : Wd) => ∃ x, r = some (.int x) ∧ P x w2) := by
  unfold cf_Store_takeFrom at h
  refine am_enter mi_Store_takeFrom (Nat.le_of_ble_eq_true rfl) ?_
  have hQ : ∀ x w2, P x w2 → (fun (r : Option Value) (w2 : Wd) => ∃ x, r = some (.int x) ∧ P x w2) (some (.int x)) w2 := fun x w2 h => ⟨x, rfl, h⟩
  generalize (fun (r : Option Value) (w2 : Wd) => ∃ x, r = some (.int x) ∧ P x w2) = Q at hQ ⊢
  show wp g (fun _ => True) y_Store_takeFrom prog_11_method_17_code 2 (some FieldType.boolean) d 0 [(0, .ref (g.1 + 6)), (1, .int a0)] [] w Q
  refine am_iload_n d_Store_takeFrom_0 1 rfl ?_
  refine am_callS (d2 := d - 1) [.int a0] d_Store_takeFrom_1 mi_Store_isShelf wd_622 wd_623 (by omega) rfl rfl (Nat.le_of_ble_eq_true rfl) ?_
  refine Call.post ?_ (cf_Store_isShelf_ok (by omega) a0  w _ h)
  rintro _ _ ⟨r1, rfl, rfl, h⟩
  show wp g (fun _ => True) y_Store_takeFrom prog_11_method_17_code 2 (some FieldType.boolean) d 4 [(0, .ref (g.1 + 6)), (1, .int a0)] [.int r1] w Q
  refine am_if_eq (tgt := 18) d_Store_takeFrom_4 (by decide) (fun c4 => ?_) (fun c4 => ?_)
  · have h := h.1 c4
    refine am_iconst (v := 0) d_Store_takeFrom_18 rfl ?_
    exact am_ireturn d_Store_takeFrom_19 rfl rfl (hQ (0 : Int32) w h)
  · have h := h.2 c4
    refine am_aload_n d_Store_takeFrom_7 0 rfl ?_
    refine am_getf (T := F_Store) (fs := ob_Store g w 6) (C := R_Store) (N := 6) (ci := 3) 5 d_Store_takeFrom_8 wd_88 rfl (by decide) (el_Store (show ay_sh 6 = _ from rfl)) rfl i_Store (by decide) rfl ?_
    refine am_iload_n d_Store_takeFrom_11 1 rfl ?_
    refine am_ishr d_Store_takeFrom_12 ?_
    refine am_iconst (v := 1) d_Store_takeFrom_13 rfl ?_
    refine am_iand d_Store_takeFrom_14 ?_
    refine am_if_ne (tgt := 20) d_Store_takeFrom_15 (by decide) (fun c15 => ?_) (fun c15 => ?_)
    · have h := h.1 c15
      refine am_aload_n d_Store_takeFrom_20 0 rfl ?_
      refine am_getf (T := F_Store) (fs := ob_Store g w 6) (C := R_Store) (N := 6) (ci := 3) 2 d_Store_takeFrom_21 wd_85 rfl (by decide) (el_Store (show ay_sh 6 = _ from rfl)) rfl i_Store (by decide) rfl ?_
      refine am_iload_n d_Store_takeFrom_24 1 rfl ?_
      refine am_aload_n d_Store_takeFrom_25 0 rfl ?_
      refine am_getf (T := F_Store) (fs := ob_Store g w 6) (C := R_Store) (N := 6) (ci := 3) 0 d_Store_takeFrom_26 wd_83 rfl (by decide) (el_Store (show ay_sh 6 = _ from rfl)) rfl i_Store (by decide) rfl ?_
      refine am_iconst (v := 0) d_Store_takeFrom_29 rfl ?_
      refine am_callS (d2 := d - 1) [.ref (g.1 + 9), .int a0, .ref (g.1 + 7), .int (0 : Int32)] d_Store_takeFrom_30 mi_Store_copyRow wd_422 wd_423 (by omega) rfl rfl (Nat.le_of_ble_eq_true rfl) ?_
      refine Call.post ?_ (cf_Store_copyRow_ok (by omega) 9 26 7 13 a0 (0 : Int32) (show ay_sh 9 = _ from rfl) (show ay_sh 7 = _ from rfl) w _ h)
      rintro _ w2 ⟨rfl, h⟩
      show wp g (fun _ => True) y_Store_takeFrom prog_11_method_17_code 2 (some FieldType.boolean) d 33 [(0, .ref (g.1 + 6)), (1, .int a0)] [] w2 Q
      refine am_aload_n d_Store_takeFrom_33 0 rfl ?_
      refine am_iconst (v := 0) d_Store_takeFrom_34 rfl ?_
      refine am_putf (w' := wI w2 6 3 (0 : Int32)) (ty := .int) (T := F_Store) (fs := ob_Store g w2 6) (C := R_Store) (N := 6) (ci := 3) 3 d_Store_takeFrom_35 wd_86 rfl (by decide) (el_Store (show ay_sh 6 = _ from rfl)) rfl i_Store (by decide) G_Store ty_Store n_Store rfl (ty_Store 3 (by decide)) rfl rfl (Nat.le_of_ble_eq_true rfl) ((el_Store (show ay_sh 6 = _ from rfl)).trans (by rw [pf_Store_undoable])) wI_o ?_
      obtain ⟨w3, ew3⟩ : ∃ z, z = wI w2 6 3 (0 : Int32) := ⟨_, rfl⟩
      rw [← ew3]
      have h := h w3 ew3
      refine am_iconst (v := 1) d_Store_takeFrom_38 rfl ?_
      exact am_ireturn d_Store_takeFrom_39 rfl rfl (hQ (1 : Int32) w3 h)
    · have h := h.2 c15
      refine am_iconst (v := 0) d_Store_takeFrom_18 rfl ?_
      exact am_ireturn d_Store_takeFrom_19 rfl rfl (hQ (0 : Int32) w h)
theorem d_Store_nonzeroPlaces_0 : decode prog_11_method_18_code 0 = .ok (.iconst 0, 1) := by decide +kernel
theorem d_Store_nonzeroPlaces_1 : decode prog_11_method_18_code 1 = .ok (.istore_n 1, 1) := by decide +kernel
theorem d_Store_nonzeroPlaces_2 : decode prog_11_method_18_code 2 = .ok (.iconst 0, 1) := by decide +kernel
theorem d_Store_nonzeroPlaces_3 : decode prog_11_method_18_code 3 = .ok (.istore_n 2, 1) := by decide +kernel
theorem d_Store_nonzeroPlaces_4 : decode prog_11_method_18_code 4 = .ok (.iload_n 2, 1) := by decide +kernel
theorem d_Store_nonzeroPlaces_5 : decode prog_11_method_18_code 5 = .ok (.bipush 10, 2) := by decide +kernel
theorem d_Store_nonzeroPlaces_7 : decode prog_11_method_18_code 7 = .ok (.if_icmp .ge 25, 3) := by decide +kernel
theorem d_Store_nonzeroPlaces_10 : decode prog_11_method_18_code 10 = .ok (.aload_n 0, 1) := by decide +kernel
theorem d_Store_nonzeroPlaces_11 : decode prog_11_method_18_code 11 = .ok (.iload_n 2, 1) := by decide +kernel
theorem d_Store_nonzeroPlaces_12 : decode prog_11_method_18_code 12 = .ok (.invokevirtual 46, 3) := by decide +kernel
theorem d_Store_nonzeroPlaces_15 : decode prog_11_method_18_code 15 = .ok (.lconst 0, 1) := by decide +kernel
theorem d_Store_nonzeroPlaces_16 : decode prog_11_method_18_code 16 = .ok (.lcmp, 1) := by decide +kernel
theorem d_Store_nonzeroPlaces_17 : decode prog_11_method_18_code 17 = .ok (.ifCond .eq 9, 3) := by decide +kernel
theorem d_Store_nonzeroPlaces_20 : decode prog_11_method_18_code 20 = .ok (.iload_n 1, 1) := by decide +kernel
theorem d_Store_nonzeroPlaces_21 : decode prog_11_method_18_code 21 = .ok (.iconst 1, 1) := by decide +kernel
theorem d_Store_nonzeroPlaces_22 : decode prog_11_method_18_code 22 = .ok (.iload_n 2, 1) := by decide +kernel
theorem d_Store_nonzeroPlaces_23 : decode prog_11_method_18_code 23 = .ok (.ishl, 1) := by decide +kernel
theorem d_Store_nonzeroPlaces_24 : decode prog_11_method_18_code 24 = .ok (.ior, 1) := by decide +kernel
theorem d_Store_nonzeroPlaces_25 : decode prog_11_method_18_code 25 = .ok (.istore_n 1, 1) := by decide +kernel
theorem d_Store_nonzeroPlaces_26 : decode prog_11_method_18_code 26 = .ok (.iinc 2 1, 3) := by decide +kernel
theorem d_Store_nonzeroPlaces_29 : decode prog_11_method_18_code 29 = .ok (.goto (-25), 3) := by decide +kernel
theorem d_Store_nonzeroPlaces_32 : decode prog_11_method_18_code 32 = .ok (.iload_n 1, 1) := by decide +kernel
theorem d_Store_nonzeroPlaces_33 : decode prog_11_method_18_code 33 = .ok (.ireturn, 1) := by decide +kernel
def cf_Store_nonzeroPlaces_B4  (w : Wd) (K4 : Int32 → Int32 → Prop) (P : Int32 → Prop) (x1 : Int32) (x2 : Int32)  : Prop :=
  (((10 : Int32) ≤ x2 → P x1) ∧ (¬ (10 : Int32) ≤ x2 → cf_Store_polyAt x2 w (fun r1 => ((r1 = (0 : Int64) → ∀ v2, v2 = x2 + (1 : Int32) → K4 x1 v2) ∧ (¬ r1 = (0 : Int64) → ∀ v3, v3 = x1 ||| (ishl (1 : Int32) x2) → ∀ v4, v4 = x2 + (1 : Int32) → K4 v3 v4)))))
def cf_Store_nonzeroPlaces_L4  (w : Wd)  (P : Int32 → Prop) : Nat → Int32 → Int32 → Prop
  | 0 => fun x1 x2 => False
  | n + 1 => fun x1 x2 => cf_Store_nonzeroPlaces_B4 w (cf_Store_nonzeroPlaces_L4 w P n) P x1 x2
def cf_Store_nonzeroPlaces  (w : Wd) (P : Int32 → Prop) : Prop :=
  ∃ n, cf_Store_nonzeroPlaces_L4 w P n (0 : Int32) (0 : Int32)
theorem cf_Store_nonzeroPlaces_B4_ok {g : ayG} {d : Nat} (hd : 2 ≤ d)   (w : Wd) (K4 : Int32 → Int32 → Prop) (P : Int32 → Prop) (Q : Option Value → Wd → Prop) (hQ : ∀ x, P x → Q (some (.int x)) w) (hK4 : ∀ (x1 : Int32) (x2 : Int32), (K4 x1 x2 → wp g (fun _ => True) y_Store_nonzeroPlaces prog_11_method_18_code 3 (some FieldType.int) d 4 [(0, .ref (g.1 + 6)), (1, .int x1), (2, .int x2)] [] w Q)) (x1 : Int32) (x2 : Int32) (h : cf_Store_nonzeroPlaces_B4 w K4 P x1 x2) : wp g (fun _ => True) y_Store_nonzeroPlaces prog_11_method_18_code 3 (some FieldType.int) d 4 [(0, .ref (g.1 + 6)), (1, .int x1), (2, .int x2)] [] w Q := by
  unfold cf_Store_nonzeroPlaces_B4 at h
  refine am_iload_n d_Store_nonzeroPlaces_4 2 rfl ?_
  refine am_bipush (v := 10) d_Store_nonzeroPlaces_5 rfl ?_
  refine am_icmp_ge (tgt := 32) d_Store_nonzeroPlaces_7 (by decide) (fun c7 => ?_) (fun c7 => ?_)
  · have h := h.1 c7
    refine am_iload_n d_Store_nonzeroPlaces_32 1 rfl ?_
    exact am_ireturn d_Store_nonzeroPlaces_33 rfl rfl (hQ x1 h)
  · have h := h.2 c7
    refine am_aload_n d_Store_nonzeroPlaces_10 0 rfl ?_
    refine am_iload_n d_Store_nonzeroPlaces_11 2 rfl ?_
    refine am_callV (C := "TriSplits$Store") (d2 := d - 1) [.int x2] d_Store_nonzeroPlaces_12 mi_Store_polyAt wd_1055 wd_259 wd_260 (by decide) (el_Store (show ay_sh 6 = _ from rfl)) rfl rfl (by omega) rfl rfl (Nat.le_of_ble_eq_true rfl) ?_
    refine Call.post ?_ (cf_Store_polyAt_ok (by omega) x2  w _ h)
    rintro _ _ ⟨r1, rfl, rfl, h⟩
    show wp g (fun _ => True) y_Store_nonzeroPlaces prog_11_method_18_code 3 (some FieldType.int) d 15 [(0, .ref (g.1 + 6)), (1, .int x1), (2, .int x2)] [.long r1] w Q
    refine am_lconst (v := 0) d_Store_nonzeroPlaces_15 rfl ?_
    refine am_lif_eq (tgt := 26) d_Store_nonzeroPlaces_16 d_Store_nonzeroPlaces_17 (by decide) (fun c16 => ?_) (fun c16 => ?_)
    · have h := h.1 c16
      obtain ⟨v2, ev2⟩ : ∃ z : Int32, z = x2 + (1 : Int32) := ⟨_, rfl⟩
      have h := h v2 ev2
      refine am_iinc (v := v2) (l' := [(2, .int v2), (0, .ref (g.1 + 6)), (1, .int x1)]) d_Store_nonzeroPlaces_26 2 rfl (by rw [ev2]; rfl) (by decide) rfl ?_
      refine am_goto (tgt := 4) d_Store_nonzeroPlaces_29 (by decide) ?_
      refine am_sub [1, 2, 0] rfl ?_
      exact hK4 x1 v2 h
    · have h := h.2 c16
      refine am_iload_n d_Store_nonzeroPlaces_20 1 rfl ?_
      refine am_iconst (v := 1) d_Store_nonzeroPlaces_21 rfl ?_
      refine am_iload_n d_Store_nonzeroPlaces_22 2 rfl ?_
      refine am_ishl d_Store_nonzeroPlaces_23 ?_
      refine am_ior d_Store_nonzeroPlaces_24 ?_
      refine am_topi (fun v3 ev3 => ?_)
      have h := h v3 ev3
      refine am_istore_n (l' := [(1, .int v3), (0, .ref (g.1 + 6)), (2, .int x2)]) d_Store_nonzeroPlaces_25 (by decide) rfl ?_
      obtain ⟨v4, ev4⟩ : ∃ z : Int32, z = x2 + (1 : Int32) := ⟨_, rfl⟩
      have h := h v4 ev4
      refine am_iinc (v := v4) (l' := [(2, .int v4), (1, .int v3), (0, .ref (g.1 + 6))]) d_Store_nonzeroPlaces_26 2 rfl (by rw [ev4]; rfl) (by decide) rfl ?_
      refine am_goto (tgt := 4) d_Store_nonzeroPlaces_29 (by decide) ?_
      refine am_sub [2, 1, 0] rfl ?_
      exact hK4 v3 v4 h
theorem cf_Store_nonzeroPlaces_L4_ok {g : ayG} {d : Nat} (hd : 2 ≤ d)   (w : Wd)  (P : Int32 → Prop) (Q : Option Value → Wd → Prop) (hQ : ∀ x, P x → Q (some (.int x)) w)  : ∀ (n : Nat) (x1 : Int32) (x2 : Int32) (h : cf_Store_nonzeroPlaces_L4 w P n x1 x2), wp g (fun _ => True) y_Store_nonzeroPlaces prog_11_method_18_code 3 (some FieldType.int) d 4 [(0, .ref (g.1 + 6)), (1, .int x1), (2, .int x2)] [] w Q
  | 0, x1, x2, h => False.elim h
  | n + 1, x1, x2, h => cf_Store_nonzeroPlaces_B4_ok hd   w (cf_Store_nonzeroPlaces_L4 w P n) P Q hQ (fun x1 x2 h => cf_Store_nonzeroPlaces_L4_ok hd   w  P Q hQ  n x1 x2 h) x1 x2 h
theorem cf_Store_nonzeroPlaces_ok {g : ayG} {d : Nat} (hd : 2 ≤ d)   (w : Wd) (P : Int32 → Prop) (h : cf_Store_nonzeroPlaces w P) : Call g y_Store_nonzeroPlaces prog_11_method_18_code 3 (some FieldType.int) d [.ref (g.1 + 6)] w (fun (r : Option Value) (w2 : Wd) => ∃ x, r = some (.int x) ∧ w = w2 ∧ P x) := by
  unfold cf_Store_nonzeroPlaces at h
  refine am_enter mi_Store_nonzeroPlaces (Nat.le_of_ble_eq_true rfl) ?_
  have hQ : ∀ x, P x → (fun (r : Option Value) (w2 : Wd) => ∃ x, r = some (.int x) ∧ w = w2 ∧ P x) (some (.int x)) w := fun x h => ⟨x, rfl, rfl, h⟩
  generalize (fun (r : Option Value) (w2 : Wd) => ∃ x, r = some (.int x) ∧ w = w2 ∧ P x) = Q at hQ ⊢
  show wp g (fun _ => True) y_Store_nonzeroPlaces prog_11_method_18_code 3 (some FieldType.int) d 0 [(0, .ref (g.1 + 6))] [] w Q
  refine am_iconst (v := 0) d_Store_nonzeroPlaces_0 rfl ?_
  refine am_istore_n (l' := [(1, .int (0 : Int32)), (0, .ref (g.1 + 6))]) d_Store_nonzeroPlaces_1 (by decide) rfl ?_
  refine am_iconst (v := 0) d_Store_nonzeroPlaces_2 rfl ?_
  refine am_istore_n (l' := [(2, .int (0 : Int32)), (1, .int (0 : Int32)), (0, .ref (g.1 + 6))]) d_Store_nonzeroPlaces_3 (by decide) rfl ?_
  refine am_sub [2, 1, 0] rfl ?_
  obtain ⟨n, h⟩ := h
  exact cf_Store_nonzeroPlaces_L4_ok (by omega)   w  P Q hQ  n (0 : Int32) (0 : Int32) h
theorem d_Store_irreduciblePlaces_0 : decode prog_11_method_19_code 0 = .ok (.iconst 0, 1) := by decide +kernel
theorem d_Store_irreduciblePlaces_1 : decode prog_11_method_19_code 1 = .ok (.istore_n 1, 1) := by decide +kernel
theorem d_Store_irreduciblePlaces_2 : decode prog_11_method_19_code 2 = .ok (.iconst 0, 1) := by decide +kernel
theorem d_Store_irreduciblePlaces_3 : decode prog_11_method_19_code 3 = .ok (.istore_n 2, 1) := by decide +kernel
theorem d_Store_irreduciblePlaces_4 : decode prog_11_method_19_code 4 = .ok (.iload_n 2, 1) := by decide +kernel
theorem d_Store_irreduciblePlaces_5 : decode prog_11_method_19_code 5 = .ok (.bipush 10, 2) := by decide +kernel
theorem d_Store_irreduciblePlaces_7 : decode prog_11_method_19_code 7 = .ok (.if_icmp .ge 26, 3) := by decide +kernel
theorem d_Store_irreduciblePlaces_10 : decode prog_11_method_19_code 10 = .ok (.aload_n 0, 1) := by decide +kernel
theorem d_Store_irreduciblePlaces_11 : decode prog_11_method_19_code 11 = .ok (.iload_n 2, 1) := by decide +kernel
theorem d_Store_irreduciblePlaces_12 : decode prog_11_method_19_code 12 = .ok (.invokevirtual 46, 3) := by decide +kernel
theorem d_Store_irreduciblePlaces_15 : decode prog_11_method_19_code 15 = .ok (.invokestatic 50, 3) := by decide +kernel
theorem d_Store_irreduciblePlaces_18 : decode prog_11_method_19_code 18 = .ok (.ifCond .eq 9, 3) := by decide +kernel
theorem d_Store_irreduciblePlaces_21 : decode prog_11_method_19_code 21 = .ok (.iload_n 1, 1) := by decide +kernel
theorem d_Store_irreduciblePlaces_22 : decode prog_11_method_19_code 22 = .ok (.iconst 1, 1) := by decide +kernel
theorem d_Store_irreduciblePlaces_23 : decode prog_11_method_19_code 23 = .ok (.iload_n 2, 1) := by decide +kernel
theorem d_Store_irreduciblePlaces_24 : decode prog_11_method_19_code 24 = .ok (.ishl, 1) := by decide +kernel
theorem d_Store_irreduciblePlaces_25 : decode prog_11_method_19_code 25 = .ok (.ior, 1) := by decide +kernel
theorem d_Store_irreduciblePlaces_26 : decode prog_11_method_19_code 26 = .ok (.istore_n 1, 1) := by decide +kernel
theorem d_Store_irreduciblePlaces_27 : decode prog_11_method_19_code 27 = .ok (.iinc 2 1, 3) := by decide +kernel
theorem d_Store_irreduciblePlaces_30 : decode prog_11_method_19_code 30 = .ok (.goto (-26), 3) := by decide +kernel
theorem d_Store_irreduciblePlaces_33 : decode prog_11_method_19_code 33 = .ok (.iload_n 1, 1) := by decide +kernel
theorem d_Store_irreduciblePlaces_34 : decode prog_11_method_19_code 34 = .ok (.ireturn, 1) := by decide +kernel
def cf_Store_irreduciblePlaces_B4  (w : Wd) (K4 : Int32 → Int32 → Prop) (P : Int32 → Prop) (x1 : Int32) (x2 : Int32)  : Prop :=
  (((10 : Int32) ≤ x2 → P x1) ∧ (¬ (10 : Int32) ≤ x2 → cf_Store_polyAt x2 w (fun r1 => cf_Polys_isIrreducible r1 (fun r2 => ((r2 = 0 → ∀ v3, v3 = x2 + (1 : Int32) → K4 x1 v3) ∧ (¬ r2 = 0 → ∀ v4, v4 = x1 ||| (ishl (1 : Int32) x2) → ∀ v5, v5 = x2 + (1 : Int32) → K4 v4 v5))))))
def cf_Store_irreduciblePlaces_L4  (w : Wd)  (P : Int32 → Prop) : Nat → Int32 → Int32 → Prop
  | 0 => fun x1 x2 => False
  | n + 1 => fun x1 x2 => cf_Store_irreduciblePlaces_B4 w (cf_Store_irreduciblePlaces_L4 w P n) P x1 x2
def cf_Store_irreduciblePlaces  (w : Wd) (P : Int32 → Prop) : Prop :=
  ∃ n, cf_Store_irreduciblePlaces_L4 w P n (0 : Int32) (0 : Int32)
theorem cf_Store_irreduciblePlaces_B4_ok {g : ayG} {d : Nat} (hd : 5 ≤ d)   (w : Wd) (K4 : Int32 → Int32 → Prop) (P : Int32 → Prop) (Q : Option Value → Wd → Prop) (hQ : ∀ x, P x → Q (some (.int x)) w) (hK4 : ∀ (x1 : Int32) (x2 : Int32), (K4 x1 x2 → wp g (fun _ => True) y_Store_irreduciblePlaces prog_11_method_19_code 3 (some FieldType.int) d 4 [(0, .ref (g.1 + 6)), (1, .int x1), (2, .int x2)] [] w Q)) (x1 : Int32) (x2 : Int32) (h : cf_Store_irreduciblePlaces_B4 w K4 P x1 x2) : wp g (fun _ => True) y_Store_irreduciblePlaces prog_11_method_19_code 3 (some FieldType.int) d 4 [(0, .ref (g.1 + 6)), (1, .int x1), (2, .int x2)] [] w Q := by
  unfold cf_Store_irreduciblePlaces_B4 at h
  refine am_iload_n d_Store_irreduciblePlaces_4 2 rfl ?_
  refine am_bipush (v := 10) d_Store_irreduciblePlaces_5 rfl ?_
  refine am_icmp_ge (tgt := 33) d_Store_irreduciblePlaces_7 (by decide) (fun c7 => ?_) (fun c7 => ?_)
  · have h := h.1 c7
    refine am_iload_n d_Store_irreduciblePlaces_33 1 rfl ?_
    exact am_ireturn d_Store_irreduciblePlaces_34 rfl rfl (hQ x1 h)
  · have h := h.2 c7
    refine am_aload_n d_Store_irreduciblePlaces_10 0 rfl ?_
    refine am_iload_n d_Store_irreduciblePlaces_11 2 rfl ?_
    refine am_callV (C := "TriSplits$Store") (d2 := d - 1) [.int x2] d_Store_irreduciblePlaces_12 mi_Store_polyAt wd_1055 wd_259 wd_260 (by decide) (el_Store (show ay_sh 6 = _ from rfl)) rfl rfl (by omega) rfl rfl (Nat.le_of_ble_eq_true rfl) ?_
    refine Call.post ?_ (cf_Store_polyAt_ok (by omega) x2  w _ h)
    rintro _ _ ⟨r1, rfl, rfl, h⟩
    show wp g (fun _ => True) y_Store_irreduciblePlaces prog_11_method_19_code 3 (some FieldType.int) d 15 [(0, .ref (g.1 + 6)), (1, .int x1), (2, .int x2)] [.long r1] w Q
    refine am_callS (d2 := d - 1) [.long r1] d_Store_irreduciblePlaces_15 mi_Polys_isIrreducible wd_1064 wd_644 (by omega) rfl rfl (Nat.le_of_ble_eq_true rfl) ?_
    refine Call.post ?_ (cf_Polys_isIrreducible_ok (by omega) r1  w _ h)
    rintro _ _ ⟨r2, rfl, rfl, h⟩
    show wp g (fun _ => True) y_Store_irreduciblePlaces prog_11_method_19_code 3 (some FieldType.int) d 18 [(0, .ref (g.1 + 6)), (1, .int x1), (2, .int x2)] [.int r2] w Q
    refine am_if_eq (tgt := 27) d_Store_irreduciblePlaces_18 (by decide) (fun c18 => ?_) (fun c18 => ?_)
    · have h := h.1 c18
      obtain ⟨v3, ev3⟩ : ∃ z : Int32, z = x2 + (1 : Int32) := ⟨_, rfl⟩
      have h := h v3 ev3
      refine am_iinc (v := v3) (l' := [(2, .int v3), (0, .ref (g.1 + 6)), (1, .int x1)]) d_Store_irreduciblePlaces_27 2 rfl (by rw [ev3]; rfl) (by decide) rfl ?_
      refine am_goto (tgt := 4) d_Store_irreduciblePlaces_30 (by decide) ?_
      refine am_sub [1, 2, 0] rfl ?_
      exact hK4 x1 v3 h
    · have h := h.2 c18
      refine am_iload_n d_Store_irreduciblePlaces_21 1 rfl ?_
      refine am_iconst (v := 1) d_Store_irreduciblePlaces_22 rfl ?_
      refine am_iload_n d_Store_irreduciblePlaces_23 2 rfl ?_
      refine am_ishl d_Store_irreduciblePlaces_24 ?_
      refine am_ior d_Store_irreduciblePlaces_25 ?_
      refine am_topi (fun v4 ev4 => ?_)
      have h := h v4 ev4
      refine am_istore_n (l' := [(1, .int v4), (0, .ref (g.1 + 6)), (2, .int x2)]) d_Store_irreduciblePlaces_26 (by decide) rfl ?_
      obtain ⟨v5, ev5⟩ : ∃ z : Int32, z = x2 + (1 : Int32) := ⟨_, rfl⟩
      have h := h v5 ev5
      refine am_iinc (v := v5) (l' := [(2, .int v5), (1, .int v4), (0, .ref (g.1 + 6))]) d_Store_irreduciblePlaces_27 2 rfl (by rw [ev5]; rfl) (by decide) rfl ?_
      refine am_goto (tgt := 4) d_Store_irreduciblePlaces_30 (by decide) ?_
      refine am_sub [2, 1, 0] rfl ?_
      exact hK4 v4 v5 h
theorem cf_Store_irreduciblePlaces_L4_ok {g : ayG} {d : Nat} (hd : 5 ≤ d)   (w : Wd)  (P : Int32 → Prop) (Q : Option Value → Wd → Prop) (hQ : ∀ x, P x → Q (some (.int x)) w)  : ∀ (n : Nat) (x1 : Int32) (x2 : Int32) (h : cf_Store_irreduciblePlaces_L4 w P n x1 x2), wp g (fun _ => True) y_Store_irreduciblePlaces prog_11_method_19_code 3 (some FieldType.int) d 4 [(0, .ref (g.1 + 6)), (1, .int x1), (2, .int x2)] [] w Q
  | 0, x1, x2, h => False.elim h
  | n + 1, x1, x2, h => cf_Store_irreduciblePlaces_B4_ok hd   w (cf_Store_irreduciblePlaces_L4 w P n) P Q hQ (fun x1 x2 h => cf_Store_irreduciblePlaces_L4_ok hd   w  P Q hQ  n x1 x2 h) x1 x2 h
theorem cf_Store_irreduciblePlaces_ok {g : ayG} {d : Nat} (hd : 5 ≤ d)   (w : Wd) (P : Int32 → Prop) (h : cf_Store_irreduciblePlaces w P) : Call g y_Store_irreduciblePlaces prog_11_method_19_code 3 (some FieldType.int) d [.ref (g.1 + 6)] w (fun (r : Option Value) (w2 : Wd) => ∃ x, r = some (.int x) ∧ w = w2 ∧ P x) := by
  unfold cf_Store_irreduciblePlaces at h
  refine am_enter mi_Store_irreduciblePlaces (Nat.le_of_ble_eq_true rfl) ?_
  have hQ : ∀ x, P x → (fun (r : Option Value) (w2 : Wd) => ∃ x, r = some (.int x) ∧ w = w2 ∧ P x) (some (.int x)) w := fun x h => ⟨x, rfl, rfl, h⟩
  generalize (fun (r : Option Value) (w2 : Wd) => ∃ x, r = some (.int x) ∧ w = w2 ∧ P x) = Q at hQ ⊢
  show wp g (fun _ => True) y_Store_irreduciblePlaces prog_11_method_19_code 3 (some FieldType.int) d 0 [(0, .ref (g.1 + 6))] [] w Q
  refine am_iconst (v := 0) d_Store_irreduciblePlaces_0 rfl ?_
  refine am_istore_n (l' := [(1, .int (0 : Int32)), (0, .ref (g.1 + 6))]) d_Store_irreduciblePlaces_1 (by decide) rfl ?_
  refine am_iconst (v := 0) d_Store_irreduciblePlaces_2 rfl ?_
  refine am_istore_n (l' := [(2, .int (0 : Int32)), (1, .int (0 : Int32)), (0, .ref (g.1 + 6))]) d_Store_irreduciblePlaces_3 (by decide) rfl ?_
  refine am_sub [2, 1, 0] rfl ?_
  obtain ⟨n, h⟩ := h
  exact cf_Store_irreduciblePlaces_L4_ok (by omega)   w  P Q hQ  n (0 : Int32) (0 : Int32) h
theorem d_Store_allWeights_0 : decode prog_11_method_20_code 0 = .ok (.iconst 0, 1) := by decide +kernel
theorem d_Store_allWeights_1 : decode prog_11_method_20_code 1 = .ok (.istore_n 1, 1) := by decide +kernel
theorem d_Store_allWeights_2 : decode prog_11_method_20_code 2 = .ok (.iconst 0, 1) := by decide +kernel
theorem d_Store_allWeights_3 : decode prog_11_method_20_code 3 = .ok (.istore_n 2, 1) := by decide +kernel
theorem d_Store_allWeights_4 : decode prog_11_method_20_code 4 = .ok (.iload_n 2, 1) := by decide +kernel
theorem d_Store_allWeights_5 : decode prog_11_method_20_code 5 = .ok (.bipush 10, 2) := by decide +kernel
theorem d_Store_allWeights_7 : decode prog_11_method_20_code 7 = .ok (.if_icmp .ge 20, 3) := by decide +kernel
theorem d_Store_allWeights_10 : decode prog_11_method_20_code 10 = .ok (.iload_n 1, 1) := by decide +kernel
theorem d_Store_allWeights_11 : decode prog_11_method_20_code 11 = .ok (.aload_n 0, 1) := by decide +kernel
theorem d_Store_allWeights_12 : decode prog_11_method_20_code 12 = .ok (.iload_n 2, 1) := by decide +kernel
theorem d_Store_allWeights_13 : decode prog_11_method_20_code 13 = .ok (.invokevirtual 46, 3) := by decide +kernel
theorem d_Store_allWeights_16 : decode prog_11_method_20_code 16 = .ok (.invokestatic 56, 3) := by decide +kernel
theorem d_Store_allWeights_19 : decode prog_11_method_20_code 19 = .ok (.iadd, 1) := by decide +kernel
theorem d_Store_allWeights_20 : decode prog_11_method_20_code 20 = .ok (.istore_n 1, 1) := by decide +kernel
theorem d_Store_allWeights_21 : decode prog_11_method_20_code 21 = .ok (.iinc 2 1, 3) := by decide +kernel
theorem d_Store_allWeights_24 : decode prog_11_method_20_code 24 = .ok (.goto (-20), 3) := by decide +kernel
theorem d_Store_allWeights_27 : decode prog_11_method_20_code 27 = .ok (.iload_n 1, 1) := by decide +kernel
theorem d_Store_allWeights_28 : decode prog_11_method_20_code 28 = .ok (.ireturn, 1) := by decide +kernel
def cf_Store_allWeights_B4  (w : Wd) (K4 : Int32 → Int32 → Prop) (P : Int32 → Prop) (x1 : Int32) (x2 : Int32)  : Prop :=
  (((10 : Int32) ≤ x2 → P x1) ∧ (¬ (10 : Int32) ≤ x2 → cf_Store_polyAt x2 w (fun r1 => cf_Long_bitCount r1 (fun r2 => ∀ v3, v3 = x1 + r2 → ∀ v4, v4 = x2 + (1 : Int32) → K4 v3 v4))))
def cf_Store_allWeights_L4  (w : Wd)  (P : Int32 → Prop) : Nat → Int32 → Int32 → Prop
  | 0 => fun x1 x2 => False
  | n + 1 => fun x1 x2 => cf_Store_allWeights_B4 w (cf_Store_allWeights_L4 w P n) P x1 x2
def cf_Store_allWeights  (w : Wd) (P : Int32 → Prop) : Prop :=
  ∃ n, cf_Store_allWeights_L4 w P n (0 : Int32) (0 : Int32)
theorem cf_Store_allWeights_B4_ok {g : ayG} {d : Nat} (hd : 2 ≤ d)   (w : Wd) (K4 : Int32 → Int32 → Prop) (P : Int32 → Prop) (Q : Option Value → Wd → Prop) (hQ : ∀ x, P x → Q (some (.int x)) w) (hK4 : ∀ (x1 : Int32) (x2 : Int32), (K4 x1 x2 → wp g (fun _ => True) y_Store_allWeights prog_11_method_20_code 3 (some FieldType.int) d 4 [(0, .ref (g.1 + 6)), (1, .int x1), (2, .int x2)] [] w Q)) (x1 : Int32) (x2 : Int32) (h : cf_Store_allWeights_B4 w K4 P x1 x2) : wp g (fun _ => True) y_Store_allWeights prog_11_method_20_code 3 (some FieldType.int) d 4 [(0, .ref (g.1 + 6)), (1, .int x1), (2, .int x2)] [] w Q := by
  unfold cf_Store_allWeights_B4 at h
  refine am_iload_n d_Store_allWeights_4 2 rfl ?_
  refine am_bipush (v := 10) d_Store_allWeights_5 rfl ?_
  refine am_icmp_ge (tgt := 27) d_Store_allWeights_7 (by decide) (fun c7 => ?_) (fun c7 => ?_)
  · have h := h.1 c7
    refine am_iload_n d_Store_allWeights_27 1 rfl ?_
    exact am_ireturn d_Store_allWeights_28 rfl rfl (hQ x1 h)
  · have h := h.2 c7
    refine am_iload_n d_Store_allWeights_10 1 rfl ?_
    refine am_aload_n d_Store_allWeights_11 0 rfl ?_
    refine am_iload_n d_Store_allWeights_12 2 rfl ?_
    refine am_callV (C := "TriSplits$Store") (d2 := d - 1) [.int x2] d_Store_allWeights_13 mi_Store_polyAt wd_1055 wd_259 wd_260 (by decide) (el_Store (show ay_sh 6 = _ from rfl)) rfl rfl (by omega) rfl rfl (Nat.le_of_ble_eq_true rfl) ?_
    refine Call.post ?_ (cf_Store_polyAt_ok (by omega) x2  w _ h)
    rintro _ _ ⟨r1, rfl, rfl, h⟩
    show wp g (fun _ => True) y_Store_allWeights prog_11_method_20_code 3 (some FieldType.int) d 16 [(0, .ref (g.1 + 6)), (1, .int x1), (2, .int x2)] [.long r1, .int x1] w Q
    refine am_callS (d2 := d - 1) [.long r1] d_Store_allWeights_16 mi_Long_bitCount wd_1069 wd_582 (by omega) rfl rfl (Nat.le_of_ble_eq_true rfl) ?_
    refine Call.post ?_ (cf_Long_bitCount_ok (by omega) r1  w _ h)
    rintro _ _ ⟨r2, rfl, rfl, h⟩
    show wp g (fun _ => True) y_Store_allWeights prog_11_method_20_code 3 (some FieldType.int) d 19 [(0, .ref (g.1 + 6)), (1, .int x1), (2, .int x2)] [.int r2, .int x1] w Q
    refine am_iadd d_Store_allWeights_19 ?_
    refine am_topi (fun v3 ev3 => ?_)
    have h := h v3 ev3
    refine am_istore_n (l' := [(1, .int v3), (0, .ref (g.1 + 6)), (2, .int x2)]) d_Store_allWeights_20 (by decide) rfl ?_
    obtain ⟨v4, ev4⟩ : ∃ z : Int32, z = x2 + (1 : Int32) := ⟨_, rfl⟩
    have h := h v4 ev4
    refine am_iinc (v := v4) (l' := [(2, .int v4), (1, .int v3), (0, .ref (g.1 + 6))]) d_Store_allWeights_21 2 rfl (by rw [ev4]; rfl) (by decide) rfl ?_
    refine am_goto (tgt := 4) d_Store_allWeights_24 (by decide) ?_
    refine am_sub [2, 1, 0] rfl ?_
    exact hK4 v3 v4 h
theorem cf_Store_allWeights_L4_ok {g : ayG} {d : Nat} (hd : 2 ≤ d)   (w : Wd)  (P : Int32 → Prop) (Q : Option Value → Wd → Prop) (hQ : ∀ x, P x → Q (some (.int x)) w)  : ∀ (n : Nat) (x1 : Int32) (x2 : Int32) (h : cf_Store_allWeights_L4 w P n x1 x2), wp g (fun _ => True) y_Store_allWeights prog_11_method_20_code 3 (some FieldType.int) d 4 [(0, .ref (g.1 + 6)), (1, .int x1), (2, .int x2)] [] w Q
  | 0, x1, x2, h => False.elim h
  | n + 1, x1, x2, h => cf_Store_allWeights_B4_ok hd   w (cf_Store_allWeights_L4 w P n) P Q hQ (fun x1 x2 h => cf_Store_allWeights_L4_ok hd   w  P Q hQ  n x1 x2 h) x1 x2 h
theorem cf_Store_allWeights_ok {g : ayG} {d : Nat} (hd : 2 ≤ d)   (w : Wd) (P : Int32 → Prop) (h : cf_Store_allWeights w P) : Call g y_Store_allWeights prog_11_method_20_code 3 (some FieldType.int) d [.ref (g.1 + 6)] w (fun (r : Option Value) (w2 : Wd) => ∃ x, r = some (.int x) ∧ w = w2 ∧ P x) := by
  unfold cf_Store_allWeights at h
  refine am_enter mi_Store_allWeights (Nat.le_of_ble_eq_true rfl) ?_
  have hQ : ∀ x, P x → (fun (r : Option Value) (w2 : Wd) => ∃ x, r = some (.int x) ∧ w = w2 ∧ P x) (some (.int x)) w := fun x h => ⟨x, rfl, rfl, h⟩
  generalize (fun (r : Option Value) (w2 : Wd) => ∃ x, r = some (.int x) ∧ w = w2 ∧ P x) = Q at hQ ⊢
  show wp g (fun _ => True) y_Store_allWeights prog_11_method_20_code 3 (some FieldType.int) d 0 [(0, .ref (g.1 + 6))] [] w Q
  refine am_iconst (v := 0) d_Store_allWeights_0 rfl ?_
  refine am_istore_n (l' := [(1, .int (0 : Int32)), (0, .ref (g.1 + 6))]) d_Store_allWeights_1 (by decide) rfl ?_
  refine am_iconst (v := 0) d_Store_allWeights_2 rfl ?_
  refine am_istore_n (l' := [(2, .int (0 : Int32)), (1, .int (0 : Int32)), (0, .ref (g.1 + 6))]) d_Store_allWeights_3 (by decide) rfl ?_
  refine am_sub [2, 1, 0] rfl ?_
  obtain ⟨n, h⟩ := h
  exact cf_Store_allWeights_L4_ok (by omega)   w  P Q hQ  n (0 : Int32) (0 : Int32) h
