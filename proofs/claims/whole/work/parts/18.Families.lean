-- bytecode as predicates, by program (wip/whole/gen/extract.py)
theorem mi_Families_countTris : ay_MI y_Families_countTris prog_3_method_2_code 5 (some FieldType.int) 2 := ⟨wd_927, wd_7, by decide +kernel, by decide +kernel, by decide⟩
theorem mi_Families_triAt : ay_MI y_Families_triAt prog_3_method_3_code 6 (some FieldType.int) 3 := ⟨wd_933, wd_7, by decide +kernel, by decide +kernel, by decide⟩
theorem mi_Families_leastOfWeight : ay_MI y_Families_leastOfWeight prog_3_method_11_code 13 (some FieldType.long) 3 := ⟨wd_945, wd_7, by decide +kernel, by decide +kernel, by decide⟩
theorem mi_Families_lightest : ay_MI y_Families_lightest prog_3_method_4_code 6 (some FieldType.long) 2 := ⟨wd_941, wd_7, by decide +kernel, by decide +kernel, by decide⟩
theorem mi_Families_nextAbove : ay_MI y_Families_nextAbove prog_3_method_5_code 6 (some FieldType.long) 2 := ⟨wd_988, wd_7, by decide +kernel, by decide +kernel, by decide⟩
theorem mi_Families_signOf : ay_MI y_Families_signOf prog_3_method_12_code 4 (some FieldType.int) 1 := ⟨wd_967, wd_7, by decide +kernel, by decide +kernel, by decide⟩
theorem mi_Families_countIrreducible : ay_MI y_Families_countIrreducible prog_3_method_6_code 4 (some FieldType.long) 1 := ⟨wd_964, wd_7, by decide +kernel, by decide +kernel, by decide⟩
theorem mi_Families_swanOfEven : ay_MI y_Families_swanOfEven prog_3_method_9_code 2 (some FieldType.int) 2 := ⟨wd_868, wd_7, by decide +kernel, by decide +kernel, by decide⟩
theorem mi_Families_swanOfOdd : ay_MI y_Families_swanOfOdd prog_3_method_10_code 4 (some FieldType.int) 2 := ⟨wd_871, wd_7, by decide +kernel, by decide +kernel, by decide⟩
theorem mi_Families_swanParity : ay_MI y_Families_swanParity prog_3_method_7_code 2 (some FieldType.int) 2 := ⟨wd_865, wd_7, by decide +kernel, by decide +kernel, by decide⟩
theorem mi_Families_countEven : ay_MI y_Families_countEven prog_3_method_8_code 3 (some FieldType.int) 1 := ⟨wd_878, wd_7, by decide +kernel, by decide +kernel, by decide⟩
theorem d_Families_countTris_0 : decode prog_3_method_2_code 0 = .ok (.iconst 0, 1) := by decide +kernel
theorem d_Families_countTris_1 : decode prog_3_method_2_code 1 = .ok (.istore_n 3, 1) := by decide +kernel
theorem d_Families_countTris_2 : decode prog_3_method_2_code 2 = .ok (.iconst 1, 1) := by decide +kernel
theorem d_Families_countTris_3 : decode prog_3_method_2_code 3 = .ok (.istore 4, 2) := by decide +kernel
theorem d_Families_countTris_5 : decode prog_3_method_2_code 5 = .ok (.iload 4, 2) := by decide +kernel
theorem d_Families_countTris_7 : decode prog_3_method_2_code 7 = .ok (.iload_n 1, 1) := by decide +kernel
theorem d_Families_countTris_8 : decode prog_3_method_2_code 8 = .ok (.if_icmp .ge 29, 3) := by decide +kernel
theorem d_Families_countTris_11 : decode prog_3_method_2_code 11 = .ok (.aload_n 0, 1) := by decide +kernel
theorem d_Families_countTris_12 : decode prog_3_method_2_code 12 = .ok (.getfield 12, 3) := by decide +kernel
theorem d_Families_countTris_15 : decode prog_3_method_2_code 15 = .ok (.iload_n 1, 1) := by decide +kernel
theorem d_Families_countTris_16 : decode prog_3_method_2_code 16 = .ok (.iload 4, 2) := by decide +kernel
theorem d_Families_countTris_18 : decode prog_3_method_2_code 18 = .ok (.invokestatic 18, 3) := by decide +kernel
theorem d_Families_countTris_21 : decode prog_3_method_2_code 21 = .ok (.iload_n 2, 1) := by decide +kernel
theorem d_Families_countTris_22 : decode prog_3_method_2_code 22 = .ok (.invokevirtual 24, 3) := by decide +kernel
theorem d_Families_countTris_25 : decode prog_3_method_2_code 25 = .ok (.ifCond .eq 6, 3) := by decide +kernel
theorem d_Families_countTris_28 : decode prog_3_method_2_code 28 = .ok (.iinc 3 1, 3) := by decide +kernel
theorem d_Families_countTris_31 : decode prog_3_method_2_code 31 = .ok (.iinc 4 1, 3) := by decide +kernel
theorem d_Families_countTris_34 : decode prog_3_method_2_code 34 = .ok (.goto (-29), 3) := by decide +kernel
theorem d_Families_countTris_37 : decode prog_3_method_2_code 37 = .ok (.iload_n 3, 1) := by decide +kernel
theorem d_Families_countTris_38 : decode prog_3_method_2_code 38 = .ok (.ireturn, 1) := by decide +kernel
def cf_Families_countTris_B5  (K5 : Int32 → Int32 → Int32 → Int32 → Wd → Prop) (P : Int32 → Wd → Prop) (x1 : Int32) (x2 : Int32) (x3 : Int32) (x4 : Int32) (w : Wd) : Prop :=
  ((x1 ≤ x4 → P x3 w) ∧ (¬ x1 ≤ x4 → cf_Polys_tri x1 x4 (fun r1 => cf_Orders_isSought 21 r1 x2 w (fun r2 w3 => ((r2 = 0 → ∀ v4, v4 = x4 + (1 : Int32) → K5 x1 x2 x3 v4 w3) ∧ (¬ r2 = 0 → ∀ v5, v5 = x3 + (1 : Int32) → ∀ v6, v6 = x4 + (1 : Int32) → K5 x1 x2 v5 v6 w3))))))
def cf_Families_countTris_L5   (P : Int32 → Wd → Prop) : Nat → Int32 → Int32 → Int32 → Int32 → Wd → Prop
  | 0 => fun x1 x2 x3 x4 w => False
  | n + 1 => fun x1 x2 x3 x4 w => cf_Families_countTris_B5 (cf_Families_countTris_L5 P n) P x1 x2 x3 x4 w
def cf_Families_countTris (a0 : Int32) (a1 : Int32) (w : Wd) (P : Int32 → Wd → Prop) : Prop :=
  ∃ n, cf_Families_countTris_L5 P n a0 a1 (0 : Int32) (1 : Int32) w
theorem cf_Families_countTris_B5_ok {g : ayG} {d : Nat} (hd : 6 ≤ d)   (w : Wd) (K5 : Int32 → Int32 → Int32 → Int32 → Wd → Prop) (P : Int32 → Wd → Prop) (Q : Option Value → Wd → Prop) (hQ : ∀ x w2, P x w2 → Q (some (.int x)) w2) (hK5 : ∀ (x1 : Int32) (x2 : Int32) (x3 : Int32) (x4 : Int32) (w : Wd), (K5 x1 x2 x3 x4 w → wp g (fun _ => True) y_Families_countTris prog_3_method_2_code 5 (some FieldType.int) d 5 [(0, .ref (g.1 + 20)), (1, .int x1), (2, .int x2), (3, .int x3), (4, .int x4)] [] w Q)) (x1 : Int32) (x2 : Int32) (x3 : Int32) (x4 : Int32) (h : cf_Families_countTris_B5 K5 P x1 x2 x3 x4 w) : wp g (fun _ => True) y_Families_countTris prog_3_method_2_code 5 (some FieldType.int) d 5 [(0, .ref (g.1 + 20)), (1, .int x1), (2, .int x2), (3, .int x3), (4, .int x4)] [] w Q := by
  unfold cf_Families_countTris_B5 at h
  refine am_iload d_Families_countTris_5 4 rfl ?_
  refine am_iload_n d_Families_countTris_7 1 rfl ?_
  refine am_icmp_ge (tgt := 37) d_Families_countTris_8 (by decide) (fun c8 => ?_) (fun c8 => ?_)
  · have h := h.1 c8
    refine am_iload_n d_Families_countTris_37 3 rfl ?_
    exact am_ireturn d_Families_countTris_38 rfl rfl (hQ x3 w h)
  · have h := h.2 c8
    refine am_aload_n d_Families_countTris_11 0 rfl ?_
    refine am_getf (T := F_Families) (fs := ob_Families g w 20) (C := R_Families) (N := 1) (ci := 6) 0 d_Families_countTris_12 wd_145 rfl (by decide) (el_Families (show ay_sh 20 = _ from rfl)) rfl i_Families (by decide) rfl ?_
    refine am_iload_n d_Families_countTris_15 1 rfl ?_
    refine am_iload d_Families_countTris_16 4 rfl ?_
    refine am_callS (d2 := d - 1) [.int x1, .int x4] d_Families_countTris_18 mi_Polys_tri wd_928 wd_384 (by omega) rfl rfl (Nat.le_of_ble_eq_true rfl) ?_
    refine Call.post ?_ (cf_Polys_tri_ok (by omega) x1 x4  w _ h)
    rintro _ _ ⟨r1, rfl, rfl, h⟩
    show wp g (fun _ => True) y_Families_countTris prog_3_method_2_code 5 (some FieldType.int) d 21 [(0, .ref (g.1 + 20)), (1, .int x1), (2, .int x2), (3, .int x3), (4, .int x4)] [.long r1, .ref (g.1 + 21)] w Q
    refine am_iload_n d_Families_countTris_21 2 rfl ?_
    refine am_callV (C := "TriSplits$Orders") (d2 := d - 1) [.long r1, .int x2] d_Families_countTris_22 mi_Orders_isSought wd_929 wd_653 wd_654 (by decide) (el_Orders (show ay_sh 21 = _ from rfl)) rfl rfl (by omega) rfl rfl (Nat.le_of_ble_eq_true rfl) ?_
    refine Call.post ?_ (cf_Orders_isSought_ok (by omega) 21 r1 x2 (show ay_sh 21 = _ from rfl) w _ h)
    rintro _ w3 ⟨r2, rfl, h⟩
    show wp g (fun _ => True) y_Families_countTris prog_3_method_2_code 5 (some FieldType.int) d 25 [(0, .ref (g.1 + 20)), (1, .int x1), (2, .int x2), (3, .int x3), (4, .int x4)] [.int r2] w3 Q
    refine am_if_eq (tgt := 31) d_Families_countTris_25 (by decide) (fun c25 => ?_) (fun c25 => ?_)
    · have h := h.1 c25
      obtain ⟨v4, ev4⟩ : ∃ z : Int32, z = x4 + (1 : Int32) := ⟨_, rfl⟩
      have h := h v4 ev4
      refine am_iinc (v := v4) (l' := [(4, .int v4), (0, .ref (g.1 + 20)), (1, .int x1), (2, .int x2), (3, .int x3)]) d_Families_countTris_31 4 rfl (by rw [ev4]; rfl) (by decide) rfl ?_
      refine am_goto (tgt := 5) d_Families_countTris_34 (by decide) ?_
      refine am_sub [1, 2, 3, 4, 0] rfl ?_
      exact hK5 x1 x2 x3 v4 w3 h
    · have h := h.2 c25
      obtain ⟨v5, ev5⟩ : ∃ z : Int32, z = x3 + (1 : Int32) := ⟨_, rfl⟩
      have h := h v5 ev5
      refine am_iinc (v := v5) (l' := [(3, .int v5), (0, .ref (g.1 + 20)), (1, .int x1), (2, .int x2), (4, .int x4)]) d_Families_countTris_28 3 rfl (by rw [ev5]; rfl) (by decide) rfl ?_
      obtain ⟨v6, ev6⟩ : ∃ z : Int32, z = x4 + (1 : Int32) := ⟨_, rfl⟩
      have h := h v6 ev6
      refine am_iinc (v := v6) (l' := [(4, .int v6), (3, .int v5), (0, .ref (g.1 + 20)), (1, .int x1), (2, .int x2)]) d_Families_countTris_31 4 rfl (by rw [ev6]; rfl) (by decide) rfl ?_
      refine am_goto (tgt := 5) d_Families_countTris_34 (by decide) ?_
      refine am_sub [2, 3, 4, 1, 0] rfl ?_
      exact hK5 x1 x2 v5 v6 w3 h
theorem cf_Families_countTris_L5_ok {g : ayG} {d : Nat} (hd : 6 ≤ d)    (P : Int32 → Wd → Prop) (Q : Option Value → Wd → Prop) (hQ : ∀ x w2, P x w2 → Q (some (.int x)) w2)  : ∀ (n : Nat) (x1 : Int32) (x2 : Int32) (x3 : Int32) (x4 : Int32) (w : Wd) (h : cf_Families_countTris_L5 P n x1 x2 x3 x4 w), wp g (fun _ => True) y_Families_countTris prog_3_method_2_code 5 (some FieldType.int) d 5 [(0, .ref (g.1 + 20)), (1, .int x1), (2, .int x2), (3, .int x3), (4, .int x4)] [] w Q
  | 0, x1, x2, x3, x4, w, h => False.elim h
  | n + 1, x1, x2, x3, x4, w, h => cf_Families_countTris_B5_ok hd   w (cf_Families_countTris_L5 P n) P Q hQ (fun x1 x2 x3 x4 w h => cf_Families_countTris_L5_ok hd    P Q hQ  n x1 x2 x3 x4 w h) x1 x2 x3 x4 h
theorem cf_Families_countTris_ok {g : ayG} {d : Nat} (hd : 6 ≤ d) (a0 : Int32) (a1 : Int32)  (w : Wd) (P : Int32 → Wd → Prop) (h : cf_Families_countTris a0 a1 w P) : Call g y_Families_countTris prog_3_method_2_code 5 (some FieldType.int) d [.ref (g.1 + 20), .int a0, .int a1] w (fun (r : Option Value) (w2 : Wd) => ∃ x, r = some (.int x) ∧ P x w2) := by
  unfold cf_Families_countTris at h
  refine am_enter mi_Families_countTris (Nat.le_of_ble_eq_true rfl) ?_
  have hQ : ∀ x w2, P x w2 → (fun (r : Option Value) (w2 : Wd) => ∃ x, r = some (.int x) ∧ P x w2) (some (.int x)) w2 := fun x w2 h => ⟨x, rfl, h⟩
  generalize (fun (r : Option Value) (w2 : Wd) => ∃ x, r = some (.int x) ∧ P x w2) = Q at hQ ⊢
  show wp g (fun _ => True) y_Families_countTris prog_3_method_2_code 5 (some FieldType.int) d 0 [(0, .ref (g.1 + 20)), (1, .int a0), (2, .int a1)] [] w Q
  refine am_iconst (v := 0) d_Families_countTris_0 rfl ?_
  refine am_istore_n (l' := [(3, .int (0 : Int32)), (0, .ref (g.1 + 20)), (1, .int a0), (2, .int a1)]) d_Families_countTris_1 (by decide) rfl ?_
  refine am_iconst (v := 1) d_Families_countTris_2 rfl ?_
  refine am_istore (l' := [(4, .int (1 : Int32)), (3, .int (0 : Int32)), (0, .ref (g.1 + 20)), (1, .int a0), (2, .int a1)]) d_Families_countTris_3 (by decide) rfl ?_
  refine am_sub [2, 3, 4, 1, 0] rfl ?_
  obtain ⟨n, h⟩ := h
  exact cf_Families_countTris_L5_ok (by omega)    P Q hQ  n a0 a1 (0 : Int32) (1 : Int32) w h
theorem d_Families_triAt_0 : decode prog_3_method_3_code 0 = .ok (.iload_n 3, 1) := by decide +kernel
theorem d_Families_triAt_1 : decode prog_3_method_3_code 1 = .ok (.istore 4, 2) := by decide +kernel
theorem d_Families_triAt_3 : decode prog_3_method_3_code 3 = .ok (.iconst 1, 1) := by decide +kernel
theorem d_Families_triAt_4 : decode prog_3_method_3_code 4 = .ok (.istore 5, 2) := by decide +kernel
theorem d_Families_triAt_6 : decode prog_3_method_3_code 6 = .ok (.iload 5, 2) := by decide +kernel
theorem d_Families_triAt_8 : decode prog_3_method_3_code 8 = .ok (.iload_n 1, 1) := by decide +kernel
theorem d_Families_triAt_9 : decode prog_3_method_3_code 9 = .ok (.if_icmp .ge 42, 3) := by decide +kernel
theorem d_Families_triAt_12 : decode prog_3_method_3_code 12 = .ok (.iload 4, 2) := by decide +kernel
theorem d_Families_triAt_14 : decode prog_3_method_3_code 14 = .ok (.ifCond .lt 37, 3) := by decide +kernel
theorem d_Families_triAt_17 : decode prog_3_method_3_code 17 = .ok (.aload_n 0, 1) := by decide +kernel
theorem d_Families_triAt_18 : decode prog_3_method_3_code 18 = .ok (.getfield 12, 3) := by decide +kernel
theorem d_Families_triAt_21 : decode prog_3_method_3_code 21 = .ok (.iload_n 1, 1) := by decide +kernel
theorem d_Families_triAt_22 : decode prog_3_method_3_code 22 = .ok (.iload 5, 2) := by decide +kernel
theorem d_Families_triAt_24 : decode prog_3_method_3_code 24 = .ok (.invokestatic 18, 3) := by decide +kernel
theorem d_Families_triAt_27 : decode prog_3_method_3_code 27 = .ok (.iload_n 2, 1) := by decide +kernel
theorem d_Families_triAt_28 : decode prog_3_method_3_code 28 = .ok (.invokevirtual 24, 3) := by decide +kernel
theorem d_Families_triAt_31 : decode prog_3_method_3_code 31 = .ok (.ifCond .eq 14, 3) := by decide +kernel
theorem d_Families_triAt_34 : decode prog_3_method_3_code 34 = .ok (.iload 4, 2) := by decide +kernel
theorem d_Families_triAt_36 : decode prog_3_method_3_code 36 = .ok (.ifCond .ne 6, 3) := by decide +kernel
theorem d_Families_triAt_39 : decode prog_3_method_3_code 39 = .ok (.iload 5, 2) := by decide +kernel
theorem d_Families_triAt_41 : decode prog_3_method_3_code 41 = .ok (.ireturn, 1) := by decide +kernel
theorem d_Families_triAt_42 : decode prog_3_method_3_code 42 = .ok (.iinc 4 (-1), 3) := by decide +kernel
theorem d_Families_triAt_45 : decode prog_3_method_3_code 45 = .ok (.iinc 5 1, 3) := by decide +kernel
theorem d_Families_triAt_48 : decode prog_3_method_3_code 48 = .ok (.goto (-42), 3) := by decide +kernel
theorem d_Families_triAt_51 : decode prog_3_method_3_code 51 = .ok (.iconst 0, 1) := by decide +kernel
theorem d_Families_triAt_52 : decode prog_3_method_3_code 52 = .ok (.ireturn, 1) := by decide +kernel
def cf_Families_triAt_B6  (K6 : Int32 → Int32 → Int32 → Int32 → Wd → Prop) (P : Int32 → Wd → Prop) (x1 : Int32) (x2 : Int32) (x4 : Int32) (x5 : Int32) (w : Wd) : Prop :=
  ((x1 ≤ x5 → P (0 : Int32) w) ∧ (¬ x1 ≤ x5 → ((x4 < 0 → P (0 : Int32) w) ∧ (¬ x4 < 0 → cf_Polys_tri x1 x5 (fun r1 => cf_Orders_isSought 21 r1 x2 w (fun r2 w3 => ((r2 = 0 → ∀ v4, v4 = x5 + (1 : Int32) → K6 x1 x2 x4 v4 w3) ∧ (¬ r2 = 0 → ((¬ x4 = 0 → ∀ v5, v5 = x4 + (-1 : Int32) → ∀ v6, v6 = x5 + (1 : Int32) → K6 x1 x2 v5 v6 w3) ∧ (x4 = 0 → P x5 w3))))))))))
def cf_Families_triAt_L6   (P : Int32 → Wd → Prop) : Nat → Int32 → Int32 → Int32 → Int32 → Wd → Prop
  | 0 => fun x1 x2 x4 x5 w => False
  | n + 1 => fun x1 x2 x4 x5 w => cf_Families_triAt_B6 (cf_Families_triAt_L6 P n) P x1 x2 x4 x5 w
def cf_Families_triAt (a0 : Int32) (a1 : Int32) (a2 : Int32) (w : Wd) (P : Int32 → Wd → Prop) : Prop :=
  ∃ n, cf_Families_triAt_L6 P n a0 a1 a2 (1 : Int32) w
theorem cf_Families_triAt_B6_ok {g : ayG} {d : Nat} (hd : 6 ≤ d)   (w : Wd) (K6 : Int32 → Int32 → Int32 → Int32 → Wd → Prop) (P : Int32 → Wd → Prop) (Q : Option Value → Wd → Prop) (hQ : ∀ x w2, P x w2 → Q (some (.int x)) w2) (hK6 : ∀ (x1 : Int32) (x2 : Int32) (x4 : Int32) (x5 : Int32) (w : Wd), (K6 x1 x2 x4 x5 w → wp g (fun _ => True) y_Families_triAt prog_3_method_3_code 6 (some FieldType.int) d 6 [(0, .ref (g.1 + 20)), (1, .int x1), (2, .int x2), (4, .int x4), (5, .int x5)] [] w Q)) (x1 : Int32) (x2 : Int32) (x4 : Int32) (x5 : Int32) (h : cf_Families_triAt_B6 K6 P x1 x2 x4 x5 w) : wp g (fun _ => True) y_Families_triAt prog_3_method_3_code 6 (some FieldType.int) d 6 [(0, .ref (g.1 + 20)), (1, .int x1), (2, .int x2), (4, .int x4), (5, .int x5)] [] w Q := by
  unfold cf_Families_triAt_B6 at h
  refine am_iload d_Families_triAt_6 4 rfl ?_
  refine am_iload_n d_Families_triAt_8 1 rfl ?_
  refine am_icmp_ge (tgt := 51) d_Families_triAt_9 (by decide) (fun c9 => ?_) (fun c9 => ?_)
  · have h := h.1 c9
    refine am_iconst (v := 0) d_Families_triAt_51 rfl ?_
    exact am_ireturn d_Families_triAt_52 rfl rfl (hQ (0 : Int32) w h)
  · have h := h.2 c9
    refine am_iload d_Families_triAt_12 3 rfl ?_
    refine am_if_lt (tgt := 51) d_Families_triAt_14 (by decide) (fun c14 => ?_) (fun c14 => ?_)
    · have h := h.1 c14
      refine am_iconst (v := 0) d_Families_triAt_51 rfl ?_
      exact am_ireturn d_Families_triAt_52 rfl rfl (hQ (0 : Int32) w h)
    · have h := h.2 c14
      refine am_aload_n d_Families_triAt_17 0 rfl ?_
      refine am_getf (T := F_Families) (fs := ob_Families g w 20) (C := R_Families) (N := 1) (ci := 6) 0 d_Families_triAt_18 wd_145 rfl (by decide) (el_Families (show ay_sh 20 = _ from rfl)) rfl i_Families (by decide) rfl ?_
      refine am_iload_n d_Families_triAt_21 1 rfl ?_
      refine am_iload d_Families_triAt_22 4 rfl ?_
      refine am_callS (d2 := d - 1) [.int x1, .int x5] d_Families_triAt_24 mi_Polys_tri wd_928 wd_384 (by omega) rfl rfl (Nat.le_of_ble_eq_true rfl) ?_
      refine Call.post ?_ (cf_Polys_tri_ok (by omega) x1 x5  w _ h)
      rintro _ _ ⟨r1, rfl, rfl, h⟩
      show wp g (fun _ => True) y_Families_triAt prog_3_method_3_code 6 (some FieldType.int) d 27 [(0, .ref (g.1 + 20)), (1, .int x1), (2, .int x2), (4, .int x4), (5, .int x5)] [.long r1, .ref (g.1 + 21)] w Q
      refine am_iload_n d_Families_triAt_27 2 rfl ?_
      refine am_callV (C := "TriSplits$Orders") (d2 := d - 1) [.long r1, .int x2] d_Families_triAt_28 mi_Orders_isSought wd_929 wd_653 wd_654 (by decide) (el_Orders (show ay_sh 21 = _ from rfl)) rfl rfl (by omega) rfl rfl (Nat.le_of_ble_eq_true rfl) ?_
      refine Call.post ?_ (cf_Orders_isSought_ok (by omega) 21 r1 x2 (show ay_sh 21 = _ from rfl) w _ h)
      rintro _ w3 ⟨r2, rfl, h⟩
      show wp g (fun _ => True) y_Families_triAt prog_3_method_3_code 6 (some FieldType.int) d 31 [(0, .ref (g.1 + 20)), (1, .int x1), (2, .int x2), (4, .int x4), (5, .int x5)] [.int r2] w3 Q
      refine am_if_eq (tgt := 45) d_Families_triAt_31 (by decide) (fun c31 => ?_) (fun c31 => ?_)
      · have h := h.1 c31
        obtain ⟨v4, ev4⟩ : ∃ z : Int32, z = x5 + (1 : Int32) := ⟨_, rfl⟩
        have h := h v4 ev4
        refine am_iinc (v := v4) (l' := [(5, .int v4), (0, .ref (g.1 + 20)), (1, .int x1), (2, .int x2), (4, .int x4)]) d_Families_triAt_45 4 rfl (by rw [ev4]; rfl) (by decide) rfl ?_
        refine am_goto (tgt := 6) d_Families_triAt_48 (by decide) ?_
        refine am_sub [1, 2, 3, 4, 0] rfl ?_
        exact hK6 x1 x2 x4 v4 w3 h
      · have h := h.2 c31
        refine am_iload d_Families_triAt_34 3 rfl ?_
        refine am_if_ne (tgt := 42) d_Families_triAt_36 (by decide) (fun c36 => ?_) (fun c36 => ?_)
        · have h := h.1 c36
          obtain ⟨v5, ev5⟩ : ∃ z : Int32, z = x4 + (-1 : Int32) := ⟨_, rfl⟩
          have h := h v5 ev5
          refine am_iinc (v := v5) (l' := [(4, .int v5), (0, .ref (g.1 + 20)), (1, .int x1), (2, .int x2), (5, .int x5)]) d_Families_triAt_42 3 rfl (by rw [ev5]; rfl) (by decide) rfl ?_
          obtain ⟨v6, ev6⟩ : ∃ z : Int32, z = x5 + (1 : Int32) := ⟨_, rfl⟩
          have h := h v6 ev6
          refine am_iinc (v := v6) (l' := [(5, .int v6), (4, .int v5), (0, .ref (g.1 + 20)), (1, .int x1), (2, .int x2)]) d_Families_triAt_45 4 rfl (by rw [ev6]; rfl) (by decide) rfl ?_
          refine am_goto (tgt := 6) d_Families_triAt_48 (by decide) ?_
          refine am_sub [2, 3, 4, 1, 0] rfl ?_
          exact hK6 x1 x2 v5 v6 w3 h
        · have h := h.2 c36
          refine am_iload d_Families_triAt_39 4 rfl ?_
          exact am_ireturn d_Families_triAt_41 rfl rfl (hQ x5 w3 h)
theorem cf_Families_triAt_L6_ok {g : ayG} {d : Nat} (hd : 6 ≤ d)    (P : Int32 → Wd → Prop) (Q : Option Value → Wd → Prop) (hQ : ∀ x w2, P x w2 → Q (some (.int x)) w2)  : ∀ (n : Nat) (x1 : Int32) (x2 : Int32) (x4 : Int32) (x5 : Int32) (w : Wd) (h : cf_Families_triAt_L6 P n x1 x2 x4 x5 w), wp g (fun _ => True) y_Families_triAt prog_3_method_3_code 6 (some FieldType.int) d 6 [(0, .ref (g.1 + 20)), (1, .int x1), (2, .int x2), (4, .int x4), (5, .int x5)] [] w Q
  | 0, x1, x2, x4, x5, w, h => False.elim h
  | n + 1, x1, x2, x4, x5, w, h => cf_Families_triAt_B6_ok hd   w (cf_Families_triAt_L6 P n) P Q hQ (fun x1 x2 x4 x5 w h => cf_Families_triAt_L6_ok hd    P Q hQ  n x1 x2 x4 x5 w h) x1 x2 x4 x5 h
theorem cf_Families_triAt_ok {g : ayG} {d : Nat} (hd : 6 ≤ d) (a0 : Int32) (a1 : Int32) (a2 : Int32)  (w : Wd) (P : Int32 → Wd → Prop) (h : cf_Families_triAt a0 a1 a2 w P) : Call g y_Families_triAt prog_3_method_3_code 6 (some FieldType.int) d [.ref (g.1 + 20), .int a0, .int a1, .int a2] w (fun (r : Option Value) (w2 : Wd) => ∃ x, r = some (.int x) ∧ P x w2) := by
  unfold cf_Families_triAt at h
  refine am_enter mi_Families_triAt (Nat.le_of_ble_eq_true rfl) ?_
  have hQ : ∀ x w2, P x w2 → (fun (r : Option Value) (w2 : Wd) => ∃ x, r = some (.int x) ∧ P x w2) (some (.int x)) w2 := fun x w2 h => ⟨x, rfl, h⟩
  generalize (fun (r : Option Value) (w2 : Wd) => ∃ x, r = some (.int x) ∧ P x w2) = Q at hQ ⊢
  show wp g (fun _ => True) y_Families_triAt prog_3_method_3_code 6 (some FieldType.int) d 0 [(0, .ref (g.1 + 20)), (1, .int a0), (2, .int a1), (3, .int a2)] [] w Q
  refine am_iload_n d_Families_triAt_0 3 rfl ?_
  refine am_istore (l' := [(4, .int a2), (0, .ref (g.1 + 20)), (1, .int a0), (2, .int a1), (3, .int a2)]) d_Families_triAt_1 (by decide) rfl ?_
  refine am_iconst (v := 1) d_Families_triAt_3 rfl ?_
  refine am_istore (l' := [(5, .int (1 : Int32)), (4, .int a2), (0, .ref (g.1 + 20)), (1, .int a0), (2, .int a1), (3, .int a2)]) d_Families_triAt_4 (by decide) rfl ?_
  refine am_sub [2, 3, 4, 1, 0] rfl ?_
  obtain ⟨n, h⟩ := h
  exact cf_Families_triAt_L6_ok (by omega)    P Q hQ  n a0 a1 a2 (1 : Int32) w h
theorem d_Families_leastOfWeight_0 : decode prog_3_method_11_code 0 = .ok (.lconst 1, 1) := by decide +kernel
theorem d_Families_leastOfWeight_1 : decode prog_3_method_11_code 1 = .ok (.iload_n 1, 1) := by decide +kernel
theorem d_Families_leastOfWeight_2 : decode prog_3_method_11_code 2 = .ok (.lshl, 1) := by decide +kernel
theorem d_Families_leastOfWeight_3 : decode prog_3_method_11_code 3 = .ok (.lstore 4, 2) := by decide +kernel
theorem d_Families_leastOfWeight_5 : decode prog_3_method_11_code 5 = .ok (.lconst 1, 1) := by decide +kernel
theorem d_Families_leastOfWeight_6 : decode prog_3_method_11_code 6 = .ok (.iload_n 2, 1) := by decide +kernel
theorem d_Families_leastOfWeight_7 : decode prog_3_method_11_code 7 = .ok (.iconst 1, 1) := by decide +kernel
theorem d_Families_leastOfWeight_8 : decode prog_3_method_11_code 8 = .ok (.isub, 1) := by decide +kernel
theorem d_Families_leastOfWeight_9 : decode prog_3_method_11_code 9 = .ok (.lshl, 1) := by decide +kernel
theorem d_Families_leastOfWeight_10 : decode prog_3_method_11_code 10 = .ok (.lconst 1, 1) := by decide +kernel
theorem d_Families_leastOfWeight_11 : decode prog_3_method_11_code 11 = .ok (.lsub, 1) := by decide +kernel
theorem d_Families_leastOfWeight_12 : decode prog_3_method_11_code 12 = .ok (.lstore 6, 2) := by decide +kernel
theorem d_Families_leastOfWeight_14 : decode prog_3_method_11_code 14 = .ok (.iconst 0, 1) := by decide +kernel
theorem d_Families_leastOfWeight_15 : decode prog_3_method_11_code 15 = .ok (.istore 8, 2) := by decide +kernel
theorem d_Families_leastOfWeight_17 : decode prog_3_method_11_code 17 = .ok (.iload 8, 2) := by decide +kernel
theorem d_Families_leastOfWeight_19 : decode prog_3_method_11_code 19 = .ok (.ldc 50, 2) := by decide +kernel
theorem d_Families_leastOfWeight_21 : decode prog_3_method_11_code 21 = .ok (.if_icmp .ge 82, 3) := by decide +kernel
theorem d_Families_leastOfWeight_24 : decode prog_3_method_11_code 24 = .ok (.lload 6, 2) := by decide +kernel
theorem d_Families_leastOfWeight_26 : decode prog_3_method_11_code 26 = .ok (.lload 4, 2) := by decide +kernel
theorem d_Families_leastOfWeight_28 : decode prog_3_method_11_code 28 = .ok (.lcmp, 1) := by decide +kernel
theorem d_Families_leastOfWeight_29 : decode prog_3_method_11_code 29 = .ok (.ifCond .ge 74, 3) := by decide +kernel
theorem d_Families_leastOfWeight_32 : decode prog_3_method_11_code 32 = .ok (.aload_n 0, 1) := by decide +kernel
theorem d_Families_leastOfWeight_33 : decode prog_3_method_11_code 33 = .ok (.getfield 12, 3) := by decide +kernel
theorem d_Families_leastOfWeight_36 : decode prog_3_method_11_code 36 = .ok (.lload 4, 2) := by decide +kernel
theorem d_Families_leastOfWeight_38 : decode prog_3_method_11_code 38 = .ok (.lload 6, 2) := by decide +kernel
theorem d_Families_leastOfWeight_40 : decode prog_3_method_11_code 40 = .ok (.lor, 1) := by decide +kernel
theorem d_Families_leastOfWeight_41 : decode prog_3_method_11_code 41 = .ok (.iload_n 3, 1) := by decide +kernel
theorem d_Families_leastOfWeight_42 : decode prog_3_method_11_code 42 = .ok (.invokevirtual 24, 3) := by decide +kernel
theorem d_Families_leastOfWeight_45 : decode prog_3_method_11_code 45 = .ok (.ifCond .eq 9, 3) := by decide +kernel
theorem d_Families_leastOfWeight_48 : decode prog_3_method_11_code 48 = .ok (.lload 4, 2) := by decide +kernel
theorem d_Families_leastOfWeight_50 : decode prog_3_method_11_code 50 = .ok (.lload 6, 2) := by decide +kernel
theorem d_Families_leastOfWeight_52 : decode prog_3_method_11_code 52 = .ok (.lor, 1) := by decide +kernel
theorem d_Families_leastOfWeight_53 : decode prog_3_method_11_code 53 = .ok (.lreturn, 1) := by decide +kernel
theorem d_Families_leastOfWeight_54 : decode prog_3_method_11_code 54 = .ok (.lload 6, 2) := by decide +kernel
theorem d_Families_leastOfWeight_56 : decode prog_3_method_11_code 56 = .ok (.lconst 0, 1) := by decide +kernel
theorem d_Families_leastOfWeight_57 : decode prog_3_method_11_code 57 = .ok (.lcmp, 1) := by decide +kernel
theorem d_Families_leastOfWeight_58 : decode prog_3_method_11_code 58 = .ok (.ifCond .ne 6, 3) := by decide +kernel
theorem d_Families_leastOfWeight_61 : decode prog_3_method_11_code 61 = .ok (.goto 42, 3) := by decide +kernel
theorem d_Families_leastOfWeight_64 : decode prog_3_method_11_code 64 = .ok (.lload 6, 2) := by decide +kernel
theorem d_Families_leastOfWeight_66 : decode prog_3_method_11_code 66 = .ok (.lload 6, 2) := by decide +kernel
theorem d_Families_leastOfWeight_68 : decode prog_3_method_11_code 68 = .ok (.lneg, 1) := by decide +kernel
theorem d_Families_leastOfWeight_69 : decode prog_3_method_11_code 69 = .ok (.land, 1) := by decide +kernel
theorem d_Families_leastOfWeight_70 : decode prog_3_method_11_code 70 = .ok (.lstore 9, 2) := by decide +kernel
theorem d_Families_leastOfWeight_72 : decode prog_3_method_11_code 72 = .ok (.lload 6, 2) := by decide +kernel
theorem d_Families_leastOfWeight_74 : decode prog_3_method_11_code 74 = .ok (.lload 9, 2) := by decide +kernel
theorem d_Families_leastOfWeight_76 : decode prog_3_method_11_code 76 = .ok (.ladd, 1) := by decide +kernel
theorem d_Families_leastOfWeight_77 : decode prog_3_method_11_code 77 = .ok (.lstore 11, 2) := by decide +kernel
theorem d_Families_leastOfWeight_79 : decode prog_3_method_11_code 79 = .ok (.lload 11, 2) := by decide +kernel
theorem d_Families_leastOfWeight_81 : decode prog_3_method_11_code 81 = .ok (.lload 6, 2) := by decide +kernel
theorem d_Families_leastOfWeight_83 : decode prog_3_method_11_code 83 = .ok (.lload 11, 2) := by decide +kernel
theorem d_Families_leastOfWeight_85 : decode prog_3_method_11_code 85 = .ok (.lxor, 1) := by decide +kernel
theorem d_Families_leastOfWeight_86 : decode prog_3_method_11_code 86 = .ok (.iconst 2, 1) := by decide +kernel
theorem d_Families_leastOfWeight_87 : decode prog_3_method_11_code 87 = .ok (.lload 9, 2) := by decide +kernel
theorem d_Families_leastOfWeight_89 : decode prog_3_method_11_code 89 = .ok (.invokestatic 51, 3) := by decide +kernel
theorem d_Families_leastOfWeight_92 : decode prog_3_method_11_code 92 = .ok (.iadd, 1) := by decide +kernel
theorem d_Families_leastOfWeight_93 : decode prog_3_method_11_code 93 = .ok (.lshr, 1) := by decide +kernel
theorem d_Families_leastOfWeight_94 : decode prog_3_method_11_code 94 = .ok (.lor, 1) := by decide +kernel
theorem d_Families_leastOfWeight_95 : decode prog_3_method_11_code 95 = .ok (.lstore 6, 2) := by decide +kernel
theorem d_Families_leastOfWeight_97 : decode prog_3_method_11_code 97 = .ok (.iinc 8 1, 3) := by decide +kernel
theorem d_Families_leastOfWeight_100 : decode prog_3_method_11_code 100 = .ok (.goto (-83), 3) := by decide +kernel
theorem d_Families_leastOfWeight_103 : decode prog_3_method_11_code 103 = .ok (.lconst 0, 1) := by decide +kernel
theorem d_Families_leastOfWeight_104 : decode prog_3_method_11_code 104 = .ok (.lreturn, 1) := by decide +kernel
def cf_Families_leastOfWeight_B17  (K17 : Int32 → Int64 → Int64 → Int32 → Wd → Prop) (P : Int64 → Wd → Prop) (x3 : Int32) (x4 : Int64) (x6 : Int64) (x8 : Int32) (w : Wd) : Prop :=
  (((1000000 : Int32) ≤ x8 → P (0 : Int64) w) ∧ (¬ (1000000 : Int32) ≤ x8 → ((x4 ≤ x6 → P (0 : Int64) w) ∧ (¬ x4 ≤ x6 → cf_Orders_isSought 21 (x4 ||| x6) x3 w (fun r3 w4 => ((r3 = 0 → ((¬ x6 = (0 : Int64) → ∀ v5, v5 = x6 &&& (-x6) → ∀ v6, v6 = x6 + v5 → cf_Long_numberOfTrailingZeros v5 (fun r7 => ∀ v8, v8 = v6 ||| (lshr (x6 ^^^ v6) ((2 : Int32) + r7)) → ∀ v9, v9 = x8 + (1 : Int32) → K17 x3 x4 v8 v9 w4)) ∧ (x6 = (0 : Int64) → P (0 : Int64) w4))) ∧ (¬ r3 = 0 → P (x4 ||| x6) w4)))))))
def cf_Families_leastOfWeight_L17   (P : Int64 → Wd → Prop) : Nat → Int32 → Int64 → Int64 → Int32 → Wd → Prop
  | 0 => fun x3 x4 x6 x8 w => False
  | n + 1 => fun x3 x4 x6 x8 w => cf_Families_leastOfWeight_B17 (cf_Families_leastOfWeight_L17 P n) P x3 x4 x6 x8 w
def cf_Families_leastOfWeight (a0 : Int32) (a1 : Int32) (a2 : Int32) (w : Wd) (P : Int64 → Wd → Prop) : Prop :=
  ∀ v1, v1 = lshl (1 : Int64) a0 → ∀ v2, v2 = (lshl (1 : Int64) (a1 - (1 : Int32))) - (1 : Int64) → ∃ n, cf_Families_leastOfWeight_L17 P n a2 v1 v2 (0 : Int32) w
theorem cf_Families_leastOfWeight_B17_ok {g : ayG} {d : Nat} (hd : 6 ≤ d)   (w : Wd) (K17 : Int32 → Int64 → Int64 → Int32 → Wd → Prop) (P : Int64 → Wd → Prop) (Q : Option Value → Wd → Prop) (hQ : ∀ x w2, P x w2 → Q (some (.long x)) w2) (hK17 : ∀ (x3 : Int32) (x4 : Int64) (x6 : Int64) (x8 : Int32) (w : Wd), (K17 x3 x4 x6 x8 w → wp g (fun _ => True) y_Families_leastOfWeight prog_3_method_11_code 13 (some FieldType.long) d 17 [(0, .ref (g.1 + 20)), (3, .int x3), (4, .long x4), (6, .long x6), (8, .int x8)] [] w Q)) (x3 : Int32) (x4 : Int64) (x6 : Int64) (x8 : Int32) (h : cf_Families_leastOfWeight_B17 K17 P x3 x4 x6 x8 w) : wp g (fun _ => True) y_Families_leastOfWeight prog_3_method_11_code 13 (some FieldType.long) d 17 [(0, .ref (g.1 + 20)), (3, .int x3), (4, .long x4), (6, .long x6), (8, .int x8)] [] w Q := by
  unfold cf_Families_leastOfWeight_B17 at h
  refine am_iload d_Families_leastOfWeight_17 4 rfl ?_
  refine am_ldc (v := 1000000) d_Families_leastOfWeight_19 wd_946 ?_
  refine am_icmp_ge (tgt := 103) d_Families_leastOfWeight_21 (by decide) (fun c21 => ?_) (fun c21 => ?_)
  · have h := h.1 c21
    refine am_lconst (v := 0) d_Families_leastOfWeight_103 rfl ?_
    exact am_lreturn d_Families_leastOfWeight_104 rfl (hQ (0 : Int64) w h)
  · have h := h.2 c21
    refine am_lload d_Families_leastOfWeight_24 3 rfl ?_
    refine am_lload d_Families_leastOfWeight_26 2 rfl ?_
    refine am_lif_ge (tgt := 103) d_Families_leastOfWeight_28 d_Families_leastOfWeight_29 (by decide) (fun c28 => ?_) (fun c28 => ?_)
    · have h := h.1 c28
      refine am_lconst (v := 0) d_Families_leastOfWeight_103 rfl ?_
      exact am_lreturn d_Families_leastOfWeight_104 rfl (hQ (0 : Int64) w h)
    · have h := h.2 c28
      refine am_aload_n d_Families_leastOfWeight_32 0 rfl ?_
      refine am_getf (T := F_Families) (fs := ob_Families g w 20) (C := R_Families) (N := 1) (ci := 6) 0 d_Families_leastOfWeight_33 wd_145 rfl (by decide) (el_Families (show ay_sh 20 = _ from rfl)) rfl i_Families (by decide) rfl ?_
      refine am_lload d_Families_leastOfWeight_36 2 rfl ?_
      refine am_lload d_Families_leastOfWeight_38 3 rfl ?_
      refine am_lor d_Families_leastOfWeight_40 ?_
      refine am_iload_n d_Families_leastOfWeight_41 1 rfl ?_
      refine am_callV (C := "TriSplits$Orders") (d2 := d - 1) [.long (x4 ||| x6), .int x3] d_Families_leastOfWeight_42 mi_Orders_isSought wd_929 wd_653 wd_654 (by decide) (el_Orders (show ay_sh 21 = _ from rfl)) rfl rfl (by omega) rfl rfl (Nat.le_of_ble_eq_true rfl) ?_
      refine Call.post ?_ (cf_Orders_isSought_ok (by omega) 21 (x4 ||| x6) x3 (show ay_sh 21 = _ from rfl) w _ h)
      rintro _ w4 ⟨r3, rfl, h⟩
      show wp g (fun _ => True) y_Families_leastOfWeight prog_3_method_11_code 13 (some FieldType.long) d 45 [(0, .ref (g.1 + 20)), (3, .int x3), (4, .long x4), (6, .long x6), (8, .int x8)] [.int r3] w4 Q
      refine am_if_eq (tgt := 54) d_Families_leastOfWeight_45 (by decide) (fun c45 => ?_) (fun c45 => ?_)
      · have h := h.1 c45
        refine am_lload d_Families_leastOfWeight_54 3 rfl ?_
        refine am_lconst (v := 0) d_Families_leastOfWeight_56 rfl ?_
        refine am_lif_ne (tgt := 64) d_Families_leastOfWeight_57 d_Families_leastOfWeight_58 (by decide) (fun c57 => ?_) (fun c57 => ?_)
        · have h := h.1 c57
          refine am_lload d_Families_leastOfWeight_64 3 rfl ?_
          refine am_lload d_Families_leastOfWeight_66 3 rfl ?_
          refine am_lneg d_Families_leastOfWeight_68 ?_
          refine am_land d_Families_leastOfWeight_69 ?_
          refine am_topl (fun v5 ev5 => ?_)
          have h := h v5 ev5
          refine am_lstore (l' := [(9, .long v5), (0, .ref (g.1 + 20)), (3, .int x3), (4, .long x4), (6, .long x6), (8, .int x8)]) d_Families_leastOfWeight_70 (by decide) rfl ?_
          refine am_lload d_Families_leastOfWeight_72 4 rfl ?_
          refine am_lload d_Families_leastOfWeight_74 0 rfl ?_
          refine am_ladd d_Families_leastOfWeight_76 ?_
          refine am_topl (fun v6 ev6 => ?_)
          have h := h v6 ev6
          refine am_lstore (l' := [(11, .long v6), (9, .long v5), (0, .ref (g.1 + 20)), (3, .int x3), (4, .long x4), (6, .long x6), (8, .int x8)]) d_Families_leastOfWeight_77 (by decide) rfl ?_
          refine am_lload d_Families_leastOfWeight_79 0 rfl ?_
          refine am_lload d_Families_leastOfWeight_81 5 rfl ?_
          refine am_lload d_Families_leastOfWeight_83 0 rfl ?_
          refine am_lxor d_Families_leastOfWeight_85 ?_
          refine am_iconst (v := 2) d_Families_leastOfWeight_86 rfl ?_
          refine am_lload d_Families_leastOfWeight_87 1 rfl ?_
          refine am_callS (d2 := d - 1) [.long v5] d_Families_leastOfWeight_89 mi_Long_numberOfTrailingZeros wd_947 wd_948 (by omega) rfl rfl (Nat.le_of_ble_eq_true rfl) ?_
          refine Call.post ?_ (cf_Long_numberOfTrailingZeros_ok (by omega) v5  w4 _ h)
          rintro _ _ ⟨r7, rfl, rfl, h⟩
          show wp g (fun _ => True) y_Families_leastOfWeight prog_3_method_11_code 13 (some FieldType.long) d 92 [(11, .long v6), (9, .long v5), (0, .ref (g.1 + 20)), (3, .int x3), (4, .long x4), (6, .long x6), (8, .int x8)] [.int r7, .int (2 : Int32), .long (x6 ^^^ v6), .long v6] w4 Q
          refine am_iadd d_Families_leastOfWeight_92 ?_
          refine am_lshr d_Families_leastOfWeight_93 ?_
          refine am_lor d_Families_leastOfWeight_94 ?_
          refine am_topl (fun v8 ev8 => ?_)
          have h := h v8 ev8
          refine am_lstore (l' := [(6, .long v8), (11, .long v6), (9, .long v5), (0, .ref (g.1 + 20)), (3, .int x3), (4, .long x4), (8, .int x8)]) d_Families_leastOfWeight_95 (by decide) rfl ?_
          obtain ⟨v9, ev9⟩ : ∃ z : Int32, z = x8 + (1 : Int32) := ⟨_, rfl⟩
          have h := h v9 ev9
          refine am_iinc (v := v9) (l' := [(8, .int v9), (6, .long v8), (11, .long v6), (9, .long v5), (0, .ref (g.1 + 20)), (3, .int x3), (4, .long x4)]) d_Families_leastOfWeight_97 6 rfl (by rw [ev9]; rfl) (by decide) rfl ?_
          refine am_goto (tgt := 17) d_Families_leastOfWeight_100 (by decide) ?_
          refine am_sub [4, 5, 6, 1, 0] rfl ?_
          exact hK17 x3 x4 v8 v9 w4 h
        · have h := h.2 c57
          refine am_goto (tgt := 103) d_Families_leastOfWeight_61 (by decide) ?_
          refine am_lconst (v := 0) d_Families_leastOfWeight_103 rfl ?_
          exact am_lreturn d_Families_leastOfWeight_104 rfl (hQ (0 : Int64) w4 h)
      · have h := h.2 c45
        refine am_lload d_Families_leastOfWeight_48 2 rfl ?_
        refine am_lload d_Families_leastOfWeight_50 3 rfl ?_
        refine am_lor d_Families_leastOfWeight_52 ?_
        exact am_lreturn d_Families_leastOfWeight_53 rfl (hQ (x4 ||| x6) w4 h)
theorem cf_Families_leastOfWeight_L17_ok {g : ayG} {d : Nat} (hd : 6 ≤ d)    (P : Int64 → Wd → Prop) (Q : Option Value → Wd → Prop) (hQ : ∀ x w2, P x w2 → Q (some (.long x)) w2)  : ∀ (n : Nat) (x3 : Int32) (x4 : Int64) (x6 : Int64) (x8 : Int32) (w : Wd) (h : cf_Families_leastOfWeight_L17 P n x3 x4 x6 x8 w), wp g (fun _ => True) y_Families_leastOfWeight prog_3_method_11_code 13 (some FieldType.long) d 17 [(0, .ref (g.1 + 20)), (3, .int x3), (4, .long x4), (6, .long x6), (8, .int x8)] [] w Q
  | 0, x3, x4, x6, x8, w, h => False.elim h
  | n + 1, x3, x4, x6, x8, w, h => cf_Families_leastOfWeight_B17_ok hd   w (cf_Families_leastOfWeight_L17 P n) P Q hQ (fun x3 x4 x6 x8 w h => cf_Families_leastOfWeight_L17_ok hd    P Q hQ  n x3 x4 x6 x8 w h) x3 x4 x6 x8 h
theorem cf_Families_leastOfWeight_ok {g : ayG} {d : Nat} (hd : 6 ≤ d) (a0 : Int32) (a1 : Int32) (a2 : Int32)  (w : Wd) (P : Int64 → Wd → Prop) (h : cf_Families_leastOfWeight a0 a1 a2 w P) : Call g y_Families_leastOfWeight prog_3_method_11_code 13 (some FieldType.long) d [.ref (g.1 + 20), .int a0, .int a1, .int a2] w (fun (r : Option Value) (w2 : Wd) => ∃ x, r = some (.long x) ∧ P x w2) := by
  unfold cf_Families_leastOfWeight at h
  refine am_enter mi_Families_leastOfWeight (Nat.le_of_ble_eq_true rfl) ?_
  have hQ : ∀ x w2, P x w2 → (fun (r : Option Value) (w2 : Wd) => ∃ x, r = some (.long x) ∧ P x w2) (some (.long x)) w2 := fun x w2 h => ⟨x, rfl, h⟩
  generalize (fun (r : Option Value) (w2 : Wd) => ∃ x, r = some (.long x) ∧ P x w2) = Q at hQ ⊢
  show wp g (fun _ => True) y_Families_leastOfWeight prog_3_method_11_code 13 (some FieldType.long) d 0 [(0, .ref (g.1 + 20)), (1, .int a0), (2, .int a1), (3, .int a2)] [] w Q
  refine am_lconst (v := 1) d_Families_leastOfWeight_0 rfl ?_
  refine am_iload_n d_Families_leastOfWeight_1 1 rfl ?_
  refine am_lshl d_Families_leastOfWeight_2 ?_
  refine am_topl (fun v1 ev1 => ?_)
  have h := h v1 ev1
  refine am_lstore (l' := [(4, .long v1), (0, .ref (g.1 + 20)), (1, .int a0), (2, .int a1), (3, .int a2)]) d_Families_leastOfWeight_3 (by decide) rfl ?_
  refine am_lconst (v := 1) d_Families_leastOfWeight_5 rfl ?_
  refine am_iload_n d_Families_leastOfWeight_6 3 rfl ?_
  refine am_iconst (v := 1) d_Families_leastOfWeight_7 rfl ?_
  refine am_isub d_Families_leastOfWeight_8 ?_
  refine am_lshl d_Families_leastOfWeight_9 ?_
  refine am_lconst (v := 1) d_Families_leastOfWeight_10 rfl ?_
  refine am_lsub d_Families_leastOfWeight_11 ?_
  refine am_topl (fun v2 ev2 => ?_)
  have h := h v2 ev2
  refine am_lstore (l' := [(6, .long v2), (4, .long v1), (0, .ref (g.1 + 20)), (1, .int a0), (2, .int a1), (3, .int a2)]) d_Families_leastOfWeight_12 (by decide) rfl ?_
  refine am_iconst (v := 0) d_Families_leastOfWeight_14 rfl ?_
  refine am_istore (l' := [(8, .int (0 : Int32)), (6, .long v2), (4, .long v1), (0, .ref (g.1 + 20)), (1, .int a0), (2, .int a1), (3, .int a2)]) d_Families_leastOfWeight_15 (by decide) rfl ?_
  refine am_sub [3, 6, 2, 1, 0] rfl ?_
  obtain ⟨n, h⟩ := h
  exact cf_Families_leastOfWeight_L17_ok (by omega)    P Q hQ  n a2 v1 v2 (0 : Int32) w h
theorem d_Families_lightest_0 : decode prog_3_method_4_code 0 = .ok (.iconst 1, 1) := by decide +kernel
theorem d_Families_lightest_1 : decode prog_3_method_4_code 1 = .ok (.istore_n 3, 1) := by decide +kernel
theorem d_Families_lightest_2 : decode prog_3_method_4_code 2 = .ok (.iload_n 3, 1) := by decide +kernel
theorem d_Families_lightest_3 : decode prog_3_method_4_code 3 = .ok (.iload_n 1, 1) := by decide +kernel
theorem d_Families_lightest_4 : decode prog_3_method_4_code 4 = .ok (.iconst 1, 1) := by decide +kernel
theorem d_Families_lightest_5 : decode prog_3_method_4_code 5 = .ok (.iadd, 1) := by decide +kernel
theorem d_Families_lightest_6 : decode prog_3_method_4_code 6 = .ok (.if_icmp .gt 28, 3) := by decide +kernel
theorem d_Families_lightest_9 : decode prog_3_method_4_code 9 = .ok (.aload_n 0, 1) := by decide +kernel
theorem d_Families_lightest_10 : decode prog_3_method_4_code 10 = .ok (.iload_n 1, 1) := by decide +kernel
theorem d_Families_lightest_11 : decode prog_3_method_4_code 11 = .ok (.iload_n 3, 1) := by decide +kernel
theorem d_Families_lightest_12 : decode prog_3_method_4_code 12 = .ok (.iload_n 2, 1) := by decide +kernel
theorem d_Families_lightest_13 : decode prog_3_method_4_code 13 = .ok (.invokevirtual 28, 3) := by decide +kernel
theorem d_Families_lightest_16 : decode prog_3_method_4_code 16 = .ok (.lstore 4, 2) := by decide +kernel
theorem d_Families_lightest_18 : decode prog_3_method_4_code 18 = .ok (.lload 4, 2) := by decide +kernel
theorem d_Families_lightest_20 : decode prog_3_method_4_code 20 = .ok (.lconst 0, 1) := by decide +kernel
theorem d_Families_lightest_21 : decode prog_3_method_4_code 21 = .ok (.lcmp, 1) := by decide +kernel
theorem d_Families_lightest_22 : decode prog_3_method_4_code 22 = .ok (.ifCond .eq 6, 3) := by decide +kernel
theorem d_Families_lightest_25 : decode prog_3_method_4_code 25 = .ok (.lload 4, 2) := by decide +kernel
theorem d_Families_lightest_27 : decode prog_3_method_4_code 27 = .ok (.lreturn, 1) := by decide +kernel
theorem d_Families_lightest_28 : decode prog_3_method_4_code 28 = .ok (.iinc 3 1, 3) := by decide +kernel
theorem d_Families_lightest_31 : decode prog_3_method_4_code 31 = .ok (.goto (-29), 3) := by decide +kernel
theorem d_Families_lightest_34 : decode prog_3_method_4_code 34 = .ok (.ldc2_w 32, 3) := by decide +kernel
theorem d_Families_lightest_37 : decode prog_3_method_4_code 37 = .ok (.lreturn, 1) := by decide +kernel
def cf_Families_lightest_B2  (K2 : Int32 → Int32 → Int32 → Wd → Prop) (P : Int64 → Wd → Prop) (x1 : Int32) (x2 : Int32) (x3 : Int32) (w : Wd) : Prop :=
  (((x1 + (1 : Int32)) < x3 → P (-2 : Int64) w) ∧ (¬ (x1 + (1 : Int32)) < x3 → cf_Families_leastOfWeight x1 x3 x2 w (fun r1 w2 => ((r1 = (0 : Int64) → ∀ v3, v3 = x3 + (1 : Int32) → K2 x1 x2 v3 w2) ∧ (¬ r1 = (0 : Int64) → P r1 w2)))))
def cf_Families_lightest_L2   (P : Int64 → Wd → Prop) : Nat → Int32 → Int32 → Int32 → Wd → Prop
  | 0 => fun x1 x2 x3 w => False
  | n + 1 => fun x1 x2 x3 w => cf_Families_lightest_B2 (cf_Families_lightest_L2 P n) P x1 x2 x3 w
def cf_Families_lightest (a0 : Int32) (a1 : Int32) (w : Wd) (P : Int64 → Wd → Prop) : Prop :=
  ∃ n, cf_Families_lightest_L2 P n a0 a1 (1 : Int32) w
theorem cf_Families_lightest_B2_ok {g : ayG} {d : Nat} (hd : 7 ≤ d)   (w : Wd) (K2 : Int32 → Int32 → Int32 → Wd → Prop) (P : Int64 → Wd → Prop) (Q : Option Value → Wd → Prop) (hQ : ∀ x w2, P x w2 → Q (some (.long x)) w2) (hK2 : ∀ (x1 : Int32) (x2 : Int32) (x3 : Int32) (w : Wd), (K2 x1 x2 x3 w → wp g (fun _ => True) y_Families_lightest prog_3_method_4_code 6 (some FieldType.long) d 2 [(0, .ref (g.1 + 20)), (1, .int x1), (2, .int x2), (3, .int x3)] [] w Q)) (x1 : Int32) (x2 : Int32) (x3 : Int32) (h : cf_Families_lightest_B2 K2 P x1 x2 x3 w) : wp g (fun _ => True) y_Families_lightest prog_3_method_4_code 6 (some FieldType.long) d 2 [(0, .ref (g.1 + 20)), (1, .int x1), (2, .int x2), (3, .int x3)] [] w Q := by
  unfold cf_Families_lightest_B2 at h
  refine am_iload_n d_Families_lightest_2 3 rfl ?_
  refine am_iload_n d_Families_lightest_3 1 rfl ?_
  refine am_iconst (v := 1) d_Families_lightest_4 rfl ?_
  refine am_iadd d_Families_lightest_5 ?_
  refine am_icmp_gt (tgt := 34) d_Families_lightest_6 (by decide) (fun c6 => ?_) (fun c6 => ?_)
  · have h := h.1 c6
    refine am_ldc2 (v := -2) d_Families_lightest_34 wd_953 ?_
    exact am_lreturn d_Families_lightest_37 rfl (hQ (-2 : Int64) w h)
  · have h := h.2 c6
    refine am_aload_n d_Families_lightest_9 0 rfl ?_
    refine am_iload_n d_Families_lightest_10 1 rfl ?_
    refine am_iload_n d_Families_lightest_11 3 rfl ?_
    refine am_iload_n d_Families_lightest_12 2 rfl ?_
    refine am_callV (C := y_Families_leastOfWeight.cls) (d2 := d - 1) [.int x1, .int x3, .int x2] d_Families_lightest_13 mi_Families_leastOfWeight wd_942 wd_944 ws_Families_leastOfWeight (by decide) (el_Families (show ay_sh 20 = _ from rfl)) rfl rfl (by omega) rfl rfl (Nat.le_of_ble_eq_true rfl) ?_
    refine Call.post ?_ (cf_Families_leastOfWeight_ok (by omega) x1 x3 x2  w _ h)
    rintro _ w2 ⟨r1, rfl, h⟩
    show wp g (fun _ => True) y_Families_lightest prog_3_method_4_code 6 (some FieldType.long) d 16 [(0, .ref (g.1 + 20)), (1, .int x1), (2, .int x2), (3, .int x3)] [.long r1] w2 Q
    refine am_lstore (l' := [(4, .long r1), (0, .ref (g.1 + 20)), (1, .int x1), (2, .int x2), (3, .int x3)]) d_Families_lightest_16 (by decide) rfl ?_
    refine am_lload d_Families_lightest_18 0 rfl ?_
    refine am_lconst (v := 0) d_Families_lightest_20 rfl ?_
    refine am_lif_eq (tgt := 28) d_Families_lightest_21 d_Families_lightest_22 (by decide) (fun c21 => ?_) (fun c21 => ?_)
    · have h := h.1 c21
      obtain ⟨v3, ev3⟩ : ∃ z : Int32, z = x3 + (1 : Int32) := ⟨_, rfl⟩
      have h := h v3 ev3
      refine am_iinc (v := v3) (l' := [(3, .int v3), (4, .long r1), (0, .ref (g.1 + 20)), (1, .int x1), (2, .int x2)]) d_Families_lightest_28 4 rfl (by rw [ev3]; rfl) (by decide) rfl ?_
      refine am_goto (tgt := 2) d_Families_lightest_31 (by decide) ?_
      refine am_sub [2, 3, 4, 0] rfl ?_
      exact hK2 x1 x2 v3 w2 h
    · have h := h.2 c21
      refine am_lload d_Families_lightest_25 0 rfl ?_
      exact am_lreturn d_Families_lightest_27 rfl (hQ r1 w2 h)
theorem cf_Families_lightest_L2_ok {g : ayG} {d : Nat} (hd : 7 ≤ d)    (P : Int64 → Wd → Prop) (Q : Option Value → Wd → Prop) (hQ : ∀ x w2, P x w2 → Q (some (.long x)) w2)  : ∀ (n : Nat) (x1 : Int32) (x2 : Int32) (x3 : Int32) (w : Wd) (h : cf_Families_lightest_L2 P n x1 x2 x3 w), wp g (fun _ => True) y_Families_lightest prog_3_method_4_code 6 (some FieldType.long) d 2 [(0, .ref (g.1 + 20)), (1, .int x1), (2, .int x2), (3, .int x3)] [] w Q
  | 0, x1, x2, x3, w, h => False.elim h
  | n + 1, x1, x2, x3, w, h => cf_Families_lightest_B2_ok hd   w (cf_Families_lightest_L2 P n) P Q hQ (fun x1 x2 x3 w h => cf_Families_lightest_L2_ok hd    P Q hQ  n x1 x2 x3 w h) x1 x2 x3 h
theorem cf_Families_lightest_ok {g : ayG} {d : Nat} (hd : 7 ≤ d) (a0 : Int32) (a1 : Int32)  (w : Wd) (P : Int64 → Wd → Prop) (h : cf_Families_lightest a0 a1 w P) : Call g y_Families_lightest prog_3_method_4_code 6 (some FieldType.long) d [.ref (g.1 + 20), .int a0, .int a1] w (fun (r : Option Value) (w2 : Wd) => ∃ x, r = some (.long x) ∧ P x w2) := by
  unfold cf_Families_lightest at h
  refine am_enter mi_Families_lightest (Nat.le_of_ble_eq_true rfl) ?_
  have hQ : ∀ x w2, P x w2 → (fun (r : Option Value) (w2 : Wd) => ∃ x, r = some (.long x) ∧ P x w2) (some (.long x)) w2 := fun x w2 h => ⟨x, rfl, h⟩
  generalize (fun (r : Option Value) (w2 : Wd) => ∃ x, r = some (.long x) ∧ P x w2) = Q at hQ ⊢
  show wp g (fun _ => True) y_Families_lightest prog_3_method_4_code 6 (some FieldType.long) d 0 [(0, .ref (g.1 + 20)), (1, .int a0), (2, .int a1)] [] w Q
  refine am_iconst (v := 1) d_Families_lightest_0 rfl ?_
  refine am_istore_n (l' := [(3, .int (1 : Int32)), (0, .ref (g.1 + 20)), (1, .int a0), (2, .int a1)]) d_Families_lightest_1 (by decide) rfl ?_
  refine am_sub [1, 2, 3, 0] rfl ?_
  obtain ⟨n, h⟩ := h
  exact cf_Families_lightest_L2_ok (by omega)    P Q hQ  n a0 a1 (1 : Int32) w h
theorem d_Families_nextAbove_0 : decode prog_3_method_5_code 0 = .ok (.lload_n 1, 1) := by decide +kernel
theorem d_Families_nextAbove_1 : decode prog_3_method_5_code 1 = .ok (.lconst 1, 1) := by decide +kernel
theorem d_Families_nextAbove_2 : decode prog_3_method_5_code 2 = .ok (.ladd, 1) := by decide +kernel
theorem d_Families_nextAbove_3 : decode prog_3_method_5_code 3 = .ok (.lstore 4, 2) := by decide +kernel
theorem d_Families_nextAbove_5 : decode prog_3_method_5_code 5 = .ok (.lload 4, 2) := by decide +kernel
theorem d_Families_nextAbove_7 : decode prog_3_method_5_code 7 = .ok (.ldc2_w 34, 3) := by decide +kernel
theorem d_Families_nextAbove_10 : decode prog_3_method_5_code 10 = .ok (.lcmp, 1) := by decide +kernel
theorem d_Families_nextAbove_11 : decode prog_3_method_5_code 11 = .ok (.ifCond .ge 28, 3) := by decide +kernel
theorem d_Families_nextAbove_14 : decode prog_3_method_5_code 14 = .ok (.aload_n 0, 1) := by decide +kernel
theorem d_Families_nextAbove_15 : decode prog_3_method_5_code 15 = .ok (.getfield 12, 3) := by decide +kernel
theorem d_Families_nextAbove_18 : decode prog_3_method_5_code 18 = .ok (.lload 4, 2) := by decide +kernel
theorem d_Families_nextAbove_20 : decode prog_3_method_5_code 20 = .ok (.iload_n 3, 1) := by decide +kernel
theorem d_Families_nextAbove_21 : decode prog_3_method_5_code 21 = .ok (.invokevirtual 24, 3) := by decide +kernel
theorem d_Families_nextAbove_24 : decode prog_3_method_5_code 24 = .ok (.ifCond .eq 6, 3) := by decide +kernel
theorem d_Families_nextAbove_27 : decode prog_3_method_5_code 27 = .ok (.lload 4, 2) := by decide +kernel
theorem d_Families_nextAbove_29 : decode prog_3_method_5_code 29 = .ok (.lreturn, 1) := by decide +kernel
theorem d_Families_nextAbove_30 : decode prog_3_method_5_code 30 = .ok (.lload 4, 2) := by decide +kernel
theorem d_Families_nextAbove_32 : decode prog_3_method_5_code 32 = .ok (.lconst 1, 1) := by decide +kernel
theorem d_Families_nextAbove_33 : decode prog_3_method_5_code 33 = .ok (.ladd, 1) := by decide +kernel
theorem d_Families_nextAbove_34 : decode prog_3_method_5_code 34 = .ok (.lstore 4, 2) := by decide +kernel
theorem d_Families_nextAbove_36 : decode prog_3_method_5_code 36 = .ok (.goto (-31), 3) := by decide +kernel
theorem d_Families_nextAbove_39 : decode prog_3_method_5_code 39 = .ok (.lconst 0, 1) := by decide +kernel
theorem d_Families_nextAbove_40 : decode prog_3_method_5_code 40 = .ok (.lreturn, 1) := by decide +kernel
def cf_Families_nextAbove_B5  (K5 : Int32 → Int64 → Wd → Prop) (P : Int64 → Wd → Prop) (x3 : Int32) (x4 : Int64) (w : Wd) : Prop :=
  (((2097152 : Int64) ≤ x4 → P (0 : Int64) w) ∧ (¬ (2097152 : Int64) ≤ x4 → cf_Orders_isSought 21 x4 x3 w (fun r2 w3 => ((r2 = 0 → ∀ v4, v4 = x4 + (1 : Int64) → K5 x3 v4 w3) ∧ (¬ r2 = 0 → P x4 w3)))))
def cf_Families_nextAbove_L5   (P : Int64 → Wd → Prop) : Nat → Int32 → Int64 → Wd → Prop
  | 0 => fun x3 x4 w => False
  | n + 1 => fun x3 x4 w => cf_Families_nextAbove_B5 (cf_Families_nextAbove_L5 P n) P x3 x4 w
def cf_Families_nextAbove (a0 : Int64) (a1 : Int32) (w : Wd) (P : Int64 → Wd → Prop) : Prop :=
  ∀ v1, v1 = a0 + (1 : Int64) → ∃ n, cf_Families_nextAbove_L5 P n a1 v1 w
theorem cf_Families_nextAbove_B5_ok {g : ayG} {d : Nat} (hd : 6 ≤ d)   (w : Wd) (K5 : Int32 → Int64 → Wd → Prop) (P : Int64 → Wd → Prop) (Q : Option Value → Wd → Prop) (hQ : ∀ x w2, P x w2 → Q (some (.long x)) w2) (hK5 : ∀ (x3 : Int32) (x4 : Int64) (w : Wd), (K5 x3 x4 w → wp g (fun _ => True) y_Families_nextAbove prog_3_method_5_code 6 (some FieldType.long) d 5 [(0, .ref (g.1 + 20)), (3, .int x3), (4, .long x4)] [] w Q)) (x3 : Int32) (x4 : Int64) (h : cf_Families_nextAbove_B5 K5 P x3 x4 w) : wp g (fun _ => True) y_Families_nextAbove prog_3_method_5_code 6 (some FieldType.long) d 5 [(0, .ref (g.1 + 20)), (3, .int x3), (4, .long x4)] [] w Q := by
  unfold cf_Families_nextAbove_B5 at h
  refine am_lload d_Families_nextAbove_5 2 rfl ?_
  refine am_ldc2 (v := 2097152) d_Families_nextAbove_7 wd_989 ?_
  refine am_lif_ge (tgt := 39) d_Families_nextAbove_10 d_Families_nextAbove_11 (by decide) (fun c10 => ?_) (fun c10 => ?_)
  · have h := h.1 c10
    refine am_lconst (v := 0) d_Families_nextAbove_39 rfl ?_
    exact am_lreturn d_Families_nextAbove_40 rfl (hQ (0 : Int64) w h)
  · have h := h.2 c10
    refine am_aload_n d_Families_nextAbove_14 0 rfl ?_
    refine am_getf (T := F_Families) (fs := ob_Families g w 20) (C := R_Families) (N := 1) (ci := 6) 0 d_Families_nextAbove_15 wd_145 rfl (by decide) (el_Families (show ay_sh 20 = _ from rfl)) rfl i_Families (by decide) rfl ?_
    refine am_lload d_Families_nextAbove_18 2 rfl ?_
    refine am_iload_n d_Families_nextAbove_20 1 rfl ?_
    refine am_callV (C := "TriSplits$Orders") (d2 := d - 1) [.long x4, .int x3] d_Families_nextAbove_21 mi_Orders_isSought wd_929 wd_653 wd_654 (by decide) (el_Orders (show ay_sh 21 = _ from rfl)) rfl rfl (by omega) rfl rfl (Nat.le_of_ble_eq_true rfl) ?_
    refine Call.post ?_ (cf_Orders_isSought_ok (by omega) 21 x4 x3 (show ay_sh 21 = _ from rfl) w _ h)
    rintro _ w3 ⟨r2, rfl, h⟩
    show wp g (fun _ => True) y_Families_nextAbove prog_3_method_5_code 6 (some FieldType.long) d 24 [(0, .ref (g.1 + 20)), (3, .int x3), (4, .long x4)] [.int r2] w3 Q
    refine am_if_eq (tgt := 30) d_Families_nextAbove_24 (by decide) (fun c24 => ?_) (fun c24 => ?_)
    · have h := h.1 c24
      refine am_lload d_Families_nextAbove_30 2 rfl ?_
      refine am_lconst (v := 1) d_Families_nextAbove_32 rfl ?_
      refine am_ladd d_Families_nextAbove_33 ?_
      refine am_topl (fun v4 ev4 => ?_)
      have h := h v4 ev4
      refine am_lstore (l' := [(4, .long v4), (0, .ref (g.1 + 20)), (3, .int x3)]) d_Families_nextAbove_34 (by decide) rfl ?_
      refine am_goto (tgt := 5) d_Families_nextAbove_36 (by decide) ?_
      refine am_sub [1, 2, 0] rfl ?_
      exact hK5 x3 v4 w3 h
    · have h := h.2 c24
      refine am_lload d_Families_nextAbove_27 2 rfl ?_
      exact am_lreturn d_Families_nextAbove_29 rfl (hQ x4 w3 h)
theorem cf_Families_nextAbove_L5_ok {g : ayG} {d : Nat} (hd : 6 ≤ d)    (P : Int64 → Wd → Prop) (Q : Option Value → Wd → Prop) (hQ : ∀ x w2, P x w2 → Q (some (.long x)) w2)  : ∀ (n : Nat) (x3 : Int32) (x4 : Int64) (w : Wd) (h : cf_Families_nextAbove_L5 P n x3 x4 w), wp g (fun _ => True) y_Families_nextAbove prog_3_method_5_code 6 (some FieldType.long) d 5 [(0, .ref (g.1 + 20)), (3, .int x3), (4, .long x4)] [] w Q
  | 0, x3, x4, w, h => False.elim h
  | n + 1, x3, x4, w, h => cf_Families_nextAbove_B5_ok hd   w (cf_Families_nextAbove_L5 P n) P Q hQ (fun x3 x4 w h => cf_Families_nextAbove_L5_ok hd    P Q hQ  n x3 x4 w h) x3 x4 h
theorem cf_Families_nextAbove_ok {g : ayG} {d : Nat} (hd : 6 ≤ d) (a0 : Int64) (a1 : Int32)  (w : Wd) (P : Int64 → Wd → Prop) (h : cf_Families_nextAbove a0 a1 w P) : Call g y_Families_nextAbove prog_3_method_5_code 6 (some FieldType.long) d [.ref (g.1 + 20), .long a0, .int a1] w (fun (r : Option Value) (w2 : Wd) => ∃ x, r = some (.long x) ∧ P x w2) := by
  unfold cf_Families_nextAbove at h
  refine am_enter mi_Families_nextAbove (Nat.le_of_ble_eq_true rfl) ?_
  have hQ : ∀ x w2, P x w2 → (fun (r : Option Value) (w2 : Wd) => ∃ x, r = some (.long x) ∧ P x w2) (some (.long x)) w2 := fun x w2 h => ⟨x, rfl, h⟩
  generalize (fun (r : Option Value) (w2 : Wd) => ∃ x, r = some (.long x) ∧ P x w2) = Q at hQ ⊢
  show wp g (fun _ => True) y_Families_nextAbove prog_3_method_5_code 6 (some FieldType.long) d 0 [(0, .ref (g.1 + 20)), (1, .long a0), (3, .int a1)] [] w Q
  refine am_lload_n d_Families_nextAbove_0 1 rfl ?_
  refine am_lconst (v := 1) d_Families_nextAbove_1 rfl ?_
  refine am_ladd d_Families_nextAbove_2 ?_
  refine am_topl (fun v1 ev1 => ?_)
  have h := h v1 ev1
  refine am_lstore (l' := [(4, .long v1), (0, .ref (g.1 + 20)), (1, .long a0), (3, .int a1)]) d_Families_nextAbove_3 (by decide) rfl ?_
  refine am_sub [1, 3, 0] rfl ?_
  obtain ⟨n, h⟩ := h
  exact cf_Families_nextAbove_L5_ok (by omega)    P Q hQ  n a1 v1 w h
theorem d_Families_signOf_0 : decode prog_3_method_12_code 0 = .ok (.iload_n 0, 1) := by decide +kernel
theorem d_Families_signOf_1 : decode prog_3_method_12_code 1 = .ok (.istore_n 1, 1) := by decide +kernel
theorem d_Families_signOf_2 : decode prog_3_method_12_code 2 = .ok (.iconst 1, 1) := by decide +kernel
theorem d_Families_signOf_3 : decode prog_3_method_12_code 3 = .ok (.istore_n 2, 1) := by decide +kernel
theorem d_Families_signOf_4 : decode prog_3_method_12_code 4 = .ok (.iconst 2, 1) := by decide +kernel
theorem d_Families_signOf_5 : decode prog_3_method_12_code 5 = .ok (.istore_n 3, 1) := by decide +kernel
theorem d_Families_signOf_6 : decode prog_3_method_12_code 6 = .ok (.iload_n 3, 1) := by decide +kernel
theorem d_Families_signOf_7 : decode prog_3_method_12_code 7 = .ok (.iload_n 0, 1) := by decide +kernel
theorem d_Families_signOf_8 : decode prog_3_method_12_code 8 = .ok (.if_icmp .gt 38, 3) := by decide +kernel
theorem d_Families_signOf_11 : decode prog_3_method_12_code 11 = .ok (.iload_n 1, 1) := by decide +kernel
theorem d_Families_signOf_12 : decode prog_3_method_12_code 12 = .ok (.iload_n 3, 1) := by decide +kernel
theorem d_Families_signOf_13 : decode prog_3_method_12_code 13 = .ok (.irem, 1) := by decide +kernel
theorem d_Families_signOf_14 : decode prog_3_method_12_code 14 = .ok (.ifCond .ne 20, 3) := by decide +kernel
theorem d_Families_signOf_17 : decode prog_3_method_12_code 17 = .ok (.iload_n 1, 1) := by decide +kernel
theorem d_Families_signOf_18 : decode prog_3_method_12_code 18 = .ok (.iload_n 3, 1) := by decide +kernel
theorem d_Families_signOf_19 : decode prog_3_method_12_code 19 = .ok (.idiv, 1) := by decide +kernel
theorem d_Families_signOf_20 : decode prog_3_method_12_code 20 = .ok (.istore_n 1, 1) := by decide +kernel
theorem d_Families_signOf_21 : decode prog_3_method_12_code 21 = .ok (.iload_n 1, 1) := by decide +kernel
theorem d_Families_signOf_22 : decode prog_3_method_12_code 22 = .ok (.iload_n 3, 1) := by decide +kernel
theorem d_Families_signOf_23 : decode prog_3_method_12_code 23 = .ok (.irem, 1) := by decide +kernel
theorem d_Families_signOf_24 : decode prog_3_method_12_code 24 = .ok (.ifCond .ne 7, 3) := by decide +kernel
theorem d_Families_signOf_27 : decode prog_3_method_12_code 27 = .ok (.iconst 0, 1) := by decide +kernel
theorem d_Families_signOf_28 : decode prog_3_method_12_code 28 = .ok (.goto 5, 3) := by decide +kernel
theorem d_Families_signOf_31 : decode prog_3_method_12_code 31 = .ok (.iload_n 2, 1) := by decide +kernel
theorem d_Families_signOf_32 : decode prog_3_method_12_code 32 = .ok (.ineg, 1) := by decide +kernel
theorem d_Families_signOf_33 : decode prog_3_method_12_code 33 = .ok (.istore_n 2, 1) := by decide +kernel
theorem d_Families_signOf_34 : decode prog_3_method_12_code 34 = .ok (.iload_n 2, 1) := by decide +kernel
theorem d_Families_signOf_35 : decode prog_3_method_12_code 35 = .ok (.ifCond .ne 5, 3) := by decide +kernel
theorem d_Families_signOf_38 : decode prog_3_method_12_code 38 = .ok (.iconst 0, 1) := by decide +kernel
theorem d_Families_signOf_39 : decode prog_3_method_12_code 39 = .ok (.ireturn, 1) := by decide +kernel
theorem d_Families_signOf_40 : decode prog_3_method_12_code 40 = .ok (.iinc 3 1, 3) := by decide +kernel
theorem d_Families_signOf_43 : decode prog_3_method_12_code 43 = .ok (.goto (-37), 3) := by decide +kernel
theorem d_Families_signOf_46 : decode prog_3_method_12_code 46 = .ok (.iload_n 2, 1) := by decide +kernel
theorem d_Families_signOf_47 : decode prog_3_method_12_code 47 = .ok (.ireturn, 1) := by decide +kernel
def cf_Families_signOf_B6  (K6 : Int32 → Int32 → Int32 → Int32 → Prop) (P : Int32 → Prop) (x0 : Int32) (x1 : Int32) (x2 : Int32) (x3 : Int32)  : Prop :=
  ((x0 < x3 → P x2) ∧ (¬ x0 < x3 → ¬ x3 = 0 ∧ ((¬ (irem x1 x3) = 0 → ((¬ x2 = 0 → ∀ v1, v1 = x3 + (1 : Int32) → K6 x0 x1 x2 v1) ∧ (x2 = 0 → P (0 : Int32)))) ∧ ((irem x1 x3) = 0 → ¬ x3 = 0 ∧ ∀ v2, v2 = x1 / x3 → ¬ x3 = 0 ∧ ((¬ (irem v2 x3) = 0 → ∀ v3, v3 = -x2 → ((¬ v3 = 0 → ∀ v4, v4 = x3 + (1 : Int32) → K6 x0 v2 v3 v4) ∧ (v3 = 0 → P (0 : Int32)))) ∧ ((irem v2 x3) = 0 → ((¬ (0 : Int32) = 0 → ∀ v5, v5 = x3 + (1 : Int32) → K6 x0 v2 (0 : Int32) v5) ∧ ((0 : Int32) = 0 → P (0 : Int32)))))))))
def cf_Families_signOf_L6   (P : Int32 → Prop) : Nat → Int32 → Int32 → Int32 → Int32 → Prop
  | 0 => fun x0 x1 x2 x3 => False
  | n + 1 => fun x0 x1 x2 x3 => cf_Families_signOf_B6 (cf_Families_signOf_L6 P n) P x0 x1 x2 x3
def cf_Families_signOf (a0 : Int32) (P : Int32 → Prop) : Prop :=
  ∃ n, cf_Families_signOf_L6 P n a0 a0 (1 : Int32) (2 : Int32)
theorem cf_Families_signOf_B6_ok {g : ayG} {d : Nat} (hd : 0 ≤ d)   (w : Wd) (K6 : Int32 → Int32 → Int32 → Int32 → Prop) (P : Int32 → Prop) (Q : Option Value → Wd → Prop) (hQ : ∀ x, P x → Q (some (.int x)) w) (hK6 : ∀ (x0 : Int32) (x1 : Int32) (x2 : Int32) (x3 : Int32), (K6 x0 x1 x2 x3 → wp g (fun _ => True) y_Families_signOf prog_3_method_12_code 4 (some FieldType.int) d 6 [(0, .int x0), (1, .int x1), (2, .int x2), (3, .int x3)] [] w Q)) (x0 : Int32) (x1 : Int32) (x2 : Int32) (x3 : Int32) (h : cf_Families_signOf_B6 K6 P x0 x1 x2 x3) : wp g (fun _ => True) y_Families_signOf prog_3_method_12_code 4 (some FieldType.int) d 6 [(0, .int x0), (1, .int x1), (2, .int x2), (3, .int x3)] [] w Q := by
  unfold cf_Families_signOf_B6 at h
  refine am_iload_n d_Families_signOf_6 3 rfl ?_
  refine am_iload_n d_Families_signOf_7 0 rfl ?_
  refine am_icmp_gt (tgt := 46) d_Families_signOf_8 (by decide) (fun c8 => ?_) (fun c8 => ?_)
  · have h := h.1 c8
    refine am_iload_n d_Families_signOf_46 2 rfl ?_
    exact am_ireturn d_Families_signOf_47 rfl rfl (hQ x2 h)
  · have h := h.2 c8
    refine am_iload_n d_Families_signOf_11 1 rfl ?_
    refine am_iload_n d_Families_signOf_12 3 rfl ?_
    have hz13 := h.1
    have h := h.2
    refine am_irem d_Families_signOf_13 hz13 ?_
    refine am_if_ne (tgt := 34) d_Families_signOf_14 (by decide) (fun c14 => ?_) (fun c14 => ?_)
    · have h := h.1 c14
      refine am_iload_n d_Families_signOf_34 2 rfl ?_
      refine am_if_ne (tgt := 40) d_Families_signOf_35 (by decide) (fun c35 => ?_) (fun c35 => ?_)
      · have h := h.1 c35
        obtain ⟨v1, ev1⟩ : ∃ z : Int32, z = x3 + (1 : Int32) := ⟨_, rfl⟩
        have h := h v1 ev1
        refine am_iinc (v := v1) (l' := [(3, .int v1), (0, .int x0), (1, .int x1), (2, .int x2)]) d_Families_signOf_40 3 rfl (by rw [ev1]; rfl) (by decide) rfl ?_
        refine am_goto (tgt := 6) d_Families_signOf_43 (by decide) ?_
        refine am_sub [1, 2, 3, 0] rfl ?_
        exact hK6 x0 x1 x2 v1 h
      · have h := h.2 c35
        refine am_iconst (v := 0) d_Families_signOf_38 rfl ?_
        exact am_ireturn d_Families_signOf_39 rfl rfl (hQ (0 : Int32) h)
    · have h := h.2 c14
      refine am_iload_n d_Families_signOf_17 1 rfl ?_
      refine am_iload_n d_Families_signOf_18 3 rfl ?_
      have hz19 := h.1
      have h := h.2
      refine am_idiv d_Families_signOf_19 hz19 ?_
      refine am_topi (fun v2 ev2 => ?_)
      have h := h v2 ev2
      refine am_istore_n (l' := [(1, .int v2), (0, .int x0), (2, .int x2), (3, .int x3)]) d_Families_signOf_20 (by decide) rfl ?_
      refine am_iload_n d_Families_signOf_21 0 rfl ?_
      refine am_iload_n d_Families_signOf_22 3 rfl ?_
      have hz23 := h.1
      have h := h.2
      refine am_irem d_Families_signOf_23 hz23 ?_
      refine am_if_ne (tgt := 31) d_Families_signOf_24 (by decide) (fun c24 => ?_) (fun c24 => ?_)
      · have h := h.1 c24
        refine am_iload_n d_Families_signOf_31 2 rfl ?_
        refine am_ineg d_Families_signOf_32 ?_
        refine am_topi (fun v3 ev3 => ?_)
        have h := h v3 ev3
        refine am_istore_n (l' := [(2, .int v3), (1, .int v2), (0, .int x0), (3, .int x3)]) d_Families_signOf_33 (by decide) rfl ?_
        refine am_iload_n d_Families_signOf_34 0 rfl ?_
        refine am_if_ne (tgt := 40) d_Families_signOf_35 (by decide) (fun c35 => ?_) (fun c35 => ?_)
        · have h := h.1 c35
          obtain ⟨v4, ev4⟩ : ∃ z : Int32, z = x3 + (1 : Int32) := ⟨_, rfl⟩
          have h := h v4 ev4
          refine am_iinc (v := v4) (l' := [(3, .int v4), (2, .int v3), (1, .int v2), (0, .int x0)]) d_Families_signOf_40 3 rfl (by rw [ev4]; rfl) (by decide) rfl ?_
          refine am_goto (tgt := 6) d_Families_signOf_43 (by decide) ?_
          refine am_sub [3, 2, 1, 0] rfl ?_
          exact hK6 x0 v2 v3 v4 h
        · have h := h.2 c35
          refine am_iconst (v := 0) d_Families_signOf_38 rfl ?_
          exact am_ireturn d_Families_signOf_39 rfl rfl (hQ (0 : Int32) h)
      · have h := h.2 c24
        refine am_iconst (v := 0) d_Families_signOf_27 rfl ?_
        refine am_goto (tgt := 33) d_Families_signOf_28 (by decide) ?_
        refine am_istore_n (l' := [(2, .int (0 : Int32)), (1, .int v2), (0, .int x0), (3, .int x3)]) d_Families_signOf_33 (by decide) rfl ?_
        refine am_iload_n d_Families_signOf_34 0 rfl ?_
        refine am_if_ne (tgt := 40) d_Families_signOf_35 (by decide) (fun c35 => ?_) (fun c35 => ?_)
        · have h := h.1 c35
          obtain ⟨v5, ev5⟩ : ∃ z : Int32, z = x3 + (1 : Int32) := ⟨_, rfl⟩
          have h := h v5 ev5
          refine am_iinc (v := v5) (l' := [(3, .int v5), (2, .int (0 : Int32)), (1, .int v2), (0, .int x0)]) d_Families_signOf_40 3 rfl (by rw [ev5]; rfl) (by decide) rfl ?_
          refine am_goto (tgt := 6) d_Families_signOf_43 (by decide) ?_
          refine am_sub [3, 2, 1, 0] rfl ?_
          exact hK6 x0 v2 (0 : Int32) v5 h
        · have h := h.2 c35
          refine am_iconst (v := 0) d_Families_signOf_38 rfl ?_
          exact am_ireturn d_Families_signOf_39 rfl rfl (hQ (0 : Int32) h)
theorem cf_Families_signOf_L6_ok {g : ayG} {d : Nat} (hd : 0 ≤ d)   (w : Wd)  (P : Int32 → Prop) (Q : Option Value → Wd → Prop) (hQ : ∀ x, P x → Q (some (.int x)) w)  : ∀ (n : Nat) (x0 : Int32) (x1 : Int32) (x2 : Int32) (x3 : Int32) (h : cf_Families_signOf_L6 P n x0 x1 x2 x3), wp g (fun _ => True) y_Families_signOf prog_3_method_12_code 4 (some FieldType.int) d 6 [(0, .int x0), (1, .int x1), (2, .int x2), (3, .int x3)] [] w Q
  | 0, x0, x1, x2, x3, h => False.elim h
  | n + 1, x0, x1, x2, x3, h => cf_Families_signOf_B6_ok hd   w (cf_Families_signOf_L6 P n) P Q hQ (fun x0 x1 x2 x3 h => cf_Families_signOf_L6_ok hd   w  P Q hQ  n x0 x1 x2 x3 h) x0 x1 x2 x3 h
theorem cf_Families_signOf_ok {g : ayG} {d : Nat} (hd : 0 ≤ d) (a0 : Int32)  (w : Wd) (P : Int32 → Prop) (h : cf_Families_signOf a0 P) : Call g y_Families_signOf prog_3_method_12_code 4 (some FieldType.int) d [.int a0] w (fun (r : Option Value) (w2 : Wd) => ∃ x, r = some (.int x) ∧ w = w2 ∧ P x) := by
  unfold cf_Families_signOf at h
  refine am_enter mi_Families_signOf (Nat.le_of_ble_eq_true rfl) ?_
  have hQ : ∀ x, P x → (fun (r : Option Value) (w2 : Wd) => ∃ x, r = some (.int x) ∧ w = w2 ∧ P x) (some (.int x)) w := fun x h => ⟨x, rfl, rfl, h⟩
  generalize (fun (r : Option Value) (w2 : Wd) => ∃ x, r = some (.int x) ∧ w = w2 ∧ P x) = Q at hQ ⊢
  show wp g (fun _ => True) y_Families_signOf prog_3_method_12_code 4 (some FieldType.int) d 0 [(0, .int a0)] [] w Q
  refine am_iload_n d_Families_signOf_0 0 rfl ?_
  refine am_istore_n (l' := [(1, .int a0), (0, .int a0)]) d_Families_signOf_1 (by decide) rfl ?_
  refine am_iconst (v := 1) d_Families_signOf_2 rfl ?_
  refine am_istore_n (l' := [(2, .int (1 : Int32)), (1, .int a0), (0, .int a0)]) d_Families_signOf_3 (by decide) rfl ?_
  refine am_iconst (v := 2) d_Families_signOf_4 rfl ?_
  refine am_istore_n (l' := [(3, .int (2 : Int32)), (2, .int (1 : Int32)), (1, .int a0), (0, .int a0)]) d_Families_signOf_5 (by decide) rfl ?_
  refine am_sub [3, 2, 1, 0] rfl ?_
  obtain ⟨n, h⟩ := h
  exact cf_Families_signOf_L6_ok (by omega)   w  P Q hQ  n a0 a0 (1 : Int32) (2 : Int32) h
theorem d_Families_countIrreducible_0 : decode prog_3_method_6_code 0 = .ok (.lconst 0, 1) := by decide +kernel
theorem d_Families_countIrreducible_1 : decode prog_3_method_6_code 1 = .ok (.lstore_n 1, 1) := by decide +kernel
theorem d_Families_countIrreducible_2 : decode prog_3_method_6_code 2 = .ok (.iconst 1, 1) := by decide +kernel
theorem d_Families_countIrreducible_3 : decode prog_3_method_6_code 3 = .ok (.istore_n 3, 1) := by decide +kernel
theorem d_Families_countIrreducible_4 : decode prog_3_method_6_code 4 = .ok (.iload_n 3, 1) := by decide +kernel
theorem d_Families_countIrreducible_5 : decode prog_3_method_6_code 5 = .ok (.iload_n 0, 1) := by decide +kernel
theorem d_Families_countIrreducible_6 : decode prog_3_method_6_code 6 = .ok (.if_icmp .gt 27, 3) := by decide +kernel
theorem d_Families_countIrreducible_9 : decode prog_3_method_6_code 9 = .ok (.iload_n 0, 1) := by decide +kernel
theorem d_Families_countIrreducible_10 : decode prog_3_method_6_code 10 = .ok (.iload_n 3, 1) := by decide +kernel
theorem d_Families_countIrreducible_11 : decode prog_3_method_6_code 11 = .ok (.irem, 1) := by decide +kernel
theorem d_Families_countIrreducible_12 : decode prog_3_method_6_code 12 = .ok (.ifCond .ne 15, 3) := by decide +kernel
theorem d_Families_countIrreducible_15 : decode prog_3_method_6_code 15 = .ok (.lload_n 1, 1) := by decide +kernel
theorem d_Families_countIrreducible_16 : decode prog_3_method_6_code 16 = .ok (.iload_n 0, 1) := by decide +kernel
theorem d_Families_countIrreducible_17 : decode prog_3_method_6_code 17 = .ok (.iload_n 3, 1) := by decide +kernel
theorem d_Families_countIrreducible_18 : decode prog_3_method_6_code 18 = .ok (.idiv, 1) := by decide +kernel
theorem d_Families_countIrreducible_19 : decode prog_3_method_6_code 19 = .ok (.invokestatic 36, 3) := by decide +kernel
theorem d_Families_countIrreducible_22 : decode prog_3_method_6_code 22 = .ok (.i2l, 1) := by decide +kernel
theorem d_Families_countIrreducible_23 : decode prog_3_method_6_code 23 = .ok (.iload_n 3, 1) := by decide +kernel
theorem d_Families_countIrreducible_24 : decode prog_3_method_6_code 24 = .ok (.lshl, 1) := by decide +kernel
theorem d_Families_countIrreducible_25 : decode prog_3_method_6_code 25 = .ok (.ladd, 1) := by decide +kernel
theorem d_Families_countIrreducible_26 : decode prog_3_method_6_code 26 = .ok (.lstore_n 1, 1) := by decide +kernel
theorem d_Families_countIrreducible_27 : decode prog_3_method_6_code 27 = .ok (.iinc 3 1, 3) := by decide +kernel
theorem d_Families_countIrreducible_30 : decode prog_3_method_6_code 30 = .ok (.goto (-26), 3) := by decide +kernel
theorem d_Families_countIrreducible_33 : decode prog_3_method_6_code 33 = .ok (.iload_n 0, 1) := by decide +kernel
theorem d_Families_countIrreducible_34 : decode prog_3_method_6_code 34 = .ok (.ifCond .le 10, 3) := by decide +kernel
theorem d_Families_countIrreducible_37 : decode prog_3_method_6_code 37 = .ok (.lload_n 1, 1) := by decide +kernel
theorem d_Families_countIrreducible_38 : decode prog_3_method_6_code 38 = .ok (.iload_n 0, 1) := by decide +kernel
theorem d_Families_countIrreducible_39 : decode prog_3_method_6_code 39 = .ok (.i2l, 1) := by decide +kernel
theorem d_Families_countIrreducible_40 : decode prog_3_method_6_code 40 = .ok (.ldiv, 1) := by decide +kernel
theorem d_Families_countIrreducible_41 : decode prog_3_method_6_code 41 = .ok (.goto 4, 3) := by decide +kernel
theorem d_Families_countIrreducible_44 : decode prog_3_method_6_code 44 = .ok (.lconst 0, 1) := by decide +kernel
theorem d_Families_countIrreducible_45 : decode prog_3_method_6_code 45 = .ok (.lreturn, 1) := by decide +kernel
def cf_Families_countIrreducible_B4  (K4 : Int32 → Int64 → Int32 → Prop) (P : Int64 → Prop) (x0 : Int32) (x1 : Int64) (x3 : Int32)  : Prop :=
  ((x0 < x3 → ((x0 ≤ 0 → P (0 : Int64)) ∧ (¬ x0 ≤ 0 → ¬ x0.toInt64 = 0 ∧ P (x1 / x0.toInt64)))) ∧ (¬ x0 < x3 → ¬ x3 = 0 ∧ ((¬ (irem x0 x3) = 0 → ∀ v1, v1 = x3 + (1 : Int32) → K4 x0 x1 v1) ∧ ((irem x0 x3) = 0 → ¬ x3 = 0 ∧ cf_Families_signOf (x0 / x3) (fun r2 => ∀ v3, v3 = x1 + (lshl r2.toInt64 x3) → ∀ v4, v4 = x3 + (1 : Int32) → K4 x0 v3 v4)))))
def cf_Families_countIrreducible_L4   (P : Int64 → Prop) : Nat → Int32 → Int64 → Int32 → Prop
  | 0 => fun x0 x1 x3 => False
  | n + 1 => fun x0 x1 x3 => cf_Families_countIrreducible_B4 (cf_Families_countIrreducible_L4 P n) P x0 x1 x3
def cf_Families_countIrreducible (a0 : Int32) (P : Int64 → Prop) : Prop :=
  ∃ n, cf_Families_countIrreducible_L4 P n a0 (0 : Int64) (1 : Int32)
theorem cf_Families_countIrreducible_B4_ok {g : ayG} {d : Nat} (hd : 1 ≤ d)   (w : Wd) (K4 : Int32 → Int64 → Int32 → Prop) (P : Int64 → Prop) (Q : Option Value → Wd → Prop) (hQ : ∀ x, P x → Q (some (.long x)) w) (hK4 : ∀ (x0 : Int32) (x1 : Int64) (x3 : Int32), (K4 x0 x1 x3 → wp g (fun _ => True) y_Families_countIrreducible prog_3_method_6_code 4 (some FieldType.long) d 4 [(0, .int x0), (1, .long x1), (3, .int x3)] [] w Q)) (x0 : Int32) (x1 : Int64) (x3 : Int32) (h : cf_Families_countIrreducible_B4 K4 P x0 x1 x3) : wp g (fun _ => True) y_Families_countIrreducible prog_3_method_6_code 4 (some FieldType.long) d 4 [(0, .int x0), (1, .long x1), (3, .int x3)] [] w Q := by
  unfold cf_Families_countIrreducible_B4 at h
  refine am_iload_n d_Families_countIrreducible_4 2 rfl ?_
  refine am_iload_n d_Families_countIrreducible_5 0 rfl ?_
  refine am_icmp_gt (tgt := 33) d_Families_countIrreducible_6 (by decide) (fun c6 => ?_) (fun c6 => ?_)
  · have h := h.1 c6
    refine am_iload_n d_Families_countIrreducible_33 0 rfl ?_
    refine am_if_le (tgt := 44) d_Families_countIrreducible_34 (by decide) (fun c34 => ?_) (fun c34 => ?_)
    · have h := h.1 c34
      refine am_lconst (v := 0) d_Families_countIrreducible_44 rfl ?_
      exact am_lreturn d_Families_countIrreducible_45 rfl (hQ (0 : Int64) h)
    · have h := h.2 c34
      refine am_lload_n d_Families_countIrreducible_37 1 rfl ?_
      refine am_iload_n d_Families_countIrreducible_38 0 rfl ?_
      refine am_i2l d_Families_countIrreducible_39 ?_
      have hz40 := h.1
      have h := h.2
      refine am_ldiv d_Families_countIrreducible_40 hz40 ?_
      refine am_goto (tgt := 45) d_Families_countIrreducible_41 (by decide) ?_
      exact am_lreturn d_Families_countIrreducible_45 rfl (hQ (x1 / x0.toInt64) h)
  · have h := h.2 c6
    refine am_iload_n d_Families_countIrreducible_9 0 rfl ?_
    refine am_iload_n d_Families_countIrreducible_10 2 rfl ?_
    have hz11 := h.1
    have h := h.2
    refine am_irem d_Families_countIrreducible_11 hz11 ?_
    refine am_if_ne (tgt := 27) d_Families_countIrreducible_12 (by decide) (fun c12 => ?_) (fun c12 => ?_)
    · have h := h.1 c12
      obtain ⟨v1, ev1⟩ : ∃ z : Int32, z = x3 + (1 : Int32) := ⟨_, rfl⟩
      have h := h v1 ev1
      refine am_iinc (v := v1) (l' := [(3, .int v1), (0, .int x0), (1, .long x1)]) d_Families_countIrreducible_27 2 rfl (by rw [ev1]; rfl) (by decide) rfl ?_
      refine am_goto (tgt := 4) d_Families_countIrreducible_30 (by decide) ?_
      refine am_sub [1, 2, 0] rfl ?_
      exact hK4 x0 x1 v1 h
    · have h := h.2 c12
      refine am_lload_n d_Families_countIrreducible_15 1 rfl ?_
      refine am_iload_n d_Families_countIrreducible_16 0 rfl ?_
      refine am_iload_n d_Families_countIrreducible_17 2 rfl ?_
      have hz18 := h.1
      have h := h.2
      refine am_idiv d_Families_countIrreducible_18 hz18 ?_
      refine am_callS (d2 := d - 1) [.int (x0 / x3)] d_Families_countIrreducible_19 mi_Families_signOf wd_965 wd_966 (by omega) rfl rfl (Nat.le_of_ble_eq_true rfl) ?_
      refine Call.post ?_ (cf_Families_signOf_ok (by omega) (x0 / x3)  w _ h)
      rintro _ _ ⟨r2, rfl, rfl, h⟩
      show wp g (fun _ => True) y_Families_countIrreducible prog_3_method_6_code 4 (some FieldType.long) d 22 [(0, .int x0), (1, .long x1), (3, .int x3)] [.int r2, .long x1] w Q
      refine am_i2l d_Families_countIrreducible_22 ?_
      refine am_iload_n d_Families_countIrreducible_23 2 rfl ?_
      refine am_lshl d_Families_countIrreducible_24 ?_
      refine am_ladd d_Families_countIrreducible_25 ?_
      refine am_topl (fun v3 ev3 => ?_)
      have h := h v3 ev3
      refine am_lstore_n (l' := [(1, .long v3), (0, .int x0), (3, .int x3)]) d_Families_countIrreducible_26 (by decide) rfl ?_
      obtain ⟨v4, ev4⟩ : ∃ z : Int32, z = x3 + (1 : Int32) := ⟨_, rfl⟩
      have h := h v4 ev4
      refine am_iinc (v := v4) (l' := [(3, .int v4), (1, .long v3), (0, .int x0)]) d_Families_countIrreducible_27 2 rfl (by rw [ev4]; rfl) (by decide) rfl ?_
      refine am_goto (tgt := 4) d_Families_countIrreducible_30 (by decide) ?_
      refine am_sub [2, 1, 0] rfl ?_
      exact hK4 x0 v3 v4 h
theorem cf_Families_countIrreducible_L4_ok {g : ayG} {d : Nat} (hd : 1 ≤ d)   (w : Wd)  (P : Int64 → Prop) (Q : Option Value → Wd → Prop) (hQ : ∀ x, P x → Q (some (.long x)) w)  : ∀ (n : Nat) (x0 : Int32) (x1 : Int64) (x3 : Int32) (h : cf_Families_countIrreducible_L4 P n x0 x1 x3), wp g (fun _ => True) y_Families_countIrreducible prog_3_method_6_code 4 (some FieldType.long) d 4 [(0, .int x0), (1, .long x1), (3, .int x3)] [] w Q
  | 0, x0, x1, x3, h => False.elim h
  | n + 1, x0, x1, x3, h => cf_Families_countIrreducible_B4_ok hd   w (cf_Families_countIrreducible_L4 P n) P Q hQ (fun x0 x1 x3 h => cf_Families_countIrreducible_L4_ok hd   w  P Q hQ  n x0 x1 x3 h) x0 x1 x3 h
theorem cf_Families_countIrreducible_ok {g : ayG} {d : Nat} (hd : 1 ≤ d) (a0 : Int32)  (w : Wd) (P : Int64 → Prop) (h : cf_Families_countIrreducible a0 P) : Call g y_Families_countIrreducible prog_3_method_6_code 4 (some FieldType.long) d [.int a0] w (fun (r : Option Value) (w2 : Wd) => ∃ x, r = some (.long x) ∧ w = w2 ∧ P x) := by
  unfold cf_Families_countIrreducible at h
  refine am_enter mi_Families_countIrreducible (Nat.le_of_ble_eq_true rfl) ?_
  have hQ : ∀ x, P x → (fun (r : Option Value) (w2 : Wd) => ∃ x, r = some (.long x) ∧ w = w2 ∧ P x) (some (.long x)) w := fun x h => ⟨x, rfl, rfl, h⟩
  generalize (fun (r : Option Value) (w2 : Wd) => ∃ x, r = some (.long x) ∧ w = w2 ∧ P x) = Q at hQ ⊢
  show wp g (fun _ => True) y_Families_countIrreducible prog_3_method_6_code 4 (some FieldType.long) d 0 [(0, .int a0)] [] w Q
  refine am_lconst (v := 0) d_Families_countIrreducible_0 rfl ?_
  refine am_lstore_n (l' := [(1, .long (0 : Int64)), (0, .int a0)]) d_Families_countIrreducible_1 (by decide) rfl ?_
  refine am_iconst (v := 1) d_Families_countIrreducible_2 rfl ?_
  refine am_istore_n (l' := [(3, .int (1 : Int32)), (1, .long (0 : Int64)), (0, .int a0)]) d_Families_countIrreducible_3 (by decide) rfl ?_
  refine am_sub [2, 1, 0] rfl ?_
  obtain ⟨n, h⟩ := h
  exact cf_Families_countIrreducible_L4_ok (by omega)   w  P Q hQ  n a0 (0 : Int64) (1 : Int32) h
theorem d_Families_swanOfEven_0 : decode prog_3_method_9_code 0 = .ok (.iload_n 0, 1) := by decide +kernel
theorem d_Families_swanOfEven_1 : decode prog_3_method_9_code 1 = .ok (.iconst 2, 1) := by decide +kernel
theorem d_Families_swanOfEven_2 : decode prog_3_method_9_code 2 = .ok (.iload_n 1, 1) := by decide +kernel
theorem d_Families_swanOfEven_3 : decode prog_3_method_9_code 3 = .ok (.imul, 1) := by decide +kernel
theorem d_Families_swanOfEven_4 : decode prog_3_method_9_code 4 = .ok (.if_icmp .ne 5, 3) := by decide +kernel
theorem d_Families_swanOfEven_7 : decode prog_3_method_9_code 7 = .ok (.iconst 1, 1) := by decide +kernel
theorem d_Families_swanOfEven_8 : decode prog_3_method_9_code 8 = .ok (.ireturn, 1) := by decide +kernel
theorem d_Families_swanOfEven_9 : decode prog_3_method_9_code 9 = .ok (.iload_n 0, 1) := by decide +kernel
theorem d_Families_swanOfEven_10 : decode prog_3_method_9_code 10 = .ok (.iconst 2, 1) := by decide +kernel
theorem d_Families_swanOfEven_11 : decode prog_3_method_9_code 11 = .ok (.idiv, 1) := by decide +kernel
theorem d_Families_swanOfEven_12 : decode prog_3_method_9_code 12 = .ok (.iload_n 1, 1) := by decide +kernel
theorem d_Families_swanOfEven_13 : decode prog_3_method_9_code 13 = .ok (.imul, 1) := by decide +kernel
theorem d_Families_swanOfEven_14 : decode prog_3_method_9_code 14 = .ok (.iconst 4, 1) := by decide +kernel
theorem d_Families_swanOfEven_15 : decode prog_3_method_9_code 15 = .ok (.irem, 1) := by decide +kernel
theorem d_Families_swanOfEven_16 : decode prog_3_method_9_code 16 = .ok (.iconst 2, 1) := by decide +kernel
theorem d_Families_swanOfEven_17 : decode prog_3_method_9_code 17 = .ok (.if_icmp .ge 7, 3) := by decide +kernel
theorem d_Families_swanOfEven_20 : decode prog_3_method_9_code 20 = .ok (.iconst 0, 1) := by decide +kernel
theorem d_Families_swanOfEven_21 : decode prog_3_method_9_code 21 = .ok (.goto 4, 3) := by decide +kernel
theorem d_Families_swanOfEven_24 : decode prog_3_method_9_code 24 = .ok (.iconst 1, 1) := by decide +kernel
theorem d_Families_swanOfEven_25 : decode prog_3_method_9_code 25 = .ok (.ireturn, 1) := by decide +kernel
def cf_Families_swanOfEven (a0 : Int32) (a1 : Int32) (P : Int32 → Prop) : Prop :=
  ((¬ a0 = ((2 : Int32) * a1) → (((2 : Int32) ≤ (irem ((a0 / (2 : Int32)) * a1) (4 : Int32)) → P (1 : Int32)) ∧ (¬ (2 : Int32) ≤ (irem ((a0 / (2 : Int32)) * a1) (4 : Int32)) → P (0 : Int32)))) ∧ (a0 = ((2 : Int32) * a1) → P (1 : Int32)))
theorem cf_Families_swanOfEven_ok {g : ayG} {d : Nat} (hd : 0 ≤ d) (a0 : Int32) (a1 : Int32)  (w : Wd) (P : Int32 → Prop) (h : cf_Families_swanOfEven a0 a1 P) : Call g y_Families_swanOfEven prog_3_method_9_code 2 (some FieldType.int) d [.int a0, .int a1] w (fun (r : Option Value) (w2 : Wd) => ∃ x, r = some (.int x) ∧ w = w2 ∧ P x) := by
  unfold cf_Families_swanOfEven at h
  refine am_enter mi_Families_swanOfEven (Nat.le_of_ble_eq_true rfl) ?_
  have hQ : ∀ x, P x → (fun (r : Option Value) (w2 : Wd) => ∃ x, r = some (.int x) ∧ w = w2 ∧ P x) (some (.int x)) w := fun x h => ⟨x, rfl, rfl, h⟩
  generalize (fun (r : Option Value) (w2 : Wd) => ∃ x, r = some (.int x) ∧ w = w2 ∧ P x) = Q at hQ ⊢
  show wp g (fun _ => True) y_Families_swanOfEven prog_3_method_9_code 2 (some FieldType.int) d 0 [(0, .int a0), (1, .int a1)] [] w Q
  refine am_iload_n d_Families_swanOfEven_0 0 rfl ?_
  refine am_iconst (v := 2) d_Families_swanOfEven_1 rfl ?_
  refine am_iload_n d_Families_swanOfEven_2 1 rfl ?_
  refine am_imul d_Families_swanOfEven_3 ?_
  refine am_icmp_ne (tgt := 9) d_Families_swanOfEven_4 (by decide) (fun c4 => ?_) (fun c4 => ?_)
  · have h := h.1 c4
    refine am_iload_n d_Families_swanOfEven_9 0 rfl ?_
    refine am_iconst (v := 2) d_Families_swanOfEven_10 rfl ?_
    refine am_idiv d_Families_swanOfEven_11 (by decide) ?_
    refine am_iload_n d_Families_swanOfEven_12 1 rfl ?_
    refine am_imul d_Families_swanOfEven_13 ?_
    refine am_iconst (v := 4) d_Families_swanOfEven_14 rfl ?_
    refine am_irem d_Families_swanOfEven_15 (by decide) ?_
    refine am_iconst (v := 2) d_Families_swanOfEven_16 rfl ?_
    refine am_icmp_ge (tgt := 24) d_Families_swanOfEven_17 (by decide) (fun c17 => ?_) (fun c17 => ?_)
    · have h := h.1 c17
      refine am_iconst (v := 1) d_Families_swanOfEven_24 rfl ?_
      exact am_ireturn d_Families_swanOfEven_25 rfl rfl (hQ (1 : Int32) h)
    · have h := h.2 c17
      refine am_iconst (v := 0) d_Families_swanOfEven_20 rfl ?_
      refine am_goto (tgt := 25) d_Families_swanOfEven_21 (by decide) ?_
      exact am_ireturn d_Families_swanOfEven_25 rfl rfl (hQ (0 : Int32) h)
  · have h := h.2 c4
    refine am_iconst (v := 1) d_Families_swanOfEven_7 rfl ?_
    exact am_ireturn d_Families_swanOfEven_8 rfl rfl (hQ (1 : Int32) h)
theorem d_Families_swanOfOdd_0 : decode prog_3_method_10_code 0 = .ok (.iload_n 1, 1) := by decide +kernel
theorem d_Families_swanOfOdd_1 : decode prog_3_method_10_code 1 = .ok (.ifCond .le 15, 3) := by decide +kernel
theorem d_Families_swanOfOdd_4 : decode prog_3_method_10_code 4 = .ok (.iconst 2, 1) := by decide +kernel
theorem d_Families_swanOfOdd_5 : decode prog_3_method_10_code 5 = .ok (.iload_n 0, 1) := by decide +kernel
theorem d_Families_swanOfOdd_6 : decode prog_3_method_10_code 6 = .ok (.imul, 1) := by decide +kernel
theorem d_Families_swanOfOdd_7 : decode prog_3_method_10_code 7 = .ok (.iload_n 1, 1) := by decide +kernel
theorem d_Families_swanOfOdd_8 : decode prog_3_method_10_code 8 = .ok (.irem, 1) := by decide +kernel
theorem d_Families_swanOfOdd_9 : decode prog_3_method_10_code 9 = .ok (.ifCond .ne 7, 3) := by decide +kernel
theorem d_Families_swanOfOdd_12 : decode prog_3_method_10_code 12 = .ok (.iconst 1, 1) := by decide +kernel
theorem d_Families_swanOfOdd_13 : decode prog_3_method_10_code 13 = .ok (.goto 4, 3) := by decide +kernel
theorem d_Families_swanOfOdd_16 : decode prog_3_method_10_code 16 = .ok (.iconst 0, 1) := by decide +kernel
theorem d_Families_swanOfOdd_17 : decode prog_3_method_10_code 17 = .ok (.istore_n 2, 1) := by decide +kernel
theorem d_Families_swanOfOdd_18 : decode prog_3_method_10_code 18 = .ok (.iload_n 0, 1) := by decide +kernel
theorem d_Families_swanOfOdd_19 : decode prog_3_method_10_code 19 = .ok (.bipush 8, 2) := by decide +kernel
theorem d_Families_swanOfOdd_21 : decode prog_3_method_10_code 21 = .ok (.irem, 1) := by decide +kernel
theorem d_Families_swanOfOdd_22 : decode prog_3_method_10_code 22 = .ok (.iconst 1, 1) := by decide +kernel
theorem d_Families_swanOfOdd_23 : decode prog_3_method_10_code 23 = .ok (.if_icmp .eq 12, 3) := by decide +kernel
theorem d_Families_swanOfOdd_26 : decode prog_3_method_10_code 26 = .ok (.iload_n 0, 1) := by decide +kernel
theorem d_Families_swanOfOdd_27 : decode prog_3_method_10_code 27 = .ok (.bipush 8, 2) := by decide +kernel
theorem d_Families_swanOfOdd_29 : decode prog_3_method_10_code 29 = .ok (.irem, 1) := by decide +kernel
theorem d_Families_swanOfOdd_30 : decode prog_3_method_10_code 30 = .ok (.bipush 7, 2) := by decide +kernel
theorem d_Families_swanOfOdd_32 : decode prog_3_method_10_code 32 = .ok (.if_icmp .ne 7, 3) := by decide +kernel
theorem d_Families_swanOfOdd_35 : decode prog_3_method_10_code 35 = .ok (.iconst 1, 1) := by decide +kernel
theorem d_Families_swanOfOdd_36 : decode prog_3_method_10_code 36 = .ok (.goto 4, 3) := by decide +kernel
theorem d_Families_swanOfOdd_39 : decode prog_3_method_10_code 39 = .ok (.iconst 0, 1) := by decide +kernel
theorem d_Families_swanOfOdd_40 : decode prog_3_method_10_code 40 = .ok (.istore_n 3, 1) := by decide +kernel
theorem d_Families_swanOfOdd_41 : decode prog_3_method_10_code 41 = .ok (.iload_n 2, 1) := by decide +kernel
theorem d_Families_swanOfOdd_42 : decode prog_3_method_10_code 42 = .ok (.iload_n 3, 1) := by decide +kernel
theorem d_Families_swanOfOdd_43 : decode prog_3_method_10_code 43 = .ok (.if_icmp .ne 7, 3) := by decide +kernel
theorem d_Families_swanOfOdd_46 : decode prog_3_method_10_code 46 = .ok (.iconst 0, 1) := by decide +kernel
theorem d_Families_swanOfOdd_47 : decode prog_3_method_10_code 47 = .ok (.goto 4, 3) := by decide +kernel
theorem d_Families_swanOfOdd_50 : decode prog_3_method_10_code 50 = .ok (.iconst 1, 1) := by decide +kernel
theorem d_Families_swanOfOdd_51 : decode prog_3_method_10_code 51 = .ok (.ireturn, 1) := by decide +kernel
def cf_Families_swanOfOdd_B17   (P : Int32 → Prop) (x0 : Int32) (s0 : Int32)  : Prop :=
  (((irem x0 (8 : Int32)) = (1 : Int32) → ((¬ s0 = (1 : Int32) → P (1 : Int32)) ∧ (s0 = (1 : Int32) → P (0 : Int32)))) ∧ (¬ (irem x0 (8 : Int32)) = (1 : Int32) → ((¬ (irem x0 (8 : Int32)) = (7 : Int32) → ((¬ s0 = (0 : Int32) → P (1 : Int32)) ∧ (s0 = (0 : Int32) → P (0 : Int32)))) ∧ ((irem x0 (8 : Int32)) = (7 : Int32) → ((¬ s0 = (1 : Int32) → P (1 : Int32)) ∧ (s0 = (1 : Int32) → P (0 : Int32)))))))
def cf_Families_swanOfOdd (a0 : Int32) (a1 : Int32) (P : Int32 → Prop) : Prop :=
  ((a1 ≤ 0 → cf_Families_swanOfOdd_B17 P a0 (0 : Int32)) ∧ (¬ a1 ≤ 0 → ¬ a1 = 0 ∧ ((¬ (irem ((2 : Int32) * a0) a1) = 0 → cf_Families_swanOfOdd_B17 P a0 (0 : Int32)) ∧ ((irem ((2 : Int32) * a0) a1) = 0 → cf_Families_swanOfOdd_B17 P a0 (1 : Int32)))))
theorem cf_Families_swanOfOdd_B17_ok {g : ayG} {d : Nat} (hd : 0 ≤ d)   (w : Wd)  (P : Int32 → Prop) (Q : Option Value → Wd → Prop) (hQ : ∀ x, P x → Q (some (.int x)) w)  (x0 : Int32) (s0 : Int32) (h : cf_Families_swanOfOdd_B17 P x0 s0) : wp g (fun _ => True) y_Families_swanOfOdd prog_3_method_10_code 4 (some FieldType.int) d 17 [(0, .int x0)] [.int s0] w Q := by
  unfold cf_Families_swanOfOdd_B17 at h
  refine am_istore_n (l' := [(2, .int s0), (0, .int x0)]) d_Families_swanOfOdd_17 (by decide) rfl ?_
  refine am_iload_n d_Families_swanOfOdd_18 1 rfl ?_
  refine am_bipush (v := 8) d_Families_swanOfOdd_19 rfl ?_
  refine am_irem d_Families_swanOfOdd_21 (by decide) ?_
  refine am_iconst (v := 1) d_Families_swanOfOdd_22 rfl ?_
  refine am_icmp_eq (tgt := 35) d_Families_swanOfOdd_23 (by decide) (fun c23 => ?_) (fun c23 => ?_)
  · have h := h.1 c23
    refine am_iconst (v := 1) d_Families_swanOfOdd_35 rfl ?_
    refine am_goto (tgt := 40) d_Families_swanOfOdd_36 (by decide) ?_
    refine am_istore_n (l' := [(3, .int (1 : Int32)), (2, .int s0), (0, .int x0)]) d_Families_swanOfOdd_40 (by decide) rfl ?_
    refine am_iload_n d_Families_swanOfOdd_41 1 rfl ?_
    refine am_iload_n d_Families_swanOfOdd_42 0 rfl ?_
    refine am_icmp_ne (tgt := 50) d_Families_swanOfOdd_43 (by decide) (fun c43 => ?_) (fun c43 => ?_)
    · have h := h.1 c43
      refine am_iconst (v := 1) d_Families_swanOfOdd_50 rfl ?_
      exact am_ireturn d_Families_swanOfOdd_51 rfl rfl (hQ (1 : Int32) h)
    · have h := h.2 c43
      refine am_iconst (v := 0) d_Families_swanOfOdd_46 rfl ?_
      refine am_goto (tgt := 51) d_Families_swanOfOdd_47 (by decide) ?_
      exact am_ireturn d_Families_swanOfOdd_51 rfl rfl (hQ (0 : Int32) h)
  · have h := h.2 c23
    refine am_iload_n d_Families_swanOfOdd_26 1 rfl ?_
    refine am_bipush (v := 8) d_Families_swanOfOdd_27 rfl ?_
    refine am_irem d_Families_swanOfOdd_29 (by decide) ?_
    refine am_bipush (v := 7) d_Families_swanOfOdd_30 rfl ?_
    refine am_icmp_ne (tgt := 39) d_Families_swanOfOdd_32 (by decide) (fun c32 => ?_) (fun c32 => ?_)
    · have h := h.1 c32
      refine am_iconst (v := 0) d_Families_swanOfOdd_39 rfl ?_
      refine am_istore_n (l' := [(3, .int (0 : Int32)), (2, .int s0), (0, .int x0)]) d_Families_swanOfOdd_40 (by decide) rfl ?_
      refine am_iload_n d_Families_swanOfOdd_41 1 rfl ?_
      refine am_iload_n d_Families_swanOfOdd_42 0 rfl ?_
      refine am_icmp_ne (tgt := 50) d_Families_swanOfOdd_43 (by decide) (fun c43 => ?_) (fun c43 => ?_)
      · have h := h.1 c43
        refine am_iconst (v := 1) d_Families_swanOfOdd_50 rfl ?_
        exact am_ireturn d_Families_swanOfOdd_51 rfl rfl (hQ (1 : Int32) h)
      · have h := h.2 c43
        refine am_iconst (v := 0) d_Families_swanOfOdd_46 rfl ?_
        refine am_goto (tgt := 51) d_Families_swanOfOdd_47 (by decide) ?_
        exact am_ireturn d_Families_swanOfOdd_51 rfl rfl (hQ (0 : Int32) h)
    · have h := h.2 c32
      refine am_iconst (v := 1) d_Families_swanOfOdd_35 rfl ?_
      refine am_goto (tgt := 40) d_Families_swanOfOdd_36 (by decide) ?_
      refine am_istore_n (l' := [(3, .int (1 : Int32)), (2, .int s0), (0, .int x0)]) d_Families_swanOfOdd_40 (by decide) rfl ?_
      refine am_iload_n d_Families_swanOfOdd_41 1 rfl ?_
      refine am_iload_n d_Families_swanOfOdd_42 0 rfl ?_
      refine am_icmp_ne (tgt := 50) d_Families_swanOfOdd_43 (by decide) (fun c43 => ?_) (fun c43 => ?_)
      · have h := h.1 c43
        refine am_iconst (v := 1) d_Families_swanOfOdd_50 rfl ?_
        exact am_ireturn d_Families_swanOfOdd_51 rfl rfl (hQ (1 : Int32) h)
      · have h := h.2 c43
        refine am_iconst (v := 0) d_Families_swanOfOdd_46 rfl ?_
        refine am_goto (tgt := 51) d_Families_swanOfOdd_47 (by decide) ?_
        exact am_ireturn d_Families_swanOfOdd_51 rfl rfl (hQ (0 : Int32) h)
theorem cf_Families_swanOfOdd_ok {g : ayG} {d : Nat} (hd : 0 ≤ d) (a0 : Int32) (a1 : Int32)  (w : Wd) (P : Int32 → Prop) (h : cf_Families_swanOfOdd a0 a1 P) : Call g y_Families_swanOfOdd prog_3_method_10_code 4 (some FieldType.int) d [.int a0, .int a1] w (fun (r : Option Value) (w2 : Wd) => ∃ x, r = some (.int x) ∧ w = w2 ∧ P x) := by
  unfold cf_Families_swanOfOdd at h
  refine am_enter mi_Families_swanOfOdd (Nat.le_of_ble_eq_true rfl) ?_
  have hQ : ∀ x, P x → (fun (r : Option Value) (w2 : Wd) => ∃ x, r = some (.int x) ∧ w = w2 ∧ P x) (some (.int x)) w := fun x h => ⟨x, rfl, rfl, h⟩
  generalize (fun (r : Option Value) (w2 : Wd) => ∃ x, r = some (.int x) ∧ w = w2 ∧ P x) = Q at hQ ⊢
  show wp g (fun _ => True) y_Families_swanOfOdd prog_3_method_10_code 4 (some FieldType.int) d 0 [(0, .int a0), (1, .int a1)] [] w Q
  refine am_iload_n d_Families_swanOfOdd_0 1 rfl ?_
  refine am_if_le (tgt := 16) d_Families_swanOfOdd_1 (by decide) (fun c1 => ?_) (fun c1 => ?_)
  · have h := h.1 c1
    refine am_iconst (v := 0) d_Families_swanOfOdd_16 rfl ?_
    refine am_sub [0] rfl ?_
    exact cf_Families_swanOfOdd_B17_ok (by omega)   w  P Q hQ  a0 (0 : Int32) h
  · have h := h.2 c1
    refine am_iconst (v := 2) d_Families_swanOfOdd_4 rfl ?_
    refine am_iload_n d_Families_swanOfOdd_5 0 rfl ?_
    refine am_imul d_Families_swanOfOdd_6 ?_
    refine am_iload_n d_Families_swanOfOdd_7 1 rfl ?_
    have hz8 := h.1
    have h := h.2
    refine am_irem d_Families_swanOfOdd_8 hz8 ?_
    refine am_if_ne (tgt := 16) d_Families_swanOfOdd_9 (by decide) (fun c9 => ?_) (fun c9 => ?_)
    · have h := h.1 c9
      refine am_iconst (v := 0) d_Families_swanOfOdd_16 rfl ?_
      refine am_sub [0] rfl ?_
      exact cf_Families_swanOfOdd_B17_ok (by omega)   w  P Q hQ  a0 (0 : Int32) h
    · have h := h.2 c9
      refine am_iconst (v := 1) d_Families_swanOfOdd_12 rfl ?_
      refine am_goto (tgt := 17) d_Families_swanOfOdd_13 (by decide) ?_
      refine am_sub [0] rfl ?_
      exact cf_Families_swanOfOdd_B17_ok (by omega)   w  P Q hQ  a0 (1 : Int32) h
theorem d_Families_swanParity_0 : decode prog_3_method_7_code 0 = .ok (.iload_n 0, 1) := by decide +kernel
theorem d_Families_swanParity_1 : decode prog_3_method_7_code 1 = .ok (.iconst 2, 1) := by decide +kernel
theorem d_Families_swanParity_2 : decode prog_3_method_7_code 2 = .ok (.irem, 1) := by decide +kernel
theorem d_Families_swanParity_3 : decode prog_3_method_7_code 3 = .ok (.ifCond .ne 20, 3) := by decide +kernel
theorem d_Families_swanParity_6 : decode prog_3_method_7_code 6 = .ok (.iload_n 1, 1) := by decide +kernel
theorem d_Families_swanParity_7 : decode prog_3_method_7_code 7 = .ok (.iconst 2, 1) := by decide +kernel
theorem d_Families_swanParity_8 : decode prog_3_method_7_code 8 = .ok (.irem, 1) := by decide +kernel
theorem d_Families_swanParity_9 : decode prog_3_method_7_code 9 = .ok (.ifCond .ne 8, 3) := by decide +kernel
theorem d_Families_swanParity_12 : decode prog_3_method_7_code 12 = .ok (.bipush (-2), 2) := by decide +kernel
theorem d_Families_swanParity_14 : decode prog_3_method_7_code 14 = .ok (.goto 8, 3) := by decide +kernel
theorem d_Families_swanParity_17 : decode prog_3_method_7_code 17 = .ok (.iload_n 0, 1) := by decide +kernel
theorem d_Families_swanParity_18 : decode prog_3_method_7_code 18 = .ok (.iload_n 1, 1) := by decide +kernel
theorem d_Families_swanParity_19 : decode prog_3_method_7_code 19 = .ok (.invokestatic 40, 3) := by decide +kernel
theorem d_Families_swanParity_22 : decode prog_3_method_7_code 22 = .ok (.ireturn, 1) := by decide +kernel
theorem d_Families_swanParity_23 : decode prog_3_method_7_code 23 = .ok (.iload_n 0, 1) := by decide +kernel
theorem d_Families_swanParity_24 : decode prog_3_method_7_code 24 = .ok (.iload_n 1, 1) := by decide +kernel
theorem d_Families_swanParity_25 : decode prog_3_method_7_code 25 = .ok (.iconst 2, 1) := by decide +kernel
theorem d_Families_swanParity_26 : decode prog_3_method_7_code 26 = .ok (.irem, 1) := by decide +kernel
theorem d_Families_swanParity_27 : decode prog_3_method_7_code 27 = .ok (.ifCond .ne 7, 3) := by decide +kernel
theorem d_Families_swanParity_30 : decode prog_3_method_7_code 30 = .ok (.iload_n 1, 1) := by decide +kernel
theorem d_Families_swanParity_31 : decode prog_3_method_7_code 31 = .ok (.goto 6, 3) := by decide +kernel
theorem d_Families_swanParity_34 : decode prog_3_method_7_code 34 = .ok (.iload_n 0, 1) := by decide +kernel
theorem d_Families_swanParity_35 : decode prog_3_method_7_code 35 = .ok (.iload_n 1, 1) := by decide +kernel
theorem d_Families_swanParity_36 : decode prog_3_method_7_code 36 = .ok (.isub, 1) := by decide +kernel
theorem d_Families_swanParity_37 : decode prog_3_method_7_code 37 = .ok (.invokestatic 44, 3) := by decide +kernel
theorem d_Families_swanParity_40 : decode prog_3_method_7_code 40 = .ok (.ireturn, 1) := by decide +kernel
def cf_Families_swanParity (a0 : Int32) (a1 : Int32) (P : Int32 → Prop) : Prop :=
  ((¬ (irem a0 (2 : Int32)) = 0 → ((¬ (irem a1 (2 : Int32)) = 0 → cf_Families_swanOfOdd a0 (a0 - a1) (fun r1 => P r1)) ∧ ((irem a1 (2 : Int32)) = 0 → cf_Families_swanOfOdd a0 a1 (fun r2 => P r2)))) ∧ ((irem a0 (2 : Int32)) = 0 → ((¬ (irem a1 (2 : Int32)) = 0 → cf_Families_swanOfEven a0 a1 (fun r3 => P r3)) ∧ ((irem a1 (2 : Int32)) = 0 → P (-2 : Int32)))))
theorem cf_Families_swanParity_ok {g : ayG} {d : Nat} (hd : 1 ≤ d) (a0 : Int32) (a1 : Int32)  (w : Wd) (P : Int32 → Prop) (h : cf_Families_swanParity a0 a1 P) : Call g y_Families_swanParity prog_3_method_7_code 2 (some FieldType.int) d [.int a0, .int a1] w (fun (r : Option Value) (w2 : Wd) => ∃ x, r = some (.int x) ∧ w = w2 ∧ P x) := by
  unfold cf_Families_swanParity at h
  refine am_enter mi_Families_swanParity (Nat.le_of_ble_eq_true rfl) ?_
  have hQ : ∀ x, P x → (fun (r : Option Value) (w2 : Wd) => ∃ x, r = some (.int x) ∧ w = w2 ∧ P x) (some (.int x)) w := fun x h => ⟨x, rfl, rfl, h⟩
  generalize (fun (r : Option Value) (w2 : Wd) => ∃ x, r = some (.int x) ∧ w = w2 ∧ P x) = Q at hQ ⊢
  show wp g (fun _ => True) y_Families_swanParity prog_3_method_7_code 2 (some FieldType.int) d 0 [(0, .int a0), (1, .int a1)] [] w Q
  refine am_iload_n d_Families_swanParity_0 0 rfl ?_
  refine am_iconst (v := 2) d_Families_swanParity_1 rfl ?_
  refine am_irem d_Families_swanParity_2 (by decide) ?_
  refine am_if_ne (tgt := 23) d_Families_swanParity_3 (by decide) (fun c3 => ?_) (fun c3 => ?_)
  · have h := h.1 c3
    refine am_iload_n d_Families_swanParity_23 0 rfl ?_
    refine am_iload_n d_Families_swanParity_24 1 rfl ?_
    refine am_iconst (v := 2) d_Families_swanParity_25 rfl ?_
    refine am_irem d_Families_swanParity_26 (by decide) ?_
    refine am_if_ne (tgt := 34) d_Families_swanParity_27 (by decide) (fun c27 => ?_) (fun c27 => ?_)
    · have h := h.1 c27
      refine am_iload_n d_Families_swanParity_34 0 rfl ?_
      refine am_iload_n d_Families_swanParity_35 1 rfl ?_
      refine am_isub d_Families_swanParity_36 ?_
      refine am_callS (d2 := d - 1) [.int a0, .int (a0 - a1)] d_Families_swanParity_37 mi_Families_swanOfOdd wd_869 wd_870 (by omega) rfl rfl (Nat.le_of_ble_eq_true rfl) ?_
      refine Call.post ?_ (cf_Families_swanOfOdd_ok (by omega) a0 (a0 - a1)  w _ h)
      rintro _ _ ⟨r1, rfl, rfl, h⟩
      show wp g (fun _ => True) y_Families_swanParity prog_3_method_7_code 2 (some FieldType.int) d 40 [(0, .int a0), (1, .int a1)] [.int r1] w Q
      exact am_ireturn d_Families_swanParity_40 rfl rfl (hQ r1 h)
    · have h := h.2 c27
      refine am_iload_n d_Families_swanParity_30 1 rfl ?_
      refine am_goto (tgt := 37) d_Families_swanParity_31 (by decide) ?_
      refine am_callS (d2 := d - 1) [.int a0, .int a1] d_Families_swanParity_37 mi_Families_swanOfOdd wd_869 wd_870 (by omega) rfl rfl (Nat.le_of_ble_eq_true rfl) ?_
      refine Call.post ?_ (cf_Families_swanOfOdd_ok (by omega) a0 a1  w _ h)
      rintro _ _ ⟨r2, rfl, rfl, h⟩
      show wp g (fun _ => True) y_Families_swanParity prog_3_method_7_code 2 (some FieldType.int) d 40 [(0, .int a0), (1, .int a1)] [.int r2] w Q
      exact am_ireturn d_Families_swanParity_40 rfl rfl (hQ r2 h)
  · have h := h.2 c3
    refine am_iload_n d_Families_swanParity_6 1 rfl ?_
    refine am_iconst (v := 2) d_Families_swanParity_7 rfl ?_
    refine am_irem d_Families_swanParity_8 (by decide) ?_
    refine am_if_ne (tgt := 17) d_Families_swanParity_9 (by decide) (fun c9 => ?_) (fun c9 => ?_)
    · have h := h.1 c9
      refine am_iload_n d_Families_swanParity_17 0 rfl ?_
      refine am_iload_n d_Families_swanParity_18 1 rfl ?_
      refine am_callS (d2 := d - 1) [.int a0, .int a1] d_Families_swanParity_19 mi_Families_swanOfEven wd_866 wd_867 (by omega) rfl rfl (Nat.le_of_ble_eq_true rfl) ?_
      refine Call.post ?_ (cf_Families_swanOfEven_ok (by omega) a0 a1  w _ h)
      rintro _ _ ⟨r3, rfl, rfl, h⟩
      show wp g (fun _ => True) y_Families_swanParity prog_3_method_7_code 2 (some FieldType.int) d 22 [(0, .int a0), (1, .int a1)] [.int r3] w Q
      exact am_ireturn d_Families_swanParity_22 rfl rfl (hQ r3 h)
    · have h := h.2 c9
      refine am_bipush (v := -2) d_Families_swanParity_12 rfl ?_
      refine am_goto (tgt := 22) d_Families_swanParity_14 (by decide) ?_
      exact am_ireturn d_Families_swanParity_22 rfl rfl (hQ (-2 : Int32) h)
theorem d_Families_countEven_0 : decode prog_3_method_8_code 0 = .ok (.iconst 0, 1) := by decide +kernel
theorem d_Families_countEven_1 : decode prog_3_method_8_code 1 = .ok (.istore_n 1, 1) := by decide +kernel
theorem d_Families_countEven_2 : decode prog_3_method_8_code 2 = .ok (.iconst 1, 1) := by decide +kernel
theorem d_Families_countEven_3 : decode prog_3_method_8_code 3 = .ok (.istore_n 2, 1) := by decide +kernel
theorem d_Families_countEven_4 : decode prog_3_method_8_code 4 = .ok (.iload_n 2, 1) := by decide +kernel
theorem d_Families_countEven_5 : decode prog_3_method_8_code 5 = .ok (.iload_n 0, 1) := by decide +kernel
theorem d_Families_countEven_6 : decode prog_3_method_8_code 6 = .ok (.if_icmp .ge 20, 3) := by decide +kernel
theorem d_Families_countEven_9 : decode prog_3_method_8_code 9 = .ok (.iload_n 0, 1) := by decide +kernel
theorem d_Families_countEven_10 : decode prog_3_method_8_code 10 = .ok (.iload_n 2, 1) := by decide +kernel
theorem d_Families_countEven_11 : decode prog_3_method_8_code 11 = .ok (.invokestatic 47, 3) := by decide +kernel
theorem d_Families_countEven_14 : decode prog_3_method_8_code 14 = .ok (.ifCond .ne 6, 3) := by decide +kernel
theorem d_Families_countEven_17 : decode prog_3_method_8_code 17 = .ok (.iinc 1 1, 3) := by decide +kernel
theorem d_Families_countEven_20 : decode prog_3_method_8_code 20 = .ok (.iinc 2 1, 3) := by decide +kernel
theorem d_Families_countEven_23 : decode prog_3_method_8_code 23 = .ok (.goto (-19), 3) := by decide +kernel
theorem d_Families_countEven_26 : decode prog_3_method_8_code 26 = .ok (.iload_n 1, 1) := by decide +kernel
theorem d_Families_countEven_27 : decode prog_3_method_8_code 27 = .ok (.ireturn, 1) := by decide +kernel
def cf_Families_countEven_B4  (K4 : Int32 → Int32 → Int32 → Prop) (P : Int32 → Prop) (x0 : Int32) (x1 : Int32) (x2 : Int32)  : Prop :=
  ((x0 ≤ x2 → P x1) ∧ (¬ x0 ≤ x2 → cf_Families_swanParity x0 x2 (fun r1 => ((¬ r1 = 0 → ∀ v2, v2 = x2 + (1 : Int32) → K4 x0 x1 v2) ∧ (r1 = 0 → ∀ v3, v3 = x1 + (1 : Int32) → ∀ v4, v4 = x2 + (1 : Int32) → K4 x0 v3 v4)))))
def cf_Families_countEven_L4   (P : Int32 → Prop) : Nat → Int32 → Int32 → Int32 → Prop
  | 0 => fun x0 x1 x2 => False
  | n + 1 => fun x0 x1 x2 => cf_Families_countEven_B4 (cf_Families_countEven_L4 P n) P x0 x1 x2
def cf_Families_countEven (a0 : Int32) (P : Int32 → Prop) : Prop :=
  ∃ n, cf_Families_countEven_L4 P n a0 (0 : Int32) (1 : Int32)
theorem cf_Families_countEven_B4_ok {g : ayG} {d : Nat} (hd : 2 ≤ d)   (w : Wd) (K4 : Int32 → Int32 → Int32 → Prop) (P : Int32 → Prop) (Q : Option Value → Wd → Prop) (hQ : ∀ x, P x → Q (some (.int x)) w) (hK4 : ∀ (x0 : Int32) (x1 : Int32) (x2 : Int32), (K4 x0 x1 x2 → wp g (fun _ => True) y_Families_countEven prog_3_method_8_code 3 (some FieldType.int) d 4 [(0, .int x0), (1, .int x1), (2, .int x2)] [] w Q)) (x0 : Int32) (x1 : Int32) (x2 : Int32) (h : cf_Families_countEven_B4 K4 P x0 x1 x2) : wp g (fun _ => True) y_Families_countEven prog_3_method_8_code 3 (some FieldType.int) d 4 [(0, .int x0), (1, .int x1), (2, .int x2)] [] w Q := by
  unfold cf_Families_countEven_B4 at h
  refine am_iload_n d_Families_countEven_4 2 rfl ?_
  refine am_iload_n d_Families_countEven_5 0 rfl ?_
  refine am_icmp_ge (tgt := 26) d_Families_countEven_6 (by decide) (fun c6 => ?_) (fun c6 => ?_)
  · have h := h.1 c6
    refine am_iload_n d_Families_countEven_26 1 rfl ?_
    exact am_ireturn d_Families_countEven_27 rfl rfl (hQ x1 h)
  · have h := h.2 c6
    refine am_iload_n d_Families_countEven_9 0 rfl ?_
    refine am_iload_n d_Families_countEven_10 2 rfl ?_
    refine am_callS (d2 := d - 1) [.int x0, .int x2] d_Families_countEven_11 mi_Families_swanParity wd_879 wd_864 (by omega) rfl rfl (Nat.le_of_ble_eq_true rfl) ?_
    refine Call.post ?_ (cf_Families_swanParity_ok (by omega) x0 x2  w _ h)
    rintro _ _ ⟨r1, rfl, rfl, h⟩
    show wp g (fun _ => True) y_Families_countEven prog_3_method_8_code 3 (some FieldType.int) d 14 [(0, .int x0), (1, .int x1), (2, .int x2)] [.int r1] w Q
    refine am_if_ne (tgt := 20) d_Families_countEven_14 (by decide) (fun c14 => ?_) (fun c14 => ?_)
    · have h := h.1 c14
      obtain ⟨v2, ev2⟩ : ∃ z : Int32, z = x2 + (1 : Int32) := ⟨_, rfl⟩
      have h := h v2 ev2
      refine am_iinc (v := v2) (l' := [(2, .int v2), (0, .int x0), (1, .int x1)]) d_Families_countEven_20 2 rfl (by rw [ev2]; rfl) (by decide) rfl ?_
      refine am_goto (tgt := 4) d_Families_countEven_23 (by decide) ?_
      refine am_sub [1, 2, 0] rfl ?_
      exact hK4 x0 x1 v2 h
    · have h := h.2 c14
      obtain ⟨v3, ev3⟩ : ∃ z : Int32, z = x1 + (1 : Int32) := ⟨_, rfl⟩
      have h := h v3 ev3
      refine am_iinc (v := v3) (l' := [(1, .int v3), (0, .int x0), (2, .int x2)]) d_Families_countEven_17 1 rfl (by rw [ev3]; rfl) (by decide) rfl ?_
      obtain ⟨v4, ev4⟩ : ∃ z : Int32, z = x2 + (1 : Int32) := ⟨_, rfl⟩
      have h := h v4 ev4
      refine am_iinc (v := v4) (l' := [(2, .int v4), (1, .int v3), (0, .int x0)]) d_Families_countEven_20 2 rfl (by rw [ev4]; rfl) (by decide) rfl ?_
      refine am_goto (tgt := 4) d_Families_countEven_23 (by decide) ?_
      refine am_sub [2, 1, 0] rfl ?_
      exact hK4 x0 v3 v4 h
theorem cf_Families_countEven_L4_ok {g : ayG} {d : Nat} (hd : 2 ≤ d)   (w : Wd)  (P : Int32 → Prop) (Q : Option Value → Wd → Prop) (hQ : ∀ x, P x → Q (some (.int x)) w)  : ∀ (n : Nat) (x0 : Int32) (x1 : Int32) (x2 : Int32) (h : cf_Families_countEven_L4 P n x0 x1 x2), wp g (fun _ => True) y_Families_countEven prog_3_method_8_code 3 (some FieldType.int) d 4 [(0, .int x0), (1, .int x1), (2, .int x2)] [] w Q
  | 0, x0, x1, x2, h => False.elim h
  | n + 1, x0, x1, x2, h => cf_Families_countEven_B4_ok hd   w (cf_Families_countEven_L4 P n) P Q hQ (fun x0 x1 x2 h => cf_Families_countEven_L4_ok hd   w  P Q hQ  n x0 x1 x2 h) x0 x1 x2 h
theorem cf_Families_countEven_ok {g : ayG} {d : Nat} (hd : 2 ≤ d) (a0 : Int32)  (w : Wd) (P : Int32 → Prop) (h : cf_Families_countEven a0 P) : Call g y_Families_countEven prog_3_method_8_code 3 (some FieldType.int) d [.int a0] w (fun (r : Option Value) (w2 : Wd) => ∃ x, r = some (.int x) ∧ w = w2 ∧ P x) := by
  unfold cf_Families_countEven at h
  refine am_enter mi_Families_countEven (Nat.le_of_ble_eq_true rfl) ?_
  have hQ : ∀ x, P x → (fun (r : Option Value) (w2 : Wd) => ∃ x, r = some (.int x) ∧ w = w2 ∧ P x) (some (.int x)) w := fun x h => ⟨x, rfl, rfl, h⟩
  generalize (fun (r : Option Value) (w2 : Wd) => ∃ x, r = some (.int x) ∧ w = w2 ∧ P x) = Q at hQ ⊢
  show wp g (fun _ => True) y_Families_countEven prog_3_method_8_code 3 (some FieldType.int) d 0 [(0, .int a0)] [] w Q
  refine am_iconst (v := 0) d_Families_countEven_0 rfl ?_
  refine am_istore_n (l' := [(1, .int (0 : Int32)), (0, .int a0)]) d_Families_countEven_1 (by decide) rfl ?_
  refine am_iconst (v := 1) d_Families_countEven_2 rfl ?_
  refine am_istore_n (l' := [(2, .int (1 : Int32)), (1, .int (0 : Int32)), (0, .int a0)]) d_Families_countEven_3 (by decide) rfl ?_
  refine am_sub [2, 1, 0] rfl ?_
  obtain ⟨n, h⟩ := h
  exact cf_Families_countEven_L4_ok (by omega)   w  P Q hQ  n a0 (0 : Int32) (1 : Int32) h
