-- bytecode as predicates, by program (wip/whole/gen/extract.py)
theorem mi_Orders_notePrime : ay_MI y_Orders_notePrime prog_6_method_9_code 3 none 1 := ⟨wd_671, wd_6, by decide +kernel, by decide +kernel, by decide⟩
theorem mi_Orders_findPrimes : ay_MI y_Orders_findPrimes prog_6_method_8_code 8 none 1 := ⟨wd_666, wd_6, by decide +kernel, by decide +kernel, by decide⟩
theorem mi_Orders_ofIrreducible : ay_MI y_Orders_ofIrreducible prog_6_method_3_code 9 (some FieldType.long) 1 := ⟨wd_661, wd_6, by decide +kernel, by decide +kernel, by decide⟩
theorem mi_Orders_isSought : ay_MI y_Orders_isSought prog_6_method_2_code 4 (some FieldType.boolean) 2 := ⟨wd_655, wd_6, by decide +kernel, by decide +kernel, by decide⟩
theorem mi_Orders_leastMultiple : ay_MI y_Orders_leastMultiple prog_6_method_10_code 11 (some FieldType.long) 2 := ⟨wd_761, wd_6, by decide +kernel, by decide +kernel, by decide⟩
theorem mi_Orders_ofSplit : ay_MI y_Orders_ofSplit prog_6_method_4_code 6 (some FieldType.long) 1 := ⟨wd_756, wd_6, by decide +kernel, by decide +kernel, by decide⟩
theorem mi_Orders_period : ay_MI y_Orders_period prog_6_method_5_code 13 (some FieldType.long) 3 := ⟨wd_914, wd_6, by decide +kernel, by decide +kernel, by decide⟩
theorem mi_Orders_countPrimitive : ay_MI y_Orders_countPrimitive prog_6_method_6_code 7 (some FieldType.long) 1 := ⟨wd_961, wd_6, by decide +kernel, by decide +kernel, by decide⟩
theorem mi_Orders_staysRisen : ay_MI y_Orders_staysRisen prog_6_method_7_code 11 (some FieldType.boolean) 2 := ⟨wd_976, wd_6, by decide +kernel, by decide +kernel, by decide⟩
theorem d_Orders_notePrime_0 : decode prog_6_method_9_code 0 = .ok (.aload_n 0, 1) := by decide +kernel
theorem d_Orders_notePrime_1 : decode prog_6_method_9_code 1 = .ok (.getfield 33, 3) := by decide +kernel
theorem d_Orders_notePrime_4 : decode prog_6_method_9_code 4 = .ok (.aload_n 0, 1) := by decide +kernel
theorem d_Orders_notePrime_5 : decode prog_6_method_9_code 5 = .ok (.getfield 9, 3) := by decide +kernel
theorem d_Orders_notePrime_8 : decode prog_6_method_9_code 8 = .ok (.arraylength, 1) := by decide +kernel
theorem d_Orders_notePrime_9 : decode prog_6_method_9_code 9 = .ok (.if_icmp .ge 23, 3) := by decide +kernel
theorem d_Orders_notePrime_12 : decode prog_6_method_9_code 12 = .ok (.aload_n 0, 1) := by decide +kernel
theorem d_Orders_notePrime_13 : decode prog_6_method_9_code 13 = .ok (.getfield 9, 3) := by decide +kernel
theorem d_Orders_notePrime_16 : decode prog_6_method_9_code 16 = .ok (.aload_n 0, 1) := by decide +kernel
theorem d_Orders_notePrime_17 : decode prog_6_method_9_code 17 = .ok (.getfield 33, 3) := by decide +kernel
theorem d_Orders_notePrime_20 : decode prog_6_method_9_code 20 = .ok (.lload_n 1, 1) := by decide +kernel
theorem d_Orders_notePrime_21 : decode prog_6_method_9_code 21 = .ok (.lastore, 1) := by decide +kernel
theorem d_Orders_notePrime_22 : decode prog_6_method_9_code 22 = .ok (.aload_n 0, 1) := by decide +kernel
theorem d_Orders_notePrime_23 : decode prog_6_method_9_code 23 = .ok (.dup, 1) := by decide +kernel
theorem d_Orders_notePrime_24 : decode prog_6_method_9_code 24 = .ok (.getfield 33, 3) := by decide +kernel
theorem d_Orders_notePrime_27 : decode prog_6_method_9_code 27 = .ok (.iconst 1, 1) := by decide +kernel
theorem d_Orders_notePrime_28 : decode prog_6_method_9_code 28 = .ok (.iadd, 1) := by decide +kernel
theorem d_Orders_notePrime_29 : decode prog_6_method_9_code 29 = .ok (.putfield 33, 3) := by decide +kernel
theorem d_Orders_notePrime_32 : decode prog_6_method_9_code 32 = .ok (.return_, 1) := by decide +kernel
def cf_Orders_notePrime (c : Nat) (a0 : Int64) (w : Wd) (P : Wd → Prop) : Prop :=
  (((16 : Int32) ≤ (w.1 c 1) → P w) ∧ (¬ (16 : Int32) ≤ (w.1 c 1) → vp_in (w.1 c 1) 16 ∧ ∀ w1, w1 = wL w (c + 1) (w.1 c 1).toNatClampNeg a0 → ∀ w2, w2 = wI w1 c 1 ((w1.1 c 1) + (1 : Int32)) → P w2))
theorem cf_Orders_notePrime_ok {g : ayG} {d : Nat} (hd : 0 ≤ d) (c : Nat) (a0 : Int64) (hc : ay_sh c = (15, 0)) (w : Wd) (P : Wd → Prop) (h : cf_Orders_notePrime c a0 w P) : Call g y_Orders_notePrime prog_6_method_9_code 3 none d [.ref (g.1 + c), .long a0] w (fun (r : Option Value) (w2 : Wd) => r = none ∧ P w2) := by
  unfold cf_Orders_notePrime at h
  refine am_enter mi_Orders_notePrime (Nat.le_of_ble_eq_true rfl) ?_
  have hQ : ∀ w2, P w2 → (fun (r : Option Value) (w2 : Wd) => r = none ∧ P w2) none w2 := fun w2 h => ⟨rfl, h⟩
  generalize (fun (r : Option Value) (w2 : Wd) => r = none ∧ P w2) = Q at hQ ⊢
  show wp g (fun _ => True) y_Orders_notePrime prog_6_method_9_code 3 none d 0 [(0, .ref (g.1 + c)), (1, .long a0)] [] w Q
  refine am_aload_n d_Orders_notePrime_0 0 rfl ?_
  refine am_getf (T := F_Orders) (fs := ob_Orders g w c) (C := R_Orders) (N := 2) (ci := 5) 1 d_Orders_notePrime_1 wd_131 rfl (ay_shlt hc (by decide)) (el_Orders hc) rfl i_Orders (by decide) rfl ?_
  refine am_aload_n d_Orders_notePrime_4 0 rfl ?_
  refine am_getf (T := F_Orders) (fs := ob_Orders g w c) (C := R_Orders) (N := 2) (ci := 5) 0 d_Orders_notePrime_5 wd_130 rfl (ay_shlt hc (by decide)) (el_Orders hc) rfl i_Orders (by decide) rfl ?_
  refine am_alen (v := 16) d_Orders_notePrime_8 (sh_O1 hc) (by decide) rfl ?_
  refine am_icmp_ge (tgt := 32) d_Orders_notePrime_9 (by decide) (fun c9 => ?_) (fun c9 => ?_)
  · have h := h.1 c9
    exact am_return d_Orders_notePrime_32 rfl (hQ w h)
  · have h := h.2 c9
    refine am_aload_n d_Orders_notePrime_12 0 rfl ?_
    refine am_getf (T := F_Orders) (fs := ob_Orders g w c) (C := R_Orders) (N := 2) (ci := 5) 0 d_Orders_notePrime_13 wd_130 rfl (ay_shlt hc (by decide)) (el_Orders hc) rfl i_Orders (by decide) rfl ?_
    refine am_aload_n d_Orders_notePrime_16 0 rfl ?_
    refine am_getf (T := F_Orders) (fs := ob_Orders g w c) (C := R_Orders) (N := 2) (ci := 5) 1 d_Orders_notePrime_17 wd_131 rfl (ay_shlt hc (by decide)) (el_Orders hc) rfl i_Orders (by decide) rfl ?_
    refine am_lload_n d_Orders_notePrime_20 1 rfl ?_
    have hi21 := h.1
    have h := h.2
    refine am_lastore d_Orders_notePrime_21 (sh_O1 hc) hi21 ?_
    obtain ⟨w1, ew1⟩ : ∃ z, z = wL w (c + 1) (w.1 c 1).toNatClampNeg a0 := ⟨_, rfl⟩
    rw [← ew1]
    have h := h w1 ew1
    refine am_aload_n d_Orders_notePrime_22 0 rfl ?_
    refine am_dup d_Orders_notePrime_23 rfl ?_
    refine am_getf (T := F_Orders) (fs := ob_Orders g w1 c) (C := R_Orders) (N := 2) (ci := 5) 1 d_Orders_notePrime_24 wd_131 rfl (ay_shlt hc (by decide)) (el_Orders hc) rfl i_Orders (by decide) rfl ?_
    refine am_iconst (v := 1) d_Orders_notePrime_27 rfl ?_
    refine am_iadd d_Orders_notePrime_28 ?_
    refine am_putf (w' := wI w1 c 1 ((w1.1 c 1) + (1 : Int32))) (ty := .int) (T := F_Orders) (fs := ob_Orders g w1 c) (C := R_Orders) (N := 2) (ci := 5) 1 d_Orders_notePrime_29 wd_131 rfl (ay_shlt hc (by decide)) (el_Orders hc) rfl i_Orders (by decide) G_Orders ty_Orders n_Orders rfl (ty_Orders 1 (by decide)) rfl rfl (Nat.le_of_ble_eq_true rfl) ((el_Orders hc).trans (by rw [pf_Orders_many])) wI_o ?_
    obtain ⟨w2, ew2⟩ : ∃ z, z = wI w1 c 1 ((w1.1 c 1) + (1 : Int32)) := ⟨_, rfl⟩
    rw [← ew2]
    have h := h w2 ew2
    exact am_return d_Orders_notePrime_32 rfl (hQ w2 h)
theorem d_Orders_findPrimes_0 : decode prog_6_method_8_code 0 = .ok (.aload_n 0, 1) := by decide +kernel
theorem d_Orders_findPrimes_1 : decode prog_6_method_8_code 1 = .ok (.iconst 0, 1) := by decide +kernel
theorem d_Orders_findPrimes_2 : decode prog_6_method_8_code 2 = .ok (.putfield 33, 3) := by decide +kernel
theorem d_Orders_findPrimes_5 : decode prog_6_method_8_code 5 = .ok (.lload_n 1, 1) := by decide +kernel
theorem d_Orders_findPrimes_6 : decode prog_6_method_8_code 6 = .ok (.lstore_n 3, 1) := by decide +kernel
theorem d_Orders_findPrimes_7 : decode prog_6_method_8_code 7 = .ok (.ldc2_w 19, 3) := by decide +kernel
theorem d_Orders_findPrimes_10 : decode prog_6_method_8_code 10 = .ok (.lstore 5, 2) := by decide +kernel
theorem d_Orders_findPrimes_12 : decode prog_6_method_8_code 12 = .ok (.lload 5, 2) := by decide +kernel
theorem d_Orders_findPrimes_14 : decode prog_6_method_8_code 14 = .ok (.ldc2_w 70, 3) := by decide +kernel
theorem d_Orders_findPrimes_17 : decode prog_6_method_8_code 17 = .ok (.lcmp, 1) := by decide +kernel
theorem d_Orders_findPrimes_18 : decode prog_6_method_8_code 18 = .ok (.ifCond .gt 82, 3) := by decide +kernel
theorem d_Orders_findPrimes_21 : decode prog_6_method_8_code 21 = .ok (.lload 5, 2) := by decide +kernel
theorem d_Orders_findPrimes_23 : decode prog_6_method_8_code 23 = .ok (.lload 5, 2) := by decide +kernel
theorem d_Orders_findPrimes_25 : decode prog_6_method_8_code 25 = .ok (.lmul, 1) := by decide +kernel
theorem d_Orders_findPrimes_26 : decode prog_6_method_8_code 26 = .ok (.lload_n 3, 1) := by decide +kernel
theorem d_Orders_findPrimes_27 : decode prog_6_method_8_code 27 = .ok (.lcmp, 1) := by decide +kernel
theorem d_Orders_findPrimes_28 : decode prog_6_method_8_code 28 = .ok (.ifCond .gt 72, 3) := by decide +kernel
theorem d_Orders_findPrimes_31 : decode prog_6_method_8_code 31 = .ok (.lload_n 3, 1) := by decide +kernel
theorem d_Orders_findPrimes_32 : decode prog_6_method_8_code 32 = .ok (.lload 5, 2) := by decide +kernel
theorem d_Orders_findPrimes_34 : decode prog_6_method_8_code 34 = .ok (.lrem, 1) := by decide +kernel
theorem d_Orders_findPrimes_35 : decode prog_6_method_8_code 35 = .ok (.lconst 0, 1) := by decide +kernel
theorem d_Orders_findPrimes_36 : decode prog_6_method_8_code 36 = .ok (.lcmp, 1) := by decide +kernel
theorem d_Orders_findPrimes_37 : decode prog_6_method_8_code 37 = .ok (.ifCond .ne 39, 3) := by decide +kernel
theorem d_Orders_findPrimes_40 : decode prog_6_method_8_code 40 = .ok (.aload_n 0, 1) := by decide +kernel
theorem d_Orders_findPrimes_41 : decode prog_6_method_8_code 41 = .ok (.lload 5, 2) := by decide +kernel
theorem d_Orders_findPrimes_43 : decode prog_6_method_8_code 43 = .ok (.invokevirtual 72, 3) := by decide +kernel
theorem d_Orders_findPrimes_46 : decode prog_6_method_8_code 46 = .ok (.iconst 0, 1) := by decide +kernel
theorem d_Orders_findPrimes_47 : decode prog_6_method_8_code 47 = .ok (.istore 7, 2) := by decide +kernel
theorem d_Orders_findPrimes_49 : decode prog_6_method_8_code 49 = .ok (.iload 7, 2) := by decide +kernel
theorem d_Orders_findPrimes_51 : decode prog_6_method_8_code 51 = .ok (.bipush 64, 2) := by decide +kernel
theorem d_Orders_findPrimes_53 : decode prog_6_method_8_code 53 = .ok (.if_icmp .ge 23, 3) := by decide +kernel
theorem d_Orders_findPrimes_56 : decode prog_6_method_8_code 56 = .ok (.lload_n 3, 1) := by decide +kernel
theorem d_Orders_findPrimes_57 : decode prog_6_method_8_code 57 = .ok (.lload 5, 2) := by decide +kernel
theorem d_Orders_findPrimes_59 : decode prog_6_method_8_code 59 = .ok (.lrem, 1) := by decide +kernel
theorem d_Orders_findPrimes_60 : decode prog_6_method_8_code 60 = .ok (.lconst 0, 1) := by decide +kernel
theorem d_Orders_findPrimes_61 : decode prog_6_method_8_code 61 = .ok (.lcmp, 1) := by decide +kernel
theorem d_Orders_findPrimes_62 : decode prog_6_method_8_code 62 = .ok (.ifCond .ne 14, 3) := by decide +kernel
theorem d_Orders_findPrimes_65 : decode prog_6_method_8_code 65 = .ok (.lload_n 3, 1) := by decide +kernel
theorem d_Orders_findPrimes_66 : decode prog_6_method_8_code 66 = .ok (.lload 5, 2) := by decide +kernel
theorem d_Orders_findPrimes_68 : decode prog_6_method_8_code 68 = .ok (.ldiv, 1) := by decide +kernel
theorem d_Orders_findPrimes_69 : decode prog_6_method_8_code 69 = .ok (.lstore_n 3, 1) := by decide +kernel
theorem d_Orders_findPrimes_70 : decode prog_6_method_8_code 70 = .ok (.iinc 7 1, 3) := by decide +kernel
theorem d_Orders_findPrimes_73 : decode prog_6_method_8_code 73 = .ok (.goto (-24), 3) := by decide +kernel
theorem d_Orders_findPrimes_76 : decode prog_6_method_8_code 76 = .ok (.lload 5, 2) := by decide +kernel
theorem d_Orders_findPrimes_78 : decode prog_6_method_8_code 78 = .ok (.lload 5, 2) := by decide +kernel
theorem d_Orders_findPrimes_80 : decode prog_6_method_8_code 80 = .ok (.ldc2_w 19, 3) := by decide +kernel
theorem d_Orders_findPrimes_83 : decode prog_6_method_8_code 83 = .ok (.lcmp, 1) := by decide +kernel
theorem d_Orders_findPrimes_84 : decode prog_6_method_8_code 84 = .ok (.ifCond .ne 7, 3) := by decide +kernel
theorem d_Orders_findPrimes_87 : decode prog_6_method_8_code 87 = .ok (.lconst 1, 1) := by decide +kernel
theorem d_Orders_findPrimes_88 : decode prog_6_method_8_code 88 = .ok (.goto 6, 3) := by decide +kernel
theorem d_Orders_findPrimes_91 : decode prog_6_method_8_code 91 = .ok (.ldc2_w 19, 3) := by decide +kernel
theorem d_Orders_findPrimes_94 : decode prog_6_method_8_code 94 = .ok (.ladd, 1) := by decide +kernel
theorem d_Orders_findPrimes_95 : decode prog_6_method_8_code 95 = .ok (.lstore 5, 2) := by decide +kernel
theorem d_Orders_findPrimes_97 : decode prog_6_method_8_code 97 = .ok (.goto (-85), 3) := by decide +kernel
theorem d_Orders_findPrimes_100 : decode prog_6_method_8_code 100 = .ok (.lload_n 3, 1) := by decide +kernel
theorem d_Orders_findPrimes_101 : decode prog_6_method_8_code 101 = .ok (.lconst 1, 1) := by decide +kernel
theorem d_Orders_findPrimes_102 : decode prog_6_method_8_code 102 = .ok (.lcmp, 1) := by decide +kernel
theorem d_Orders_findPrimes_103 : decode prog_6_method_8_code 103 = .ok (.ifCond .le 8, 3) := by decide +kernel
theorem d_Orders_findPrimes_106 : decode prog_6_method_8_code 106 = .ok (.aload_n 0, 1) := by decide +kernel
theorem d_Orders_findPrimes_107 : decode prog_6_method_8_code 107 = .ok (.lload_n 3, 1) := by decide +kernel
theorem d_Orders_findPrimes_108 : decode prog_6_method_8_code 108 = .ok (.invokevirtual 72, 3) := by decide +kernel
theorem d_Orders_findPrimes_111 : decode prog_6_method_8_code 111 = .ok (.return_, 1) := by decide +kernel
def cf_Orders_findPrimes_B76 (c : Nat) (K12 : Int64 → Int64 → Wd → Prop) (P : Wd → Prop) (x3 : Int64) (x5 : Int64) (w : Wd) : Prop :=
  ((¬ x5 = (2 : Int64) → ∀ v4, v4 = x5 + (2 : Int64) → K12 x3 v4 w) ∧ (x5 = (2 : Int64) → ∀ v5, v5 = x5 + (1 : Int64) → K12 x3 v5 w))
def cf_Orders_findPrimes_B49 (c : Nat) (K12 : Int64 → Int64 → Wd → Prop) (K49 : Int64 → Int64 → Int32 → Wd → Prop) (P : Wd → Prop) (x3 : Int64) (x5 : Int64) (x7 : Int32) (w : Wd) : Prop :=
  (((64 : Int32) ≤ x7 → cf_Orders_findPrimes_B76 c K12 P x3 x5 w) ∧ (¬ (64 : Int32) ≤ x7 → ¬ x5 = 0 ∧ ((¬ (lrem x3 x5) = (0 : Int64) → cf_Orders_findPrimes_B76 c K12 P x3 x5 w) ∧ ((lrem x3 x5) = (0 : Int64) → ¬ x5 = 0 ∧ ∀ v7, v7 = x3 / x5 → ∀ v8, v8 = x7 + (1 : Int32) → K49 v7 x5 v8 w))))
def cf_Orders_findPrimes_L49 (c : Nat) (K12 : Int64 → Int64 → Wd → Prop) (P : Wd → Prop) : Nat → Int64 → Int64 → Int32 → Wd → Prop
  | 0 => fun x3 x5 x7 w => False
  | n + 1 => fun x3 x5 x7 w => cf_Orders_findPrimes_B49 c K12 (cf_Orders_findPrimes_L49 c K12 P n) P x3 x5 x7 w
def cf_Orders_findPrimes_B12 (c : Nat) (K12 : Int64 → Int64 → Wd → Prop) (P : Wd → Prop) (x3 : Int64) (x5 : Int64) (w : Wd) : Prop :=
  (((65536 : Int64) < x5 → ((x3 ≤ (1 : Int64) → P w) ∧ (¬ x3 ≤ (1 : Int64) → cf_Orders_notePrime c x3 w (fun w2 => P w2)))) ∧ (¬ (65536 : Int64) < x5 → ((x3 < (x5 * x5) → ((x3 ≤ (1 : Int64) → P w) ∧ (¬ x3 ≤ (1 : Int64) → cf_Orders_notePrime c x3 w (fun w3 => P w3)))) ∧ (¬ x3 < (x5 * x5) → ¬ x5 = 0 ∧ ((¬ (lrem x3 x5) = (0 : Int64) → cf_Orders_findPrimes_B76 c K12 P x3 x5 w) ∧ ((lrem x3 x5) = (0 : Int64) → cf_Orders_notePrime c x5 w (fun w6 => ∃ n, cf_Orders_findPrimes_L49 c K12 P n x3 x5 (0 : Int32) w6)))))))
def cf_Orders_findPrimes_L12 (c : Nat)  (P : Wd → Prop) : Nat → Int64 → Int64 → Wd → Prop
  | 0 => fun x3 x5 w => False
  | n + 1 => fun x3 x5 w => cf_Orders_findPrimes_B12 c (cf_Orders_findPrimes_L12 c P n) P x3 x5 w
def cf_Orders_findPrimes (c : Nat) (a0 : Int64) (w : Wd) (P : Wd → Prop) : Prop :=
  ∀ w1, w1 = wI w c 1 (0 : Int32) → ∃ n, cf_Orders_findPrimes_L12 c P n a0 (2 : Int64) w1
theorem cf_Orders_findPrimes_B76_ok {g : ayG} {d : Nat} (hd : 1 ≤ d) (c : Nat) (hc : ay_sh c = (15, 0)) (w : Wd) (K12 : Int64 → Int64 → Wd → Prop) (P : Wd → Prop) (Q : Option Value → Wd → Prop) (hQ : ∀ w2, P w2 → Q none w2) (hK12 : ∀ (x3 : Int64) (x5 : Int64) (w : Wd), (K12 x3 x5 w → wp g (fun _ => True) y_Orders_findPrimes prog_6_method_8_code 8 none d 12 [(0, .ref (g.1 + c)), (3, .long x3), (5, .long x5)] [] w Q)) (x3 : Int64) (x5 : Int64) (h : cf_Orders_findPrimes_B76 c K12 P x3 x5 w) : wp g (fun _ => True) y_Orders_findPrimes prog_6_method_8_code 8 none d 76 [(0, .ref (g.1 + c)), (3, .long x3), (5, .long x5)] [] w Q := by
  unfold cf_Orders_findPrimes_B76 at h
  refine am_lload d_Orders_findPrimes_76 2 rfl ?_
  refine am_lload d_Orders_findPrimes_78 2 rfl ?_
  refine am_ldc2 (v := 2) d_Orders_findPrimes_80 wd_657 ?_
  refine am_lif_ne (tgt := 91) d_Orders_findPrimes_83 d_Orders_findPrimes_84 (by decide) (fun c83 => ?_) (fun c83 => ?_)
  · have h := h.1 c83
    refine am_ldc2 (v := 2) d_Orders_findPrimes_91 wd_657 ?_
    refine am_ladd d_Orders_findPrimes_94 ?_
    refine am_topl (fun v4 ev4 => ?_)
    have h := h v4 ev4
    refine am_lstore (l' := [(5, .long v4), (0, .ref (g.1 + c)), (3, .long x3)]) d_Orders_findPrimes_95 (by decide) rfl ?_
    refine am_goto (tgt := 12) d_Orders_findPrimes_97 (by decide) ?_
    refine am_sub [1, 2, 0] rfl ?_
    exact hK12 x3 v4 w h
  · have h := h.2 c83
    refine am_lconst (v := 1) d_Orders_findPrimes_87 rfl ?_
    refine am_goto (tgt := 94) d_Orders_findPrimes_88 (by decide) ?_
    refine am_ladd d_Orders_findPrimes_94 ?_
    refine am_topl (fun v5 ev5 => ?_)
    have h := h v5 ev5
    refine am_lstore (l' := [(5, .long v5), (0, .ref (g.1 + c)), (3, .long x3)]) d_Orders_findPrimes_95 (by decide) rfl ?_
    refine am_goto (tgt := 12) d_Orders_findPrimes_97 (by decide) ?_
    refine am_sub [1, 2, 0] rfl ?_
    exact hK12 x3 v5 w h
theorem cf_Orders_findPrimes_B49_ok {g : ayG} {d : Nat} (hd : 1 ≤ d) (c : Nat) (hc : ay_sh c = (15, 0)) (w : Wd) (K12 : Int64 → Int64 → Wd → Prop) (K49 : Int64 → Int64 → Int32 → Wd → Prop) (P : Wd → Prop) (Q : Option Value → Wd → Prop) (hQ : ∀ w2, P w2 → Q none w2) (hK12 : ∀ (x3 : Int64) (x5 : Int64) (w : Wd), (K12 x3 x5 w → wp g (fun _ => True) y_Orders_findPrimes prog_6_method_8_code 8 none d 12 [(0, .ref (g.1 + c)), (3, .long x3), (5, .long x5)] [] w Q)) (hK49 : ∀ (x3 : Int64) (x5 : Int64) (x7 : Int32) (w : Wd), (K49 x3 x5 x7 w → wp g (fun _ => True) y_Orders_findPrimes prog_6_method_8_code 8 none d 49 [(0, .ref (g.1 + c)), (3, .long x3), (5, .long x5), (7, .int x7)] [] w Q)) (x3 : Int64) (x5 : Int64) (x7 : Int32) (h : cf_Orders_findPrimes_B49 c K12 K49 P x3 x5 x7 w) : wp g (fun _ => True) y_Orders_findPrimes prog_6_method_8_code 8 none d 49 [(0, .ref (g.1 + c)), (3, .long x3), (5, .long x5), (7, .int x7)] [] w Q := by
  unfold cf_Orders_findPrimes_B49 at h
  refine am_iload d_Orders_findPrimes_49 3 rfl ?_
  refine am_bipush (v := 64) d_Orders_findPrimes_51 rfl ?_
  refine am_icmp_ge (tgt := 76) d_Orders_findPrimes_53 (by decide) (fun c53 => ?_) (fun c53 => ?_)
  · have h := h.1 c53
    refine am_sub [0, 1, 2] rfl ?_
    exact cf_Orders_findPrimes_B76_ok (by omega) c hc w K12 P Q hQ hK12 x3 x5 h
  · have h := h.2 c53
    refine am_lload_n d_Orders_findPrimes_56 1 rfl ?_
    refine am_lload d_Orders_findPrimes_57 2 rfl ?_
    have hz59 := h.1
    have h := h.2
    refine am_lrem d_Orders_findPrimes_59 hz59 ?_
    refine am_lconst (v := 0) d_Orders_findPrimes_60 rfl ?_
    refine am_lif_ne (tgt := 76) d_Orders_findPrimes_61 d_Orders_findPrimes_62 (by decide) (fun c61 => ?_) (fun c61 => ?_)
    · have h := h.1 c61
      refine am_sub [0, 1, 2] rfl ?_
      exact cf_Orders_findPrimes_B76_ok (by omega) c hc w K12 P Q hQ hK12 x3 x5 h
    · have h := h.2 c61
      refine am_lload_n d_Orders_findPrimes_65 1 rfl ?_
      refine am_lload d_Orders_findPrimes_66 2 rfl ?_
      have hz68 := h.1
      have h := h.2
      refine am_ldiv d_Orders_findPrimes_68 hz68 ?_
      refine am_topl (fun v7 ev7 => ?_)
      have h := h v7 ev7
      refine am_lstore_n (l' := [(3, .long v7), (0, .ref (g.1 + c)), (5, .long x5), (7, .int x7)]) d_Orders_findPrimes_69 (by decide) rfl ?_
      obtain ⟨v8, ev8⟩ : ∃ z : Int32, z = x7 + (1 : Int32) := ⟨_, rfl⟩
      have h := h v8 ev8
      refine am_iinc (v := v8) (l' := [(7, .int v8), (3, .long v7), (0, .ref (g.1 + c)), (5, .long x5)]) d_Orders_findPrimes_70 3 rfl (by rw [ev8]; rfl) (by decide) rfl ?_
      refine am_goto (tgt := 49) d_Orders_findPrimes_73 (by decide) ?_
      refine am_sub [2, 1, 3, 0] rfl ?_
      exact hK49 v7 x5 v8 w h
theorem cf_Orders_findPrimes_L49_ok {g : ayG} {d : Nat} (hd : 1 ≤ d) (c : Nat) (hc : ay_sh c = (15, 0)) (K12 : Int64 → Int64 → Wd → Prop) (P : Wd → Prop) (Q : Option Value → Wd → Prop) (hQ : ∀ w2, P w2 → Q none w2) (hK12 : ∀ (x3 : Int64) (x5 : Int64) (w : Wd), (K12 x3 x5 w → wp g (fun _ => True) y_Orders_findPrimes prog_6_method_8_code 8 none d 12 [(0, .ref (g.1 + c)), (3, .long x3), (5, .long x5)] [] w Q)) : ∀ (n : Nat) (x3 : Int64) (x5 : Int64) (x7 : Int32) (w : Wd) (h : cf_Orders_findPrimes_L49 c K12 P n x3 x5 x7 w), wp g (fun _ => True) y_Orders_findPrimes prog_6_method_8_code 8 none d 49 [(0, .ref (g.1 + c)), (3, .long x3), (5, .long x5), (7, .int x7)] [] w Q
  | 0, x3, x5, x7, w, h => False.elim h
  | n + 1, x3, x5, x7, w, h => cf_Orders_findPrimes_B49_ok hd c hc w K12 (cf_Orders_findPrimes_L49 c K12 P n) P Q hQ hK12 (fun x3 x5 x7 w h => cf_Orders_findPrimes_L49_ok hd c hc K12 P Q hQ hK12 n x3 x5 x7 w h) x3 x5 x7 h
theorem cf_Orders_findPrimes_B12_ok {g : ayG} {d : Nat} (hd : 1 ≤ d) (c : Nat) (hc : ay_sh c = (15, 0)) (w : Wd) (K12 : Int64 → Int64 → Wd → Prop) (P : Wd → Prop) (Q : Option Value → Wd → Prop) (hQ : ∀ w2, P w2 → Q none w2) (hK12 : ∀ (x3 : Int64) (x5 : Int64) (w : Wd), (K12 x3 x5 w → wp g (fun _ => True) y_Orders_findPrimes prog_6_method_8_code 8 none d 12 [(0, .ref (g.1 + c)), (3, .long x3), (5, .long x5)] [] w Q)) (x3 : Int64) (x5 : Int64) (h : cf_Orders_findPrimes_B12 c K12 P x3 x5 w) : wp g (fun _ => True) y_Orders_findPrimes prog_6_method_8_code 8 none d 12 [(0, .ref (g.1 + c)), (3, .long x3), (5, .long x5)] [] w Q := by
  unfold cf_Orders_findPrimes_B12 at h
  refine am_lload d_Orders_findPrimes_12 2 rfl ?_
  refine am_ldc2 (v := 65536) d_Orders_findPrimes_14 wd_667 ?_
  refine am_lif_gt (tgt := 100) d_Orders_findPrimes_17 d_Orders_findPrimes_18 (by decide) (fun c17 => ?_) (fun c17 => ?_)
  · have h := h.1 c17
    refine am_lload_n d_Orders_findPrimes_100 1 rfl ?_
    refine am_lconst (v := 1) d_Orders_findPrimes_101 rfl ?_
    refine am_lif_le (tgt := 111) d_Orders_findPrimes_102 d_Orders_findPrimes_103 (by decide) (fun c102 => ?_) (fun c102 => ?_)
    · have h := h.1 c102
      exact am_return d_Orders_findPrimes_111 rfl (hQ w h)
    · have h := h.2 c102
      refine am_aload_n d_Orders_findPrimes_106 0 rfl ?_
      refine am_lload_n d_Orders_findPrimes_107 1 rfl ?_
      refine am_callV (C := y_Orders_notePrime.cls) (d2 := d - 1) [.long x3] d_Orders_findPrimes_108 mi_Orders_notePrime wd_668 wd_670 ws_Orders_notePrime (ay_shlt hc (by decide)) (el_Orders hc) rfl rfl (by omega) rfl rfl (Nat.le_of_ble_eq_true rfl) ?_
      refine Call.post ?_ (cf_Orders_notePrime_ok (by omega) c x3 hc w _ h)
      rintro _ w2 ⟨rfl, h⟩
      show wp g (fun _ => True) y_Orders_findPrimes prog_6_method_8_code 8 none d 111 [(0, .ref (g.1 + c)), (3, .long x3), (5, .long x5)] [] w2 Q
      exact am_return d_Orders_findPrimes_111 rfl (hQ w2 h)
  · have h := h.2 c17
    refine am_lload d_Orders_findPrimes_21 2 rfl ?_
    refine am_lload d_Orders_findPrimes_23 2 rfl ?_
    refine am_lmul d_Orders_findPrimes_25 ?_
    refine am_lload_n d_Orders_findPrimes_26 1 rfl ?_
    refine am_lif_gt (tgt := 100) d_Orders_findPrimes_27 d_Orders_findPrimes_28 (by decide) (fun c27 => ?_) (fun c27 => ?_)
    · have h := h.1 c27
      refine am_lload_n d_Orders_findPrimes_100 1 rfl ?_
      refine am_lconst (v := 1) d_Orders_findPrimes_101 rfl ?_
      refine am_lif_le (tgt := 111) d_Orders_findPrimes_102 d_Orders_findPrimes_103 (by decide) (fun c102 => ?_) (fun c102 => ?_)
      · have h := h.1 c102
        exact am_return d_Orders_findPrimes_111 rfl (hQ w h)
      · have h := h.2 c102
        refine am_aload_n d_Orders_findPrimes_106 0 rfl ?_
        refine am_lload_n d_Orders_findPrimes_107 1 rfl ?_
        refine am_callV (C := y_Orders_notePrime.cls) (d2 := d - 1) [.long x3] d_Orders_findPrimes_108 mi_Orders_notePrime wd_668 wd_670 ws_Orders_notePrime (ay_shlt hc (by decide)) (el_Orders hc) rfl rfl (by omega) rfl rfl (Nat.le_of_ble_eq_true rfl) ?_
        refine Call.post ?_ (cf_Orders_notePrime_ok (by omega) c x3 hc w _ h)
        rintro _ w3 ⟨rfl, h⟩
        show wp g (fun _ => True) y_Orders_findPrimes prog_6_method_8_code 8 none d 111 [(0, .ref (g.1 + c)), (3, .long x3), (5, .long x5)] [] w3 Q
        exact am_return d_Orders_findPrimes_111 rfl (hQ w3 h)
    · have h := h.2 c27
      refine am_lload_n d_Orders_findPrimes_31 1 rfl ?_
      refine am_lload d_Orders_findPrimes_32 2 rfl ?_
      have hz34 := h.1
      have h := h.2
      refine am_lrem d_Orders_findPrimes_34 hz34 ?_
      refine am_lconst (v := 0) d_Orders_findPrimes_35 rfl ?_
      refine am_lif_ne (tgt := 76) d_Orders_findPrimes_36 d_Orders_findPrimes_37 (by decide) (fun c36 => ?_) (fun c36 => ?_)
      · have h := h.1 c36
        refine am_sub [0, 1, 2] rfl ?_
        exact cf_Orders_findPrimes_B76_ok (by omega) c hc w K12 P Q hQ hK12 x3 x5 h
      · have h := h.2 c36
        refine am_aload_n d_Orders_findPrimes_40 0 rfl ?_
        refine am_lload d_Orders_findPrimes_41 2 rfl ?_
        refine am_callV (C := y_Orders_notePrime.cls) (d2 := d - 1) [.long x5] d_Orders_findPrimes_43 mi_Orders_notePrime wd_668 wd_670 ws_Orders_notePrime (ay_shlt hc (by decide)) (el_Orders hc) rfl rfl (by omega) rfl rfl (Nat.le_of_ble_eq_true rfl) ?_
        refine Call.post ?_ (cf_Orders_notePrime_ok (by omega) c x5 hc w _ h)
        rintro _ w6 ⟨rfl, h⟩
        show wp g (fun _ => True) y_Orders_findPrimes prog_6_method_8_code 8 none d 46 [(0, .ref (g.1 + c)), (3, .long x3), (5, .long x5)] [] w6 Q
        refine am_iconst (v := 0) d_Orders_findPrimes_46 rfl ?_
        refine am_istore (l' := [(7, .int (0 : Int32)), (0, .ref (g.1 + c)), (3, .long x3), (5, .long x5)]) d_Orders_findPrimes_47 (by decide) rfl ?_
        refine am_sub [1, 2, 3, 0] rfl ?_
        obtain ⟨n, h⟩ := h
        exact cf_Orders_findPrimes_L49_ok (by omega) c hc K12 P Q hQ hK12 n x3 x5 (0 : Int32) w6 h
theorem cf_Orders_findPrimes_L12_ok {g : ayG} {d : Nat} (hd : 1 ≤ d) (c : Nat) (hc : ay_sh c = (15, 0))  (P : Wd → Prop) (Q : Option Value → Wd → Prop) (hQ : ∀ w2, P w2 → Q none w2)  : ∀ (n : Nat) (x3 : Int64) (x5 : Int64) (w : Wd) (h : cf_Orders_findPrimes_L12 c P n x3 x5 w), wp g (fun _ => True) y_Orders_findPrimes prog_6_method_8_code 8 none d 12 [(0, .ref (g.1 + c)), (3, .long x3), (5, .long x5)] [] w Q
  | 0, x3, x5, w, h => False.elim h
  | n + 1, x3, x5, w, h => cf_Orders_findPrimes_B12_ok hd c hc w (cf_Orders_findPrimes_L12 c P n) P Q hQ (fun x3 x5 w h => cf_Orders_findPrimes_L12_ok hd c hc  P Q hQ  n x3 x5 w h) x3 x5 h
theorem cf_Orders_findPrimes_ok {g : ayG} {d : Nat} (hd : 1 ≤ d) (c : Nat) (a0 : Int64) (hc : ay_sh c = (15, 0)) (w : Wd) (P : Wd → Prop) (h : cf_Orders_findPrimes c a0 w P) : Call g y_Orders_findPrimes prog_6_method_8_code 8 none d [.ref (g.1 + c), .long a0] w (fun (r : Option Value) (w2 : Wd) => r = none ∧ P w2) := by
  unfold cf_Orders_findPrimes at h
  refine am_enter mi_Orders_findPrimes (Nat.le_of_ble_eq_true rfl) ?_
  have hQ : ∀ w2, P w2 → (fun (r : Option Value) (w2 : Wd) => r = none ∧ P w2) none w2 := fun w2 h => ⟨rfl, h⟩
  generalize (fun (r : Option Value) (w2 : Wd) => r = none ∧ P w2) = Q at hQ ⊢
  show wp g (fun _ => True) y_Orders_findPrimes prog_6_method_8_code 8 none d 0 [(0, .ref (g.1 + c)), (1, .long a0)] [] w Q
  refine am_aload_n d_Orders_findPrimes_0 0 rfl ?_
  refine am_iconst (v := 0) d_Orders_findPrimes_1 rfl ?_
  refine am_putf (w' := wI w c 1 (0 : Int32)) (ty := .int) (T := F_Orders) (fs := ob_Orders g w c) (C := R_Orders) (N := 2) (ci := 5) 1 d_Orders_findPrimes_2 wd_131 rfl (ay_shlt hc (by decide)) (el_Orders hc) rfl i_Orders (by decide) G_Orders ty_Orders n_Orders rfl (ty_Orders 1 (by decide)) rfl rfl (Nat.le_of_ble_eq_true rfl) ((el_Orders hc).trans (by rw [pf_Orders_many])) wI_o ?_
  obtain ⟨w1, ew1⟩ : ∃ z, z = wI w c 1 (0 : Int32) := ⟨_, rfl⟩
  rw [← ew1]
  have h := h w1 ew1
  refine am_lload_n d_Orders_findPrimes_5 1 rfl ?_
  refine am_lstore_n (l' := [(3, .long a0), (0, .ref (g.1 + c)), (1, .long a0)]) d_Orders_findPrimes_6 (by decide) rfl ?_
  refine am_ldc2 (v := 2) d_Orders_findPrimes_7 wd_657 ?_
  refine am_lstore (l' := [(5, .long (2 : Int64)), (3, .long a0), (0, .ref (g.1 + c)), (1, .long a0)]) d_Orders_findPrimes_10 (by decide) rfl ?_
  refine am_sub [2, 1, 0] rfl ?_
  obtain ⟨n, h⟩ := h
  exact cf_Orders_findPrimes_L12_ok (by omega) c hc  P Q hQ  n a0 (2 : Int64) w1 h
theorem d_Orders_ofIrreducible_0 : decode prog_6_method_3_code 0 = .ok (.lconst 1, 1) := by decide +kernel
theorem d_Orders_ofIrreducible_1 : decode prog_6_method_3_code 1 = .ok (.lload_n 1, 1) := by decide +kernel
theorem d_Orders_ofIrreducible_2 : decode prog_6_method_3_code 2 = .ok (.invokestatic 25, 3) := by decide +kernel
theorem d_Orders_ofIrreducible_5 : decode prog_6_method_3_code 5 = .ok (.lshl, 1) := by decide +kernel
theorem d_Orders_ofIrreducible_6 : decode prog_6_method_3_code 6 = .ok (.lconst 1, 1) := by decide +kernel
theorem d_Orders_ofIrreducible_7 : decode prog_6_method_3_code 7 = .ok (.lsub, 1) := by decide +kernel
theorem d_Orders_ofIrreducible_8 : decode prog_6_method_3_code 8 = .ok (.lstore_n 3, 1) := by decide +kernel
theorem d_Orders_ofIrreducible_9 : decode prog_6_method_3_code 9 = .ok (.aload_n 0, 1) := by decide +kernel
theorem d_Orders_ofIrreducible_10 : decode prog_6_method_3_code 10 = .ok (.lload_n 3, 1) := by decide +kernel
theorem d_Orders_ofIrreducible_11 : decode prog_6_method_3_code 11 = .ok (.invokevirtual 29, 3) := by decide +kernel
theorem d_Orders_ofIrreducible_14 : decode prog_6_method_3_code 14 = .ok (.iconst 0, 1) := by decide +kernel
theorem d_Orders_ofIrreducible_15 : decode prog_6_method_3_code 15 = .ok (.istore 5, 2) := by decide +kernel
theorem d_Orders_ofIrreducible_17 : decode prog_6_method_3_code 17 = .ok (.iload 5, 2) := by decide +kernel
theorem d_Orders_ofIrreducible_19 : decode prog_6_method_3_code 19 = .ok (.aload_n 0, 1) := by decide +kernel
theorem d_Orders_ofIrreducible_20 : decode prog_6_method_3_code 20 = .ok (.getfield 33, 3) := by decide +kernel
theorem d_Orders_ofIrreducible_23 : decode prog_6_method_3_code 23 = .ok (.if_icmp .ge 84, 3) := by decide +kernel
theorem d_Orders_ofIrreducible_26 : decode prog_6_method_3_code 26 = .ok (.iload 5, 2) := by decide +kernel
theorem d_Orders_ofIrreducible_28 : decode prog_6_method_3_code 28 = .ok (.aload_n 0, 1) := by decide +kernel
theorem d_Orders_ofIrreducible_29 : decode prog_6_method_3_code 29 = .ok (.getfield 9, 3) := by decide +kernel
theorem d_Orders_ofIrreducible_32 : decode prog_6_method_3_code 32 = .ok (.arraylength, 1) := by decide +kernel
theorem d_Orders_ofIrreducible_33 : decode prog_6_method_3_code 33 = .ok (.if_icmp .ge 74, 3) := by decide +kernel
theorem d_Orders_ofIrreducible_36 : decode prog_6_method_3_code 36 = .ok (.aload_n 0, 1) := by decide +kernel
theorem d_Orders_ofIrreducible_37 : decode prog_6_method_3_code 37 = .ok (.getfield 9, 3) := by decide +kernel
theorem d_Orders_ofIrreducible_40 : decode prog_6_method_3_code 40 = .ok (.iload 5, 2) := by decide +kernel
theorem d_Orders_ofIrreducible_42 : decode prog_6_method_3_code 42 = .ok (.laload, 1) := by decide +kernel
theorem d_Orders_ofIrreducible_43 : decode prog_6_method_3_code 43 = .ok (.lstore 6, 2) := by decide +kernel
theorem d_Orders_ofIrreducible_45 : decode prog_6_method_3_code 45 = .ok (.iconst 0, 1) := by decide +kernel
theorem d_Orders_ofIrreducible_46 : decode prog_6_method_3_code 46 = .ok (.istore 8, 2) := by decide +kernel
theorem d_Orders_ofIrreducible_48 : decode prog_6_method_3_code 48 = .ok (.iload 8, 2) := by decide +kernel
theorem d_Orders_ofIrreducible_50 : decode prog_6_method_3_code 50 = .ok (.bipush 64, 2) := by decide +kernel
theorem d_Orders_ofIrreducible_52 : decode prog_6_method_3_code 52 = .ok (.if_icmp .ge 49, 3) := by decide +kernel
theorem d_Orders_ofIrreducible_55 : decode prog_6_method_3_code 55 = .ok (.lload 6, 2) := by decide +kernel
theorem d_Orders_ofIrreducible_57 : decode prog_6_method_3_code 57 = .ok (.lconst 1, 1) := by decide +kernel
theorem d_Orders_ofIrreducible_58 : decode prog_6_method_3_code 58 = .ok (.lcmp, 1) := by decide +kernel
theorem d_Orders_ofIrreducible_59 : decode prog_6_method_3_code 59 = .ok (.ifCond .le 42, 3) := by decide +kernel
theorem d_Orders_ofIrreducible_62 : decode prog_6_method_3_code 62 = .ok (.lload_n 3, 1) := by decide +kernel
theorem d_Orders_ofIrreducible_63 : decode prog_6_method_3_code 63 = .ok (.lload 6, 2) := by decide +kernel
theorem d_Orders_ofIrreducible_65 : decode prog_6_method_3_code 65 = .ok (.lrem, 1) := by decide +kernel
theorem d_Orders_ofIrreducible_66 : decode prog_6_method_3_code 66 = .ok (.lconst 0, 1) := by decide +kernel
theorem d_Orders_ofIrreducible_67 : decode prog_6_method_3_code 67 = .ok (.lcmp, 1) := by decide +kernel
theorem d_Orders_ofIrreducible_68 : decode prog_6_method_3_code 68 = .ok (.ifCond .ne 33, 3) := by decide +kernel
theorem d_Orders_ofIrreducible_71 : decode prog_6_method_3_code 71 = .ok (.ldc2_w 19, 3) := by decide +kernel
theorem d_Orders_ofIrreducible_74 : decode prog_6_method_3_code 74 = .ok (.lload_n 3, 1) := by decide +kernel
theorem d_Orders_ofIrreducible_75 : decode prog_6_method_3_code 75 = .ok (.lload 6, 2) := by decide +kernel
theorem d_Orders_ofIrreducible_77 : decode prog_6_method_3_code 77 = .ok (.ldiv, 1) := by decide +kernel
theorem d_Orders_ofIrreducible_78 : decode prog_6_method_3_code 78 = .ok (.lload_n 1, 1) := by decide +kernel
theorem d_Orders_ofIrreducible_79 : decode prog_6_method_3_code 79 = .ok (.invokestatic 37, 3) := by decide +kernel
theorem d_Orders_ofIrreducible_82 : decode prog_6_method_3_code 82 = .ok (.lconst 1, 1) := by decide +kernel
theorem d_Orders_ofIrreducible_83 : decode prog_6_method_3_code 83 = .ok (.lcmp, 1) := by decide +kernel
theorem d_Orders_ofIrreducible_84 : decode prog_6_method_3_code 84 = .ok (.ifCond .eq 6, 3) := by decide +kernel
theorem d_Orders_ofIrreducible_87 : decode prog_6_method_3_code 87 = .ok (.goto 14, 3) := by decide +kernel
theorem d_Orders_ofIrreducible_90 : decode prog_6_method_3_code 90 = .ok (.lload_n 3, 1) := by decide +kernel
theorem d_Orders_ofIrreducible_91 : decode prog_6_method_3_code 91 = .ok (.lload 6, 2) := by decide +kernel
theorem d_Orders_ofIrreducible_93 : decode prog_6_method_3_code 93 = .ok (.ldiv, 1) := by decide +kernel
theorem d_Orders_ofIrreducible_94 : decode prog_6_method_3_code 94 = .ok (.lstore_n 3, 1) := by decide +kernel
theorem d_Orders_ofIrreducible_95 : decode prog_6_method_3_code 95 = .ok (.iinc 8 1, 3) := by decide +kernel
theorem d_Orders_ofIrreducible_98 : decode prog_6_method_3_code 98 = .ok (.goto (-50), 3) := by decide +kernel
theorem d_Orders_ofIrreducible_101 : decode prog_6_method_3_code 101 = .ok (.iinc 5 1, 3) := by decide +kernel
theorem d_Orders_ofIrreducible_104 : decode prog_6_method_3_code 104 = .ok (.goto (-87), 3) := by decide +kernel
theorem d_Orders_ofIrreducible_107 : decode prog_6_method_3_code 107 = .ok (.lload_n 3, 1) := by decide +kernel
theorem d_Orders_ofIrreducible_108 : decode prog_6_method_3_code 108 = .ok (.lreturn, 1) := by decide +kernel
def cf_Orders_ofIrreducible_B48 (c : Nat) (K17 : Int64 → Int64 → Int32 → Wd → Prop) (K48 : Int64 → Int64 → Int32 → Int64 → Int32 → Wd → Prop) (P : Int64 → Wd → Prop) (x1 : Int64) (x3 : Int64) (x5 : Int32) (x6 : Int64) (x8 : Int32) (w : Wd) : Prop :=
  (((64 : Int32) ≤ x8 → ∀ v5, v5 = x5 + (1 : Int32) → K17 x1 x3 v5 w) ∧ (¬ (64 : Int32) ≤ x8 → ((x6 ≤ (1 : Int64) → ∀ v6, v6 = x5 + (1 : Int32) → K17 x1 x3 v6 w) ∧ (¬ x6 ≤ (1 : Int64) → ¬ x6 = 0 ∧ ((¬ (lrem x3 x6) = (0 : Int64) → ∀ v7, v7 = x5 + (1 : Int32) → K17 x1 x3 v7 w) ∧ ((lrem x3 x6) = (0 : Int64) → ¬ x6 = 0 ∧ cf_Polys_powerBy (2 : Int64) (x3 / x6) x1 (fun r8 => ((r8 = (1 : Int64) → ¬ x6 = 0 ∧ ∀ v9, v9 = x3 / x6 → ∀ v10, v10 = x8 + (1 : Int32) → K48 x1 v9 x5 x6 v10 w) ∧ (¬ r8 = (1 : Int64) → ∀ v11, v11 = x5 + (1 : Int32) → K17 x1 x3 v11 w)))))))))
def cf_Orders_ofIrreducible_L48 (c : Nat) (K17 : Int64 → Int64 → Int32 → Wd → Prop) (P : Int64 → Wd → Prop) : Nat → Int64 → Int64 → Int32 → Int64 → Int32 → Wd → Prop
  | 0 => fun x1 x3 x5 x6 x8 w => False
  | n + 1 => fun x1 x3 x5 x6 x8 w => cf_Orders_ofIrreducible_B48 c K17 (cf_Orders_ofIrreducible_L48 c K17 P n) P x1 x3 x5 x6 x8 w
def cf_Orders_ofIrreducible_B17 (c : Nat) (K17 : Int64 → Int64 → Int32 → Wd → Prop) (P : Int64 → Wd → Prop) (x1 : Int64) (x3 : Int64) (x5 : Int32) (w : Wd) : Prop :=
  (((w.1 c 1) ≤ x5 → P x3 w) ∧ (¬ (w.1 c 1) ≤ x5 → (((16 : Int32) ≤ x5 → P x3 w) ∧ (¬ (16 : Int32) ≤ x5 → vp_in x5 16 ∧ ∀ v4, v4 = w.2 (c + 1) x5.toNatClampNeg → ∃ n, cf_Orders_ofIrreducible_L48 c K17 P n x1 x3 x5 v4 (0 : Int32) w))))
def cf_Orders_ofIrreducible_L17 (c : Nat)  (P : Int64 → Wd → Prop) : Nat → Int64 → Int64 → Int32 → Wd → Prop
  | 0 => fun x1 x3 x5 w => False
  | n + 1 => fun x1 x3 x5 w => cf_Orders_ofIrreducible_B17 c (cf_Orders_ofIrreducible_L17 c P n) P x1 x3 x5 w
def cf_Orders_ofIrreducible (c : Nat) (a0 : Int64) (w : Wd) (P : Int64 → Wd → Prop) : Prop :=
  cf_Polys_degree a0 (fun r1 => ∀ v2, v2 = (lshl (1 : Int64) r1) - (1 : Int64) → cf_Orders_findPrimes c v2 w (fun w3 => ∃ n, cf_Orders_ofIrreducible_L17 c P n a0 v2 (0 : Int32) w3))
theorem cf_Orders_ofIrreducible_B48_ok {g : ayG} {d : Nat} (hd : 4 ≤ d) (c : Nat) (hc : ay_sh c = (15, 0)) (w : Wd) (K17 : Int64 → Int64 → Int32 → Wd → Prop) (K48 : Int64 → Int64 → Int32 → Int64 → Int32 → Wd → Prop) (P : Int64 → Wd → Prop) (Q : Option Value → Wd → Prop) (hQ : ∀ x w2, P x w2 → Q (some (.long x)) w2) (hK17 : ∀ (x1 : Int64) (x3 : Int64) (x5 : Int32) (w : Wd), (K17 x1 x3 x5 w → wp g (fun _ => True) y_Orders_ofIrreducible prog_6_method_3_code 9 (some FieldType.long) d 17 [(0, .ref (g.1 + c)), (1, .long x1), (3, .long x3), (5, .int x5)] [] w Q)) (hK48 : ∀ (x1 : Int64) (x3 : Int64) (x5 : Int32) (x6 : Int64) (x8 : Int32) (w : Wd), (K48 x1 x3 x5 x6 x8 w → wp g (fun _ => True) y_Orders_ofIrreducible prog_6_method_3_code 9 (some FieldType.long) d 48 [(0, .ref (g.1 + c)), (1, .long x1), (3, .long x3), (5, .int x5), (6, .long x6), (8, .int x8)] [] w Q)) (x1 : Int64) (x3 : Int64) (x5 : Int32) (x6 : Int64) (x8 : Int32) (h : cf_Orders_ofIrreducible_B48 c K17 K48 P x1 x3 x5 x6 x8 w) : wp g (fun _ => True) y_Orders_ofIrreducible prog_6_method_3_code 9 (some FieldType.long) d 48 [(0, .ref (g.1 + c)), (1, .long x1), (3, .long x3), (5, .int x5), (6, .long x6), (8, .int x8)] [] w Q := by
  unfold cf_Orders_ofIrreducible_B48 at h
  refine am_iload d_Orders_ofIrreducible_48 5 rfl ?_
  refine am_bipush (v := 64) d_Orders_ofIrreducible_50 rfl ?_
  refine am_icmp_ge (tgt := 101) d_Orders_ofIrreducible_52 (by decide) (fun c52 => ?_) (fun c52 => ?_)
  · have h := h.1 c52
    obtain ⟨v5, ev5⟩ : ∃ z : Int32, z = x5 + (1 : Int32) := ⟨_, rfl⟩
    have h := h v5 ev5
    refine am_iinc (v := v5) (l' := [(5, .int v5), (0, .ref (g.1 + c)), (1, .long x1), (3, .long x3), (6, .long x6), (8, .int x8)]) d_Orders_ofIrreducible_101 3 rfl (by rw [ev5]; rfl) (by decide) rfl ?_
    refine am_goto (tgt := 17) d_Orders_ofIrreducible_104 (by decide) ?_
    refine am_sub [1, 2, 3, 0] rfl ?_
    exact hK17 x1 x3 v5 w h
  · have h := h.2 c52
    refine am_lload d_Orders_ofIrreducible_55 4 rfl ?_
    refine am_lconst (v := 1) d_Orders_ofIrreducible_57 rfl ?_
    refine am_lif_le (tgt := 101) d_Orders_ofIrreducible_58 d_Orders_ofIrreducible_59 (by decide) (fun c58 => ?_) (fun c58 => ?_)
    · have h := h.1 c58
      obtain ⟨v6, ev6⟩ : ∃ z : Int32, z = x5 + (1 : Int32) := ⟨_, rfl⟩
      have h := h v6 ev6
      refine am_iinc (v := v6) (l' := [(5, .int v6), (0, .ref (g.1 + c)), (1, .long x1), (3, .long x3), (6, .long x6), (8, .int x8)]) d_Orders_ofIrreducible_101 3 rfl (by rw [ev6]; rfl) (by decide) rfl ?_
      refine am_goto (tgt := 17) d_Orders_ofIrreducible_104 (by decide) ?_
      refine am_sub [1, 2, 3, 0] rfl ?_
      exact hK17 x1 x3 v6 w h
    · have h := h.2 c58
      refine am_lload_n d_Orders_ofIrreducible_62 2 rfl ?_
      refine am_lload d_Orders_ofIrreducible_63 4 rfl ?_
      have hz65 := h.1
      have h := h.2
      refine am_lrem d_Orders_ofIrreducible_65 hz65 ?_
      refine am_lconst (v := 0) d_Orders_ofIrreducible_66 rfl ?_
      refine am_lif_ne (tgt := 101) d_Orders_ofIrreducible_67 d_Orders_ofIrreducible_68 (by decide) (fun c67 => ?_) (fun c67 => ?_)
      · have h := h.1 c67
        obtain ⟨v7, ev7⟩ : ∃ z : Int32, z = x5 + (1 : Int32) := ⟨_, rfl⟩
        have h := h v7 ev7
        refine am_iinc (v := v7) (l' := [(5, .int v7), (0, .ref (g.1 + c)), (1, .long x1), (3, .long x3), (6, .long x6), (8, .int x8)]) d_Orders_ofIrreducible_101 3 rfl (by rw [ev7]; rfl) (by decide) rfl ?_
        refine am_goto (tgt := 17) d_Orders_ofIrreducible_104 (by decide) ?_
        refine am_sub [1, 2, 3, 0] rfl ?_
        exact hK17 x1 x3 v7 w h
      · have h := h.2 c67
        refine am_ldc2 (v := 2) d_Orders_ofIrreducible_71 wd_657 ?_
        refine am_lload_n d_Orders_ofIrreducible_74 2 rfl ?_
        refine am_lload d_Orders_ofIrreducible_75 4 rfl ?_
        have hz77 := h.1
        have h := h.2
        refine am_ldiv d_Orders_ofIrreducible_77 hz77 ?_
        refine am_lload_n d_Orders_ofIrreducible_78 1 rfl ?_
        refine am_callS (d2 := d - 1) [.long (2 : Int64), .long (x3 / x6), .long x1] d_Orders_ofIrreducible_79 mi_Polys_powerBy wd_672 wd_505 (by omega) rfl rfl (Nat.le_of_ble_eq_true rfl) ?_
        refine Call.post ?_ (cf_Polys_powerBy_ok (by omega) (2 : Int64) (x3 / x6) x1  w _ h)
        rintro _ _ ⟨r8, rfl, rfl, h⟩
        show wp g (fun _ => True) y_Orders_ofIrreducible prog_6_method_3_code 9 (some FieldType.long) d 82 [(0, .ref (g.1 + c)), (1, .long x1), (3, .long x3), (5, .int x5), (6, .long x6), (8, .int x8)] [.long r8] w Q
        refine am_lconst (v := 1) d_Orders_ofIrreducible_82 rfl ?_
        refine am_lif_eq (tgt := 90) d_Orders_ofIrreducible_83 d_Orders_ofIrreducible_84 (by decide) (fun c83 => ?_) (fun c83 => ?_)
        · have h := h.1 c83
          refine am_lload_n d_Orders_ofIrreducible_90 2 rfl ?_
          refine am_lload d_Orders_ofIrreducible_91 4 rfl ?_
          have hz93 := h.1
          have h := h.2
          refine am_ldiv d_Orders_ofIrreducible_93 hz93 ?_
          refine am_topl (fun v9 ev9 => ?_)
          have h := h v9 ev9
          refine am_lstore_n (l' := [(3, .long v9), (0, .ref (g.1 + c)), (1, .long x1), (5, .int x5), (6, .long x6), (8, .int x8)]) d_Orders_ofIrreducible_94 (by decide) rfl ?_
          obtain ⟨v10, ev10⟩ : ∃ z : Int32, z = x8 + (1 : Int32) := ⟨_, rfl⟩
          have h := h v10 ev10
          refine am_iinc (v := v10) (l' := [(8, .int v10), (3, .long v9), (0, .ref (g.1 + c)), (1, .long x1), (5, .int x5), (6, .long x6)]) d_Orders_ofIrreducible_95 5 rfl (by rw [ev10]; rfl) (by decide) rfl ?_
          refine am_goto (tgt := 48) d_Orders_ofIrreducible_98 (by decide) ?_
          refine am_sub [2, 3, 1, 4, 5, 0] rfl ?_
          exact hK48 x1 v9 x5 x6 v10 w h
        · have h := h.2 c83
          refine am_goto (tgt := 101) d_Orders_ofIrreducible_87 (by decide) ?_
          obtain ⟨v11, ev11⟩ : ∃ z : Int32, z = x5 + (1 : Int32) := ⟨_, rfl⟩
          have h := h v11 ev11
          refine am_iinc (v := v11) (l' := [(5, .int v11), (0, .ref (g.1 + c)), (1, .long x1), (3, .long x3), (6, .long x6), (8, .int x8)]) d_Orders_ofIrreducible_101 3 rfl (by rw [ev11]; rfl) (by decide) rfl ?_
          refine am_goto (tgt := 17) d_Orders_ofIrreducible_104 (by decide) ?_
          refine am_sub [1, 2, 3, 0] rfl ?_
          exact hK17 x1 x3 v11 w h
theorem cf_Orders_ofIrreducible_L48_ok {g : ayG} {d : Nat} (hd : 4 ≤ d) (c : Nat) (hc : ay_sh c = (15, 0)) (K17 : Int64 → Int64 → Int32 → Wd → Prop) (P : Int64 → Wd → Prop) (Q : Option Value → Wd → Prop) (hQ : ∀ x w2, P x w2 → Q (some (.long x)) w2) (hK17 : ∀ (x1 : Int64) (x3 : Int64) (x5 : Int32) (w : Wd), (K17 x1 x3 x5 w → wp g (fun _ => True) y_Orders_ofIrreducible prog_6_method_3_code 9 (some FieldType.long) d 17 [(0, .ref (g.1 + c)), (1, .long x1), (3, .long x3), (5, .int x5)] [] w Q)) : ∀ (n : Nat) (x1 : Int64) (x3 : Int64) (x5 : Int32) (x6 : Int64) (x8 : Int32) (w : Wd) (h : cf_Orders_ofIrreducible_L48 c K17 P n x1 x3 x5 x6 x8 w), wp g (fun _ => True) y_Orders_ofIrreducible prog_6_method_3_code 9 (some FieldType.long) d 48 [(0, .ref (g.1 + c)), (1, .long x1), (3, .long x3), (5, .int x5), (6, .long x6), (8, .int x8)] [] w Q
  | 0, x1, x3, x5, x6, x8, w, h => False.elim h
  | n + 1, x1, x3, x5, x6, x8, w, h => cf_Orders_ofIrreducible_B48_ok hd c hc w K17 (cf_Orders_ofIrreducible_L48 c K17 P n) P Q hQ hK17 (fun x1 x3 x5 x6 x8 w h => cf_Orders_ofIrreducible_L48_ok hd c hc K17 P Q hQ hK17 n x1 x3 x5 x6 x8 w h) x1 x3 x5 x6 x8 h
theorem cf_Orders_ofIrreducible_B17_ok {g : ayG} {d : Nat} (hd : 4 ≤ d) (c : Nat) (hc : ay_sh c = (15, 0)) (w : Wd) (K17 : Int64 → Int64 → Int32 → Wd → Prop) (P : Int64 → Wd → Prop) (Q : Option Value → Wd → Prop) (hQ : ∀ x w2, P x w2 → Q (some (.long x)) w2) (hK17 : ∀ (x1 : Int64) (x3 : Int64) (x5 : Int32) (w : Wd), (K17 x1 x3 x5 w → wp g (fun _ => True) y_Orders_ofIrreducible prog_6_method_3_code 9 (some FieldType.long) d 17 [(0, .ref (g.1 + c)), (1, .long x1), (3, .long x3), (5, .int x5)] [] w Q)) (x1 : Int64) (x3 : Int64) (x5 : Int32) (h : cf_Orders_ofIrreducible_B17 c K17 P x1 x3 x5 w) : wp g (fun _ => True) y_Orders_ofIrreducible prog_6_method_3_code 9 (some FieldType.long) d 17 [(0, .ref (g.1 + c)), (1, .long x1), (3, .long x3), (5, .int x5)] [] w Q := by
  unfold cf_Orders_ofIrreducible_B17 at h
  refine am_iload d_Orders_ofIrreducible_17 3 rfl ?_
  refine am_aload_n d_Orders_ofIrreducible_19 0 rfl ?_
  refine am_getf (T := F_Orders) (fs := ob_Orders g w c) (C := R_Orders) (N := 2) (ci := 5) 1 d_Orders_ofIrreducible_20 wd_131 rfl (ay_shlt hc (by decide)) (el_Orders hc) rfl i_Orders (by decide) rfl ?_
  refine am_icmp_ge (tgt := 107) d_Orders_ofIrreducible_23 (by decide) (fun c23 => ?_) (fun c23 => ?_)
  · have h := h.1 c23
    refine am_lload_n d_Orders_ofIrreducible_107 2 rfl ?_
    exact am_lreturn d_Orders_ofIrreducible_108 rfl (hQ x3 w h)
  · have h := h.2 c23
    refine am_iload d_Orders_ofIrreducible_26 3 rfl ?_
    refine am_aload_n d_Orders_ofIrreducible_28 0 rfl ?_
    refine am_getf (T := F_Orders) (fs := ob_Orders g w c) (C := R_Orders) (N := 2) (ci := 5) 0 d_Orders_ofIrreducible_29 wd_130 rfl (ay_shlt hc (by decide)) (el_Orders hc) rfl i_Orders (by decide) rfl ?_
    refine am_alen (v := 16) d_Orders_ofIrreducible_32 (sh_O1 hc) (by decide) rfl ?_
    refine am_icmp_ge (tgt := 107) d_Orders_ofIrreducible_33 (by decide) (fun c33 => ?_) (fun c33 => ?_)
    · have h := h.1 c33
      refine am_lload_n d_Orders_ofIrreducible_107 2 rfl ?_
      exact am_lreturn d_Orders_ofIrreducible_108 rfl (hQ x3 w h)
    · have h := h.2 c33
      refine am_aload_n d_Orders_ofIrreducible_36 0 rfl ?_
      refine am_getf (T := F_Orders) (fs := ob_Orders g w c) (C := R_Orders) (N := 2) (ci := 5) 0 d_Orders_ofIrreducible_37 wd_130 rfl (ay_shlt hc (by decide)) (el_Orders hc) rfl i_Orders (by decide) rfl ?_
      refine am_iload d_Orders_ofIrreducible_40 3 rfl ?_
      have hi42 := h.1
      have h := h.2
      refine am_laload d_Orders_ofIrreducible_42 (sh_O1 hc) hi42 ?_
      refine am_topl (fun v4 ev4 => ?_)
      have h := h v4 ev4
      refine am_lstore (l' := [(6, .long v4), (0, .ref (g.1 + c)), (1, .long x1), (3, .long x3), (5, .int x5)]) d_Orders_ofIrreducible_43 (by decide) rfl ?_
      refine am_iconst (v := 0) d_Orders_ofIrreducible_45 rfl ?_
      refine am_istore (l' := [(8, .int (0 : Int32)), (6, .long v4), (0, .ref (g.1 + c)), (1, .long x1), (3, .long x3), (5, .int x5)]) d_Orders_ofIrreducible_46 (by decide) rfl ?_
      refine am_sub [2, 3, 4, 5, 1, 0] rfl ?_
      obtain ⟨n, h⟩ := h
      exact cf_Orders_ofIrreducible_L48_ok (by omega) c hc K17 P Q hQ hK17 n x1 x3 x5 v4 (0 : Int32) w h
theorem cf_Orders_ofIrreducible_L17_ok {g : ayG} {d : Nat} (hd : 4 ≤ d) (c : Nat) (hc : ay_sh c = (15, 0))  (P : Int64 → Wd → Prop) (Q : Option Value → Wd → Prop) (hQ : ∀ x w2, P x w2 → Q (some (.long x)) w2)  : ∀ (n : Nat) (x1 : Int64) (x3 : Int64) (x5 : Int32) (w : Wd) (h : cf_Orders_ofIrreducible_L17 c P n x1 x3 x5 w), wp g (fun _ => True) y_Orders_ofIrreducible prog_6_method_3_code 9 (some FieldType.long) d 17 [(0, .ref (g.1 + c)), (1, .long x1), (3, .long x3), (5, .int x5)] [] w Q
  | 0, x1, x3, x5, w, h => False.elim h
  | n + 1, x1, x3, x5, w, h => cf_Orders_ofIrreducible_B17_ok hd c hc w (cf_Orders_ofIrreducible_L17 c P n) P Q hQ (fun x1 x3 x5 w h => cf_Orders_ofIrreducible_L17_ok hd c hc  P Q hQ  n x1 x3 x5 w h) x1 x3 x5 h
theorem cf_Orders_ofIrreducible_ok {g : ayG} {d : Nat} (hd : 4 ≤ d) (c : Nat) (a0 : Int64) (hc : ay_sh c = (15, 0)) (w : Wd) (P : Int64 → Wd → Prop) (h : cf_Orders_ofIrreducible c a0 w P) : Call g y_Orders_ofIrreducible prog_6_method_3_code 9 (some FieldType.long) d [.ref (g.1 + c), .long a0] w (fun (r : Option Value) (w2 : Wd) => ∃ x, r = some (.long x) ∧ P x w2) := by
  unfold cf_Orders_ofIrreducible at h
  refine am_enter mi_Orders_ofIrreducible (Nat.le_of_ble_eq_true rfl) ?_
  have hQ : ∀ x w2, P x w2 → (fun (r : Option Value) (w2 : Wd) => ∃ x, r = some (.long x) ∧ P x w2) (some (.long x)) w2 := fun x w2 h => ⟨x, rfl, h⟩
  generalize (fun (r : Option Value) (w2 : Wd) => ∃ x, r = some (.long x) ∧ P x w2) = Q at hQ ⊢
  show wp g (fun _ => True) y_Orders_ofIrreducible prog_6_method_3_code 9 (some FieldType.long) d 0 [(0, .ref (g.1 + c)), (1, .long a0)] [] w Q
  refine am_lconst (v := 1) d_Orders_ofIrreducible_0 rfl ?_
  refine am_lload_n d_Orders_ofIrreducible_1 1 rfl ?_
  refine am_callS (d2 := d - 1) [.long a0] d_Orders_ofIrreducible_2 mi_Polys_degree wd_662 wd_391 (by omega) rfl rfl (Nat.le_of_ble_eq_true rfl) ?_
  refine Call.post ?_ (cf_Polys_degree_ok (by omega) a0  w _ h)
  rintro _ _ ⟨r1, rfl, rfl, h⟩
  show wp g (fun _ => True) y_Orders_ofIrreducible prog_6_method_3_code 9 (some FieldType.long) d 5 [(0, .ref (g.1 + c)), (1, .long a0)] [.int r1, .long (1 : Int64)] w Q
  refine am_lshl d_Orders_ofIrreducible_5 ?_
  refine am_lconst (v := 1) d_Orders_ofIrreducible_6 rfl ?_
  refine am_lsub d_Orders_ofIrreducible_7 ?_
  refine am_topl (fun v2 ev2 => ?_)
  have h := h v2 ev2
  refine am_lstore_n (l' := [(3, .long v2), (0, .ref (g.1 + c)), (1, .long a0)]) d_Orders_ofIrreducible_8 (by decide) rfl ?_
  refine am_aload_n d_Orders_ofIrreducible_9 1 rfl ?_
  refine am_lload_n d_Orders_ofIrreducible_10 0 rfl ?_
  refine am_callV (C := y_Orders_findPrimes.cls) (d2 := d - 1) [.long v2] d_Orders_ofIrreducible_11 mi_Orders_findPrimes wd_663 wd_665 ws_Orders_findPrimes (ay_shlt hc (by decide)) (el_Orders hc) rfl rfl (by omega) rfl rfl (Nat.le_of_ble_eq_true rfl) ?_
  refine Call.post ?_ (cf_Orders_findPrimes_ok (by omega) c v2 hc w _ h)
  rintro _ w3 ⟨rfl, h⟩
  show wp g (fun _ => True) y_Orders_ofIrreducible prog_6_method_3_code 9 (some FieldType.long) d 14 [(3, .long v2), (0, .ref (g.1 + c)), (1, .long a0)] [] w3 Q
  refine am_iconst (v := 0) d_Orders_ofIrreducible_14 rfl ?_
  refine am_istore (l' := [(5, .int (0 : Int32)), (3, .long v2), (0, .ref (g.1 + c)), (1, .long a0)]) d_Orders_ofIrreducible_15 (by decide) rfl ?_
  refine am_sub [2, 3, 1, 0] rfl ?_
  obtain ⟨n, h⟩ := h
  exact cf_Orders_ofIrreducible_L17_ok (by omega) c hc  P Q hQ  n a0 v2 (0 : Int32) w3 h
theorem d_Orders_isSought_0 : decode prog_6_method_2_code 0 = .ok (.lload_n 1, 1) := by decide +kernel
theorem d_Orders_isSought_1 : decode prog_6_method_2_code 1 = .ok (.invokestatic 13, 3) := by decide +kernel
theorem d_Orders_isSought_4 : decode prog_6_method_2_code 4 = .ok (.ifCond .ne 5, 3) := by decide +kernel
theorem d_Orders_isSought_7 : decode prog_6_method_2_code 7 = .ok (.iconst 0, 1) := by decide +kernel
theorem d_Orders_isSought_8 : decode prog_6_method_2_code 8 = .ok (.ireturn, 1) := by decide +kernel
theorem d_Orders_isSought_9 : decode prog_6_method_2_code 9 = .ok (.iload_n 3, 1) := by decide +kernel
theorem d_Orders_isSought_10 : decode prog_6_method_2_code 10 = .ok (.ifCond .eq 28, 3) := by decide +kernel
theorem d_Orders_isSought_13 : decode prog_6_method_2_code 13 = .ok (.lload_n 1, 1) := by decide +kernel
theorem d_Orders_isSought_14 : decode prog_6_method_2_code 14 = .ok (.ldc2_w 19, 3) := by decide +kernel
theorem d_Orders_isSought_17 : decode prog_6_method_2_code 17 = .ok (.lcmp, 1) := by decide +kernel
theorem d_Orders_isSought_18 : decode prog_6_method_2_code 18 = .ok (.ifCond .eq 24, 3) := by decide +kernel
theorem d_Orders_isSought_21 : decode prog_6_method_2_code 21 = .ok (.aload_n 0, 1) := by decide +kernel
theorem d_Orders_isSought_22 : decode prog_6_method_2_code 22 = .ok (.lload_n 1, 1) := by decide +kernel
theorem d_Orders_isSought_23 : decode prog_6_method_2_code 23 = .ok (.invokevirtual 21, 3) := by decide +kernel
theorem d_Orders_isSought_26 : decode prog_6_method_2_code 26 = .ok (.lconst 1, 1) := by decide +kernel
theorem d_Orders_isSought_27 : decode prog_6_method_2_code 27 = .ok (.lload_n 1, 1) := by decide +kernel
theorem d_Orders_isSought_28 : decode prog_6_method_2_code 28 = .ok (.invokestatic 25, 3) := by decide +kernel
theorem d_Orders_isSought_31 : decode prog_6_method_2_code 31 = .ok (.lshl, 1) := by decide +kernel
theorem d_Orders_isSought_32 : decode prog_6_method_2_code 32 = .ok (.lconst 1, 1) := by decide +kernel
theorem d_Orders_isSought_33 : decode prog_6_method_2_code 33 = .ok (.lsub, 1) := by decide +kernel
theorem d_Orders_isSought_34 : decode prog_6_method_2_code 34 = .ok (.lcmp, 1) := by decide +kernel
theorem d_Orders_isSought_35 : decode prog_6_method_2_code 35 = .ok (.ifCond .ne 7, 3) := by decide +kernel
theorem d_Orders_isSought_38 : decode prog_6_method_2_code 38 = .ok (.iconst 1, 1) := by decide +kernel
theorem d_Orders_isSought_39 : decode prog_6_method_2_code 39 = .ok (.goto 4, 3) := by decide +kernel
theorem d_Orders_isSought_42 : decode prog_6_method_2_code 42 = .ok (.iconst 0, 1) := by decide +kernel
theorem d_Orders_isSought_43 : decode prog_6_method_2_code 43 = .ok (.ireturn, 1) := by decide +kernel
def cf_Orders_isSought (c : Nat) (a0 : Int64) (a1 : Int32) (w : Wd) (P : Int32 → Wd → Prop) : Prop :=
  cf_Polys_isIrreducible a0 (fun r1 => ((¬ r1 = 0 → ((a1 = 0 → P (1 : Int32) w) ∧ (¬ a1 = 0 → ((a0 = (2 : Int64) → P (0 : Int32) w) ∧ (¬ a0 = (2 : Int64) → cf_Orders_ofIrreducible c a0 w (fun r2 w3 => cf_Polys_degree a0 (fun r4 => ((¬ r2 = ((lshl (1 : Int64) r4) - (1 : Int64)) → P (0 : Int32) w3) ∧ (r2 = ((lshl (1 : Int64) r4) - (1 : Int64)) → P (1 : Int32) w3))))))))) ∧ (r1 = 0 → P (0 : Int32) w)))
theorem cf_Orders_isSought_ok {g : ayG} {d : Nat} (hd : 5 ≤ d) (c : Nat) (a0 : Int64) (a1 : Int32) (hc : ay_sh c = (15, 0)) (w : Wd) (P : Int32 → Wd → Prop) (h : cf_Orders_isSought c a0 a1 w P) : Call g y_Orders_isSought prog_6_method_2_code 4 (some FieldType.boolean) d [.ref (g.1 + c), .long a0, .int a1] w (fun (r : Option Value) (w2 : Wd) => ∃ x, r = some (.int x) ∧ P x w2) := by
  unfold cf_Orders_isSought at h
  refine am_enter mi_Orders_isSought (Nat.le_of_ble_eq_true rfl) ?_
  have hQ : ∀ x w2, P x w2 → (fun (r : Option Value) (w2 : Wd) => ∃ x, r = some (.int x) ∧ P x w2) (some (.int x)) w2 := fun x w2 h => ⟨x, rfl, h⟩
  generalize (fun (r : Option Value) (w2 : Wd) => ∃ x, r = some (.int x) ∧ P x w2) = Q at hQ ⊢
  show wp g (fun _ => True) y_Orders_isSought prog_6_method_2_code 4 (some FieldType.boolean) d 0 [(0, .ref (g.1 + c)), (1, .long a0), (3, .int a1)] [] w Q
  refine am_lload_n d_Orders_isSought_0 1 rfl ?_
  refine am_callS (d2 := d - 1) [.long a0] d_Orders_isSought_1 mi_Polys_isIrreducible wd_656 wd_644 (by omega) rfl rfl (Nat.le_of_ble_eq_true rfl) ?_
  refine Call.post ?_ (cf_Polys_isIrreducible_ok (by omega) a0  w _ h)
  rintro _ _ ⟨r1, rfl, rfl, h⟩
  show wp g (fun _ => True) y_Orders_isSought prog_6_method_2_code 4 (some FieldType.boolean) d 4 [(0, .ref (g.1 + c)), (1, .long a0), (3, .int a1)] [.int r1] w Q
  refine am_if_ne (tgt := 9) d_Orders_isSought_4 (by decide) (fun c4 => ?_) (fun c4 => ?_)
  · have h := h.1 c4
    refine am_iload_n d_Orders_isSought_9 2 rfl ?_
    refine am_if_eq (tgt := 38) d_Orders_isSought_10 (by decide) (fun c10 => ?_) (fun c10 => ?_)
    · have h := h.1 c10
      refine am_iconst (v := 1) d_Orders_isSought_38 rfl ?_
      refine am_goto (tgt := 43) d_Orders_isSought_39 (by decide) ?_
      exact am_ireturn d_Orders_isSought_43 rfl rfl (hQ (1 : Int32) w h)
    · have h := h.2 c10
      refine am_lload_n d_Orders_isSought_13 1 rfl ?_
      refine am_ldc2 (v := 2) d_Orders_isSought_14 wd_657 ?_
      refine am_lif_eq (tgt := 42) d_Orders_isSought_17 d_Orders_isSought_18 (by decide) (fun c17 => ?_) (fun c17 => ?_)
      · have h := h.1 c17
        refine am_iconst (v := 0) d_Orders_isSought_42 rfl ?_
        exact am_ireturn d_Orders_isSought_43 rfl rfl (hQ (0 : Int32) w h)
      · have h := h.2 c17
        refine am_aload_n d_Orders_isSought_21 0 rfl ?_
        refine am_lload_n d_Orders_isSought_22 1 rfl ?_
        refine am_callV (C := "TriSplits$Orders") (d2 := d - 1) [.long a0] d_Orders_isSought_23 mi_Orders_ofIrreducible wd_658 wd_659 wd_660 (ay_shlt hc (by decide)) (el_Orders hc) rfl rfl (by omega) rfl rfl (Nat.le_of_ble_eq_true rfl) ?_
        refine Call.post ?_ (cf_Orders_ofIrreducible_ok (by omega) c a0 hc w _ h)
        rintro _ w3 ⟨r2, rfl, h⟩
        show wp g (fun _ => True) y_Orders_isSought prog_6_method_2_code 4 (some FieldType.boolean) d 26 [(0, .ref (g.1 + c)), (1, .long a0), (3, .int a1)] [.long r2] w3 Q
        refine am_lconst (v := 1) d_Orders_isSought_26 rfl ?_
        refine am_lload_n d_Orders_isSought_27 1 rfl ?_
        refine am_callS (d2 := d - 1) [.long a0] d_Orders_isSought_28 mi_Polys_degree wd_662 wd_391 (by omega) rfl rfl (Nat.le_of_ble_eq_true rfl) ?_
        refine Call.post ?_ (cf_Polys_degree_ok (by omega) a0  w3 _ h)
        rintro _ _ ⟨r4, rfl, rfl, h⟩
        show wp g (fun _ => True) y_Orders_isSought prog_6_method_2_code 4 (some FieldType.boolean) d 31 [(0, .ref (g.1 + c)), (1, .long a0), (3, .int a1)] [.int r4, .long (1 : Int64), .long r2] w3 Q
        refine am_lshl d_Orders_isSought_31 ?_
        refine am_lconst (v := 1) d_Orders_isSought_32 rfl ?_
        refine am_lsub d_Orders_isSought_33 ?_
        refine am_lif_ne (tgt := 42) d_Orders_isSought_34 d_Orders_isSought_35 (by decide) (fun c34 => ?_) (fun c34 => ?_)
        · have h := h.1 c34
          refine am_iconst (v := 0) d_Orders_isSought_42 rfl ?_
          exact am_ireturn d_Orders_isSought_43 rfl rfl (hQ (0 : Int32) w3 h)
        · have h := h.2 c34
          refine am_iconst (v := 1) d_Orders_isSought_38 rfl ?_
          refine am_goto (tgt := 43) d_Orders_isSought_39 (by decide) ?_
          exact am_ireturn d_Orders_isSought_43 rfl rfl (hQ (1 : Int32) w3 h)
  · have h := h.2 c4
    refine am_iconst (v := 0) d_Orders_isSought_7 rfl ?_
    exact am_ireturn d_Orders_isSought_8 rfl rfl (hQ (0 : Int32) w h)
theorem d_Orders_leastMultiple_0 : decode prog_6_method_10_code 0 = .ok (.lload_n 0, 1) := by decide +kernel
theorem d_Orders_leastMultiple_1 : decode prog_6_method_10_code 1 = .ok (.lstore 4, 2) := by decide +kernel
theorem d_Orders_leastMultiple_3 : decode prog_6_method_10_code 3 = .ok (.lload_n 2, 1) := by decide +kernel
theorem d_Orders_leastMultiple_4 : decode prog_6_method_10_code 4 = .ok (.lstore 6, 2) := by decide +kernel
theorem d_Orders_leastMultiple_6 : decode prog_6_method_10_code 6 = .ok (.iconst 0, 1) := by decide +kernel
theorem d_Orders_leastMultiple_7 : decode prog_6_method_10_code 7 = .ok (.istore 8, 2) := by decide +kernel
theorem d_Orders_leastMultiple_9 : decode prog_6_method_10_code 9 = .ok (.iload 8, 2) := by decide +kernel
theorem d_Orders_leastMultiple_11 : decode prog_6_method_10_code 11 = .ok (.bipush 100, 2) := by decide +kernel
theorem d_Orders_leastMultiple_13 : decode prog_6_method_10_code 13 = .ok (.if_icmp .ge 31, 3) := by decide +kernel
theorem d_Orders_leastMultiple_16 : decode prog_6_method_10_code 16 = .ok (.lload 6, 2) := by decide +kernel
theorem d_Orders_leastMultiple_18 : decode prog_6_method_10_code 18 = .ok (.lconst 0, 1) := by decide +kernel
theorem d_Orders_leastMultiple_19 : decode prog_6_method_10_code 19 = .ok (.lcmp, 1) := by decide +kernel
theorem d_Orders_leastMultiple_20 : decode prog_6_method_10_code 20 = .ok (.ifCond .eq 24, 3) := by decide +kernel
theorem d_Orders_leastMultiple_23 : decode prog_6_method_10_code 23 = .ok (.lload 4, 2) := by decide +kernel
theorem d_Orders_leastMultiple_25 : decode prog_6_method_10_code 25 = .ok (.lload 6, 2) := by decide +kernel
theorem d_Orders_leastMultiple_27 : decode prog_6_method_10_code 27 = .ok (.lrem, 1) := by decide +kernel
theorem d_Orders_leastMultiple_28 : decode prog_6_method_10_code 28 = .ok (.lstore 9, 2) := by decide +kernel
theorem d_Orders_leastMultiple_30 : decode prog_6_method_10_code 30 = .ok (.lload 6, 2) := by decide +kernel
theorem d_Orders_leastMultiple_32 : decode prog_6_method_10_code 32 = .ok (.lstore 4, 2) := by decide +kernel
theorem d_Orders_leastMultiple_34 : decode prog_6_method_10_code 34 = .ok (.lload 9, 2) := by decide +kernel
theorem d_Orders_leastMultiple_36 : decode prog_6_method_10_code 36 = .ok (.lstore 6, 2) := by decide +kernel
theorem d_Orders_leastMultiple_38 : decode prog_6_method_10_code 38 = .ok (.iinc 8 1, 3) := by decide +kernel
theorem d_Orders_leastMultiple_41 : decode prog_6_method_10_code 41 = .ok (.goto (-32), 3) := by decide +kernel
theorem d_Orders_leastMultiple_44 : decode prog_6_method_10_code 44 = .ok (.lload 4, 2) := by decide +kernel
theorem d_Orders_leastMultiple_46 : decode prog_6_method_10_code 46 = .ok (.lconst 0, 1) := by decide +kernel
theorem d_Orders_leastMultiple_47 : decode prog_6_method_10_code 47 = .ok (.lcmp, 1) := by decide +kernel
theorem d_Orders_leastMultiple_48 : decode prog_6_method_10_code 48 = .ok (.ifCond .ne 7, 3) := by decide +kernel
theorem d_Orders_leastMultiple_51 : decode prog_6_method_10_code 51 = .ok (.lconst 0, 1) := by decide +kernel
theorem d_Orders_leastMultiple_52 : decode prog_6_method_10_code 52 = .ok (.goto 9, 3) := by decide +kernel
theorem d_Orders_leastMultiple_55 : decode prog_6_method_10_code 55 = .ok (.lload_n 0, 1) := by decide +kernel
theorem d_Orders_leastMultiple_56 : decode prog_6_method_10_code 56 = .ok (.lload 4, 2) := by decide +kernel
theorem d_Orders_leastMultiple_58 : decode prog_6_method_10_code 58 = .ok (.ldiv, 1) := by decide +kernel
theorem d_Orders_leastMultiple_59 : decode prog_6_method_10_code 59 = .ok (.lload_n 2, 1) := by decide +kernel
theorem d_Orders_leastMultiple_60 : decode prog_6_method_10_code 60 = .ok (.lmul, 1) := by decide +kernel
theorem d_Orders_leastMultiple_61 : decode prog_6_method_10_code 61 = .ok (.lreturn, 1) := by decide +kernel
def cf_Orders_leastMultiple_B9  (K9 : Int64 → Int64 → Int64 → Int64 → Int32 → Prop) (P : Int64 → Prop) (x0 : Int64) (x2 : Int64) (x4 : Int64) (x6 : Int64) (x8 : Int32)  : Prop :=
  (((100 : Int32) ≤ x8 → ((¬ x4 = (0 : Int64) → ¬ x4 = 0 ∧ P ((x0 / x4) * x2)) ∧ (x4 = (0 : Int64) → P (0 : Int64)))) ∧ (¬ (100 : Int32) ≤ x8 → ((x6 = (0 : Int64) → ((¬ x4 = (0 : Int64) → ¬ x4 = 0 ∧ P ((x0 / x4) * x2)) ∧ (x4 = (0 : Int64) → P (0 : Int64)))) ∧ (¬ x6 = (0 : Int64) → ¬ x6 = 0 ∧ ∀ v1, v1 = lrem x4 x6 → ∀ v2, v2 = x8 + (1 : Int32) → K9 x0 x2 x6 v1 v2))))
def cf_Orders_leastMultiple_L9   (P : Int64 → Prop) : Nat → Int64 → Int64 → Int64 → Int64 → Int32 → Prop
  | 0 => fun x0 x2 x4 x6 x8 => False
  | n + 1 => fun x0 x2 x4 x6 x8 => cf_Orders_leastMultiple_B9 (cf_Orders_leastMultiple_L9 P n) P x0 x2 x4 x6 x8
def cf_Orders_leastMultiple (a0 : Int64) (a1 : Int64) (P : Int64 → Prop) : Prop :=
  ∃ n, cf_Orders_leastMultiple_L9 P n a0 a1 a0 a1 (0 : Int32)
theorem cf_Orders_leastMultiple_B9_ok {g : ayG} {d : Nat} (hd : 0 ≤ d)   (w : Wd) (K9 : Int64 → Int64 → Int64 → Int64 → Int32 → Prop) (P : Int64 → Prop) (Q : Option Value → Wd → Prop) (hQ : ∀ x, P x → Q (some (.long x)) w) (hK9 : ∀ (x0 : Int64) (x2 : Int64) (x4 : Int64) (x6 : Int64) (x8 : Int32), (K9 x0 x2 x4 x6 x8 → wp g (fun _ => True) y_Orders_leastMultiple prog_6_method_10_code 11 (some FieldType.long) d 9 [(0, .long x0), (2, .long x2), (4, .long x4), (6, .long x6), (8, .int x8)] [] w Q)) (x0 : Int64) (x2 : Int64) (x4 : Int64) (x6 : Int64) (x8 : Int32) (h : cf_Orders_leastMultiple_B9 K9 P x0 x2 x4 x6 x8) : wp g (fun _ => True) y_Orders_leastMultiple prog_6_method_10_code 11 (some FieldType.long) d 9 [(0, .long x0), (2, .long x2), (4, .long x4), (6, .long x6), (8, .int x8)] [] w Q := by
  unfold cf_Orders_leastMultiple_B9 at h
  refine am_iload d_Orders_leastMultiple_9 4 rfl ?_
  refine am_bipush (v := 100) d_Orders_leastMultiple_11 rfl ?_
  refine am_icmp_ge (tgt := 44) d_Orders_leastMultiple_13 (by decide) (fun c13 => ?_) (fun c13 => ?_)
  · have h := h.1 c13
    refine am_lload d_Orders_leastMultiple_44 2 rfl ?_
    refine am_lconst (v := 0) d_Orders_leastMultiple_46 rfl ?_
    refine am_lif_ne (tgt := 55) d_Orders_leastMultiple_47 d_Orders_leastMultiple_48 (by decide) (fun c47 => ?_) (fun c47 => ?_)
    · have h := h.1 c47
      refine am_lload_n d_Orders_leastMultiple_55 0 rfl ?_
      refine am_lload d_Orders_leastMultiple_56 2 rfl ?_
      have hz58 := h.1
      have h := h.2
      refine am_ldiv d_Orders_leastMultiple_58 hz58 ?_
      refine am_lload_n d_Orders_leastMultiple_59 1 rfl ?_
      refine am_lmul d_Orders_leastMultiple_60 ?_
      exact am_lreturn d_Orders_leastMultiple_61 rfl (hQ ((x0 / x4) * x2) h)
    · have h := h.2 c47
      refine am_lconst (v := 0) d_Orders_leastMultiple_51 rfl ?_
      refine am_goto (tgt := 61) d_Orders_leastMultiple_52 (by decide) ?_
      exact am_lreturn d_Orders_leastMultiple_61 rfl (hQ (0 : Int64) h)
  · have h := h.2 c13
    refine am_lload d_Orders_leastMultiple_16 3 rfl ?_
    refine am_lconst (v := 0) d_Orders_leastMultiple_18 rfl ?_
    refine am_lif_eq (tgt := 44) d_Orders_leastMultiple_19 d_Orders_leastMultiple_20 (by decide) (fun c19 => ?_) (fun c19 => ?_)
    · have h := h.1 c19
      refine am_lload d_Orders_leastMultiple_44 2 rfl ?_
      refine am_lconst (v := 0) d_Orders_leastMultiple_46 rfl ?_
      refine am_lif_ne (tgt := 55) d_Orders_leastMultiple_47 d_Orders_leastMultiple_48 (by decide) (fun c47 => ?_) (fun c47 => ?_)
      · have h := h.1 c47
        refine am_lload_n d_Orders_leastMultiple_55 0 rfl ?_
        refine am_lload d_Orders_leastMultiple_56 2 rfl ?_
        have hz58 := h.1
        have h := h.2
        refine am_ldiv d_Orders_leastMultiple_58 hz58 ?_
        refine am_lload_n d_Orders_leastMultiple_59 1 rfl ?_
        refine am_lmul d_Orders_leastMultiple_60 ?_
        exact am_lreturn d_Orders_leastMultiple_61 rfl (hQ ((x0 / x4) * x2) h)
      · have h := h.2 c47
        refine am_lconst (v := 0) d_Orders_leastMultiple_51 rfl ?_
        refine am_goto (tgt := 61) d_Orders_leastMultiple_52 (by decide) ?_
        exact am_lreturn d_Orders_leastMultiple_61 rfl (hQ (0 : Int64) h)
    · have h := h.2 c19
      refine am_lload d_Orders_leastMultiple_23 2 rfl ?_
      refine am_lload d_Orders_leastMultiple_25 3 rfl ?_
      have hz27 := h.1
      have h := h.2
      refine am_lrem d_Orders_leastMultiple_27 hz27 ?_
      refine am_topl (fun v1 ev1 => ?_)
      have h := h v1 ev1
      refine am_lstore (l' := [(9, .long v1), (0, .long x0), (2, .long x2), (4, .long x4), (6, .long x6), (8, .int x8)]) d_Orders_leastMultiple_28 (by decide) rfl ?_
      refine am_lload d_Orders_leastMultiple_30 4 rfl ?_
      refine am_lstore (l' := [(4, .long x6), (9, .long v1), (0, .long x0), (2, .long x2), (6, .long x6), (8, .int x8)]) d_Orders_leastMultiple_32 (by decide) rfl ?_
      refine am_lload d_Orders_leastMultiple_34 1 rfl ?_
      refine am_lstore (l' := [(6, .long v1), (4, .long x6), (9, .long v1), (0, .long x0), (2, .long x2), (8, .int x8)]) d_Orders_leastMultiple_36 (by decide) rfl ?_
      obtain ⟨v2, ev2⟩ : ∃ z : Int32, z = x8 + (1 : Int32) := ⟨_, rfl⟩
      have h := h v2 ev2
      refine am_iinc (v := v2) (l' := [(8, .int v2), (6, .long v1), (4, .long x6), (9, .long v1), (0, .long x0), (2, .long x2)]) d_Orders_leastMultiple_38 5 rfl (by rw [ev2]; rfl) (by decide) rfl ?_
      refine am_goto (tgt := 9) d_Orders_leastMultiple_41 (by decide) ?_
      refine am_sub [4, 5, 2, 1, 0] rfl ?_
      exact hK9 x0 x2 x6 v1 v2 h
theorem cf_Orders_leastMultiple_L9_ok {g : ayG} {d : Nat} (hd : 0 ≤ d)   (w : Wd)  (P : Int64 → Prop) (Q : Option Value → Wd → Prop) (hQ : ∀ x, P x → Q (some (.long x)) w)  : ∀ (n : Nat) (x0 : Int64) (x2 : Int64) (x4 : Int64) (x6 : Int64) (x8 : Int32) (h : cf_Orders_leastMultiple_L9 P n x0 x2 x4 x6 x8), wp g (fun _ => True) y_Orders_leastMultiple prog_6_method_10_code 11 (some FieldType.long) d 9 [(0, .long x0), (2, .long x2), (4, .long x4), (6, .long x6), (8, .int x8)] [] w Q
  | 0, x0, x2, x4, x6, x8, h => False.elim h
  | n + 1, x0, x2, x4, x6, x8, h => cf_Orders_leastMultiple_B9_ok hd   w (cf_Orders_leastMultiple_L9 P n) P Q hQ (fun x0 x2 x4 x6 x8 h => cf_Orders_leastMultiple_L9_ok hd   w  P Q hQ  n x0 x2 x4 x6 x8 h) x0 x2 x4 x6 x8 h
theorem cf_Orders_leastMultiple_ok {g : ayG} {d : Nat} (hd : 0 ≤ d) (a0 : Int64) (a1 : Int64)  (w : Wd) (P : Int64 → Prop) (h : cf_Orders_leastMultiple a0 a1 P) : Call g y_Orders_leastMultiple prog_6_method_10_code 11 (some FieldType.long) d [.long a0, .long a1] w (fun (r : Option Value) (w2 : Wd) => ∃ x, r = some (.long x) ∧ w = w2 ∧ P x) := by
  unfold cf_Orders_leastMultiple at h
  refine am_enter mi_Orders_leastMultiple (Nat.le_of_ble_eq_true rfl) ?_
  have hQ : ∀ x, P x → (fun (r : Option Value) (w2 : Wd) => ∃ x, r = some (.long x) ∧ w = w2 ∧ P x) (some (.long x)) w := fun x h => ⟨x, rfl, rfl, h⟩
  generalize (fun (r : Option Value) (w2 : Wd) => ∃ x, r = some (.long x) ∧ w = w2 ∧ P x) = Q at hQ ⊢
  show wp g (fun _ => True) y_Orders_leastMultiple prog_6_method_10_code 11 (some FieldType.long) d 0 [(0, .long a0), (2, .long a1)] [] w Q
  refine am_lload_n d_Orders_leastMultiple_0 0 rfl ?_
  refine am_lstore (l' := [(4, .long a0), (0, .long a0), (2, .long a1)]) d_Orders_leastMultiple_1 (by decide) rfl ?_
  refine am_lload_n d_Orders_leastMultiple_3 2 rfl ?_
  refine am_lstore (l' := [(6, .long a1), (4, .long a0), (0, .long a0), (2, .long a1)]) d_Orders_leastMultiple_4 (by decide) rfl ?_
  refine am_iconst (v := 0) d_Orders_leastMultiple_6 rfl ?_
  refine am_istore (l' := [(8, .int (0 : Int32)), (6, .long a1), (4, .long a0), (0, .long a0), (2, .long a1)]) d_Orders_leastMultiple_7 (by decide) rfl ?_
  refine am_sub [3, 4, 2, 1, 0] rfl ?_
  obtain ⟨n, h⟩ := h
  exact cf_Orders_leastMultiple_L9_ok (by omega)   w  P Q hQ  n a0 a1 a0 a1 (0 : Int32) h
theorem d_Orders_ofSplit_0 : decode prog_6_method_4_code 0 = .ok (.lconst 1, 1) := by decide +kernel
theorem d_Orders_ofSplit_1 : decode prog_6_method_4_code 1 = .ok (.lstore_n 2, 1) := by decide +kernel
theorem d_Orders_ofSplit_2 : decode prog_6_method_4_code 2 = .ok (.iconst 1, 1) := by decide +kernel
theorem d_Orders_ofSplit_3 : decode prog_6_method_4_code 3 = .ok (.istore 4, 2) := by decide +kernel
theorem d_Orders_ofSplit_5 : decode prog_6_method_4_code 5 = .ok (.iconst 0, 1) := by decide +kernel
theorem d_Orders_ofSplit_6 : decode prog_6_method_4_code 6 = .ok (.istore 5, 2) := by decide +kernel
theorem d_Orders_ofSplit_8 : decode prog_6_method_4_code 8 = .ok (.iload 5, 2) := by decide +kernel
theorem d_Orders_ofSplit_10 : decode prog_6_method_4_code 10 = .ok (.aload_n 1, 1) := by decide +kernel
theorem d_Orders_ofSplit_11 : decode prog_6_method_4_code 11 = .ok (.invokevirtual 41, 3) := by decide +kernel
theorem d_Orders_ofSplit_14 : decode prog_6_method_4_code 14 = .ok (.if_icmp .ge 37, 3) := by decide +kernel
theorem d_Orders_ofSplit_17 : decode prog_6_method_4_code 17 = .ok (.lload_n 2, 1) := by decide +kernel
theorem d_Orders_ofSplit_18 : decode prog_6_method_4_code 18 = .ok (.aload_n 0, 1) := by decide +kernel
theorem d_Orders_ofSplit_19 : decode prog_6_method_4_code 19 = .ok (.aload_n 1, 1) := by decide +kernel
theorem d_Orders_ofSplit_20 : decode prog_6_method_4_code 20 = .ok (.iload 5, 2) := by decide +kernel
theorem d_Orders_ofSplit_22 : decode prog_6_method_4_code 22 = .ok (.invokevirtual 47, 3) := by decide +kernel
theorem d_Orders_ofSplit_25 : decode prog_6_method_4_code 25 = .ok (.invokevirtual 21, 3) := by decide +kernel
theorem d_Orders_ofSplit_28 : decode prog_6_method_4_code 28 = .ok (.invokestatic 51, 3) := by decide +kernel
theorem d_Orders_ofSplit_31 : decode prog_6_method_4_code 31 = .ok (.lstore_n 2, 1) := by decide +kernel
theorem d_Orders_ofSplit_32 : decode prog_6_method_4_code 32 = .ok (.iload 4, 2) := by decide +kernel
theorem d_Orders_ofSplit_34 : decode prog_6_method_4_code 34 = .ok (.aload_n 1, 1) := by decide +kernel
theorem d_Orders_ofSplit_35 : decode prog_6_method_4_code 35 = .ok (.iload 5, 2) := by decide +kernel
theorem d_Orders_ofSplit_37 : decode prog_6_method_4_code 37 = .ok (.invokevirtual 55, 3) := by decide +kernel
theorem d_Orders_ofSplit_40 : decode prog_6_method_4_code 40 = .ok (.invokestatic 59, 3) := by decide +kernel
theorem d_Orders_ofSplit_43 : decode prog_6_method_4_code 43 = .ok (.istore 4, 2) := by decide +kernel
theorem d_Orders_ofSplit_45 : decode prog_6_method_4_code 45 = .ok (.iinc 5 1, 3) := by decide +kernel
theorem d_Orders_ofSplit_48 : decode prog_6_method_4_code 48 = .ok (.goto (-40), 3) := by decide +kernel
theorem d_Orders_ofSplit_51 : decode prog_6_method_4_code 51 = .ok (.iconst 1, 1) := by decide +kernel
theorem d_Orders_ofSplit_52 : decode prog_6_method_4_code 52 = .ok (.istore 5, 2) := by decide +kernel
theorem d_Orders_ofSplit_54 : decode prog_6_method_4_code 54 = .ok (.iload 5, 2) := by decide +kernel
theorem d_Orders_ofSplit_56 : decode prog_6_method_4_code 56 = .ok (.iload 4, 2) := by decide +kernel
theorem d_Orders_ofSplit_58 : decode prog_6_method_4_code 58 = .ok (.if_icmp .ge 18, 3) := by decide +kernel
theorem d_Orders_ofSplit_61 : decode prog_6_method_4_code 61 = .ok (.lload_n 2, 1) := by decide +kernel
theorem d_Orders_ofSplit_62 : decode prog_6_method_4_code 62 = .ok (.ldc2_w 19, 3) := by decide +kernel
theorem d_Orders_ofSplit_65 : decode prog_6_method_4_code 65 = .ok (.lmul, 1) := by decide +kernel
theorem d_Orders_ofSplit_66 : decode prog_6_method_4_code 66 = .ok (.lstore_n 2, 1) := by decide +kernel
theorem d_Orders_ofSplit_67 : decode prog_6_method_4_code 67 = .ok (.iload 5, 2) := by decide +kernel
theorem d_Orders_ofSplit_69 : decode prog_6_method_4_code 69 = .ok (.iconst 2, 1) := by decide +kernel
theorem d_Orders_ofSplit_70 : decode prog_6_method_4_code 70 = .ok (.imul, 1) := by decide +kernel
theorem d_Orders_ofSplit_71 : decode prog_6_method_4_code 71 = .ok (.istore 5, 2) := by decide +kernel
theorem d_Orders_ofSplit_73 : decode prog_6_method_4_code 73 = .ok (.goto (-19), 3) := by decide +kernel
theorem d_Orders_ofSplit_76 : decode prog_6_method_4_code 76 = .ok (.lload_n 2, 1) := by decide +kernel
theorem d_Orders_ofSplit_77 : decode prog_6_method_4_code 77 = .ok (.lreturn, 1) := by decide +kernel
def cf_Orders_ofSplit_B54 (c : Nat) (c0 : Nat) (K54 : Int64 → Int32 → Int32 → Wd → Prop) (P : Int64 → Wd → Prop) (x2 : Int64) (x4 : Int32) (x5 : Int32) (w : Wd) : Prop :=
  ((x4 ≤ x5 → P x2 w) ∧ (¬ x4 ≤ x5 → ∀ v2, v2 = x2 * (2 : Int64) → ∀ v3, v3 = x5 * (2 : Int32) → K54 v2 x4 v3 w))
def cf_Orders_ofSplit_L54 (c : Nat) (c0 : Nat)  (P : Int64 → Wd → Prop) : Nat → Int64 → Int32 → Int32 → Wd → Prop
  | 0 => fun x2 x4 x5 w => False
  | n + 1 => fun x2 x4 x5 w => cf_Orders_ofSplit_B54 c c0 (cf_Orders_ofSplit_L54 c c0 P n) P x2 x4 x5 w
def cf_Orders_ofSplit_B8 (c : Nat) (c0 : Nat) (K8 : Int64 → Int32 → Int32 → Wd → Prop) (P : Int64 → Wd → Prop) (x2 : Int64) (x4 : Int32) (x5 : Int32) (w : Wd) : Prop :=
  cf_Factors_unlike c0 w (fun r1 => ((r1 ≤ x5 → ∃ n, cf_Orders_ofSplit_L54 c c0 P n x2 x4 (1 : Int32) w) ∧ (¬ r1 ≤ x5 → cf_Factors_base c0 x5 w (fun r4 => cf_Orders_ofIrreducible c r4 w (fun r5 w6 => cf_Orders_leastMultiple x2 r5 (fun r7 => cf_Factors_often c0 x5 w6 (fun r8 => ∀ v9, v9 = imax x4 r8 → ∀ v10, v10 = x5 + (1 : Int32) → K8 r7 v9 v10 w6)))))))
def cf_Orders_ofSplit_L8 (c : Nat) (c0 : Nat)  (P : Int64 → Wd → Prop) : Nat → Int64 → Int32 → Int32 → Wd → Prop
  | 0 => fun x2 x4 x5 w => False
  | n + 1 => fun x2 x4 x5 w => cf_Orders_ofSplit_B8 c c0 (cf_Orders_ofSplit_L8 c c0 P n) P x2 x4 x5 w
def cf_Orders_ofSplit (c : Nat) (c0 : Nat) (w : Wd) (P : Int64 → Wd → Prop) : Prop :=
  ∃ n, cf_Orders_ofSplit_L8 c c0 P n (1 : Int64) (1 : Int32) (0 : Int32) w
theorem cf_Orders_ofSplit_B54_ok {g : ayG} {d : Nat} (hd : 5 ≤ d) (c : Nat) (c0 : Nat) (hc : ay_sh c = (15, 0)) (hc0 : ay_sh c0 = (14, 0)) (w : Wd) (K54 : Int64 → Int32 → Int32 → Wd → Prop) (P : Int64 → Wd → Prop) (Q : Option Value → Wd → Prop) (hQ : ∀ x w2, P x w2 → Q (some (.long x)) w2) (hK54 : ∀ (x2 : Int64) (x4 : Int32) (x5 : Int32) (w : Wd), (K54 x2 x4 x5 w → wp g (fun _ => True) y_Orders_ofSplit prog_6_method_4_code 6 (some FieldType.long) d 54 [(2, .long x2), (4, .int x4), (5, .int x5)] [] w Q)) (x2 : Int64) (x4 : Int32) (x5 : Int32) (h : cf_Orders_ofSplit_B54 c c0 K54 P x2 x4 x5 w) : wp g (fun _ => True) y_Orders_ofSplit prog_6_method_4_code 6 (some FieldType.long) d 54 [(2, .long x2), (4, .int x4), (5, .int x5)] [] w Q := by
  unfold cf_Orders_ofSplit_B54 at h
  refine am_iload d_Orders_ofSplit_54 2 rfl ?_
  refine am_iload d_Orders_ofSplit_56 1 rfl ?_
  refine am_icmp_ge (tgt := 76) d_Orders_ofSplit_58 (by decide) (fun c58 => ?_) (fun c58 => ?_)
  · have h := h.1 c58
    refine am_lload_n d_Orders_ofSplit_76 0 rfl ?_
    exact am_lreturn d_Orders_ofSplit_77 rfl (hQ x2 w h)
  · have h := h.2 c58
    refine am_lload_n d_Orders_ofSplit_61 0 rfl ?_
    refine am_ldc2 (v := 2) d_Orders_ofSplit_62 wd_657 ?_
    refine am_lmul d_Orders_ofSplit_65 ?_
    refine am_topl (fun v2 ev2 => ?_)
    have h := h v2 ev2
    refine am_lstore_n (l' := [(2, .long v2), (4, .int x4), (5, .int x5)]) d_Orders_ofSplit_66 (by decide) rfl ?_
    refine am_iload d_Orders_ofSplit_67 2 rfl ?_
    refine am_iconst (v := 2) d_Orders_ofSplit_69 rfl ?_
    refine am_imul d_Orders_ofSplit_70 ?_
    refine am_topi (fun v3 ev3 => ?_)
    have h := h v3 ev3
    refine am_istore (l' := [(5, .int v3), (2, .long v2), (4, .int x4)]) d_Orders_ofSplit_71 (by decide) rfl ?_
    refine am_goto (tgt := 54) d_Orders_ofSplit_73 (by decide) ?_
    refine am_sub [1, 2, 0] rfl ?_
    exact hK54 v2 x4 v3 w h
theorem cf_Orders_ofSplit_L54_ok {g : ayG} {d : Nat} (hd : 5 ≤ d) (c : Nat) (c0 : Nat) (hc : ay_sh c = (15, 0)) (hc0 : ay_sh c0 = (14, 0))  (P : Int64 → Wd → Prop) (Q : Option Value → Wd → Prop) (hQ : ∀ x w2, P x w2 → Q (some (.long x)) w2)  : ∀ (n : Nat) (x2 : Int64) (x4 : Int32) (x5 : Int32) (w : Wd) (h : cf_Orders_ofSplit_L54 c c0 P n x2 x4 x5 w), wp g (fun _ => True) y_Orders_ofSplit prog_6_method_4_code 6 (some FieldType.long) d 54 [(2, .long x2), (4, .int x4), (5, .int x5)] [] w Q
  | 0, x2, x4, x5, w, h => False.elim h
  | n + 1, x2, x4, x5, w, h => cf_Orders_ofSplit_B54_ok hd c c0 hc hc0 w (cf_Orders_ofSplit_L54 c c0 P n) P Q hQ (fun x2 x4 x5 w h => cf_Orders_ofSplit_L54_ok hd c c0 hc hc0  P Q hQ  n x2 x4 x5 w h) x2 x4 x5 h
theorem cf_Orders_ofSplit_B8_ok {g : ayG} {d : Nat} (hd : 5 ≤ d) (c : Nat) (c0 : Nat) (hc : ay_sh c = (15, 0)) (hc0 : ay_sh c0 = (14, 0)) (w : Wd) (K8 : Int64 → Int32 → Int32 → Wd → Prop) (P : Int64 → Wd → Prop) (Q : Option Value → Wd → Prop) (hQ : ∀ x w2, P x w2 → Q (some (.long x)) w2) (hK8 : ∀ (x2 : Int64) (x4 : Int32) (x5 : Int32) (w : Wd), (K8 x2 x4 x5 w → wp g (fun _ => True) y_Orders_ofSplit prog_6_method_4_code 6 (some FieldType.long) d 8 [(0, .ref (g.1 + c)), (1, .ref (g.1 + c0)), (2, .long x2), (4, .int x4), (5, .int x5)] [] w Q)) (x2 : Int64) (x4 : Int32) (x5 : Int32) (h : cf_Orders_ofSplit_B8 c c0 K8 P x2 x4 x5 w) : wp g (fun _ => True) y_Orders_ofSplit prog_6_method_4_code 6 (some FieldType.long) d 8 [(0, .ref (g.1 + c)), (1, .ref (g.1 + c0)), (2, .long x2), (4, .int x4), (5, .int x5)] [] w Q := by
  unfold cf_Orders_ofSplit_B8 at h
  refine am_iload d_Orders_ofSplit_8 4 rfl ?_
  refine am_aload_n d_Orders_ofSplit_10 1 rfl ?_
  refine am_callV (C := "TriSplits$Factors") (d2 := d - 1) [] d_Orders_ofSplit_11 mi_Factors_unlike wd_757 wd_713 wd_714 (ay_shlt hc0 (by decide)) (el_Factors hc0) rfl rfl (by omega) rfl rfl (Nat.le_of_ble_eq_true rfl) ?_
  refine Call.post ?_ (cf_Factors_unlike_ok (by omega) c0 hc0 w _ h)
  rintro _ _ ⟨r1, rfl, rfl, h⟩
  show wp g (fun _ => True) y_Orders_ofSplit prog_6_method_4_code 6 (some FieldType.long) d 14 [(0, .ref (g.1 + c)), (1, .ref (g.1 + c0)), (2, .long x2), (4, .int x4), (5, .int x5)] [.int r1, .int x5] w Q
  refine am_icmp_ge (tgt := 51) d_Orders_ofSplit_14 (by decide) (fun c14 => ?_) (fun c14 => ?_)
  · have h := h.1 c14
    refine am_iconst (v := 1) d_Orders_ofSplit_51 rfl ?_
    refine am_istore (l' := [(5, .int (1 : Int32)), (0, .ref (g.1 + c)), (1, .ref (g.1 + c0)), (2, .long x2), (4, .int x4)]) d_Orders_ofSplit_52 (by decide) rfl ?_
    refine am_sub [3, 4, 0] rfl ?_
    obtain ⟨n, h⟩ := h
    exact cf_Orders_ofSplit_L54_ok (by omega) c c0 hc hc0  P Q hQ  n x2 x4 (1 : Int32) w h
  · have h := h.2 c14
    refine am_lload_n d_Orders_ofSplit_17 2 rfl ?_
    refine am_aload_n d_Orders_ofSplit_18 0 rfl ?_
    refine am_aload_n d_Orders_ofSplit_19 1 rfl ?_
    refine am_iload d_Orders_ofSplit_20 4 rfl ?_
    refine am_callV (C := "TriSplits$Factors") (d2 := d - 1) [.int x5] d_Orders_ofSplit_22 mi_Factors_base wd_758 wd_721 wd_722 (ay_shlt hc0 (by decide)) (el_Factors hc0) rfl rfl (by omega) rfl rfl (Nat.le_of_ble_eq_true rfl) ?_
    refine Call.post ?_ (cf_Factors_base_ok (by omega) c0 x5 hc0 w _ h)
    rintro _ _ ⟨r4, rfl, rfl, h⟩
    show wp g (fun _ => True) y_Orders_ofSplit prog_6_method_4_code 6 (some FieldType.long) d 25 [(0, .ref (g.1 + c)), (1, .ref (g.1 + c0)), (2, .long x2), (4, .int x4), (5, .int x5)] [.long r4, .ref (g.1 + c), .long x2] w Q
    refine am_callV (C := "TriSplits$Orders") (d2 := d - 1) [.long r4] d_Orders_ofSplit_25 mi_Orders_ofIrreducible wd_658 wd_659 wd_660 (ay_shlt hc (by decide)) (el_Orders hc) rfl rfl (by omega) rfl rfl (Nat.le_of_ble_eq_true rfl) ?_
    refine Call.post ?_ (cf_Orders_ofIrreducible_ok (by omega) c r4 hc w _ h)
    rintro _ w6 ⟨r5, rfl, h⟩
    show wp g (fun _ => True) y_Orders_ofSplit prog_6_method_4_code 6 (some FieldType.long) d 28 [(0, .ref (g.1 + c)), (1, .ref (g.1 + c0)), (2, .long x2), (4, .int x4), (5, .int x5)] [.long r5, .long x2] w6 Q
    refine am_callS (d2 := d - 1) [.long x2, .long r5] d_Orders_ofSplit_28 mi_Orders_leastMultiple wd_759 wd_760 (by omega) rfl rfl (Nat.le_of_ble_eq_true rfl) ?_
    refine Call.post ?_ (cf_Orders_leastMultiple_ok (by omega) x2 r5  w6 _ h)
    rintro _ _ ⟨r7, rfl, rfl, h⟩
    show wp g (fun _ => True) y_Orders_ofSplit prog_6_method_4_code 6 (some FieldType.long) d 31 [(0, .ref (g.1 + c)), (1, .ref (g.1 + c0)), (2, .long x2), (4, .int x4), (5, .int x5)] [.long r7] w6 Q
    refine am_lstore_n (l' := [(2, .long r7), (0, .ref (g.1 + c)), (1, .ref (g.1 + c0)), (4, .int x4), (5, .int x5)]) d_Orders_ofSplit_31 (by decide) rfl ?_
    refine am_iload d_Orders_ofSplit_32 3 rfl ?_
    refine am_aload_n d_Orders_ofSplit_34 2 rfl ?_
    refine am_iload d_Orders_ofSplit_35 4 rfl ?_
    refine am_callV (C := "TriSplits$Factors") (d2 := d - 1) [.int x5] d_Orders_ofSplit_37 mi_Factors_often wd_762 wd_733 wd_734 (ay_shlt hc0 (by decide)) (el_Factors hc0) rfl rfl (by omega) rfl rfl (Nat.le_of_ble_eq_true rfl) ?_
    refine Call.post ?_ (cf_Factors_often_ok (by omega) c0 x5 hc0 w6 _ h)
    rintro _ _ ⟨r8, rfl, rfl, h⟩
    show wp g (fun _ => True) y_Orders_ofSplit prog_6_method_4_code 6 (some FieldType.long) d 40 [(2, .long r7), (0, .ref (g.1 + c)), (1, .ref (g.1 + c0)), (4, .int x4), (5, .int x5)] [.int r8, .int x4] w6 Q
    refine am_mmax d_Orders_ofSplit_40 wd_763 (by omega) (Nat.le_of_ble_eq_true rfl) ?_
    refine am_topi (fun v9 ev9 => ?_)
    have h := h v9 ev9
    refine am_istore (l' := [(4, .int v9), (2, .long r7), (0, .ref (g.1 + c)), (1, .ref (g.1 + c0)), (5, .int x5)]) d_Orders_ofSplit_43 (by decide) rfl ?_
    obtain ⟨v10, ev10⟩ : ∃ z : Int32, z = x5 + (1 : Int32) := ⟨_, rfl⟩
    have h := h v10 ev10
    refine am_iinc (v := v10) (l' := [(5, .int v10), (4, .int v9), (2, .long r7), (0, .ref (g.1 + c)), (1, .ref (g.1 + c0))]) d_Orders_ofSplit_45 4 rfl (by rw [ev10]; rfl) (by decide) rfl ?_
    refine am_goto (tgt := 8) d_Orders_ofSplit_48 (by decide) ?_
    refine am_sub [3, 4, 2, 1, 0] rfl ?_
    exact hK8 r7 v9 v10 w6 h
theorem cf_Orders_ofSplit_L8_ok {g : ayG} {d : Nat} (hd : 5 ≤ d) (c : Nat) (c0 : Nat) (hc : ay_sh c = (15, 0)) (hc0 : ay_sh c0 = (14, 0))  (P : Int64 → Wd → Prop) (Q : Option Value → Wd → Prop) (hQ : ∀ x w2, P x w2 → Q (some (.long x)) w2)  : ∀ (n : Nat) (x2 : Int64) (x4 : Int32) (x5 : Int32) (w : Wd) (h : cf_Orders_ofSplit_L8 c c0 P n x2 x4 x5 w), wp g (fun _ => True) y_Orders_ofSplit prog_6_method_4_code 6 (some FieldType.long) d 8 [(0, .ref (g.1 + c)), (1, .ref (g.1 + c0)), (2, .long x2), (4, .int x4), (5, .int x5)] [] w Q
  | 0, x2, x4, x5, w, h => False.elim h
  | n + 1, x2, x4, x5, w, h => cf_Orders_ofSplit_B8_ok hd c c0 hc hc0 w (cf_Orders_ofSplit_L8 c c0 P n) P Q hQ (fun x2 x4 x5 w h => cf_Orders_ofSplit_L8_ok hd c c0 hc hc0  P Q hQ  n x2 x4 x5 w h) x2 x4 x5 h
theorem cf_Orders_ofSplit_ok {g : ayG} {d : Nat} (hd : 5 ≤ d) (c : Nat) (c0 : Nat) (hc : ay_sh c = (15, 0)) (hc0 : ay_sh c0 = (14, 0)) (w : Wd) (P : Int64 → Wd → Prop) (h : cf_Orders_ofSplit c c0 w P) : Call g y_Orders_ofSplit prog_6_method_4_code 6 (some FieldType.long) d [.ref (g.1 + c), .ref (g.1 + c0)] w (fun (r : Option Value) (w2 : Wd) => ∃ x, r = some (.long x) ∧ P x w2) := by
  unfold cf_Orders_ofSplit at h
  refine am_enter mi_Orders_ofSplit (Nat.le_of_ble_eq_true rfl) ?_
  have hQ : ∀ x w2, P x w2 → (fun (r : Option Value) (w2 : Wd) => ∃ x, r = some (.long x) ∧ P x w2) (some (.long x)) w2 := fun x w2 h => ⟨x, rfl, h⟩
  generalize (fun (r : Option Value) (w2 : Wd) => ∃ x, r = some (.long x) ∧ P x w2) = Q at hQ ⊢
  show wp g (fun _ => True) y_Orders_ofSplit prog_6_method_4_code 6 (some FieldType.long) d 0 [(0, .ref (g.1 + c)), (1, .ref (g.1 + c0))] [] w Q
  refine am_lconst (v := 1) d_Orders_ofSplit_0 rfl ?_
  refine am_lstore_n (l' := [(2, .long (1 : Int64)), (0, .ref (g.1 + c)), (1, .ref (g.1 + c0))]) d_Orders_ofSplit_1 (by decide) rfl ?_
  refine am_iconst (v := 1) d_Orders_ofSplit_2 rfl ?_
  refine am_istore (l' := [(4, .int (1 : Int32)), (2, .long (1 : Int64)), (0, .ref (g.1 + c)), (1, .ref (g.1 + c0))]) d_Orders_ofSplit_3 (by decide) rfl ?_
  refine am_iconst (v := 0) d_Orders_ofSplit_5 rfl ?_
  refine am_istore (l' := [(5, .int (0 : Int32)), (4, .int (1 : Int32)), (2, .long (1 : Int64)), (0, .ref (g.1 + c)), (1, .ref (g.1 + c0))]) d_Orders_ofSplit_6 (by decide) rfl ?_
  refine am_sub [3, 4, 2, 1, 0] rfl ?_
  obtain ⟨n, h⟩ := h
  exact cf_Orders_ofSplit_L8_ok (by omega) c c0 hc hc0  P Q hQ  n (1 : Int64) (1 : Int32) (0 : Int32) w h
theorem d_Orders_period_0 : decode prog_6_method_5_code 0 = .ok (.lload 5, 2) := by decide +kernel
theorem d_Orders_period_2 : decode prog_6_method_5_code 2 = .ok (.lstore 7, 2) := by decide +kernel
theorem d_Orders_period_4 : decode prog_6_method_5_code 4 = .ok (.aload_n 0, 1) := by decide +kernel
theorem d_Orders_period_5 : decode prog_6_method_5_code 5 = .ok (.lload 5, 2) := by decide +kernel
theorem d_Orders_period_7 : decode prog_6_method_5_code 7 = .ok (.invokevirtual 29, 3) := by decide +kernel
theorem d_Orders_period_10 : decode prog_6_method_5_code 10 = .ok (.iconst 0, 1) := by decide +kernel
theorem d_Orders_period_11 : decode prog_6_method_5_code 11 = .ok (.istore 9, 2) := by decide +kernel
theorem d_Orders_period_13 : decode prog_6_method_5_code 13 = .ok (.iload 9, 2) := by decide +kernel
theorem d_Orders_period_15 : decode prog_6_method_5_code 15 = .ok (.aload_n 0, 1) := by decide +kernel
theorem d_Orders_period_16 : decode prog_6_method_5_code 16 = .ok (.getfield 33, 3) := by decide +kernel
theorem d_Orders_period_19 : decode prog_6_method_5_code 19 = .ok (.if_icmp .ge 86, 3) := by decide +kernel
theorem d_Orders_period_22 : decode prog_6_method_5_code 22 = .ok (.iload 9, 2) := by decide +kernel
theorem d_Orders_period_24 : decode prog_6_method_5_code 24 = .ok (.aload_n 0, 1) := by decide +kernel
theorem d_Orders_period_25 : decode prog_6_method_5_code 25 = .ok (.getfield 9, 3) := by decide +kernel
theorem d_Orders_period_28 : decode prog_6_method_5_code 28 = .ok (.arraylength, 1) := by decide +kernel
theorem d_Orders_period_29 : decode prog_6_method_5_code 29 = .ok (.if_icmp .ge 76, 3) := by decide +kernel
theorem d_Orders_period_32 : decode prog_6_method_5_code 32 = .ok (.aload_n 0, 1) := by decide +kernel
theorem d_Orders_period_33 : decode prog_6_method_5_code 33 = .ok (.getfield 9, 3) := by decide +kernel
theorem d_Orders_period_36 : decode prog_6_method_5_code 36 = .ok (.iload 9, 2) := by decide +kernel
theorem d_Orders_period_38 : decode prog_6_method_5_code 38 = .ok (.laload, 1) := by decide +kernel
theorem d_Orders_period_39 : decode prog_6_method_5_code 39 = .ok (.lstore 10, 2) := by decide +kernel
theorem d_Orders_period_41 : decode prog_6_method_5_code 41 = .ok (.iconst 0, 1) := by decide +kernel
theorem d_Orders_period_42 : decode prog_6_method_5_code 42 = .ok (.istore 12, 2) := by decide +kernel
theorem d_Orders_period_44 : decode prog_6_method_5_code 44 = .ok (.iload 12, 2) := by decide +kernel
theorem d_Orders_period_46 : decode prog_6_method_5_code 46 = .ok (.bipush 64, 2) := by decide +kernel
theorem d_Orders_period_48 : decode prog_6_method_5_code 48 = .ok (.if_icmp .ge 51, 3) := by decide +kernel
theorem d_Orders_period_51 : decode prog_6_method_5_code 51 = .ok (.lload 10, 2) := by decide +kernel
theorem d_Orders_period_53 : decode prog_6_method_5_code 53 = .ok (.lconst 1, 1) := by decide +kernel
theorem d_Orders_period_54 : decode prog_6_method_5_code 54 = .ok (.lcmp, 1) := by decide +kernel
theorem d_Orders_period_55 : decode prog_6_method_5_code 55 = .ok (.ifCond .le 44, 3) := by decide +kernel
theorem d_Orders_period_58 : decode prog_6_method_5_code 58 = .ok (.lload 7, 2) := by decide +kernel
theorem d_Orders_period_60 : decode prog_6_method_5_code 60 = .ok (.lload 10, 2) := by decide +kernel
theorem d_Orders_period_62 : decode prog_6_method_5_code 62 = .ok (.lrem, 1) := by decide +kernel
theorem d_Orders_period_63 : decode prog_6_method_5_code 63 = .ok (.lconst 0, 1) := by decide +kernel
theorem d_Orders_period_64 : decode prog_6_method_5_code 64 = .ok (.lcmp, 1) := by decide +kernel
theorem d_Orders_period_65 : decode prog_6_method_5_code 65 = .ok (.ifCond .ne 34, 3) := by decide +kernel
theorem d_Orders_period_68 : decode prog_6_method_5_code 68 = .ok (.lload_n 1, 1) := by decide +kernel
theorem d_Orders_period_69 : decode prog_6_method_5_code 69 = .ok (.lload_n 3, 1) := by decide +kernel
theorem d_Orders_period_70 : decode prog_6_method_5_code 70 = .ok (.lload 7, 2) := by decide +kernel
theorem d_Orders_period_72 : decode prog_6_method_5_code 72 = .ok (.lload 10, 2) := by decide +kernel
theorem d_Orders_period_74 : decode prog_6_method_5_code 74 = .ok (.ldiv, 1) := by decide +kernel
theorem d_Orders_period_75 : decode prog_6_method_5_code 75 = .ok (.invokestatic 65, 3) := by decide +kernel
theorem d_Orders_period_78 : decode prog_6_method_5_code 78 = .ok (.lload_n 3, 1) := by decide +kernel
theorem d_Orders_period_79 : decode prog_6_method_5_code 79 = .ok (.lcmp, 1) := by decide +kernel
theorem d_Orders_period_80 : decode prog_6_method_5_code 80 = .ok (.ifCond .eq 6, 3) := by decide +kernel
theorem d_Orders_period_83 : decode prog_6_method_5_code 83 = .ok (.goto 16, 3) := by decide +kernel
theorem d_Orders_period_86 : decode prog_6_method_5_code 86 = .ok (.lload 7, 2) := by decide +kernel
theorem d_Orders_period_88 : decode prog_6_method_5_code 88 = .ok (.lload 10, 2) := by decide +kernel
theorem d_Orders_period_90 : decode prog_6_method_5_code 90 = .ok (.ldiv, 1) := by decide +kernel
theorem d_Orders_period_91 : decode prog_6_method_5_code 91 = .ok (.lstore 7, 2) := by decide +kernel
theorem d_Orders_period_93 : decode prog_6_method_5_code 93 = .ok (.iinc 12 1, 3) := by decide +kernel
theorem d_Orders_period_96 : decode prog_6_method_5_code 96 = .ok (.goto (-52), 3) := by decide +kernel
theorem d_Orders_period_99 : decode prog_6_method_5_code 99 = .ok (.iinc 9 1, 3) := by decide +kernel
theorem d_Orders_period_102 : decode prog_6_method_5_code 102 = .ok (.goto (-89), 3) := by decide +kernel
theorem d_Orders_period_105 : decode prog_6_method_5_code 105 = .ok (.lload 7, 2) := by decide +kernel
theorem d_Orders_period_107 : decode prog_6_method_5_code 107 = .ok (.lreturn, 1) := by decide +kernel
def cf_Orders_period_B44 (c : Nat) (K13 : Int64 → Int64 → Int64 → Int32 → Wd → Prop) (K44 : Int64 → Int64 → Int64 → Int32 → Int64 → Int32 → Wd → Prop) (P : Int64 → Wd → Prop) (x1 : Int64) (x3 : Int64) (x7 : Int64) (x9 : Int32) (x10 : Int64) (x12 : Int32) (w : Wd) : Prop :=
  (((64 : Int32) ≤ x12 → ∀ v3, v3 = x9 + (1 : Int32) → K13 x1 x3 x7 v3 w) ∧ (¬ (64 : Int32) ≤ x12 → ((x10 ≤ (1 : Int64) → ∀ v4, v4 = x9 + (1 : Int32) → K13 x1 x3 x7 v4 w) ∧ (¬ x10 ≤ (1 : Int64) → ¬ x10 = 0 ∧ ((¬ (lrem x7 x10) = (0 : Int64) → ∀ v5, v5 = x9 + (1 : Int32) → K13 x1 x3 x7 v5 w) ∧ ((lrem x7 x10) = (0 : Int64) → ¬ x10 = 0 ∧ cf_Shifts_behind x1 x3 (x7 / x10) (fun r6 => ((r6 = x3 → ¬ x10 = 0 ∧ ∀ v7, v7 = x7 / x10 → ∀ v8, v8 = x12 + (1 : Int32) → K44 x1 x3 v7 x9 x10 v8 w) ∧ (¬ r6 = x3 → ∀ v9, v9 = x9 + (1 : Int32) → K13 x1 x3 x7 v9 w)))))))))
def cf_Orders_period_L44 (c : Nat) (K13 : Int64 → Int64 → Int64 → Int32 → Wd → Prop) (P : Int64 → Wd → Prop) : Nat → Int64 → Int64 → Int64 → Int32 → Int64 → Int32 → Wd → Prop
  | 0 => fun x1 x3 x7 x9 x10 x12 w => False
  | n + 1 => fun x1 x3 x7 x9 x10 x12 w => cf_Orders_period_B44 c K13 (cf_Orders_period_L44 c K13 P n) P x1 x3 x7 x9 x10 x12 w
def cf_Orders_period_B13 (c : Nat) (K13 : Int64 → Int64 → Int64 → Int32 → Wd → Prop) (P : Int64 → Wd → Prop) (x1 : Int64) (x3 : Int64) (x7 : Int64) (x9 : Int32) (w : Wd) : Prop :=
  (((w.1 c 1) ≤ x9 → P x7 w) ∧ (¬ (w.1 c 1) ≤ x9 → (((16 : Int32) ≤ x9 → P x7 w) ∧ (¬ (16 : Int32) ≤ x9 → vp_in x9 16 ∧ ∀ v2, v2 = w.2 (c + 1) x9.toNatClampNeg → ∃ n, cf_Orders_period_L44 c K13 P n x1 x3 x7 x9 v2 (0 : Int32) w))))
def cf_Orders_period_L13 (c : Nat)  (P : Int64 → Wd → Prop) : Nat → Int64 → Int64 → Int64 → Int32 → Wd → Prop
  | 0 => fun x1 x3 x7 x9 w => False
  | n + 1 => fun x1 x3 x7 x9 w => cf_Orders_period_B13 c (cf_Orders_period_L13 c P n) P x1 x3 x7 x9 w
def cf_Orders_period (c : Nat) (a0 : Int64) (a1 : Int64) (a2 : Int64) (w : Wd) (P : Int64 → Wd → Prop) : Prop :=
  cf_Orders_findPrimes c a2 w (fun w1 => ∃ n, cf_Orders_period_L13 c P n a0 a1 a2 (0 : Int32) w1)
theorem cf_Orders_period_B44_ok {g : ayG} {d : Nat} (hd : 5 ≤ d) (c : Nat) (hc : ay_sh c = (15, 0)) (w : Wd) (K13 : Int64 → Int64 → Int64 → Int32 → Wd → Prop) (K44 : Int64 → Int64 → Int64 → Int32 → Int64 → Int32 → Wd → Prop) (P : Int64 → Wd → Prop) (Q : Option Value → Wd → Prop) (hQ : ∀ x w2, P x w2 → Q (some (.long x)) w2) (hK13 : ∀ (x1 : Int64) (x3 : Int64) (x7 : Int64) (x9 : Int32) (w : Wd), (K13 x1 x3 x7 x9 w → wp g (fun _ => True) y_Orders_period prog_6_method_5_code 13 (some FieldType.long) d 13 [(0, .ref (g.1 + c)), (1, .long x1), (3, .long x3), (7, .long x7), (9, .int x9)] [] w Q)) (hK44 : ∀ (x1 : Int64) (x3 : Int64) (x7 : Int64) (x9 : Int32) (x10 : Int64) (x12 : Int32) (w : Wd), (K44 x1 x3 x7 x9 x10 x12 w → wp g (fun _ => True) y_Orders_period prog_6_method_5_code 13 (some FieldType.long) d 44 [(0, .ref (g.1 + c)), (1, .long x1), (3, .long x3), (7, .long x7), (9, .int x9), (10, .long x10), (12, .int x12)] [] w Q)) (x1 : Int64) (x3 : Int64) (x7 : Int64) (x9 : Int32) (x10 : Int64) (x12 : Int32) (h : cf_Orders_period_B44 c K13 K44 P x1 x3 x7 x9 x10 x12 w) : wp g (fun _ => True) y_Orders_period prog_6_method_5_code 13 (some FieldType.long) d 44 [(0, .ref (g.1 + c)), (1, .long x1), (3, .long x3), (7, .long x7), (9, .int x9), (10, .long x10), (12, .int x12)] [] w Q := by
  unfold cf_Orders_period_B44 at h
  refine am_iload d_Orders_period_44 6 rfl ?_
  refine am_bipush (v := 64) d_Orders_period_46 rfl ?_
  refine am_icmp_ge (tgt := 99) d_Orders_period_48 (by decide) (fun c48 => ?_) (fun c48 => ?_)
  · have h := h.1 c48
    obtain ⟨v3, ev3⟩ : ∃ z : Int32, z = x9 + (1 : Int32) := ⟨_, rfl⟩
    have h := h v3 ev3
    refine am_iinc (v := v3) (l' := [(9, .int v3), (0, .ref (g.1 + c)), (1, .long x1), (3, .long x3), (7, .long x7), (10, .long x10), (12, .int x12)]) d_Orders_period_99 4 rfl (by rw [ev3]; rfl) (by decide) rfl ?_
    refine am_goto (tgt := 13) d_Orders_period_102 (by decide) ?_
    refine am_sub [1, 2, 3, 4, 0] rfl ?_
    exact hK13 x1 x3 x7 v3 w h
  · have h := h.2 c48
    refine am_lload d_Orders_period_51 5 rfl ?_
    refine am_lconst (v := 1) d_Orders_period_53 rfl ?_
    refine am_lif_le (tgt := 99) d_Orders_period_54 d_Orders_period_55 (by decide) (fun c54 => ?_) (fun c54 => ?_)
    · have h := h.1 c54
      obtain ⟨v4, ev4⟩ : ∃ z : Int32, z = x9 + (1 : Int32) := ⟨_, rfl⟩
      have h := h v4 ev4
      refine am_iinc (v := v4) (l' := [(9, .int v4), (0, .ref (g.1 + c)), (1, .long x1), (3, .long x3), (7, .long x7), (10, .long x10), (12, .int x12)]) d_Orders_period_99 4 rfl (by rw [ev4]; rfl) (by decide) rfl ?_
      refine am_goto (tgt := 13) d_Orders_period_102 (by decide) ?_
      refine am_sub [1, 2, 3, 4, 0] rfl ?_
      exact hK13 x1 x3 x7 v4 w h
    · have h := h.2 c54
      refine am_lload d_Orders_period_58 3 rfl ?_
      refine am_lload d_Orders_period_60 5 rfl ?_
      have hz62 := h.1
      have h := h.2
      refine am_lrem d_Orders_period_62 hz62 ?_
      refine am_lconst (v := 0) d_Orders_period_63 rfl ?_
      refine am_lif_ne (tgt := 99) d_Orders_period_64 d_Orders_period_65 (by decide) (fun c64 => ?_) (fun c64 => ?_)
      · have h := h.1 c64
        obtain ⟨v5, ev5⟩ : ∃ z : Int32, z = x9 + (1 : Int32) := ⟨_, rfl⟩
        have h := h v5 ev5
        refine am_iinc (v := v5) (l' := [(9, .int v5), (0, .ref (g.1 + c)), (1, .long x1), (3, .long x3), (7, .long x7), (10, .long x10), (12, .int x12)]) d_Orders_period_99 4 rfl (by rw [ev5]; rfl) (by decide) rfl ?_
        refine am_goto (tgt := 13) d_Orders_period_102 (by decide) ?_
        refine am_sub [1, 2, 3, 4, 0] rfl ?_
        exact hK13 x1 x3 x7 v5 w h
      · have h := h.2 c64
        refine am_lload_n d_Orders_period_68 1 rfl ?_
        refine am_lload_n d_Orders_period_69 2 rfl ?_
        refine am_lload d_Orders_period_70 3 rfl ?_
        refine am_lload d_Orders_period_72 5 rfl ?_
        have hz74 := h.1
        have h := h.2
        refine am_ldiv d_Orders_period_74 hz74 ?_
        refine am_callS (d2 := d - 1) [.long x1, .long x3, .long (x7 / x10)] d_Orders_period_75 mi_Shifts_behind wd_915 wd_597 (by omega) rfl rfl (Nat.le_of_ble_eq_true rfl) ?_
        refine Call.post ?_ (cf_Shifts_behind_ok (by omega) x1 x3 (x7 / x10)  w _ h)
        rintro _ _ ⟨r6, rfl, rfl, h⟩
        show wp g (fun _ => True) y_Orders_period prog_6_method_5_code 13 (some FieldType.long) d 78 [(0, .ref (g.1 + c)), (1, .long x1), (3, .long x3), (7, .long x7), (9, .int x9), (10, .long x10), (12, .int x12)] [.long r6] w Q
        refine am_lload_n d_Orders_period_78 2 rfl ?_
        refine am_lif_eq (tgt := 86) d_Orders_period_79 d_Orders_period_80 (by decide) (fun c79 => ?_) (fun c79 => ?_)
        · have h := h.1 c79
          refine am_lload d_Orders_period_86 3 rfl ?_
          refine am_lload d_Orders_period_88 5 rfl ?_
          have hz90 := h.1
          have h := h.2
          refine am_ldiv d_Orders_period_90 hz90 ?_
          refine am_topl (fun v7 ev7 => ?_)
          have h := h v7 ev7
          refine am_lstore (l' := [(7, .long v7), (0, .ref (g.1 + c)), (1, .long x1), (3, .long x3), (9, .int x9), (10, .long x10), (12, .int x12)]) d_Orders_period_91 (by decide) rfl ?_
          obtain ⟨v8, ev8⟩ : ∃ z : Int32, z = x12 + (1 : Int32) := ⟨_, rfl⟩
          have h := h v8 ev8
          refine am_iinc (v := v8) (l' := [(12, .int v8), (7, .long v7), (0, .ref (g.1 + c)), (1, .long x1), (3, .long x3), (9, .int x9), (10, .long x10)]) d_Orders_period_93 6 rfl (by rw [ev8]; rfl) (by decide) rfl ?_
          refine am_goto (tgt := 44) d_Orders_period_96 (by decide) ?_
          refine am_sub [2, 3, 4, 1, 5, 6, 0] rfl ?_
          exact hK44 x1 x3 v7 x9 x10 v8 w h
        · have h := h.2 c79
          refine am_goto (tgt := 99) d_Orders_period_83 (by decide) ?_
          obtain ⟨v9, ev9⟩ : ∃ z : Int32, z = x9 + (1 : Int32) := ⟨_, rfl⟩
          have h := h v9 ev9
          refine am_iinc (v := v9) (l' := [(9, .int v9), (0, .ref (g.1 + c)), (1, .long x1), (3, .long x3), (7, .long x7), (10, .long x10), (12, .int x12)]) d_Orders_period_99 4 rfl (by rw [ev9]; rfl) (by decide) rfl ?_
          refine am_goto (tgt := 13) d_Orders_period_102 (by decide) ?_
          refine am_sub [1, 2, 3, 4, 0] rfl ?_
          exact hK13 x1 x3 x7 v9 w h
theorem cf_Orders_period_L44_ok {g : ayG} {d : Nat} (hd : 5 ≤ d) (c : Nat) (hc : ay_sh c = (15, 0)) (K13 : Int64 → Int64 → Int64 → Int32 → Wd → Prop) (P : Int64 → Wd → Prop) (Q : Option Value → Wd → Prop) (hQ : ∀ x w2, P x w2 → Q (some (.long x)) w2) (hK13 : ∀ (x1 : Int64) (x3 : Int64) (x7 : Int64) (x9 : Int32) (w : Wd), (K13 x1 x3 x7 x9 w → wp g (fun _ => True) y_Orders_period prog_6_method_5_code 13 (some FieldType.long) d 13 [(0, .ref (g.1 + c)), (1, .long x1), (3, .long x3), (7, .long x7), (9, .int x9)] [] w Q)) : ∀ (n : Nat) (x1 : Int64) (x3 : Int64) (x7 : Int64) (x9 : Int32) (x10 : Int64) (x12 : Int32) (w : Wd) (h : cf_Orders_period_L44 c K13 P n x1 x3 x7 x9 x10 x12 w), wp g (fun _ => True) y_Orders_period prog_6_method_5_code 13 (some FieldType.long) d 44 [(0, .ref (g.1 + c)), (1, .long x1), (3, .long x3), (7, .long x7), (9, .int x9), (10, .long x10), (12, .int x12)] [] w Q
  | 0, x1, x3, x7, x9, x10, x12, w, h => False.elim h
  | n + 1, x1, x3, x7, x9, x10, x12, w, h => cf_Orders_period_B44_ok hd c hc w K13 (cf_Orders_period_L44 c K13 P n) P Q hQ hK13 (fun x1 x3 x7 x9 x10 x12 w h => cf_Orders_period_L44_ok hd c hc K13 P Q hQ hK13 n x1 x3 x7 x9 x10 x12 w h) x1 x3 x7 x9 x10 x12 h
theorem cf_Orders_period_B13_ok {g : ayG} {d : Nat} (hd : 5 ≤ d) (c : Nat) (hc : ay_sh c = (15, 0)) (w : Wd) (K13 : Int64 → Int64 → Int64 → Int32 → Wd → Prop) (P : Int64 → Wd → Prop) (Q : Option Value → Wd → Prop) (hQ : ∀ x w2, P x w2 → Q (some (.long x)) w2) (hK13 : ∀ (x1 : Int64) (x3 : Int64) (x7 : Int64) (x9 : Int32) (w : Wd), (K13 x1 x3 x7 x9 w → wp g (fun _ => True) y_Orders_period prog_6_method_5_code 13 (some FieldType.long) d 13 [(0, .ref (g.1 + c)), (1, .long x1), (3, .long x3), (7, .long x7), (9, .int x9)] [] w Q)) (x1 : Int64) (x3 : Int64) (x7 : Int64) (x9 : Int32) (h : cf_Orders_period_B13 c K13 P x1 x3 x7 x9 w) : wp g (fun _ => True) y_Orders_period prog_6_method_5_code 13 (some FieldType.long) d 13 [(0, .ref (g.1 + c)), (1, .long x1), (3, .long x3), (7, .long x7), (9, .int x9)] [] w Q := by
  unfold cf_Orders_period_B13 at h
  refine am_iload d_Orders_period_13 4 rfl ?_
  refine am_aload_n d_Orders_period_15 0 rfl ?_
  refine am_getf (T := F_Orders) (fs := ob_Orders g w c) (C := R_Orders) (N := 2) (ci := 5) 1 d_Orders_period_16 wd_131 rfl (ay_shlt hc (by decide)) (el_Orders hc) rfl i_Orders (by decide) rfl ?_
  refine am_icmp_ge (tgt := 105) d_Orders_period_19 (by decide) (fun c19 => ?_) (fun c19 => ?_)
  · have h := h.1 c19
    refine am_lload d_Orders_period_105 3 rfl ?_
    exact am_lreturn d_Orders_period_107 rfl (hQ x7 w h)
  · have h := h.2 c19
    refine am_iload d_Orders_period_22 4 rfl ?_
    refine am_aload_n d_Orders_period_24 0 rfl ?_
    refine am_getf (T := F_Orders) (fs := ob_Orders g w c) (C := R_Orders) (N := 2) (ci := 5) 0 d_Orders_period_25 wd_130 rfl (ay_shlt hc (by decide)) (el_Orders hc) rfl i_Orders (by decide) rfl ?_
    refine am_alen (v := 16) d_Orders_period_28 (sh_O1 hc) (by decide) rfl ?_
    refine am_icmp_ge (tgt := 105) d_Orders_period_29 (by decide) (fun c29 => ?_) (fun c29 => ?_)
    · have h := h.1 c29
      refine am_lload d_Orders_period_105 3 rfl ?_
      exact am_lreturn d_Orders_period_107 rfl (hQ x7 w h)
    · have h := h.2 c29
      refine am_aload_n d_Orders_period_32 0 rfl ?_
      refine am_getf (T := F_Orders) (fs := ob_Orders g w c) (C := R_Orders) (N := 2) (ci := 5) 0 d_Orders_period_33 wd_130 rfl (ay_shlt hc (by decide)) (el_Orders hc) rfl i_Orders (by decide) rfl ?_
      refine am_iload d_Orders_period_36 4 rfl ?_
      have hi38 := h.1
      have h := h.2
      refine am_laload d_Orders_period_38 (sh_O1 hc) hi38 ?_
      refine am_topl (fun v2 ev2 => ?_)
      have h := h v2 ev2
      refine am_lstore (l' := [(10, .long v2), (0, .ref (g.1 + c)), (1, .long x1), (3, .long x3), (7, .long x7), (9, .int x9)]) d_Orders_period_39 (by decide) rfl ?_
      refine am_iconst (v := 0) d_Orders_period_41 rfl ?_
      refine am_istore (l' := [(12, .int (0 : Int32)), (10, .long v2), (0, .ref (g.1 + c)), (1, .long x1), (3, .long x3), (7, .long x7), (9, .int x9)]) d_Orders_period_42 (by decide) rfl ?_
      refine am_sub [2, 3, 4, 5, 6, 1, 0] rfl ?_
      obtain ⟨n, h⟩ := h
      exact cf_Orders_period_L44_ok (by omega) c hc K13 P Q hQ hK13 n x1 x3 x7 x9 v2 (0 : Int32) w h
theorem cf_Orders_period_L13_ok {g : ayG} {d : Nat} (hd : 5 ≤ d) (c : Nat) (hc : ay_sh c = (15, 0))  (P : Int64 → Wd → Prop) (Q : Option Value → Wd → Prop) (hQ : ∀ x w2, P x w2 → Q (some (.long x)) w2)  : ∀ (n : Nat) (x1 : Int64) (x3 : Int64) (x7 : Int64) (x9 : Int32) (w : Wd) (h : cf_Orders_period_L13 c P n x1 x3 x7 x9 w), wp g (fun _ => True) y_Orders_period prog_6_method_5_code 13 (some FieldType.long) d 13 [(0, .ref (g.1 + c)), (1, .long x1), (3, .long x3), (7, .long x7), (9, .int x9)] [] w Q
  | 0, x1, x3, x7, x9, w, h => False.elim h
  | n + 1, x1, x3, x7, x9, w, h => cf_Orders_period_B13_ok hd c hc w (cf_Orders_period_L13 c P n) P Q hQ (fun x1 x3 x7 x9 w h => cf_Orders_period_L13_ok hd c hc  P Q hQ  n x1 x3 x7 x9 w h) x1 x3 x7 x9 h
theorem cf_Orders_period_ok {g : ayG} {d : Nat} (hd : 5 ≤ d) (c : Nat) (a0 : Int64) (a1 : Int64) (a2 : Int64) (hc : ay_sh c = (15, 0)) (w : Wd) (P : Int64 → Wd → Prop) (h : cf_Orders_period c a0 a1 a2 w P) : Call g y_Orders_period prog_6_method_5_code 13 (some FieldType.long) d [.ref (g.1 + c), .long a0, .long a1, .long a2] w (fun (r : Option Value) (w2 : Wd) => ∃ x, r = some (.long x) ∧ P x w2) := by
  unfold cf_Orders_period at h
  refine am_enter mi_Orders_period (Nat.le_of_ble_eq_true rfl) ?_
  have hQ : ∀ x w2, P x w2 → (fun (r : Option Value) (w2 : Wd) => ∃ x, r = some (.long x) ∧ P x w2) (some (.long x)) w2 := fun x w2 h => ⟨x, rfl, h⟩
  generalize (fun (r : Option Value) (w2 : Wd) => ∃ x, r = some (.long x) ∧ P x w2) = Q at hQ ⊢
  show wp g (fun _ => True) y_Orders_period prog_6_method_5_code 13 (some FieldType.long) d 0 [(0, .ref (g.1 + c)), (1, .long a0), (3, .long a1), (5, .long a2)] [] w Q
  refine am_lload d_Orders_period_0 3 rfl ?_
  refine am_lstore (l' := [(7, .long a2), (0, .ref (g.1 + c)), (1, .long a0), (3, .long a1), (5, .long a2)]) d_Orders_period_2 (by decide) rfl ?_
  refine am_aload_n d_Orders_period_4 1 rfl ?_
  refine am_lload d_Orders_period_5 4 rfl ?_
  refine am_callV (C := y_Orders_findPrimes.cls) (d2 := d - 1) [.long a2] d_Orders_period_7 mi_Orders_findPrimes wd_663 wd_665 ws_Orders_findPrimes (ay_shlt hc (by decide)) (el_Orders hc) rfl rfl (by omega) rfl rfl (Nat.le_of_ble_eq_true rfl) ?_
  refine Call.post ?_ (cf_Orders_findPrimes_ok (by omega) c a2 hc w _ h)
  rintro _ w1 ⟨rfl, h⟩
  show wp g (fun _ => True) y_Orders_period prog_6_method_5_code 13 (some FieldType.long) d 10 [(7, .long a2), (0, .ref (g.1 + c)), (1, .long a0), (3, .long a1), (5, .long a2)] [] w1 Q
  refine am_iconst (v := 0) d_Orders_period_10 rfl ?_
  refine am_istore (l' := [(9, .int (0 : Int32)), (7, .long a2), (0, .ref (g.1 + c)), (1, .long a0), (3, .long a1), (5, .long a2)]) d_Orders_period_11 (by decide) rfl ?_
  refine am_sub [2, 3, 4, 1, 0] rfl ?_
  obtain ⟨n, h⟩ := h
  exact cf_Orders_period_L13_ok (by omega) c hc  P Q hQ  n a0 a1 a2 (0 : Int32) w1 h
theorem d_Orders_countPrimitive_0 : decode prog_6_method_6_code 0 = .ok (.lconst 1, 1) := by decide +kernel
theorem d_Orders_countPrimitive_1 : decode prog_6_method_6_code 1 = .ok (.iload_n 1, 1) := by decide +kernel
theorem d_Orders_countPrimitive_2 : decode prog_6_method_6_code 2 = .ok (.lshl, 1) := by decide +kernel
theorem d_Orders_countPrimitive_3 : decode prog_6_method_6_code 3 = .ok (.lconst 1, 1) := by decide +kernel
theorem d_Orders_countPrimitive_4 : decode prog_6_method_6_code 4 = .ok (.lsub, 1) := by decide +kernel
theorem d_Orders_countPrimitive_5 : decode prog_6_method_6_code 5 = .ok (.lstore_n 2, 1) := by decide +kernel
theorem d_Orders_countPrimitive_6 : decode prog_6_method_6_code 6 = .ok (.lload_n 2, 1) := by decide +kernel
theorem d_Orders_countPrimitive_7 : decode prog_6_method_6_code 7 = .ok (.lstore 4, 2) := by decide +kernel
theorem d_Orders_countPrimitive_9 : decode prog_6_method_6_code 9 = .ok (.aload_n 0, 1) := by decide +kernel
theorem d_Orders_countPrimitive_10 : decode prog_6_method_6_code 10 = .ok (.lload_n 2, 1) := by decide +kernel
theorem d_Orders_countPrimitive_11 : decode prog_6_method_6_code 11 = .ok (.invokevirtual 29, 3) := by decide +kernel
theorem d_Orders_countPrimitive_14 : decode prog_6_method_6_code 14 = .ok (.iconst 0, 1) := by decide +kernel
theorem d_Orders_countPrimitive_15 : decode prog_6_method_6_code 15 = .ok (.istore 6, 2) := by decide +kernel
theorem d_Orders_countPrimitive_17 : decode prog_6_method_6_code 17 = .ok (.iload 6, 2) := by decide +kernel
theorem d_Orders_countPrimitive_19 : decode prog_6_method_6_code 19 = .ok (.aload_n 0, 1) := by decide +kernel
theorem d_Orders_countPrimitive_20 : decode prog_6_method_6_code 20 = .ok (.getfield 33, 3) := by decide +kernel
theorem d_Orders_countPrimitive_23 : decode prog_6_method_6_code 23 = .ok (.if_icmp .ge 46, 3) := by decide +kernel
theorem d_Orders_countPrimitive_26 : decode prog_6_method_6_code 26 = .ok (.iload 6, 2) := by decide +kernel
theorem d_Orders_countPrimitive_28 : decode prog_6_method_6_code 28 = .ok (.aload_n 0, 1) := by decide +kernel
theorem d_Orders_countPrimitive_29 : decode prog_6_method_6_code 29 = .ok (.getfield 9, 3) := by decide +kernel
theorem d_Orders_countPrimitive_32 : decode prog_6_method_6_code 32 = .ok (.arraylength, 1) := by decide +kernel
theorem d_Orders_countPrimitive_33 : decode prog_6_method_6_code 33 = .ok (.if_icmp .ge 36, 3) := by decide +kernel
theorem d_Orders_countPrimitive_36 : decode prog_6_method_6_code 36 = .ok (.aload_n 0, 1) := by decide +kernel
theorem d_Orders_countPrimitive_37 : decode prog_6_method_6_code 37 = .ok (.getfield 9, 3) := by decide +kernel
theorem d_Orders_countPrimitive_40 : decode prog_6_method_6_code 40 = .ok (.iload 6, 2) := by decide +kernel
theorem d_Orders_countPrimitive_42 : decode prog_6_method_6_code 42 = .ok (.laload, 1) := by decide +kernel
theorem d_Orders_countPrimitive_43 : decode prog_6_method_6_code 43 = .ok (.lconst 1, 1) := by decide +kernel
theorem d_Orders_countPrimitive_44 : decode prog_6_method_6_code 44 = .ok (.lcmp, 1) := by decide +kernel
theorem d_Orders_countPrimitive_45 : decode prog_6_method_6_code 45 = .ok (.ifCond .le 18, 3) := by decide +kernel
theorem d_Orders_countPrimitive_48 : decode prog_6_method_6_code 48 = .ok (.lload 4, 2) := by decide +kernel
theorem d_Orders_countPrimitive_50 : decode prog_6_method_6_code 50 = .ok (.lload 4, 2) := by decide +kernel
theorem d_Orders_countPrimitive_52 : decode prog_6_method_6_code 52 = .ok (.aload_n 0, 1) := by decide +kernel
theorem d_Orders_countPrimitive_53 : decode prog_6_method_6_code 53 = .ok (.getfield 9, 3) := by decide +kernel
theorem d_Orders_countPrimitive_56 : decode prog_6_method_6_code 56 = .ok (.iload 6, 2) := by decide +kernel
theorem d_Orders_countPrimitive_58 : decode prog_6_method_6_code 58 = .ok (.laload, 1) := by decide +kernel
theorem d_Orders_countPrimitive_59 : decode prog_6_method_6_code 59 = .ok (.ldiv, 1) := by decide +kernel
theorem d_Orders_countPrimitive_60 : decode prog_6_method_6_code 60 = .ok (.lsub, 1) := by decide +kernel
theorem d_Orders_countPrimitive_61 : decode prog_6_method_6_code 61 = .ok (.lstore 4, 2) := by decide +kernel
theorem d_Orders_countPrimitive_63 : decode prog_6_method_6_code 63 = .ok (.iinc 6 1, 3) := by decide +kernel
theorem d_Orders_countPrimitive_66 : decode prog_6_method_6_code 66 = .ok (.goto (-49), 3) := by decide +kernel
theorem d_Orders_countPrimitive_69 : decode prog_6_method_6_code 69 = .ok (.iload_n 1, 1) := by decide +kernel
theorem d_Orders_countPrimitive_70 : decode prog_6_method_6_code 70 = .ok (.ifCond .le 11, 3) := by decide +kernel
theorem d_Orders_countPrimitive_73 : decode prog_6_method_6_code 73 = .ok (.lload 4, 2) := by decide +kernel
theorem d_Orders_countPrimitive_75 : decode prog_6_method_6_code 75 = .ok (.iload_n 1, 1) := by decide +kernel
theorem d_Orders_countPrimitive_76 : decode prog_6_method_6_code 76 = .ok (.i2l, 1) := by decide +kernel
theorem d_Orders_countPrimitive_77 : decode prog_6_method_6_code 77 = .ok (.ldiv, 1) := by decide +kernel
theorem d_Orders_countPrimitive_78 : decode prog_6_method_6_code 78 = .ok (.goto 4, 3) := by decide +kernel
theorem d_Orders_countPrimitive_81 : decode prog_6_method_6_code 81 = .ok (.lconst 0, 1) := by decide +kernel
theorem d_Orders_countPrimitive_82 : decode prog_6_method_6_code 82 = .ok (.lreturn, 1) := by decide +kernel
def cf_Orders_countPrimitive_B17 (c : Nat) (K17 : Int32 → Int64 → Int32 → Wd → Prop) (P : Int64 → Wd → Prop) (x1 : Int32) (x4 : Int64) (x6 : Int32) (w : Wd) : Prop :=
  (((w.1 c 1) ≤ x6 → ((x1 ≤ 0 → P (0 : Int64) w) ∧ (¬ x1 ≤ 0 → ¬ x1.toInt64 = 0 ∧ P (x4 / x1.toInt64) w))) ∧ (¬ (w.1 c 1) ≤ x6 → (((16 : Int32) ≤ x6 → ((x1 ≤ 0 → P (0 : Int64) w) ∧ (¬ x1 ≤ 0 → ¬ x1.toInt64 = 0 ∧ P (x4 / x1.toInt64) w))) ∧ (¬ (16 : Int32) ≤ x6 → vp_in x6 16 ∧ (((w.2 (c + 1) x6.toNatClampNeg) ≤ (1 : Int64) → ∀ v3, v3 = x6 + (1 : Int32) → K17 x1 x4 v3 w) ∧ (¬ (w.2 (c + 1) x6.toNatClampNeg) ≤ (1 : Int64) → vp_in x6 16 ∧ ¬ (w.2 (c + 1) x6.toNatClampNeg) = 0 ∧ ∀ v4, v4 = x4 - (x4 / (w.2 (c + 1) x6.toNatClampNeg)) → ∀ v5, v5 = x6 + (1 : Int32) → K17 x1 v4 v5 w))))))
def cf_Orders_countPrimitive_L17 (c : Nat)  (P : Int64 → Wd → Prop) : Nat → Int32 → Int64 → Int32 → Wd → Prop
  | 0 => fun x1 x4 x6 w => False
  | n + 1 => fun x1 x4 x6 w => cf_Orders_countPrimitive_B17 c (cf_Orders_countPrimitive_L17 c P n) P x1 x4 x6 w
def cf_Orders_countPrimitive (c : Nat) (a0 : Int32) (w : Wd) (P : Int64 → Wd → Prop) : Prop :=
  ∀ v1, v1 = (lshl (1 : Int64) a0) - (1 : Int64) → cf_Orders_findPrimes c v1 w (fun w2 => ∃ n, cf_Orders_countPrimitive_L17 c P n a0 v1 (0 : Int32) w2)
theorem cf_Orders_countPrimitive_B17_ok {g : ayG} {d : Nat} (hd : 2 ≤ d) (c : Nat) (hc : ay_sh c = (15, 0)) (w : Wd) (K17 : Int32 → Int64 → Int32 → Wd → Prop) (P : Int64 → Wd → Prop) (Q : Option Value → Wd → Prop) (hQ : ∀ x w2, P x w2 → Q (some (.long x)) w2) (hK17 : ∀ (x1 : Int32) (x4 : Int64) (x6 : Int32) (w : Wd), (K17 x1 x4 x6 w → wp g (fun _ => True) y_Orders_countPrimitive prog_6_method_6_code 7 (some FieldType.long) d 17 [(0, .ref (g.1 + c)), (1, .int x1), (4, .long x4), (6, .int x6)] [] w Q)) (x1 : Int32) (x4 : Int64) (x6 : Int32) (h : cf_Orders_countPrimitive_B17 c K17 P x1 x4 x6 w) : wp g (fun _ => True) y_Orders_countPrimitive prog_6_method_6_code 7 (some FieldType.long) d 17 [(0, .ref (g.1 + c)), (1, .int x1), (4, .long x4), (6, .int x6)] [] w Q := by
  unfold cf_Orders_countPrimitive_B17 at h
  refine am_iload d_Orders_countPrimitive_17 3 rfl ?_
  refine am_aload_n d_Orders_countPrimitive_19 0 rfl ?_
  refine am_getf (T := F_Orders) (fs := ob_Orders g w c) (C := R_Orders) (N := 2) (ci := 5) 1 d_Orders_countPrimitive_20 wd_131 rfl (ay_shlt hc (by decide)) (el_Orders hc) rfl i_Orders (by decide) rfl ?_
  refine am_icmp_ge (tgt := 69) d_Orders_countPrimitive_23 (by decide) (fun c23 => ?_) (fun c23 => ?_)
  · have h := h.1 c23
    refine am_iload_n d_Orders_countPrimitive_69 1 rfl ?_
    refine am_if_le (tgt := 81) d_Orders_countPrimitive_70 (by decide) (fun c70 => ?_) (fun c70 => ?_)
    · have h := h.1 c70
      refine am_lconst (v := 0) d_Orders_countPrimitive_81 rfl ?_
      exact am_lreturn d_Orders_countPrimitive_82 rfl (hQ (0 : Int64) w h)
    · have h := h.2 c70
      refine am_lload d_Orders_countPrimitive_73 2 rfl ?_
      refine am_iload_n d_Orders_countPrimitive_75 1 rfl ?_
      refine am_i2l d_Orders_countPrimitive_76 ?_
      have hz77 := h.1
      have h := h.2
      refine am_ldiv d_Orders_countPrimitive_77 hz77 ?_
      refine am_goto (tgt := 82) d_Orders_countPrimitive_78 (by decide) ?_
      exact am_lreturn d_Orders_countPrimitive_82 rfl (hQ (x4 / x1.toInt64) w h)
  · have h := h.2 c23
    refine am_iload d_Orders_countPrimitive_26 3 rfl ?_
    refine am_aload_n d_Orders_countPrimitive_28 0 rfl ?_
    refine am_getf (T := F_Orders) (fs := ob_Orders g w c) (C := R_Orders) (N := 2) (ci := 5) 0 d_Orders_countPrimitive_29 wd_130 rfl (ay_shlt hc (by decide)) (el_Orders hc) rfl i_Orders (by decide) rfl ?_
    refine am_alen (v := 16) d_Orders_countPrimitive_32 (sh_O1 hc) (by decide) rfl ?_
    refine am_icmp_ge (tgt := 69) d_Orders_countPrimitive_33 (by decide) (fun c33 => ?_) (fun c33 => ?_)
    · have h := h.1 c33
      refine am_iload_n d_Orders_countPrimitive_69 1 rfl ?_
      refine am_if_le (tgt := 81) d_Orders_countPrimitive_70 (by decide) (fun c70 => ?_) (fun c70 => ?_)
      · have h := h.1 c70
        refine am_lconst (v := 0) d_Orders_countPrimitive_81 rfl ?_
        exact am_lreturn d_Orders_countPrimitive_82 rfl (hQ (0 : Int64) w h)
      · have h := h.2 c70
        refine am_lload d_Orders_countPrimitive_73 2 rfl ?_
        refine am_iload_n d_Orders_countPrimitive_75 1 rfl ?_
        refine am_i2l d_Orders_countPrimitive_76 ?_
        have hz77 := h.1
        have h := h.2
        refine am_ldiv d_Orders_countPrimitive_77 hz77 ?_
        refine am_goto (tgt := 82) d_Orders_countPrimitive_78 (by decide) ?_
        exact am_lreturn d_Orders_countPrimitive_82 rfl (hQ (x4 / x1.toInt64) w h)
    · have h := h.2 c33
      refine am_aload_n d_Orders_countPrimitive_36 0 rfl ?_
      refine am_getf (T := F_Orders) (fs := ob_Orders g w c) (C := R_Orders) (N := 2) (ci := 5) 0 d_Orders_countPrimitive_37 wd_130 rfl (ay_shlt hc (by decide)) (el_Orders hc) rfl i_Orders (by decide) rfl ?_
      refine am_iload d_Orders_countPrimitive_40 3 rfl ?_
      have hi42 := h.1
      have h := h.2
      refine am_laload d_Orders_countPrimitive_42 (sh_O1 hc) hi42 ?_
      refine am_lconst (v := 1) d_Orders_countPrimitive_43 rfl ?_
      refine am_lif_le (tgt := 63) d_Orders_countPrimitive_44 d_Orders_countPrimitive_45 (by decide) (fun c44 => ?_) (fun c44 => ?_)
      · have h := h.1 c44
        obtain ⟨v3, ev3⟩ : ∃ z : Int32, z = x6 + (1 : Int32) := ⟨_, rfl⟩
        have h := h v3 ev3
        refine am_iinc (v := v3) (l' := [(6, .int v3), (0, .ref (g.1 + c)), (1, .int x1), (4, .long x4)]) d_Orders_countPrimitive_63 3 rfl (by rw [ev3]; rfl) (by decide) rfl ?_
        refine am_goto (tgt := 17) d_Orders_countPrimitive_66 (by decide) ?_
        refine am_sub [1, 2, 3, 0] rfl ?_
        exact hK17 x1 x4 v3 w h
      · have h := h.2 c44
        refine am_lload d_Orders_countPrimitive_48 2 rfl ?_
        refine am_lload d_Orders_countPrimitive_50 2 rfl ?_
        refine am_aload_n d_Orders_countPrimitive_52 0 rfl ?_
        refine am_getf (T := F_Orders) (fs := ob_Orders g w c) (C := R_Orders) (N := 2) (ci := 5) 0 d_Orders_countPrimitive_53 wd_130 rfl (ay_shlt hc (by decide)) (el_Orders hc) rfl i_Orders (by decide) rfl ?_
        refine am_iload d_Orders_countPrimitive_56 3 rfl ?_
        have hi58 := h.1
        have h := h.2
        refine am_laload d_Orders_countPrimitive_58 (sh_O1 hc) hi58 ?_
        have hz59 := h.1
        have h := h.2
        refine am_ldiv d_Orders_countPrimitive_59 hz59 ?_
        refine am_lsub d_Orders_countPrimitive_60 ?_
        refine am_topl (fun v4 ev4 => ?_)
        have h := h v4 ev4
        refine am_lstore (l' := [(4, .long v4), (0, .ref (g.1 + c)), (1, .int x1), (6, .int x6)]) d_Orders_countPrimitive_61 (by decide) rfl ?_
        obtain ⟨v5, ev5⟩ : ∃ z : Int32, z = x6 + (1 : Int32) := ⟨_, rfl⟩
        have h := h v5 ev5
        refine am_iinc (v := v5) (l' := [(6, .int v5), (4, .long v4), (0, .ref (g.1 + c)), (1, .int x1)]) d_Orders_countPrimitive_63 3 rfl (by rw [ev5]; rfl) (by decide) rfl ?_
        refine am_goto (tgt := 17) d_Orders_countPrimitive_66 (by decide) ?_
        refine am_sub [2, 3, 1, 0] rfl ?_
        exact hK17 x1 v4 v5 w h
theorem cf_Orders_countPrimitive_L17_ok {g : ayG} {d : Nat} (hd : 2 ≤ d) (c : Nat) (hc : ay_sh c = (15, 0))  (P : Int64 → Wd → Prop) (Q : Option Value → Wd → Prop) (hQ : ∀ x w2, P x w2 → Q (some (.long x)) w2)  : ∀ (n : Nat) (x1 : Int32) (x4 : Int64) (x6 : Int32) (w : Wd) (h : cf_Orders_countPrimitive_L17 c P n x1 x4 x6 w), wp g (fun _ => True) y_Orders_countPrimitive prog_6_method_6_code 7 (some FieldType.long) d 17 [(0, .ref (g.1 + c)), (1, .int x1), (4, .long x4), (6, .int x6)] [] w Q
  | 0, x1, x4, x6, w, h => False.elim h
  | n + 1, x1, x4, x6, w, h => cf_Orders_countPrimitive_B17_ok hd c hc w (cf_Orders_countPrimitive_L17 c P n) P Q hQ (fun x1 x4 x6 w h => cf_Orders_countPrimitive_L17_ok hd c hc  P Q hQ  n x1 x4 x6 w h) x1 x4 x6 h
theorem cf_Orders_countPrimitive_ok {g : ayG} {d : Nat} (hd : 2 ≤ d) (c : Nat) (a0 : Int32) (hc : ay_sh c = (15, 0)) (w : Wd) (P : Int64 → Wd → Prop) (h : cf_Orders_countPrimitive c a0 w P) : Call g y_Orders_countPrimitive prog_6_method_6_code 7 (some FieldType.long) d [.ref (g.1 + c), .int a0] w (fun (r : Option Value) (w2 : Wd) => ∃ x, r = some (.long x) ∧ P x w2) := by
  unfold cf_Orders_countPrimitive at h
  refine am_enter mi_Orders_countPrimitive (Nat.le_of_ble_eq_true rfl) ?_
  have hQ : ∀ x w2, P x w2 → (fun (r : Option Value) (w2 : Wd) => ∃ x, r = some (.long x) ∧ P x w2) (some (.long x)) w2 := fun x w2 h => ⟨x, rfl, h⟩
  generalize (fun (r : Option Value) (w2 : Wd) => ∃ x, r = some (.long x) ∧ P x w2) = Q at hQ ⊢
  show wp g (fun _ => True) y_Orders_countPrimitive prog_6_method_6_code 7 (some FieldType.long) d 0 [(0, .ref (g.1 + c)), (1, .int a0)] [] w Q
  refine am_lconst (v := 1) d_Orders_countPrimitive_0 rfl ?_
  refine am_iload_n d_Orders_countPrimitive_1 1 rfl ?_
  refine am_lshl d_Orders_countPrimitive_2 ?_
  refine am_lconst (v := 1) d_Orders_countPrimitive_3 rfl ?_
  refine am_lsub d_Orders_countPrimitive_4 ?_
  refine am_topl (fun v1 ev1 => ?_)
  have h := h v1 ev1
  refine am_lstore_n (l' := [(2, .long v1), (0, .ref (g.1 + c)), (1, .int a0)]) d_Orders_countPrimitive_5 (by decide) rfl ?_
  refine am_lload_n d_Orders_countPrimitive_6 0 rfl ?_
  refine am_lstore (l' := [(4, .long v1), (2, .long v1), (0, .ref (g.1 + c)), (1, .int a0)]) d_Orders_countPrimitive_7 (by decide) rfl ?_
  refine am_aload_n d_Orders_countPrimitive_9 2 rfl ?_
  refine am_lload_n d_Orders_countPrimitive_10 1 rfl ?_
  refine am_callV (C := y_Orders_findPrimes.cls) (d2 := d - 1) [.long v1] d_Orders_countPrimitive_11 mi_Orders_findPrimes wd_663 wd_665 ws_Orders_findPrimes (ay_shlt hc (by decide)) (el_Orders hc) rfl rfl (by omega) rfl rfl (Nat.le_of_ble_eq_true rfl) ?_
  refine Call.post ?_ (cf_Orders_findPrimes_ok (by omega) c v1 hc w _ h)
  rintro _ w2 ⟨rfl, h⟩
  show wp g (fun _ => True) y_Orders_countPrimitive prog_6_method_6_code 7 (some FieldType.long) d 14 [(4, .long v1), (2, .long v1), (0, .ref (g.1 + c)), (1, .int a0)] [] w2 Q
  refine am_iconst (v := 0) d_Orders_countPrimitive_14 rfl ?_
  refine am_istore (l' := [(6, .int (0 : Int32)), (4, .long v1), (2, .long v1), (0, .ref (g.1 + c)), (1, .int a0)]) d_Orders_countPrimitive_15 (by decide) rfl ?_
  refine am_sub [3, 4, 1, 0] rfl ?_
  obtain ⟨n, h⟩ := h
  exact cf_Orders_countPrimitive_L17_ok (by omega) c hc  P Q hQ  n a0 v1 (0 : Int32) w2 h
theorem d_Orders_staysRisen_0 : decode prog_6_method_7_code 0 = .ok (.aload_n 0, 1) := by decide +kernel
theorem d_Orders_staysRisen_1 : decode prog_6_method_7_code 1 = .ok (.lload_n 1, 1) := by decide +kernel
theorem d_Orders_staysRisen_2 : decode prog_6_method_7_code 2 = .ok (.invokevirtual 21, 3) := by decide +kernel
theorem d_Orders_staysRisen_5 : decode prog_6_method_7_code 5 = .ok (.lstore 4, 2) := by decide +kernel
theorem d_Orders_staysRisen_7 : decode prog_6_method_7_code 7 = .ok (.lload 4, 2) := by decide +kernel
theorem d_Orders_staysRisen_9 : decode prog_6_method_7_code 9 = .ok (.lconst 1, 1) := by decide +kernel
theorem d_Orders_staysRisen_10 : decode prog_6_method_7_code 10 = .ok (.lcmp, 1) := by decide +kernel
theorem d_Orders_staysRisen_11 : decode prog_6_method_7_code 11 = .ok (.ifCond .ge 5, 3) := by decide +kernel
theorem d_Orders_staysRisen_14 : decode prog_6_method_7_code 14 = .ok (.iconst 0, 1) := by decide +kernel
theorem d_Orders_staysRisen_15 : decode prog_6_method_7_code 15 = .ok (.ireturn, 1) := by decide +kernel
theorem d_Orders_staysRisen_16 : decode prog_6_method_7_code 16 = .ok (.lconst 1, 1) := by decide +kernel
theorem d_Orders_staysRisen_17 : decode prog_6_method_7_code 17 = .ok (.lload_n 1, 1) := by decide +kernel
theorem d_Orders_staysRisen_18 : decode prog_6_method_7_code 18 = .ok (.invokestatic 25, 3) := by decide +kernel
theorem d_Orders_staysRisen_21 : decode prog_6_method_7_code 21 = .ok (.lshl, 1) := by decide +kernel
theorem d_Orders_staysRisen_22 : decode prog_6_method_7_code 22 = .ok (.lconst 1, 1) := by decide +kernel
theorem d_Orders_staysRisen_23 : decode prog_6_method_7_code 23 = .ok (.lsub, 1) := by decide +kernel
theorem d_Orders_staysRisen_24 : decode prog_6_method_7_code 24 = .ok (.lload 4, 2) := by decide +kernel
theorem d_Orders_staysRisen_26 : decode prog_6_method_7_code 26 = .ok (.ldiv, 1) := by decide +kernel
theorem d_Orders_staysRisen_27 : decode prog_6_method_7_code 27 = .ok (.lstore 6, 2) := by decide +kernel
theorem d_Orders_staysRisen_29 : decode prog_6_method_7_code 29 = .ok (.aload_n 0, 1) := by decide +kernel
theorem d_Orders_staysRisen_30 : decode prog_6_method_7_code 30 = .ok (.iload_n 3, 1) := by decide +kernel
theorem d_Orders_staysRisen_31 : decode prog_6_method_7_code 31 = .ok (.i2l, 1) := by decide +kernel
theorem d_Orders_staysRisen_32 : decode prog_6_method_7_code 32 = .ok (.invokevirtual 29, 3) := by decide +kernel
theorem d_Orders_staysRisen_35 : decode prog_6_method_7_code 35 = .ok (.iconst 0, 1) := by decide +kernel
theorem d_Orders_staysRisen_36 : decode prog_6_method_7_code 36 = .ok (.istore 8, 2) := by decide +kernel
theorem d_Orders_staysRisen_38 : decode prog_6_method_7_code 38 = .ok (.iload 8, 2) := by decide +kernel
theorem d_Orders_staysRisen_40 : decode prog_6_method_7_code 40 = .ok (.aload_n 0, 1) := by decide +kernel
theorem d_Orders_staysRisen_41 : decode prog_6_method_7_code 41 = .ok (.getfield 33, 3) := by decide +kernel
theorem d_Orders_staysRisen_44 : decode prog_6_method_7_code 44 = .ok (.if_icmp .ge 59, 3) := by decide +kernel
theorem d_Orders_staysRisen_47 : decode prog_6_method_7_code 47 = .ok (.iload 8, 2) := by decide +kernel
theorem d_Orders_staysRisen_49 : decode prog_6_method_7_code 49 = .ok (.aload_n 0, 1) := by decide +kernel
theorem d_Orders_staysRisen_50 : decode prog_6_method_7_code 50 = .ok (.getfield 9, 3) := by decide +kernel
theorem d_Orders_staysRisen_53 : decode prog_6_method_7_code 53 = .ok (.arraylength, 1) := by decide +kernel
theorem d_Orders_staysRisen_54 : decode prog_6_method_7_code 54 = .ok (.if_icmp .ge 49, 3) := by decide +kernel
theorem d_Orders_staysRisen_57 : decode prog_6_method_7_code 57 = .ok (.aload_n 0, 1) := by decide +kernel
theorem d_Orders_staysRisen_58 : decode prog_6_method_7_code 58 = .ok (.getfield 9, 3) := by decide +kernel
theorem d_Orders_staysRisen_61 : decode prog_6_method_7_code 61 = .ok (.iload 8, 2) := by decide +kernel
theorem d_Orders_staysRisen_63 : decode prog_6_method_7_code 63 = .ok (.laload, 1) := by decide +kernel
theorem d_Orders_staysRisen_64 : decode prog_6_method_7_code 64 = .ok (.lstore 9, 2) := by decide +kernel
theorem d_Orders_staysRisen_66 : decode prog_6_method_7_code 66 = .ok (.lload 9, 2) := by decide +kernel
theorem d_Orders_staysRisen_68 : decode prog_6_method_7_code 68 = .ok (.ldc2_w 19, 3) := by decide +kernel
theorem d_Orders_staysRisen_71 : decode prog_6_method_7_code 71 = .ok (.lcmp, 1) := by decide +kernel
theorem d_Orders_staysRisen_72 : decode prog_6_method_7_code 72 = .ok (.ifCond .lt 23, 3) := by decide +kernel
theorem d_Orders_staysRisen_75 : decode prog_6_method_7_code 75 = .ok (.lload 4, 2) := by decide +kernel
theorem d_Orders_staysRisen_77 : decode prog_6_method_7_code 77 = .ok (.lload 9, 2) := by decide +kernel
theorem d_Orders_staysRisen_79 : decode prog_6_method_7_code 79 = .ok (.lrem, 1) := by decide +kernel
theorem d_Orders_staysRisen_80 : decode prog_6_method_7_code 80 = .ok (.lconst 0, 1) := by decide +kernel
theorem d_Orders_staysRisen_81 : decode prog_6_method_7_code 81 = .ok (.lcmp, 1) := by decide +kernel
theorem d_Orders_staysRisen_82 : decode prog_6_method_7_code 82 = .ok (.ifCond .ne 13, 3) := by decide +kernel
theorem d_Orders_staysRisen_85 : decode prog_6_method_7_code 85 = .ok (.lload 6, 2) := by decide +kernel
theorem d_Orders_staysRisen_87 : decode prog_6_method_7_code 87 = .ok (.lload 9, 2) := by decide +kernel
theorem d_Orders_staysRisen_89 : decode prog_6_method_7_code 89 = .ok (.lrem, 1) := by decide +kernel
theorem d_Orders_staysRisen_90 : decode prog_6_method_7_code 90 = .ok (.lconst 0, 1) := by decide +kernel
theorem d_Orders_staysRisen_91 : decode prog_6_method_7_code 91 = .ok (.lcmp, 1) := by decide +kernel
theorem d_Orders_staysRisen_92 : decode prog_6_method_7_code 92 = .ok (.ifCond .ne 5, 3) := by decide +kernel
theorem d_Orders_staysRisen_95 : decode prog_6_method_7_code 95 = .ok (.iconst 0, 1) := by decide +kernel
theorem d_Orders_staysRisen_96 : decode prog_6_method_7_code 96 = .ok (.ireturn, 1) := by decide +kernel
theorem d_Orders_staysRisen_97 : decode prog_6_method_7_code 97 = .ok (.iinc 8 1, 3) := by decide +kernel
theorem d_Orders_staysRisen_100 : decode prog_6_method_7_code 100 = .ok (.goto (-62), 3) := by decide +kernel
theorem d_Orders_staysRisen_103 : decode prog_6_method_7_code 103 = .ok (.iconst 1, 1) := by decide +kernel
theorem d_Orders_staysRisen_104 : decode prog_6_method_7_code 104 = .ok (.ireturn, 1) := by decide +kernel
def cf_Orders_staysRisen_B38 (c : Nat) (K38 : Int64 → Int64 → Int32 → Wd → Prop) (P : Int32 → Wd → Prop) (x4 : Int64) (x6 : Int64) (x8 : Int32) (w : Wd) : Prop :=
  (((w.1 c 1) ≤ x8 → P (1 : Int32) w) ∧ (¬ (w.1 c 1) ≤ x8 → (((16 : Int32) ≤ x8 → P (1 : Int32) w) ∧ (¬ (16 : Int32) ≤ x8 → vp_in x8 16 ∧ ∀ v6, v6 = w.2 (c + 1) x8.toNatClampNeg → ((v6 < (2 : Int64) → P (0 : Int32) w) ∧ (¬ v6 < (2 : Int64) → ¬ v6 = 0 ∧ ((¬ (lrem x4 v6) = (0 : Int64) → P (0 : Int32) w) ∧ ((lrem x4 v6) = (0 : Int64) → ¬ v6 = 0 ∧ ((¬ (lrem x6 v6) = (0 : Int64) → ∀ v7, v7 = x8 + (1 : Int32) → K38 x4 x6 v7 w) ∧ ((lrem x6 v6) = (0 : Int64) → P (0 : Int32) w))))))))))
def cf_Orders_staysRisen_L38 (c : Nat)  (P : Int32 → Wd → Prop) : Nat → Int64 → Int64 → Int32 → Wd → Prop
  | 0 => fun x4 x6 x8 w => False
  | n + 1 => fun x4 x6 x8 w => cf_Orders_staysRisen_B38 c (cf_Orders_staysRisen_L38 c P n) P x4 x6 x8 w
def cf_Orders_staysRisen (c : Nat) (a0 : Int64) (a1 : Int32) (w : Wd) (P : Int32 → Wd → Prop) : Prop :=
  cf_Orders_ofIrreducible c a0 w (fun r1 w2 => (((1 : Int64) ≤ r1 → cf_Polys_degree a0 (fun r3 => ¬ r1 = 0 ∧ ∀ v4, v4 = ((lshl (1 : Int64) r3) - (1 : Int64)) / r1 → cf_Orders_findPrimes c a1.toInt64 w2 (fun w5 => ∃ n, cf_Orders_staysRisen_L38 c P n r1 v4 (0 : Int32) w5))) ∧ (¬ (1 : Int64) ≤ r1 → P (0 : Int32) w2)))
theorem cf_Orders_staysRisen_B38_ok {g : ayG} {d : Nat} (hd : 5 ≤ d) (c : Nat) (hc : ay_sh c = (15, 0)) (w : Wd) (K38 : Int64 → Int64 → Int32 → Wd → Prop) (P : Int32 → Wd → Prop) (Q : Option Value → Wd → Prop) (hQ : ∀ x w2, P x w2 → Q (some (.int x)) w2) (hK38 : ∀ (x4 : Int64) (x6 : Int64) (x8 : Int32) (w : Wd), (K38 x4 x6 x8 w → wp g (fun _ => True) y_Orders_staysRisen prog_6_method_7_code 11 (some FieldType.boolean) d 38 [(0, .ref (g.1 + c)), (4, .long x4), (6, .long x6), (8, .int x8)] [] w Q)) (x4 : Int64) (x6 : Int64) (x8 : Int32) (h : cf_Orders_staysRisen_B38 c K38 P x4 x6 x8 w) : wp g (fun _ => True) y_Orders_staysRisen prog_6_method_7_code 11 (some FieldType.boolean) d 38 [(0, .ref (g.1 + c)), (4, .long x4), (6, .long x6), (8, .int x8)] [] w Q := by
  unfold cf_Orders_staysRisen_B38 at h
  refine am_iload d_Orders_staysRisen_38 3 rfl ?_
  refine am_aload_n d_Orders_staysRisen_40 0 rfl ?_
  refine am_getf (T := F_Orders) (fs := ob_Orders g w c) (C := R_Orders) (N := 2) (ci := 5) 1 d_Orders_staysRisen_41 wd_131 rfl (ay_shlt hc (by decide)) (el_Orders hc) rfl i_Orders (by decide) rfl ?_
  refine am_icmp_ge (tgt := 103) d_Orders_staysRisen_44 (by decide) (fun c44 => ?_) (fun c44 => ?_)
  · have h := h.1 c44
    refine am_iconst (v := 1) d_Orders_staysRisen_103 rfl ?_
    exact am_ireturn d_Orders_staysRisen_104 rfl rfl (hQ (1 : Int32) w h)
  · have h := h.2 c44
    refine am_iload d_Orders_staysRisen_47 3 rfl ?_
    refine am_aload_n d_Orders_staysRisen_49 0 rfl ?_
    refine am_getf (T := F_Orders) (fs := ob_Orders g w c) (C := R_Orders) (N := 2) (ci := 5) 0 d_Orders_staysRisen_50 wd_130 rfl (ay_shlt hc (by decide)) (el_Orders hc) rfl i_Orders (by decide) rfl ?_
    refine am_alen (v := 16) d_Orders_staysRisen_53 (sh_O1 hc) (by decide) rfl ?_
    refine am_icmp_ge (tgt := 103) d_Orders_staysRisen_54 (by decide) (fun c54 => ?_) (fun c54 => ?_)
    · have h := h.1 c54
      refine am_iconst (v := 1) d_Orders_staysRisen_103 rfl ?_
      exact am_ireturn d_Orders_staysRisen_104 rfl rfl (hQ (1 : Int32) w h)
    · have h := h.2 c54
      refine am_aload_n d_Orders_staysRisen_57 0 rfl ?_
      refine am_getf (T := F_Orders) (fs := ob_Orders g w c) (C := R_Orders) (N := 2) (ci := 5) 0 d_Orders_staysRisen_58 wd_130 rfl (ay_shlt hc (by decide)) (el_Orders hc) rfl i_Orders (by decide) rfl ?_
      refine am_iload d_Orders_staysRisen_61 3 rfl ?_
      have hi63 := h.1
      have h := h.2
      refine am_laload d_Orders_staysRisen_63 (sh_O1 hc) hi63 ?_
      refine am_topl (fun v6 ev6 => ?_)
      have h := h v6 ev6
      refine am_lstore (l' := [(9, .long v6), (0, .ref (g.1 + c)), (4, .long x4), (6, .long x6), (8, .int x8)]) d_Orders_staysRisen_64 (by decide) rfl ?_
      refine am_lload d_Orders_staysRisen_66 0 rfl ?_
      refine am_ldc2 (v := 2) d_Orders_staysRisen_68 wd_657 ?_
      refine am_lif_lt (tgt := 95) d_Orders_staysRisen_71 d_Orders_staysRisen_72 (by decide) (fun c71 => ?_) (fun c71 => ?_)
      · have h := h.1 c71
        refine am_iconst (v := 0) d_Orders_staysRisen_95 rfl ?_
        exact am_ireturn d_Orders_staysRisen_96 rfl rfl (hQ (0 : Int32) w h)
      · have h := h.2 c71
        refine am_lload d_Orders_staysRisen_75 2 rfl ?_
        refine am_lload d_Orders_staysRisen_77 0 rfl ?_
        have hz79 := h.1
        have h := h.2
        refine am_lrem d_Orders_staysRisen_79 hz79 ?_
        refine am_lconst (v := 0) d_Orders_staysRisen_80 rfl ?_
        refine am_lif_ne (tgt := 95) d_Orders_staysRisen_81 d_Orders_staysRisen_82 (by decide) (fun c81 => ?_) (fun c81 => ?_)
        · have h := h.1 c81
          refine am_iconst (v := 0) d_Orders_staysRisen_95 rfl ?_
          exact am_ireturn d_Orders_staysRisen_96 rfl rfl (hQ (0 : Int32) w h)
        · have h := h.2 c81
          refine am_lload d_Orders_staysRisen_85 3 rfl ?_
          refine am_lload d_Orders_staysRisen_87 0 rfl ?_
          have hz89 := h.1
          have h := h.2
          refine am_lrem d_Orders_staysRisen_89 hz89 ?_
          refine am_lconst (v := 0) d_Orders_staysRisen_90 rfl ?_
          refine am_lif_ne (tgt := 97) d_Orders_staysRisen_91 d_Orders_staysRisen_92 (by decide) (fun c91 => ?_) (fun c91 => ?_)
          · have h := h.1 c91
            obtain ⟨v7, ev7⟩ : ∃ z : Int32, z = x8 + (1 : Int32) := ⟨_, rfl⟩
            have h := h v7 ev7
            refine am_iinc (v := v7) (l' := [(8, .int v7), (9, .long v6), (0, .ref (g.1 + c)), (4, .long x4), (6, .long x6)]) d_Orders_staysRisen_97 4 rfl (by rw [ev7]; rfl) (by decide) rfl ?_
            refine am_goto (tgt := 38) d_Orders_staysRisen_100 (by decide) ?_
            refine am_sub [2, 3, 4, 0] rfl ?_
            exact hK38 x4 x6 v7 w h
          · have h := h.2 c91
            refine am_iconst (v := 0) d_Orders_staysRisen_95 rfl ?_
            exact am_ireturn d_Orders_staysRisen_96 rfl rfl (hQ (0 : Int32) w h)
theorem cf_Orders_staysRisen_L38_ok {g : ayG} {d : Nat} (hd : 5 ≤ d) (c : Nat) (hc : ay_sh c = (15, 0))  (P : Int32 → Wd → Prop) (Q : Option Value → Wd → Prop) (hQ : ∀ x w2, P x w2 → Q (some (.int x)) w2)  : ∀ (n : Nat) (x4 : Int64) (x6 : Int64) (x8 : Int32) (w : Wd) (h : cf_Orders_staysRisen_L38 c P n x4 x6 x8 w), wp g (fun _ => True) y_Orders_staysRisen prog_6_method_7_code 11 (some FieldType.boolean) d 38 [(0, .ref (g.1 + c)), (4, .long x4), (6, .long x6), (8, .int x8)] [] w Q
  | 0, x4, x6, x8, w, h => False.elim h
  | n + 1, x4, x6, x8, w, h => cf_Orders_staysRisen_B38_ok hd c hc w (cf_Orders_staysRisen_L38 c P n) P Q hQ (fun x4 x6 x8 w h => cf_Orders_staysRisen_L38_ok hd c hc  P Q hQ  n x4 x6 x8 w h) x4 x6 x8 h
theorem cf_Orders_staysRisen_ok {g : ayG} {d : Nat} (hd : 5 ≤ d) (c : Nat) (a0 : Int64) (a1 : Int32) (hc : ay_sh c = (15, 0)) (w : Wd) (P : Int32 → Wd → Prop) (h : cf_Orders_staysRisen c a0 a1 w P) : Call g y_Orders_staysRisen prog_6_method_7_code 11 (some FieldType.boolean) d [.ref (g.1 + c), .long a0, .int a1] w (fun (r : Option Value) (w2 : Wd) => ∃ x, r = some (.int x) ∧ P x w2) := by
  unfold cf_Orders_staysRisen at h
  refine am_enter mi_Orders_staysRisen (Nat.le_of_ble_eq_true rfl) ?_
  have hQ : ∀ x w2, P x w2 → (fun (r : Option Value) (w2 : Wd) => ∃ x, r = some (.int x) ∧ P x w2) (some (.int x)) w2 := fun x w2 h => ⟨x, rfl, h⟩
  generalize (fun (r : Option Value) (w2 : Wd) => ∃ x, r = some (.int x) ∧ P x w2) = Q at hQ ⊢
  show wp g (fun _ => True) y_Orders_staysRisen prog_6_method_7_code 11 (some FieldType.boolean) d 0 [(0, .ref (g.1 + c)), (1, .long a0), (3, .int a1)] [] w Q
  refine am_aload_n d_Orders_staysRisen_0 0 rfl ?_
  refine am_lload_n d_Orders_staysRisen_1 1 rfl ?_
  refine am_callV (C := "TriSplits$Orders") (d2 := d - 1) [.long a0] d_Orders_staysRisen_2 mi_Orders_ofIrreducible wd_658 wd_659 wd_660 (ay_shlt hc (by decide)) (el_Orders hc) rfl rfl (by omega) rfl rfl (Nat.le_of_ble_eq_true rfl) ?_
  refine Call.post ?_ (cf_Orders_ofIrreducible_ok (by omega) c a0 hc w _ h)
  rintro _ w2 ⟨r1, rfl, h⟩
  show wp g (fun _ => True) y_Orders_staysRisen prog_6_method_7_code 11 (some FieldType.boolean) d 5 [(0, .ref (g.1 + c)), (1, .long a0), (3, .int a1)] [.long r1] w2 Q
  refine am_lstore (l' := [(4, .long r1), (0, .ref (g.1 + c)), (1, .long a0), (3, .int a1)]) d_Orders_staysRisen_5 (by decide) rfl ?_
  refine am_lload d_Orders_staysRisen_7 0 rfl ?_
  refine am_lconst (v := 1) d_Orders_staysRisen_9 rfl ?_
  refine am_lif_ge (tgt := 16) d_Orders_staysRisen_10 d_Orders_staysRisen_11 (by decide) (fun c10 => ?_) (fun c10 => ?_)
  · have h := h.1 c10
    refine am_lconst (v := 1) d_Orders_staysRisen_16 rfl ?_
    refine am_lload_n d_Orders_staysRisen_17 2 rfl ?_
    refine am_callS (d2 := d - 1) [.long a0] d_Orders_staysRisen_18 mi_Polys_degree wd_662 wd_391 (by omega) rfl rfl (Nat.le_of_ble_eq_true rfl) ?_
    refine Call.post ?_ (cf_Polys_degree_ok (by omega) a0  w2 _ h)
    rintro _ _ ⟨r3, rfl, rfl, h⟩
    show wp g (fun _ => True) y_Orders_staysRisen prog_6_method_7_code 11 (some FieldType.boolean) d 21 [(4, .long r1), (0, .ref (g.1 + c)), (1, .long a0), (3, .int a1)] [.int r3, .long (1 : Int64)] w2 Q
    refine am_lshl d_Orders_staysRisen_21 ?_
    refine am_lconst (v := 1) d_Orders_staysRisen_22 rfl ?_
    refine am_lsub d_Orders_staysRisen_23 ?_
    refine am_lload d_Orders_staysRisen_24 0 rfl ?_
    have hz26 := h.1
    have h := h.2
    refine am_ldiv d_Orders_staysRisen_26 hz26 ?_
    refine am_topl (fun v4 ev4 => ?_)
    have h := h v4 ev4
    refine am_lstore (l' := [(6, .long v4), (4, .long r1), (0, .ref (g.1 + c)), (1, .long a0), (3, .int a1)]) d_Orders_staysRisen_27 (by decide) rfl ?_
    refine am_aload_n d_Orders_staysRisen_29 2 rfl ?_
    refine am_iload_n d_Orders_staysRisen_30 4 rfl ?_
    refine am_i2l d_Orders_staysRisen_31 ?_
    refine am_callV (C := y_Orders_findPrimes.cls) (d2 := d - 1) [.long a1.toInt64] d_Orders_staysRisen_32 mi_Orders_findPrimes wd_663 wd_665 ws_Orders_findPrimes (ay_shlt hc (by decide)) (el_Orders hc) rfl rfl (by omega) rfl rfl (Nat.le_of_ble_eq_true rfl) ?_
    refine Call.post ?_ (cf_Orders_findPrimes_ok (by omega) c a1.toInt64 hc w2 _ h)
    rintro _ w5 ⟨rfl, h⟩
    show wp g (fun _ => True) y_Orders_staysRisen prog_6_method_7_code 11 (some FieldType.boolean) d 35 [(6, .long v4), (4, .long r1), (0, .ref (g.1 + c)), (1, .long a0), (3, .int a1)] [] w5 Q
    refine am_iconst (v := 0) d_Orders_staysRisen_35 rfl ?_
    refine am_istore (l' := [(8, .int (0 : Int32)), (6, .long v4), (4, .long r1), (0, .ref (g.1 + c)), (1, .long a0), (3, .int a1)]) d_Orders_staysRisen_36 (by decide) rfl ?_
    refine am_sub [3, 2, 1, 0] rfl ?_
    obtain ⟨n, h⟩ := h
    exact cf_Orders_staysRisen_L38_ok (by omega) c hc  P Q hQ  n r1 v4 (0 : Int32) w5 h
  · have h := h.2 c10
    refine am_iconst (v := 0) d_Orders_staysRisen_14 rfl ?_
    exact am_ireturn d_Orders_staysRisen_15 rfl rfl (hQ (0 : Int32) w2 h)
