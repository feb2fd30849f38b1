-- the String members that are reached, over the claim's constants
theorem d_String_length_0 : decode prog_18_method_54_code 0 = .ok (.aload_n 0, 1) := by decide +kernel
theorem d_String_length_1 : decode prog_18_method_54_code 1 = .ok (.getfield 9, 3) := by decide +kernel
theorem d_String_length_4 : decode prog_18_method_54_code 4 = .ok (.arraylength, 1) := by decide +kernel
theorem d_String_length_5 : decode prog_18_method_54_code 5 = .ok (.aload_n 0, 1) := by decide +kernel
theorem d_String_length_6 : decode prog_18_method_54_code 6 = .ok (.invokevirtual 335, 3) := by decide +kernel
theorem d_String_length_9 : decode prog_18_method_54_code 9 = .ok (.ishr, 1) := by decide +kernel
theorem d_String_length_10 : decode prog_18_method_54_code 10 = .ok (.ireturn, 1) := by decide +kernel
theorem mi_String_length : ay_MI y_String_length prog_18_method_54_code 1 (some FieldType.int) 0 := ⟨wd_331, wd_13, by decide +kernel, by decide +kernel, by decide⟩
theorem d_String_coder_0 : decode prog_18_method_152_code 0 = .ok (.getstatic 38, 3) := by decide +kernel
theorem d_String_coder_3 : decode prog_18_method_152_code 3 = .ok (.ifCond .eq 10, 3) := by decide +kernel
theorem d_String_coder_6 : decode prog_18_method_152_code 6 = .ok (.aload_n 0, 1) := by decide +kernel
theorem d_String_coder_7 : decode prog_18_method_152_code 7 = .ok (.getfield 15, 3) := by decide +kernel
theorem d_String_coder_10 : decode prog_18_method_152_code 10 = .ok (.goto 4, 3) := by decide +kernel
theorem d_String_coder_13 : decode prog_18_method_152_code 13 = .ok (.iconst 1, 1) := by decide +kernel
theorem d_String_coder_14 : decode prog_18_method_152_code 14 = .ok (.ireturn, 1) := by decide +kernel
theorem mi_String_coder : ay_MI y_String_coder prog_18_method_152_code 1 (some FieldType.byte) 0 := ⟨wd_335, wd_13, by decide +kernel, by decide +kernel, by decide⟩
theorem d_String_isLatin1_0 : decode prog_18_method_154_code 0 = .ok (.getstatic 38, 3) := by decide +kernel
theorem d_String_isLatin1_3 : decode prog_18_method_154_code 3 = .ok (.ifCond .eq 14, 3) := by decide +kernel
theorem d_String_isLatin1_6 : decode prog_18_method_154_code 6 = .ok (.aload_n 0, 1) := by decide +kernel
theorem d_String_isLatin1_7 : decode prog_18_method_154_code 7 = .ok (.getfield 15, 3) := by decide +kernel
theorem d_String_isLatin1_10 : decode prog_18_method_154_code 10 = .ok (.ifCond .ne 7, 3) := by decide +kernel
theorem d_String_isLatin1_13 : decode prog_18_method_154_code 13 = .ok (.iconst 1, 1) := by decide +kernel
theorem d_String_isLatin1_14 : decode prog_18_method_154_code 14 = .ok (.goto 4, 3) := by decide +kernel
theorem d_String_isLatin1_17 : decode prog_18_method_154_code 17 = .ok (.iconst 0, 1) := by decide +kernel
theorem d_String_isLatin1_18 : decode prog_18_method_154_code 18 = .ok (.ireturn, 1) := by decide +kernel
theorem mi_String_isLatin1 : ay_MI y_String_isLatin1 prog_18_method_154_code 1 (some FieldType.boolean) 0 := ⟨wd_345, wd_13, by decide +kernel, by decide +kernel, by decide⟩
theorem d_String_checkIndex_0 : decode prog_18_method_155_code 0 = .ok (.iload_n 0, 1) := by decide +kernel
theorem d_String_checkIndex_1 : decode prog_18_method_155_code 1 = .ok (.iload_n 1, 1) := by decide +kernel
theorem d_String_checkIndex_2 : decode prog_18_method_155_code 2 = .ok (.getstatic 1053, 3) := by decide +kernel
theorem d_String_checkIndex_5 : decode prog_18_method_155_code 5 = .ok (.invokestatic 1059, 3) := by decide +kernel
theorem d_String_checkIndex_8 : decode prog_18_method_155_code 8 = .ok (.pop, 1) := by decide +kernel
theorem d_String_checkIndex_9 : decode prog_18_method_155_code 9 = .ok (.return_, 1) := by decide +kernel
theorem mi_String_checkIndex : ay_MI y_String_checkIndex prog_18_method_155_code 2 none 2 := ⟨wd_351, wd_13, by decide +kernel, by decide +kernel, by decide⟩
theorem d_String_charAt_0 : decode prog_18_method_56_code 0 = .ok (.aload_n 0, 1) := by decide +kernel
theorem d_String_charAt_1 : decode prog_18_method_56_code 1 = .ok (.invokevirtual 492, 3) := by decide +kernel
theorem d_String_charAt_4 : decode prog_18_method_56_code 4 = .ok (.ifCond .eq 12, 3) := by decide +kernel
theorem d_String_charAt_7 : decode prog_18_method_56_code 7 = .ok (.aload_n 0, 1) := by decide +kernel
theorem d_String_charAt_8 : decode prog_18_method_56_code 8 = .ok (.getfield 9, 3) := by decide +kernel
theorem d_String_charAt_11 : decode prog_18_method_56_code 11 = .ok (.iload_n 1, 1) := by decide +kernel
theorem d_String_charAt_12 : decode prog_18_method_56_code 12 = .ok (.invokestatic 495, 3) := by decide +kernel
theorem d_String_charAt_15 : decode prog_18_method_56_code 15 = .ok (.ireturn, 1) := by decide +kernel
theorem d_String_charAt_16 : decode prog_18_method_56_code 16 = .ok (.aload_n 0, 1) := by decide +kernel
theorem d_String_charAt_17 : decode prog_18_method_56_code 17 = .ok (.getfield 9, 3) := by decide +kernel
theorem d_String_charAt_20 : decode prog_18_method_56_code 20 = .ok (.iload_n 1, 1) := by decide +kernel
theorem d_String_charAt_21 : decode prog_18_method_56_code 21 = .ok (.invokestatic 498, 3) := by decide +kernel
theorem d_String_charAt_24 : decode prog_18_method_56_code 24 = .ok (.ireturn, 1) := by decide +kernel
theorem mi_String_charAt : ay_MI y_String_charAt prog_18_method_56_code 2 (some FieldType.char) 1 := ⟨wd_341, wd_13, by decide +kernel, by decide +kernel, by decide⟩
theorem d_StringLatin1_charAt_0 : decode prog_19_method_2_code 0 = .ok (.iload_n 1, 1) := by decide +kernel
theorem d_StringLatin1_charAt_1 : decode prog_19_method_2_code 1 = .ok (.aload_n 0, 1) := by decide +kernel
theorem d_StringLatin1_charAt_2 : decode prog_19_method_2_code 2 = .ok (.arraylength, 1) := by decide +kernel
theorem d_StringLatin1_charAt_3 : decode prog_19_method_2_code 3 = .ok (.invokestatic 9, 3) := by decide +kernel
theorem d_StringLatin1_charAt_6 : decode prog_19_method_2_code 6 = .ok (.aload_n 0, 1) := by decide +kernel
theorem d_StringLatin1_charAt_7 : decode prog_19_method_2_code 7 = .ok (.iload_n 1, 1) := by decide +kernel
theorem d_StringLatin1_charAt_8 : decode prog_19_method_2_code 8 = .ok (.baload, 1) := by decide +kernel
theorem d_StringLatin1_charAt_9 : decode prog_19_method_2_code 9 = .ok (.sipush 255, 3) := by decide +kernel
theorem d_StringLatin1_charAt_12 : decode prog_19_method_2_code 12 = .ok (.iand, 1) := by decide +kernel
theorem d_StringLatin1_charAt_13 : decode prog_19_method_2_code 13 = .ok (.i2c, 1) := by decide +kernel
theorem d_StringLatin1_charAt_14 : decode prog_19_method_2_code 14 = .ok (.ireturn, 1) := by decide +kernel
theorem mi_StringLatin1_charAt : ay_MI y_StringLatin1_charAt prog_19_method_2_code 2 (some FieldType.char) 2 := ⟨wd_348, wd_14, by decide +kernel, by decide +kernel, by decide⟩
theorem d_Preconditions_checkIndex_0 : decode prog_22_method_11_code 0 = .ok (.iload_n 0, 1) := by decide +kernel
theorem d_Preconditions_checkIndex_1 : decode prog_22_method_11_code 1 = .ok (.ifCond .lt 8, 3) := by decide +kernel
theorem d_Preconditions_checkIndex_4 : decode prog_22_method_11_code 4 = .ok (.iload_n 0, 1) := by decide +kernel
theorem d_Preconditions_checkIndex_5 : decode prog_22_method_11_code 5 = .ok (.iload_n 1, 1) := by decide +kernel
theorem d_Preconditions_checkIndex_6 : decode prog_22_method_11_code 6 = .ok (.if_icmp .lt 10, 3) := by decide +kernel
theorem d_Preconditions_checkIndex_9 : decode prog_22_method_11_code 9 = .ok (.aload_n 2, 1) := by decide +kernel
theorem d_Preconditions_checkIndex_10 : decode prog_22_method_11_code 10 = .ok (.iload_n 0, 1) := by decide +kernel
theorem d_Preconditions_checkIndex_11 : decode prog_22_method_11_code 11 = .ok (.iload_n 1, 1) := by decide +kernel
theorem d_Preconditions_checkIndex_12 : decode prog_22_method_11_code 12 = .ok (.invokestatic 95, 3) := by decide +kernel
theorem d_Preconditions_checkIndex_15 : decode prog_22_method_11_code 15 = .ok (.athrow, 1) := by decide +kernel
theorem d_Preconditions_checkIndex_16 : decode prog_22_method_11_code 16 = .ok (.iload_n 0, 1) := by decide +kernel
theorem d_Preconditions_checkIndex_17 : decode prog_22_method_11_code 17 = .ok (.ireturn, 1) := by decide +kernel
theorem mi_Preconditions_checkIndex : ay_MI y_Preconditions_checkIndex prog_22_method_11_code 3 (some FieldType.int) 3 := ⟨wd_356, wd_15, by decide +kernel, by decide +kernel, by decide⟩
section STR
variable {g : ayG} {X : State → Prop} {y : MethodName} {cc : ByteArray} {nL : Nat} {ret : Option FieldType} {d pc : Nat} {l : List (Nat × Value)} {st rest : List Value} {w : Wd} {Q : Option Value → Wd → Prop}
theorem am_ldcS {own tx : String} {ix i : Nat} (j : Nat) (hj : ay_strs[j]? = some (own, ix, tx, i)) (ho : own = y.cls) (hd : decode cc pc = .ok (.ldc ix, 2)) (k : wp g X y cc nL ret d (pc + 2) l (.ref (g.2.2.2.1 i) :: st) w Q) : wp g X y cc nL ret d pc l st w Q := by
  subst ho
  exact fun p lc e R s m args below meth c H locs cells slots Z ls hc hP hS hl hf => va_ldcS hc.1 hc.2.1 hc.2.2.2.1 (hc.2.2.2.2.2.1.2.2.2.2.1 _ (List.mem_of_getElem? hj)) hd (k p lc e R s m args below meth c H locs cells slots Z ls hc hP hS hl hf)
theorem ay_ldcwS {p : Program} {lc : Launch} {e : Env} {R : Room} {s : State} {m : MethodId} {args : Array Value} {below : List Frame} {meth : Method} {c : Code} {T : State} {locs : List Loc} {cells slots : Nat}
    (X : Stand p lc e R s m args below meth c T locs cells slots) (hexec : p.tables.exec = Jvm.exec) {own text : String} {index : Nat} {a : Addr} (hown : s.vm.findClass own = some m.cls)
    (hconst : (Cond.stringRef own index text).before #[] s = true) (hev : (Term.string own index).eval #[] s none [] s = some (.ref a)) {g : JFrame} (hg : g.method = m) (hdg : decode c.code g.pc = .ok (.ldc_w index, 3)) :
    ∀ target, Steps p.tables e below (T.setTop { g with pc := g.pc + 3, stack := .ref a :: g.stack }) target → Steps p.tables e below (T.setTop g) target := by
  obtain ⟨k, cf, i, a', hk, hcf, hcp, -, hr, hev'⟩ := Cond.stringRef_spec hown hconst
  cases hev.symm.trans hev'
  obtain ⟨k', hk', he⟩ := X.warmed.alike.2.2 _ _ hk
  have hr' : k'.resolved[index]? = some (some (.string a)) := by
    rcases X.warmed.entry hk hk' index with h | ⟨h, -⟩
    · rw [h]; exact hr
    · rw [hr] at h; cases h
  intro target hrest
  subst hg
  jvm_step X.here [hexec, hdg, ldc_w.wp_string (e := e) (s := T) (f := g) X.here.top hk' (by rw [he]; exact hcf) hcp hr']
  exact hrest
theorem am_ldcSw {own tx : String} {ix i : Nat} (j : Nat) (hj : ay_strs[j]? = some (own, ix, tx, i)) (ho : own = y.cls) (hd : decode cc pc = .ok (.ldc_w ix, 3)) (k : wp g X y cc nL ret d (pc + 3) l (.ref (g.2.2.2.1 i) :: st) w Q) : wp g X y cc nL ret d pc l st w Q := by
  subst ho
  intro p lc e R s m args below meth c H locs cells slots Z ls hc hP hS hl hf T hT X
  obtain ⟨t, a1, b1⟩ := k p lc e R s m args below meth c H locs cells slots Z ls hc hP hS hl hf T hT X
  have hz := hc.2.2.2.2.2.1.2.2.2.2.1 _ (List.mem_of_getElem? hj)
  exact ⟨t, ay_ldcwS X hc.1 hc.2.2.2.1 hz.1 hz.2 (g := F0 m pc ls st) rfl (by rw [hc.2.1]; exact hd) t a1, b1⟩
theorem am_strval {i ix : Nat} (hi : i < 5) (hd : decode cc pc = .ok (.getfield ix, 3)) (hl : Cond.fieldLink y.cls ix "java/lang/String" "value" "[B" ∈ ay_G) (k : wp g X y cc nL ret d (pc + 3) l (.ref (g.2.2.2.2 i) :: st) w Q) : wp g X y cc nL ret d pc l (.ref (g.2.2.2.1 i) :: st) w Q :=
  fun p lc e R s m args below meth c H locs cells slots Z ls hc hP hS hl2 hf => vk_getf hc.1 hc.2.1 (hc.2.2.2.2.2.1.2.1.1 i hi).2.2.1 hS hc.2.2.2.1 (hc.2.2.2.2.1 _ hl) (fun _ h => h) hd (k p lc e R s m args below meth c H locs cells slots Z ls hc hP hS hl2 hf)
theorem am_strcod {i ix : Nat} (hi : i < 5) (hd : decode cc pc = .ok (.getfield ix, 3)) (hl : Cond.fieldLink y.cls ix "java/lang/String" "coder" "B" ∈ ay_G) (k : wp g X y cc nL ret d (pc + 3) l (.int 0 :: st) w Q) : wp g X y cc nL ret d pc l (.ref (g.2.2.2.1 i) :: st) w Q :=
  fun p lc e R s m args below meth c H locs cells slots Z ls hc hP hS hl2 hf => vk_getf hc.1 hc.2.1 (hc.2.2.2.2.2.1.2.1.1 i hi).2.1 hS hc.2.2.2.1 (hc.2.2.2.2.1 _ hl) (fun _ h => h) hd (k p lc e R s m args below meth c H locs cells slots Z ls hc hP hS hl2 hf)
theorem am_strlen {i : Nat} {v : Int32} (hi : i < 5) (hd : decode cc pc = .ok (.arraylength, 1)) (hv : Int32.ofNat (ay_slen.getD i 0) = v) (k : wp g X y cc nL ret d (pc + 1) l (.int v :: st) w Q) : wp g X y cc nL ret d pc l (.ref (g.2.2.2.2 i) :: st) w Q :=
  fun p lc e R s m args below meth c H locs cells slots Z ls hc hP hS hl2 hf => va_tlen hc.1 hc.2.1 (hc.2.2.2.2.2.1.2.1.1 i hi).2.2.2 hS hv hd (k p lc e R s m args below meth c H locs cells slots Z ls hc hP hS hl2 hf)
theorem am_strb {i : Nat} {j : Int32} (hi : i < 5) (hd : decode cc pc = .ok (.baload, 1)) (hj : vp_in j (ay_slen.getD i 0)) (k : wp g X y cc nL ret d (pc + 1) l (.int ((ay_sbyt.getD i []).getD j.toNatClampNeg 0) :: st) w Q) : wp g X y cc nL ret d pc l (.int j :: .ref (g.2.2.2.2 i) :: st) w Q :=
  fun p lc e R s m args below meth c H locs cells slots Z ls hc hP hS hl2 hf => va_tb hc.1 hc.2.1 (hc.2.2.2.2.2.1.2.1.1 i hi).2.2.2 hS hj rfl hd (k p lc e R s m args below meth c H locs cells slots Z ls hc hP hS hl2 hf)
theorem am_getsC {ix : Nat} (hd : decode cc pc = .ok (.getstatic ix, 3)) (hl : Cond.fieldLink y.cls ix "java/lang/String" "COMPACT_STRINGS" "Z" ∈ ay_G) (k : wp g X y cc nL ret d (pc + 3) l (.int 1 :: st) w Q) : wp g X y cc nL ret d pc l st w Q :=
  fun p lc e R s m args below meth c H locs cells slots Z ls hc hP hS hl2 hf => va_gets hc.1 hc.2.1 hc.2.2.2.2.2.1.2.2.1 hS hc.2.2.2.1 (hc.2.2.2.2.1 _ hl) (fun _ h => h) hd (k p lc e R s m args below meth c H locs cells slots Z ls hc hP hS hl2 hf)
theorem am_getsF {ix : Nat} (hd : decode cc pc = .ok (.getstatic ix, 3)) (hl : Cond.fieldLink y.cls ix "jdk/internal/util/Preconditions" "SIOOBE_FORMATTER" "Ljava/util/function/BiFunction;" ∈ ay_G) (k1 : wp g X y cc nL ret d (pc + 3) l (.null :: st) w Q) (k2 : ∀ t, wp g X y cc nL ret d (pc + 3) l (.ref t :: st) w Q) : wp g X y cc nL ret d pc l st w Q := by
  intro p lc e R s m args below meth c H locs cells slots Z ls hc hP hS hl2 hf
  rcases hc.2.2.2.2.2.1.2.2.2.1 with h | ⟨t, h⟩
  · exact va_gets hc.1 hc.2.1 h hS hc.2.2.2.1 (hc.2.2.2.2.1 _ hl) (fun _ h => h) hd (k1 p lc e R s m args below meth c H locs cells slots Z ls hc hP hS hl2 hf)
  · exact va_gets hc.1 hc.2.1 h hS hc.2.2.2.1 (hc.2.2.2.2.1 _ hl) (fun _ h => h) hd (k2 t p lc e R s m args below meth c H locs cells slots Z ls hc hP hS hl2 hf)
theorem am_callX {y2 : MethodName} {cc2 : ByteArray} {nL2 : Nat} {ret2 : Option FieldType} {d2 ix n i : Nat} (hi : i < 5) (As : List Value) (hd : decode cc pc = .ok (.invokevirtual ix, 3)) (hm : ay_MI y2 cc2 nL2 ret2 n) (hl : Cond.methodLink y.cls ix y2 ∈ ay_G) (hin : Cond.instanceMethod y2 ∈ ay_G) (hse : Cond.selects "java/lang/String" y2 y2 ∈ ay_G) (hd2 : d2 < d) (hn : As.length = n) (hs : st = As.reverse ++ .ref (g.2.2.2.1 i) :: rest) (hr : (rest.map fun v => v.category).sum ≤ 8)
    (k : Call g y2 cc2 nL2 ret2 d2 (.ref (g.2.2.2.1 i) :: As) w (fun r w => wp g X y cc nL ret d (pc + 3) l (r.toList ++ rest) w Q)) : wp g X y cc nL ret d pc l st w Q := by
  intro p lc e R s m args below meth c H locs cells slots Z ls hc hP hS hl2 hf
  exact ay_back hc hS hl2 hf (va_runV (C := "java/lang/String") (nL := nL) (Ts := ay_G) (rest := rest) ⟨hc.1, hc.2.1, hc.2.2.1, hc.2.2.2.1, hc.2.2.2.2.1⟩ (k lc) ⟨ay_cb hc hm hl hd2, hc.2.2.2.2.1 _ hin, hc.2.2.2.2.1 _ hse⟩ ⟨ay_blind, vk_recv hc.2.2.2.2.2.1.2.1 hi hS, ay_pre hc.2.2.2.2.2.1 hP hS _⟩ rfl hn hl2.1 hs (ay_room hr) hd ⟨hc.2.2.2.2.2.2.2.2.1, hc.2.2.2.2.2.2.2.2.2.1⟩)
end STR
theorem ck_coder {g : ayG} {d i : Nat} (hi : i < 5) (w : Wd) (Q : Option Value → Wd → Prop) (h : Q (some (.int 0)) w) : Call g y_String_coder prog_18_method_152_code 1 (some FieldType.byte) d [.ref (g.2.2.2.1 i)] w Q := by
  refine am_enter mi_String_coder (Nat.le_of_ble_eq_true rfl) ?_
  show wp g (fun _ => True) y_String_coder prog_18_method_152_code 1 (some FieldType.byte) d 0 [(0, .ref (g.2.2.2.1 i))] [] w Q
  refine am_getsC d_String_coder_0 wd_336 ?_
  refine am_if_eq (tgt := 13) d_String_coder_3 (by decide) (fun c => absurd c (by decide)) (fun c => ?_)
  refine am_aload_n d_String_coder_6 0 rfl ?_
  refine am_strcod hi d_String_coder_7 wd_1683 ?_
  refine am_goto (tgt := 14) d_String_coder_10 (by decide) ?_
  exact am_ireturn d_String_coder_14 rfl rfl h
theorem ck_isLatin1 {g : ayG} {d i : Nat} (hi : i < 5) (w : Wd) (Q : Option Value → Wd → Prop) (h : Q (some (.int 1)) w) : Call g y_String_isLatin1 prog_18_method_154_code 1 (some FieldType.boolean) d [.ref (g.2.2.2.1 i)] w Q := by
  refine am_enter mi_String_isLatin1 (Nat.le_of_ble_eq_true rfl) ?_
  show wp g (fun _ => True) y_String_isLatin1 prog_18_method_154_code 1 (some FieldType.boolean) d 0 [(0, .ref (g.2.2.2.1 i))] [] w Q
  refine am_getsC d_String_isLatin1_0 wd_336 ?_
  refine am_if_eq (tgt := 17) d_String_isLatin1_3 (by decide) (fun c => absurd c (by decide)) (fun c => ?_)
  refine am_aload_n d_String_isLatin1_6 0 rfl ?_
  refine am_strcod hi d_String_isLatin1_7 wd_1683 ?_
  refine am_if_ne (tgt := 17) d_String_isLatin1_10 (by decide) (fun c => absurd rfl c) (fun c => ?_)
  refine am_iconst (v := 1) d_String_isLatin1_13 rfl ?_
  refine am_goto (tgt := 18) d_String_isLatin1_14 (by decide) ?_
  exact am_ireturn d_String_isLatin1_18 rfl rfl h
theorem ck_pre {g : ayG} {d : Nat} {a b : Int32} {v : Value} (hv : v = .null ∨ ∃ t, v = .ref t) (h1 : 0 ≤ a) (h2 : a < b) (w : Wd) (Q : Option Value → Wd → Prop) (h : Q (some (.int a)) w) : Call g y_Preconditions_checkIndex prog_22_method_11_code 3 (some FieldType.int) d [.int a, .int b, v] w Q := by
  have key : ∀ v : Value, v.category = 1 → wp g (fun _ => True) y_Preconditions_checkIndex prog_22_method_11_code 3 (some FieldType.int) d 0 [(0, .int a), (1, .int b), (2, v)] [] w Q := by
    intro v hv
    refine am_iload_n d_Preconditions_checkIndex_0 0 rfl ?_
    refine am_if_lt (tgt := 9) d_Preconditions_checkIndex_1 (by decide) (fun c => absurd h1 (Int32.not_le.mpr c)) (fun c => ?_)
    refine am_iload_n d_Preconditions_checkIndex_4 0 rfl ?_
    refine am_iload_n d_Preconditions_checkIndex_5 1 rfl ?_
    refine am_icmp_lt (tgt := 16) d_Preconditions_checkIndex_6 (by decide) (fun c => ?_) (fun c => absurd h2 c)
    refine am_iload_n d_Preconditions_checkIndex_16 0 rfl ?_
    exact am_ireturn d_Preconditions_checkIndex_17 rfl rfl h
  rcases hv with rfl | ⟨t, rfl⟩
  · exact am_enter mi_Preconditions_checkIndex (Nat.le_of_ble_eq_true rfl) (key _ rfl)
  · exact am_enter mi_Preconditions_checkIndex (Nat.le_of_ble_eq_true rfl) (key _ rfl)
theorem ck_check {g : ayG} {d : Nat} (hd : 1 ≤ d) {a b : Int32} (h1 : 0 ≤ a) (h2 : a < b) (w : Wd) (Q : Option Value → Wd → Prop) (h : Q none w) : Call g y_String_checkIndex prog_18_method_155_code 2 none d [.int a, .int b] w Q := by
  refine am_enter mi_String_checkIndex (Nat.le_of_ble_eq_true rfl) ?_
  show wp g (fun _ => True) y_String_checkIndex prog_18_method_155_code 2 none d 0 [(0, .int a), (1, .int b)] [] w Q
  refine am_iload_n d_String_checkIndex_0 0 rfl ?_
  refine am_iload_n d_String_checkIndex_1 1 rfl ?_
  refine am_getsF d_String_checkIndex_2 wd_352 ?_ (fun t => ?_)
  · refine am_callS (d2 := d - 1) [.int a, .int b, .null] d_String_checkIndex_5 mi_Preconditions_checkIndex wd_354 wd_355 (by omega) rfl rfl (Nat.le_of_ble_eq_true rfl) (ck_pre (Or.inl rfl) h1 h2 w _ ?_)
    show wp g (fun _ => True) y_String_checkIndex prog_18_method_155_code 2 none d 8 [(0, .int a), (1, .int b)] [.int a] w Q
    refine am_pop d_String_checkIndex_8 rfl ?_
    exact am_return d_String_checkIndex_9 rfl h
  · refine am_callS (d2 := d - 1) [.int a, .int b, .ref t] d_String_checkIndex_5 mi_Preconditions_checkIndex wd_354 wd_355 (by omega) rfl rfl (Nat.le_of_ble_eq_true rfl) (ck_pre (Or.inr ⟨t, rfl⟩) h1 h2 w _ ?_)
    show wp g (fun _ => True) y_String_checkIndex prog_18_method_155_code 2 none d 8 [(0, .int a), (1, .int b)] [.int a] w Q
    refine am_pop d_String_checkIndex_8 rfl ?_
    exact am_return d_String_checkIndex_9 rfl h
def ck_chr (i : Nat) (k : Int32) : Int32 := (ay_sbyt.getD i []).getD k.toNatClampNeg 0
theorem ck_lat {g : ayG} {d i : Nat} (hd : 2 ≤ d) (hi : i < 5) {k : Int32} (hk : vp_in k (ay_slen.getD i 0)) (w : Wd) (Q : Option Value → Wd → Prop) (h : Q (some (.int (ck_chr i k))) w) : Call g y_StringLatin1_charAt prog_19_method_2_code 2 (some FieldType.char) d [.ref (g.2.2.2.2 i), .int k] w Q := by
  refine am_enter mi_StringLatin1_charAt (Nat.le_of_ble_eq_true rfl) ?_
  show wp g (fun _ => True) y_StringLatin1_charAt prog_19_method_2_code 2 (some FieldType.char) d 0 [(0, .ref (g.2.2.2.2 i)), (1, .int k)] [] w Q
  have hlen : ay_slen.getD i 0 < 2 ^ 31 := (show ∀ i, i < 5 → ay_slen.getD i 0 < 2 ^ 31 by decide) i hi
  obtain ⟨j, hj, hkj⟩ := vp_in_of hk hlen
  have e1 : 0 ≤ k := by rw [hkj]; exact nI_pos' (by omega)
  have e2 : k < Int32.ofNat (ay_slen.getD i 0) := by rw [hkj]; exact nI_lt hj hlen
  have e3 : (ck_chr i k &&& 255).toUInt32 % 65536 = (ck_chr i k).toUInt32 ∧ narrow .char (.int (ck_chr i k)) = .int (ck_chr i k) := by
    unfold ck_chr
    rw [hkj, nI_clamp (by omega)]
    exact (show ∀ i, i < 5 → ∀ j, j < ay_slen.getD i 0 → ((((ay_sbyt.getD i []).getD j 0) &&& 255).toUInt32 % 65536 = ((ay_sbyt.getD i []).getD j 0).toUInt32 ∧ narrow .char (.int ((ay_sbyt.getD i []).getD j 0)) = .int ((ay_sbyt.getD i []).getD j 0)) by decide +kernel) i hi j hj
  refine am_iload_n d_StringLatin1_charAt_0 1 rfl ?_
  refine am_aload_n d_StringLatin1_charAt_1 0 rfl ?_
  refine am_strlen hi d_StringLatin1_charAt_2 rfl ?_
  refine am_callS (d2 := d - 1) [.int k, .int (Int32.ofNat (ay_slen.getD i 0))] d_StringLatin1_charAt_3 mi_String_checkIndex wd_349 wd_350 (by omega) rfl rfl (Nat.le_of_ble_eq_true rfl) (ck_check (by omega) e1 e2 w _ ?_)
  show wp g (fun _ => True) y_StringLatin1_charAt prog_19_method_2_code 2 (some FieldType.char) d 6 [(0, .ref (g.2.2.2.2 i)), (1, .int k)] [] w Q
  refine am_aload_n d_StringLatin1_charAt_6 0 rfl ?_
  refine am_iload_n d_StringLatin1_charAt_7 1 rfl ?_
  refine am_strb hi d_StringLatin1_charAt_8 hk ?_
  refine am_sipush (v := 255) d_StringLatin1_charAt_9 rfl ?_
  refine am_iand d_StringLatin1_charAt_12 ?_
  refine am_i2c d_StringLatin1_charAt_13 ?_
  have e4 : ((((ay_sbyt.getD i []).getD k.toNatClampNeg 0) &&& 255).toUInt32 % 65536).toInt32 = ck_chr i k := by
    show ((ck_chr i k &&& 255).toUInt32 % 65536).toInt32 = ck_chr i k
    rw [e3.1]
    rfl
  rw [e4]
  exact am_ireturn d_StringLatin1_charAt_14 rfl e3.2 h
def cf_String_length (i : Nat) (P : Int32 → Prop) : Prop := P (Int32.ofNat (ay_slen.getD i 0))
def cf_String_charAt (i : Nat) (k : Int32) (P : Int32 → Prop) : Prop := vp_in k (ay_slen.getD i 0) ∧ P (ck_chr i k)
theorem ck_length {g : ayG} {d i : Nat} (hd : 1 ≤ d) (hi : i < 5) (w : Wd) (Q : Option Value → Wd → Prop) (h : Q (some (.int (Int32.ofNat (ay_slen.getD i 0)))) w) : Call g y_String_length prog_18_method_54_code 1 (some FieldType.int) d [.ref (g.2.2.2.1 i)] w Q := by
  refine am_enter mi_String_length (Nat.le_of_ble_eq_true rfl) ?_
  show wp g (fun _ => True) y_String_length prog_18_method_54_code 1 (some FieldType.int) d 0 [(0, .ref (g.2.2.2.1 i))] [] w Q
  refine am_aload_n d_String_length_0 0 rfl ?_
  refine am_strval hi d_String_length_1 wd_1682 ?_
  refine am_strlen hi d_String_length_4 rfl ?_
  refine am_aload_n d_String_length_5 0 rfl ?_
  refine am_callX hi (d2 := d - 1) [] d_String_length_6 mi_String_coder wd_332 wd_333 wd_334 (by omega) rfl rfl (Nat.le_of_ble_eq_true rfl) (ck_coder hi w _ ?_)
  show wp g (fun _ => True) y_String_length prog_18_method_54_code 1 (some FieldType.int) d 9 [(0, .ref (g.2.2.2.1 i))] [.int 0, .int (Int32.ofNat (ay_slen.getD i 0))] w Q
  refine am_ishr d_String_length_9 ?_
  have e : ishr (Int32.ofNat (ay_slen.getD i 0)) 0 = Int32.ofNat (ay_slen.getD i 0) := (show ∀ i, i < 5 → ishr (Int32.ofNat (ay_slen.getD i 0)) 0 = Int32.ofNat (ay_slen.getD i 0) by decide +kernel) i hi
  rw [e]
  exact am_ireturn d_String_length_10 rfl rfl h
theorem ck_charAt {g : ayG} {d i : Nat} (hd : 3 ≤ d) (hi : i < 5) {k : Int32} (hk : vp_in k (ay_slen.getD i 0)) (w : Wd) (Q : Option Value → Wd → Prop) (h : Q (some (.int (ck_chr i k))) w) : Call g y_String_charAt prog_18_method_56_code 2 (some FieldType.char) d [.ref (g.2.2.2.1 i), .int k] w Q := by
  have hlen : ay_slen.getD i 0 < 2 ^ 31 := (show ∀ i, i < 5 → ay_slen.getD i 0 < 2 ^ 31 by decide) i hi
  obtain ⟨j, hj, hkj⟩ := vp_in_of hk hlen
  have e3 : narrow .char (.int (ck_chr i k)) = .int (ck_chr i k) := by
    unfold ck_chr
    rw [hkj, nI_clamp (by omega)]
    exact (show ∀ i, i < 5 → ∀ j, j < ay_slen.getD i 0 → narrow .char (.int ((ay_sbyt.getD i []).getD j 0)) = .int ((ay_sbyt.getD i []).getD j 0) by decide +kernel) i hi j hj
  refine am_enter mi_String_charAt (Nat.le_of_ble_eq_true rfl) ?_
  show wp g (fun _ => True) y_String_charAt prog_18_method_56_code 2 (some FieldType.char) d 0 [(0, .ref (g.2.2.2.1 i)), (1, .int k)] [] w Q
  refine am_aload_n d_String_charAt_0 0 rfl ?_
  refine am_callX hi (d2 := d - 1) [] d_String_charAt_1 mi_String_isLatin1 wd_342 wd_343 wd_344 (by omega) rfl rfl (Nat.le_of_ble_eq_true rfl) (ck_isLatin1 hi w _ ?_)
  show wp g (fun _ => True) y_String_charAt prog_18_method_56_code 2 (some FieldType.char) d 4 [(0, .ref (g.2.2.2.1 i)), (1, .int k)] [.int 1] w Q
  refine am_if_eq (tgt := 16) d_String_charAt_4 (by decide) (fun c => absurd c (by decide)) (fun c => ?_)
  refine am_aload_n d_String_charAt_7 0 rfl ?_
  refine am_strval hi d_String_charAt_8 wd_1682 ?_
  refine am_iload_n d_String_charAt_11 1 rfl ?_
  refine am_callS (d2 := d - 1) [.ref (g.2.2.2.2 i), .int k] d_String_charAt_12 mi_StringLatin1_charAt wd_346 wd_347 (by omega) rfl rfl (Nat.le_of_ble_eq_true rfl) (ck_lat (by omega) hi hk w _ ?_)
  show wp g (fun _ => True) y_String_charAt prog_18_method_56_code 2 (some FieldType.char) d 15 [(0, .ref (g.2.2.2.1 i)), (1, .int k)] [.int (ck_chr i k)] w Q
  exact am_ireturn d_String_charAt_15 rfl e3 h
section STR2
variable {g : ayG} {X : State → Prop} {y : MethodName} {cc : ByteArray} {nL : Nat} {ret : Option FieldType} {d pc : Nat} {l : List (Nat × Value)} {st rest : List Value} {w : Wd} {Q : Option Value → Wd → Prop}
theorem am_String_length {i ix : Nat} {P : Int32 → Prop} (hd0 : 6 < d) (hd : decode cc pc = .ok (.invokevirtual ix, 3)) (hl : Cond.methodLink y.cls ix y_String_length ∈ ay_G) (hi : i < 5) (hs : st = .ref (g.2.2.2.1 i) :: rest) (hr : (rest.map fun v => v.category).sum ≤ 8) (h : cf_String_length i P) (k : ∀ r, P r → wp g X y cc nL ret d (pc + 3) l (.int r :: rest) w Q) : wp g X y cc nL ret d pc l st w Q :=
  am_callX hi (d2 := d - 1) [] hd mi_String_length hl wd_329 wd_330 (by omega) rfl hs hr (ck_length (by omega) hi w _ (k _ h))
theorem am_String_charAt {i ix : Nat} {c : Int32} {P : Int32 → Prop} (hd0 : 6 < d) (hd : decode cc pc = .ok (.invokevirtual ix, 3)) (hl : Cond.methodLink y.cls ix y_String_charAt ∈ ay_G) (hi : i < 5) (hs : st = .int c :: .ref (g.2.2.2.1 i) :: rest) (hr : (rest.map fun v => v.category).sum ≤ 8) (h : cf_String_charAt i c P) (k : ∀ r, P r → wp g X y cc nL ret d (pc + 3) l (.int r :: rest) w Q) : wp g X y cc nL ret d pc l st w Q :=
  am_callX hi (d2 := d - 1) [.int c] hd mi_String_charAt hl wd_339 wd_340 (by omega) rfl hs hr (ck_charAt (by omega) hi h.1 w _ (k _ h.2))
end STR2
