-- constructors: the cells that are made, in their order; cell k of the list stands at the base and k
def ay_Z (g : ayG) (E : List va_E) : va_W := E.mapIdx fun i e => (g.1 + i, e)
theorem ay_Zlen {g : ayG} {E : List va_E} : (ay_Z g E).length = E.length := by simp [ay_Z]
theorem ay_Zat {g : ayG} {E : List va_E} {k : Nat} {e : va_E} (h : E[k]? = some e) : (ay_Z g E)[k]? = some (g.1 + k, e) := by simp [ay_Z, h]
theorem ay_Zat' {g : ayG} {E : List va_E} {k : Nat} {q : Nat × va_E} (h : (ay_Z g E)[k]? = some q) : q.1 = g.1 + k := by
  simp only [ay_Z, List.getElem?_mapIdx, Option.map_eq_some_iff] at h
  obtain ⟨e, -, rfl⟩ := h
  rfl
theorem ay_ZD {g : ayG} {E : List va_E} : va_D (ay_A g) (ay_Z g E) := by
  refine ⟨fun i j p q hp hq hpq => ?_, fun k q hq => ?_⟩
  · rw [ay_Zat' hp, ay_Zat' hq] at hpq
    exact Nat.add_left_cancel hpq
  · show g.1 ≤ q.1
    rw [ay_Zat' hq]
    exact Nat.le_add_right _ _
theorem ay_Zpush {g : ayG} {E : List va_E} {e : va_E} : ay_Z g (E ++ [e]) = ay_Z g E ++ [(g.1 + E.length, e)] := by simp [ay_Z, List.mapIdx_append]
theorem ay_Zset {g : ayG} {E : List va_E} {k : Nat} {e : va_E} : (ay_Z g E).set k (g.1 + k, e) = ay_Z g (E.set k e) := by
  apply List.ext_getElem?
  intro i
  by_cases hi : i = k
  · subst hi
    by_cases hl : i < E.length
    · rw [List.getElem?_set_self (by rw [ay_Zlen]; exact hl), ay_Zat (List.getElem?_set_self hl)]
    · rw [List.getElem?_eq_none (by simp [ay_Zlen]; omega), List.getElem?_eq_none (by simp [ay_Zlen]; omega)]
  · rw [List.getElem?_set_ne (Ne.symm hi)]
    simp [ay_Z, List.getElem?_set_ne (Ne.symm hi)]
def ay_Ck (g : ayG) (y : MethodName) (cc : ByteArray) (nL d MC MS : Nat) (ini : Bool) (p : Program) (R : Room) (s : State) (m : MethodId) (args : Array Value) (meth : Method) (c : Code) : Prop :=
  p.tables.exec = Jvm.exec ∧ c.code = cc ∧ c.maxLocals = nL ∧ s.vm.findClass y.cls = some m.cls ∧ (∀ w ∈ ay_G, w.before args s = true) ∧ ay_Kn g s s.heap ∧ d ≤ R.frames ∧ 45 * d ≤ R.locals ∧ MC ≤ R.cells ∧ MS ≤ R.slots ∧ (ini = true → meth.name = "<init>")
def wk (p : Program) (lc : Launch) (e : Env) (R : Room) (s : State) (m : MethodId) (args : Array Value) (below : List Frame) (meth : Method) (c : Code) (Z : State → Prop) (g : ayG) (nL pc : Nat) (l : List (Nat × Value)) (st : List Value) (E0 L : List va_E) (mc ms : Nat) : Prop :=
  ∀ (H : Heap) (locs : List Loc) (ls : Array Slot), va_P g.2.1 ay_cl (ay_Z g (E0 ++ L)) H → H.size = g.1 + (E0 ++ L).length → va_S (ay_A g) s.heap H locs → lv_has ls nL l → W p lc e R s m args below meth c H locs mc ms Z (F0 m pc ls st)
def ay_rk (d MC MS : Nat) : Room := { frames := d, cells := MC, slots := MS, locals := 45 * d }
/-- a constructor's contract: the cells ahead, those behind -/
def CallK (g : ayG) (y : MethodName) (cc : ByteArray) (nL d MC MS : Nat) (E E' : List va_E) (As : List Value) : Prop :=
  ∀ l : Launch, Met l y (Cond.code y cc nL none :: ay_G) (ay_rk d MC MS) (va_Pc As (fun U => U.heap.size = g.1 + E.length ∧ va_P g.2.1 ay_cl (ay_Z g E) U.heap ∧ ay_Kn g U U.heap)) (fun _ st oc t => (oc = .returned none ∧ t.heap.size = g.1 + E'.length ∧ va_P g.2.1 ay_cl (ay_Z g E') t.heap) ∧ va_F (ay_A g) st t) MC MS (ay_A g)
section WK
variable {p : Program} {lc : Launch} {e : Env} {R : Room} {s : State} {m : MethodId} {args : Array Value} {below : List Frame} {meth : Method} {c : Code} {Z : State → Prop} {g : ayG} {y : MethodName} {cc : ByteArray} {nL d MC MS pc : Nat} {ini : Bool} {l : List (Nat × Value)} {st : List Value} {E0 L : List va_E} {mc ms : Nat}
theorem wk_aload_n {k : Fin 4} {x : Nat} (hc : ay_Ck g y cc nL d MC MS ini p R s m args meth c) (hd : decode cc pc = .ok (.aload_n k, 1)) (j : Nat) (hj : l[j]? = some ((k : Nat), .ref x)) (kk : wk p lc e R s m args below meth c Z g nL (pc + 1) l (.ref x :: st) E0 L mc ms) : wk p lc e R s m args below meth c Z g nL pc l st E0 L mc ms :=
  fun H locs ls hP hz hS hl => lv_aload_n hc.1 hc.2.1 hd rfl (lv_at hl j hj) (kk H locs ls hP hz hS hl)
theorem wk_iconst {n : Int} {v : Int32} (hc : ay_Ck g y cc nL d MC MS ini p R s m args meth c) (hd : decode cc pc = .ok (.iconst n, 1)) (hv : Int32.ofInt n = v) (kk : wk p lc e R s m args below meth c Z g nL (pc + 1) l (.int v :: st) E0 L mc ms) : wk p lc e R s m args below meth c Z g nL pc l st E0 L mc ms :=
  fun H locs ls hP hz hS hl => lv_iconst hc.1 hc.2.1 hd hv (kk H locs ls hP hz hS hl)
theorem wk_bipush {n : Int} {v : Int32} (hc : ay_Ck g y cc nL d MC MS ini p R s m args meth c) (hd : decode cc pc = .ok (.bipush n, 2)) (hv : (Int8.ofInt n).toInt32 = v) (kk : wk p lc e R s m args below meth c Z g nL (pc + 2) l (.int v :: st) E0 L mc ms) : wk p lc e R s m args below meth c Z g nL pc l st E0 L mc ms :=
  fun H locs ls hP hz hS hl => lv_bipush hc.1 hc.2.1 hd hv (kk H locs ls hP hz hS hl)
theorem wk_sipush {n : Int} {v : Int32} (hc : ay_Ck g y cc nL d MC MS ini p R s m args meth c) (hd : decode cc pc = .ok (.sipush n, 3)) (hv : (Int16.ofInt n).toInt32 = v) (kk : wk p lc e R s m args below meth c Z g nL (pc + 3) l (.int v :: st) E0 L mc ms) : wk p lc e R s m args below meth c Z g nL pc l st E0 L mc ms :=
  fun H locs ls hP hz hS hl => lv_sipush hc.1 hc.2.1 hd hv (kk H locs ls hP hz hS hl)
theorem wk_ldc2 {i : Nat} {v : Int64} (hc : ay_Ck g y cc nL d MC MS ini p R s m args meth c) (hd : decode cc pc = .ok (.ldc2_w i, 3)) (hw : Cond.constantLong y.cls i v ∈ ay_G) (kk : wk p lc e R s m args below meth c Z g nL (pc + 3) l (.long v :: st) E0 L mc ms) : wk p lc e R s m args below meth c Z g nL pc l st E0 L mc ms :=
  fun H locs ls hP hz hS hl => lv_ldc2 hc.1 hc.2.1 hc.2.2.2.1 (hc.2.2.2.2.1 _ hw) hd (kk H locs ls hP hz hS hl)
theorem wk_dup {v : Value} (hc : ay_Ck g y cc nL d MC MS ini p R s m args meth c) (hd : decode cc pc = .ok (.dup, 1)) (hv : v.category = 1) (kk : wk p lc e R s m args below meth c Z g nL (pc + 1) l (v :: v :: st) E0 L mc ms) : wk p lc e R s m args below meth c Z g nL pc l (v :: st) E0 L mc ms :=
  fun H locs ls hP hz hS hl => lv_dup hc.1 hc.2.1 hd hv (kk H locs ls hP hz hS hl)
theorem wk_astore_n {k : Fin 4} {x : Nat} {l' : List (Nat × Value)} (hc : ay_Ck g y cc nL d MC MS ini p R s m args meth c) (hd : decode cc pc = .ok (.astore_n k, 1)) (hn : (k : Nat) < nL) (hl' : ((k : Nat), Value.ref x) :: l.filter (fun q => !(q.1 == (k : Nat)) && !(q.1 + 1 == (k : Nat) && q.2.category == 2)) = l') (kk : wk p lc e R s m args below meth c Z g nL (pc + 1) l' st E0 L mc ms) : wk p lc e R s m args below meth c Z g nL pc l (.ref x :: st) E0 L mc ms :=
  fun H locs ls hP hz hS hl => lv_astore_n hc.1 hc.2.1 hd rfl hl hn hl' (fun ls hl => kk H locs ls hP hz hS hl)
theorem wk_istore_n {k : Fin 4} {x : Int32} {l' : List (Nat × Value)} (hc : ay_Ck g y cc nL d MC MS ini p R s m args meth c) (hd : decode cc pc = .ok (.istore_n k, 1)) (hn : (k : Nat) < nL) (hl' : ((k : Nat), Value.int x) :: l.filter (fun q => !(q.1 == (k : Nat)) && !(q.1 + 1 == (k : Nat) && q.2.category == 2)) = l') (kk : wk p lc e R s m args below meth c Z g nL (pc + 1) l' st E0 L mc ms) : wk p lc e R s m args below meth c Z g nL pc l (.int x :: st) E0 L mc ms :=
  fun H locs ls hP hz hS hl => lv_istore_n hc.1 hc.2.1 hd rfl hl hn hl' (fun ls hl => kk H locs ls hP hz hS hl)
theorem wk_objInit {i a : Nat} (hc : ay_Ck g y cc nL d MC MS ini p R s m args meth c) (hd : decode cc pc = .ok (.invokespecial i, 3)) (hl0 : Cond.methodLink y.cls i y_Object_init ∈ ay_G) (hd1 : 1 ≤ d) (hr : (st.map fun v => v.category).sum ≤ 8) (kk : wk p lc e R s m args below meth c Z g nL (pc + 3) l st E0 L mc ms) : wk p lc e R s m args below meth c Z g nL pc l (.ref a :: st) E0 L mc ms := by
  intro H locs ls hP hz hS hl
  refine W.objInit hc.1 hc.2.1 hc.2.2.2.1 (hc.2.2.2.2.1 _ hl0) (hc.2.2.2.2.1 (Cond.instanceMethod y_Object_init) wd_28) (hc.2.2.2.2.1 _ wd_29) rfl (by rw [hc.2.2.1]; exact hl.1) rfl hd ?_ ?_ (kk H locs ls hP hz hS hl)
  · have := hc.2.2.2.2.2.2.1
    omega
  · have := hc.2.2.2.2.2.2.2.1
    show 2 * 0 + _ + 12 ≤ _
    omega
theorem wk_new {C : String} {T : u_T} {N ci i : Nat} {fs : List Value} {a : Nat} (hc : ay_Ck g y cc nL d MC MS ini p R s m args meth c) (hd : decode cc pc = .ok (.new i, 3)) (hcl : Cond.classLink y.cls i C ∈ ay_G) (hin : Cond.instantiable C N ∈ ay_G) (hini : Cond.initialized C ∈ ay_G) (hws : ∀ w ∈ u_ws C T N, w ∈ ay_G) (ty : Nat → FieldType) (hty : ∀ k, k < N → parseFieldDescriptor (T k).2.2.1 = some (ty k)) (hci : ay_cl[ci]? = some (C, T, N)) (hfs : ∀ j, j < N → defaultValue (ty j) = vp_V fs j) (h1 : mc + 1 ≤ MC) (h2 : ms + N ≤ MS) (ha : E0.length + L.length = a)
    (kk : wk p lc e R s m args below meth c Z g nL (pc + 3) l (.ref (g.1 + a) :: st) E0 (L ++ [.inr (ci, fs)]) (mc + 1) (ms + N)) : wk p lc e R s m args below meth c Z g nL pc l st E0 L mc ms := by
  subst ha
  intro H locs ls hP hz hS hl
  have hK := hc.2.2.2.2.2.1.1
  have hKn := hK.1 ci _ hci
  refine W.newcK hc.1 hc.2.1 hc.2.2.2.1 (hc.2.2.2.2.1 _ hcl) (hc.2.2.2.2.1 _ hin) (hc.2.2.2.2.1 _ hini) rfl hd (Nat.le_trans h1 hc.2.2.2.2.2.2.2.2.1) (Nat.le_trans h2 hc.2.2.2.2.2.2.2.2.2.1) hKn.2.1 rfl fun H1 kC hkC e1 z1 o1 => ?_
  have hl1 : (E0 ++ L).length = E0.length + L.length := List.length_append
  have hk : ∀ (k : Nat) (x : Nat × va_E), (ay_Z g (E0 ++ L))[k]? = some x → H1[x.1]? = H[x.1]? := fun k x hx => o1 x.1 ((hP k x hx).lt)
  have hP1 : va_P g.2.1 ay_cl (ay_Z g (E0 ++ (L ++ [.inr (ci, fs)]))) H1 := by
    rw [← List.append_assoc, ay_Zpush]
    refine (hP.kept hk).app (fun k x hx => ?_)
    have hz0 : k < 1 := (List.getElem?_eq_some_iff.mp hx).1
    rw [show k = 0 by omega] at hx
    cases hx
    rw [← hz]
    exact ⟨_, hci, (u_born ty hc.2.2.2.2.1 hws hKn hkC e1 hty).to hfs⟩
  have e2 : H.size = g.1 + (E0.length + L.length) := by rw [hz, hl1]
  have := kk H1 locs ls hP1 (by rw [z1, e2]; simp; omega) ⟨Nat.le_trans hS.1 (by omega), fun x h1 h2 => (o1 x (Nat.lt_of_lt_of_le h1 hS.1)).trans (hS.2.1 x h1 h2), hS.2.2⟩ hl
  rw [e2]
  exact this
theorem wk_newa {atype : ArrayType} {ty : FieldType} {n : Int32} {N t a : Nat} {a0 : vp_A} (hc : ay_Ck g y cc nL d MC MS ini p R s m args meth c) (hd : decode cc pc = .ok (.newarray atype, 2)) (har : Cond.arrayClass (newarray.typeOf atype) ∈ ay_G) (hty : newarray.typeOf atype = ty) (ht : (ay_tys g)[t]? = some (g.2.2.1 t, ty)) (hp : ∀ U : State, ∀ cA, va_RA U cA ty ↔ U.vm.findClass ("[" ++ ty.toString) = some cA) (hv : ∀ cA : ClassId, vp_cell cA a0 = arrV cA N (fun _ => defaultValue ty)) (hn : ¬ n < 0) (hN : n.toNatClampNeg = N) (hbt : N * componentBytes ty ≤ 536870912) (h1 : mc + 1 ≤ MC) (h2 : ms + N ≤ MS) (ha : E0.length + L.length = a)
    (kk : wk p lc e R s m args below meth c Z g nL (pc + 2) l (.ref (g.1 + a) :: st) E0 (L ++ [.inl (g.2.2.1 t, a0)]) (mc + 1) (ms + N)) : wk p lc e R s m args below meth c Z g nL pc l (.int n :: st) E0 L mc ms := by
  subst ha
  subst hty
  subst hN
  intro H locs ls hP hz hS hl
  refine W.newa hc.1 hc.2.1 (hc.2.2.2.2.1 _ har) rfl hd rfl hn hbt (Nat.le_trans h1 hc.2.2.2.2.2.2.2.2.1) (Nat.le_trans h2 hc.2.2.2.2.2.2.2.2.2.1) fun cA kA comp q1 q2 q3 => ?_
  have hcA : cA = g.2.2.1 t := by
    have := ((hp s _).mp (hc.2.2.2.2.2.1.1.2 t _ ht).2)
    exact Option.some.inj (q1.symm.trans this)
  subst hcA
  have hl1 : (E0 ++ L).length = E0.length + L.length := List.length_append
  generalize hH1 : H.push _ = H1
  have o1 : ∀ q, q < H.size → H1[q]? = H[q]? := fun q hq => by rw [← hH1, Array.getElem?_push, if_neg (Nat.ne_of_lt hq)]
  have z1 : H1.size = H.size + 1 := by rw [← hH1]; simp
  have e1 : H1[H.size]? = some (vp_cell (g.2.2.1 t) a0) := by
    rw [hv, ← hH1, ← arrV_new]; simp
  have hk : ∀ (k : Nat) (x : Nat × va_E), (ay_Z g (E0 ++ L))[k]? = some x → H1[x.1]? = H[x.1]? := fun k x hx => o1 x.1 ((hP k x hx).lt)
  have hP1 : va_P g.2.1 ay_cl (ay_Z g (E0 ++ (L ++ [.inl (g.2.2.1 t, a0)]))) H1 := by
    rw [← List.append_assoc, ay_Zpush]
    refine (hP.kept hk).app (fun k x hx => ?_)
    have hz0 : k < 1 := (List.getElem?_eq_some_iff.mp hx).1
    rw [show k = 0 by omega] at hx
    cases hx
    rw [← hz]
    exact e1
  have e2 : H.size = g.1 + (E0.length + L.length) := by rw [hz, hl1]
  have := kk H1 locs ls hP1 (by rw [z1, e2]; simp; omega) ⟨Nat.le_trans hS.1 (by omega), fun x h1 h2 => (o1 x (Nat.lt_of_lt_of_le h1 hS.1)).trans (hS.2.1 x h1 h2), hS.2.2⟩ hl
  rw [e2]
  exact this
theorem wk_putF {C : String} {T : u_T} {N ci i q k : Nat} {ref : String} {fs : List Value} {v : Value} {ty : FieldType} {L' : List va_E} (hc : ay_Ck g y cc nL d MC MS true p R s m args meth c) (hd : decode cc pc = .ok (.putfield i, 3)) (hw : Cond.fieldLink y.cls i ref (T k).2.1 (T k).2.2.1 ∈ ay_G) (hr : ref = (T k).1) (hL : L[q]? = some (.inr (ci, fs))) (hci : ay_cl[ci]? = some (C, T, N)) (hin : ∀ w ∈ u_ws C T N, w ∈ ay_G) (hk : k < N) (ty0 : Nat → FieldType) (hty : ∀ k, k < N → parseFieldDescriptor (T k).2.2.1 = some (ty0 k)) (hnm : ∀ a, a < N → ∀ b, b < N → a ≠ b → (T a).2.1 ≠ (T b).2.1) (hfin : (T k).2.2.2 = true) (hdl : (T k).1 = y.cls) (hpd : parseFieldDescriptor (T k).2.2.1 = some ty) (hnr : narrow ty v = v) (hft : fits ty v = true) (hlt : k < fs.length) (hL' : L.set q (.inr (ci, fs.set k v)) = L')
    (kk : wk p lc e R s m args below meth c Z g nL (pc + 3) l st E0 L' mc ms) : wk p lc e R s m args below meth c Z g nL pc l (v :: .ref (g.1 + (E0.length + q)) :: st) E0 L mc ms := by
  subst hr
  subst hL'
  intro H locs ls hP hz hS hl
  have hts := hc.2.2.2.2.1
  have hown := hc.2.2.2.1
  have hK := hc.2.2.2.2.2.1.1
  have hq : q < L.length := (List.getElem?_eq_some_iff.mp hL).1
  have he : (E0 ++ L)[E0.length + q]? = some (.inr (ci, fs)) := by rw [List.getElem?_append_right (by omega)]; simpa using hL
  have hap := va_apart (own := y.cls) hts hin ty0 hty hnm hK hci
  obtain ⟨r, h1, cell, q1, q2, q3, q4⟩ := hP (E0.length + q) _ (ay_Zat he)
  obtain rfl : r = (C, T, N) := Option.some.inj (h1.symm.trans hci)
  obtain ⟨hSl, hfc, kC, hkC, hkind⟩ := hK.1 ci _ hci
  obtain ⟨cf, kf, fi, f, hi, hsl⟩ := hSl k hk
  have hlay : (u_lay C T k).before args s = true := hts _ (hin _ (u_in_lay hk))
  have hst := (u_facts hfc hkC (u_lays hts hin hk) hi).1
  unfold u_lay at hlay
  rw [if_pos hfin] at hlay
  have hcf : m.cls = cf := by
    obtain ⟨_, _, c', _, _, _, -, -, hf', -, -, -, hown2, -⟩ := Cond.laysFinal_spec hlay
    have e1 : c' = cf := by have := hi.symm.trans hf'; simp at this; exact this.1.symm
    rw [hdl] at hown2
    rw [← e1]; exact Option.some.inj (hown.symm.trans hown2)
  have h6 := u_fits hfc hkC hkind (Or.inr hlay) hi hpd hnr hft
  refine W.putFinK hc.1 hc.2.1 hown (hts _ hw) hi hst hcf (hc.2.2.2.2.2.2.2.2.2.2 rfl) (by rw [q2]; exact h6) q1 q3 (by rw [hsl]; exact k2_hasslot (q4 k hk)) rfl rfl hd fun H' e1 e2 e3 => ?_
  rw [hsl] at e1
  have hP1 := hP.set ay_ZD (ay_Zat he) (e := .inr (ci, fs.set k v)) ⟨_, hci, t_OB.to (V := updV (vp_V fs) k v) ⟨_, e1, q2, q3, t_set q4 hap hk v⟩ (fun j _ => vp_updV_set hlt v j)⟩ e3
  have hq0 : E0.length + q - E0.length = q := by omega
  rw [ay_Zset, List.set_append_right _ _ (by omega), hq0] at hP1
  exact kk H' _ ls hP1 (by rw [e2, hz]; simp) (hS.put e2 e3 (Nat.le_add_right _ _)) hl
theorem wk_putV {C : String} {T : u_T} {N ci i q k : Nat} {ref : String} {fs : List Value} {v : Value} {ty : FieldType} {L' : List va_E} (hc : ay_Ck g y cc nL d MC MS true p R s m args meth c) (hd : decode cc pc = .ok (.putfield i, 3)) (hw : Cond.fieldLink y.cls i ref (T k).2.1 (T k).2.2.1 ∈ ay_G) (hr : ref = (T k).1) (hL : L[q]? = some (.inr (ci, fs))) (hci : ay_cl[ci]? = some (C, T, N)) (hin : ∀ w ∈ u_ws C T N, w ∈ ay_G) (hk : k < N) (ty0 : Nat → FieldType) (hty : ∀ k, k < N → parseFieldDescriptor (T k).2.2.1 = some (ty0 k)) (hnm : ∀ a, a < N → ∀ b, b < N → a ≠ b → (T a).2.1 ≠ (T b).2.1) (hfin : (T k).2.2.2 = false) (hpd : parseFieldDescriptor (T k).2.2.1 = some ty) (hnr : narrow ty v = v) (hft : fits ty v = true) (hlt : k < fs.length) (hL' : L.set q (.inr (ci, fs.set k v)) = L')
    (kk : wk p lc e R s m args below meth c Z g nL (pc + 3) l st E0 L' mc ms) : wk p lc e R s m args below meth c Z g nL pc l (v :: .ref (g.1 + (E0.length + q)) :: st) E0 L mc ms := by
  subst hr
  subst hL'
  intro H locs ls hP hz hS hl
  have hts := hc.2.2.2.2.1
  have hown := hc.2.2.2.1
  have hK := hc.2.2.2.2.2.1.1
  have hq : q < L.length := (List.getElem?_eq_some_iff.mp hL).1
  have he : (E0 ++ L)[E0.length + q]? = some (.inr (ci, fs)) := by rw [List.getElem?_append_right (by omega)]; simpa using hL
  have hap := va_apart (own := y.cls) hts hin ty0 hty hnm hK hci
  obtain ⟨r, h1, cell, q1, q2, q3, q4⟩ := hP (E0.length + q) _ (ay_Zat he)
  obtain rfl : r = (C, T, N) := Option.some.inj (h1.symm.trans hci)
  obtain ⟨hSl, hfc, kC, hkC, hkind⟩ := hK.1 ci _ hci
  obtain ⟨cf, kf, fi, f, hi, hsl⟩ := hSl k hk
  have hlay : (u_lay C T k).before args s = true := hts _ (hin _ (u_in_lay hk))
  have hst := (u_facts hfc hkC (u_lays hts hin hk) hi).1
  unfold u_lay at hlay
  rw [if_neg (by rw [hfin]; decide)] at hlay
  have h6 := u_store hfc hkC hkind hlay hi hpd hnr hft
  refine W.putK hc.1 hc.2.1 (f := f) ⟨hown, hts _ hw, ⟨_, _, _, hi⟩, hst⟩ (by rw [q2]; exact h6) q1 q3 (by rw [hsl]; exact k2_hasslot (q4 k hk)) rfl rfl hd fun H' e1 e2 e3 => ?_
  rw [hsl] at e1
  have hP1 := hP.set ay_ZD (ay_Zat he) (e := .inr (ci, fs.set k v)) ⟨_, hci, t_OB.to (V := updV (vp_V fs) k v) ⟨_, e1, q2, q3, t_set q4 hap hk v⟩ (fun j _ => vp_updV_set hlt v j)⟩ e3
  have hq0 : E0.length + q - E0.length = q := by omega
  rw [ay_Zset, List.set_append_right _ _ (by omega), hq0] at hP1
  exact kk H' _ ls hP1 (by rw [e2, hz]; simp) (hS.put e2 e3 (Nat.le_add_right _ _)) hl
theorem wk_return {E' : List va_E} (hc : ay_Ck g y cc nL d MC MS ini p R s m args meth c) (hr : meth.sig.returnType = none) (hlocks : meth.locks = false) (hd : decode cc pc = .ok (.return_, 1)) (h1 : mc ≤ MC) (h2 : ms ≤ MS) (hE : E0 ++ L = E') : wk p lc e R s m args below meth c (MQ below (fun _ st oc t => (oc = .returned none ∧ t.heap.size = g.1 + E'.length ∧ va_P g.2.1 ay_cl (ay_Z g E') t.heap) ∧ va_F (ay_A g) st t) args s MC MS (ay_A g)) g nL pc l [] E0 L mc ms := by
  subst hE
  intro H locs ls hP hz hS hl
  exact W.widen h1 h2 (W.vret hc.1 hc.2.1 hr (fun t ht hW => ⟨⟨rfl, by rw [ht]; exact hz, by rw [ht]; exact hP⟩, hS.F ht⟩) hS.2.2 hd hlocks)
theorem wk_call {y2 : MethodName} {cc2 : ByteArray} {nL2 d2 MC2 MS2 i q : Nat} {E1 E2 L' : List va_E} (hc : ay_Ck g y cc nL d MC MS ini p R s m args meth c) (hd : decode cc pc = .ok (.invokespecial i, 3)) (hm : ay_MI y2 cc2 nL2 none 0) (hl0 : Cond.methodLink y.cls i y2 ∈ ay_G) (hin : Cond.instanceMethod y2 ∈ ay_G) (hy : y2.name = "<init>") (hd2 : d2 < d) (hE1 : E1 = E0 ++ L) (hE2 : E2 = E0 ++ L') (h1 : mc + MC2 ≤ MC) (h2 : ms + MS2 ≤ MS) (hr : (st.map fun v => v.category).sum ≤ 8)
    (k : CallK g y2 cc2 nL2 d2 MC2 MS2 E1 E2 [.ref (g.1 + q)]) (kk : wk p lc e R s m args below meth c Z g nL (pc + 3) l st E0 L' (mc + MC2) (ms + MS2)) : wk p lc e R s m args below meth c Z g nL pc l (.ref (g.1 + q) :: st) E0 L mc ms := by
  subst hE1
  subst hE2
  intro H locs ls hP hz hS hl T hT X
  obtain ⟨m1, m2, m3, -, m5⟩ := hm
  have hts := hc.2.2.2.2.1
  have hcb : CallB R s args y.cls i y2 cc2 nL2 none (Cond.code y2 cc2 nL2 none :: ay_G) (ay_rk d2 MC2 MS2) MC2 MS2 0 := by
    have hf := hc.2.2.2.2.2.2.1
    have hlo := hc.2.2.2.2.2.2.2.1
    refine ⟨rfl, rfl, ?_, ?_, ?_, List.mem_cons_self, hts _ m1, hts _ m2, ⟨m3.1, m3.2.1⟩, ?_, hts _ hl0⟩
    · show d2 + 1 ≤ R.frames
      omega
    · show 8 + (nL2 + 11) + 45 * d2 ≤ R.locals
      omega
    · intro w hw a' U hW
      rcases List.mem_cons.mp hw with rfl | hw
      · exact word_at hW (ay_good m1) (hts _ m1)
      · exact word_at hW (ay_good hw) (hts _ hw)
    · intro sig h
      have h2 := m3.2.2
      rw [h] at h2
      exact (Option.some.inj h2).symm
  have hrun := va_runI (As := []) (rest := st) (b := g.1 + q) (nL := nL) (Ts := ay_G) (locs := locs) (p := p) (e := e) (below := below) (meth := meth) (H := H) (cells := mc) (slots := ms) ⟨hc.1, hc.2.1, hc.2.2.1, hc.2.2.2.1, hts⟩ (k lc) ⟨hcb, hy, hts _ hin⟩ ⟨fun _ _ _ _ h => ⟨h.1, h.2.1, h.2.2.1, ay_Kn.call rfl rfl h.2.2.2⟩, fun U hU hW => ⟨rfl, by rw [hU]; exact hz, by rw [hU]; exact hP, ay_Kn.go hc.2.2.2.2.2.1 hW (by rw [hU]; exact hS.2.1) (by rw [hU]; exact hS.1)⟩⟩ (g := F0 m pc ls (.ref (g.1 + q) :: st)) rfl rfl hl.1 rfl (ay_room hr) hd ⟨Nat.le_trans h1 hc.2.2.2.2.2.2.2.2.1, Nat.le_trans h2 hc.2.2.2.2.2.2.2.2.2.1⟩
  obtain ⟨v, st₀, t, T', Lc, h0, X', hLc, e1, e2, ⟨⟨hv, hz2, hP2⟩, hzz, hkk⟩, stp⟩ := hrun T hT X
  cases hv
  rw [h0] at hzz hkk
  obtain ⟨t2, a1, b1⟩ := kk T'.heap (locs ++ Lc) ls (by rw [e1]; exact hP2) (by rw [e1]; exact hz2) ⟨Nat.le_trans hS.1 (by rw [e1]; exact hzz), fun q h1 h2 => by rw [e1, hkk q (Nat.lt_of_lt_of_le h1 hS.1) h2]; exact hS.2.1 q h1 h2, fun q hq => (List.mem_append.mp hq).elim (hS.2.2 q) (hLc q)⟩ hl T' rfl X'
  exact ⟨t2, stp t2 a1, b1⟩
end WK
/-- a constructor, from its entry -/
theorem wk_enter {g : ayG} {y : MethodName} {cc : ByteArray} {nL d MC MS : Nat} {E E' E0 L : List va_E} {As : List Value} {l0 : List (Nat × Value)} (hm : ay_MI y cc nL none 0) (hy : y.name = "<init>") (hlen : (lg_sl As).length ≤ nL) (hE : E = E0 ++ L) (hl0 : lv_args 0 As = l0)
    (k : ∀ (p : Program) (lc : Launch) (e : Env) (R : Room) (s : State) (m : MethodId) (args : Array Value) (below : List Frame) (meth : Method) (c : Code), ay_Ck g y cc nL d MC MS true p R s m args meth c → meth.sig.returnType = none → meth.locks = false → wk p lc e R s m args below meth c (MQ below (fun _ st oc t => (oc = .returned none ∧ t.heap.size = g.1 + E'.length ∧ va_P g.2.1 ay_cl (ay_Z g E') t.heap) ∧ va_F (ay_A g) st t) args s MC MS (ay_A g)) g nL 0 l0 [] E0 L 0 0) : CallK g y cc nL d MC MS E E' As := by
  subst hE
  subst hl0
  intro lc
  refine Met.ofW (cc := cc) (maxL := nL) (ret := none) hm.2.2.2.1 rfl ?_
  intro p e s m args below meth c s₁ B hml hv
  obtain ⟨rfl, hz, hP, hK⟩ := hv
  have hx := B.exec
  have hb := B.bytes
  have hr := B.returns
  have hts := atoms_spec (ws := Cond.code y cc nL none :: ay_G) B.pre
  have hown : s.vm.findClass y.cls = some m.cls := findClass_of_methodNamed B.named
  have hlocks := B.notSynchronized
  have hin : meth.name = y.name := (name_of_methodNamed B.named B.method).1
  rw [lg_entry_eq]
  have hl := lv_entry As (n := nL) hlen
  exact k p lc e _ s m _ below meth c ⟨hx, hb, hml, hown, fun w hw => hts w (List.mem_cons_of_mem _ hw), hK, Nat.le_refl _, Nat.le_refl _, Nat.le_refl _, Nat.le_refl _, fun _ => hin.trans hy⟩ hr hlocks s.heap [] _ hP hz va_S.rf hl
