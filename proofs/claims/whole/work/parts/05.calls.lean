/-- what the tables say of a method: its code, its class, how many arguments -/
def ay_MI (y : MethodName) (cc : ByteArray) (nL : Nat) (ret : Option FieldType) (n : Nat) : Prop :=
  Cond.code y cc nL ret ∈ ay_G ∧ Cond.initialized y.cls ∈ ay_G ∧ (y.cls ≠ "java/lang/invoke/MethodHandle" ∧ y.cls ≠ "java/lang/invoke/VarHandle" ∧ (parseMethodDescriptor y.desc).map (fun d => d.parameters.length) = some n) ∧ plainName y.cls = true ∧ nL ≤ 26
theorem ay_blind {g : ayG} {As : List Value} {w : Wd} : FrameBlind (va_Pc As (ay_Pre g w)) := fun _ _ _ _ h => ⟨h.1, h.2.1, ay_Kn.call rfl rfl h.2.2⟩
section CALLS
variable {g : ayG} {X : State → Prop} {y : MethodName} {cc : ByteArray} {nL : Nat} {ret : Option FieldType} {d pc : Nat} {l : List (Nat × Value)} {st rest : List Value} {w : Wd} {Q : Option Value → Wd → Prop}
theorem ay_cb {p : Program} {R : Room} {s : State} {m : MethodId} {args : Array Value} {c : Code} {cells slots : Nat} {y2 : MethodName} {cc2 : ByteArray} {nL2 : Nat} {ret2 : Option FieldType} {n d2 i : Nat} (hc : ay_Cx g X y cc nL d p R s m args c cells slots) (hm : ay_MI y2 cc2 nL2 ret2 n) (hl : Cond.methodLink y.cls i y2 ∈ ay_G) (hd2 : d2 < d) :
    CallB R s args y.cls i y2 cc2 nL2 ret2 (Cond.code y2 cc2 nL2 ret2 :: ay_G) (ay_rm d2) 0 0 n := by
  obtain ⟨-, -, -, -, hts, -, hf, hlo, -, -, -⟩ := hc
  obtain ⟨m1, m2, m3, -, m5⟩ := hm
  refine ⟨rfl, rfl, ?_, ?_, ?_, List.mem_cons_self, hts _ m1, hts _ m2, ⟨m3.1, m3.2.1⟩, ?_, hts _ hl⟩
  · show d2 + 1 ≤ R.frames
    omega
  · show 8 + (nL2 + 11) + 45 * d2 ≤ R.locals
    omega
  · intro w hw a' U hW
    rcases List.mem_cons.mp hw with rfl | hw
    · exact word_at hW (ay_good m1) (hts _ m1)
    · exact word_at hW (ay_good hw) (hts _ hw)
  · intro sig h
    have h2 := m3.2.2
    rw [h] at h2
    exact (Option.some.inj h2).symm
theorem ay_room {st : List Value} {m : MethodId} {ls : Array Slot} {st0 : List Value} (h : (st.map fun v => v.category).sum ≤ 8) : 2 * (F0 m pc ls st0).monitorRoom + (st.map fun v => v.category).sum ≤ 8 := by
  show 2 * 0 + _ ≤ 8
  omega
/-- behind a call -/
theorem ay_back {p : Program} {lc : Launch} {e : Env} {R : Room} {s : State} {m : MethodId} {args : Array Value} {below : List Frame} {meth : Method} {c : Code} {H : Heap} {locs : List Loc} {cells slots : Nat} {Z : State → Prop} {ls : Array Slot} {st0 : List Value} {a : Array Value}
    (hc : ay_Cx g X y cc nL d p R s m args c cells slots) (hS : va_S (ay_A g) s.heap H locs) (hl : lv_has ls nL l) (hf : ay_Fin g cc ret p lc e R s m args below meth c cells slots Z Q)
    (hr : va_Run p lc e R s m args below meth c H locs cells slots 0 0 (F0 m pc ls st0) rest (ay_Post g (fun r w => wp g X y cc nL ret d (pc + 3) l (r.toList ++ rest) w Q) a) (ay_A g)) : W p lc e R s m args below meth c H locs cells slots Z (F0 m pc ls st0) := by
  intro T hT X
  obtain ⟨v, st₀, t, T', L, h0, X', hL, e1, e2, ⟨⟨r, w', hv, hQ, hP'⟩, hz, hk⟩, stp⟩ := hr T hT X
  cases hv
  rw [h0] at hz hk
  obtain ⟨t2, a1, b1⟩ := hQ p lc e R s m args below meth c T'.heap (locs ++ L) cells slots Z ls hc (by rw [e1]; exact hP') ⟨Nat.le_trans hS.1 (by rw [e1]; exact hz), fun q h1 h2 => by rw [e1, hk q (Nat.lt_of_lt_of_le h1 hS.1) h2]; exact hS.2.1 q h1 h2, fun q hq => (List.mem_append.mp hq).elim (hS.2.2 q) (hL q)⟩ hl hf T' rfl X'
  exact ⟨t2, stp t2 a1, b1⟩
theorem ay_pre {s : State} {H : Heap} {locs : List Loc} (hK : ay_Kn g s s.heap) (hP : va_P g.2.1 ay_cl (ay_W g w) H) (hS : va_S (ay_A g) s.heap H locs) (As : List Value) : ∀ U : State, U.heap = H → s.WarmedH U.vm → va_Pc As (ay_Pre g w) As.toArray U :=
  fun U hU hW => ⟨rfl, by rw [hU]; exact hP, ay_Kn.go hK hW (by rw [hU]; exact hS.2.1) (by rw [hU]; exact hS.1)⟩
theorem am_callS {y2 : MethodName} {cc2 : ByteArray} {nL2 : Nat} {ret2 : Option FieldType} {d2 i n : Nat} (As : List Value) (hd : decode cc pc = .ok (.invokestatic i, 3)) (hm : ay_MI y2 cc2 nL2 ret2 n) (hl : Cond.methodLink y.cls i y2 ∈ ay_G) (hst : Cond.static y2 ∈ ay_G) (hd2 : d2 < d) (hn : As.length = n) (hs : st = As.reverse ++ rest) (hr : (rest.map fun v => v.category).sum ≤ 8)
    (k : Call g y2 cc2 nL2 ret2 d2 As w (fun r w => wp g X y cc nL ret d (pc + 3) l (r.toList ++ rest) w Q)) : wp g X y cc nL ret d pc l st w Q := by
  intro p lc e R s m args below meth c H locs cells slots Z ls hc hP hS hl2 hf
  refine ay_back hc hS hl2 hf (va_runS (nL := nL) (Ts := ay_G) (rest := rest) ⟨hc.1, hc.2.1, hc.2.2.1, hc.2.2.2.1, hc.2.2.2.2.1⟩ (k lc) ⟨ay_cb hc hm hl hd2, hc.2.2.2.2.1 _ hst⟩ ⟨ay_blind, ay_pre hc.2.2.2.2.2.1 hP hS As⟩ rfl hn hl2.1 hs (ay_room hr) hd ⟨hc.2.2.2.2.2.2.2.2.1, hc.2.2.2.2.2.2.2.2.2.1⟩)
theorem am_callV {C : String} {y2 : MethodName} {cc2 : ByteArray} {nL2 : Nat} {ret2 : Option FieldType} {d2 i n a ci : Nat} {q : vw_C} {fs : List Value} (As : List Value) (hd : decode cc pc = .ok (.invokevirtual i, 3)) (hm : ay_MI y2 cc2 nL2 ret2 n) (hl : Cond.methodLink y.cls i y2 ∈ ay_G) (hin : Cond.instanceMethod y2 ∈ ay_G) (hse : Cond.selects C y2 y2 ∈ ay_G) (ha : a < 47) (he : ay_el g w a = .inr (ci, fs)) (hci : ay_cl[ci]? = some q) (hqC : q.1 = C) (hd2 : d2 < d) (hn : As.length = n) (hs : st = As.reverse ++ .ref (g.1 + a) :: rest) (hr : (rest.map fun v => v.category).sum ≤ 8)
    (k : Call g y2 cc2 nL2 ret2 d2 (.ref (g.1 + a) :: As) w (fun r w => wp g X y cc nL ret d (pc + 3) l (r.toList ++ rest) w Q)) : wp g X y cc nL ret d pc l st w Q := by
  intro p lc e R s m args below meth c H locs cells slots Z ls hc hP hS hl2 hf
  subst hqC
  refine ay_back hc hS hl2 hf (va_runV (C := q.1) (nL := nL) (Ts := ay_G) (rest := rest) ⟨hc.1, hc.2.1, hc.2.2.1, hc.2.2.2.1, hc.2.2.2.2.1⟩ (k lc) ⟨ay_cb hc hm hl hd2, hc.2.2.2.2.1 _ hin, hc.2.2.2.2.1 _ hse⟩ ⟨ay_blind, va_recv hc.2.2.2.2.2.1.1 hP hci ((ay_Wat ha).trans (by rw [he])), ay_pre hc.2.2.2.2.2.1 hP hS _⟩ rfl hn hl2.1 hs (ay_room hr) hd ⟨hc.2.2.2.2.2.2.2.2.1, hc.2.2.2.2.2.2.2.2.2.1⟩)
/-- a method, from its entry -/
theorem am_enter {n : Nat} {As : List Value} (hm : ay_MI y cc nL ret n) (hlen : (lg_sl As).length ≤ nL) (k : wp g (fun _ => True) y cc nL ret d 0 (lv_args 0 As) [] w Q) : Call g y cc nL ret d As w Q := by
  intro lc
  refine Met.ofW (cc := cc) (maxL := nL) (ret := ret) hm.2.2.2.1 rfl ?_
  intro p e s m args below meth c s₁ B hml hv
  obtain ⟨rfl, hP, hK⟩ := hv
  have hx := B.exec
  have hb := B.bytes
  have hr := B.returns
  have hts := atoms_spec (ws := Cond.code y cc nL ret :: ay_G) B.pre
  have hown : s.vm.findClass y.cls = some m.cls := findClass_of_methodNamed B.named
  have hlocks := B.notSynchronized
  rw [lg_entry_eq]
  have hl := lv_entry As (n := nL) hlen
  refine k p lc e _ s m _ below meth c s.heap [] 0 0 _ _ ⟨hx, hb, hml, hown, fun w hw => hts w (List.mem_cons_of_mem _ hw), hK, Nat.le_refl _, Nat.le_refl _, Nat.zero_le _, Nat.zero_le _, trivial⟩ hP va_S.rf hl ?_
  intro r w' H' locs' pc' ls' hQ hret hP' hS'
  rcases hret with ⟨x, ty, rfl, hty, hn, hd⟩ | ⟨x, rfl, hty, hd⟩ | ⟨a, n, rfl, hty, hd⟩ | ⟨rfl, hty, hd⟩
  · exact W.zret hx hb (hr.trans hty) hn (fun t ht hW => ⟨⟨_, w', rfl, hQ, by rw [ht]; exact hP'⟩, hS'.F ht⟩) hS'.2.2 hd hlocks
  · exact W.lret hx hb (hr.trans hty) (fun t ht hW => ⟨⟨_, w', rfl, hQ, by rw [ht]; exact hP'⟩, hS'.F ht⟩) hS'.2.2 hd hlocks
  · exact W.aret hx hb (hr.trans hty) (Or.inl ⟨n, rfl⟩) (Or.inr ⟨a, rfl⟩) (fun t ht hW => ⟨⟨_, w', rfl, hQ, by rw [ht]; exact hP'⟩, hS'.F ht⟩) hS'.2.2 hd hlocks
  · exact W.vret hx hb (hr.trans hty) (fun t ht hW => ⟨⟨_, w', rfl, hQ, by rw [ht]; exact hP'⟩, hS'.F ht⟩) hS'.2.2 hd hlocks
end CALLS
