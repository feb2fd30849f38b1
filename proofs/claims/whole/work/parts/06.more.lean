section MORE
variable {g : ayG} {X : State → Prop} {y : MethodName} {cc : ByteArray} {nL : Nat} {ret : Option FieldType} {d pc : Nat} {l : List (Nat × Value)} {st rest : List Value} {w : Wd} {Q : Option Value → Wd → Prop}
theorem am_topi {e : Int32} (k : ∀ x, x = e → wp g X y cc nL ret d pc l (.int x :: st) w Q) : wp g X y cc nL ret d pc l (.int e :: st) w Q := k e rfl
theorem am_topl {e : Int64} (k : ∀ x, x = e → wp g X y cc nL ret d pc l (.long x :: st) w Q) : wp g X y cc nL ret d pc l (.long e :: st) w Q := k e rfl
theorem ay_nb {x : Int32} (h : x = 0 ∨ x = 1) : narrow .boolean (.int x) = .int x := by rcases h with rfl | rfl <;> rfl
theorem Call.post {y : MethodName} {As : List Value} {Q' : Option Value → Wd → Prop} (h : ∀ r w, Q r w → Q' r w) (k : Call g y cc nL ret d As w Q) : Call g y cc nL ret d As w Q' := by
  intro lc p e h1 h2 h3 s m args below h4 h5 h6 h7
  obtain ⟨n, o, k1, k2, k3, ⟨⟨r, w', k4, k5, k6⟩, k7⟩, k8⟩ := k lc p e h1 h2 h3 s m args below h4 h5 h6 h7
  exact ⟨n, o, k1, k2, k3, ⟨⟨r, w', k4, h _ _ k5, k6⟩, k7⟩, k8⟩
theorem am_copyL {a0 a1 n0 n1 i : Nat} {sp dp n : Int32} (hd : decode cc pc = .ok (.invokestatic i, 3)) (hl : Cond.methodLink y.cls i arraycopyName ∈ ay_G) (hs0 : ay_sh a0 = (0, n0)) (hs1 : ay_sh a1 = (0, n1)) (hz : ¬ sp < 0 ∧ ¬ dp < 0 ∧ ¬ n < 0 ∧ sp.toNatClampNeg + n.toNatClampNeg ≤ n0 ∧ dp.toNatClampNeg + n.toNatClampNeg ≤ n1) (hd1 : 1 ≤ d) (hr : (st.map fun v => v.category).sum ≤ 8)
    (k : wp g X y cc nL ret d (pc + 3) l st (wR w a1 (va_cpy (w.2 a0) (w.2 a1) sp.toNatClampNeg dp.toNatClampNeg n.toNatClampNeg)) Q) : wp g X y cc nL ret d pc l (.int n :: .int dp :: .ref (g.1 + a1) :: .int sp :: .ref (g.1 + a0) :: st) w Q := by
  intro p lc e R s m args below meth c H locs cells slots Z ls hc hP hS hl2 hf
  have ha0 := ay_shlt hs0 (by decide)
  have ha1 := ay_shlt hs1 (by decide)
  have hw : nativeFrameWords "java/lang/System" "arraycopy" 5 + 11 ≤ 30 := by decide
  refine va_copyl (D := g.2.1) (cl := ay_cl) (tys := ay_tys g) (A := ay_A g) (H0 := s.heap) hc.1 hc.2.1 (hc.2.2.1.trans hl2.1.symm) hc.2.2.2.1 (hc.2.2.2.2.1 _ hl) (hc.2.2.2.2.1 (Cond.native arraycopyName) ?_) (hc.2.2.2.2.1 (Cond.static arraycopyName) ?_) (hc.2.2.2.2.1 (Cond.initialized "java/lang/System") ?_) hc.2.2.2.2.2.1.1 hP ay_WD hS a0 a1 0 0 ((ay_Wat ha0).trans (by rw [el_J hs0])) ((ay_Wat ha1).trans (by rw [el_J hs1])) rfl rfl rfl hz.1 hz.2.1 hz.2.2.1 hz.2.2.2.1 hz.2.2.2.2 (fun _ _ => rfl) ?_ ?_ hd (fun H1 locs1 hP1 hD1 hS1 => ?_)
  · exact wd_427
  · exact wd_426
  · exact wd_20
  · have := hc.2.2.2.2.2.2.1
    omega
  · have := hc.2.2.2.2.2.2.2.1
    omega
  · have he2 : ay_el g (wR w a1 (va_cpy (w.2 a0) (w.2 a1) sp.toNatClampNeg dp.toNatClampNeg n.toNatClampNeg)) a1 = .inl (g.2.2.1 0, n1, .inr (.inl (va_cpy (w.2 a0) (w.2 a1) sp.toNatClampNeg dp.toNatClampNeg n.toNatClampNeg))) := by
      rw [el_J hs1]
      simp [wR]
    rw [← he2, ay_Wset ha1 wR_o] at hP1
    exact k p lc e R s m args below meth c H1 locs1 cells slots Z ls hc hP1 hS1 hl2 hf
def imin (a b : Int32) : Int32 := if b < a then b else a
def imax (a b : Int32) : Int32 := if a < b then b else a
theorem am_mmin {a b : Int32} {i : Nat} (hd : decode cc pc = .ok (.invokestatic i, 3)) (hl : Cond.methodLink y.cls i y_Math_min ∈ ay_G) (hd1 : 1 ≤ d) (hr : (st.map fun v => v.category).sum ≤ 8) (k : wp g X y cc nL ret d (pc + 3) l (.int (imin a b) :: st) w Q) : wp g X y cc nL ret d pc l (.int b :: .int a :: st) w Q := by
  intro p lc e R s m args below meth c H locs cells slots Z ls hc hP hS hl2 hf
  refine va_mmin hc.1 hc.2.1 (hc.2.2.1.trans hl2.1.symm) hc.2.2.2.1 (hc.2.2.2.2.1 _ hl) (hc.2.2.2.2.1 (Cond.static y_Math_min) wd_290) (hc.2.2.2.2.1 _ wd_12) (hc.2.2.2.2.1 _ wd_291) ?_ ?_ hc.2.2.2.2.2.2.2.2.1 hc.2.2.2.2.2.2.2.2.2.1 hd (k p lc e R s m args below meth c H locs cells slots Z ls hc hP hS hl2 hf)
  · have := hc.2.2.2.2.2.2.1
    omega
  · have := hc.2.2.2.2.2.2.2.1
    omega
theorem am_mmax {a b : Int32} {i : Nat} (hd : decode cc pc = .ok (.invokestatic i, 3)) (hl : Cond.methodLink y.cls i y_Math_max ∈ ay_G) (hd1 : 1 ≤ d) (hr : (st.map fun v => v.category).sum ≤ 8) (k : wp g X y cc nL ret d (pc + 3) l (.int (imax a b) :: st) w Q) : wp g X y cc nL ret d pc l (.int b :: .int a :: st) w Q := by
  intro p lc e R s m args below meth c H locs cells slots Z ls hc hP hS hl2 hf
  refine va_mmax hc.1 hc.2.1 (hc.2.2.1.trans hl2.1.symm) hc.2.2.2.1 (hc.2.2.2.2.1 _ hl) (hc.2.2.2.2.1 (Cond.static y_Math_max) wd_764) (hc.2.2.2.2.1 _ wd_12) (hc.2.2.2.2.1 _ wd_765) ?_ ?_ hc.2.2.2.2.2.2.2.2.1 hc.2.2.2.2.2.2.2.2.2.1 hd (k p lc e R s m args below meth c H locs cells slots Z ls hc hP hS hl2 hf)
  · have := hc.2.2.2.2.2.2.1
    omega
  · have := hc.2.2.2.2.2.2.2.1
    omega
end MORE
theorem sh_F1 {c : Nat} (h : ay_sh c = (14, 0)) : ay_sh (c + 1) = (0, 31) := (show ∀ c, c < 47 → ay_sh c = (14, 0) → ay_sh (c + 1) = (0, 31) by decide) c (ay_shlt h (by decide)) h
theorem sh_F2 {c : Nat} (h : ay_sh c = (14, 0)) : ay_sh (c + 2) = (1, 31) := (show ∀ c, c < 47 → ay_sh c = (14, 0) → ay_sh (c + 2) = (1, 31) by decide) c (ay_shlt h (by decide)) h
theorem sh_F3 {c : Nat} (h : ay_sh c = (14, 0)) : ay_sh (c + 3) = (0, 31) := (show ∀ c, c < 47 → ay_sh c = (14, 0) → ay_sh (c + 3) = (0, 31) by decide) c (ay_shlt h (by decide)) h
theorem sh_O1 {c : Nat} (h : ay_sh c = (15, 0)) : ay_sh (c + 1) = (0, 16) := (show ∀ c, c < 47 → ay_sh c = (15, 0) → ay_sh (c + 1) = (0, 16) by decide) c (ay_shlt h (by decide)) h
