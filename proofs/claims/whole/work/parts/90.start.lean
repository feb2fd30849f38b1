def st_tm (i : Nat) : Term := .string "TriSplits$Reader" ([119, 127, 129, 134, 140].getD i 0)
def st_tn (i : Nat) : Term := .string "TriSplitsModel" ([381, 386, 388, 392, 397].getD i 0)
theorem st_h {s : State} {b : Nat} {c : Cond} (h : (Cond.and given_1 narrow_1).before #[Value.ref b] s = true) (hc : c ∈ flatC (Cond.and given_1 narrow_1)) : c.before #[Value.ref b] s = true := flat_of_before _ h c hc
theorem st_ex : ∀ i, i < 5 → Cond.exactly (st_tm i) "java/lang/String" ∈ flatC (Cond.and given_1 narrow_1)
  | 0, _ => by decide +kernel
  | 1, _ => by decide +kernel
  | 2, _ => by decide +kernel
  | 3, _ => by decide +kernel
  | 4, _ => by decide +kernel
  | i + 5, h => absurd h (by omega)
theorem st_co : ∀ i, i < 5 → Cond.eq (.field (st_tm i) "java/lang/String" "coder" "B") (.int 0) ∈ flatC (Cond.and given_1 narrow_1)
  | 0, _ => by decide +kernel
  | 1, _ => by decide +kernel
  | 2, _ => by decide +kernel
  | 3, _ => by decide +kernel
  | 4, _ => by decide +kernel
  | i + 5, h => absurd h (by omega)
theorem st_ar : ∀ i, i < 5 → Cond.arrayOf (.field (st_tm i) "java/lang/String" "value" "[B") .byte ∈ flatC (Cond.and given_1 narrow_1)
  | 0, _ => by decide +kernel
  | 1, _ => by decide +kernel
  | 2, _ => by decide +kernel
  | 3, _ => by decide +kernel
  | 4, _ => by decide +kernel
  | i + 5, h => absurd h (by omega)
theorem st_le : ∀ i, i < 5 → Cond.eq (.length (.field (st_tm i) "java/lang/String" "value" "[B")) (.int (Int32.ofNat (ay_slen.getD i 0))) ∈ flatC (Cond.and given_1 narrow_1)
  | 0, _ => by decide +kernel
  | 1, _ => by decide +kernel
  | 2, _ => by decide +kernel
  | 3, _ => by decide +kernel
  | 4, _ => by decide +kernel
  | i + 5, h => absurd h (by omega)
theorem st_eq : ∀ i, i < 5 → Cond.eq (st_tm i) (st_tn i) ∈ flatC (Cond.and given_1 narrow_1)
  | 0, _ => by decide +kernel
  | 1, _ => by decide +kernel
  | 2, _ => by decide +kernel
  | 3, _ => by decide +kernel
  | 4, _ => by decide +kernel
  | i + 5, h => absurd h (by omega)
theorem st_el : ∀ i, i < 5 → ∀ j, j < ay_slen.getD i 0 → Cond.eq (.elem (.field (st_tm i) "java/lang/String" "value" "[B") (.int (Int32.ofNat j))) (.int ((ay_sbyt.getD i []).getD j 0)) ∈ flatC (Cond.and given_1 narrow_1)
  | 0, _, 0, _ => by decide +kernel
  | 0, _, j + 1, h => absurd h (by simp [ay_slen])
  | 1, _, 0, _ => by decide +kernel
  | 1, _, j + 1, h => absurd h (by simp [ay_slen])
  | 2, _, 0, _ => by decide +kernel
  | 2, _, 1, _ => by decide +kernel
  | 2, _, 2, _ => by decide +kernel
  | 2, _, j + 3, h => absurd h (by simp [ay_slen])
  | 3, _, 0, _ => by decide +kernel
  | 3, _, 1, _ => by decide +kernel
  | 3, _, 2, _ => by decide +kernel
  | 3, _, j + 3, h => absurd h (by simp [ay_slen])
  | 4, _, 0, _ => by decide +kernel
  | 4, _, 1, _ => by decide +kernel
  | 4, _, 2, _ => by decide +kernel
  | 4, _, j + 3, h => absurd h (by simp [ay_slen])
  | i + 5, h, _, _ => absurd h (by omega)
theorem st_ne : ∀ i, i < 5 → ∀ j, j < 5 → i ≠ j → (Cond.not (Cond.eq (st_tm i) (st_tm j)) ∈ flatC (Cond.and given_1 narrow_1)) ∨ (Cond.not (Cond.eq (st_tm j) (st_tm i)) ∈ flatC (Cond.and given_1 narrow_1))
  | 0, _, 0, _, h => absurd rfl h
  | 0, _, 1, _, _ => Or.inl (by decide +kernel)
  | 0, _, 2, _, _ => Or.inl (by decide +kernel)
  | 0, _, 3, _, _ => Or.inl (by decide +kernel)
  | 0, _, 4, _, _ => Or.inl (by decide +kernel)
  | 0, _, j + 5, h, _ => absurd h (by omega)
  | 1, _, 0, _, _ => Or.inr (by decide +kernel)
  | 1, _, 1, _, h => absurd rfl h
  | 1, _, 2, _, _ => Or.inl (by decide +kernel)
  | 1, _, 3, _, _ => Or.inl (by decide +kernel)
  | 1, _, 4, _, _ => Or.inl (by decide +kernel)
  | 1, _, j + 5, h, _ => absurd h (by omega)
  | 2, _, 0, _, _ => Or.inr (by decide +kernel)
  | 2, _, 1, _, _ => Or.inr (by decide +kernel)
  | 2, _, 2, _, h => absurd rfl h
  | 2, _, 3, _, _ => Or.inl (by decide +kernel)
  | 2, _, 4, _, _ => Or.inl (by decide +kernel)
  | 2, _, j + 5, h, _ => absurd h (by omega)
  | 3, _, 0, _, _ => Or.inr (by decide +kernel)
  | 3, _, 1, _, _ => Or.inr (by decide +kernel)
  | 3, _, 2, _, _ => Or.inr (by decide +kernel)
  | 3, _, 3, _, h => absurd rfl h
  | 3, _, 4, _, _ => Or.inl (by decide +kernel)
  | 3, _, j + 5, h, _ => absurd h (by omega)
  | 4, _, 0, _, _ => Or.inr (by decide +kernel)
  | 4, _, 1, _, _ => Or.inr (by decide +kernel)
  | 4, _, 2, _, _ => Or.inr (by decide +kernel)
  | 4, _, 3, _, _ => Or.inr (by decide +kernel)
  | 4, _, 4, _, h => absurd rfl h
  | 4, _, j + 5, h, _ => absurd h (by omega)
  | i + 5, h, _, _, _ => absurd h (by omega)
theorem st_cs : Cond.eq (.static "java/lang/String" "COMPACT_STRINGS" "Z") (.int 1) ∈ flatC (Cond.and given_1 narrow_1) := by decide +kernel
theorem st_fm : Cond.isRef (.static "jdk/internal/util/Preconditions" "SIOOBE_FORMATTER" "Ljava/util/function/BiFunction;") ∈ flatC (Cond.and given_1 narrow_1) := by decide +kernel
theorem st_arr {s : State} {a : Array Value} {ty : FieldType} (h : (Cond.arrayClass ty).before a s = true) (hp : ∀ U : State, ∀ cA, va_RA U cA ty ↔ U.vm.findClass ("[" ++ ty.toString) = some cA) : ∃ cA, ArrOfT s cA ty ∧ va_RA s cA ty := by
  obtain ⟨c, k, comp, h1, h2, h3⟩ := Cond.arrayClass_spec h
  exact ⟨c, fun n z => ⟨fun k h => (by cases h), k, h2, comp, h3⟩, (hp s c).mpr h1⟩
/-- classes, rows, strings, statics: found once, at the start -/
theorem st_known {s : State} {b : Nat} (hts : ∀ w ∈ lw_tbl, w.before #[Value.ref b] s = true) (hgv : (Cond.and given_1 narrow_1).before #[Value.ref b] s = true) : ∃ g : ayG, g.1 = s.heap.size ∧ ay_Kn g s s.heap := by
  have hG : ∀ w ∈ ay_G, w.before #[Value.ref b] s = true := fun w hw => hts w (ay_sub hw)
  obtain ⟨c0, s0, k0⟩ := u_known (C := R_T) (T := F_T) (N := 9) (n := 9) hG i_T (hG _ wd_23)
  obtain ⟨c1, s1, k1⟩ := u_known (C := R_Reader) (T := F_Reader) (N := 8) (n := 8) hG i_Reader (hG _ wd_31)
  obtain ⟨c2, s2, k2⟩ := u_known (C := R_Tape) (T := F_Tape) (N := 2) (n := 2) hG i_Tape (hG _ wd_37)
  obtain ⟨c3, s3, k3⟩ := u_known (C := R_Store) (T := F_Store) (N := 6) (n := 6) hG i_Store (hG _ wd_78)
  obtain ⟨c4, s4, k4⟩ := u_known (C := R_Factors) (T := F_Factors) (N := 5) (n := 5) hG i_Factors (hG _ wd_103)
  obtain ⟨c5, s5, k5⟩ := u_known (C := R_Orders) (T := F_Orders) (N := 2) (n := 2) hG i_Orders (hG _ wd_125)
  obtain ⟨c6, s6, k6⟩ := u_known (C := R_Families) (T := F_Families) (N := 1) (n := 1) hG i_Families (hG _ wd_138)
  obtain ⟨c7, s7, k7⟩ := u_known (C := R_Field) (T := F_Field) (N := 2) (n := 2) hG i_Field (hG _ wd_150)
  obtain ⟨c8, s8, k8⟩ := u_known (C := R_Rows) (T := F_Rows) (N := 4) (n := 4) hG i_Rows (hG _ wd_163)
  obtain ⟨c9, s9, k9⟩ := u_known (C := R_Letters) (T := F_Letters) (N := 2) (n := 2) hG i_Letters (hG _ wd_182)
  obtain ⟨c10, s10, k10⟩ := u_known (C := R_M) (T := F_M) (N := 35) (n := 35) hG i_M (hG _ wd_1071)
  obtain ⟨a0, q0⟩ := st_arr (hG _ wd_75) (fun _ _ => Iff.rfl)
  obtain ⟨a1, q1⟩ := st_arr (hG _ wd_76) (fun _ _ => Iff.rfl)
  obtain ⟨a2, q2⟩ := st_arr (hG _ wd_49) (fun _ _ => Iff.rfl)
  obtain ⟨a3, q3⟩ := st_arr (hG _ wd_1183) (fun _ _ => Iff.rfl)
  have hA : ∀ a : Nat, a < s.heap.size → ¬ (fun q : Nat => s.heap.size ≤ q) a := fun a h => Nat.not_le.mpr h
  obtain ⟨adK, adV, hSt, hEv⟩ := vk_Sof (N := 5) (tm := st_tm) (len := ay_slen) (byt := ay_sbyt) (A := fun q : Nat => s.heap.size ≤ q) (by decide) (fun i hi => st_h hgv (st_ex i hi)) (fun i hi => st_h hgv (st_co i hi)) (fun i hi => st_h hgv (st_ar i hi)) (fun i hi => st_h hgv (st_le i hi)) (fun i hi j hj => st_h hgv (st_el i hi j hj)) (fun i j hi hj hij => (st_ne i hi j hj hij).imp (fun h => st_h hgv h) (fun h => st_h hgv h)) hA
  have hEn : ∀ i, i < 5 → (st_tn i).eval #[Value.ref b] s none [] s = some (.ref (adK i)) := by
    intro i hi
    obtain ⟨y, h1, h2⟩ := Cond.eq_one (st_h hgv (st_eq i hi))
    rw [h2, ← h1, hEv i hi]
  refine ⟨(s.heap.size, (fun k => [c0, c1, c2, c3, c4, c5, c6, c7, c8, c9, c10].getD k 0, fun k => [s0, s1, s2, s3, s4, s5, s6, s7, s8, s9, s10].getD k s0), fun k => [a0, a1, a2, a3].getD k 0, adK, adV), rfl, ⟨?_, ?_⟩, hSt, ?_, ?_, ?_, Nat.le_refl _⟩
  · intro k q hq
    match k, hq with
    | 0, hq => cases hq; exact k0
    | 1, hq => cases hq; exact k1
    | 2, hq => cases hq; exact k2
    | 3, hq => cases hq; exact k3
    | 4, hq => cases hq; exact k4
    | 5, hq => cases hq; exact k5
    | 6, hq => cases hq; exact k6
    | 7, hq => cases hq; exact k7
    | 8, hq => cases hq; exact k8
    | 9, hq => cases hq; exact k9
    | 10, hq => cases hq; exact k10
    | k + 11, hq => simp at hq
  · intro k q hq
    match k, hq with
    | 0, hq => cases hq; exact q0
    | 1, hq => cases hq; exact q1
    | 2, hq => cases hq; exact q2
    | 3, hq => cases hq; exact q3
    | k + 4, hq => simp at hq
  · exact va_Zof (hts _ wd_337) (hG _ wd_13) (va_eqt (st_h hgv st_cs)) hA
  · exact va_Zqof (hts _ wd_353) (hG _ wd_15) (st_h hgv st_fm) hA
  · intro q hq
    simp only [ay_strs, List.mem_cons, List.not_mem_nil, or_false] at hq
    rcases hq with rfl | rfl | rfl | rfl | rfl | rfl | rfl | rfl | rfl | rfl
    · exact vk_R.of (hts _ wd_323) (hEv 0 (by decide))
    · exact vk_R.of (hts _ wd_377) (hEv 1 (by decide))
    · exact vk_R.of (hts _ wd_378) (hEv 2 (by decide))
    · exact vk_R.of (hts _ wd_386) (hEv 3 (by decide))
    · exact vk_R.of (hts _ wd_400) (hEv 4 (by decide))
    · exact vk_R.of (hts _ wd_1610) (hEn 0 (by decide))
    · exact vk_R.of (hts _ wd_1623) (hEn 1 (by decide))
    · exact vk_R.of (hts _ wd_1624) (hEn 2 (by decide))
    · exact vk_R.of (hts _ wd_1629) (hEn 3 (by decide))
    · exact vk_R.of (hts _ wd_1641) (hEn 4 (by decide))
def st_E (g : ayG) : List va_E := [.inr (0, [.ref (g.1 + (0 + 1)), .ref (g.1 + (0 + 6)), .ref (g.1 + (0 + 10)), .ref (g.1 + (0 + 14)), .ref (g.1 + (0 + 18)), .ref (g.1 + (0 + 20)), .ref (g.1 + (0 + 23)), .ref (g.1 + (0 + 26)), .ref (g.1 + (0 + 28))]), .inr (1, [.ref (g.1 + ((0 + 1) + 1)), .ref (g.1 + ((0 + 1) + 3)), .ref (g.1 + ((0 + 1) + 4)), .int 0, .int 0, .int (-1), .int 0, .int (-1)]), .inr (2, [.ref (g.1 + (((0 + 1) + 1) + 1)), .int 0]), .inl (g.2.2.1 2, (300, .inl (fun _ => 0))), .inl (g.2.2.1 0, (10, .inr (.inl (fun _ => 0)))), .inl (g.2.2.1 1, (6, .inl (fun _ => 0))), .inr (3, [.ref (g.1 + ((0 + 6) + 1)), .ref (g.1 + ((0 + 6) + 2)), .ref (g.1 + ((0 + 6) + 3)), .int 0, .int 0, .int 0]), .inl (g.2.2.1 0, (13, .inr (.inl (fun _ => 0)))), .inl (g.2.2.1 0, (130, .inr (.inl (fun _ => 0)))), .inl (g.2.2.1 0, (26, .inr (.inl (fun _ => 0)))), .inr (4, [.ref (g.1 + ((0 + 10) + 1)), .ref (g.1 + ((0 + 10) + 2)), .ref (g.1 + ((0 + 10) + 3)), .int 0, .int 0]), .inl (g.2.2.1 0, (31, .inr (.inl (fun _ => 0)))), .inl (g.2.2.1 1, (31, .inl (fun _ => 0))), .inl (g.2.2.1 0, (31, .inr (.inl (fun _ => 0)))), .inr (4, [.ref (g.1 + ((0 + 14) + 1)), .ref (g.1 + ((0 + 14) + 2)), .ref (g.1 + ((0 + 14) + 3)), .int 0, .int 0]), .inl (g.2.2.1 0, (31, .inr (.inl (fun _ => 0)))), .inl (g.2.2.1 1, (31, .inl (fun _ => 0))), .inl (g.2.2.1 0, (31, .inr (.inl (fun _ => 0)))), .inr (5, [.ref (g.1 + ((0 + 18) + 1)), .int 0]), .inl (g.2.2.1 0, (16, .inr (.inl (fun _ => 0)))), .inr (6, [.ref (g.1 + ((0 + 20) + 1))]), .inr (5, [.ref (g.1 + (((0 + 20) + 1) + 1)), .int 0]), .inl (g.2.2.1 0, (16, .inr (.inl (fun _ => 0)))), .inr (7, [.ref (g.1 + ((0 + 23) + 1)), .ref (g.1 + ((0 + 23) + 2))]), .inl (g.2.2.1 0, (32, .inr (.inl (fun _ => 0)))), .inl (g.2.2.1 0, (256, .inr (.inl (fun _ => 0)))), .inr (8, [.ref (g.1 + ((0 + 26) + 1)), .int 0, .int 0, .int 0]), .inl (g.2.2.1 0, (2880, .inr (.inl (fun _ => 0)))), .inr (9, [.ref (g.1 + ((0 + 28) + 1)), .int 0]), .inl (g.2.2.1 2, (400, .inl (fun _ => 0))), .inr (10, [.ref (g.1 + ((0 + 30) + 1)), .ref (g.1 + ((0 + 30) + 2)), .int 0, .ref (g.1 + ((0 + 30) + 3)), .ref (g.1 + ((0 + 30) + 4)), .ref (g.1 + ((0 + 30) + 5)), .int 0, .long (-1), .ref (g.1 + ((0 + 30) + 6)), .int 0, .ref (g.1 + ((0 + 30) + 7)), .ref (g.1 + ((0 + 30) + 8)), .ref (g.1 + ((0 + 30) + 9)), .long 0, .ref (g.1 + ((0 + 30) + 10)), .ref (g.1 + ((0 + 30) + 11)), .ref (g.1 + ((0 + 30) + 12)), .int 0, .int 0, .int 0, .ref (g.1 + ((0 + 30) + 13)), .int 0, .int 0, .int (-1), .int 0, .int (-1), .int 0, .int 0, .int 0, .ref (g.1 + ((0 + 30) + 14)), .long 0, .ref (g.1 + ((0 + 30) + 15)), .int 0, .ref (g.1 + ((0 + 30) + 16)), .int 0]), .inl (g.2.2.1 0, (14, .inr (.inl (fun _ => 0)))), .inl (g.2.2.1 0, (140, .inr (.inl (fun _ => 0)))), .inl (g.2.2.1 0, (28, .inr (.inl (fun _ => 0)))), .inl (g.2.2.1 3, (2, .inl (fun _ => 0))), .inl (g.2.2.1 0, (32, .inr (.inl (fun _ => 0)))), .inl (g.2.2.1 0, (20, .inr (.inl (fun _ => 0)))), .inl (g.2.2.1 0, (301, .inr (.inl (fun _ => 0)))), .inl (g.2.2.1 0, (64, .inr (.inl (fun _ => 0)))), .inl (g.2.2.1 0, (64, .inr (.inl (fun _ => 0)))), .inl (g.2.2.1 1, (64, .inl (fun _ => 0))), .inl (g.2.2.1 0, (31, .inr (.inl (fun _ => 0)))), .inl (g.2.2.1 0, (31, .inr (.inl (fun _ => 0)))), .inl (g.2.2.1 2, (300, .inl (fun _ => 0))), .inl (g.2.2.1 1, (6, .inl (fun _ => 0))), .inl (g.2.2.1 0, (10, .inr (.inl (fun _ => 0)))), .inl (g.2.2.1 0, (8192, .inr (.inl (fun _ => 0))))]
theorem st_world (g : ayG) : ay_Z g (st_E g) = ay_W g st_w0 := by
  apply List.ext_getElem?
  intro i
  match i with
  | 0 => rw [ay_Wat (by decide), ay_Zat (e := ay_el g st_w0 0) (by rw [el_T (show ay_sh 0 = _ from rfl)]; rfl)]
  | 1 => rw [ay_Wat (by decide), ay_Zat (e := ay_el g st_w0 1) (by rw [el_Reader (show ay_sh 1 = _ from rfl)]; rfl)]
  | 2 => rw [ay_Wat (by decide), ay_Zat (e := ay_el g st_w0 2) (by rw [el_Tape (show ay_sh 2 = _ from rfl)]; rfl)]
  | 3 => rw [ay_Wat (by decide), ay_Zat (e := ay_el g st_w0 3) (by rw [el_B (show ay_sh 3 = _ from rfl)]; rfl)]
  | 4 => rw [ay_Wat (by decide), ay_Zat (e := ay_el g st_w0 4) (by rw [el_J (show ay_sh 4 = _ from rfl)]; rfl)]
  | 5 => rw [ay_Wat (by decide), ay_Zat (e := ay_el g st_w0 5) (by rw [el_I (show ay_sh 5 = _ from rfl)]; rfl)]
  | 6 => rw [ay_Wat (by decide), ay_Zat (e := ay_el g st_w0 6) (by rw [el_Store (show ay_sh 6 = _ from rfl)]; rfl)]
  | 7 => rw [ay_Wat (by decide), ay_Zat (e := ay_el g st_w0 7) (by rw [el_J (show ay_sh 7 = _ from rfl)]; rfl)]
  | 8 => rw [ay_Wat (by decide), ay_Zat (e := ay_el g st_w0 8) (by rw [el_J (show ay_sh 8 = _ from rfl)]; rfl)]
  | 9 => rw [ay_Wat (by decide), ay_Zat (e := ay_el g st_w0 9) (by rw [el_J (show ay_sh 9 = _ from rfl)]; rfl)]
  | 10 => rw [ay_Wat (by decide), ay_Zat (e := ay_el g st_w0 10) (by rw [el_Factors (show ay_sh 10 = _ from rfl)]; rfl)]
  | 11 => rw [ay_Wat (by decide), ay_Zat (e := ay_el g st_w0 11) (by rw [el_J (show ay_sh 11 = _ from rfl)]; rfl)]
  | 12 => rw [ay_Wat (by decide), ay_Zat (e := ay_el g st_w0 12) (by rw [el_I (show ay_sh 12 = _ from rfl)]; rfl)]
  | 13 => rw [ay_Wat (by decide), ay_Zat (e := ay_el g st_w0 13) (by rw [el_J (show ay_sh 13 = _ from rfl)]; rfl)]
  | 14 => rw [ay_Wat (by decide), ay_Zat (e := ay_el g st_w0 14) (by rw [el_Factors (show ay_sh 14 = _ from rfl)]; rfl)]
  | 15 => rw [ay_Wat (by decide), ay_Zat (e := ay_el g st_w0 15) (by rw [el_J (show ay_sh 15 = _ from rfl)]; rfl)]
  | 16 => rw [ay_Wat (by decide), ay_Zat (e := ay_el g st_w0 16) (by rw [el_I (show ay_sh 16 = _ from rfl)]; rfl)]
  | 17 => rw [ay_Wat (by decide), ay_Zat (e := ay_el g st_w0 17) (by rw [el_J (show ay_sh 17 = _ from rfl)]; rfl)]
  | 18 => rw [ay_Wat (by decide), ay_Zat (e := ay_el g st_w0 18) (by rw [el_Orders (show ay_sh 18 = _ from rfl)]; rfl)]
  | 19 => rw [ay_Wat (by decide), ay_Zat (e := ay_el g st_w0 19) (by rw [el_J (show ay_sh 19 = _ from rfl)]; rfl)]
  | 20 => rw [ay_Wat (by decide), ay_Zat (e := ay_el g st_w0 20) (by rw [el_Families (show ay_sh 20 = _ from rfl)]; rfl)]
  | 21 => rw [ay_Wat (by decide), ay_Zat (e := ay_el g st_w0 21) (by rw [el_Orders (show ay_sh 21 = _ from rfl)]; rfl)]
  | 22 => rw [ay_Wat (by decide), ay_Zat (e := ay_el g st_w0 22) (by rw [el_J (show ay_sh 22 = _ from rfl)]; rfl)]
  | 23 => rw [ay_Wat (by decide), ay_Zat (e := ay_el g st_w0 23) (by rw [el_Field (show ay_sh 23 = _ from rfl)]; rfl)]
  | 24 => rw [ay_Wat (by decide), ay_Zat (e := ay_el g st_w0 24) (by rw [el_J (show ay_sh 24 = _ from rfl)]; rfl)]
  | 25 => rw [ay_Wat (by decide), ay_Zat (e := ay_el g st_w0 25) (by rw [el_J (show ay_sh 25 = _ from rfl)]; rfl)]
  | 26 => rw [ay_Wat (by decide), ay_Zat (e := ay_el g st_w0 26) (by rw [el_Rows (show ay_sh 26 = _ from rfl)]; rfl)]
  | 27 => rw [ay_Wat (by decide), ay_Zat (e := ay_el g st_w0 27) (by rw [el_J (show ay_sh 27 = _ from rfl)]; rfl)]
  | 28 => rw [ay_Wat (by decide), ay_Zat (e := ay_el g st_w0 28) (by rw [el_Letters (show ay_sh 28 = _ from rfl)]; rfl)]
  | 29 => rw [ay_Wat (by decide), ay_Zat (e := ay_el g st_w0 29) (by rw [el_B (show ay_sh 29 = _ from rfl)]; rfl)]
  | 30 => rw [ay_Wat (by decide), ay_Zat (e := ay_el g st_w0 30) (by rw [el_M (show ay_sh 30 = _ from rfl)]; rfl)]
  | 31 => rw [ay_Wat (by decide), ay_Zat (e := ay_el g st_w0 31) (by rw [el_J (show ay_sh 31 = _ from rfl)]; rfl)]
  | 32 => rw [ay_Wat (by decide), ay_Zat (e := ay_el g st_w0 32) (by rw [el_J (show ay_sh 32 = _ from rfl)]; rfl)]
  | 33 => rw [ay_Wat (by decide), ay_Zat (e := ay_el g st_w0 33) (by rw [el_J (show ay_sh 33 = _ from rfl)]; rfl)]
  | 34 => rw [ay_Wat (by decide), ay_Zat (e := ay_el g st_w0 34) (by rw [el_Z (show ay_sh 34 = _ from rfl)]; rfl)]
  | 35 => rw [ay_Wat (by decide), ay_Zat (e := ay_el g st_w0 35) (by rw [el_J (show ay_sh 35 = _ from rfl)]; rfl)]
  | 36 => rw [ay_Wat (by decide), ay_Zat (e := ay_el g st_w0 36) (by rw [el_J (show ay_sh 36 = _ from rfl)]; rfl)]
  | 37 => rw [ay_Wat (by decide), ay_Zat (e := ay_el g st_w0 37) (by rw [el_J (show ay_sh 37 = _ from rfl)]; rfl)]
  | 38 => rw [ay_Wat (by decide), ay_Zat (e := ay_el g st_w0 38) (by rw [el_J (show ay_sh 38 = _ from rfl)]; rfl)]
  | 39 => rw [ay_Wat (by decide), ay_Zat (e := ay_el g st_w0 39) (by rw [el_J (show ay_sh 39 = _ from rfl)]; rfl)]
  | 40 => rw [ay_Wat (by decide), ay_Zat (e := ay_el g st_w0 40) (by rw [el_I (show ay_sh 40 = _ from rfl)]; rfl)]
  | 41 => rw [ay_Wat (by decide), ay_Zat (e := ay_el g st_w0 41) (by rw [el_J (show ay_sh 41 = _ from rfl)]; rfl)]
  | 42 => rw [ay_Wat (by decide), ay_Zat (e := ay_el g st_w0 42) (by rw [el_J (show ay_sh 42 = _ from rfl)]; rfl)]
  | 43 => rw [ay_Wat (by decide), ay_Zat (e := ay_el g st_w0 43) (by rw [el_B (show ay_sh 43 = _ from rfl)]; rfl)]
  | 44 => rw [ay_Wat (by decide), ay_Zat (e := ay_el g st_w0 44) (by rw [el_I (show ay_sh 44 = _ from rfl)]; rfl)]
  | 45 => rw [ay_Wat (by decide), ay_Zat (e := ay_el g st_w0 45) (by rw [el_J (show ay_sh 45 = _ from rfl)]; rfl)]
  | 46 => rw [ay_Wat (by decide), ay_Zat (e := ay_el g st_w0 46) (by rw [el_J (show ay_sh 46 = _ from rfl)]; rfl)]
  | i + 47 => rw [List.getElem?_eq_none (by rw [ay_Zlen]; exact Nat.le_add_left _ _), List.getElem?_eq_none (by simp [ay_W])]
/-- THE LAW, from its entry, out of a run of its loop -/
theorem st_start {p : Program} {e : Env} {s : State} {m : MethodId} {below : List Frame} {meth : Method} {c : Code} (lc : Launch) {b L : Nat} {xs : Nat → Int32} (hrun : ∃ n, cf_L_law_L18 b L xs (fun x _ => x = 1) n 0 st_w0) (C0 : lw_At p s m meth c b L xs) : W p lc e room_1 s m #[Value.ref b] below meth c s.heap [] 0 0 (lw_Z below #[Value.ref b] s) (entryFrame m ([Value.ref b] : List Value).toArray 4) := by
  obtain ⟨hx, hb, hr, hml, hown, hts, hX, hbl, hlocks, hgv⟩ := id C0
  obtain ⟨g, hg, hK⟩ := st_known hts hgv
  have hG : ∀ w ∈ ay_G, w.before #[Value.ref b] s = true := fun w hw => hts w (ay_sub hw)
  have hc : ay_Ck g y_L_law code 4 1000 600000 7302250 false p room_1 s m #[Value.ref b] meth c := ⟨hx, hb, hml, hown, hG, hK, Nat.le_of_ble_eq_true rfl, Nat.le_of_ble_eq_true rfl, Nat.le_of_ble_eq_true rfl, Nat.le_of_ble_eq_true rfl, fun h => Bool.noConfusion h⟩
  rw [lg_entry_eq]
  have hl := lv_entry [Value.ref b] (n := 4) (Nat.le_of_ble_eq_true rfl)
  have key : wk p lc e room_1 s m #[Value.ref b] below meth c (lw_Z below #[Value.ref b] s) g 4 0 [(0, .ref b)] [] [] [] 0 0 := by
    refine wk_new (C := R_T) (T := F_T) (N := 9) (ci := 0) (fs := [.null, .null, .null, .null, .null, .null, .null, .null, .null]) (a := 0 + 0) hc d_L_law_0 wd_22 wd_23 wd_1 i_T G_T ty_T rfl bl_T (Nat.le_of_ble_eq_true rfl) (Nat.le_of_ble_eq_true rfl) rfl ?_
    refine wk_dup hc d_L_law_3 rfl ?_
    refine wk_call (L' := [.inr (0, [.ref (g.1 + (0 + 1)), .ref (g.1 + (0 + 6)), .ref (g.1 + (0 + 10)), .ref (g.1 + (0 + 14)), .ref (g.1 + (0 + 18)), .ref (g.1 + (0 + 20)), .ref (g.1 + (0 + 23)), .ref (g.1 + (0 + 26)), .ref (g.1 + (0 + 28))]), .inr (1, [.ref (g.1 + ((0 + 1) + 1)), .ref (g.1 + ((0 + 1) + 3)), .ref (g.1 + ((0 + 1) + 4)), .int 0, .int 0, .int (-1), .int 0, .int (-1)]), .inr (2, [.ref (g.1 + (((0 + 1) + 1) + 1)), .int 0]), .inl (g.2.2.1 2, (300, .inl (fun _ => 0))), .inl (g.2.2.1 0, (10, .inr (.inl (fun _ => 0)))), .inl (g.2.2.1 1, (6, .inl (fun _ => 0))), .inr (3, [.ref (g.1 + ((0 + 6) + 1)), .ref (g.1 + ((0 + 6) + 2)), .ref (g.1 + ((0 + 6) + 3)), .int 0, .int 0, .int 0]), .inl (g.2.2.1 0, (13, .inr (.inl (fun _ => 0)))), .inl (g.2.2.1 0, (130, .inr (.inl (fun _ => 0)))), .inl (g.2.2.1 0, (26, .inr (.inl (fun _ => 0)))), .inr (4, [.ref (g.1 + ((0 + 10) + 1)), .ref (g.1 + ((0 + 10) + 2)), .ref (g.1 + ((0 + 10) + 3)), .int 0, .int 0]), .inl (g.2.2.1 0, (31, .inr (.inl (fun _ => 0)))), .inl (g.2.2.1 1, (31, .inl (fun _ => 0))), .inl (g.2.2.1 0, (31, .inr (.inl (fun _ => 0)))), .inr (4, [.ref (g.1 + ((0 + 14) + 1)), .ref (g.1 + ((0 + 14) + 2)), .ref (g.1 + ((0 + 14) + 3)), .int 0, .int 0]), .inl (g.2.2.1 0, (31, .inr (.inl (fun _ => 0)))), .inl (g.2.2.1 1, (31, .inl (fun _ => 0))), .inl (g.2.2.1 0, (31, .inr (.inl (fun _ => 0)))), .inr (5, [.ref (g.1 + ((0 + 18) + 1)), .int 0]), .inl (g.2.2.1 0, (16, .inr (.inl (fun _ => 0)))), .inr (6, [.ref (g.1 + ((0 + 20) + 1))]), .inr (5, [.ref (g.1 + (((0 + 20) + 1) + 1)), .int 0]), .inl (g.2.2.1 0, (16, .inr (.inl (fun _ => 0)))), .inr (7, [.ref (g.1 + ((0 + 23) + 1)), .ref (g.1 + ((0 + 23) + 2))]), .inl (g.2.2.1 0, (32, .inr (.inl (fun _ => 0)))), .inl (g.2.2.1 0, (256, .inr (.inl (fun _ => 0)))), .inr (8, [.ref (g.1 + ((0 + 26) + 1)), .int 0, .int 0, .int 0]), .inl (g.2.2.1 0, (2880, .inr (.inl (fun _ => 0)))), .inr (9, [.ref (g.1 + ((0 + 28) + 1)), .int 0]), .inl (g.2.2.1 2, (400, .inl (fun _ => 0)))]) hc d_L_law_4 mi_T_init wd_24 wd_25 rfl (by omega) rfl rfl (Nat.le_of_ble_eq_true rfl) (Nat.le_of_ble_eq_true rfl) (Nat.le_of_ble_eq_true rfl) (ck_T_init (d := 999) (by omega) [] _ _ 0 rfl rfl rfl) ?_
    refine wk_astore_n (l' := [(1, .ref (g.1 + (0 + 0))), (0, .ref b)]) hc d_L_law_7 (by decide) rfl ?_
    refine wk_new (C := R_M) (T := F_M) (N := 35) (ci := 10) (fs := [.null, .null, .int 0, .null, .null, .null, .int 0, .long 0, .null, .int 0, .null, .null, .null, .long 0, .null, .null, .null, .int 0, .int 0, .int 0, .null, .int 0, .int 0, .int 0, .int 0, .int 0, .int 0, .int 0, .int 0, .null, .long 0, .null, .int 0, .null, .int 0]) (a := 0 + 30) hc d_L_law_8 wd_1070 wd_1071 wd_11 i_M G_M ty_M rfl bl_M (Nat.le_of_ble_eq_true rfl) (Nat.le_of_ble_eq_true rfl) rfl ?_
    refine wk_dup hc d_L_law_11 rfl ?_
    refine wk_call (L' := st_E g) hc d_L_law_12 mi_M_init wd_1072 wd_1073 rfl (by omega) rfl rfl (Nat.le_of_ble_eq_true rfl) (Nat.le_of_ble_eq_true rfl) (Nat.le_of_ble_eq_true rfl) (ck_M_init (d := 999) (by omega) [.inr (0, [.ref (g.1 + (0 + 1)), .ref (g.1 + (0 + 6)), .ref (g.1 + (0 + 10)), .ref (g.1 + (0 + 14)), .ref (g.1 + (0 + 18)), .ref (g.1 + (0 + 20)), .ref (g.1 + (0 + 23)), .ref (g.1 + (0 + 26)), .ref (g.1 + (0 + 28))]), .inr (1, [.ref (g.1 + ((0 + 1) + 1)), .ref (g.1 + ((0 + 1) + 3)), .ref (g.1 + ((0 + 1) + 4)), .int 0, .int 0, .int (-1), .int 0, .int (-1)]), .inr (2, [.ref (g.1 + (((0 + 1) + 1) + 1)), .int 0]), .inl (g.2.2.1 2, (300, .inl (fun _ => 0))), .inl (g.2.2.1 0, (10, .inr (.inl (fun _ => 0)))), .inl (g.2.2.1 1, (6, .inl (fun _ => 0))), .inr (3, [.ref (g.1 + ((0 + 6) + 1)), .ref (g.1 + ((0 + 6) + 2)), .ref (g.1 + ((0 + 6) + 3)), .int 0, .int 0, .int 0]), .inl (g.2.2.1 0, (13, .inr (.inl (fun _ => 0)))), .inl (g.2.2.1 0, (130, .inr (.inl (fun _ => 0)))), .inl (g.2.2.1 0, (26, .inr (.inl (fun _ => 0)))), .inr (4, [.ref (g.1 + ((0 + 10) + 1)), .ref (g.1 + ((0 + 10) + 2)), .ref (g.1 + ((0 + 10) + 3)), .int 0, .int 0]), .inl (g.2.2.1 0, (31, .inr (.inl (fun _ => 0)))), .inl (g.2.2.1 1, (31, .inl (fun _ => 0))), .inl (g.2.2.1 0, (31, .inr (.inl (fun _ => 0)))), .inr (4, [.ref (g.1 + ((0 + 14) + 1)), .ref (g.1 + ((0 + 14) + 2)), .ref (g.1 + ((0 + 14) + 3)), .int 0, .int 0]), .inl (g.2.2.1 0, (31, .inr (.inl (fun _ => 0)))), .inl (g.2.2.1 1, (31, .inl (fun _ => 0))), .inl (g.2.2.1 0, (31, .inr (.inl (fun _ => 0)))), .inr (5, [.ref (g.1 + ((0 + 18) + 1)), .int 0]), .inl (g.2.2.1 0, (16, .inr (.inl (fun _ => 0)))), .inr (6, [.ref (g.1 + ((0 + 20) + 1))]), .inr (5, [.ref (g.1 + (((0 + 20) + 1) + 1)), .int 0]), .inl (g.2.2.1 0, (16, .inr (.inl (fun _ => 0)))), .inr (7, [.ref (g.1 + ((0 + 23) + 1)), .ref (g.1 + ((0 + 23) + 2))]), .inl (g.2.2.1 0, (32, .inr (.inl (fun _ => 0)))), .inl (g.2.2.1 0, (256, .inr (.inl (fun _ => 0)))), .inr (8, [.ref (g.1 + ((0 + 26) + 1)), .int 0, .int 0, .int 0]), .inl (g.2.2.1 0, (2880, .inr (.inl (fun _ => 0)))), .inr (9, [.ref (g.1 + ((0 + 28) + 1)), .int 0]), .inl (g.2.2.1 2, (400, .inl (fun _ => 0)))] _ _ (0 + 30) rfl rfl rfl) ?_
    refine wk_astore_n (l' := [(2, .ref (g.1 + (0 + 30))), (1, .ref (g.1 + (0 + 0))), (0, .ref b)]) hc d_L_law_15 (by decide) rfl ?_
    refine wk_iconst (v := 0) hc d_L_law_16 rfl ?_
    refine wk_istore_n (l' := [(3, .int 0), (2, .ref (g.1 + (0 + 30))), (1, .ref (g.1 + (0 + 0))), (0, .ref b)]) hc d_L_law_17 (by decide) rfl ?_
    intro H locs ls hP hz hS hl
    obtain ⟨n, hn⟩ := hrun
    have hw := cf_L_law_L18_ok (g := g) (d := 1000) (by omega) b L xs (fun x _ => x = 1) (fun r _ => r = some (.int 1)) (fun x w2 h => by rw [h]) n 0 st_w0 hn
    have hP2 : va_P g.2.1 ay_cl (ay_W g st_w0) H := by
      rw [← st_world g]
      exact hP
    refine hw p lc e room_1 s m #[Value.ref b] below meth c H locs _ _ (lw_Z below #[Value.ref b] s) ls ⟨hx, hb, hml, hown, hG, hK, Nat.le_of_ble_eq_true rfl, Nat.le_of_ble_eq_true rfl, Nat.le_of_ble_eq_true rfl, Nat.le_of_ble_eq_true rfl, hX, hbl, by rw [hg]; exact hbl⟩ hP2 hS (lv_sub hl [3, 2, 1, 0] rfl) ?_
    intro r w' H' locs' pc' ls' hQ hret hP' hS'
    subst hQ
    have hd : decode code pc' = .ok (.ireturn, 1) := by
      rcases hret with ⟨x, ty, -, -, -, hd⟩ | ⟨x, h, -⟩ | ⟨a, n, h, -⟩ | ⟨h, -⟩
      · exact hd
      · cases h
      · cases h
      · cases h
    refine va_forget (fun q hq => by have := hS'.2.2 q hq; rw [← hg]; exact this) (W.widen (k := 600000) (n := 7302250) (Nat.le_of_ble_eq_true rfl) (Nat.le_of_ble_eq_true rfl) ?_)
    exact lw_ret hx hb hr hlocks hd
  refine key s.heap [] _ (fun k q h => by simp [ay_Z] at h) (by rw [hg]; rfl) va_S.rf hl
