-- shortest
theorem mp_inL {x l g : Int64} {lo hi : Int} {P : Int32 → Prop} (hl : l.toInt = lo) (hg : g.toInt = hi) (h1 : lo ≤ x.toInt ∧ x.toInt ≤ hi → P 1) (h0 : ¬ (lo ≤ x.toInt ∧ x.toInt ≤ hi) → P 0) : cf_M_in x l g P := by
  unfold cf_M_in
  rw [Int64.lt_iff_toInt_lt, Int64.lt_iff_toInt_lt, hl, hg]
  exact ⟨fun _ => h0 (by omega), fun _ => ⟨fun _ => h0 (by omega), fun _ => h1 (by omega)⟩⟩
theorem op_shortest {w : Wd} (hI : Inv w) (a0 : Int64) (a1 : Int32) (a2 : Int32) : same01 (cf_T_shortest a0 a1 a2) (cf_M_shortest a0 a1 a2 w) := by
  intro G h
  have no : ¬ (1 ≤ a1.toInt ∧ a1.toInt ≤ 60) → G (-1) := by
    intro hno
    refine h _ (fun F hF => ?_)
    unfold cf_M_shortest
    exact mp_inI (lo := 1) (hi := 60) (by decide) (by decide) (fun z => absurd z hno) (fun _ => ⟨fun _ => hF w hI, fun z => absurd rfl z⟩)
  unfold cf_T_shortest
  rw [lt_k 1 (n := 1) (by decide), k_lt 60 (n := 60) (by decide)]
  refine ⟨fun z => no (by omega), fun z1 => ⟨fun z => no (by omega), fun z2 => ?_⟩⟩
  obtain ⟨n, -, rfl, hn⟩ := nat_of (a := a1) (by omega)
  have hn1 : 1 ≤ n := by omega
  have hn60 : n ≤ 60 := by omega
  have hpow : 2 ^ n ≤ 2 ^ 60 := Nat.pow_le_pow_right (by omega) hn60
  have hpow1 : 1 ≤ 2 ^ n := Nat.pow_pos (by omega)
  have no2 : ¬ (0 ≤ a0.toInt ∧ a0.toInt ≤ ((2 ^ n - 1 : Nat) : Int)) → G (-1) := by
    intro hno
    refine h _ (fun F hF => ?_)
    unfold cf_M_shortest
    refine mp_inI (lo := 1) (hi := 60) (by decide) (by decide) (fun _ => ⟨fun z => absurd z one_ne', fun _ => mp_allOnes (by omega) ?_⟩) (fun z => absurd ⟨by omega, by omega⟩ z)
    exact mp_inL (lo := 0) (hi := ((2 ^ n - 1 : Nat) : Int)) (by decide) (lN_toInt' (by omega)) (fun z => absurd z hno) (fun _ => ⟨fun _ => hF w hI, fun z => absurd rfl z⟩)
  rw [Int64.lt_iff_toInt_lt]
  refine ⟨fun z => no2 (fun y => by have : a0.toInt < 0 := z; omega), fun z3 => ?_⟩
  have z3 : ¬ a0.toInt < 0 := z3
  obtain ⟨s, hs63, rfl⟩ := lN_ofI (x := a0) (by omega)
  have hst := lN_toInt' hs63
  rw [lshr_lN hs63 (by omega), lN_eq0 (Nat.lt_of_le_of_lt (Nat.shiftRight_le s n) hs63), Nat.shiftRight_eq_div_pow, Nat.div_eq_zero_iff_lt (by omega)]
  refine ⟨fun z => no2 (fun y => by omega), fun hs => ?_⟩
  have hs60 : s < 2 ^ 60 := by omega
  -- the model up to the last test
  have mod : ∀ F : Int64 → Wd → Prop, (0 ≤ a2.toInt ∧ a2.toInt ≤ 1 → ∃ f, cf_M_shortest_L42 F f (lN s) (nI n) a2 0 w) → (¬ (0 ≤ a2.toInt ∧ a2.toInt ≤ 1) → F (-1) w) → cf_M_shortest (lN s) (nI n) a2 w F := by
    intro F hy hno
    unfold cf_M_shortest
    refine mp_inI (lo := 1) (hi := 60) (by decide) (by decide) (fun _ => ⟨fun z => absurd z one_ne', fun _ => mp_allOnes (by omega) ?_⟩) (fun z => absurd ⟨by omega, by omega⟩ z)
    refine mp_inL (lo := 0) (hi := ((2 ^ n - 1 : Nat) : Int)) (by decide) (lN_toInt' (by omega)) (fun _ => ⟨fun z => absurd z one_ne', fun _ => ?_⟩) (fun z => absurd ⟨by omega, by omega⟩ z)
    exact mp_inI (lo := 0) (hi := 1) (by decide) (by decide) (fun y => ⟨fun _ => hy y, fun z => absurd z one_ne'⟩) (fun y => ⟨fun z => absurd rfl z, fun _ => hno y⟩)
  rw [lt_k 0 (n := 0) (by decide), le_k 1 (n := 1) (by decide)]
  have no3 : ¬ (0 ≤ a2.toInt ∧ a2.toInt ≤ 1) → G (-1) := fun hno => h _ (fun F hF => mod F (fun y => absurd y hno) (fun _ => hF w hI))
  refine ⟨fun z => no3 (by omega), fun z4 => ⟨fun z5 => ?_, fun z5 => no3 (by omega)⟩⟩
  refine sp_shortest hs hn60 (fun C l hC hmin hln => ?_)
  have hl60 : l ≤ 60 := by omega
  have hlow : low C l < 2 ^ l := rv_lt _ _ _
  have hp0 : 2 ^ l ||| low C l ≠ 0 := by
    intro z
    have : (2 ^ l ||| low C l).testBit l = true := by rw [Nat.testBit_or, Nat.testBit_two_pow]; simp
    rw [z, Nat.zero_testBit] at this
    exact absurd this (by decide)
  have hplt : 2 ^ l ||| low C l < 2 ^ (l + 1) := Nat.or_lt_two_pow (Nat.pow_lt_pow_right (by omega) (by omega)) (Nat.lt_of_lt_of_le hlow (Nat.pow_le_pow_right (by omega) (by omega)))
  have hp63 : 2 ^ l ||| low C l < 2 ^ 63 := Nat.lt_of_lt_of_le hplt (Nat.le_of_lt (pow_le63 (by omega)))
  have hdg : dg (2 ^ l ||| low C l) = l := (log2_iff hp0).mpr ⟨Nat.left_le_or, hplt⟩
  rw [rv_low hC.1]
  refine sp_degree hp63 ?_
  rw [dI_pos hp0, hdg]
  -- the model comes to the same length
  have run : ∀ F : Int64 → Wd → Prop, (∀ w' c, skc w w' → rul s n l c → w'.2 30 13 = lN c → (¬ a2 = 0 → ((nI (2 * l) ≤ nI n → F (lshl (1 : Int64) (nI l) ||| lN c) w') ∧ (¬ nI (2 * l) ≤ nI n → F (-2) w'))) ∧ (a2 = 0 → F (nI l).toInt64 w')) → ∃ f, cf_M_shortest_L42 F f (lN s) (nI n) a2 0 w := by
    intro F hF
    have key : ∀ d L w1, L + d = l → skc w w1 → ∀ f, d < f → cf_M_shortest_L42 F f (lN s) (nI n) a2 (nI L) w1 := by
      intro d
      induction d with
      | zero =>
        intro L w1 hL hw1 f hf
        obtain ⟨f, rfl⟩ : ∃ m, f = m + 1 := ⟨f - 1, by omega⟩
        show cf_M_shortest_B42 _ _ _ _ _ _ _
        unfold cf_M_shortest_B42
        have : L = l := by omega
        subst this
        refine mp_isRule (B := w) hs60 hn60 hl60 (fun w2 c hw2 hr h13 => ⟨fun _ => ?_, fun z => absurd z one_ne'⟩) (fun w2 hw2 hno => absurd (gl_rul (by omega) hC) (hno _)) w1 hw1
        rw [h13, show (2 : Int32) = nI 2 from rfl, nI_mul]
        exact hF w2 c hw2 hr h13
      | succ d ih =>
        intro L w1 hL hw1 f hf
        obtain ⟨f, rfl⟩ : ∃ m, f = m + 1 := ⟨f - 1, by omega⟩
        show cf_M_shortest_B42 _ _ _ _ _ _ _
        unfold cf_M_shortest_B42
        refine mp_isRule (B := w) hs60 hn60 (by omega) (fun w2 c hw2 hr h13 => ?_) (fun w2 hw2 hno => ⟨fun z => absurd rfl z, fun _ => ?_⟩) w1 hw1
        · have := hmin _ _ (rul_gl (by omega) hr).1
          omega
        · rw [nI_1]
          rintro _ rfl
          exact ih (L + 1) w2 (by omega) hw2 f (by omega)
    exact ⟨l + 1, key l 0 w (by omega) (skc_refl w) (l + 1) (by omega)⟩
  have h2l : (2 : Int32) * nI l = nI (2 * l) := by rw [show (2 : Int32) = nI 2 from rfl, nI_mul]
  rw [h2l]
  refine ⟨fun ha => ⟨fun c => ?_, fun c => ?_⟩, fun ha => ?_⟩
  · refine h _ (fun F hF => mod F (fun _ => run F (fun w' c' hw' hr h13 => ⟨fun _ => ⟨fun _ => ?_, fun z => absurd c z⟩, fun z => absurd z ha⟩)) (fun z => absurd ⟨by omega, by omega⟩ z))
    rw [nI_leI (by omega) (by omega)] at c
    have g := rul_gl (by omega) hr
    have e := law_one hmin hC g.1 c
    have e2 : low C l = c' := by rw [e]; exact g.2
    rw [L1, lshl_lN _ (by omega), lN_or, Nat.shiftLeft_eq, Nat.one_mul, ← e2]
    exact hF w' (Inv_skc hI hw')
  · exact h _ (fun F hF => mod F (fun _ => run F (fun w' c' hw' hr h13 => ⟨fun _ => ⟨fun z => absurd z c, fun _ => hF w' (Inv_skc hI hw')⟩, fun z => absurd z ha⟩)) (fun z => absurd ⟨by omega, by omega⟩ z))
  · exact h _ (fun F hF => mod F (fun _ => run F (fun w' c' hw' hr h13 => ⟨fun z => absurd ha z, fun _ => hF w' (Inv_skc hI hw')⟩)) (fun z => absurd ⟨by omega, by omega⟩ z))
