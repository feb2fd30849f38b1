-- more calls
theorem op_inside {w : Wd} (hI : Inv w) (a b m c : Int32) : same1 (cf_T_inside a b m c w) (cf_M_inside a b m c) := by
  intro G h
  obtain ⟨now, u, past, kb, shelf, hc⟩ := hI
  have hI : Inv w := ⟨now, u, past, kb, shelf, hc⟩
  unfold cf_T_inside
  refine sp_arePlaces (fun ha hb hcc => ⟨fun z => absurd z one_ne', fun _ => ?_⟩) (fun hno => ⟨fun _ => both_stay hI h (fun F hF => ?_), fun z => absurd rfl z⟩)
  · refine sp_isPlace (fun hm => ⟨fun _ => ?_, fun z => absurd z one_ne'⟩) (fun hm => ⟨fun z => absurd rfl z, fun _ => both_stay hI h (fun F hF => ?_)⟩)
    · obtain ⟨a, ha', rfl⟩ := ha
      obtain ⟨b, hb', rfl⟩ := hb
      obtain ⟨c, hc', rfl⟩ := hcc
      obtain ⟨m, hm', rfl⟩ := hm
      obtain ⟨x, hx, ex⟩ := hc.2.2.1.1 a ha'
      obtain ⟨g, hg, eg⟩ := hc.2.2.1.1 b hb'
      obtain ⟨y, hy, ey⟩ := hc.2.2.1.1 m hm'
      have e7 : w.2 7 m = lN y := by rw [hc.1.1 m (by omega), ey]
      refine sp_isModulus hm' e7 hy (fun hy2 => ⟨fun _ => ?_, fun z => absurd z one_ne'⟩) (fun hy2 => ⟨fun z => absurd rfl z, fun _ => both_stay hI h (fun F hF => ?_)⟩)
      · refine sp_polyAt ha' (sp_polyAt hb' (sp_polyAt hm' ?_))
        rw [hc.1.1 a (by omega), hc.1.1 b (by omega), hc.1.1 m (by omega), ex, eg, ey]
        have hp := pmod_lt31 (show y ≠ 0 by omega) hy (pcomp x g)
        refine sp_composed (by omega) hg hy hy2 (both_place hc hc' (by omega) (fun r w1 g1 g2 => h r w1 (fun F hF => ?_)))
        unfold cf_M_inside
        refine mp_areThree (fun _ _ _ => ⟨fun z => absurd z one_ne', fun _ => ?_⟩) (fun hno => absurd ⟨⟨a, ha', rfl⟩, ⟨b, hb', rfl⟩, ⟨c, hc', rfl⟩⟩ hno)
        refine mp_isPlace (fun _ => ⟨fun _ => ⟨vp_in_nI (by omega) (by omega), ?_⟩, fun z => absurd z one_ne'⟩) (fun hno => absurd ⟨m, hm', rfl⟩ hno)
        rw [nI_clamp (show m < 2 ^ 31 by omega), im_now g1 hm', ey]
        refine mp_degree (by omega) ⟨fun _ => ⟨vp_in_nI (by omega) (by omega), vp_in_nI (by omega) (by omega), vp_in_nI (by omega) (by omega), ?_⟩, fun z => absurd ((dI_ge1 (by omega)).mpr hy2) z⟩
        rw [nI_clamp (show a < 2 ^ 31 by omega), nI_clamp (show b < 2 ^ 31 by omega), im_now g1 ha', im_now g1 hb', ex, eg]
        exact mp_insideBy (by omega) (by omega) hy (by omega) (g2 F hF)
      · unfold cf_M_inside
        refine mp_areThree (fun _ _ _ => ⟨fun z => absurd z one_ne', fun _ => ?_⟩) (fun hno => absurd ⟨⟨a, ha', rfl⟩, ⟨b, hb', rfl⟩, ⟨c, hc', rfl⟩⟩ hno)
        refine mp_isPlace (fun _ => ⟨fun _ => ⟨vp_in_nI (by omega) (by omega), ?_⟩, fun z => absurd z one_ne'⟩) (fun hno => absurd ⟨m, hm', rfl⟩ hno)
        rw [nI_clamp (show m < 2 ^ 31 by omega), im_now hc.2.1 hm', ey]
        exact mp_degree (by omega) ⟨fun z => absurd ((dI_ge1 (by omega)).mp z) hy2, fun _ => hF⟩
    · unfold cf_M_inside
      refine mp_areThree (fun _ _ _ => ⟨fun z => absurd z one_ne', fun _ => ?_⟩) (fun hno => absurd ⟨ha, hb, hcc⟩ hno)
      exact mp_isPlace (fun z => absurd z hm) (fun _ => ⟨fun z => absurd rfl z, fun _ => hF⟩)
  · unfold cf_M_inside
    exact mp_areThree (fun z1 z2 z3 => absurd ⟨z1, z2, z3⟩ hno) (fun _ => ⟨fun _ => hF, fun z => absurd rfl z⟩)
theorem pcomp3_lt : ∀ n a, a < 2 ^ n → pcomp a 3 < 2 ^ n := by
  intro n
  induction n with
  | zero => intro a h; have : a = 0 := by simp at h; exact h
            subst this; rw [pcomp_zero]; decide
  | succ n ih =>
    intro a h
    rw [pcomp_step]
    have h1 := ih (a / 2) (by omega)
    have e2 : cm (pcomp (a / 2) 3) 3 = pcomp (a / 2) 3 ^^^ (2 * pcomp (a / 2) 3) := by
      rw [cm_step _ 3, show 3 / 2 = 1 from rfl, cm_one]
      simp
    rw [e2]
    refine Nat.xor_lt_two_pow (Nat.xor_lt_two_pow (by omega) (by omega)) ?_
    have := Nat.pow_pos (n := n) (show 0 < 2 by omega)
    omega
theorem op_moved {w : Wd} (hI : Inv w) (a c : Int32) : same1 (cf_T_moved a c w) (cf_M_moved a c) := by
  intro G h
  obtain ⟨now, u, past, kb, shelf, hc⟩ := hI
  have hI : Inv w := ⟨now, u, past, kb, shelf, hc⟩
  unfold cf_T_moved
  refine sp_arePlaces (fun ha hcc _ => ⟨fun _ => ?_, fun z => absurd z one_ne'⟩) (fun hno => ⟨fun z => absurd rfl z, fun _ => both_stay hI h (fun F hF => ?_)⟩)
  · obtain ⟨a, ha', rfl⟩ := ha
    obtain ⟨c, hc', rfl⟩ := hcc
    obtain ⟨x, hx, ex⟩ := hc.2.2.1.1 a ha'
    refine sp_polyAt ha' ?_
    rw [hc.1.1 a (by omega), ex]
    refine sp_shifted (by omega) (both_place hc hc' (pcomp3_lt 32 x hx) (fun r w1 g1 g2 => h r w1 (fun F hF => ?_)))
    unfold cf_M_moved
    refine mp_isPlace (fun _ => ⟨fun z => absurd z one_ne', fun _ => ?_⟩) (fun hno => absurd ⟨a, ha', rfl⟩ hno)
    refine mp_isPlace (fun _ => ⟨fun z => absurd z one_ne', fun _ => ⟨vp_in_nI (by omega) (by omega), ?_⟩⟩) (fun hno => absurd ⟨c, hc', rfl⟩ hno)
    rw [nI_clamp (by omega), im_now g1 ha', ex]
    exact mp_movedOf (by omega) (g2 F hF)
  · unfold cf_M_moved
    refine mp_isPlace (fun z1 => ⟨fun z => absurd z one_ne', fun _ => ?_⟩) (fun _ => ⟨fun _ => hF, fun z => absurd rfl z⟩)
    exact mp_isPlace (fun z2 => absurd ⟨z1, z2, z2⟩ hno) (fun _ => ⟨fun _ => hF, fun z => absurd rfl z⟩)
theorem rise_ok {x g : Nat} (hx : x < 2 ^ 32) (hg : g ≤ 31) (c : dI x * nI g ≤ (31 : Int32)) : (∀ i, x.testBit i = true → i * g < 64) ∧ pcomp x (2 ^ g) < 2 ^ 32 := by
  by_cases h0 : x = 0
  · subst h0
    refine ⟨fun i hi => ?_, ?_⟩
    · rw [Nat.zero_testBit] at hi; exact absurd hi (by decide)
    · rw [pcomp_zero]; decide
  · have hd := (dg_lt h0).mpr hx
    rw [dI_pos h0, nI_mul] at c
    have hm : dg x * g < 2 ^ 31 := Nat.lt_of_le_of_lt (Nat.mul_le_mul (show dg x ≤ 31 by omega) hg) (by decide)
    have c := (nI_leI (b := 31) hm (by decide)).mp c
    refine ⟨fun i hi => ?_, ?_⟩
    · have h1 := (le_dg h0).mpr (Nat.ge_two_pow_of_testBit hi)
      have := Nat.mul_le_mul_right g h1
      omega
    · have h1 := (pcomp_pow_lt x g (dg x + 1) (dg_self h0).2).resolve_right (by omega)
      refine Nat.lt_of_lt_of_le h1 (Nat.pow_le_pow_right (by omega) ?_)
      rw [Nat.succ_mul]
      omega
theorem op_rise {w : Wd} (hI : Inv w) (a g c : Int32) : same1 (cf_T_rise a g c w) (cf_M_rise a g c) := by
  intro G h
  obtain ⟨now, u, past, kb, shelf, hc⟩ := hI
  have hI : Inv w := ⟨now, u, past, kb, shelf, hc⟩
  unfold cf_T_rise
  have go : ∀ (w : Wd) (F : Int32 → Wd → Prop) (T : Prop), (isPl a → isPl c → T) → (¬ (isPl a ∧ isPl c) → F (-5) w) → cf_M_isPlace a (fun r1 => ((r1 = 0 → F (-5 : Int32) w) ∧ (¬ r1 = 0 → cf_M_isPlace c (fun r2 => ((r2 = 0 → F (-5 : Int32) w) ∧ (¬ r2 = 0 → T)))))) := by
    intro w F T h1 h0
    refine mp_isPlace (fun z1 => ⟨fun z => absurd z one_ne', fun _ => ?_⟩) (fun z1 => ⟨fun _ => h0 (fun q => z1 q.1), fun z => absurd rfl z⟩)
    exact mp_isPlace (fun z2 => ⟨fun z => absurd z one_ne', fun _ => h1 z1 z2⟩) (fun z2 => ⟨fun _ => h0 (fun q => z2 q.2), fun z => absurd rfl z⟩)
  have inn : ∀ (P : Int32 → Prop), (1 ≤ g.toInt ∧ g.toInt ≤ 31 → P 1) → (¬ (1 ≤ g.toInt ∧ g.toInt ≤ 31) → P 0) → cf_M_in g.toInt64 (1 : Int64) (31 : Int64) P := by
    intro P h1 h0
    unfold cf_M_in
    rw [Int64.lt_iff_toInt_lt, Int64.lt_iff_toInt_lt, Int32.toInt_toInt64]
    show (g.toInt < 1 → _) ∧ (¬ g.toInt < 1 → ((31 : Int) < g.toInt → _) ∧ (¬ (31 : Int) < g.toInt → _))
    exact ⟨fun _ => h0 (by omega), fun _ => ⟨fun _ => h0 (by omega), fun _ => h1 (by omega)⟩⟩
  refine sp_arePlaces (fun ha hcc _ => ⟨fun z => absurd z one_ne', fun _ => ?_⟩) (fun hno => ⟨fun _ => both_stay hI h (fun F hF => ?_), fun z => absurd rfl z⟩)
  · rw [Int32.lt_iff_toInt_lt, Int32.le_iff_toInt_le]
    show (g.toInt < 1 → _) ∧ (¬ g.toInt < 1 → (g.toInt ≤ 31 → _) ∧ (¬ g.toInt ≤ 31 → _))
    refine ⟨fun c1 => both_stay hI h (fun F hF => ?_), fun c1 => ⟨fun c2 => ?_, fun c2 => both_stay hI h (fun F hF => ?_)⟩⟩
    · unfold cf_M_rise
      exact go _ F _ (fun _ _ => inn _ (fun z => absurd z.1 (by omega)) (fun _ => ⟨fun z => absurd rfl z, fun _ => hF⟩)) (fun q => absurd ⟨ha, hcc⟩ q)
    · have hg1 : 1 ≤ g.toInt ∧ g.toInt ≤ 31 := by omega
      obtain ⟨k, hk, ek⟩ : ∃ k : Nat, (1 ≤ k ∧ k ≤ 31) ∧ g = nI k := ⟨g.toInt.toNat, by omega, nI_ofI (by omega)⟩
      obtain ⟨a, ha', rfl⟩ := ha
      obtain ⟨c, hc', rfl⟩ := hcc
      obtain ⟨x, hx, ex⟩ := hc.2.2.1.1 a ha'
      refine sp_polyAt ha' ?_
      rw [hc.1.1 a (by omega), ex]
      refine sp_degree (by omega) ⟨fun c3 => ?_, fun c3 => both_stay hI h (fun F hF => ?_)⟩
      · rw [ek] at c3
        have hr := rise_ok hx hk.2 c3
        refine sp_polyAt ha' ?_
        rw [hc.1.1 a (by omega), ex, ek]
        refine sp_risen (by omega) hk.1 hr.1 (by omega) (both_place hc hc' hr.2 (fun r w1 g1 g2 => h r w1 (fun F hF => ?_)))
        unfold cf_M_rise
        refine go _ F _ (fun _ _ => inn _ (fun _ => ⟨fun _ => ⟨vp_in_nI (by omega) (by omega), ?_⟩, fun z => absurd z one_ne'⟩) (fun q => absurd hg1 q)) (fun q => absurd ⟨⟨a, ha', rfl⟩, ⟨c, hc', rfl⟩⟩ q)
        rw [nI_clamp (by omega), im_now g1 ha', ex, ek]
        exact mp_degree (by omega) ⟨fun _ => ⟨vp_in_nI (by omega) (by omega), mp_risenOf (by omega) hk.1 hr.1 (g2 F hF)⟩, fun z => absurd c3 z⟩
      · unfold cf_M_rise
        refine go _ F _ (fun _ _ => inn _ (fun _ => ⟨fun _ => ⟨vp_in_nI (by omega) (by omega), ?_⟩, fun z => absurd z one_ne'⟩) (fun q => absurd hg1 q)) (fun q => absurd ⟨⟨a, ha', rfl⟩, ⟨c, hc', rfl⟩⟩ q)
        rw [nI_clamp (by omega), im_now hc.2.1 ha', ex]
        exact mp_degree (by omega) ⟨fun z => absurd z c3, fun _ => hF⟩
    · unfold cf_M_rise
      exact go _ F _ (fun _ _ => inn _ (fun z => absurd z.2 c2) (fun _ => ⟨fun z => absurd rfl z, fun _ => hF⟩)) (fun q => absurd ⟨ha, hcc⟩ q)
  · unfold cf_M_rise
    exact go _ F _ (fun z1 z2 => absurd ⟨z1, z2, z2⟩ hno) (fun _ => hF)
theorem op_bits {w : Wd} (hI : Inv w) (a : Int32) : same0 (cf_T_bits a w) (cf_M_bits a w) := by
  intro G h
  obtain ⟨now, u, past, kb, shelf, hc⟩ := hI
  unfold cf_T_bits
  refine sp_isPlace (fun ha => ⟨fun z => absurd z one_ne', fun _ => ?_⟩) (fun ha => ⟨fun _ => h _ (fun F hF => ?_), fun z => absurd rfl z⟩)
  · obtain ⟨a, ha', rfl⟩ := ha
    refine sp_polyAt ha' (h _ (fun F hF => ?_))
    unfold cf_M_bits
    refine mp_isPlace (fun _ => ⟨fun z => absurd z one_ne', fun _ => ⟨vp_in_nI (by omega) (by omega), ?_⟩⟩) (fun q => absurd ⟨a, ha', rfl⟩ q)
    rw [nI_clamp (by omega), im_now hc.2.1 ha', ← hc.1.1 a (by omega)]
    exact hF
  · unfold cf_M_bits
    exact mp_isPlace (fun q => absurd q ha) (fun _ => ⟨fun _ => hF, fun z => absurd rfl z⟩)
theorem op_fault {w : Wd} (hI : Inv w) (a : Int32) : same0 (cf_T_fault a w) (cf_M_fault a w) := by
  intro G h
  obtain ⟨now, u, past, kb, shelf, hc⟩ := hI
  obtain ⟨f1, f2, f3⟩ := hc.2.2.2.2.2.2.1
  unfold cf_T_fault cf_Reader_latestFault cf_Reader_within cf_Reader_innermost
  refine ⟨fun e => h _ (fun F hF => ?_), fun e => h _ (fun F hF => ?_), fun e => h _ (fun F hF => ?_), fun e => h _ (fun F hF => ?_)⟩
  · subst e
    rw [f1] at hF
    exact ⟨fun z => absurd rfl z, fun _ => hF⟩
  · subst e
    rw [f2] at hF
    exact ⟨fun _ => ⟨fun z => absurd rfl z, fun _ => hF⟩, fun z => absurd z (by decide)⟩
  · subst e
    rw [f3] at hF
    exact ⟨fun _ => ⟨fun _ => ⟨fun z => absurd rfl z, fun _ => hF⟩, fun z => absurd z (by decide)⟩, fun z => absurd z (by decide)⟩
  · have n0 : ¬ a = 0 := by rintro rfl; exact absurd e (by decide)
    have n1 : ¬ a = 1 := by rintro rfl; exact absurd e (by decide)
    have n2 : ¬ a = 2 := by rintro rfl; exact absurd e (by decide)
    exact ⟨fun _ => ⟨fun _ => ⟨fun _ => hF, fun z => absurd z n2⟩, fun z => absurd z n1⟩, fun z => absurd z n0⟩
