-- the calls that work on places
theorem nIm_le {s i : Nat} (hs : s < 2 ^ 30) (hi : i < 2 ^ 30) : nI s - 1 ≤ nI i ↔ s ≤ i + 1 := by
  cases s with
  | zero =>
    refine ⟨fun _ => by omega, fun _ => ?_⟩
    rw [Int32.le_iff_toInt_le, nI_toInt (by omega)]
    show (-1 : Int) ≤ _
    omega
  | succ s => rw [nI_pred, nI_leI (by omega) (by omega)]; omega
theorem le_nIm {s i : Nat} (hs : s < 2 ^ 30) (hi : i < 2 ^ 30) : nI i ≤ nI s - 1 ↔ i + 1 ≤ s := by
  cases s with
  | zero =>
    refine ⟨fun c => ?_, fun c => by omega⟩
    exfalso
    rw [Int32.le_iff_toInt_le, nI_toInt (by omega)] at c
    have : (nI 0 - 1).toInt = -1 := by decide
    omega
  | succ s => rw [nI_pred, nI_leI (by omega) (by omega)]; omega
theorem dI_lt1 {m : Nat} (hm : m < 2 ^ 63) : dI m < (1 : Int32) ↔ m < 2 := by
  have hz := sz_le63 hm
  have := nIm_lt (s := sz m) (i := 1) (by omega) (by omega)
  rw [sz_le] at this
  exact this
theorem dI_ge1 {m : Nat} (hm : m < 2 ^ 63) : (1 : Int32) ≤ dI m ↔ 2 ≤ m := by
  have hz := sz_le63 hm
  have h1 := le_nIm (s := sz m) (i := 1) (by omega) (by omega)
  have h2 := sz_le (a := m) (n := 1)
  show nI 1 ≤ nI (sz m) - 1 ↔ _
  rw [h1]
  omega
theorem dI_le31 {m : Nat} (hm : m < 2 ^ 63) : dI m ≤ (31 : Int32) ↔ m < 2 ^ 32 := by
  have hz := sz_le63 hm
  have := nIm_le (s := sz m) (i := 31) (by omega) (by omega)
  rw [sz_le] at this
  exact this
theorem lN_le32 {m : Nat} (hm : m < 2 ^ 63) : lN m ≤ (4294967295 : Int64) ↔ m < 2 ^ 32 := by
  have := lN_leI (a := m) (b := 4294967295) hm (by decide)
  rw [show (4294967295 : Int64) = lN 4294967295 from rfl, this]
  omega
theorem lN_ofI {x : Int64} (h : 0 ≤ x.toInt) : ∃ n, n < 2 ^ 63 ∧ x = lN n := by
  have h2 : x.toInt < 2 ^ 63 := Int64.toInt_lt x
  refine ⟨x.toInt.toNat, by omega, ?_⟩
  rw [← Int64.toInt_inj, lN_toInt' (by omega)]
  omega
theorem op_put {w : Wd} (hI : Inv w) (a : Int32) (x : Int64) : same1 (cf_T_put a x w) (cf_M_put a x) := by
  intro G h
  obtain ⟨now, u, past, kb, shelf, hc⟩ := hI
  have hI : Inv w := ⟨now, u, past, kb, shelf, hc⟩
  unfold cf_T_put
  refine sp_isPlace (fun ha => ⟨fun z => absurd z one_ne', fun _ => ⟨fun c => both_stay hI h (fun F hF => ?_), fun c => ⟨fun c2 => ?_, fun c2 => both_stay hI h (fun F hF => ?_)⟩⟩⟩) (fun hno => ⟨fun _ => both_stay hI h (fun F hF => ?_), fun z => absurd rfl z⟩)
  · unfold cf_M_put cf_M_in
    exact mp_isPlace (fun _ => ⟨fun z => absurd z one_ne', fun _ => ⟨fun _ => ⟨fun _ => hF, fun z => absurd rfl z⟩, fun z => absurd c z⟩⟩) (fun z => absurd ha z)
  · obtain ⟨a, ha', rfl⟩ := ha
    obtain ⟨x, hx, rfl⟩ := lN_ofI (x := x) (by rw [Int64.lt_iff_toInt_lt] at c; exact Int.not_lt.mp c)
    have hx32 := (lN_le32 hx).mp c2
    refine both_place hc ha' hx32 (fun r w1 g1 g2 => h r w1 (fun F hF => ?_))
    unfold cf_M_put cf_M_in
    refine mp_isPlace (fun _ => ⟨fun z => absurd z one_ne', fun _ => ⟨fun z => absurd z c, fun _ => ⟨fun z => ?_, fun _ => ⟨fun z => absurd z one_ne', fun _ => g2 F hF⟩⟩⟩⟩) (fun hno => absurd ⟨a, ha', rfl⟩ hno)
    exfalso
    have := (lN_ltI (a := 4294967295) (b := x) (by decide) hx).mp z
    omega
  · obtain ⟨x, hx, rfl⟩ := lN_ofI (x := x) (by rw [Int64.lt_iff_toInt_lt] at c; exact Int.not_lt.mp c)
    have hx32 : ¬ x < 2 ^ 32 := fun z => c2 ((lN_le32 hx).mpr z)
    unfold cf_M_put cf_M_in
    refine mp_isPlace (fun _ => ⟨fun z => absurd z one_ne', fun _ => ⟨fun z => absurd z c, fun _ => ⟨fun _ => ⟨fun _ => hF, fun z => absurd rfl z⟩, fun z => ?_⟩⟩⟩) (fun z => absurd ha z)
    exfalso
    exact z ((lN_ltI (a := 4294967295) (b := x) (by decide) hx).mpr (by omega))
  · unfold cf_M_put cf_M_in
    exact mp_isPlace (fun z => absurd z hno) (fun _ => ⟨fun _ => hF, fun z => absurd rfl z⟩)
theorem op_multiply {w : Wd} (hI : Inv w) (a b c : Int32) : same1 (cf_T_multiply a b c w) (cf_M_multiply a b c) := by
  intro G h
  obtain ⟨now, u, past, kb, shelf, hc⟩ := hI
  have hI : Inv w := ⟨now, u, past, kb, shelf, hc⟩
  unfold cf_T_multiply
  refine sp_arePlaces (fun ha hb hcc => ⟨fun _ => ?_, fun z => absurd z one_ne'⟩) (fun hno => ⟨fun z => absurd rfl z, fun _ => both_stay hI h (fun F hF => ?_)⟩)
  · obtain ⟨a, ha', rfl⟩ := ha
    obtain ⟨b, hb', rfl⟩ := hb
    obtain ⟨c, hc', rfl⟩ := hcc
    obtain ⟨x, hx, ex⟩ := hc.2.2.1.1 a ha'
    obtain ⟨y, hy, ey⟩ := hc.2.2.1.1 b hb'
    refine sp_polyAt ha' (sp_polyAt hb' ?_)
    rw [hc.1.1 a (by omega), hc.1.1 b (by omega), ex, ey]
    have hp := cm_bd hx hy
    refine sp_product (by omega) ⟨fun c1 => ?_, fun c1 => both_stay hI h (fun F hF => ?_)⟩
    · have c2 := (lN_le32 hp).mp c1
      refine both_place hc hc' c2 (fun r w1 g1 g2 => h r w1 (fun F hF => ?_))
      unfold cf_M_multiply
      refine mp_areThree (fun _ _ _ => ⟨fun _ => ⟨vp_in_nI (by omega) (by omega), vp_in_nI (by omega) (by omega), ?_⟩, fun z => absurd z one_ne'⟩) (fun hno => absurd ⟨⟨a, ha', rfl⟩, ⟨b, hb', rfl⟩, ⟨c, hc', rfl⟩⟩ hno)
      rw [nI_clamp (by omega), nI_clamp (by omega), im_now g1 ha', im_now g1 hb', ex, ey]
      exact mp_product (by omega) (mp_degree (by omega) ⟨fun _ => g2 F hF, fun z => absurd ((dI_le31 hp).mpr c2) z⟩)
    · have c2 : ¬ cm x y < 2 ^ 32 := fun z => c1 ((lN_le32 hp).mpr z)
      unfold cf_M_multiply
      refine mp_areThree (fun _ _ _ => ⟨fun _ => ⟨vp_in_nI (by omega) (by omega), vp_in_nI (by omega) (by omega), ?_⟩, fun z => absurd z one_ne'⟩) (fun hno => absurd ⟨⟨a, ha', rfl⟩, ⟨b, hb', rfl⟩, ⟨c, hc', rfl⟩⟩ hno)
      rw [nI_clamp (by omega), nI_clamp (by omega), im_now hc.2.1 ha', im_now hc.2.1 hb', ex, ey]
      exact mp_product (by omega) (mp_degree (by omega) ⟨fun z => absurd ((dI_le31 hp).mp z) c2, fun _ => hF⟩)
  · unfold cf_M_multiply
    exact mp_areThree (fun z1 z2 z3 => absurd ⟨z1, z2, z3⟩ hno) (fun _ => ⟨fun z => absurd rfl z, fun _ => hF⟩)
theorem op_divide {w : Wd} (hI : Inv w) (a b c : Int32) : same1 (cf_T_divide a b c w) (cf_M_divide a b c) := by
  intro G h
  obtain ⟨now, u, past, kb, shelf, hc⟩ := hI
  have hI : Inv w := ⟨now, u, past, kb, shelf, hc⟩
  unfold cf_T_divide
  refine sp_arePlaces (fun ha hb hcc => ⟨fun _ => ?_, fun z => absurd z one_ne'⟩) (fun hno => ⟨fun z => absurd rfl z, fun _ => both_stay hI h (fun F hF => ?_)⟩)
  · obtain ⟨a, ha', rfl⟩ := ha
    obtain ⟨b, hb', rfl⟩ := hb
    obtain ⟨c, hc', rfl⟩ := hcc
    obtain ⟨x, hx, ex⟩ := hc.2.2.1.1 a ha'
    obtain ⟨y, hy, ey⟩ := hc.2.2.1.1 b hb'
    refine sp_polyAt hb' ?_
    rw [hc.1.1 b (by omega), ey]
    refine ⟨fun c1 => ?_, fun c1 => both_stay hI h (fun F hF => ?_)⟩
    · have hy0 : y ≠ 0 := fun z => c1 (by rw [z]; rfl)
      refine sp_polyAt ha' (sp_polyAt hb' ?_)
      rw [hc.1.1 a (by omega), hc.1.1 b (by omega), ex, ey]
      have hq : pdiv x y < 2 ^ 32 := by
        by_cases hx0 : x = 0
        · subst hx0
          rw [(pmod_stop (Or.inl (by rw [sz_zero, sz_pos hy0]; omega))).2]
          decide
        · have h1 := sz_pdiv hx0 hy0
          have h2 := sz_pos hy0
          have h3 : sz x ≤ 32 := sz_le.mpr hx
          exact lt_of_szle (by omega)
      refine sp_quotient (by omega) (by omega) hy0 (both_place hc hc' hq (fun r w1 g1 g2 => h r w1 (fun F hF => ?_)))
      unfold cf_M_divide
      refine mp_areThree (fun _ _ _ => ⟨fun _ => ⟨vp_in_nI (by omega) (by omega), ?_⟩, fun z => absurd z one_ne'⟩) (fun hno => absurd ⟨⟨a, ha', rfl⟩, ⟨b, hb', rfl⟩, ⟨c, hc', rfl⟩⟩ hno)
      rw [nI_clamp (show b < 2 ^ 31 by omega), im_now g1 hb', ey]
      refine ⟨fun _ => ⟨vp_in_nI (by omega) (by omega), vp_in_nI (by omega) (by omega), ?_⟩, fun z => absurd z c1⟩
      rw [nI_clamp (by omega), im_now g1 ha', ex]
      exact mp_quotient (by omega) (by omega) hy0 (g2 F hF)
    · unfold cf_M_divide
      refine mp_areThree (fun _ _ _ => ⟨fun _ => ⟨vp_in_nI (by omega) (by omega), ?_⟩, fun z => absurd z one_ne'⟩) (fun hno => absurd ⟨⟨a, ha', rfl⟩, ⟨b, hb', rfl⟩, ⟨c, hc', rfl⟩⟩ hno)
      rw [nI_clamp (show b < 2 ^ 31 by omega), im_now hc.2.1 hb', ey]
      exact ⟨fun z => absurd c1 z, fun _ => hF⟩
  · unfold cf_M_divide
    exact mp_areThree (fun z1 z2 z3 => absurd ⟨z1, z2, z3⟩ hno) (fun _ => ⟨fun z => absurd rfl z, fun _ => hF⟩)
theorem op_rest {w : Wd} (hI : Inv w) (a b c : Int32) : same1 (cf_T_rest a b c w) (cf_M_rest a b c) := by
  intro G h
  obtain ⟨now, u, past, kb, shelf, hc⟩ := hI
  have hI : Inv w := ⟨now, u, past, kb, shelf, hc⟩
  unfold cf_T_rest
  refine sp_arePlaces (fun ha hb hcc => ⟨fun _ => ?_, fun z => absurd z one_ne'⟩) (fun hno => ⟨fun z => absurd rfl z, fun _ => both_stay hI h (fun F hF => ?_)⟩)
  · obtain ⟨a, ha', rfl⟩ := ha
    obtain ⟨b, hb', rfl⟩ := hb
    obtain ⟨c, hc', rfl⟩ := hcc
    obtain ⟨x, hx, ex⟩ := hc.2.2.1.1 a ha'
    obtain ⟨y, hy, ey⟩ := hc.2.2.1.1 b hb'
    refine sp_polyAt hb' ?_
    rw [hc.1.1 b (by omega), ey]
    refine ⟨fun c1 => ?_, fun c1 => both_stay hI h (fun F hF => ?_)⟩
    · have hy0 : y ≠ 0 := fun z => c1 (by rw [z]; rfl)
      refine sp_polyAt ha' (sp_polyAt hb' ?_)
      rw [hc.1.1 a (by omega), hc.1.1 b (by omega), ex, ey]
      refine sp_remainder (by omega) (by omega) (both_place hc hc' (pmod_bd hx) (fun r w1 g1 g2 => h r w1 (fun F hF => ?_)))
      unfold cf_M_rest
      refine mp_areThree (fun _ _ _ => ⟨fun _ => ⟨vp_in_nI (by omega) (by omega), ?_⟩, fun z => absurd z one_ne'⟩) (fun hno => absurd ⟨⟨a, ha', rfl⟩, ⟨b, hb', rfl⟩, ⟨c, hc', rfl⟩⟩ hno)
      rw [nI_clamp (show b < 2 ^ 31 by omega), im_now g1 hb', ey]
      refine ⟨fun _ => ⟨vp_in_nI (by omega) (by omega), vp_in_nI (by omega) (by omega), ?_⟩, fun z => absurd z c1⟩
      rw [nI_clamp (by omega), im_now g1 ha', ex]
      exact mp_restOf (by omega) (by omega) hy0 (g2 F hF)
    · unfold cf_M_rest
      refine mp_areThree (fun _ _ _ => ⟨fun _ => ⟨vp_in_nI (by omega) (by omega), ?_⟩, fun z => absurd z one_ne'⟩) (fun hno => absurd ⟨⟨a, ha', rfl⟩, ⟨b, hb', rfl⟩, ⟨c, hc', rfl⟩⟩ hno)
      rw [nI_clamp (show b < 2 ^ 31 by omega), im_now hc.2.1 hb', ey]
      exact ⟨fun z => absurd c1 z, fun _ => hF⟩
  · unfold cf_M_rest
    exact mp_areThree (fun z1 z2 z3 => absurd ⟨z1, z2, z3⟩ hno) (fun _ => ⟨fun z => absurd rfl z, fun _ => hF⟩)
theorem pgcd_bd {a b n : Nat} (ha : a < 2 ^ n) (hb : b < 2 ^ n) : pgcd a b < 2 ^ n := by
  by_cases h0 : a = 0
  · subst h0
    have h1 := pgcd_dvd_right 0 b
    by_cases hb0 : b = 0
    · subst hb0; rw [pgcd_zero]; exact hb
    · have h2 := pdvd_dg hb0 h1
      have hne : pgcd 0 b ≠ 0 := fun z => hb0 (zero_pdvd (z ▸ h1))
      have h3 := (dg_lt hb0).mpr hb
      exact (dg_lt hne).mp (by omega)
  · have h1 := pgcd_dvd_left a b
    have h2 := pdvd_dg h0 h1
    have h3 := (dg_lt h0).mpr ha
    exact (dg_lt (pgcd_ne h0)).mp (by omega)
theorem op_common {w : Wd} (hI : Inv w) (a b c : Int32) : same1 (cf_T_common a b c w) (cf_M_common a b c) := by
  intro G h
  obtain ⟨now, u, past, kb, shelf, hc⟩ := hI
  have hI : Inv w := ⟨now, u, past, kb, shelf, hc⟩
  unfold cf_T_common
  refine sp_arePlaces (fun ha hb hcc => ⟨fun _ => ?_, fun z => absurd z one_ne'⟩) (fun hno => ⟨fun z => absurd rfl z, fun _ => both_stay hI h (fun F hF => ?_)⟩)
  · obtain ⟨a, ha', rfl⟩ := ha
    obtain ⟨b, hb', rfl⟩ := hb
    obtain ⟨c, hc', rfl⟩ := hcc
    obtain ⟨x, hx, ex⟩ := hc.2.2.1.1 a ha'
    obtain ⟨y, hy, ey⟩ := hc.2.2.1.1 b hb'
    refine sp_polyAt ha' (sp_polyAt hb' ?_)
    rw [hc.1.1 a (by omega), hc.1.1 b (by omega), ex, ey]
    refine sp_gcd (by omega) (by omega) (both_place hc hc' (pgcd_bd hx hy) (fun r w1 g1 g2 => h r w1 (fun F hF => ?_)))
    unfold cf_M_common
    refine mp_areThree (fun _ _ _ => ⟨fun z => absurd z one_ne', fun _ => ⟨vp_in_nI (by omega) (by omega), vp_in_nI (by omega) (by omega), ?_⟩⟩) (fun hno => absurd ⟨⟨a, ha', rfl⟩, ⟨b, hb', rfl⟩, ⟨c, hc', rfl⟩⟩ hno)
    rw [nI_clamp (by omega), nI_clamp (by omega), im_now g1 ha', im_now g1 hb', ex, ey]
    exact mp_commonOf (by omega) (by omega) (g2 F hF)
  · unfold cf_M_common
    exact mp_areThree (fun z1 z2 z3 => absurd ⟨z1, z2, z3⟩ hno) (fun _ => ⟨fun _ => hF, fun z => absurd rfl z⟩)
theorem sp_isModulus {w : Wd} {k m : Nat} {P : Int32 → Prop} (hk : k < 10) (e : w.2 7 k = lN m) (hm : m < 2 ^ 32) (h1 : 2 ≤ m → P 1) (h0 : ¬ 2 ≤ m → P 0) : cf_T_isModulus (nI k) w P := by
  unfold cf_T_isModulus
  refine sp_polyAt hk ?_
  rw [e]
  refine sp_degree (by omega) ⟨fun c => h0 ?_, fun c => h1 ?_⟩
  · have := (dI_lt1 (m := m) (by omega)).mp c
    omega
  · have : ¬ m < 2 := fun z => c ((dI_lt1 (m := m) (by omega)).mpr z)
    omega
theorem op_inverse {w : Wd} (hI : Inv w) (a b c : Int32) : same1 (cf_T_inverse a b c w) (cf_M_inverse a b c) := by
  intro G h
  obtain ⟨now, u, past, kb, shelf, hc⟩ := hI
  have hI : Inv w := ⟨now, u, past, kb, shelf, hc⟩
  unfold cf_T_inverse
  refine sp_arePlaces (fun ha hb hcc => ⟨fun _ => ?_, fun z => absurd z one_ne'⟩) (fun hno => ⟨fun z => absurd rfl z, fun _ => both_stay hI h (fun F hF => ?_)⟩)
  · obtain ⟨a, ha', rfl⟩ := ha
    obtain ⟨b, hb', rfl⟩ := hb
    obtain ⟨c, hc', rfl⟩ := hcc
    obtain ⟨x, hx, ex⟩ := hc.2.2.1.1 a ha'
    obtain ⟨y, hy, ey⟩ := hc.2.2.1.1 b hb'
    have e7 : w.2 7 b = lN y := by rw [hc.1.1 b (by omega), ey]
    refine sp_isModulus hb' e7 hy (fun hy2 => ⟨fun _ => ?_, fun z => absurd z one_ne'⟩) (fun hy2 => ⟨fun z => absurd rfl z, fun _ => both_stay hI h (fun F hF => ?_)⟩)
    · refine sp_polyAt ha' (sp_polyAt hb' ?_)
      rw [hc.1.1 a (by omega), hc.1.1 b (by omega), ex, ey]
      have hdy := (dg_lt (show y ≠ 0 by omega)).mpr hy
      refine sp_inverseBy (by omega) hy hy2 (fun v hv => ?_) (fun hv => ?_)
      · have hv32 : v < 2 ^ 32 := Nat.lt_of_lt_of_le hv.1 (Nat.pow_le_pow_right (by omega) (by omega))
        have hv0 : v ≠ 0 := by
          rintro rfl
          have := hv.2
          rw [zero_cm, pmod_zero] at this
          omega
        refine ⟨fun _ => both_place hc hc' hv32 (fun r w1 g1 g2 => h r w1 (fun F hF => ?_)), fun z => absurd ((lN_eq0 (by omega)).mp z) hv0⟩
        unfold cf_M_inverse
        refine mp_areThree (fun _ _ _ => ⟨fun _ => ⟨vp_in_nI (by omega) (by omega), ?_⟩, fun z => absurd z one_ne'⟩) (fun hno => absurd ⟨⟨a, ha', rfl⟩, ⟨b, hb', rfl⟩, ⟨c, hc', rfl⟩⟩ hno)
        rw [nI_clamp (show b < 2 ^ 31 by omega), im_now g1 hb', ey]
        refine mp_degree (by omega) ⟨fun _ => ⟨vp_in_nI (by omega) (by omega), vp_in_nI (by omega) (by omega), ?_⟩, fun z => absurd ((dI_ge1 (by omega)).mpr hy2) z⟩
        rw [nI_clamp (by omega), im_now g1 ha', ex]
        refine mp_inverseOf (by omega) hy hy2 (fun v' hv' => ?_) (fun z => absurd hv (z v))
        rw [isInv_unique (by omega) hv' hv]
        exact ⟨fun _ => g2 F hF, fun z => absurd ((lN_eq0 (by omega)).mp z) hv0⟩
      · refine ⟨fun z => absurd rfl z, fun _ => both_stay hI h (fun F hF => ?_)⟩
        unfold cf_M_inverse
        refine mp_areThree (fun _ _ _ => ⟨fun _ => ⟨vp_in_nI (by omega) (by omega), ?_⟩, fun z => absurd z one_ne'⟩) (fun hno => absurd ⟨⟨a, ha', rfl⟩, ⟨b, hb', rfl⟩, ⟨c, hc', rfl⟩⟩ hno)
        rw [nI_clamp (show b < 2 ^ 31 by omega), im_now hc.2.1 hb', ey]
        refine mp_degree (by omega) ⟨fun _ => ⟨vp_in_nI (by omega) (by omega), vp_in_nI (by omega) (by omega), ?_⟩, fun z => absurd ((dI_ge1 (by omega)).mpr hy2) z⟩
        rw [nI_clamp (by omega), im_now hc.2.1 ha', ex]
        exact mp_inverseOf (by omega) hy hy2 (fun v' hv' => absurd hv' (hv v')) (fun _ => ⟨fun z => absurd rfl z, fun _ => hF⟩)
    · unfold cf_M_inverse
      refine mp_areThree (fun _ _ _ => ⟨fun _ => ⟨vp_in_nI (by omega) (by omega), ?_⟩, fun z => absurd z one_ne'⟩) (fun hno => absurd ⟨⟨a, ha', rfl⟩, ⟨b, hb', rfl⟩, ⟨c, hc', rfl⟩⟩ hno)
      rw [nI_clamp (show b < 2 ^ 31 by omega), im_now hc.2.1 hb', ey]
      exact mp_degree (by omega) ⟨fun z => absurd ((dI_ge1 (by omega)).mp z) hy2, fun _ => hF⟩
  · unfold cf_M_inverse
    exact mp_areThree (fun z1 z2 z3 => absurd ⟨z1, z2, z3⟩ hno) (fun _ => ⟨fun z => absurd rfl z, fun _ => hF⟩)
theorem op_power {w : Wd} (hI : Inv w) (a : Int32) (e : Int64) (b c : Int32) : same1 (cf_T_power a e b c w) (cf_M_power a e b c) := by
  intro G h
  obtain ⟨now, u, past, kb, shelf, hc⟩ := hI
  have hI : Inv w := ⟨now, u, past, kb, shelf, hc⟩
  unfold cf_T_power
  refine sp_arePlaces (fun ha hb hcc => ⟨fun z => absurd z one_ne', fun _ => ?_⟩) (fun hno => ⟨fun _ => both_stay hI h (fun F hF => ?_), fun z => absurd rfl z⟩)
  · refine ⟨fun c1 => ?_, fun c1 => both_stay hI h (fun F hF => ?_)⟩
    · obtain ⟨e, he, rfl⟩ := lN_ofI (x := e) (by rw [Int64.le_iff_toInt_le] at c1; exact c1)
      obtain ⟨a, ha', rfl⟩ := ha
      obtain ⟨b, hb', rfl⟩ := hb
      obtain ⟨c, hc', rfl⟩ := hcc
      obtain ⟨x, hx, ex⟩ := hc.2.2.1.1 a ha'
      obtain ⟨y, hy, ey⟩ := hc.2.2.1.1 b hb'
      have e7 : w.2 7 b = lN y := by rw [hc.1.1 b (by omega), ey]
      refine sp_isModulus hb' e7 hy (fun hy2 => ⟨fun _ => ?_, fun z => absurd z one_ne'⟩) (fun hy2 => ⟨fun z => absurd rfl z, fun _ => both_stay hI h (fun F hF => ?_)⟩)
      · refine sp_polyAt ha' (sp_polyAt hb' ?_)
        rw [hc.1.1 a (by omega), hc.1.1 b (by omega), ex, ey]
        have hp := pmod_lt31 (show y ≠ 0 by omega) hy (ppow x e)
        refine sp_powerBy (by omega) he hy (by omega) (both_place hc hc' (by omega) (fun r w1 g1 g2 => h r w1 (fun F hF => ?_)))
        unfold cf_M_power
        refine mp_areThree (fun _ _ _ => ⟨fun z => absurd z one_ne', fun _ => ⟨fun _ => ⟨vp_in_nI (by omega) (by omega), ?_⟩, fun z => absurd c1 z⟩⟩) (fun hno => absurd ⟨⟨a, ha', rfl⟩, ⟨b, hb', rfl⟩, ⟨c, hc', rfl⟩⟩ hno)
        rw [nI_clamp (show b < 2 ^ 31 by omega), im_now g1 hb', ey]
        refine mp_degree (by omega) ⟨fun _ => ⟨vp_in_nI (by omega) (by omega), vp_in_nI (by omega) (by omega), ?_⟩, fun z => absurd ((dI_ge1 (by omega)).mpr hy2) z⟩
        rw [nI_clamp (by omega), im_now g1 ha', ex]
        exact mp_powerBy (by omega) he hy (by omega) (g2 F hF)
      · unfold cf_M_power
        refine mp_areThree (fun _ _ _ => ⟨fun z => absurd z one_ne', fun _ => ⟨fun _ => ⟨vp_in_nI (by omega) (by omega), ?_⟩, fun z => absurd c1 z⟩⟩) (fun hno => absurd ⟨⟨a, ha', rfl⟩, ⟨b, hb', rfl⟩, ⟨c, hc', rfl⟩⟩ hno)
        rw [nI_clamp (show b < 2 ^ 31 by omega), im_now hc.2.1 hb', ey]
        exact mp_degree (by omega) ⟨fun z => absurd ((dI_ge1 (by omega)).mp z) hy2, fun _ => hF⟩
    · unfold cf_M_power
      exact mp_areThree (fun _ _ _ => ⟨fun z => absurd z one_ne', fun _ => ⟨fun z => absurd z c1, fun _ => hF⟩⟩) (fun hno => absurd ⟨ha, hb, hcc⟩ hno)
  · unfold cf_M_power
    exact mp_areThree (fun z1 z2 z3 => absurd ⟨z1, z2, z3⟩ hno) (fun _ => ⟨fun _ => hF, fun z => absurd rfl z⟩)
