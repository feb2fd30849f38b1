-- logarithms; roots in a field
/-- powers of b by f -/
def pwm (b f i : Nat) : Nat := pmod (ppow b i) f
theorem pwm_zero {b f : Nat} (hf : 2 ≤ f) : pwm b f 0 = 1 := pmod_bit hf true
theorem pwm_succ {b f : Nat} (hf : f ≠ 0) (i : Nat) : pmod (cm (pwm b f i) b) f = pwm b f (i + 1) := by
  rw [cm_comm]
  exact pmod_mul_right hf b (ppow b i)
theorem pwm_lt {b f : Nat} (hf : f ≠ 0) (i : Nat) : pwm b f i < 2 ^ dg f := pmod_lt hf _
theorem pwm_cg {b f : Nat} (hf : f ≠ 0) (i : Nat) : cg f (pwm b f i) (ppow b i) := cg_pmod hf _
def logAt (a b f e : Nat) : Prop := pwm b f e = a ∧ ∀ j, j < e → pwm b f j ≠ a
theorem log_bound {a b f e : Nat} (hb : inF b f) (h : logAt a b f e) : e < 2 ^ dg f := by
  have hf0 := irr_ne hb.1
  have hd := irr_dg hb.1
  have hp : 2 ≤ 2 ^ dg f := by
    have := Nat.pow_le_pow_right (show 0 < 2 by omega) hd
    omega
  refine Classical.byContradiction (fun hc => ?_)
  -- back by 2 to the n less 1
  have h1 : pwm b f (e - (2 ^ dg f - 1)) = pwm b f e := by
    unfold pwm
    rw [← cg_iff hf0]
    obtain ⟨r, hr⟩ : ∃ r, e = 2 ^ dg f + r := ⟨e - 2 ^ dg f, by omega⟩
    have e1 : e - (2 ^ dg f - 1) = 1 + r := by omega
    rw [e1, hr, ppow_add, ppow_add, ppow_one]
    exact cg_symm (cg_cm (fermat hb.1 b) (cg_refl _ _))
  exact h.2 _ (by omega) (h1.trans h.1)
theorem sp_findPower {x : Nat} {b f : Nat} {w : Wd} {P : Int32 → Prop} (hf : f < 2 ^ 32) (hf0 : f ≠ 0) (hx : x < 2 ^ 63) (hc : ∀ j, j < 256 → w.2 25 j = lN (pwm b f j)) (h1 : ∀ j, j < 256 → pwm b f j = x → (∀ i, i < j → pwm b f i ≠ x) → P (nI j)) (h0 : (∀ j, j < 256 → pwm b f j ≠ x) → P (-1)) : cf_Field_findPower (lN x) w P := by
  have key : ∀ m j, j + m = 256 → (∀ i, i < j → pwm b f i ≠ x) → ∀ n, m < n → cf_Field_findPower_L2 w P n (lN x) (nI j) := by
    intro m
    induction m with
    | zero =>
      intro j hj hno n hn
      obtain ⟨n, rfl⟩ : ∃ m, n = m + 1 := ⟨n - 1, by omega⟩
      show cf_Field_findPower_B2 _ _ _ _ _
      unfold cf_Field_findPower_B2
      have : j = 256 := by omega
      subst this
      exact ⟨fun _ => h0 hno, fun z => absurd (show (256 : Int32) ≤ nI 256 by decide) z⟩
    | succ m ih =>
      intro j hj hno n hn
      obtain ⟨n, rfl⟩ : ∃ m, n = m + 1 := ⟨n - 1, by omega⟩
      show cf_Field_findPower_B2 _ _ _ _ _
      unfold cf_Field_findPower_B2
      have hb := pmod_lt31 hf0 hf (ppow b j)
      refine ⟨fun z => absurd ((nI_leI (show 256 < 2 ^ 31 by decide) (by omega)).mp z) (by omega), fun _ => ⟨vp_in_nI (by omega) (by omega), ?_⟩⟩
      rw [nI_clamp (by omega), hc j (by omega), lN_eqI (show pwm b f j < 2 ^ 63 by unfold pwm; omega) hx]
      refine ⟨fun z => ?_, fun z => h1 j (by omega) z hno⟩
      rintro _ rfl
      rw [nI_1]
      refine ih (j + 1) (by omega) (fun i hi => ?_) n (by omega)
      by_cases e : i = j
      · rw [e]; exact z
      · exact hno i (by omega)
  unfold cf_Field_findPower
  exact ⟨257, key 256 0 (by omega) (fun i hi => absurd hi (by omega)) 257 (by omega)⟩
theorem sp_logarithm {a b f : Nat} {w0 : Wd} {P : Int64 → Wd → Prop} (hf : f < 2 ^ 32) (ha : inF a f) (hb : inF b f)
    (h1 : ∀ w' e, fr [] [] [25] w0 w' → logAt a b f e → e < 65536 → P (lN e) w') (h0 : ∀ w', fr [] [] [25] w0 w' → (∀ e, e < 65536 → pwm b f e ≠ a) → P (-1) w') : cf_Field_logarithm (lN a) (lN b) (lN f) w0 P := by
  have hf0 := irr_ne ha.1
  have hf2 := ha.1.1
  have hd := (dg_lt hf0).mpr hf
  have b31 := inF_32 hf ha
  have ha31 := b31 _ ha.2
  have hb31 := b31 _ hb.2
  unfold cf_Field_logarithm
  rw [lN_eq0 (by omega), lN_eq0 (by omega), lN_eq1 (by omega)]
  refine ⟨fun zb => ⟨fun za => ?_, fun za => h0 w0 (fr_refl _ _ _ _) (fun e _ q => ?_)⟩, fun zb => ⟨fun z1 => ⟨fun z0 => h0 w0 (fr_refl _ _ _ _) (fun e _ q => ?_), fun z0 => h1 w0 1 (fr_refl _ _ _ _) ⟨?_, fun j hj => ?_⟩ (by omega)⟩, fun z1 => h1 w0 0 (fr_refl _ _ _ _) ⟨?_, fun j hj => absurd hj (by omega)⟩ (by omega)⟩⟩
  · -- strides
    have hnb : ¬ pdvd f b := fun z => zb (small_dvd hf0 z hb.2)
    have hpw31 : ∀ i, pwm b f i < 2 ^ 31 := fun i => b31 _ (pwm_lt hf0 i)
    have far : ∀ w, fr [] [] [25] w0 w → (∀ j, j < 256 → w.2 25 j = lN (pwm b f j)) → cf_Polys_inverseBy (lN (pwm b f 256)) (lN f) (fun r1 => ∃ n, cf_Field_logarithm_L96 P n (lN f) r1 (lN a) (0 : Int32) w) := by
      intro w hfr hc
      have hs : ¬ pdvd f (ppow b 256) := fun z => hnb (pdvd_ppow ha.1 z)
      have hs2 : ¬ pdvd f (pwm b f 256) := fun z => hs (by
        have := (cg_dvd_iff (pwm_cg hf0 256) (pdvd_refl f)).mp z
        exact this)
      refine sp_inverseBy (by have := hpw31 256; omega) hf hf2 (fun v hv => ?_) (fun hno => ?_)
      · have hv31 := b31 _ hv.1
        -- what is left after i strides
        have hvs : cg f (cm v (ppow b 256)) 1 := by
          have e1 : cg f (cm v (pwm b f 256)) 1 := by
            rw [cg_iff hf0, hv.2]
            exact (pmod_bit hf2 true).symm
          exact cg_trans (cg_cm (cg_refl _ _) (cg_symm (pwm_cg hf0 256))) e1
        have eqv : ∀ i j l, cg f l (cm a (ppow v i)) → l < 2 ^ dg f → (pwm b f j = l ↔ pwm b f (256 * i + j) = a) := by
          intro i j l hl hl2
          have hvi : cg f (cm (ppow v i) (ppow b (256 * i))) 1 := by
            rw [ppow_mul, ← ppow_cm]
            have := cg_pow hvs i
            rw [ppow_one_left] at this
            exact this
          constructor
          · intro e
            refine cg_small hf0 (cg_trans (pwm_cg hf0 _) ?_) (pwm_lt hf0 _) ha.2
            have h2 : cg f (ppow b j) (cm a (ppow v i)) := cg_trans (cg_symm (pwm_cg hf0 j)) (e ▸ hl)
            rw [ppow_add]
            refine cg_trans (cg_cm (cg_refl _ (ppow b (256 * i))) h2) ?_
            rw [cm_left_comm, cm_comm (ppow b (256 * i))]
            have := cg_cm (cg_refl f a) hvi
            rw [cm_one] at this
            exact this
          · intro e
            refine cg_small hf0 (cg_trans (pwm_cg hf0 _) ?_) (pwm_lt hf0 _) hl2
            have h2 : cg f a (ppow b (256 * i + j)) := by rw [← e]; exact pwm_cg hf0 _
            refine cg_trans ?_ (cg_symm hl)
            have h3 := cg_cm h2 (cg_refl f (ppow v i))
            refine cg_trans ?_ (cg_symm h3)
            rw [ppow_add, cm_comm, ← cm_assoc]
            have := cg_cm hvi (cg_refl f (ppow b j))
            rw [one_cm] at this
            exact cg_symm this
        have key : ∀ m i l, i + m = 256 → cg f l (cm a (ppow v i)) → l < 2 ^ dg f → (∀ e, e < 256 * i → pwm b f e ≠ a) → ∀ n, m < n → cf_Field_logarithm_L96 P n (lN f) (lN v) (lN l) (nI i) w := by
          intro m
          induction m with
          | zero =>
            intro i l hi hl hl2 hno n hn
            obtain ⟨n, rfl⟩ : ∃ m, n = m + 1 := ⟨n - 1, by omega⟩
            show cf_Field_logarithm_B96 _ _ _ _ _ _ _
            unfold cf_Field_logarithm_B96
            have : i = 256 := by omega
            subst this
            exact ⟨fun _ => h0 w hfr (fun e he => hno e (by omega)), fun z => absurd (show (256 : Int32) ≤ nI 256 by decide) z⟩
          | succ m ih =>
            intro i l hi hl hl2 hno n hn
            obtain ⟨n, rfl⟩ : ∃ m, n = m + 1 := ⟨n - 1, by omega⟩
            show cf_Field_logarithm_B96 _ _ _ _ _ _ _
            unfold cf_Field_logarithm_B96
            have hl31 := b31 _ hl2
            refine ⟨fun z => absurd ((nI_leI (show 256 < 2 ^ 31 by decide) (by omega)).mp z) (by omega), fun _ => ?_⟩
            refine sp_findPower hf hf0 (by omega) hc (fun j hj q1 q2 => ⟨fun z => ?_, fun z => ?_⟩) (fun q => ⟨fun _ => ?_, fun z => absurd rfl z⟩)
            · exfalso
              have h5 : (nI j).toInt = (j : Int) := nI_toInt (by omega)
              rw [z] at h5
              have h6 : (-1 : Int32).toInt = -1 := by decide
              omega
            · rw [nI_l (by omega), nI_l (by omega), show (256 : Int64) = lN 256 from rfl, lN_mul, lN_add, Nat.mul_comm i]
              refine h1 w _ hfr ⟨(eqv i j l hl hl2).mp q1, fun e he => ?_⟩ (by omega)
              by_cases c : e < 256 * i
              · exact hno e c
              · intro z2
                have := (eqv i (e - 256 * i) l hl hl2).mpr (by rw [show 256 * i + (e - 256 * i) = e by omega]; exact z2)
                exact q2 _ (by omega) this
            · refine sp_productBy (by omega) (by omega) (by omega) ?_
              rintro _ rfl
              rw [nI_1]
              refine ih (i + 1) _ (by omega) ?_ (pmod_lt hf0 _) (fun e he => ?_) n (by omega)
              · refine cg_trans (cg_pmod hf0 _) ?_
                show cg f (cm l v) (cm a (cm v (ppow v i)))
                rw [cm_left_comm, cm_comm v (cm a (ppow v i))]
                exact cg_cm hl (cg_refl _ _)
              · by_cases c : e < 256 * i
                · exact hno e c
                · intro z2
                  have := (eqv i (e - 256 * i) l hl hl2).mpr (by rw [show 256 * i + (e - 256 * i) = e by omega]; exact z2)
                  exact q _ (by omega) this
        exact ⟨257, key 256 0 a (by omega) (by show cg f a (cm a 1); rw [cm_one]; exact cg_refl _ _) ha.2 (fun e he => absurd he (by omega)) 257 (by omega)⟩
      · exfalso
        obtain ⟨v, hv, hc2⟩ := irr_inv ha.1 hs2
        exact hno v ⟨hv, pmod_of_cg hf0 hc2 (Nat.one_lt_two_pow (by have := irr_dg ha.1; omega))⟩
    have key : ∀ m i w, i + m = 256 → fr [] [] [25] w0 w → (∀ j, j < i → w.2 25 j = lN (pwm b f j)) → ∀ n, m < n → cf_Field_logarithm_L46 P n (lN a) (lN b) (lN f) (lN (pwm b f i)) (nI i) w := by
      intro m
      induction m with
      | zero =>
        intro i w hi hfr hc n hn
        obtain ⟨n, rfl⟩ : ∃ m, n = m + 1 := ⟨n - 1, by omega⟩
        show cf_Field_logarithm_B46 _ _ _ _ _ _ _ _
        unfold cf_Field_logarithm_B46
        have : i = 256 := by omega
        subst this
        exact ⟨fun _ => far w hfr hc, fun z => absurd (show (256 : Int32) ≤ nI 256 by decide) z⟩
      | succ m ih =>
        intro i w hi hfr hc n hn
        obtain ⟨n, rfl⟩ : ∃ m, n = m + 1 := ⟨n - 1, by omega⟩
        show cf_Field_logarithm_B46 _ _ _ _ _ _ _ _
        unfold cf_Field_logarithm_B46
        have hp := hpw31 i
        refine ⟨fun z => absurd ((nI_leI (show 256 < 2 ^ 31 by decide) (by omega)).mp z) (by omega), fun _ => ⟨vp_in_nI (by omega) (by omega), ?_⟩⟩
        rw [nI_clamp (by omega)]
        rintro _ rfl
        refine sp_productBy (by omega) (by omega) (by omega) ?_
        rintro _ rfl
        rw [nI_1, pwm_succ hf0]
        refine ih (i + 1) _ (by omega) (fr_wL _ hfr (by simp)) (fun j hj => ?_) n (by omega)
        rw [wL_2]
        by_cases e : j = i
        · rw [if_pos ⟨rfl, e⟩, e]
        · rw [if_neg (fun z => e z.2)]
          exact hc j (by omega)
    have := key 256 0 w0 (by omega) (fr_refl _ _ _ _) (fun j hj => absurd hj (by omega)) 257 (by omega)
    rw [pwm_zero hf2] at this
    exact ⟨257, this⟩
  · -- a is 0, b is not
    rw [za] at q
    exact zb (small_dvd hf0 (pdvd_ppow ha.1 ((pdvd_iff hf0 _).mpr q)) hb.2)
  · cases e with
    | zero => exact z1 ((pwm_zero hf2).symm.trans q).symm
    | succ e =>
      refine z0 ?_
      rw [← q, zb]
      show pmod (cm 0 (ppow 0 e)) f = 0
      rw [zero_cm, pmod_zero]
  · rw [z0, zb]
    show pmod (cm 0 (ppow 0 0)) f = 0
    rw [zero_cm, pmod_zero]
  · have : j = 0 := by omega
    rw [this, pwm_zero hf2]
    exact fun z => z1 z.symm
  · rw [pwm_zero hf2, z1]
theorem op_log {w : Wd} (hI : Inv w) (a0 : Int32) (a1 : Int32) (a2 : Int32) : same1 (cf_T_log a0 a1 a2 w) (cf_M_log a0 a1 a2) := by
  intro G h
  obtain ⟨now, u, past, kb, shelf, hc⟩ := hI
  have hI := core_Inv hc
  unfold cf_T_log
  refine sp_arePlaces (fun ha hb hm => ⟨fun _ => ?_, fun z => absurd z one_ne'⟩) (fun hno => ⟨fun z => absurd rfl z, fun _ => both_stay hI h (fun F hF => ?_)⟩)
  · obtain ⟨k, hk, rfl⟩ := ha
    obtain ⟨k1, hk1, rfl⟩ := hb
    obtain ⟨k', hk', rfl⟩ := hm
    obtain ⟨a, ha, e0, e1, e2⟩ := core_poly hc hk
    obtain ⟨b, hb, b0, b1, b2⟩ := core_poly hc hk1
    obtain ⟨f, hf, g0, g1, g2⟩ := core_poly hc hk'
    have pre : ∀ (F : Int64 → Wd → Prop) (w1 : Wd), core w1 now u past kb shelf → (∀ w2, core w2 now u past kb shelf → inF a f → inF b f → dg f ≤ 16 → ∃ n, cf_M_log_L75 F n (nI k) (nI k1) (lN f) (1 : Int64) (0 : Int32) w2) → (∀ w2, core w2 now u past kb shelf → ¬ (inF a f ∧ inF b f ∧ dg f ≤ 16) → F (-2) w2) → cf_M_log (nI k) (nI k1) (nI k') w1 F := by
      intro F w1 hc1 f1 f0
      unfold cf_M_log
      refine mp_isPlace (fun _ => ⟨fun z => absurd z one_ne', fun _ => mp_isPlace (fun _ => ⟨fun z => absurd z one_ne', fun _ => mp_isPlace (fun _ => ⟨fun _ => ?_, fun z => absurd z one_ne'⟩) (fun z => absurd ⟨k', hk', rfl⟩ z)⟩) (fun z => absurd ⟨k1, hk1, rfl⟩ z)⟩) (fun z => absurd ⟨k, hk, rfl⟩ z)
      refine mp_isIn hc1 hk hk' ha hf e0 g0 (fun w2 j1 j2 => ⟨fun z => absurd z one_ne', fun _ => ?_⟩) (fun w2 j1 j2 => ⟨fun _ => f0 w2 j1 (fun q => j2 q.1), fun z => absurd rfl z⟩)
      refine mp_isIn j1 hk1 hk' hb hf b0 g0 (fun w3 q1 q2 => ⟨fun z => absurd z one_ne', fun _ => ⟨vp_in_nI (by omega) (by omega), ?_⟩⟩) (fun w3 q1 q2 => ⟨fun _ => f0 w3 q1 (fun q => q2 q.2.1), fun z => absurd rfl z⟩)
      rw [nI_clamp (by omega), (core_poly' q1 hk' g0).2]
      have hdl := (dg_lt (irr_ne j2.1)).mpr hf
      refine mp_degree (by omega) ?_
      rw [dI_pos (irr_ne j2.1), show (16 : Int32) = nI 16 from rfl, nI_leI (by omega) (by omega)]
      refine ⟨fun z => ⟨vp_in_nI (by omega) (by omega), ?_⟩, fun z => f0 w3 q1 (fun q => z q.2.2)⟩
      rintro _ rfl
      exact f1 w3 q1 j2 q2 z
    refine sp_polyAt hk' ?_
    rw [g1]
    refine sp_degree (by omega) ?_
    have e16 : (16 : Int32) < dI f ↔ ¬ (f = 0 ∨ dg f ≤ 16) := by
      by_cases z : f = 0
      · subst z
        exact ⟨fun q => absurd q (by decide), fun q => absurd (Or.inl rfl) q⟩
      · have := (dg_lt z).mpr hf
        rw [dI_pos z, show (16 : Int32) = nI 16 from rfl, nI_ltI (by omega) (by omega)]
        omega
    rw [e16]
    refine ⟨fun z => h _ _ (fun F hF => pre F w hc (fun w2 _ _ _ y => absurd (Or.inr y) z) (fun w2 j1 _ => hF w2 (core_Inv j1))), fun z => ?_⟩
    refine sp_isElement hc hk hk' ha hf e0 g0 (fun qa => ⟨fun y => absurd y one_ne', fun _ => ?_⟩) (fun qa => ⟨fun _ => h _ _ (fun F hF => pre F w hc (fun w2 _ y _ _ => absurd y qa) (fun w2 j1 _ => hF w2 (core_Inv j1))), fun y => absurd rfl y⟩)
    refine sp_isElement hc hk1 hk' hb hf b0 g0 (fun qb => ⟨fun _ => sp_polyAt hk (sp_polyAt hk1 ?_), fun y => absurd y one_ne'⟩) (fun qb => ⟨fun y => absurd rfl y, fun _ => h _ _ (fun F hF => pre F w hc (fun w2 _ _ y _ => absurd y qb) (fun w2 j1 _ => hF w2 (core_Inv j1)))⟩)
    have hd16 : dg f ≤ 16 := by
      have := irr_ne qa.1
      exact Classical.byContradiction (fun y => z (fun q => q.elim this y))
    rw [e1, b1]
    have hf0 := irr_ne qa.1
    have hf2 := qa.1.1
    have b31 := inF_32 hf qa
    have ha31 := b31 _ qa.2
    have hb31 := b31 _ qb.2
    have hcw : ∀ w1, fr [] [] [25] w w1 → core w1 now u past kb shelf := fun w1 hfr => core_kp hc (kp_fr hfr (fun x hx => absurd hx (by simp)) (fun k hk => absurd hk (by simp)) (by decide)) (cache_kc (kc_fr hfr (by decide) (by decide) (by decide)) (core_cache hc))
    have hp16 : 2 ^ dg f ≤ 2 ^ 16 := Nat.pow_le_pow_right (by omega) hd16
    have hish : ishl (1 : Int32) (nI (dg f)) = nI (2 ^ dg f) := by rw [show (1 : Int32) = nI 1 from rfl, ishl_nI _ (by omega), Nat.shiftLeft_eq, Nat.one_mul]
    -- the model's search
    have search : ∀ (F : Int64 → Wd → Prop) (w2 : Wd), core w2 now u past kb shelf → (∀ e, logAt a b f e → F (lN e) w2) → ((∀ e, e ≤ 2 ^ dg f → pwm b f e ≠ a) → F (-3) w2) → ∃ n, cf_M_log_L75 F n (nI k) (nI k1) (lN f) (1 : Int64) (0 : Int32) w2 := by
      intro F w2 hc2 f1 f0
      have key : ∀ m e, e + m = 2 ^ dg f + 1 → (∀ j, j < e → pwm b f j ≠ a) → ∀ n, m < n → cf_M_log_L75 F n (nI k) (nI k1) (lN f) (lN (pwm b f e)) (nI e) w2 := by
        intro m
        induction m with
        | zero =>
          intro e he hno n hn
          obtain ⟨n, rfl⟩ : ∃ m, n = m + 1 := ⟨n - 1, by omega⟩
          show cf_M_log_B75 _ _ _ _ _ _ _ _
          unfold cf_M_log_B75
          refine mp_degree (by omega) ?_
          rw [dI_pos hf0, hish, nI_ltI (by omega) (by omega)]
          exact ⟨fun _ => f0 (fun j hj => hno j (by omega)), fun y => absurd (by omega) y⟩
        | succ m ih =>
          intro e he hno n hn
          obtain ⟨n, rfl⟩ : ∃ m, n = m + 1 := ⟨n - 1, by omega⟩
          show cf_M_log_B75 _ _ _ _ _ _ _ _
          unfold cf_M_log_B75
          have hp := b31 _ (pwm_lt (b := b) hf0 e)
          refine mp_degree (by omega) ?_
          rw [dI_pos hf0, hish, nI_ltI (by omega) (by omega)]
          refine ⟨fun y => absurd y (by omega), fun _ => ⟨vp_in_nI (by omega) (by omega), ?_⟩⟩
          rw [nI_clamp (by omega), nI_clamp (by omega), (core_poly' hc2 hk e0).2, (core_poly' hc2 hk1 b0).2, lN_eqI (by omega) (by omega)]
          refine ⟨fun y => ⟨vp_in_nI (by omega) (by omega), ?_⟩, fun y => ?_⟩
          · refine mp_timesBy (by omega) (by omega) hf hf0 ?_
            rintro _ rfl
            rw [pwm_succ hf0, nI_1]
            refine ih (e + 1) (by omega) (fun j hj => ?_) n (by omega)
            by_cases c : j = e
            · rw [c]; exact y
            · exact hno j (by omega)
          · rw [nI_l (by omega)]
            exact f1 e ⟨y, hno⟩
      have := key (2 ^ dg f + 1) 0 (by omega) (fun j hj => absurd hj (by omega)) (2 ^ dg f + 2) (by omega)
      rw [pwm_zero hf2] at this
      exact ⟨_, this⟩
    refine sp_logarithm hf qa qb (fun w1 e k2 k3 k4 => ⟨fun _ => h _ _ (fun F hF => pre F w1 (hcw w1 k2) (fun w2 j1 _ _ _ => search F w2 j1 (fun e' he' => ?_) (fun y => absurd k3.1 (y e (Nat.le_of_lt (log_bound qb k3))))) (fun w2 _ y => absurd ⟨qa, qb, hd16⟩ y)), fun y => ?_⟩) (fun w1 k2 k3 => ⟨fun y => absurd rfl y, fun _ => h _ _ (fun F hF => pre F w1 (hcw w1 k2) (fun w2 j1 _ _ _ => search F w2 j1 (fun e' he' => absurd he'.1 (k3 e' (by have := log_bound qb he'; omega))) (fun y => hF w2 (core_Inv j1))) (fun w2 _ y => absurd ⟨qa, qb, hd16⟩ y))⟩)
    · have : e' = e := by
        refine Classical.byContradiction (fun hne => ?_)
        rcases (show e' < e ∨ e < e' by omega) with c | c
        · exact k3.2 e' c he'.1
        · exact he'.2 e c k3.1
      rw [this]
      exact hF w2 (core_Inv j1)
    · exfalso
      have h5 : (lN e).toInt = (e : Int) := lN_toInt' (by omega)
      rw [y] at h5
      have h6 : (-1 : Int64).toInt = -1 := by decide
      omega
  · unfold cf_M_log
    refine mp_isPlace (fun y1 => ⟨fun z => absurd z one_ne', fun _ => mp_isPlace (fun y2 => ⟨fun z => absurd z one_ne', fun _ => mp_isPlace (fun y3 => absurd ⟨y1, y2, y3⟩ hno) (fun _ => ⟨fun z => absurd rfl z, fun _ => hF⟩)⟩) (fun _ => ⟨fun _ => hF, fun z => absurd rfl z⟩)⟩) (fun _ => ⟨fun _ => hF, fun z => absurd rfl z⟩)
