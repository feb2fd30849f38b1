-- the model's least polynomial: rows put out of each other
/-- the value at a, reduced -/
def at_ (a f s : Nat) : Nat := pmod (pcomp s a) f
theorem at_xor {a f : Nat} (hf : f ≠ 0) (s t : Nat) : at_ a f (s ^^^ t) = at_ a f s ^^^ at_ a f t := by
  unfold at_
  rw [pcomp_add, pmod_xor hf]
theorem at_zero {a f : Nat} : at_ a f 0 = 0 := by
  unfold at_
  rw [pcomp_zero, pmod_zero]
theorem at_lt {a f : Nat} (hf : f ≠ 0) (s : Nat) : at_ a f s < 2 ^ dg f := pmod_lt hf _
theorem at_root {a f s : Nat} (hf : f ≠ 0) : at_ a f s = 0 ↔ pdvd f (pcomp s a) := (pdvd_iff hf _).symm
/-- the rows so far: W tells which, their values lead at places of their own -/
def elim (a f k : Nat) (W : Nat → Nat) : Prop :=
  (∀ i, i < k → 2 ^ i ≤ W i ∧ W i < 2 ^ (i + 1) ∧ at_ a f (W i) ≠ 0) ∧
  (∀ i j, i < j → j < k → (at_ a f (W j)).testBit (dg (at_ a f (W i))) = false) ∧
  (∀ s, s < 2 ^ k → (∀ i, i < k → (at_ a f s).testBit (dg (at_ a f (W i))) = false) → s = 0)
theorem dg_bit {x : Nat} (h : x ≠ 0) : x.testBit (dg x) = true := by
  obtain ⟨h1, h2⟩ := dg_self h
  rw [Nat.testBit_eq_decide_div_mod_eq]
  have : x / 2 ^ dg x = 1 := by
    rw [Nat.pow_succ] at h2
    exact Nat.div_eq_of_lt_le (by omega) (by omega)
  rw [this]
  rfl
theorem elim_le {a f k : Nat} {W : Nat → Nat} (hf : f ≠ 0) (h : elim a f k W) : k ≤ dg f := by
  have nd : ((List.range k).map (fun i => dg (at_ a f (W i)))).Nodup := by
    unfold List.Nodup
    rw [List.pairwise_map]
    refine List.Pairwise.imp_of_mem ?_ (List.pairwise_lt_range (n := k))
    intro i j hi hj hij e
    have h1 := h.2.1 i j hij (List.mem_range.mp hj)
    rw [e, dg_bit (h.1 j (List.mem_range.mp hj)).2.2] at h1
    exact absurd h1 (by decide)
  have sub : (List.range k).map (fun i => dg (at_ a f (W i))) ⊆ List.range (dg f) := by
    intro x hx
    obtain ⟨i, hi, rfl⟩ := List.mem_map.mp hx
    have h2 := (h.1 i (List.mem_range.mp hi)).2.2
    exact List.mem_range.mpr ((dg_lt h2).mpr (at_lt hf _))
  have := List.Nodup.length_le_of_subset nd sub
  rw [List.length_map, List.length_range, List.length_range] at this
  exact this
theorem xor_low {s k : Nat} (h1 : 2 ^ k ≤ s) (h2 : s < 2 ^ (k + 1)) : s ^^^ 2 ^ k < 2 ^ k := by
  refine Nat.lt_pow_two_of_testBit _ (fun i hi => ?_)
  rw [Nat.testBit_xor, Nat.testBit_two_pow]
  by_cases hik : i = k
  · subst hik
    have hlt : s - 2 ^ i < 2 ^ i := by rw [Nat.pow_succ] at h2; omega
    have e3 : s = 2 ^ i + (s - 2 ^ i) := by omega
    rw [e3, Nat.testBit_two_pow_add_eq, Nat.testBit_lt_two_pow hlt]
    simp
  · rw [Nat.testBit_lt_two_pow (Nat.lt_of_lt_of_le h2 (Nat.pow_le_pow_right (by omega) (by omega)))]
    simp
    omega
theorem xor_low2 {s t k : Nat} (h1 : 2 ^ k ≤ s) (h2 : s < 2 ^ (k + 1)) (h3 : 2 ^ k ≤ t) (h4 : t < 2 ^ (k + 1)) : s ^^^ t < 2 ^ k := by
  have e : s ^^^ t = (s ^^^ 2 ^ k) ^^^ (t ^^^ 2 ^ k) := by rw [Nat.xor_comm t, xor_mid]
  rw [e]
  exact Nat.xor_lt_two_pow (xor_low h1 h2) (xor_low h3 h4)
theorem elim_next {a f k x : Nat} {W W' : Nat → Nat} (old : ∀ i, i < k → W' i = W i) (new : W' k = x) (hf : f ≠ 0) (h : elim a f k W) (hx1 : 2 ^ k ≤ x) (hx2 : x < 2 ^ (k + 1)) (hx0 : at_ a f x ≠ 0) (hz : ∀ i, i < k → (at_ a f x).testBit (dg (at_ a f (W i))) = false) : elim a f (k + 1) W' := by
  obtain ⟨h1, h2, h3⟩ := h
  refine ⟨fun i hi => ?_, fun i j hij hj => ?_, fun s hs hzs => ?_⟩
  · by_cases e : i = k
    · subst e
      rw [new]
      exact ⟨hx1, hx2, hx0⟩
    · rw [old i (by omega)]
      exact h1 i (by omega)
  · rw [old i (by omega)]
    by_cases e : j = k
    · subst e
      rw [new]
      exact hz i hij
    · rw [old j (by omega)]
      exact h2 i j hij (by omega)
  · by_cases hsk : s < 2 ^ k
    · refine h3 s hsk (fun i hi => ?_)
      have := hzs i (by omega)
      rw [old i hi] at this
      exact this
    · exfalso
      have hu : s ^^^ x < 2 ^ k := xor_low2 (by omega) hs hx1 hx2
      have h4 : s ^^^ x = 0 := by
        refine h3 _ hu (fun i hi => ?_)
        have := hzs i (by omega)
        rw [old i hi] at this
        rw [at_xor hf, Nat.testBit_xor, this, hz i hi]
        rfl
      have h5 := xor_eq_zero'.mp h4
      have h6 := hzs k (by omega)
      rw [new, h5, dg_bit hx0] at h6
      exact absurd h6 (by decide)
theorem elim_end {a f k x : Nat} {W : Nat → Nat} (hf : f ≠ 0) (h : elim a f k W) (hx1 : 2 ^ k ≤ x) (hx2 : x < 2 ^ (k + 1)) (hx0 : at_ a f x = 0) : mpoly a f x k := by
  refine ⟨hx1, hx2, (at_root hf).mp hx0, fun t ht ht0 hd => ht0 (h.2.2 t ht (fun i hi => ?_))⟩
  rw [(at_root hf).mpr hd]
  exact Nat.zero_testBit _
theorem at_pow {a f : Nat} (k : Nat) : at_ a f (2 ^ k) = pwm a f k := by
  unfold at_ pwm
  rw [pcomp_pow]
theorem mp_minLoop {w0 : Wd} {now : Nat → Int64} {u : Nat} {past : Nat → Nat → Int64} {kb : Nat → Bool} {shelf : Nat → Nat → Int64} (hc : core w0 now u past kb shelf) {k0 a f : Nat} (hk0 : k0 < 10) (e0 : now k0 = lN a) (hf : f < 2 ^ 32) (h : inF a f) {P : Int64 → Wd → Prop} (hP : ∀ w' s g, core w' now u past kb shelf → mpoly a f s g → P (lN s) w') : ∃ n, cf_M_minimal_L47 P n (nI k0) (lN f) (0 : Int32) (1 : Int64) (0 : Int32) w0 := by
  have hf0 := irr_ne h.1
  have hf2 := h.1.1
  have hd := (dg_lt hf0).mpr hf
  have b31 := inF_32 hf h
  have ha31 := b31 _ h.2
  have key : ∀ m k W w, k + m = 32 → elim a f k W → core w now u past kb shelf → (∀ i, i < k → w.2 38 i = lN (at_ a f (W i)) ∧ w.2 39 i = lN (W i)) → ∀ n, m < n → cf_M_minimal_L47 P n (nI k0) (lN f) (nI k) (lN (pwm a f k)) (nI k) w := by
    intro m
    induction m with
    | zero =>
      intro k W w hk he _ _ n hn
      have := elim_le hf0 he
      omega
    | succ m ih =>
      intro k W w hk he hcw hcell n hn
      obtain ⟨n, rfl⟩ : ∃ m, n = m + 1 := ⟨n - 1, by omega⟩
      show cf_M_minimal_B47 _ _ _ _ _ _ _ _
      unfold cf_M_minimal_B47
      have hkd := elim_le hf0 he
      refine mp_degree (by omega) ?_
      rw [dI_pos hf0, nI_ltI (by omega) (by omega)]
      refine ⟨fun z => absurd z (by omega), fun _ => ?_⟩
      rw [show (1 : Int64) = lN 1 from rfl, lshl_lN _ (by omega), Nat.shiftLeft_eq, Nat.one_mul]
      rintro _ rfl
      have inner : ∀ m2 i x, i + m2 = k → 2 ^ k ≤ x → x < 2 ^ (k + 1) → (∀ j, j < i → (at_ a f x).testBit (dg (at_ a f (W j))) = false) → ∀ n2, m2 < n2 → cf_M_minimal_L69 (cf_M_minimal_L47 P n) P n2 (nI k0) (lN f) (nI k) (lN (pwm a f k)) (nI k) (lN (at_ a f x)) (lN x) (nI i) w := by
        intro m2
        induction m2 with
        | zero =>
          intro i x hi hx1 hx2 hz n2 hn2
          obtain ⟨n2, rfl⟩ : ∃ m, n2 = m + 1 := ⟨n2 - 1, by omega⟩
          show cf_M_minimal_B69 _ _ P _ _ _ _ _ _ _ _ _
          unfold cf_M_minimal_B69
          have : i = k := by omega
          subst this
          have hat := b31 _ (at_lt (a := a) hf0 x)
          rw [nI_leI (by omega) (by omega), lN_eq0 (by omega)]
          refine ⟨fun _ => ⟨fun hx0 => ⟨vp_in_nI (by omega) (by omega), ?_⟩, fun hx0 => hP w x i hcw (elim_end hf0 he hx1 hx2 hx0)⟩, fun z => absurd (Nat.le_refl _) z⟩
          rw [nI_clamp (by omega)]
          rintro _ rfl
          refine ⟨vp_in_nI (by omega) (by omega), ?_⟩
          rintro _ rfl _ rfl
          refine ⟨vp_in_nI (by omega) (by omega), ?_⟩
          have hc2 : core (wL (wL w 38 i (lN (at_ a f x))) 39 i (lN x)) now u past kb shelf := core_kp hcw (kp_wL _ (kp_wL _ (kp_refl _) rfl) rfl) (cache_kc (kc_wL _ (kc_wL _ (kc_refl _) ⟨fun y => absurd y.1 (by decide), by decide⟩) ⟨fun y => absurd y.1 (by decide), by decide⟩) (core_cache hcw))
          have hpw := b31 _ (pwm_lt (b := a) hf0 i)
          rw [nI_clamp (by omega), (core_poly' hc2 hk0 e0).2]
          refine mp_timesBy (by omega) (by omega) hf hf0 ?_
          rintro _ rfl
          rw [pwm_succ hf0, nI_1]
          refine ih (i + 1) (fun j => if j = i then x else W j) _ (by omega) (elim_next (fun j hj => if_neg (by omega)) (if_pos rfl) hf0 he hx1 hx2 hx0 hz) hc2 (fun j hj => ?_) n (by omega)
          show _ = lN (at_ a f (if j = i then x else W j)) ∧ _ = lN (if j = i then x else W j)
          by_cases e : j = i
          · subst e
            rw [if_pos rfl]
            refine ⟨?_, ?_⟩
            · rw [wL_2, if_neg (by omega), wL_2, if_pos ⟨rfl, rfl⟩]
            · rw [wL_2, if_pos ⟨rfl, rfl⟩]
          · rw [if_neg e]
            refine ⟨?_, ?_⟩
            · rw [wL_2, if_neg (by omega), wL_2, if_neg (fun z => e z.2)]
              exact (hcell j (by omega)).1
            · rw [wL_2, if_neg (fun z => e z.2), wL_2, if_neg (by omega)]
              exact (hcell j (by omega)).2
        | succ m2 ih2 =>
          intro i x hi hx1 hx2 hz n2 hn2
          obtain ⟨n2, rfl⟩ : ∃ m, n2 = m + 1 := ⟨n2 - 1, by omega⟩
          show cf_M_minimal_B69 _ _ P _ _ _ _ _ _ _ _ _
          unfold cf_M_minimal_B69
          have hat := b31 _ (at_lt (a := a) hf0 x)
          have hri := b31 _ (at_lt (a := a) hf0 (W i))
          have hWi := he.1 i (by omega)
          have hcl := hcell i (by omega)
          have hldg := (dg_lt hWi.2.2).mpr (Nat.lt_of_lt_of_le hri (show 2 ^ 31 ≤ 2 ^ 32 by omega))
          rw [nI_leI (by omega) (by omega)]
          refine ⟨fun z => absurd z (by omega), fun _ => ⟨vp_in_nI (by omega) (by omega), ?_⟩⟩
          rw [nI_clamp (by omega), hcl.1]
          refine mp_degree (by omega) ?_
          rw [dI_pos hWi.2.2]
          refine mp_hasB (by omega) (by omega) (fun ht => ⟨fun _ => ⟨vp_in_nI (by omega) (by omega), ?_⟩, fun z => absurd z one_ne⟩) (fun ht => ⟨fun z => absurd rfl z, fun _ => ?_⟩)
          · rintro _ rfl
            refine ⟨vp_in_nI (by omega) (by omega), ?_⟩
            rintro _ rfl _ rfl
            rw [hcl.2, lN_xor, lN_xor, nI_1, ← at_xor hf0]
            have hWk : W i < 2 ^ k := Nat.lt_of_lt_of_le hWi.2.1 (Nat.pow_le_pow_right (by omega) (by omega))
            have htop := xor_top hx1 hx2 hWk
            refine ih2 (i + 1) (x ^^^ W i) (by omega) htop.1 htop.2 (fun j hj => ?_) n2 (by omega)
            rw [at_xor hf0, Nat.testBit_xor]
            by_cases e : j = i
            · subst e
              rw [ht, dg_bit hWi.2.2]
              rfl
            · rw [hz j (by omega), he.2.1 j i (by omega) (by omega)]
              rfl
          · rintro _ rfl
            rw [nI_1]
            refine ih2 (i + 1) x (by omega) hx1 hx2 (fun j hj => ?_) n2 (by omega)
            by_cases e : j = i
            · subst e; exact ht
            · exact hz j (by omega)
      have := inner k 0 (2 ^ k) (by omega) (Nat.le_refl _) (Nat.pow_lt_pow_right (by omega) (by omega)) (fun j hj => absurd hj (by omega)) (k + 1) (by omega)
      rw [at_pow] at this
      exact ⟨_, this⟩
  have := key 32 0 (fun _ => 0) w0 (by omega) ⟨fun i hi => absurd hi (by omega), fun i j _ hj => absurd hj (by omega), fun s hs _ => by simpa using hs⟩ hc (fun i hi => absurd hi (by omega)) 33 (by omega)
  rw [pwm_zero hf2] at this
  exact ⟨_, this⟩
theorem mpoly_unique {a f s t g : Nat} (h1 : mpoly a f s g) (h2 : mpoly a f t g) : s = t := by
  have h3 := xor_low2 h1.1 h1.2.1 h2.1 h2.2.1
  refine xor_eq_zero'.mp (Classical.byContradiction (fun z => h1.2.2.2 _ h3 z ?_))
  rw [pcomp_add]
  exact pdvd_xor h1.2.2.1 h2.2.2.1
theorem cjFirst_exists {a f : Nat} (h : inF a f) : ∃ g, cjFirst a f g := by
  have hd := irr_dg h.1
  have go : ∀ m j, j + m = dg f → 1 ≤ j → (∀ i, 1 ≤ i → i < j → cj a f i ≠ a) → ∃ g, cjFirst a f g := by
    intro m
    induction m with
    | zero =>
      intro j hj hj1 hno
      have : j = dg f := by omega
      subst this
      exact ⟨_, hj1, Nat.le_refl _, cj_back h, hno⟩
    | succ m ih =>
      intro j hj hj1 hno
      by_cases e : cj a f j = a
      · exact ⟨j, hj1, by omega, e, hno⟩
      · refine ih (j + 1) (by omega) (by omega) (fun i h1 h2 => ?_)
        by_cases c : i = j
        · rw [c]; exact e
        · exact hno i h1 (by omega)
  exact go (dg f - 1) 1 (by omega) (by omega) (fun i h1 h2 => absurd h1 (by omega))
theorem mpoly_exists {a f : Nat} (h : inF a f) : ∃ s g, mpoly a f s g := by
  have hf0 := irr_ne h.1
  have hex : ∃ n s, 2 ^ n ≤ s ∧ s < 2 ^ (n + 1) ∧ pdvd f (pcomp s a) := by
    obtain ⟨h1, h2⟩ := fxx_dg (irr_dg h.1)
    have h3 := dg_self h1
    refine ⟨_, _, h3.1, h3.2, ?_⟩
    rw [pcomp_add, pcomp_x, pcomp_fx]
    exact fermat h.1 a
  obtain ⟨n, hn⟩ := hex
  induction n using Nat.strongRecOn with
  | _ n ih =>
    obtain ⟨s, h1, h2, h3⟩ := hn
    by_cases c : ∃ t, t < 2 ^ n ∧ t ≠ 0 ∧ pdvd f (pcomp t a)
    · obtain ⟨t, t1, t2, t3⟩ := c
      have t4 := dg_self t2
      exact ih (dg t) ((dg_lt t2).mpr t1) ⟨t, t4.1, t4.2, t3⟩
    · exact ⟨s, n, h1, h2, h3, fun t t1 t2 t3 => c ⟨t, t1, t2, t3⟩⟩
theorem op_minimal {w : Wd} (hI : Inv w) (a0 : Int32) (a1 : Int32) : same1 (cf_T_minimal a0 a1 w) (cf_M_minimal a0 a1) := by
  intro G h
  obtain ⟨now, u, past, kb, shelf, hc⟩ := hI
  have hI := core_Inv hc
  unfold cf_T_minimal
  refine sp_arePlaces (fun ha hb _ => ⟨fun _ => ?_, fun z => absurd z one_ne'⟩) (fun hno => ⟨fun z => absurd rfl z, fun _ => both_stay hI h (fun F hF => ?_)⟩)
  · obtain ⟨k, hk, rfl⟩ := ha
    obtain ⟨k', hk', rfl⟩ := hb
    obtain ⟨a, ha, e0, e1, e2⟩ := core_poly hc hk
    obtain ⟨f, hf, g0, g1, g2⟩ := core_poly hc hk'
    have pre : ∀ (F : Int64 → Wd → Prop) (w1 : Wd), core w1 now u past kb shelf → (∀ w2, core w2 now u past kb shelf → inF a f → ∃ n, cf_M_minimal_L47 F n (nI k) (lN f) (0 : Int32) (1 : Int64) (0 : Int32) w2) → (∀ w2, core w2 now u past kb shelf → ¬ inF a f → F (-2) w2) → cf_M_minimal (nI k) (nI k') w1 F := by
      intro F w1 hc1 f1 f0
      unfold cf_M_minimal
      refine mp_isPlace (fun _ => ⟨fun z => absurd z one_ne', fun _ => mp_isPlace (fun _ => ⟨fun _ => ?_, fun z => absurd z one_ne'⟩) (fun z => absurd ⟨k', hk', rfl⟩ z)⟩) (fun z => absurd ⟨k, hk, rfl⟩ z)
      refine mp_isIn hc1 hk hk' ha hf e0 g0 (fun w2 k1 k2 => ⟨fun _ => ⟨vp_in_nI (by omega) (by omega), ?_⟩, fun z => absurd z one_ne'⟩) (fun w2 k1 k2 => ⟨fun z => absurd rfl z, fun _ => f0 w2 k1 k2⟩)
      rw [nI_clamp (by omega), (core_poly' k1 hk' g0).2]
      rintro _ rfl
      exact f1 w2 k1 k2
    refine sp_isElement hc hk hk' ha hf e0 g0 (fun q => ⟨fun z => absurd z one_ne', fun _ => sp_polyAt hk (sp_polyAt hk' ?_)⟩) (fun q => ⟨fun _ => h _ _ (fun F hF => pre F w hc (fun w2 _ y => absurd y q) (fun w2 k1 _ => hF w2 (core_Inv k1))), fun z => absurd rfl z⟩)
    rw [e1, g1]
    obtain ⟨g, hg⟩ := cjFirst_exists q
    obtain ⟨s, g', hs⟩ := mpoly_exists q
    have := mpoly_deg q hs hg
    subst this
    have hcw : ∀ w1, fr [] [] [24] w w1 → core w1 now u past kb shelf := fun w1 hfr => core_kp hc (kp_fr hfr (fun x hx => absurd hx (by simp)) (fun k hk => absurd hk (by simp)) (by decide)) (cache_kc (kc_fr hfr (by decide) (by decide) (by decide)) (core_cache hc))
    refine sp_leastPoly hf q hs hg (fun w1 k1 => h _ _ (fun F hF => pre F w1 (hcw w1 k1) (fun w2 j1 _ => mp_minLoop j1 hk e0 hf q (fun w3 t g2 j2 j3 => ?_)) (fun w2 _ y => absurd q y)))
    have := mpoly_deg q j3 hg
    subst this
    rw [mpoly_unique j3 hs]
    exact hF w3 (core_Inv j2)
  · unfold cf_M_minimal
    rcases pair_no hno with q | q
    · exact mp_isPlace (fun z => absurd z q) (fun _ => ⟨fun _ => hF, fun z => absurd rfl z⟩)
    · exact mp_isPlace (fun _ => ⟨fun z => absurd z one_ne', fun _ => mp_isPlace (fun z => absurd z q) (fun _ => ⟨fun z => absurd rfl z, fun _ => hF⟩)⟩) (fun _ => ⟨fun _ => hF, fun z => absurd rfl z⟩)
