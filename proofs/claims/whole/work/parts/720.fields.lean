-- fields: elements, traces, conjugates, logarithms
def inF (a f : Nat) : Prop := irr f ∧ a < 2 ^ dg f
theorem dI_le {a f : Nat} (ha : a < 2 ^ 63) (hf : f < 2 ^ 63) : dI f ≤ dI a ↔ sz f ≤ sz a := by
  have h1 := sz_le63 ha
  have h2 := sz_le63 hf
  have h := nIm_lt2 (s := sz f) (i := sz a) (by omega) (by omega)
  rw [lt_toInt] at h
  rw [le_toInt]
  unfold dI
  omega
theorem inF_sz {a f : Nat} (hf : f ≠ 0) : a < 2 ^ dg f ↔ ¬ sz f ≤ sz a := by
  rw [← sz_le, sz_pos hf]
  omega
theorem sp_isElement {w : Wd} {now : Nat → Int64} {u : Nat} {past : Nat → Nat → Int64} {kb : Nat → Bool} {shelf : Nat → Nat → Int64} (hc : core w now u past kb shelf) {k k' a f : Nat} (hk : k < 10) (hk' : k' < 10) (ha : a < 2 ^ 32) (hf : f < 2 ^ 32) (e : now k = lN a) (e' : now k' = lN f) {P : Int32 → Prop} (h1 : inF a f → P 1) (h0 : ¬ inF a f → P 0) : cf_T_isElement (nI k) (nI k') w P := by
  unfold cf_T_isElement
  refine sp_polyAt hk' (sp_polyAt hk ?_)
  rw [(core_poly' hc hk e).1, (core_poly' hc hk' e').1]
  refine sp_degree (by omega) (sp_degree (by omega) ?_)
  rw [dI_le (by omega) (by omega)]
  refine ⟨fun z => h0 (fun q => (inF_sz (irr_ne q.1)).mp q.2 z), fun z => sp_isIrr hf (fun hi => ⟨fun y => absurd y one_ne', fun _ => h1 ⟨hi, (inF_sz (irr_ne hi)).mpr z⟩⟩) (fun hi => ⟨fun _ => h0 (fun q => hi q.1), fun y => absurd rfl y⟩)⟩
theorem mp_isIn {w : Wd} {now : Nat → Int64} {u : Nat} {past : Nat → Nat → Int64} {kb : Nat → Bool} {shelf : Nat → Nat → Int64} (hc : core w now u past kb shelf) {k k' a f : Nat} (hk : k < 10) (hk' : k' < 10) (ha : a < 2 ^ 32) (hf : f < 2 ^ 32) (e : now k = lN a) (e' : now k' = lN f) {P : Int32 → Wd → Prop} (h1 : ∀ w', core w' now u past kb shelf → inF a f → P 1 w') (h0 : ∀ w', core w' now u past kb shelf → ¬ inF a f → P 0 w') : cf_M_isIn (nI k) (nI k') w P := by
  unfold cf_M_isIn
  refine ⟨vp_in_nI (by omega) (by omega), ?_⟩
  rw [nI_clamp (by omega), (core_poly' hc hk' e').2]
  refine mp_isIrr (core_cache hc) hf (fun w2 k1 k2 hi => ⟨fun z => absurd z one_ne', fun _ => ⟨vp_in_nI (by omega) (by omega), ?_⟩⟩) (fun w2 k1 k2 hi => ⟨fun _ => h0 w2 (core_kp hc k1 k2) (fun q => hi q.1), fun z => absurd rfl z⟩)
  have hc2 := core_kp hc k1 k2
  rw [nI_clamp (by omega), (core_poly' hc2 hk e).2]
  refine mp_degree (by omega) ⟨vp_in_nI (by omega) (by omega), ?_⟩
  rw [(core_poly' hc2 hk' e').2]
  refine mp_degree (by omega) ?_
  rw [dI_le (by omega) (by omega)]
  exact ⟨fun z => h0 w2 hc2 (fun q => (inF_sz (irr_ne q.1)).mp q.2 z), fun z => h1 w2 hc2 ⟨hi, (inF_sz (irr_ne hi)).mpr z⟩⟩
/-- the conjugates of a, one after the other -/
def cj (a f : Nat) : Nat → Nat
  | 0 => a
  | j + 1 => pmod (cm (cj a f j) (cj a f j)) f
def csum (a f : Nat) : Nat → Nat
  | 0 => 0
  | j + 1 => csum a f j ^^^ cj a f j
theorem cj_lt {a f : Nat} (h : inF a f) : ∀ j, cj a f j < 2 ^ dg f
  | 0 => h.2
  | j + 1 => pmod_lt (irr_ne h.1) _
theorem cj_cg {a f : Nat} (hf : f ≠ 0) : ∀ j, cg f (cj a f j) (ppow a (2 ^ j))
  | 0 => by rw [fro_zero]; exact cg_refl _ _
  | j + 1 => by
    rw [fro_succ]
    exact cg_trans (cg_pmod hf _) (cg_cm (cj_cg hf j) (cj_cg hf j))
theorem cj_back {a f : Nat} (h : inF a f) : cj a f (dg f) = a :=
  cg_small (irr_ne h.1) (cg_trans (cj_cg (irr_ne h.1) _) (fermat h.1 a)) (cj_lt h _) h.2
theorem inF_32 {a f : Nat} (hf : f < 2 ^ 32) (h : inF a f) : ∀ x, x < 2 ^ dg f → x < 2 ^ 31 := by
  intro x hx
  have hd := (dg_lt (irr_ne h.1)).mpr hf
  exact Nat.lt_of_lt_of_le hx (Nat.pow_le_pow_right (by omega) (by omega))
theorem sp_traceOf {a f : Nat} {P : Int32 → Prop} (hf : f < 2 ^ 32) (h : inF a f) (hP : P (nI (csum a f (dg f)))) : cf_Field_traceOf (lN a) (lN f) P := by
  have hb := inF_32 hf h
  have hd := (dg_lt (irr_ne h.1)).mpr hf
  have key : ∀ m i, dg f ≤ i + m → i ≤ dg f → ∀ n, m < n → cf_Field_traceOf_L15 P n (lN f) (nI (dg f)) (lN (csum a f i)) (lN (cj a f i)) (nI i) := by
    intro m
    have stop : ∀ n, 0 < n → cf_Field_traceOf_L15 P n (lN f) (nI (dg f)) (lN (csum a f (dg f))) (lN (cj a f (dg f))) (nI (dg f)) := by
      intro n hn
      obtain ⟨n, rfl⟩ : ∃ m, n = m + 1 := ⟨n - 1, by omega⟩
      show cf_Field_traceOf_B15 _ _ _ _ _ _ _
      unfold cf_Field_traceOf_B15
      refine ⟨fun _ => ?_, fun z => absurd ((nI_leI (by omega) (by omega)).mpr (Nat.le_refl _)) z⟩
      rw [lN_i32]
      exact hP
    induction m with
    | zero =>
      intro i hi hil n hn
      have : i = dg f := by omega
      subst this
      exact stop n (by omega)
    | succ m ih =>
      intro i hi hil n hn
      by_cases hie : i = dg f
      · subst hie; exact stop n (by omega)
      obtain ⟨n, rfl⟩ : ∃ m, n = m + 1 := ⟨n - 1, by omega⟩
      show cf_Field_traceOf_B15 _ _ _ _ _ _ _
      unfold cf_Field_traceOf_B15
      have hc := hb _ (cj_lt h i)
      refine ⟨fun z => absurd ((nI_leI (by omega) (by omega)).mp z) (by omega), fun _ => ?_⟩
      rintro _ rfl
      refine sp_squareBy (by omega) (by omega) ?_
      rintro _ rfl
      rw [nI_1, lN_xor]
      exact ih (i + 1) (by omega) (by omega) n (by omega)
  unfold cf_Field_traceOf
  refine sp_degree (by omega) ?_
  rw [dI_pos (irr_ne h.1)]
  exact ⟨_, key (dg f) 0 (by omega) (by omega) (dg f + 1) (by omega)⟩
theorem pair_no {a b : Int32} (hno : ¬ (isPl a ∧ isPl b ∧ isPl a)) : ¬ isPl a ∨ ¬ isPl b := by
  by_cases h : isPl a
  · exact Or.inr (fun z => hno ⟨h, z, h⟩)
  · exact Or.inl h
theorem op_trace {w : Wd} (hI : Inv w) (a0 : Int32) (a1 : Int32) : same01 (cf_T_trace a0 a1 w) (cf_M_trace a0 a1 w) := by
  intro G h
  obtain ⟨now, u, past, kb, shelf, hc⟩ := hI
  have hI := core_Inv hc
  unfold cf_T_trace
  refine sp_arePlaces (fun ha hb _ => ⟨fun _ => ?_, fun z => absurd z one_ne'⟩) (fun hno => ⟨fun z => absurd rfl z, fun _ => h _ (fun F hF => ?_)⟩)
  · obtain ⟨k, hk, rfl⟩ := ha
    obtain ⟨k', hk', rfl⟩ := hb
    obtain ⟨a, ha, e0, e1, e2⟩ := core_poly hc hk
    obtain ⟨f, hf, g0, g1, g2⟩ := core_poly hc hk'
    have pre : ∀ F : Int32 → Wd → Prop, (∀ w2, core w2 now u past kb shelf → inF a f → ∃ n, cf_M_trace_L49 F n (lN f) (0 : Int64) (lN a) (0 : Int32) w2) → (∀ w2, core w2 now u past kb shelf → ¬ inF a f → F (-2) w2) → cf_M_trace (nI k) (nI k') w F := by
      intro F f1 f0
      unfold cf_M_trace
      refine mp_isPlace (fun _ => ⟨fun z => absurd z one_ne', fun _ => mp_isPlace (fun _ => ⟨fun _ => ?_, fun z => absurd z one_ne'⟩) (fun z => absurd ⟨k', hk', rfl⟩ z)⟩) (fun z => absurd ⟨k, hk, rfl⟩ z)
      refine mp_isIn hc hk hk' ha hf e0 g0 (fun w2 k1 k2 => ⟨fun _ => ⟨vp_in_nI (by omega) (by omega), ?_⟩, fun z => absurd z one_ne'⟩) (fun w2 k1 k2 => ⟨fun z => absurd rfl z, fun _ => f0 w2 k1 k2⟩)
      rw [nI_clamp (by omega), nI_clamp (by omega), (core_poly' k1 hk' g0).2, (core_poly' k1 hk e0).2]
      rintro _ rfl
      refine ⟨vp_in_nI (by omega) (by omega), ?_⟩
      rintro _ rfl
      exact f1 w2 k1 k2
    refine sp_isElement hc hk hk' ha hf e0 g0 (fun q => ⟨fun z => absurd z one_ne', fun _ => sp_polyAt hk (sp_polyAt hk' ?_)⟩) (fun q => ⟨fun _ => h _ (fun F hF => pre F (fun w2 _ y => absurd y q) (fun w2 k1 _ => hF w2 (core_Inv k1))), fun z => absurd rfl z⟩)
    rw [e1, g1]
    refine sp_traceOf hf q (h _ (fun F hF => pre F (fun w2 k1 _ => ?_) (fun w2 _ y => absurd q y)))
    have hb := inF_32 hf q
    have hd := (dg_lt (irr_ne q.1)).mpr hf
    have key : ∀ m i, dg f ≤ i + m → i ≤ dg f → ∀ n, m < n → cf_M_trace_L49 F n (lN f) (lN (csum a f i)) (lN (cj a f i)) (nI i) w2 := by
      intro m
      have stop : ∀ n, 0 < n → cf_M_trace_L49 F n (lN f) (lN (csum a f (dg f))) (lN (cj a f (dg f))) (nI (dg f)) w2 := by
        intro n hn
        obtain ⟨n, rfl⟩ : ∃ m, n = m + 1 := ⟨n - 1, by omega⟩
        show cf_M_trace_B49 _ _ _ _ _ _ _
        unfold cf_M_trace_B49
        refine mp_degree (by omega) ?_
        rw [dI_pos (irr_ne q.1)]
        refine ⟨fun _ => ?_, fun z => absurd ((nI_leI (by omega) (by omega)).mpr (Nat.le_refl _)) z⟩
        rw [lN_i32]
        exact hF w2 (core_Inv k1)
      induction m with
      | zero =>
        intro i hi hil n hn
        have : i = dg f := by omega
        subst this
        exact stop n (by omega)
      | succ m ih =>
        intro i hi hil n hn
        by_cases hie : i = dg f
        · subst hie; exact stop n (by omega)
        obtain ⟨n, rfl⟩ : ∃ m, n = m + 1 := ⟨n - 1, by omega⟩
        show cf_M_trace_B49 _ _ _ _ _ _ _
        unfold cf_M_trace_B49
        have hcl := hb _ (cj_lt q i)
        refine mp_degree (by omega) ?_
        rw [dI_pos (irr_ne q.1)]
        refine ⟨fun z => absurd ((nI_leI (by omega) (by omega)).mp z) (by omega), fun _ => ?_⟩
        rintro _ rfl
        refine mp_timesBy (by omega) (by omega) hf (irr_ne q.1) ?_
        rintro _ rfl
        rw [nI_1, lN_xor]
        exact ih (i + 1) (by omega) (by omega) n (by omega)
    exact ⟨_, key (dg f) 0 (by omega) (by omega) (dg f + 1) (by omega)⟩
  · unfold cf_M_trace
    rcases pair_no hno with q | q
    · exact mp_isPlace (fun z => absurd z q) (fun _ => ⟨fun _ => hF w hI, fun z => absurd rfl z⟩)
    · exact mp_isPlace (fun _ => ⟨fun z => absurd z one_ne', fun _ => mp_isPlace (fun z => absurd z q) (fun _ => ⟨fun z => absurd rfl z, fun _ => hF w hI⟩)⟩) (fun _ => ⟨fun _ => hF w hI, fun z => absurd rfl z⟩)
/-- how many unlike conjugates there are -/
def cjFirst (a f g : Nat) : Prop := 1 ≤ g ∧ g ≤ dg f ∧ cj a f g = a ∧ ∀ j, 1 ≤ j → j < g → cj a f j ≠ a
theorem cjFirst_unique {a f g g' : Nat} (h1 : cjFirst a f g) (h2 : cjFirst a f g') : g = g' := by
  refine Classical.byContradiction (fun hne => ?_)
  rcases (show g < g' ∨ g' < g by omega) with c | c
  · exact h2.2.2.2 g h1.1 c h1.2.2.1
  · exact h1.2.2.2 g' h2.1 c h2.2.2.1
theorem sp_unlikeConjugates {a f : Nat} {P : Int32 → Prop} (hf : f < 2 ^ 32) (h : inF a f) (hP : ∀ g, cjFirst a f g → P (nI g)) : cf_Field_unlikeConjugates (lN a) (lN f) P := by
  have hb := inF_32 hf h
  have hd := (dg_lt (irr_ne h.1)).mpr hf
  have key : ∀ m g, g + m = dg f → 1 ≤ g → (∀ j, 1 ≤ j → j < g → cj a f j ≠ a) → ∀ n, m < n → cf_Field_unlikeConjugates_L13 P n (lN a) (lN f) (nI g) (lN (cj a f g)) (nI (g - 1)) := by
    intro m
    induction m with
    | zero =>
      intro g hg hg1 hno n hn
      obtain ⟨n, rfl⟩ : ∃ m, n = m + 1 := ⟨n - 1, by omega⟩
      show cf_Field_unlikeConjugates_B13 _ _ _ _ _ _ _
      unfold cf_Field_unlikeConjugates_B13
      have : g = dg f := by omega
      subst this
      have hk := hP _ ⟨hg1, Nat.le_refl _, cj_back h, hno⟩
      rw [cj_back h]
      exact ⟨fun _ => hk, fun _ => ⟨fun _ => hk, fun z => absurd rfl z⟩⟩
    | succ m ih =>
      intro g hg hg1 hno n hn
      obtain ⟨n, rfl⟩ : ∃ m, n = m + 1 := ⟨n - 1, by omega⟩
      show cf_Field_unlikeConjugates_B13 _ _ _ _ _ _ _
      unfold cf_Field_unlikeConjugates_B13
      have hc := hb _ (cj_lt h g)
      have ha := hb _ h.2
      refine ⟨fun z => absurd ((nI_leI (show 31 < 2 ^ 31 by decide) (by omega)).mp z) (by omega), fun _ => ?_⟩
      rw [lN_eqI (by omega) (by omega)]
      refine ⟨fun z => hP g ⟨hg1, by omega, z, hno⟩, fun z => ?_⟩
      refine sp_squareBy (by omega) (by omega) ?_
      rintro _ rfl _ rfl
      rw [nI_1, nI_1]
      have := ih (g + 1) (by omega) (by omega) (fun j h1 h2 => ?_) n (by omega)
      · rw [show g + 1 - 1 = g - 1 + 1 by omega] at this
        exact this
      · by_cases e : j = g
        · rw [e]; exact z
        · exact hno j h1 (by omega)
  unfold cf_Field_unlikeConjugates
  have ha := hb _ h.2
  have hd1 := irr_dg h.1
  refine sp_squareBy (by omega) (by omega) ?_
  exact ⟨_, key (dg f - 1) 1 (by omega) (by omega) (fun j h1 h2 => absurd h1 (by omega)) (dg f) (by omega)⟩
theorem op_conjugates {w : Wd} (hI : Inv w) (a0 : Int32) (a1 : Int32) : same01 (cf_T_conjugates a0 a1 w) (cf_M_conjugates a0 a1 w) := by
  intro G h
  obtain ⟨now, u, past, kb, shelf, hc⟩ := hI
  have hI := core_Inv hc
  unfold cf_T_conjugates
  refine sp_arePlaces (fun ha hb _ => ⟨fun _ => ?_, fun z => absurd z one_ne'⟩) (fun hno => ⟨fun z => absurd rfl z, fun _ => h _ (fun F hF => ?_)⟩)
  · obtain ⟨k, hk, rfl⟩ := ha
    obtain ⟨k', hk', rfl⟩ := hb
    obtain ⟨a, ha, e0, e1, e2⟩ := core_poly hc hk
    obtain ⟨f, hf, g0, g1, g2⟩ := core_poly hc hk'
    have pre : ∀ F : Int32 → Wd → Prop, (∀ w2, core w2 now u past kb shelf → inF a f → ∃ n, cf_M_conjugates_L56 F n (nI k) (lN f) (1 : Int32) (lN (cj a f 1)) w2) → (∀ w2, core w2 now u past kb shelf → ¬ inF a f → F (-2) w2) → cf_M_conjugates (nI k) (nI k') w F := by
      intro F f1 f0
      unfold cf_M_conjugates
      refine mp_isPlace (fun _ => ⟨fun z => absurd z one_ne', fun _ => mp_isPlace (fun _ => ⟨fun _ => ?_, fun z => absurd z one_ne'⟩) (fun z => absurd ⟨k', hk', rfl⟩ z)⟩) (fun z => absurd ⟨k, hk, rfl⟩ z)
      refine mp_isIn hc hk hk' ha hf e0 g0 (fun w2 k1 k2 => ⟨fun _ => ⟨vp_in_nI (by omega) (by omega), ?_⟩, fun z => absurd z one_ne'⟩) (fun w2 k1 k2 => ⟨fun z => absurd rfl z, fun _ => f0 w2 k1 k2⟩)
      rw [nI_clamp (by omega), nI_clamp (by omega), (core_poly' k1 hk' g0).2, (core_poly' k1 hk e0).2]
      rintro _ rfl
      refine ⟨vp_in_nI (by omega) (by omega), vp_in_nI (by omega) (by omega), ?_⟩
      exact mp_timesBy (by omega) (by omega) hf (irr_ne k2.1) (f1 w2 k1 k2)
    refine sp_isElement hc hk hk' ha hf e0 g0 (fun q => ⟨fun z => absurd z one_ne', fun _ => sp_polyAt hk (sp_polyAt hk' ?_)⟩) (fun q => ⟨fun _ => h _ (fun F hF => pre F (fun w2 _ y => absurd y q) (fun w2 k1 _ => hF w2 (core_Inv k1))), fun z => absurd rfl z⟩)
    rw [e1, g1]
    refine sp_unlikeConjugates hf q (fun g hg => h _ (fun F hF => pre F (fun w2 k1 _ => ?_) (fun w2 _ y => absurd q y)))
    have hb := inF_32 hf q
    have hd := (dg_lt (irr_ne q.1)).mpr hf
    have key : ∀ m j, j + m = g → 1 ≤ j → ∀ n, m < n → cf_M_conjugates_L56 F n (nI k) (lN f) (nI j) (lN (cj a f j)) w2 := by
      intro m
      induction m with
      | zero =>
        intro j hj hj1 n hn
        obtain ⟨n, rfl⟩ : ∃ m, n = m + 1 := ⟨n - 1, by omega⟩
        show cf_M_conjugates_B56 _ _ _ _ _ _ _
        unfold cf_M_conjugates_B56
        have : j = g := by omega
        subst this
        refine ⟨vp_in_nI (by omega) (by omega), ?_⟩
        rw [nI_clamp (by omega), (core_poly' k1 hk e0).2, hg.2.2.1]
        exact ⟨fun _ => hF w2 (core_Inv k1), fun z => absurd rfl z⟩
      | succ m ih =>
        intro j hj hj1 n hn
        obtain ⟨n, rfl⟩ : ∃ m, n = m + 1 := ⟨n - 1, by omega⟩
        show cf_M_conjugates_B56 _ _ _ _ _ _ _
        unfold cf_M_conjugates_B56
        have hcl := hb _ (cj_lt q j)
        refine ⟨vp_in_nI (by omega) (by omega), ?_⟩
        rw [nI_clamp (by omega), (core_poly' k1 hk e0).2, lN_eqI (by omega) (by omega)]
        refine ⟨fun z => absurd z (hg.2.2.2 j hj1 (by omega)), fun _ => ?_⟩
        rintro _ rfl
        rw [nI_1]
        exact mp_timesBy (by omega) (by omega) hf (irr_ne q.1) (ih (j + 1) (by omega) (by omega) n (by omega))
    exact ⟨_, key (g - 1) 1 (by have := hg.1; omega) (by omega) g (by have := hg.1; omega)⟩
  · unfold cf_M_conjugates
    rcases pair_no hno with q | q
    · exact mp_isPlace (fun z => absurd z q) (fun _ => ⟨fun _ => hF w hI, fun z => absurd rfl z⟩)
    · exact mp_isPlace (fun _ => ⟨fun z => absurd z one_ne', fun _ => mp_isPlace (fun z => absurd z q) (fun _ => ⟨fun z => absurd rfl z, fun _ => hF w hI⟩)⟩) (fun _ => ⟨fun _ => hF w hI, fun z => absurd rfl z⟩)
