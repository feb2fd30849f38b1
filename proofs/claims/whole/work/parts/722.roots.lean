-- roots in a field
theorem cntg_list {Q : Nat → Prop} : ∀ N, ∃ l : List Nat, l.Nodup ∧ (∀ x, x ∈ l → x < N ∧ Q x) ∧ l.length = cntg Q N
  | 0 => ⟨[], List.nodup_nil, fun x hx => absurd hx (by simp), rfl⟩
  | N + 1 => by
    obtain ⟨l, h1, h2, h3⟩ := cntg_list (Q := Q) N
    by_cases h : Q N
    · refine ⟨N :: l, List.nodup_cons.mpr ⟨fun z => by have := (h2 N z).1; omega, h1⟩, fun x hx => ?_, by rw [cntg_yes h, List.length_cons, h3]⟩
      rcases List.mem_cons.mp hx with q | q
      · rw [q]; exact ⟨by omega, h⟩
      · exact ⟨by have := (h2 x q).1; omega, (h2 x q).2⟩
    · exact ⟨l, h1, fun x hx => ⟨by have := (h2 x hx).1; omega, (h2 x hx).2⟩, by rw [cntg_no h, h3]⟩
theorem cntg_cover {P Q : Nat → Prop} : ∀ N, (∀ v, v < N → P v ∨ Q v) → N ≤ cntg P N + cntg Q N
  | 0, _ => Nat.zero_le _
  | N + 1, h => by
    have ih := cntg_cover N (fun v hv => h v (by omega))
    have hp : cntg P N ≤ cntg P (N + 1) := cntg_mono (by omega)
    have hq : cntg Q N ≤ cntg Q (N + 1) := cntg_mono (by omega)
    rcases h N (by omega) with q | q
    · have := cntg_yes q; omega
    · have := cntg_yes q; omega
theorem cntg_congr {P Q : Nat → Prop} : ∀ N, (∀ v, v < N → (P v ↔ Q v)) → cntg P N = cntg Q N
  | 0, _ => rfl
  | N + 1, h => by
    have ih := cntg_congr N (fun v hv => h v (by omega))
    have hN := h N (by omega)
    by_cases c : P N
    · rw [cntg_yes c, cntg_yes (hN.mp c), ih]
    · rw [cntg_no c, cntg_no (fun z => c (hN.mpr z)), ih]
theorem inc_of_nodup {f : Nat} (hf : f ≠ 0) {l : List Nat} (h : l.Nodup) (hl : ∀ x, x ∈ l → x < 2 ^ dg f) : l.Pairwise (fun v w => ¬ cg f v w) :=
  List.Pairwise.imp_of_mem (fun {a b} ha hb hne hc => hne (cg_small hf hc (hl a ha) (hl b hb))) h
def rootOf (f s v : Nat) : Prop := pdvd f (pcomp s v)
theorem roots_at_most {f s : Nat} (hf : irr f) (hs : s ≠ 0) : cntg (rootOf f s) (2 ^ dg f) ≤ dg s := by
  obtain ⟨l, h1, h2, h3⟩ := cntg_list (Q := rootOf f s) (2 ^ dg f)
  rw [← h3]
  exact roots_le hf hs (inc_of_nodup (irr_ne hf) h1 (fun x hx => (h2 x hx).1)) (fun v hv => (h2 v hv).2)
theorem roots_count {a f : Nat} (hf : irr f) (ha : a ≠ 0) : cntg (rootOf f a) (2 ^ dg f) = dg (pgcd a (fx (dg f) ^^^ 2)) := by
  have hd := irr_dg hf
  obtain ⟨hX0, hXd⟩ := fxx_dg hd
  obtain ⟨g1, ⟨H, eH⟩, s, t, eG⟩ := pgcd_spec a (fx (dg f) ^^^ 2)
  have hG0 := pgcd_ne (b := fx (dg f) ^^^ 2) ha
  have hX : ∀ v, pdvd f (pcomp (fx (dg f) ^^^ 2) v) := by
    intro v
    rw [pcomp_add, pcomp_x, pcomp_fx]
    exact fermat hf v
  generalize pgcd a (fx (dg f) ^^^ 2) = G at *
  have hH0 : H ≠ 0 := by
    intro z
    rw [z, zero_cm] at eH
    exact hX0 eH
  have hdeg : dg H + dg G = 2 ^ dg f := by rw [← dg_cm hH0 hG0, ← eH, hXd]
  have e1 : cntg (rootOf f a) (2 ^ dg f) = cntg (rootOf f G) (2 ^ dg f) := by
    refine cntg_congr _ (fun v _ => ⟨fun h => ?_, fun h => ?_⟩)
    · show pdvd f (pcomp G v)
      rw [eG, pcomp_add, pcomp_cm, pcomp_cm]
      exact pdvd_xor (pdvd_mul_left _ h) (pdvd_mul_left _ (hX v))
    · obtain ⟨q, eq⟩ := g1
      show pdvd f (pcomp a v)
      rw [eq, pcomp_cm]
      exact pdvd_mul_left _ h
  have h2 := cntg_cover (P := rootOf f H) (Q := rootOf f G) (2 ^ dg f) (fun v _ => by
    have := hX v
    rw [eH, pcomp_cm] at this
    exact irr_euclid hf this)
  have h3 := roots_at_most hf hH0
  have h4 := roots_at_most hf hG0
  omega
theorem sp_countRoots {a n : Nat} {P : Int32 → Prop} (ha : a < 2 ^ 32) (hn : n ≤ 12) (h1 : a ≠ 0 → P (nI (dg (pgcd a (fx n ^^^ 2))))) (h0 : a = 0 → P (nI (2 ^ n))) : cf_Field_countRoots (lN a) (nI n) P := by
  unfold cf_Field_countRoots
  rw [lN_eq0 (by omega)]
  refine ⟨fun z => sp_remainder (a := 2) (by omega) (by omega) ?_, fun z => ?_⟩
  · have key : ∀ m i fr', i + m = n → cg a fr' (fx i) → fr' < 2 ^ 32 → ∀ n', m < n' → cf_Field_countRoots_L21 P n' (lN a) (nI n) (lN fr') (nI i) := by
      intro m
      induction m with
      | zero =>
        intro i fr' hi hc hl n' hn'
        obtain ⟨n', rfl⟩ : ∃ m, n' = m + 1 := ⟨n' - 1, by omega⟩
        show cf_Field_countRoots_B21 _ _ _ _ _ _
        unfold cf_Field_countRoots_B21
        have : i = n := by omega
        subst this
        refine ⟨fun _ => ?_, fun z => absurd ((nI_leI (by omega) (by omega)).mpr (Nat.le_refl _)) z⟩
        rw [show (2 : Int64) = lN 2 from rfl, lN_xor]
        refine sp_gcd (by omega) (Nat.lt_of_lt_of_le (Nat.xor_lt_two_pow (n := 32) (by omega) (by omega)) (by decide)) ?_
        have e4 : pgcd a (fr' ^^^ 2) = pgcd a (fx i ^^^ 2) := pgcd_cg (cg_xor hc (cg_refl a 2))
        have hb : pgcd a (fr' ^^^ 2) < 2 ^ 32 := pgcd_bd ha (Nat.xor_lt_two_pow (by omega) (by omega))
        rw [e4] at hb ⊢
        refine sp_degree (by omega) ?_
        rw [dI_pos (pgcd_ne z)]
        exact h1 z
      | succ m ih =>
        intro i fr' hi hc hl n' hn'
        obtain ⟨n', rfl⟩ : ∃ m, n' = m + 1 := ⟨n' - 1, by omega⟩
        show cf_Field_countRoots_B21 _ _ _ _ _ _
        unfold cf_Field_countRoots_B21
        refine ⟨fun y => absurd ((nI_leI (by omega) (by omega)).mp y) (by omega), fun _ => ?_⟩
        refine sp_squareBy hl (by omega) ?_
        have hr := pmod_lt31 z ha (cm fr' fr')
        rintro _ rfl
        rw [nI_1]
        refine ih (i + 1) _ (by omega) ?_ (by omega) n' (by omega)
        rw [fx_succ]
        exact cg_trans (cg_pmod z _) (cg_cm hc hc)
    refine ⟨n + 1, key n 0 _ (by omega) ?_ ?_ (n + 1) (by omega)⟩
    · rw [fx_zero]; exact cg_pmod z 2
    · have := pmod_lt31 z ha 2; omega
  · rw [show (1 : Int32) = nI 1 from rfl, ishl_nI _ (by omega), Nat.shiftLeft_eq, Nat.one_mul]
    exact h0 z
theorem op_roots {w : Wd} (hI : Inv w) (a0 : Int32) (a1 : Int32) : same01 (cf_T_roots a0 a1 w) (cf_M_roots a0 a1 w) := by
  intro G h
  obtain ⟨now, u, past, kb, shelf, hc⟩ := hI
  have hI := core_Inv hc
  unfold cf_T_roots
  refine sp_arePlaces (fun ha hb _ => ⟨fun _ => ?_, fun z => absurd z one_ne'⟩) (fun hno => ⟨fun z => absurd rfl z, fun _ => h _ (fun F hF => ?_)⟩)
  · obtain ⟨k, hk, rfl⟩ := ha
    obtain ⟨k', hk', rfl⟩ := hb
    obtain ⟨a, ha, e0, e1, e2⟩ := core_poly hc hk
    obtain ⟨f, hf, g0, g1, g2⟩ := core_poly hc hk'
    have pre : ∀ F : Int32 → Wd → Prop, (∀ w2, core w2 now u past kb shelf → irr f → dg f ≤ 12 → ∃ n, cf_M_roots_L49 F n (nI k) (lN f) (0 : Int32) (0 : Int64) w2) → (∀ w2, core w2 now u past kb shelf → ¬ (irr f ∧ dg f ≤ 12) → F (-2) w2) → cf_M_roots (nI k) (nI k') w F := by
      intro F f1 f0
      unfold cf_M_roots
      refine mp_isPlace (fun _ => ⟨fun z => absurd z one_ne', fun _ => mp_isPlace (fun _ => ⟨fun _ => ⟨vp_in_nI (by omega) (by omega), ?_⟩, fun z => absurd z one_ne'⟩) (fun z => absurd ⟨k', hk', rfl⟩ z)⟩) (fun z => absurd ⟨k, hk, rfl⟩ z)
      rw [nI_clamp (by omega), g2]
      rintro _ rfl
      refine mp_isIrr (core_cache hc) hf (fun w2 j1 j2 hi => ⟨fun z => absurd z one_ne', fun _ => mp_degree (by omega) ?_⟩) (fun w2 j1 j2 hi => ⟨fun _ => f0 w2 (core_kp hc j1 j2) (fun q => hi q.1), fun z => absurd rfl z⟩)
      have hd := (dg_lt (irr_ne hi)).mpr hf
      rw [dI_pos (irr_ne hi), show (12 : Int32) = nI 12 from rfl, nI_leI (by omega) (by omega)]
      exact ⟨fun z => f1 w2 (core_kp hc j1 j2) hi z, fun z => f0 w2 (core_kp hc j1 j2) (fun q => z q.2)⟩
    refine sp_polyAt hk' ?_
    rw [g1]
    refine sp_degree (by omega) ?_
    have e12 : (12 : Int32) < dI f ↔ ¬ (f = 0 ∨ dg f ≤ 12) := by
      by_cases z : f = 0
      · subst z
        exact ⟨fun q => absurd q (by decide), fun q => absurd (Or.inl rfl) q⟩
      · have := (dg_lt z).mpr hf
        rw [dI_pos z, show (12 : Int32) = nI 12 from rfl, nI_ltI (by omega) (by omega)]
        omega
    rw [e12]
    refine ⟨fun z => h _ (fun F hF => pre F (fun w2 _ _ y => absurd (Or.inr y) z) (fun w2 j1 _ => hF w2 (core_Inv j1))), fun z => sp_polyAt hk' ?_⟩
    rw [g1]
    refine sp_isIrr hf (fun hi => ⟨fun _ => sp_polyAt hk ?_, fun y => absurd y one_ne'⟩) (fun hi => ⟨fun y => absurd rfl y, fun _ => h _ (fun F hF => pre F (fun w2 _ y _ => absurd y hi) (fun w2 j1 _ => hF w2 (core_Inv j1)))⟩)
    have hf0 := irr_ne hi
    have hd12 : dg f ≤ 12 := Classical.byContradiction (fun y => z (fun q => q.elim hf0 y))
    rw [e1, dI_pos hf0]
    have hp12 : 2 ^ dg f ≤ 2 ^ 12 := Nat.pow_le_pow_right (by omega) hd12
    -- the model counts
    have cnt : ∀ (F : Int32 → Wd → Prop) (w2 : Wd), core w2 now u past kb shelf → F (nI (cntg (rootOf f a) (2 ^ dg f))) w2 → ∃ n, cf_M_roots_L49 F n (nI k) (lN f) (0 : Int32) (0 : Int64) w2 := by
      intro F w2 hc2 hF
      have key : ∀ m v, v + m = 2 ^ dg f → ∀ n, m < n → cf_M_roots_L49 F n (nI k) (lN f) (nI (cntg (rootOf f a) v)) (lN v) w2 := by
        intro m
        have hsh : lshl (1 : Int64) (nI (dg f)) = lN (2 ^ dg f) := by rw [show (1 : Int64) = lN 1 from rfl, lshl_lN _ (by omega), Nat.shiftLeft_eq, Nat.one_mul]
        induction m with
        | zero =>
          intro v hv n hn
          obtain ⟨n, rfl⟩ : ∃ m, n = m + 1 := ⟨n - 1, by omega⟩
          show cf_M_roots_B49 _ _ _ _ _ _ _
          unfold cf_M_roots_B49
          have : v = 2 ^ dg f := by omega
          subst this
          refine mp_degree (by omega) ?_
          rw [dI_pos hf0, hsh, lN_leI (by omega) (by omega)]
          exact ⟨fun _ => hF, fun y => absurd (Nat.le_refl _) y⟩
        | succ m ih =>
          intro v hv n hn
          obtain ⟨n, rfl⟩ : ∃ m, n = m + 1 := ⟨n - 1, by omega⟩
          show cf_M_roots_B49 _ _ _ _ _ _ _
          unfold cf_M_roots_B49
          refine mp_degree (by omega) ?_
          rw [dI_pos hf0, hsh, lN_leI (by omega) (by omega)]
          refine ⟨fun y => absurd y (by omega), fun _ => ⟨vp_in_nI (by omega) (by omega), ?_⟩⟩
          rw [nI_clamp (by omega), (core_poly' hc2 hk e0).2]
          refine mp_insideBy (by omega) (by omega) hf hf0 ?_
          have hb := pmod_lt31 hf0 hf (pcomp a v)
          rw [lN_eq0 (by omega)]
          have er : pmod (pcomp a v) f = 0 ↔ rootOf f a v := (pdvd_iff hf0 _).symm
          rw [er]
          have ih := ih (v + 1) (by omega) n (by omega)
          refine ⟨fun y => ?_, fun y => ?_⟩
          · rintro _ rfl _ rfl
            rw [cntg_no y] at ih
            rw [Int32.add_zero, lN_succ]
            exact ih
          · rintro _ rfl _ rfl
            rw [cntg_yes y] at ih
            rw [nI_1, lN_succ]
            exact ih
      exact ⟨_, key (2 ^ dg f) 0 (by omega) (2 ^ dg f + 1) (by omega)⟩
    refine sp_countRoots ha hd12 (fun q => h _ (fun F hF => pre F (fun w2 j1 _ _ => cnt F w2 j1 ?_) (fun w2 _ y => absurd ⟨hi, hd12⟩ y))) (fun q => h _ (fun F hF => pre F (fun w2 j1 _ _ => cnt F w2 j1 ?_) (fun w2 _ y => absurd ⟨hi, hd12⟩ y)))
    · rw [roots_count hi q]
      exact hF w2 (core_Inv j1)
    · have : cntg (rootOf f a) (2 ^ dg f) = 2 ^ dg f := by
        have h1 := cntg_cover (P := rootOf f a) (Q := fun _ => False) (2 ^ dg f) (fun v _ => Or.inl (by
          show pdvd f (pcomp a v)
          rw [q, pcomp_zero]
          exact pdvd_zero f))
        have h2 : ∀ N, cntg (fun _ => False) N = 0 := by
          intro N
          induction N with
          | zero => rfl
          | succ N ih => rw [cntg_no (fun z => z), ih]
        rw [h2] at h1
        have := cntg_le (Q := rootOf f a) (2 ^ dg f)
        omega
      rw [this]
      exact hF w2 (core_Inv j1)
  · unfold cf_M_roots
    rcases pair_no hno with q | q
    · exact mp_isPlace (fun z => absurd z q) (fun _ => ⟨fun _ => hF w hI, fun z => absurd rfl z⟩)
    · exact mp_isPlace (fun _ => ⟨fun z => absurd z one_ne', fun _ => mp_isPlace (fun z => absurd z q) (fun _ => ⟨fun z => absurd rfl z, fun _ => hF w hI⟩)⟩) (fun _ => ⟨fun _ => hF w hI, fun z => absurd rfl z⟩)
