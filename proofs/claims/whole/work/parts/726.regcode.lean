-- registers in the code of both
theorem sp_sumOf {x : Nat} {P : Int64 → Prop} (hx : x < 2 ^ 63) (h : P (lN (par x))) : cf_Shifts_sumOf (lN x) P := by
  unfold cf_Shifts_sumOf
  refine sp_bitCount hx ?_
  rw [show (1 : Int32) = nI 1 from rfl, nI_and, Nat.and_one_is_mod, nI_l (by omega)]
  exact h
theorem and_lt63 {x y : Nat} (h : y < 2 ^ 63) : x &&& y < 2 ^ 63 := Nat.lt_of_le_of_lt Nat.and_le_right h
theorem sp_after {f st : Nat} {P : Int64 → Prop} (hf : f < 2 ^ 32) (hn : 1 ≤ dg f) (h0 : f ≠ 0) (h : st < 2 ^ 31) (hP : P (lN (stepF f st))) : cf_Shifts_after (lN f) (lN st) P := by
  have hd := (dg_lt h0).mpr hf
  unfold cf_Shifts_after
  refine sp_degree (by omega) ?_
  rw [dI_pos h0, lN_and]
  refine sp_sumOf (and_lt63 (by omega)) ?_
  rw [show nI (dg f) - (1 : Int32) = nI (dg f - 1) from pk_sub (b := 1) hn, show (1 : Int32) = nI 1 from rfl, lshr_lN (by omega) (by omega), lshl_lN _ (by omega), lN_or]
  exact hP
theorem pow_dbl {f : Nat} (hf : f ≠ 0) (k : Nat) : pmod (2 * pmod (ppow 2 k) f) f = pmod (ppow 2 (k + 1)) f := by
  rw [two_cm, cm_comm]
  exact pmod_mul_right hf 2 (ppow 2 k)
theorem sp_behind {f st t : Nat} {P : Int64 → Prop} (hf : f < 2 ^ 32) (hn : 1 ≤ dg f) (h0 : f ≠ 0) (h : st < 2 ^ dg f) (ht : t < 2 ^ 63) (hP : P (lN (stp f t st))) : cf_Shifts_behind (lN f) (lN st) (lN t) P := by
  have hd := (dg_lt h0).mpr hf
  have hpw : 2 ^ dg f ≤ 2 ^ 31 := Nat.pow_le_pow_right (by omega) (by omega)
  unfold cf_Shifts_behind
  refine sp_degree (by omega) (sp_powerBy (a := 2) (by omega) ht hf h0 ?_)
  rw [dI_pos h0]
  have key : ∀ m i, i + m = dg f → ∀ n, m < n → cf_Shifts_behind_L23 P n (lN f) (lN st) (nI (dg f)) (lN (pmod (ppow 2 (t + i)) f)) (lN (stp f t st % 2 ^ i)) (nI i) := by
    intro m
    induction m with
    | zero =>
      intro i hi n hn'
      obtain ⟨n, rfl⟩ : ∃ m, n = m + 1 := ⟨n - 1, by omega⟩
      show cf_Shifts_behind_B23 _ _ _ _ _ _ _ _
      unfold cf_Shifts_behind_B23
      have : i = dg f := by omega
      subst this
      rw [Nat.mod_eq_of_lt (stp_lt hn t st h)]
      exact ⟨fun _ => hP, fun z => absurd ((nI_leI (by omega) (by omega)).mpr (Nat.le_refl _)) z⟩
    | succ m ih =>
      intro i hi n hn'
      obtain ⟨n, rfl⟩ : ∃ m, n = m + 1 := ⟨n - 1, by omega⟩
      show cf_Shifts_behind_B23 _ _ _ _ _ _ _ _
      unfold cf_Shifts_behind_B23
      have hb := pmod_lt31 h0 hf (ppow 2 (t + i))
      refine ⟨fun z => absurd ((nI_leI (by omega) (by omega)).mp z) (by omega), fun _ => ?_⟩
      rw [lN_and]
      refine sp_sumOf (and_lt63 (by omega)) ?_
      rw [lshl_lN _ (by omega), lN_or, ← stp_bit hf hn h (show i < dg f by omega) (by omega), or_bit]
      rintro _ rfl
      rw [show (1 : Int32) = nI 1 from rfl, lshl_lN _ (by omega), Nat.shiftLeft_eq, Nat.pow_one, Nat.mul_comm]
      refine sp_remainder (by omega) (by omega) ?_
      rw [pow_dbl h0]
      rintro _ rfl
      rw [nI_add]
      exact ih (i + 1) (by omega) n (by omega)
  have := key (dg f) 0 (by omega) (dg f + 1) (by omega)
  rw [Nat.pow_zero, Nat.mod_one, Nat.add_zero] at this
  exact ⟨_, this⟩
/-- the model's cells of a rule -/
def ruleM (w : Wd) (f : Nat) : Prop := w.2 31 10 = lN f ∧ w.2 31 11 = lN (dg f)
theorem mp_stepped {f st : Nat} {w : Wd} {P : Int64 → Prop} (hr : ruleM w f) (hf : f < 2 ^ 32) (hn : 1 ≤ dg f) (h0 : f ≠ 0) (h : st < 2 ^ dg f) (hP : P (lN (stepF f st))) : cf_M_stepped (lN st) w P := by
  have hd := (dg_lt h0).mpr hf
  have hpw : 2 ^ dg f ≤ 2 ^ 31 := Nat.pow_le_pow_right (by omega) (by omega)
  unfold cf_M_stepped
  have z11 : (11 : Int32).toNatClampNeg = 11 := by decide
  have z10 : (10 : Int32).toNatClampNeg = 10 := by decide
  refine ⟨vi11_14, ?_⟩
  rw [z11, hr.2, lN_i32]
  rintro _ rfl
  refine ⟨vi10_14, mp_allOnes (by omega) ?_⟩
  have hs : (st &&& f) &&& (2 ^ dg f - 1) = st &&& f := by
    rw [Nat.and_two_pow_sub_one_eq_mod]
    exact Nat.mod_eq_of_lt (Nat.lt_of_le_of_lt Nat.and_le_left h)
  rw [z10, hr.1, lN_and, lN_and, hs]
  refine mp_weight (Nat.lt_of_le_of_lt Nat.and_le_left (by omega)) ?_
  have hw : wt (st &&& f) ≤ 64 := wtF_le 64 _
  rw [show (2 : Int32) = nI 2 from rfl, nI_rem (by omega) (by omega) (by omega), nI_l (by omega)]
  rintro _ rfl
  rw [show nI (dg f) - (1 : Int32) = nI (dg f - 1) from pk_sub (b := 1) hn, show (1 : Int32) = nI 1 from rfl, lushr_lN (by omega) (by omega), lshl_lN _ (by omega), lN_or]
  unfold stepF at hP
  rw [Nat.and_comm f] at hP
  exact hP
def xs (Φ : Nat → Nat) (s : Nat) : Nat → Nat
  | 0 => 0
  | k + 1 => xs Φ s k ^^^ (if s.testBit k then Φ k else 0)
theorem stp_zero {f : Nat} (hn : 1 ≤ dg f) (t : Nat) : stp f t 0 = 0 := by
  have hp : 0 < 2 ^ dg f := Nat.pow_pos (by omega)
  have := stp_xor hn t 0 0 hp hp
  rw [Nat.xor_self, Nat.xor_self] at this
  exact this
theorem xs_stp {f t s : Nat} (hn : 1 ≤ dg f) {Φ : Nat → Nat} (hΦ : ∀ k, k < dg f → Φ k = stp f t (2 ^ k)) : ∀ k, k ≤ dg f → xs Φ s k = stp f t (s % 2 ^ k)
  | 0, _ => by rw [Nat.pow_zero, Nat.mod_one, stp_zero hn]; rfl
  | k + 1, hk => by
    show xs Φ s k ^^^ (if s.testBit k then Φ k else 0) = _
    rw [xs_stp hn hΦ k (by omega), mod_bit]
    have h1 : s % 2 ^ k < 2 ^ dg f := Nat.lt_of_lt_of_le (Nat.mod_lt _ (Nat.pow_pos (by omega))) (Nat.pow_le_pow_right (by omega) (by omega))
    have h2 : 2 ^ k < 2 ^ dg f := Nat.pow_lt_pow_right (by omega) (by omega)
    by_cases hb : s.testBit k = true
    · rw [if_pos hb, if_pos hb, hΦ k (by omega), stp_xor hn t _ _ h1 h2]
    · rw [if_neg hb, if_neg hb, Nat.xor_zero, Nat.xor_zero]
theorem mp_done {f s : Nat} {Φ : Nat → Nat} {w : Wd} {P : Int64 → Prop} (hr : ruleM w f) (hf : f < 2 ^ 32) (h0 : f ≠ 0) (hs : s < 2 ^ 64) (hΦ : ∀ k, k < dg f → w.2 41 k = lN (Φ k)) (hP : P (lN (xs Φ s (dg f)))) : cf_M_done 41 31 (lN s) w P := by
  have hd := (dg_lt h0).mpr hf
  have z11 : (11 : Int32).toNatClampNeg = 11 := by decide
  have key : ∀ m k, k + m = dg f → ∀ n, m < n → cf_M_done_L6 41 31 w P n (lN s) (lN (xs Φ s k)) (nI k) := by
    intro m
    induction m with
    | zero =>
      intro k hk n hn
      obtain ⟨n, rfl⟩ : ∃ m, n = m + 1 := ⟨n - 1, by omega⟩
      show cf_M_done_B6 41 31 w _ _ _ _ _
      unfold cf_M_done_B6
      have : k = dg f := by omega
      subst this
      refine ⟨vi11_14, ?_⟩
      rw [z11, hr.2, lN_i32]
      exact ⟨fun _ => hP, fun z => absurd ((nI_leI (by omega) (by omega)).mpr (Nat.le_refl _)) z⟩
    | succ m ih =>
      intro k hk n hn
      obtain ⟨n, rfl⟩ : ∃ m, n = m + 1 := ⟨n - 1, by omega⟩
      show cf_M_done_B6 41 31 w _ _ _ _ _
      unfold cf_M_done_B6
      refine ⟨vi11_14, ?_⟩
      rw [z11, hr.2, lN_i32]
      have ih := ih (k + 1) (by omega) n (by omega)
      have e : xs Φ s (k + 1) = xs Φ s k ^^^ (if s.testBit k then Φ k else 0) := rfl
      rw [e] at ih
      refine ⟨fun z => absurd ((nI_leI (by omega) (by omega)).mp z) (by omega), fun _ => mp_hasB hs (by omega) (fun ht => ⟨fun z => absurd z one_ne, fun _ => ⟨vp_in_nI (by omega) (by omega), ?_⟩⟩) (fun ht => ⟨fun _ => ?_, fun z => absurd rfl z⟩)⟩
      · rw [nI_clamp (by omega), hΦ k (by omega), lN_xor]
        rintro _ rfl _ rfl
        rw [nI_1]
        rw [if_pos ht] at ih
        exact ih
      · rintro _ rfl
        rw [nI_1]
        rw [if_neg (by rw [ht]; decide), Nat.xor_zero] at ih
        exact ih
  exact ⟨_, key (dg f) 0 (by omega) (dg f + 1) (by omega)⟩
theorem ruleM_wL {w : Wd} {f c k : Nat} {x : Int64} (h : ruleM w f) (hc : c ≠ 31) : ruleM (wL w c k x) f := by
  refine ⟨?_, ?_⟩
  · rw [wL_2, if_neg (fun z => hc z.1.symm)]; exact h.1
  · rw [wL_2, if_neg (fun z => hc z.1.symm)]; exact h.2
theorem mp_steppedOn {f st many : Nat} {w0 : Wd} {P : Int64 → Wd → Prop} (hr0 : ruleM w0 f) (hf : f < 2 ^ 32) (hn : 1 ≤ dg f) (h0 : f ≠ 0) (h : st < 2 ^ dg f) (hm : many < 2 ^ 62) (hP : ∀ w', fr [] [] [41, 42] w0 w' → P (lN (stp f many st)) w') : cf_M_steppedOn (lN st) (lN many) w0 P := by
  have hd := (dg_lt h0).mpr hf
  have hpw : 2 ^ dg f ≤ 2 ^ 31 := Nat.pow_le_pow_right (by omega) (by omega)
  have z11 : (11 : Int32).toNatClampNeg = 11 := by decide
  have small : ∀ k, k < dg f → 2 ^ k < 2 ^ dg f := fun k hk => Nat.pow_lt_pow_right (by omega) hk
  -- the main loop
  have main : ∀ m left D v u w, left ≤ m → left < 2 ^ 62 → fr [] [] [41, 42] w0 w → ruleM w f → (∀ k, k < dg f → w.2 41 k = lN (stp f D (2 ^ k))) → v = stp f u st → u + left * D = many → ∀ n, m < n → cf_M_steppedOn_L47 P n (nI (dg f)) (lN v) (lN left) w := by
    intro m
    induction m with
    | zero =>
      intro left D v u w hl hl2 hfr hr hc hv hu n hn'
      obtain ⟨n, rfl⟩ : ∃ m, n = m + 1 := ⟨n - 1, by omega⟩
      show cf_M_steppedOn_B47 _ _ _ _ _ _
      unfold cf_M_steppedOn_B47
      have : left = 0 := by omega
      subst this
      rw [Nat.zero_mul, Nat.add_zero] at hu
      subst hu
      subst hv
      exact ⟨fun _ => hP w hfr, fun z => absurd (show lN 0 ≤ (0 : Int64) by decide) z⟩
    | succ m ih =>
      intro left D v u w hl hl2 hfr hr hc hv hu n hn'
      by_cases hl0 : left = 0
      · subst hl0
        exact ih 0 D v u w (by omega) hl2 hfr hr hc hv hu n (by omega)
      obtain ⟨n, rfl⟩ : ∃ m, n = m + 1 := ⟨n - 1, by omega⟩
      show cf_M_steppedOn_B47 _ _ _ _ _ _
      unfold cf_M_steppedOn_B47
      have le0 : lN left ≤ (0 : Int64) ↔ left ≤ 0 := lN_leI (b := 0) (by omega) (by decide)
      rw [le0]
      refine ⟨fun z => absurd z (by omega), fun _ => ?_⟩
      -- doubling what is done
      have dbl : ∀ v' u', v' = stp f u' st → u' + (left / 2) * (D + D) = many → ∃ n2, cf_M_steppedOn_L78 (cf_M_steppedOn_L47 P n) P n2 (nI (dg f)) (lN v') (lN left) (0 : Int32) w := by
        intro v' u' hv' hu'
        have copy : ∀ m3 k w3, k + m3 = dg f → fr [] [] [41, 42] w0 w3 → ruleM w3 f → (∀ j, j < dg f → w3.2 42 j = lN (stp f (D + D) (2 ^ j))) → (∀ j, j < k → w3.2 41 j = lN (stp f (D + D) (2 ^ j))) → ∀ n3, m3 < n3 → cf_M_steppedOn_L116 (cf_M_steppedOn_L47 P n) P n3 (nI (dg f)) (lN v') (lN left) (nI k) w3 := by
          intro m3
          induction m3 with
          | zero =>
            intro k w3 hk hfr3 hr3 h42 h41 n3 hn3
            obtain ⟨n3, rfl⟩ : ∃ m, n3 = m + 1 := ⟨n3 - 1, by omega⟩
            show cf_M_steppedOn_B116 _ _ P _ _ _ _ _
            unfold cf_M_steppedOn_B116
            have : k = dg f := by omega
            subst this
            refine ⟨fun _ => ?_, fun z => absurd ((nI_leI (by omega) (by omega)).mpr (Nat.le_refl _)) z⟩
            rw [show (1 : Int32) = nI 1 from rfl, lshr_lN (by omega) (by omega), Nat.shiftRight_eq_div_pow, Nat.pow_one]
            rintro _ rfl
            exact ih (left / 2) (D + D) v' u' w3 (by omega) (by omega) hfr3 hr3 h41 hv' hu' n (by omega)
          | succ m3 ih3 =>
            intro k w3 hk hfr3 hr3 h42 h41 n3 hn3
            obtain ⟨n3, rfl⟩ : ∃ m, n3 = m + 1 := ⟨n3 - 1, by omega⟩
            show cf_M_steppedOn_B116 _ _ P _ _ _ _ _
            unfold cf_M_steppedOn_B116
            refine ⟨fun z => absurd ((nI_leI (by omega) (by omega)).mp z) (by omega), fun _ => ⟨vp_in_nI (by omega) (by omega), vp_in_nI (by omega) (by omega), ?_⟩⟩
            rw [nI_clamp (by omega), h42 k (by omega)]
            rintro _ rfl _ rfl
            rw [nI_1]
            refine ih3 (k + 1) _ (by omega) (fr_wL _ hfr3 (by simp)) (ruleM_wL hr3 (by decide)) (fun j hj => ?_) (fun j hj => ?_) n3 (by omega)
            · rw [wL_2, if_neg (fun z => absurd z.1 (by decide))]
              exact h42 j hj
            · rw [wL_2]
              by_cases e : j = k
              · rw [if_pos ⟨rfl, e⟩, e]
              · rw [if_neg (fun z => e z.2)]
                exact h41 j (by omega)
        have tw : ∀ m2 k w2, k + m2 = dg f → fr [] [] [41, 42] w0 w2 → ruleM w2 f → (∀ j, j < dg f → w2.2 41 j = lN (stp f D (2 ^ j))) → (∀ j, j < k → w2.2 42 j = lN (stp f (D + D) (2 ^ j))) → ∀ n2, m2 < n2 → cf_M_steppedOn_L78 (cf_M_steppedOn_L47 P n) P n2 (nI (dg f)) (lN v') (lN left) (nI k) w2 := by
          intro m2
          induction m2 with
          | zero =>
            intro k w2 hk hfr2 hr2 h41 h42 n2 hn2
            obtain ⟨n2, rfl⟩ : ∃ m, n2 = m + 1 := ⟨n2 - 1, by omega⟩
            show cf_M_steppedOn_B78 _ _ P _ _ _ _ _
            unfold cf_M_steppedOn_B78
            have : k = dg f := by omega
            subst this
            exact ⟨fun _ => ⟨_, copy (dg f) 0 w2 (by omega) hfr2 hr2 h42 (fun j hj => absurd hj (by omega)) (dg f + 1) (by omega)⟩, fun z => absurd ((nI_leI (by omega) (by omega)).mpr (Nat.le_refl _)) z⟩
          | succ m2 ih2 =>
            intro k w2 hk hfr2 hr2 h41 h42 n2 hn2
            obtain ⟨n2, rfl⟩ : ∃ m, n2 = m + 1 := ⟨n2 - 1, by omega⟩
            show cf_M_steppedOn_B78 _ _ P _ _ _ _ _
            unfold cf_M_steppedOn_B78
            refine ⟨fun z => absurd ((nI_leI (by omega) (by omega)).mp z) (by omega), fun _ => ⟨vp_in_nI (by omega) (by omega), ?_⟩⟩
            have hb := stp_lt hn D _ (small k (by omega))
            rw [nI_clamp (by omega), h41 k (by omega)]
            refine mp_done (Φ := fun k => stp f D (2 ^ k)) hr2 hf h0 (by omega) h41 ⟨vp_in_nI (by omega) (by omega), ?_⟩
            rw [xs_stp hn (t := D) (fun _ _ => rfl) (dg f) (Nat.le_refl _), Nat.mod_eq_of_lt hb, ← stp_add]
            rintro _ rfl _ rfl
            rw [nI_1]
            refine ih2 (k + 1) _ (by omega) (fr_wL _ hfr2 (by simp)) (ruleM_wL hr2 (by decide)) (fun j hj => ?_) (fun j hj => ?_) n2 (by omega)
            · rw [wL_2, if_neg (fun z => absurd z.1 (by decide))]
              exact h41 j hj
            · rw [wL_2]
              by_cases e : j = k
              · rw [if_pos ⟨rfl, e⟩, e]
              · rw [if_neg (fun z => e z.2)]
                exact h42 j (by omega)
        exact ⟨_, tw (dg f) 0 w (by omega) hfr hr hc (fun j hj => absurd hj (by omega)) (dg f + 1) (by omega)⟩
      have ev : left = 2 * (left / 2) + left % 2 := by omega
      refine mp_hasB (k := 0) (by omega) (by omega) (fun ht => ⟨fun z => absurd z one_ne, fun _ => ?_⟩) (fun ht => ⟨fun _ => ?_, fun z => absurd rfl z⟩)
      · rw [Nat.testBit_zero] at ht
        have ho : left % 2 = 1 := of_decide_eq_true ht
        have hvb : v < 2 ^ dg f := by rw [hv]; exact stp_lt hn u st h
        refine mp_done (Φ := fun k => stp f D (2 ^ k)) hr hf h0 (by omega) hc ?_
        rw [xs_stp hn (t := D) (fun _ _ => rfl) (dg f) (Nat.le_refl _), Nat.mod_eq_of_lt hvb]
        refine dbl _ (u + D) (by rw [hv, ← stp_add]) ?_
        rw [ho] at ev
        have e1 : left * D = 2 * (left / 2) * D + D := by
          have : left * D = (2 * (left / 2) + 1) * D := by rw [← ev]
          rw [this, Nat.succ_mul]
        have e2 : (left / 2) * (D + D) = 2 * (left / 2) * D := by rw [← Nat.two_mul, Nat.mul_left_comm, Nat.mul_assoc]
        omega
      · rw [Nat.testBit_zero] at ht
        have ho : left % 2 = 0 := by have := of_decide_eq_false ht; omega
        refine dbl v u hv ?_
        rw [ho, Nat.add_zero] at ev
        have e2 : (left / 2) * (D + D) = 2 * (left / 2) * D := by rw [← Nat.two_mul, Nat.mul_left_comm, Nat.mul_assoc]
        rw [e2, ← ev]
        exact hu
  have build : ∀ m k w, k + m = dg f → fr [] [] [41, 42] w0 w → ruleM w f → (∀ j, j < k → w.2 41 j = lN (stp f 1 (2 ^ j))) → ∀ n, m < n → cf_M_steppedOn_L13 P n (lN st) (lN many) (nI (dg f)) (nI k) w := by
    intro m
    induction m with
    | zero =>
      intro k w hk hfr hr hc n hn'
      obtain ⟨n, rfl⟩ : ∃ m, n = m + 1 := ⟨n - 1, by omega⟩
      show cf_M_steppedOn_B13 _ _ _ _ _ _ _
      unfold cf_M_steppedOn_B13
      have : k = dg f := by omega
      subst this
      exact ⟨fun _ => ⟨_, main many many 1 st 0 w (Nat.le_refl _) hm hfr hr hc rfl (by omega) (many + 1) (by omega)⟩, fun z => absurd ((nI_leI (by omega) (by omega)).mpr (Nat.le_refl _)) z⟩
    | succ m ih =>
      intro k w hk hfr hr hc n hn'
      obtain ⟨n, rfl⟩ : ∃ m, n = m + 1 := ⟨n - 1, by omega⟩
      show cf_M_steppedOn_B13 _ _ _ _ _ _ _
      unfold cf_M_steppedOn_B13
      refine ⟨fun z => absurd ((nI_leI (by omega) (by omega)).mp z) (by omega), fun _ => ?_⟩
      rw [show (1 : Int64) = lN 1 from rfl, lshl_lN _ (by omega), Nat.shiftLeft_eq, Nat.one_mul]
      refine mp_stepped hr hf hn h0 (small k (by omega)) ⟨vp_in_nI (by omega) (by omega), ?_⟩
      rw [nI_clamp (by omega)]
      rintro _ rfl _ rfl
      rw [nI_1]
      refine ih (k + 1) _ (by omega) (fr_wL _ hfr (by simp)) (ruleM_wL hr (by decide)) (fun j hj => ?_) n (by omega)
      rw [wL_2]
      by_cases e : j = k
      · rw [if_pos ⟨rfl, e⟩, e]; rfl
      · rw [if_neg (fun z => e z.2)]
        exact hc j (by omega)
  unfold cf_M_steppedOn
  refine ⟨vi11_14, ?_⟩
  rw [z11, hr0.2, lN_i32]
  rintro _ rfl
  exact ⟨_, build (dg f) 0 w0 (by omega) (fr_refl _ _ _ _) hr0 (fun j hj => absurd hj (by omega)) (dg f + 1) (by omega)⟩
