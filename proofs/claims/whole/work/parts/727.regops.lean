-- step, jump, shift
theorem lN_clampN {g : Nat} (h : g < 2 ^ 63) : (lN g).toNatClampNeg = g := by
  show (lN g).toInt.toNat = g
  rw [lN_toInt' h]
  rfl
theorem core_reg {w : Wd} {now : Nat → Int64} {u : Nat} {past : Nat → Nat → Int64} {kb : Nat → Bool} {shelf : Nat → Nat → Int64} (hc : core w now u past kb shelf) :
    ∃ g st, g < 2 ^ 32 ∧ st < 2 ^ 31 ∧ now 10 = lN g ∧ now 11 = lN st ∧ (g ≠ 0 → g % 2 = 1 ∧ 1 ≤ dg g ∧ st < 2 ^ dg g) ∧ (w.2 7 10 = lN g ∧ w.2 7 11 = lN st ∧ w.2 7 12 = now 12) ∧ ruleM w g ∧ w.2 31 12 = lN st ∧ w.2 31 13 = now 12 := by
  obtain ⟨hi, hm, ⟨h1, g, st, hg, e1, hst, e2, h3⟩, -⟩ := hc
  refine ⟨g, st, hg, hst, e1, e2, h3, ⟨(hi.1 10 (by omega)).trans e1, (hi.1 11 (by omega)).trans e2, hi.1 12 (by omega)⟩, ⟨(hm.1 10 (by omega)).trans ?_, (hm.1 11 (by omega)).trans ?_⟩, (hm.1 12 (by omega)).trans ?_, (hm.1 13 (by omega)).trans ?_⟩
  · exact e1
  · show lN (dg (now 10).toNatClampNeg) = _
    rw [e1, lN_clampN (by omega)]
  · exact e2
  · rfl
theorem sp_hasReg {w : Wd} {g : Nat} {P : Int32 → Prop} (hg : g < 2 ^ 32) (e : w.2 7 10 = lN g) (h1 : g ≠ 0 → P 1) (h0 : g = 0 → P 0) : cf_Store_hasRegister w P := by
  unfold cf_Store_hasRegister
  refine ⟨vi10_13, ?_⟩
  show (w.2 7 10 = _ → _) ∧ (¬ w.2 7 10 = _ → _)
  rw [e, lN_eq0 (by omega)]
  exact ⟨h0, h1⟩
theorem mp_isReg {w : Wd} {g : Nat} {P : Int32 → Prop} (hg : g < 2 ^ 32) (hr : ruleM w g) (ho : g ≠ 0 → 1 ≤ dg g) (h1 : g ≠ 0 → P 1) (h0 : g = 0 → P 0) : cf_M_isRegister w P := by
  unfold cf_M_isRegister
  refine ⟨vi11_14, ?_⟩
  have z11 : (11 : Int32).toNatClampNeg = 11 := by decide
  rw [z11, hr.2]
  by_cases z : g = 0
  · subst z
    exact ⟨fun _ => h0 rfl, fun y => absurd (show lN (dg 0) ≤ (0 : Int64) by decide) y⟩
  · have hd := (dg_lt z).mpr hg
    have := ho z
    exact ⟨fun y => absurd ((lN_leI (a := dg g) (b := 0) (by omega) (by decide)).mp y) (by omega), fun _ => h1 z⟩
theorem im_set11 {w : Wd} {now : Nat → Int64} {u : Nat} {past : Nat → Nat → Int64} {kb : Nat → Bool} {shelf : Nat → Nat → Int64} (hi : im w now u past kb shelf) (x : Int64) : im (wL w 31 12 x) (setR now 11 x) u past kb shelf := by
  obtain ⟨h1, h2, h3, h4, h5, h6⟩ := hi
  refine ⟨fun i hi => ?_, h2, h3, fun j hj i hi => ?_, h5, fun k hk hkb i hi => ?_⟩
  · have h := h1 i hi
    rw [wL_2]
    unfold mrow setR at *
    by_cases e : i = 12
    · subst e
      rw [if_pos ⟨rfl, rfl⟩]
      rfl
    · rw [if_neg (fun z => e z.2), h]
      by_cases c : i ≤ 10
      · rw [if_pos c, if_pos c, if_neg (by omega)]
      · by_cases c2 : i = 11
        · subst c2; rfl
        · rw [if_neg c, if_neg c, if_neg c2, if_neg c2, if_neg (by omega)]
  · rw [wL_2, if_neg (fun z => absurd z.1 (by decide))]
    exact h4 j hj i hi
  · rw [wL_2, if_neg (fun z => absurd z.1 (by decide))]
    exact h6 k hk hkb i hi
theorem im_set12 {w : Wd} {now : Nat → Int64} {u : Nat} {past : Nat → Nat → Int64} {kb : Nat → Bool} {shelf : Nat → Nat → Int64} (hi : im w now u past kb shelf) (x : Int64) : im (wL w 31 13 x) (setR now 12 x) u past kb shelf := by
  obtain ⟨h1, h2, h3, h4, h5, h6⟩ := hi
  refine ⟨fun i hi => ?_, h2, h3, fun j hj i hi => ?_, h5, fun k hk hkb i hi => ?_⟩
  · have h := h1 i hi
    rw [wL_2]
    unfold mrow setR at *
    by_cases e : i = 13
    · subst e
      rw [if_pos ⟨rfl, rfl⟩]
      rfl
    · rw [if_neg (fun z => e z.2), h]
      by_cases c : i ≤ 10
      · rw [if_pos c, if_pos c, if_neg (by omega)]
      · by_cases c2 : i = 11
        · subst c2; rfl
        · rw [if_neg c, if_neg c, if_neg c2, if_neg c2, if_neg (by omega)]
  · rw [wL_2, if_neg (fun z => absurd z.1 (by decide))]
    exact h4 j hj i hi
  · rw [wL_2, if_neg (fun z => absurd z.1 (by decide))]
    exact h6 k hk hkb i hi
/-- the row with another state, and what is gone -/
def regRow (now : Nat → Int64) (s : Nat) (x : Int64) : Nat → Int64 := setR (setR now 11 (lN s)) 12 x
theorem okRow_reg {now : Nat → Int64} {g s : Nat} {x : Int64} (h : okRow now) (e : now 10 = lN g) (hg : g < 2 ^ 32) (h1 : g % 2 = 1 ∧ 1 ≤ dg g) (hs : s < 2 ^ dg g) : okRow (regRow now s x) := by
  have h0 : g ≠ 0 := by omega
  have hd := (dg_lt h0).mpr hg
  have hpw : 2 ^ dg g ≤ 2 ^ 31 := Nat.pow_le_pow_right (by omega) (by omega)
  refine ⟨fun i hi => ?_, g, s, hg, ?_, by omega, ?_, fun _ => ⟨h1.1, h1.2, hs⟩⟩
  · obtain ⟨n, hn, e2⟩ := h.1 i hi
    refine ⟨n, hn, ?_⟩
    unfold regRow setR
    rw [if_neg (by omega), if_neg (by omega)]
    exact e2
  · unfold regRow setR
    rw [if_neg (by omega), if_neg (by omega)]
    exact e
  · unfold regRow setR
    rw [if_neg (by omega), if_pos rfl]
theorem rest_fr2 {w w' : Wd} (hr : restOk w) (h : fr [(6, 3), (6, 4), (30, 2)] [] [7, 8, 31, 32, 41, 42] w w') : restOk w' := by
  obtain ⟨⟨t, ht, t1, t2, t3⟩, ⟨f1, f2, f3⟩, hc⟩ := hr
  refine ⟨⟨t, ht, (h.1 2 1 (by decide) (by decide)).trans t1, (h.1 30 21 (by decide) (by decide)).trans t2, fun i hi => ?_⟩, ⟨?_, ?_, ?_⟩, ?_⟩
  · rw [h.1 3 i (by simp) (by decide), h.1 43 i (by simp) (by decide)]; exact t3 i hi
  · rw [h.1 1 5 (by decide) (by decide), h.1 30 23 (by decide) (by decide)]; exact f1
  · rw [h.1 1 6 (by decide) (by decide), h.1 30 24 (by decide) (by decide)]; exact f2
  · rw [h.1 1 7 (by decide) (by decide), h.1 30 25 (by decide) (by decide)]; exact f3
  · unfold cacheOk
    rw [h.2 30 (by decide), h.2 35 (by decide), h.1 30 6 (by decide) (by decide)]
    exact hc
/-- the class tells its state anew, the model too -/
theorem sp_regSet {w : Wd} {now : Nat → Int64} {u : Nat} {past : Nat → Nat → Int64} {kb : Nat → Bool} {shelf : Nat → Nat → Int64} (hc : core w now u past kb shelf) {s n : Nat} {P : Wd → Prop} (h : ∀ w1, ic w1 (regRow now s (now 12 + (nI n).toInt64)) (up u) (push now past) kb shelf → im w1 now u past kb shelf → fr [(6, 3), (6, 4)] [] [7, 8] w w1 → P w1) : cf_Store_remember w (fun w3 => cf_Store_stepRegister (lN s) (nI n) w3 (fun w4 => P w4)) := by
  refine sp_remember hc.1 (fun w1 g1 fr1 => ?_)
  unfold cf_Store_stepRegister
  refine ⟨vi11_13, ?_⟩
  rintro _ rfl
  refine ⟨vi12_13, vi12_13, ?_⟩
  rintro _ rfl
  have z11 : (11 : Int32).toNatClampNeg = 11 := by decide
  have z12 : (12 : Int32).toNatClampNeg = 12 := by decide
  rw [z11, z12]
  have e12 : (wL w1 7 11 (lN s)).2 7 12 = now 12 := by
    rw [wL_2, if_neg (by decide)]
    exact g1.1 12 (by omega)
  rw [e12]
  have fr2 : fr [(6, 3), (6, 4)] [] [7, 8] w (wL (wL w1 7 11 (lN s)) 7 12 (now 12 + (nI n).toInt64)) := fr_wL _ (fr_wL _ (fr_mono fr1 (fun _ z => z) (fun _ z => z) (by decide)) (by decide)) (by decide)
  exact h _ (ic_set (ic_set g1 11 (lN s)) 12 _) (im_fr hc.2.1 fr2 (by decide) (by decide) (by decide)) fr2
theorem reg_end {w w1 w2 : Wd} {now : Nat → Int64} {u : Nat} {past : Nat → Nat → Int64} {kb : Nat → Bool} {shelf : Nat → Nat → Int64} (hc : core w now u past kb shelf) {row : Nat → Int64} (h1 : ic w1 row (up u) (push now past) kb shelf) (f1 : fr [(6, 3), (6, 4)] [] [7, 8] w w1) (h2 : im w2 row (up u) (push now past) kb shelf) (f2 : fr [(30, 2)] [] [31, 32, 41, 42] w1 w2) (ho : okRow row) : Inv w2 := by
  have a1 : fr [(6, 3), (6, 4), (30, 2)] [] [7, 8, 31, 32, 41, 42] w w1 := fr_mono f1 (by decide) (by decide) (by decide)
  have a2 : fr [(6, 3), (6, 4), (30, 2)] [] [7, 8, 31, 32, 41, 42] w1 w2 := fr_mono f2 (by decide) (by decide) (by decide)
  exact ⟨row, up u, push now past, kb, shelf, ic_fr h1 f2 (by decide) (by decide) (by decide), h2, ho, okRow_push hc.2.2.1 hc.2.2.2.1, hc.2.2.2.2.1, rest_fr2 hc.2.2.2.2.2 (fr_trans a1 a2)⟩
/-- what comes out -/
def outs (f st : Nat) : Nat → Int64
  | 0 => 0
  | j + 1 => outs f st j ||| lshl (lN (stp f j st) &&& 1) (nI j)
theorem im_rule {w : Wd} {now : Nat → Int64} {u : Nat} {past : Nat → Nat → Int64} {kb : Nat → Bool} {shelf : Nat → Nat → Int64} {g : Nat} (h : im w now u past kb shelf) (e : now 10 = lN g) (hg : g < 2 ^ 32) : ruleM w g := by
  refine ⟨(h.1 10 (by omega)).trans e, (h.1 11 (by omega)).trans ?_⟩
  show lN (dg (now 10).toNatClampNeg) = _
  rw [e, lN_clampN (by omega)]
theorem op_step {w : Wd} (hI : Inv w) (a0 : Int32) : same1 (cf_T_step a0 w) (cf_M_step a0) := by
  intro G h
  obtain ⟨now, u, past, kb, shelf, hc⟩ := hI
  have hI := core_Inv hc
  obtain ⟨g, st, hg, hst, e10, e11, hreg, ⟨c10, c11, c12⟩, hrm, m12, m13⟩ := core_reg hc
  unfold cf_T_step
  rw [lt_k 1 (n := 1) (by decide), le_k 60 (n := 60) (by decide)]
  have no : ¬ (1 ≤ a0.toInt ∧ a0.toInt ≤ 60) → G (-1) w := fun hn => both_stay hI h (fun F hF => by
    unfold cf_M_step
    exact mp_inI (lo := 1) (hi := 60) (by decide) (by decide) (fun q => absurd q hn) (fun _ => ⟨fun z => absurd rfl z, fun _ => hF⟩))
  refine ⟨fun z => no (by omega), fun c1 => ⟨fun c2 => ?_, fun z => no (by omega)⟩⟩
  obtain ⟨n, hn, rfl, en⟩ := nat_of (a := a0) (by omega)
  refine sp_hasReg hg c10 (fun hg0 => ⟨fun _ => ?_, fun z => absurd z one_ne'⟩) (fun hg0 => ⟨fun z => absurd rfl z, fun _ => both_stay hI h (fun F hF => ?_)⟩)
  · obtain ⟨ho, hd1, hsl⟩ := hreg hg0
    have hd := (dg_lt hg0).mpr hg
    have hpw : 2 ^ dg g ≤ 2 ^ 31 := Nat.pow_le_pow_right (by omega) (by omega)
    unfold cf_Store_state
    refine ⟨vi11_13, ?_⟩
    show ∃ n_1, cf_T_step_L43 (fun w r => G w r) n_1 (nI n) (w.2 7 11) 0 0 w
    rw [c11]
    have key : ∀ m i, i + m = n → ∀ n', m < n' → cf_T_step_L43 G n' (nI n) (lN (stp g i st)) (outs g st i) (nI i) w := by
      intro m
      induction m with
      | zero =>
        intro i hi n' hn'
        obtain ⟨n', rfl⟩ : ∃ m, n' = m + 1 := ⟨n' - 1, by omega⟩
        show cf_T_step_B43 _ _ _ _ _ _ _
        unfold cf_T_step_B43
        have : i = n := by omega
        subst this
        refine ⟨fun _ => sp_regSet hc (fun w1 g1 i1 f1 => h _ _ (fun F hF => ?_)), fun z => absurd ((nI_leI (by omega) (by omega)).mpr (Nat.le_refl _)) z⟩
        unfold cf_M_step
        refine mp_inI (lo := 1) (hi := 60) (by decide) (by decide) (fun _ => ⟨fun _ => ?_, fun z => absurd z one_ne'⟩) (fun q => absurd ⟨by omega, c2⟩ q)
        refine mp_isReg hg (im_rule i1 e10 hg) (fun _ => hd1) (fun _ => ⟨fun _ => ?_, fun z => absurd z one_ne'⟩) (fun z => absurd z hg0)
        refine mp_keepsAct i1 (fun w2 i2 f2 => ?_)
        have mkey : ∀ m j w3, j + m = i → im w3 (setR now 11 (lN (stp g j st))) (up u) (push now past) kb shelf → fr [(30, 2)] [] [31, 32, 41, 42] w1 w3 → ∀ n', m < n' → cf_M_step_L36 F n' (nI i) (outs g st j) (nI j) w3 := by
          intro m
          have v12 : (12 : Int32).toNatClampNeg = 12 := by decide
          have v13 : (13 : Int32).toNatClampNeg = 13 := by decide
          induction m with
          | zero =>
            intro j w3 hj i3 f3 n' hn'
            obtain ⟨n', rfl⟩ : ∃ m, n' = m + 1 := ⟨n' - 1, by omega⟩
            show cf_M_step_B36 _ _ _ _ _ _
            unfold cf_M_step_B36
            have : j = i := by omega
            subst this
            refine ⟨fun _ => ⟨vi13_14, vi13_14, ?_⟩, fun z => absurd ((nI_leI (by omega) (by omega)).mpr (Nat.le_refl _)) z⟩
            rw [v13]
            have e13 : w3.2 31 13 = now 12 := (i3.1 13 (by omega)).trans rfl
            rw [e13]
            rintro _ rfl
            exact hF _ (reg_end hc g1 f1 (im_set12 i3 _) (fr_wL _ f3 (by decide)) (okRow_reg hc.2.2.1 e10 hg ⟨ho, hd1⟩ (stp_lt hd1 j st hsl)))
          | succ m ih =>
            intro j w3 hj i3 f3 n' hn'
            obtain ⟨n', rfl⟩ : ∃ m, n' = m + 1 := ⟨n' - 1, by omega⟩
            show cf_M_step_B36 _ _ _ _ _ _
            unfold cf_M_step_B36
            refine ⟨fun z => absurd ((nI_leI (by omega) (by omega)).mp z) (by omega), fun _ => ⟨vi12_14, ?_⟩⟩
            rw [v12]
            have e12 : w3.2 31 12 = lN (stp g j st) := (i3.1 12 (by omega)).trans rfl
            rw [e12]
            rintro _ rfl
            refine ⟨vi12_14, ?_⟩
            have hr3 : ruleM w3 g := im_rule i3 (by unfold setR; rw [if_neg (by omega)]; exact e10) hg
            refine mp_stepped hr3 hg hd1 hg0 (stp_lt hd1 j st hsl) ⟨vi12_14, ?_⟩
            rintro _ rfl _ rfl
            rw [nI_1, ← stp_succ]
            have i4 := im_set11 i3 (lN (stp g (j + 1) st))
            have e : setR (setR now 11 (lN (stp g j st))) 11 (lN (stp g (j + 1) st)) = setR now 11 (lN (stp g (j + 1) st)) := by
              funext k
              unfold setR
              by_cases c : k = 11
              · rw [if_pos c, if_pos c]
              · rw [if_neg c, if_neg c, if_neg c]
            rw [e] at i4
            exact ih (j + 1) _ (by omega) i4 (fr_wL _ f3 (by decide)) n' (by omega)
        have e0 : setR now 11 (lN (stp g 0 st)) = now := by
          funext k
          unfold setR
          by_cases c : k = 11
          · rw [if_pos c, c, e11]; rfl
          · rw [if_neg c]
        exact ⟨_, mkey i 0 w2 (by omega) (by rw [e0]; exact i2) (fr_mono f2 (by decide) (by decide) (by decide)) (i + 1) (by omega)⟩
      | succ m ih =>
        intro i hi n' hn'
        obtain ⟨n', rfl⟩ : ∃ m, n' = m + 1 := ⟨n' - 1, by omega⟩
        show cf_T_step_B43 _ _ _ _ _ _ _
        unfold cf_T_step_B43
        refine ⟨fun z => absurd ((nI_leI (by omega) (by omega)).mp z) (by omega), fun _ => ?_⟩
        rintro _ rfl
        unfold cf_Store_rule
        refine ⟨vi10_13, ?_⟩
        show cf_Shifts_after (w.2 7 10) _ _
        rw [c10]
        have hb := stp_lt hd1 i st hsl
        refine sp_after hg hd1 hg0 (by omega) ?_
        rintro _ rfl
        rw [nI_1, ← stp_succ]
        exact ih (i + 1) (by omega) n' (by omega)
    exact ⟨_, key n 0 (by omega) (n + 1) (by omega)⟩
  · unfold cf_M_step
    exact mp_inI (lo := 1) (hi := 60) (by decide) (by decide) (fun _ => ⟨fun _ => mp_isReg hg hrm (fun z => absurd hg0 z) (fun z => absurd hg0 z) (fun _ => ⟨fun z => absurd rfl z, fun _ => hF⟩), fun z => absurd z one_ne'⟩) (fun q => absurd ⟨by omega, c2⟩ q)
theorem op_jump {w : Wd} (hI : Inv w) (a0 : Int32) : same1 (cf_T_jump a0 w) (cf_M_jump a0) := by
  intro G h
  obtain ⟨now, u, past, kb, shelf, hc⟩ := hI
  have hI := core_Inv hc
  obtain ⟨g, st, hg, hst, e10, e11, hreg, ⟨c10, c11, c12⟩, hrm, m12, m13⟩ := core_reg hc
  unfold cf_T_jump
  rw [lt_k 1 (n := 1) (by decide), le_k 1000000000 (n := 1000000000) (by decide)]
  have no : ¬ (1 ≤ a0.toInt ∧ a0.toInt ≤ 1000000000) → G (-1) w := fun hn => both_stay hI h (fun F hF => by
    unfold cf_M_jump
    exact mp_inI (lo := 1) (hi := 1000000000) (by decide) (by decide) (fun q => absurd q hn) (fun _ => ⟨fun z => absurd rfl z, fun _ => hF⟩))
  refine ⟨fun z => no (by omega), fun c1 => ⟨fun c2 => ?_, fun z => no (by omega)⟩⟩
  obtain ⟨n, hn, rfl, en⟩ := nat_of (a := a0) (by omega)
  refine sp_hasReg hg c10 (fun hg0 => ⟨fun _ => ?_, fun z => absurd z one_ne'⟩) (fun hg0 => ⟨fun z => absurd rfl z, fun _ => both_stay hI h (fun F hF => ?_)⟩)
  · obtain ⟨ho, hd1, hsl⟩ := hreg hg0
    unfold cf_Store_rule cf_Store_state
    refine ⟨vi10_13, vi11_13, ?_⟩
    show cf_Shifts_behind (w.2 7 10) (w.2 7 11) _ _
    rw [c10, c11, nI_l (by omega)]
    refine sp_behind hg hd1 hg0 hsl (by omega) ?_
    refine sp_regSet hc (fun w1 g1 i1 f1 => h _ _ (fun F hF => ?_))
    unfold cf_M_jump
    refine mp_inI (lo := 1) (hi := 1000000000) (by decide) (by decide) (fun _ => ⟨fun _ => ?_, fun z => absurd z one_ne'⟩) (fun q => absurd ⟨by omega, c2⟩ q)
    refine mp_isReg hg (im_rule i1 e10 hg) (fun _ => hd1) (fun _ => ⟨fun _ => ?_, fun z => absurd z one_ne'⟩) (fun z => absurd z hg0)
    refine mp_keepsAct i1 (fun w2 i2 f2 => ⟨vi12_14, ?_⟩)
    have v12 : (12 : Int32).toNatClampNeg = 12 := by decide
    have v13 : (13 : Int32).toNatClampNeg = 13 := by decide
    have e12 : w2.2 31 12 = lN st := (i2.1 12 (by omega)).trans e11
    rw [v12, v13, e12, nI_l (by omega)]
    refine mp_steppedOn (im_rule i2 e10 hg) hg hd1 hg0 hsl (by omega) (fun w3 f3 => ⟨vi12_14, ?_⟩)
    rintro _ rfl
    have i3 : im w3 now (up u) (push now past) kb shelf := im_fr i2 f3 (by decide) (by decide) (by decide)
    have i4 := im_set11 i3 (lN (stp g n st))
    refine ⟨vi13_14, vi13_14, ?_⟩
    have e13 : (wL w3 31 12 (lN (stp g n st))).2 31 13 = now 12 := (i4.1 13 (by omega)).trans rfl
    rw [e13]
    rintro _ rfl
    refine ⟨vi12_14, ?_⟩
    have i5 := im_set12 i4 (now 12 + lN n)
    have e12' : (wL (wL w3 31 12 (lN (stp g n st))) 31 13 (now 12 + lN n)).2 31 12 = lN (stp g n st) := by
      rw [wL_2, if_neg (by decide), wL_2, if_pos ⟨rfl, rfl⟩]
    rw [e12']
    rw [nI_l (by omega)] at g1
    refine hF _ (reg_end hc g1 f1 i5 (fr_wL _ (fr_wL _ (fr_trans (fr_mono f2 (by decide) (by decide) (by decide)) (fr_mono f3 (by decide) (by decide) (by decide))) (by decide)) (by decide)) (okRow_reg hc.2.2.1 e10 hg ⟨ho, hd1⟩ (stp_lt hd1 n st hsl)))
  · unfold cf_M_jump
    exact mp_inI (lo := 1) (hi := 1000000000) (by decide) (by decide) (fun _ => ⟨fun _ => mp_isReg hg hrm (fun z => absurd hg0 z) (fun z => absurd hg0 z) (fun _ => ⟨fun z => absurd rfl z, fun _ => hF⟩), fun z => absurd z one_ne'⟩) (fun q => absurd ⟨by omega, c2⟩ q)
