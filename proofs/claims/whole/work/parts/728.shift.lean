-- shift: how many steps bring a state back
def prd (g st m : Nat) : Prop := stp g m st = st
theorem prd_grp (g st : Nat) : grp (prd g st) := by
  refine ⟨rfl, fun a b h1 h2 => ?_, fun a b h1 h2 => ?_⟩
  · show stp g (a + b) st = st
    rw [stp_add, h1]
    exact h2
  · have h3 : stp g (a + b) st = st := h1
    rw [Nat.add_comm, stp_add, h2] at h3
    exact h3
theorem prd_ord {g st e : Nat} (hg : g < 2 ^ 32) (h0 : g ≠ 0) (hn : 1 ≤ dg g) (h : st < 2 ^ dg g) (he : ords g e) : prd g st e := by
  have hd := (dg_lt h0).mpr hg
  apply Nat.eq_of_testBit_eq
  intro i
  by_cases hi : i < dg g
  · have h1 := stp_bit (t := e) hg hn h hi (by omega)
    have h2 := stp_bit (t := 0) hg hn h hi (by omega)
    have e2 : pmod (ppow 2 (e + i)) g = pmod (ppow 2 (0 + i)) g := by
      rw [← cg_iff h0, Nat.zero_add, ppow_add]
      have := cg_cm he (cg_refl g (ppow 2 i))
      rw [one_cm] at this
      exact this
    rw [e2, ← h2] at h1
    show (stp g e st).testBit i = st.testBit i
    have h3 : ((stp g e st).testBit i).toNat = (st.testBit i).toNat := h1
    cases a : (stp g e st).testBit i <;> cases b : st.testBit i <;> rw [a, b] at h3 <;> first | rfl | (exact absurd h3 (by decide))
  · have h1 := stp_lt hn e st h
    rw [Nat.testBit_lt_two_pow (Nat.lt_of_lt_of_le h1 (Nat.pow_le_pow_right (by omega) (by omega))), Nat.testBit_lt_two_pow (Nat.lt_of_lt_of_le h (Nat.pow_le_pow_right (by omega) (by omega)))]
theorem sp_period {g st e0 : Nat} {w0 : Wd} {P : Int64 → Wd → Prop} (hg : g < 2 ^ 32) (h0 : g ≠ 0) (hn : 1 ≤ dg g) (hst : st < 2 ^ dg g) (he1 : 1 ≤ e0) (he2 : e0 < 2 ^ 32) (he : prd g st e0) (h : ∀ w' e, fr [(18, 1)] [] [19] w0 w' → isGen (prd g st) e → P (lN e) w') : cf_Orders_period 18 (lN g) (lN st) (lN e0) w0 P := by
  have hd := (dg_lt h0).mpr hg
  have hpw : 2 ^ dg g ≤ 2 ^ 31 := Nat.pow_le_pow_right (by omega) (by omega)
  have hS := prd_grp g st
  unfold cf_Orders_period
  refine sp_findPrimes he1 he2 (fun w ps k1 k2 k3 k4 => ?_)
  have key : ∀ m i e, ps.length ≤ i + m → i ≤ ps.length → redu (prd g st) e0 e (ps.take i) → ∀ n, m < n → cf_Orders_period_L13 18 P n (lN g) (lN st) (lN e) (nI i) w := by
    intro m
    have stop : ∀ i e, i = ps.length → redu (prd g st) e0 e (ps.take i) → ∀ n, 0 < n → cf_Orders_period_L13 18 P n (lN g) (lN st) (lN e) (nI i) w := by
      intro i e hi hr n hn
      obtain ⟨n, rfl⟩ : ∃ m, n = m + 1 := ⟨n - 1, by omega⟩
      show cf_Orders_period_B13 _ _ _ _ _ _ _ _
      unfold cf_Orders_period_B13
      rw [k3.1, nI_leI (by omega) (by omega)]
      refine ⟨fun _ => ?_, fun z => absurd (by omega) z⟩
      rw [hi, take_len] at hr
      exact h w e k1 (redu_end hS k2 hr)
    induction m with
    | zero => intro i e hi hil hr n hn; exact stop i e (by omega) hr n (by omega)
    | succ m ih =>
      intro i e hi hil hr n hn'
      by_cases hie : i = ps.length
      · exact stop i e hie hr n (by omega)
      obtain ⟨n, rfl⟩ : ∃ m, n = m + 1 := ⟨n - 1, by omega⟩
      show cf_Orders_period_B13 _ _ _ _ _ _ _ _
      unfold cf_Orders_period_B13
      have hil2 : i < ps.length := by omega
      rw [k3.1, nI_leI (by omega) (by omega)]
      refine ⟨fun z => absurd z (by omega), fun _ => ⟨fun z => ?_, fun _ => ⟨vp_in_nI (by omega) (by omega), ?_⟩⟩⟩
      · have := (nI_leI (show 16 < 2 ^ 31 by decide) (show i < 2 ^ 31 by omega)).mp z
        omega
      rw [nI_clamp (by omega), k3.2 i hil2]
      rintro _ rfl
      have hq := (k2.1 _).mp (getD_mem hil2)
      have hql := Nat.le_of_dvd (by omega) hq.2
      have hts := take_snoc hil2
      generalize ps.getD i 0 = q at hq hql hts
      have hq2 := hq.1.1
      have inner : ∀ m2 k e, 64 ≤ k + m2 → redu (prd g st) e0 e (ps.take i) → e * 2 ^ k ≤ 2 ^ 32 → ∀ n2, m2 < n2 → cf_Orders_period_L44 18 (cf_Orders_period_L13 18 P n) P n2 (lN g) (lN st) (lN e) (nI i) (lN q) (nI k) w := by
        intro m2
        have kb : ∀ k e, 1 ≤ e → e * 2 ^ k ≤ 2 ^ 32 → k ≤ 32 := by
          intro k e he1 hek
          refine Classical.byContradiction (fun hc => ?_)
          have h3 : 1 * 2 ^ k ≤ e * 2 ^ k := Nat.mul_le_mul_right _ he1
          have h4 : 2 ^ 33 ≤ 2 ^ k := Nat.pow_le_pow_right (by omega) (by omega)
          omega
        induction m2 with
        | zero =>
          intro k e hk hr hek n2 _
          have := kb k e hr.1 hek
          omega
        | succ m2 ih2 =>
          intro k e hk hr hek n2 hn2
          obtain ⟨n2, rfl⟩ : ∃ m, n2 = m + 1 := ⟨n2 - 1, by omega⟩
          show cf_Orders_period_B44 18 _ _ P _ _ _ _ _ _ _
          unfold cf_Orders_period_B44
          have hkb := kb k e hr.1 hek
          have he1' := hr.1
          have hel : e ≤ e0 := Nat.le_of_dvd (by omega) hr.2.1
          have on : ¬ (q ∣ e ∧ prd g st (e / q)) → ∀ v, v = nI i + (1 : Int32) → cf_Orders_period_L13 18 P n (lN g) (lN st) (lN e) v w := by
            rintro hno _ rfl
            rw [nI_1]
            refine ih (i + 1) e (by omega) (by omega) ?_ n (by omega)
            rw [hts]
            exact redu_next hr hno
          have hq0 : ¬ lN q = (0 : Int64) := lN_ne (b := 0) (by omega) (by decide) (by omega)
          refine ⟨fun z => ?_, fun _ => ⟨fun z => ?_, fun _ => ⟨hq0, ?_⟩⟩⟩
          · have := (nI_leI (show 64 < 2 ^ 31 by decide) (show k < 2 ^ 31 by omega)).mp z
            omega
          · have := (lN_leI (a := q) (b := 1) (by omega) (by decide)).mp z
            omega
          rw [lrem0 (by omega) (by omega) (by omega)]
          refine ⟨fun r => on (fun z => r z.1), fun r => ⟨hq0, ?_⟩⟩
          rw [ldiv_lN (by omega) (by omega) (by omega)]
          have hdl := Nat.div_le_self e q
          refine sp_behind hg hn h0 hst (by omega) ?_
          have hb := stp_lt hn (e / q) st hst
          rw [lN_eqI (by omega) (by omega)]
          refine ⟨fun s => ⟨hq0, ?_⟩, fun s => on (fun z => s z.2)⟩
          rintro _ rfl _ rfl
          rw [nI_1]
          refine ih2 (k + 1) (e / q) (by omega) (redu_step hS hr r s (by omega)) ?_ n2 (by omega)
          have h5 : e / q * 2 ≤ e := Nat.le_trans (Nat.mul_le_mul_left _ hq2) (Nat.div_mul_le_self e q)
          rw [Nat.pow_succ, Nat.mul_comm (2 ^ k) 2, ← Nat.mul_assoc]
          exact Nat.le_trans (Nat.mul_le_mul_right _ h5) hek
      have hel : e ≤ e0 := Nat.le_of_dvd (by omega) hr.2.1
      exact ⟨65, inner 64 0 e (by omega) hr (by omega) 65 (by omega)⟩
  exact ⟨ps.length + 1, key ps.length 0 e0 (by omega) (by omega) ⟨he1, Nat.dvd_refl _, he, fun q hq => absurd hq (by simp)⟩ _ (by omega)⟩
theorem core_fr4 {w w' : Wd} {now : Nat → Int64} {u : Nat} {past : Nat → Nat → Int64} {kb : Nat → Bool} {shelf : Nat → Nat → Int64} (hc : core w now u past kb shelf) (h : fr [] [] [41, 42] w w') : core w' now u past kb shelf :=
  core_kp hc (kp_fr h (fun x hx => absurd hx (by simp)) (fun k hk => absurd hk (by simp)) (by decide)) (cache_kc (kc_fr h (by decide) (by decide) (by decide)) (core_cache hc))
theorem mp_period {w0 : Wd} {now : Nat → Int64} {u : Nat} {past : Nat → Nat → Int64} {kb : Nat → Bool} {shelf : Nat → Nat → Int64} (hc : core w0 now u past kb shelf) {g st : Nat} (e10 : now 10 = lN g) (e11 : now 11 = lN st) (hg : g < 2 ^ 32) (h1 : g % 2 = 1 ∧ 1 ≤ dg g ∧ st < 2 ^ dg g) {P : Int64 → Wd → Prop} (h : ∀ w' e, core w' now u past kb shelf → isGen (prd g st) e → P (lN e) w') : cf_M_period w0 P := by
  have h0 : g ≠ 0 := by omega
  obtain ⟨ho, hn, hst⟩ := h1
  have hd := (dg_lt h0).mpr hg
  have hpw : 2 ^ dg g ≤ 2 ^ 31 := Nat.pow_le_pow_right (by omega) (by omega)
  have hg2 : 2 ≤ g := by
    have := (le_dg h0).mp hn
    omega
  have hS := prd_grp g st
  have v10 : (10 : Int32).toNatClampNeg = 10 := by decide
  have v12 : (12 : Int32).toNatClampNeg = 12 := by decide
  have cellr : ∀ w, core w now u past kb shelf → ruleM w g ∧ w.2 31 12 = lN st := fun w hcw => ⟨im_rule hcw.2.1 e10 hg, (hcw.2.1.1 12 (by omega)).trans e11⟩
  obtain ⟨bs, hB⟩ := okB_exists h0
  obtain ⟨hgen, hgb⟩ := ord_gen hg ho hB
  unfold cf_M_period
  refine ⟨vi10_14, ?_⟩
  rw [v10, (cellr w0 hc).1.1]
  refine mp_orderOf hc hg ho hg2 hB (fun w1 k1 k2 => ?_)
  refine mp_laysPrimes hgen.1 (by omega) (fun w2 ps j1 j2 j3 j4 => ?_)
  have hkp : kp w1 w2 := kp_fr j1 (by decide) (fun k hk => absurd hk (by simp)) (by decide)
  have hc2 := core_kp k2 hkp (cache_kc (kc_fr j1 (by decide) (by decide) (by decide)) (core_cache k2))
  have key : ∀ m i e w, ps.length ≤ i + m → i ≤ ps.length → core w now u past kb shelf → pst 30 9 36 w ps → redu (prd g st) (gn g) e (ps.take i) → ∀ n, m < n → cf_M_period_L19 P n (lN e) (nI i) w := by
    intro m
    have stop : ∀ e w, core w now u past kb shelf → pst 30 9 36 w ps → redu (prd g st) (gn g) e (ps.take ps.length) → ∀ n, 0 < n → cf_M_period_L19 P n (lN e) (nI ps.length) w := by
      intro e w hcw hp hr n hn
      obtain ⟨n, rfl⟩ : ∃ m, n = m + 1 := ⟨n - 1, by omega⟩
      show cf_M_period_B19 _ _ _ _ _
      unfold cf_M_period_B19
      rw [hp.1, nI_leI (by omega) (by omega)]
      rw [take_len] at hr
      exact ⟨fun _ => h w e hcw (redu_end hS j2 hr), fun z => absurd (Nat.le_refl _) z⟩
    induction m with
    | zero =>
      intro i e w hi hil hcw hp hr n hn
      have : i = ps.length := by omega
      subst this
      exact stop e w hcw hp hr n (by omega)
    | succ m ih =>
      intro i e w hi hil hcw hp hr n hn'
      by_cases hie : i = ps.length
      · subst hie; exact stop e w hcw hp hr n (by omega)
      obtain ⟨n, rfl⟩ : ∃ m, n = m + 1 := ⟨n - 1, by omega⟩
      show cf_M_period_B19 _ _ _ _ _
      unfold cf_M_period_B19
      have hil2 : i < ps.length := by omega
      rw [hp.1, nI_leI (by omega) (by omega)]
      refine ⟨fun z => absurd z (by omega), fun _ => ?_⟩
      have hq := (j2.1 _).mp (getD_mem hil2)
      have hql := Nat.le_of_dvd hgen.1 hq.2
      have hts := take_snoc hil2
      have hgd : ∀ w', pst 30 9 36 w' ps → w'.2 36 i = lN (ps.getD i 0) := fun w' hp' => hp'.2 i hil2
      generalize ps.getD i 0 = q at hq hql hts hgd
      have hq2 := hq.1.1
      have hq0 : ¬ lN q = (0 : Int64) := lN_ne (b := 0) (by omega) (by decide) (by omega)
      have inner : ∀ m2 e w, e ≤ m2 → core w now u past kb shelf → pst 30 9 36 w ps → redu (prd g st) (gn g) e (ps.take i) → ∀ n2, m2 < n2 → cf_M_period_L27 (cf_M_period_L19 P n) P n2 (lN e) (nI i) w := by
        intro m2
        induction m2 with
        | zero => intro e w hk _ _ hr n2 _; have := hr.1; omega
        | succ m2 ih2 =>
          intro e w hk hcw hp hr n2 hn2
          obtain ⟨n2, rfl⟩ : ∃ m, n2 = m + 1 := ⟨n2 - 1, by omega⟩
          show cf_M_period_B27 _ _ P _ _ _
          unfold cf_M_period_B27
          have he1 := hr.1
          have hel : e ≤ gn g := Nat.le_of_dvd hgen.1 hr.2.1
          have on : ∀ w', core w' now u past kb shelf → pst 30 9 36 w' ps → ¬ (q ∣ e ∧ prd g st (e / q)) → ∀ v, v = nI i + (1 : Int32) → cf_M_period_L19 P n (lN e) v w' := by
            rintro w' hcw' hp' hno _ rfl
            rw [nI_1]
            refine ih (i + 1) e w' (by omega) (by omega) hcw' hp' ?_ n (by omega)
            rw [hts]
            exact redu_next hr hno
          rw [nI_clamp (by omega), hgd w hp]
          refine ⟨vp_in_nI (by omega) (by omega), hq0, ?_⟩
          rw [lrem0 (by omega) (by omega) (by omega)]
          refine ⟨fun r => on w hcw hp (fun z => r z.1), fun r => ⟨vi12_14, vp_in_nI (by omega) (by omega), hq0, ?_⟩⟩
          obtain ⟨hrw, hsw⟩ := cellr w hcw
          have hdl := Nat.div_le_self e q
          rw [v12, hsw, ldiv_lN (by omega) (by omega) (by omega)]
          refine mp_steppedOn hrw hg hn h0 hst (by omega) (fun w3 f3 => ⟨vi12_14, ?_⟩)
          have hc3 := core_fr4 hcw f3
          have hp3 : pst 30 9 36 w3 ps := ⟨(f3.1 30 9 (by decide) (by decide)).trans hp.1, fun j hj => by rw [f3.2 36 (by decide)]; exact hp.2 j hj⟩
          have hb := stp_lt hn (e / q) st hst
          rw [(cellr w3 hc3).2, lN_eqI (by omega) (by omega), hgd w3 hp3]
          refine ⟨fun s => on w3 hc3 hp3 (fun z => s z.2), fun s => ⟨vp_in_nI (by omega) (by omega), hq0, ?_⟩⟩
          rw [ldiv_lN (by omega) (by omega) (by omega)]
          rintro _ rfl
          refine ih2 (e / q) w3 ?_ hc3 hp3 (redu_step hS hr r s (by omega)) n2 (by omega)
          have h5 : e / q * 2 ≤ e := Nat.le_trans (Nat.mul_le_mul_left _ hq2) (Nat.div_mul_le_self e q)
          omega
      exact ⟨e + 1, inner e e w (Nat.le_refl _) hcw hp hr (e + 1) (by omega)⟩
  exact ⟨ps.length + 1, key ps.length 0 (gn g) w2 (by omega) (by omega) hc2 j3 ⟨hgen.1, Nat.dvd_refl _, prd_ord hg h0 hn hst hgen.2.1, fun q hq => absurd hq (by simp)⟩ _ (by omega)⟩
theorem op_shift {w : Wd} (hI : Inv w) (a0 : Int32) : same1 (cf_T_shift a0 w) (cf_M_shift a0) := by
  intro G h
  obtain ⟨now, u, past, kb, shelf, hc⟩ := hI
  have hI := core_Inv hc
  obtain ⟨g, st, hg, hst, e10, e11, hreg, ⟨c10, c11, c12⟩, hrm, m12, m13⟩ := core_reg hc
  unfold cf_T_shift
  rw [lt_k 0 (n := 0) (by decide), le_k 3 (n := 3) (by decide)]
  have no : ¬ (0 ≤ a0.toInt ∧ a0.toInt ≤ 3) → G (-1) w := fun hn => both_stay hI h (fun F hF => by
    unfold cf_M_shift
    exact mp_inI (lo := 0) (hi := 3) (by decide) (by decide) (fun q => absurd q hn) (fun _ => ⟨fun z => absurd rfl z, fun _ => hF⟩))
  refine ⟨fun z => no (by omega), fun c1 => ⟨fun c2 => ?_, fun z => no (by omega)⟩⟩
  have v10 : (10 : Int32).toNatClampNeg = 10 := by decide
  have v11 : (11 : Int32).toNatClampNeg = 11 := by decide
  have v12 : (12 : Int32).toNatClampNeg = 12 := by decide
  have v13 : (13 : Int32).toNatClampNeg = 13 := by decide
  refine sp_hasReg hg c10 (fun hg0 => ⟨fun _ => ?_, fun z => absurd z one_ne'⟩) (fun hg0 => ⟨fun z => absurd rfl z, fun _ => both_stay hI h (fun F hF => ?_)⟩)
  · have hr := hreg hg0
    have hd := (dg_lt hg0).mpr hg
    have pre : ∀ (F : Int64 → Wd → Prop) (w1 : Wd), core w1 now u past kb shelf → ((¬ a0 = 0 → ((¬ a0 = (1 : Int32) → ((¬ a0 = (2 : Int32) → F (now 12) w1) ∧ (a0 = (2 : Int32) → cf_M_period w1 (fun r3 w4 => F r3 w4)))) ∧ (a0 = (1 : Int32) → F (lN st) w1))) ∧ (a0 = 0 → F (lN (dg g)) w1)) → cf_M_shift a0 w1 F := by
      intro F w1 hc1 hF
      obtain ⟨g', st', -, -, e10', e11', -, -, hrm', m12', m13'⟩ := core_reg hc1
      unfold cf_M_shift
      refine mp_inI (lo := 0) (hi := 3) (by decide) (by decide) (fun _ => ⟨fun _ => ?_, fun z => absurd z one_ne'⟩) (fun q => absurd ⟨by omega, c2⟩ q)
      have r1 : ruleM w1 g := im_rule hc1.2.1 e10 hg
      refine mp_isReg hg r1 (fun _ => hr.2.1) (fun _ => ⟨fun _ => ?_, fun z => absurd z one_ne'⟩) (fun z => absurd z hg0)
      rw [v11, v12, v13, r1.2, m13', m12', ← e11', e11]
      exact ⟨fun z => ⟨fun z1 => ⟨fun z2 => ⟨vi13_14, ((hF.1 z).1 z1).1 z2⟩, fun z2 => ((hF.1 z).1 z1).2 z2⟩, fun z1 => ⟨vi12_14, (hF.1 z).2 z1⟩⟩, fun z => ⟨vi11_14, hF.2 z⟩⟩
    refine ⟨fun z => ?_, fun z => ?_, fun z => ?_, fun z => ?_⟩
    · subst z
      unfold cf_Store_rule
      refine ⟨vi10_13, ?_⟩
      rw [v10, c10]
      refine sp_degree (by omega) ?_
      rw [dI_pos hg0, nI_l (by omega)]
      exact h _ _ (fun F hF => pre F w hc ⟨fun y => absurd rfl y, fun _ => hF w hI⟩)
    · subst z
      unfold cf_Store_state
      refine ⟨vi11_13, ?_⟩
      rw [v11, c11]
      exact h _ _ (fun F hF => pre F w hc ⟨fun y => ⟨fun y1 => absurd rfl y1, fun _ => hF w hI⟩, fun y => absurd y (by decide)⟩)
    · subst z
      unfold cf_Store_rule cf_Store_state
      refine ⟨vi10_13, vi11_13, vi10_13, ?_⟩
      rw [v10, v11, c10, c11]
      refine sp_orderOf hc hg hr.1 (fun w1 k1 k2 k3 => ?_)
      refine sp_period hg hg0 hr.2.1 hr.2.2 k2.1 (by omega) (prd_ord hg hg0 hr.2.1 hr.2.2 k2.2.1) (fun w2 e j1 j2 => h _ _ (fun F hF => pre F w2 (core_cls k1 (Or.inl rfl) j1) ⟨fun y => ⟨fun y1 => ⟨fun y2 => absurd rfl y2, fun _ => ?_⟩, fun y1 => absurd y1 (by decide)⟩, fun y => absurd y (by decide)⟩))
      refine mp_period (core_cls k1 (Or.inl rfl) j1) e10 e11 hg hr (fun w3 e' q1 q2 => ?_)
      rw [isGen_unique q2 j2]
      exact hF w3 (core_Inv q1)
    · unfold cf_Store_gone
      refine ⟨vi12_13, ?_⟩
      rw [v12, c12]
      have n0 : ¬ a0 = 0 := fun y => by rw [y] at z; exact absurd z (by decide)
      have n1 : ¬ a0 = 1 := fun y => by rw [y] at z; exact absurd z (by decide)
      have n2 : ¬ a0 = 2 := fun y => by rw [y] at z; exact absurd z (by decide)
      exact h _ _ (fun F hF => pre F w hc ⟨fun _ => ⟨fun _ => ⟨fun _ => hF w hI, fun y => absurd y n2⟩, fun y => absurd y n1⟩, fun y => absurd y n0⟩)
  · unfold cf_M_shift
    exact mp_inI (lo := 0) (hi := 3) (by decide) (by decide) (fun _ => ⟨fun _ => mp_isReg hg hrm (fun z => absurd hg0 z) (fun z => absurd hg0 z) (fun _ => ⟨fun z => absurd rfl z, fun _ => hF⟩), fun z => absurd z one_ne'⟩) (fun q => absurd ⟨by omega, c2⟩ q)
