-- the model's orders
theorem mp_common {x y g : Nat} {P : Int64 → Prop} (hx : x < 2 ^ 32) (hy : y < 2 ^ 32) (hg : Nat.gcd x y = g) (h : P (lN g)) : cf_M_commonNumber_W (lN x) (lN y) P := by
  have key : ∀ m x y, euc m x y → x < 2 ^ 32 → y < 2 ^ 32 → Nat.gcd x y = g → ∀ n, m < n → cf_M_commonNumber n (lN x) (lN y) P := by
    intro m
    have stop : ∀ x, x < 2 ^ 32 → Nat.gcd x 0 = g → ∀ n, 0 < n → cf_M_commonNumber n (lN x) (lN 0) P := by
      intro x hx hg n hn
      obtain ⟨n, rfl⟩ : ∃ m, n = m + 1 := ⟨n - 1, by omega⟩
      show cf_M_commonNumber_E _ _ _ _
      unfold cf_M_commonNumber_E
      rw [Nat.gcd_zero_right] at hg
      subst hg
      exact ⟨fun z => absurd rfl z, fun _ => h⟩
    induction m with
    | zero =>
      intro x y he hx hy hg n hn
      have : y = 0 := by
        rcases he with ⟨j, e, hj⟩ | ⟨j, e, -⟩
        · have : j = 0 := by omega
          subst this
          simpa using hj
        · omega
      subst this
      exact stop x hx hg n (by omega)
    | succ m ih =>
      intro x y he hx hy hg n hn
      by_cases h0 : y = 0
      · subst h0
        exact stop x hx hg n (by omega)
      obtain ⟨n, rfl⟩ : ∃ m, n = m + 1 := ⟨n - 1, by omega⟩
      show cf_M_commonNumber_E _ _ _ _
      unfold cf_M_commonNumber_E
      obtain ⟨m', e, he'⟩ := euc_step he h0
      have : m' = m := by omega
      subst this
      refine ⟨fun _ => ⟨lN_ne (b := 0) (by omega) (by decide) h0, ?_⟩, fun z => absurd ((lN_eq0 (a := y) (by omega)).mp z) h0⟩
      rw [lrem_lN (by omega) (by omega) (by omega)]
      have := Nat.mod_lt x (show y > 0 by omega)
      refine ih y (x % y) he' hy (by omega) ?_ n (by omega)
      rw [← hg, Nat.gcd_comm, ← Nat.gcd_rec, Nat.gcd_comm]
  exact ⟨65, by omega, key 64 x y (euc_start hy) hx hy hg 65 (by omega)⟩
def its (p : Nat) : Nat := 2 ^ dg p - 1
theorem pow_above (m : Nat) : ∃ t, m ≤ 2 ^ t ∧ (t = 0 ∨ 2 ^ (t - 1) < m) := by
  induction m with
  | zero => exact ⟨0, by omega, Or.inl rfl⟩
  | succ m ih =>
    obtain ⟨t, h1, h2⟩ := ih
    by_cases c : m + 1 ≤ 2 ^ t
    · exact ⟨t, c, h2.elim Or.inl (fun z => Or.inr (by omega))⟩
    · have hp := Nat.pow_pos (n := t) (show 0 < 2 by omega)
      exact ⟨t + 1, by rw [Nat.pow_succ]; omega, Or.inr (by rw [Nat.add_sub_cancel]; omega)⟩
theorem ord_gen {a : Nat} {bs : List (Nat × Nat)} (ha : a < 2 ^ 32) (ho : a % 2 = 1) (hB : okB a bs) : isGen (ords a) (gn a) ∧ gn a ≤ 2 ^ 31 := by
  have hgn : ∀ b, b ∈ bs → isGen (ords b.1) (gn b.1) := fun b hb => gn_irr (hB.2.2 b hb).1 (odd_base ho hB hb)
  have hgl : ∀ b, b ∈ bs → 1 ≤ gn b.1 ∧ gn b.1 ≤ 2 ^ dg b.1 := fun b hb => by
    have := gen_le (hB.2.2 b hb).1 (odd_base ho hB hb) (hgn b hb)
    omega
  obtain ⟨t, h1, h2⟩ := pow_above (mxt bs)
  have hall := fun m => ords_all2 (m := m) ho hB hgn h1 h2
  have hgen : isGen (ords a) (lcml (bs.map (fun b => gn b.1)) * 2 ^ t) := by
    refine ⟨?_, (hall _).mpr (Nat.dvd_refl _), fun m hm => (hall m).mp hm⟩
    have := lcm_take_bound (i := bs.length) ha ho hB
    rw [List.take_of_length_le (Nat.le_refl _)] at this
    exact Nat.mul_pos this.1 (Nat.pow_pos (by omega))
  have e := gn_eq hgen
  rw [e]
  exact ⟨hgen, ord_bound ha (by omega) hB hgl h2⟩
theorem its_bound {a i : Nat} {bs : List (Nat × Nat)} (ha : a < 2 ^ 32) (ho : a % 2 = 1) (hB : okB a bs) : 1 ≤ lcml ((bs.take i).map (fun b => its b.1)) ∧ lcml ((bs.take i).map (fun b => its b.1)) ≤ 2 ^ 31 := by
  have hg : ∀ b, b ∈ bs.take i → 1 ≤ its b.1 ∧ its b.1 ≤ 2 ^ dg b.1 := fun b hb => by
    have hm := List.mem_of_mem_take hb
    have := ones_odd (irr_dg (hB.2.2 b hm).1)
    unfold its
    omega
  have h1 : ∀ e, e ∈ (bs.take i).map (fun b => its b.1) → 1 ≤ e := fun e he => by
    obtain ⟨b, hb, rfl⟩ := List.mem_map.mp he
    exact (hg b hb).1
  have h2 : lcml ((bs.take i).map (fun b => its b.1)) ≤ 2 ^ dsum (bs.take i) := Nat.le_trans (lcml_le h1) (nprod_pow (fun b hb => (hg b hb).2))
  have h3 : dsum (bs.take i) ≤ 31 := by
    have h4 := (dsum_le (okB_take hB i)).1
    have h5 : dg (pprod (rep (bs.take i))) ≤ dg a := by
      have e : rep bs = rep (bs.take i) ++ rep (bs.drop i) := by rw [← rep_append, List.take_append_drop]
      have h6 : pdvd (pprod (rep (bs.take i))) a := by
        rw [← hB.1.2.2.2 (show a ≠ 0 by omega), e, pprod_append]
        exact pdvd_cm_left _ _
      exact pdvd_dg (by omega) h6
    have := (dg_lt (show a ≠ 0 by omega)).mpr ha
    omega
  refine ⟨?_, Nat.le_trans h2 (Nat.pow_le_pow_right (by omega) h3)⟩
  have := lcml_odd (l := (bs.take i).map (fun b => its b.1)) (fun e he => by
    obtain ⟨b, hb, rfl⟩ := List.mem_map.mp he
    exact ones_odd (irr_dg (hB.2.2 b (List.mem_of_mem_take hb)).1))
  omega
theorem its_start {a t : Nat} {bs : List (Nat × Nat)} (ha : a < 2 ^ 32) (ho : a % 2 = 1) (hB : okB a bs) (h1 : mxt bs ≤ 2 ^ t) (h2 : t = 0 ∨ 2 ^ (t - 1) < mxt bs) : ords a (lcml (bs.map (fun b => its b.1)) * 2 ^ t) := by
  have hgn : ∀ b, b ∈ bs → isGen (ords b.1) (gn b.1) := fun b hb => gn_irr (hB.2.2 b hb).1 (odd_base ho hB hb)
  refine (ords_all2 ho hB hgn h1 h2).mpr (Nat.mul_dvd_mul (lcml_dvd.mpr (fun e he => ?_)) (Nat.dvd_refl _))
  obtain ⟨b, hb, rfl⟩ := List.mem_map.mp he
  refine Nat.dvd_trans ((hgn b hb).2.2 _ (ords_irr (hB.2.2 b hb).1 (odd_base ho hB hb))) ?_
  exact (lcml_dvd.mp (Nat.dvd_refl _)) _ (List.mem_map.mpr ⟨b, hb, rfl⟩)
theorem lcm_absorb {e x : Nat} (h : x ∣ e) : Nat.lcm e x = e := Nat.dvd_antisymm (Nat.lcm_dvd (Nat.dvd_refl _) h) (Nat.dvd_lcm_left e x)
theorem mp_redu {S : Nat → Prop} (hS : grp S) {ps : List Nat} {e0 : Nat} (he0 : 1 ≤ e0) (he2 : e0 < 2 ^ 32) (hps : isPL e0 ps) : True := trivial
theorem mp_orderOf {w0 : Wd} {now : Nat → Int64} {u : Nat} {past : Nat → Nat → Int64} {kb : Nat → Bool} {shelf : Nat → Nat → Int64} (hc : core w0 now u past kb shelf) {a : Nat} (ha : a < 2 ^ 32) (ho : a % 2 = 1) (ha3 : 2 ≤ a) {bs : List (Nat × Nat)} (hB : okB a bs) {P : Int64 → Wd → Prop}
    (h : ∀ w', kp w0 w' → core w' now u past kb shelf → P (lN (gn a)) w') : cf_M_orderOf (lN a) w0 P := by
  unfold cf_M_orderOf
  refine M_lays hc ha hB (fun w j1 j2 j3 => ?_)
  obtain ⟨hl, hlt⟩ := isC_lt ha j3
  have hl2 := (okB_len ha hB).2
  have hS := ords_grp a
  have hmx : mxt bs ≤ 31 := mxt_le (fun b hb => (okB_mem ha hB hb).2.2.2)
  -- the reduction
  have last : ∀ e0, 1 ≤ e0 → e0 ≤ 2 ^ 31 → ords a e0 → cf_M_laysPrimes (lN e0) w (fun w3 => ∃ n, cf_M_orderOf_L87 P n (lN a) (lN e0) (0 : Int32) w3) := by
    intro e0 h1 h2 h3
    refine mp_laysPrimes h1 (by omega) (fun w3 ps k1 k2 k3 k4 => ?_)
    have hk : kp w w3 := kp_fr k1 (by decide) (fun k hk => absurd hk (by simp)) (by decide)
    have hkc : kc w w3 := kc_fr k1 (by decide) (by decide) (by decide)
    have hc3 := core_kp j2 hk (cache_kc hkc (core_cache j2))
    have key : ∀ m i e, ps.length ≤ i + m → i ≤ ps.length → redu (ords a) e0 e (ps.take i) → ∀ n, m < n → cf_M_orderOf_L87 P n (lN a) (lN e) (nI i) w3 := by
      intro m
      have stop : ∀ i e, i = ps.length → redu (ords a) e0 e (ps.take i) → ∀ n, 0 < n → cf_M_orderOf_L87 P n (lN a) (lN e) (nI i) w3 := by
        intro i e hi hr n hn
        obtain ⟨n, rfl⟩ : ∃ m, n = m + 1 := ⟨n - 1, by omega⟩
        show cf_M_orderOf_B87 _ _ _ _ _ _
        unfold cf_M_orderOf_B87
        rw [k3.1, nI_leI (by omega) (by omega)]
        refine ⟨fun _ => ?_, fun z => absurd (by omega) z⟩
        rw [hi, take_len] at hr
        rw [← gn_eq (redu_end hS k2 hr)]
        exact h w3 (kp_trans j1 hk) hc3
      induction m with
      | zero => intro i e hi hil hr n hn; exact stop i e (by omega) hr n (by omega)
      | succ m ih =>
        intro i e hi hil hr n hn
        by_cases hie : i = ps.length
        · exact stop i e hie hr n (by omega)
        obtain ⟨n, rfl⟩ : ∃ m, n = m + 1 := ⟨n - 1, by omega⟩
        show cf_M_orderOf_B87 _ _ _ _ _ _
        unfold cf_M_orderOf_B87
        have hil2 : i < ps.length := by omega
        rw [k3.1, nI_leI (by omega) (by omega)]
        refine ⟨fun z => absurd z (by omega), fun _ => ?_⟩
        have hq := (k2.1 _).mp (getD_mem hil2)
        have hql := Nat.le_of_dvd (by omega) hq.2
        have hts := take_snoc hil2
        have hcell := k3.2 i hil2
        generalize ps.getD i 0 = q at hq hql hts hcell
        have hq2 := hq.1.1
        have inner : ∀ m2 e, e ≤ m2 → redu (ords a) e0 e (ps.take i) → ∀ n2, m2 < n2 → cf_M_orderOf_L96 (cf_M_orderOf_L87 P n) P n2 (lN a) (lN e) (nI i) w3 := by
          intro m2
          induction m2 with
          | zero => intro e hk hr n2 _; have := hr.1; omega
          | succ m2 ih2 =>
            intro e hk hr n2 hn2
            obtain ⟨n2, rfl⟩ : ∃ m, n2 = m + 1 := ⟨n2 - 1, by omega⟩
            show cf_M_orderOf_B96 _ _ P _ _ _ _
            unfold cf_M_orderOf_B96
            have he1 := hr.1
            have hel : e ≤ e0 := Nat.le_of_dvd (by omega) hr.2.1
            have on : ¬ (q ∣ e ∧ ords a (e / q)) → ∀ v, v = nI i + (1 : Int32) → cf_M_orderOf_L87 P n (lN a) (lN e) v w3 := by
              rintro hno _ rfl
              rw [nI_1]
              refine ih (i + 1) e (by omega) (by omega) ?_ n (by omega)
              rw [hts]
              exact redu_next hr hno
            rw [nI_clamp (by omega), hcell]
            have hq0 : ¬ lN q = (0 : Int64) := lN_ne (b := 0) (by omega) (by decide) (by omega)
            refine ⟨vp_in_nI (by omega) (by omega), hq0, ?_⟩
            rw [lrem_lN (by omega) (by omega) (by omega)]
            have e6 : lN (e % q) = (0 : Int64) ↔ q ∣ e := by
              rw [lN_eq0 (by have := Nat.mod_le e q; omega)]
              exact (Nat.dvd_iff_mod_eq_zero).symm
            rw [e6]
            refine ⟨fun r => on (fun z => r z.1), fun r => ⟨vp_in_nI (by omega) (by omega), hq0, ?_⟩⟩
            rw [ldiv_lN (by omega) (by omega) (by omega)]
            have hdl := Nat.div_le_self e q
            refine mp_powerBy (a := 2) (by omega) (by omega) ha (by omega) (mp_restOf (a := 1) (by omega) (by omega) (by omega) ?_)
            have hb := pmod_lt31 (show a ≠ 0 by omega) ha (ppow 2 (e / q))
            have h11 : pmod 1 a = 1 := pmod_bit ha3 true
            rw [h11, lN_eqI (by omega) (by omega), ← ords_iff ha3]
            refine ⟨fun s => on (fun z => s z.2), fun s => ⟨vp_in_nI (by omega) (by omega), hq0, ?_⟩⟩
            rintro _ rfl
            refine ih2 (e / q) ?_ (redu_step hS hr r s (by omega)) n2 (by omega)
            have h5 : e / q * 2 ≤ e := Nat.le_trans (Nat.mul_le_mul_left _ hq2) (Nat.div_mul_le_self e q)
            omega
        exact ⟨e + 1, inner e e (Nat.le_refl _) hr (e + 1) (by omega)⟩
    exact ⟨ps.length + 1, key ps.length 0 e0 (by omega) (by omega) ⟨h1, Nat.dvd_refl _, h3, fun q hq => absurd hq (by simp)⟩ _ (by omega)⟩
  have tail : ∀ m t, 6 ≤ t + m → (t = 0 ∨ 2 ^ (t - 1) < mxt bs) → ∀ n, m < n → cf_M_orderOf_L55 P n (lN a) (lN (lcml (bs.map (fun b => its b.1)) * 2 ^ t)) (nI (2 ^ t)) w := by
    intro m
    induction m with
    | zero =>
      intro t ht h2 n hn
      rcases h2 with z | z
      · omega
      · have : 2 ^ 5 ≤ 2 ^ (t - 1) := Nat.pow_le_pow_right (by omega) (by omega)
        omega
    | succ m ih =>
      intro t ht h2 n hn
      obtain ⟨n, rfl⟩ : ∃ m, n = m + 1 := ⟨n - 1, by omega⟩
      show cf_M_orderOf_B55 _ _ _ _ _ _
      unfold cf_M_orderOf_B55
      have ht5 : t ≤ 5 := by
        rcases h2 with z | z
        · omega
        · refine Classical.byContradiction (fun hc => ?_)
          have : 2 ^ 5 ≤ 2 ^ (t - 1) := Nat.pow_le_pow_right (by omega) (by omega)
          omega
      have hpt : 2 ^ t ≤ 2 ^ 5 := Nat.pow_le_pow_right (by omega) ht5
      have hpt1 := Nat.pow_pos (n := t) (show 0 < 2 by omega)
      refine mp_oftenest ha hB j3 ?_
      rw [nI_leI (by omega) (by omega)]
      refine ⟨fun z => ?_, fun z => ?_⟩
      · have hib := its_bound (i := bs.length) ha ho hB
        rw [List.take_of_length_le (Nat.le_refl _)] at hib
        refine last _ (Nat.mul_pos hib.1 hpt1) (ord_bound ha (by omega) hB (fun b hb => ?_) h2) (its_start ha ho hB z h2)
        have := ones_odd (irr_dg (hB.2.2 b hb).1)
        unfold its
        omega
      · rintro _ rfl _ rfl
        have e1 : lN (lcml (bs.map (fun b => its b.1)) * 2 ^ t) * (2 : Int64) = lN (lcml (bs.map (fun b => its b.1)) * 2 ^ (t + 1)) := by
          rw [show (2 : Int64) = lN 2 from rfl, lN_mul, Nat.pow_succ, Nat.mul_assoc]
        have e2 : nI (2 ^ t) * (2 : Int32) = nI (2 ^ (t + 1)) := by rw [show (2 : Int32) = nI 2 from rfl, nI_mul, Nat.pow_succ]
        rw [e1, e2]
        exact ih (t + 1) (by omega) (Or.inr (by rw [Nat.add_sub_cancel]; omega)) n (by omega)
  have fin : ∀ n, 0 < n → cf_M_orderOf_L10 P n (lN a) (lN (lcml ((bs.take bs.length).map (fun b => its b.1)))) (nI (rep bs).length) w := by
    intro n hn
    obtain ⟨n, rfl⟩ : ∃ m, n = m + 1 := ⟨n - 1, by omega⟩
    show cf_M_orderOf_B10 _ _ _ _ _ _
    unfold cf_M_orderOf_B10
    rw [j3.2.2.1, List.take_of_length_le (Nat.le_refl _)]
    refine ⟨fun _ => ⟨7, ?_⟩, fun z => absurd ((nI_leI (by omega) (by omega)).mpr (Nat.le_refl _)) z⟩
    have := tail 6 0 (by omega) (Or.inl rfl) 7 (by omega)
    rw [Nat.pow_zero, Nat.mul_one] at this
    exact this
  have key : ∀ m i s, (rep bs).length ≤ pos bs i + s + m → i < bs.length → s < (bs.getD i (0, 0)).2 → ∀ n, m + 1 < n → cf_M_orderOf_L10 P n (lN a) (lN (lcml ((bs.take (if s = 0 then i else i + 1)).map (fun b => its b.1)))) (nI (pos bs i + s)) w := by
    intro m
    induction m with
    | zero =>
      intro i s hm hi hs n hn
      have := (run_in hi hs).2
      omega
    | succ m ih =>
      intro i s hm hi hs n hn
      obtain ⟨n, rfl⟩ : ∃ m, n = m + 1 := ⟨n - 1, by omega⟩
      show cf_M_orderOf_B10 _ _ _ _ _ _
      unfold cf_M_orderOf_B10
      have hr := run_in hi hs
      have hbb := okB_mem ha hB (getDp_mem hi)
      have hdd := (dg_lt (irr_ne hbb.2.1)).mpr hbb.1
      have hodd := ones_odd (irr_dg hbb.2.1)
      have hpw : 2 ^ dg (bs.getD i (0, 0)).1 ≤ 2 ^ 31 := Nat.pow_le_pow_right (by omega) (by omega)
      rw [j3.2.2.1, nI_leI (by omega) (by omega)]
      refine ⟨fun z => absurd z (by omega), fun _ => ⟨vp_in_nI (by omega) (by omega), ?_⟩⟩
      rw [nI_clamp (by omega), j3.2.2.2 _ hr.2, hr.1]
      refine mp_degree (by omega) ?_
      rw [dI_pos (irr_ne hbb.2.1)]
      refine mp_allOnes (by omega) ?_
      have hib := its_bound (i := (if s = 0 then i else i + 1)) ha ho hB
      refine mp_common (by omega) (by omega) rfl ⟨?_, ?_⟩
      · have := Nat.gcd_pos_of_pos_left (2 ^ dg (bs.getD i (0, 0)).1 - 1) (show 0 < lcml ((bs.take (if s = 0 then i else i + 1)).map (fun b => its b.1)) by omega)
        have h2 := Nat.gcd_le_left (2 ^ dg (bs.getD i (0, 0)).1 - 1) (show 0 < lcml ((bs.take (if s = 0 then i else i + 1)).map (fun b => its b.1)) by omega)
        exact lN_ne (b := 0) (by omega) (by decide) (by omega)
      · have hg1 := Nat.gcd_pos_of_pos_left (2 ^ dg (bs.getD i (0, 0)).1 - 1) (show 0 < lcml ((bs.take (if s = 0 then i else i + 1)).map (fun b => its b.1)) by omega)
        have hg2 := Nat.gcd_le_left (2 ^ dg (bs.getD i (0, 0)).1 - 1) (show 0 < lcml ((bs.take (if s = 0 then i else i + 1)).map (fun b => its b.1)) by omega)
        rw [ldiv_lN (by omega) (by omega) (by omega), lN_mul, lcm_of (by omega)]
        rintro _ rfl _ rfl
        rw [nI_1]
        have e : Nat.lcm (lcml ((bs.take (if s = 0 then i else i + 1)).map (fun b => its b.1))) (2 ^ dg (bs.getD i (0, 0)).1 - 1) = lcml ((bs.take (i + 1)).map (fun b => its b.1)) := by
          by_cases hs0 : s = 0
          · rw [if_pos hs0, map_gn_succ (g := its) hi, lcml_snoc]
            rfl
          · rw [if_neg hs0]
            refine lcm_absorb ((lcml_dvd.mp (Nat.dvd_refl _)) _ ?_)
            rw [map_gn_succ (g := its) hi]
            exact List.mem_append.mpr (Or.inr (by simp [its]))
        rw [e]
        by_cases hs1 : s + 1 < (bs.getD i (0, 0)).2
        · have := ih i (s + 1) (by omega) hi hs1 n (by omega)
          rw [if_neg (by omega)] at this
          exact this
        · have hp : pos bs i + s + 1 = pos bs (i + 1) := by rw [pos_succ hi]; omega
          rw [hp]
          by_cases hi1 : i + 1 < bs.length
          · have := ih (i + 1) 0 (by omega) hi1 (by have := (okB_mem ha hB (getDp_mem hi1)).2.2.1; omega) n (by omega)
            rw [if_pos rfl, Nat.add_zero] at this
            exact this
          · have hie : i + 1 = bs.length := by omega
            rw [hie, pos_all]
            exact fin n (by omega)
  by_cases h0 : bs.length = 0
  · have : bs = [] := List.length_eq_zero_iff.mp h0
    subst this
    exact ⟨1, fin 1 (by omega)⟩
  · have := key (rep bs).length 0 0 (by omega) (by omega) (by have := (okB_mem ha hB (getDp_mem (show 0 < bs.length by omega))).2.2.1; omega) ((rep bs).length + 2) (by omega)
    exact ⟨_, this⟩
theorem okB_exists {a : Nat} (ha : a ≠ 0) : ∃ bs, okB a bs := by
  have hl : ∀ n a, dg a ≤ n → a ≠ 0 → ∃ ps : List Nat, (∀ p, p ∈ ps → irr p) ∧ pprod ps = a := by
    intro n
    induction n with
    | zero =>
      intro a hd h0
      have := (dg_self h0).2
      have e : dg a = 0 := by omega
      rw [e] at this
      exact ⟨[], fun p hp => absurd hp (by simp), by show 1 = a; omega⟩
    | succ n ih =>
      intro a hd h0
      by_cases h1 : a = 1
      · exact ⟨[], fun p hp => absurd hp (by simp), h1.symm⟩
      · obtain ⟨p, hp, hpa⟩ := exists_irr a (by omega)
        have hq0 := pdiv_ne (irr_ne hp) h0 hpa
        have hqm := pdiv_mul (irr_ne hp) hpa
        have e := dg_cm hq0 (irr_ne hp)
        rw [hqm] at e
        have := irr_dg hp
        obtain ⟨ps, h2, h3⟩ := ih (pdiv a p) (by omega) hq0
        refine ⟨p :: ps, fun q hq => ?_, ?_⟩
        · rcases List.mem_cons.mp hq with r | r
          · rw [r]; exact hp
          · exact h2 q r
        · show cm p (pprod ps) = a
          rw [h3, cm_comm]
          exact hqm
  -- one more into a list of bases
  have ins : ∀ (p : Nat) (bs : List (Nat × Nat)), irr p → (bs.map Prod.fst).Pairwise (· < ·) → (∀ b, b ∈ bs → irr b.1 ∧ 1 ≤ b.2) → ∃ cs : List (Nat × Nat), (cs.map Prod.fst).Pairwise (· < ·) ∧ (∀ b, b ∈ cs → irr b.1 ∧ 1 ≤ b.2) ∧ pprod (rep cs) = cm p (pprod (rep bs)) ∧ ∀ x, x ∈ cs.map Prod.fst → x = p ∨ x ∈ bs.map Prod.fst := by
    intro p bs hp
    induction bs with
    | nil =>
      intro _ _
      refine ⟨[(p, 1)], List.pairwise_singleton _ _, fun b hb => ?_, ?_, fun x hx => Or.inl (by simpa using hx)⟩
      · rw [List.mem_singleton.mp hb]; exact ⟨hp, Nat.le_refl _⟩
      · rfl
    | cons b l ih =>
      intro hs hi
      obtain ⟨s1, s2⟩ := List.pairwise_cons.mp hs
      have hb := hi b List.mem_cons_self
      have hl' : ∀ x, x ∈ l → irr x.1 ∧ 1 ≤ x.2 := fun x hx => hi x (List.mem_cons_of_mem _ hx)
      by_cases c1 : p = b.1
      · refine ⟨(b.1, b.2 + 1) :: l, hs, fun x hx => ?_, ?_, fun x hx => Or.inr hx⟩
        · rcases List.mem_cons.mp hx with q | q
          · rw [q]; exact ⟨hb.1, by show 1 ≤ b.2 + 1; omega⟩
          · exact hl' x q
        · show pprod (List.replicate (b.2 + 1) b.1 ++ rep l) = cm p (pprod (List.replicate b.2 b.1 ++ rep l))
          rw [List.replicate_succ, c1]
          rfl
      · by_cases c2 : p < b.1
        · refine ⟨(p, 1) :: b :: l, List.pairwise_cons.mpr ⟨fun x hx => ?_, hs⟩, fun x hx => ?_, rfl, fun x hx => ?_⟩
          · rcases List.mem_cons.mp hx with q | q
            · rw [q]; exact c2
            · exact Nat.lt_trans c2 (s1 x q)
          · rcases List.mem_cons.mp hx with q | q
            · rw [q]; exact ⟨hp, Nat.le_refl _⟩
            · exact hi x q
          · rcases List.mem_cons.mp hx with q | q
            · exact Or.inl q
            · exact Or.inr q
        · obtain ⟨cs, h1, h2, h3, h4⟩ := ih s2 hl'
          refine ⟨b :: cs, List.pairwise_cons.mpr ⟨fun x hx => ?_, h1⟩, fun x hx => ?_, ?_, fun x hx => ?_⟩
          · rcases h4 x hx with q | q
            · rw [q]; show b.1 < p; omega
            · exact s1 x q
          · rcases List.mem_cons.mp hx with q | q
            · rw [q]; exact hb
            · exact h2 x q
          · show pprod (List.replicate b.2 b.1 ++ rep cs) = cm p (pprod (List.replicate b.2 b.1 ++ rep l))
            rw [pprod_append, pprod_append, h3, cm_left_comm]
          · rcases List.mem_cons.mp hx with q | q
            · exact Or.inr (by rw [q]; exact List.mem_cons_self)
            · rcases h4 x q with r | r
              · exact Or.inl r
              · exact Or.inr (List.mem_cons_of_mem _ r)
  have all : ∀ ps : List Nat, (∀ p, p ∈ ps → irr p) → ∃ bs : List (Nat × Nat), (bs.map Prod.fst).Pairwise (· < ·) ∧ (∀ b, b ∈ bs → irr b.1 ∧ 1 ≤ b.2) ∧ pprod (rep bs) = pprod ps := by
    intro ps
    induction ps with
    | nil => exact fun _ => ⟨[], List.Pairwise.nil, fun b hb => absurd hb (by simp), rfl⟩
    | cons p l ih =>
      intro hp
      obtain ⟨bs, h1, h2, h3⟩ := ih (fun q hq => hp q (List.mem_cons_of_mem _ hq))
      obtain ⟨cs, g1, g2, g3, -⟩ := ins p bs (hp p List.mem_cons_self) h1 h2
      exact ⟨cs, g1, g2, by rw [g3, h3]; rfl⟩
  obtain ⟨ps, h1, h2⟩ := hl (dg a) a (Nat.le_refl _) ha
  obtain ⟨bs, g1, g2, g3⟩ := all ps h1
  have hi := rep_irr (fun b hb => (g2 b hb).1)
  refine ⟨bs, ⟨hi, rep_sorted g1, fun c => ?_, fun _ => g3.trans h2⟩, g1, g2⟩
  have := len_dg hi
  rw [g3, h2] at this
  have e : a = 1 := by omega
  rw [e] at this
  exact List.length_eq_zero_iff.mp (Nat.le_zero.mp this)
theorem mp_isPrimitive {w0 : Wd} {now : Nat → Int64} {u : Nat} {past : Nat → Nat → Int64} {kb : Nat → Bool} {shelf : Nat → Nat → Int64} (hc : core w0 now u past kb shelf) {a : Nat} (ha : a < 2 ^ 32) {P : Int32 → Wd → Prop}
    (h1 : ∀ w', kp w0 w' → core w' now u past kb shelf → good True a → P 1 w') (h0 : ∀ w', kp w0 w' → core w' now u past kb shelf → ¬ good True a → P 0 w') : cf_M_isPrimitive (lN a) w0 P := by
  unfold cf_M_isPrimitive
  refine mp_hasOrder (by omega) (fun g1 g2 => ⟨fun z => absurd z one_ne', fun _ => ?_⟩) (fun g => ⟨fun _ => h0 w0 (kp_refl _) hc (fun q => g ?_), fun z => absurd rfl z⟩)
  · refine mp_isIrr (core_cache hc) ha (fun w2 k1 k2 hi => ⟨fun z => absurd z one_ne', fun _ => ?_⟩) (fun w2 k1 k2 hi => ⟨fun _ => h0 w2 k1 (core_kp hc k1 k2) (fun q => hi q.1), fun z => absurd rfl z⟩)
    have hc2 := core_kp hc k1 k2
    obtain ⟨bs, hB⟩ := okB_exists (a := a) (by omega)
    have hdd := (dg_lt (show a ≠ 0 by omega)).mpr ha
    have hpw : 2 ^ dg a ≤ 2 ^ 31 := Nat.pow_le_pow_right (by omega) (by omega)
    refine mp_orderOf hc2 ha g2 g1 hB (fun w3 q1 q2 => mp_degree (by omega) ?_)
    rw [dI_pos (by omega)]
    refine mp_allOnes (by omega) ?_
    have hb := (ord_gen ha g2 hB).2
    rw [lN_eqI (by omega) (by omega)]
    exact ⟨fun r => h0 w3 (kp_trans k1 q1) q2 (fun g => r (g.2 trivial).2), fun r => h1 w3 (kp_trans k1 q1) q2 ⟨hi, fun _ => ⟨by omega, r⟩⟩⟩
  · have hi := q.1
    refine ⟨hi.1, ?_⟩
    refine Classical.byContradiction (fun he => (q.2 trivial).1 ?_)
    have : pdvd 2 a := ⟨a / 2, by rw [← two_cm]; omega⟩
    exact (irr_dvd_irr irr2 hi this).symm
theorem mp_isGood {w0 : Wd} {now : Nat → Int64} {u : Nat} {past : Nat → Nat → Int64} {kb : Nat → Bool} {shelf : Nat → Nat → Int64} (hc : core w0 now u past kb shelf) {a : Nat} {pr : Int32} (ha : a < 2 ^ 32) {P : Int32 → Wd → Prop}
    (h1 : ∀ w', kp w0 w' → core w' now u past kb shelf → good (¬ pr = 0) a → P 1 w') (h0 : ∀ w', kp w0 w' → core w' now u past kb shelf → ¬ good (¬ pr = 0) a → P 0 w') : cf_M_isGood (lN a) pr w0 P := by
  unfold cf_M_isGood
  refine ⟨fun z => mp_isIrr (core_cache hc) ha (fun w2 k1 k2 hi => ⟨Or.inr rfl, h1 w2 k1 (core_kp hc k1 k2) ⟨hi, fun y => absurd z y⟩⟩) (fun w2 k1 k2 hi => ⟨Or.inl rfl, h0 w2 k1 (core_kp hc k1 k2) (fun g => hi g.1)⟩), fun z => mp_isPrimitive hc ha (fun w2 k1 k2 hi => ⟨Or.inr rfl, h1 w2 k1 k2 ⟨hi.1, fun _ => hi.2 trivial⟩⟩) (fun w2 k1 k2 hi => ⟨Or.inl rfl, h0 w2 k1 k2 (fun g => hi ⟨g.1, fun _ => g.2 z⟩)⟩)⟩
