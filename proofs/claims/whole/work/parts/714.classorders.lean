-- the class's orders
theorem gen_exists {S : Nat → Prop} (h : grp S) {m : Nat} (h1 : 1 ≤ m) (hm : S m) : ∃ e, isGen S e := by
  induction m using Nat.strongRecOn with
  | _ m ih =>
    by_cases c : ∃ k, S k ∧ ¬ m ∣ k
    · obtain ⟨k, hk, hn⟩ := c
      have hg := grp_gcd h m k hm hk
      have hd := Nat.gcd_dvd_left m k
      have hle := Nat.le_of_dvd (by omega) hd
      have h0 : Nat.gcd m k ≠ 0 := by
        intro z
        rw [z] at hd
        have := Nat.eq_zero_of_zero_dvd hd
        omega
      have hne : Nat.gcd m k ≠ m := fun z => hn (z ▸ Nat.gcd_dvd_right m k)
      exact ih (Nat.gcd m k) (by omega) (by omega) hg
    · exact ⟨m, h1, hm, fun k hk => Classical.byContradiction (fun z => c ⟨k, hk, z⟩)⟩
/-- the order of x by f -/
noncomputable def gn (f : Nat) : Nat := Classical.epsilon (fun e => isGen (ords f) e)
theorem gn_eq {f e : Nat} (h : isGen (ords f) e) : gn f = e := isGen_unique (Classical.epsilon_spec (p := fun e => isGen (ords f) e) ⟨e, h⟩) h
theorem gn_spec {f m : Nat} (h1 : 1 ≤ m) (hm : ords f m) : isGen (ords f) (gn f) := Classical.epsilon_spec (gen_exists (ords_grp f) h1 hm)
theorem gn_irr {p : Nat} (hp : irr p) (h : p ≠ 2) : isGen (ords p) (gn p) := by
  have := ones_odd (irr_dg hp)
  exact gn_spec (show 1 ≤ 2 ^ dg p - 1 by omega) (ords_irr hp h)
theorem ords_iff {f m : Nat} (hf : 2 ≤ f) : ords f m ↔ pmod (ppow 2 m) f = 1 := by
  have h1 : pmod 1 f = 1 := pmod_bit hf true
  unfold ords
  rw [cg_iff (by omega), h1]
theorem ones_lN {d : Nat} (hd : d < 63) : lshl (1 : Int64) (nI d) - (1 : Int64) = lN (2 ^ d - 1) := by
  rw [show (1 : Int64) = lN 1 from rfl, lshl_lN _ (by omega), Nat.shiftLeft_eq, Nat.one_mul]
  exact lN_sub (Nat.pow_pos (by omega))
theorem take_len {l : List Nat} : l.take l.length = l := List.take_of_length_le (Nat.le_refl _)
theorem sp_ofIrreducible {c p : Nat} {w0 : Wd} {P : Int64 → Wd → Prop} (hp : irr p) (h2 : p ≠ 2) (hlt : p < 2 ^ 32) (h : ∀ w', fr [(c, 1)] [] [c + 1] w0 w' → P (lN (gn p)) w') : cf_Orders_ofIrreducible c (lN p) w0 P := by
  have hp0 := irr_ne hp
  have hp2 := hp.1
  have hd1 := irr_dg hp
  have hd2 := (dg_lt hp0).mpr hlt
  have hodd := ones_odd hd1
  have hpw : 2 ^ dg p ≤ 2 ^ 31 := Nat.pow_le_pow_right (by omega) (by omega)
  unfold cf_Orders_ofIrreducible
  refine sp_degree (by omega) ?_
  rw [dI_pos hp0]
  rintro _ rfl
  rw [ones_lN (by omega)]
  refine sp_findPrimes (by omega) (by omega) (fun w ps k1 k2 k3 k4 => ?_)
  have hS := ords_grp p
  have key : ∀ m i e, ps.length ≤ i + m → i ≤ ps.length → redu (ords p) (2 ^ dg p - 1) e (ps.take i) → e < 2 ^ 32 → ∀ n, m < n → cf_Orders_ofIrreducible_L17 c P n (lN p) (lN e) (nI i) w := by
    intro m
    have stop : ∀ i e, i = ps.length → redu (ords p) (2 ^ dg p - 1) e (ps.take i) → ∀ n, 0 < n → cf_Orders_ofIrreducible_L17 c P n (lN p) (lN e) (nI i) w := by
      intro i e hi hr n hn
      obtain ⟨n, rfl⟩ : ∃ m, n = m + 1 := ⟨n - 1, by omega⟩
      show cf_Orders_ofIrreducible_B17 _ _ _ _ _ _ _
      unfold cf_Orders_ofIrreducible_B17
      rw [k3.1, nI_leI (by omega) (by omega)]
      refine ⟨fun _ => ?_, fun z => absurd (by omega) z⟩
      rw [hi, take_len] at hr
      rw [← gn_eq (redu_end hS k2 hr)]
      exact h w k1
    induction m with
    | zero => intro i e hi hil hr he n hn; exact stop i e (by omega) hr n (by omega)
    | succ m ih =>
      intro i e hi hil hr he n hn
      by_cases hie : i = ps.length
      · exact stop i e hie hr n (by omega)
      obtain ⟨n, rfl⟩ : ∃ m, n = m + 1 := ⟨n - 1, by omega⟩
      show cf_Orders_ofIrreducible_B17 _ _ _ _ _ _ _
      unfold cf_Orders_ofIrreducible_B17
      have hil2 : i < ps.length := by omega
      rw [k3.1, nI_leI (by omega) (by omega)]
      refine ⟨fun z => absurd z (by omega), fun _ => ⟨fun z => ?_, fun _ => ⟨vp_in_nI (by omega) (by omega), ?_⟩⟩⟩
      · have := (nI_leI (show 16 < 2 ^ 31 by decide) (show i < 2 ^ 31 by omega)).mp z
        omega
      rw [nI_clamp (by omega), k3.2 i hil2]
      rintro _ rfl
      have hq := (k2.1 _).mp (getD_mem hil2)
      have hql := Nat.le_of_dvd (by omega) hq.2
      have hts := take_snoc hil2
      generalize ps.getD i 0 = q at hq hql hts
      have hq2 := hq.1.1
      have inner : ∀ m2 k e, 64 ≤ k + m2 → redu (ords p) (2 ^ dg p - 1) e (ps.take i) → e * 2 ^ k ≤ 2 ^ 32 → ∀ n2, m2 < n2 → cf_Orders_ofIrreducible_L48 c (cf_Orders_ofIrreducible_L17 c P n) P n2 (lN p) (lN e) (nI i) (lN q) (nI k) w := by
        intro m2
        have kb : ∀ k e, 1 ≤ e → e * 2 ^ k ≤ 2 ^ 32 → k ≤ 32 := by
          intro k e he1 hek
          refine Classical.byContradiction (fun hc => ?_)
          have h3 : 1 * 2 ^ k ≤ e * 2 ^ k := Nat.mul_le_mul_right _ he1
          have h4 : 2 ^ 33 ≤ 2 ^ k := Nat.pow_le_pow_right (by omega) (by omega)
          omega
        induction m2 with
        | zero =>
          intro k e hk hr hek n2 _
          have := kb k e hr.1 hek
          omega
        | succ m2 ih2 =>
          intro k e hk hr hek n2 hn2
          obtain ⟨n2, rfl⟩ : ∃ m, n2 = m + 1 := ⟨n2 - 1, by omega⟩
          show cf_Orders_ofIrreducible_B48 c _ _ P _ _ _ _ _ _
          unfold cf_Orders_ofIrreducible_B48
          have hkb := kb k e hr.1 hek
          have he1 := hr.1
          have hel : e ≤ 2 ^ dg p - 1 := Nat.le_of_dvd (by omega) hr.2.1
          have on : ¬ (q ∣ e ∧ ords p (e / q)) → ∀ v, v = nI i + (1 : Int32) → cf_Orders_ofIrreducible_L17 c P n (lN p) (lN e) v w := by
            rintro hno _ rfl
            rw [nI_1]
            refine ih (i + 1) e (by omega) (by omega) ?_ (by omega) n (by omega)
            rw [hts]
            exact redu_next hr hno
          refine ⟨fun z => ?_, fun _ => ⟨fun z => ?_, fun _ => ⟨lN_ne (b := 0) (by omega) (by decide) (by omega), ?_⟩⟩⟩
          · have := (nI_leI (show 64 < 2 ^ 31 by decide) (show k < 2 ^ 31 by omega)).mp z
            omega
          · have := (lN_leI (a := q) (b := 1) (by omega) (by decide)).mp z
            omega
          rw [lrem_lN (by omega) (by omega) (by omega)]
          have e6 : lN (e % q) = (0 : Int64) ↔ q ∣ e := by
            rw [lN_eq0 (by have := Nat.mod_le e q; omega)]
            exact (Nat.dvd_iff_mod_eq_zero).symm
          rw [e6]
          refine ⟨fun r => on (fun z => r z.1), fun r => ⟨lN_ne (b := 0) (by omega) (by decide) (by omega), ?_⟩⟩
          rw [ldiv_lN (by omega) (by omega) (by omega)]
          have hdl := Nat.div_le_self e q
          refine sp_powerBy (a := 2) (by omega) (by omega) hlt hp0 ?_
          have hb := pmod_lt31 hp0 hlt (ppow 2 (e / q))
          rw [lN_eq1 (by omega), ← ords_iff hp2]
          refine ⟨fun s => ⟨lN_ne (b := 0) (by omega) (by decide) (by omega), ?_⟩, fun s => on (fun z => s z.2)⟩
          rintro _ rfl _ rfl
          rw [nI_1]
          refine ih2 (k + 1) (e / q) (by omega) (redu_step hS hr r s (by omega)) ?_ n2 (by omega)
          have h5 : e / q * 2 ≤ e := Nat.le_trans (Nat.mul_le_mul_left _ hq2) (Nat.div_mul_le_self e q)
          rw [Nat.pow_succ, Nat.mul_comm (2 ^ k) 2, ← Nat.mul_assoc]
          exact Nat.le_trans (Nat.mul_le_mul_right _ h5) hek
      have hel : e ≤ 2 ^ dg p - 1 := Nat.le_of_dvd (by omega) hr.2.1
      exact ⟨65, inner 64 0 e (by omega) hr (by omega) 65 (by omega)⟩
  exact ⟨ps.length + 1, key ps.length 0 (2 ^ dg p - 1) (by omega) (by omega) ⟨by omega, Nat.dvd_refl _, ords_irr hp h2, fun q hq => absurd hq (by simp)⟩ (by omega) _ (by omega)⟩
/-- irreducible, and primitive where it is asked -/
def good (pr : Prop) (a : Nat) : Prop := irr a ∧ (pr → a ≠ 2 ∧ gn a = 2 ^ dg a - 1)
theorem sp_isSought {c a : Nat} {pr : Int32} {w : Wd} {P : Int32 → Wd → Prop} (ha : a < 2 ^ 32) (h1 : ∀ w', fr [(c, 1)] [] [c + 1] w w' → good (¬ pr = 0) a → P 1 w') (h0 : ∀ w', fr [(c, 1)] [] [c + 1] w w' → ¬ good (¬ pr = 0) a → P 0 w') : cf_Orders_isSought c (lN a) pr w P := by
  unfold cf_Orders_isSought
  refine sp_isIrr ha (fun hi => ⟨fun _ => ⟨fun z => h1 w (fr_refl _ _ _ _) ⟨hi, fun y => absurd z y⟩, fun z => ⟨fun q => ?_, fun q => ?_⟩⟩, fun z => absurd z one_ne'⟩) (fun hi => ⟨fun z => absurd rfl z, fun _ => h0 w (fr_refl _ _ _ _) (fun g => hi g.1)⟩)
  · have : a = 2 := (lN_eqI (b := 2) (by omega) (by decide)).mp q
    exact h0 w (fr_refl _ _ _ _) (fun g => (g.2 z).1 this)
  · have ha2 : a ≠ 2 := fun y => q ((lN_eqI (b := 2) (by omega) (by decide)).mpr y)
    have hdd := (dg_lt (irr_ne hi)).mpr ha
    refine sp_ofIrreducible hi ha2 ha (fun w' k1 => sp_degree (by omega) ?_)
    rw [dI_pos (irr_ne hi), ones_lN (by omega)]
    have hg := (gen_le hi ha2 (gn_irr hi ha2)).2
    have hpw : 2 ^ dg a ≤ 2 ^ 31 := Nat.pow_le_pow_right (by omega) (by omega)
    rw [lN_eqI (by omega) (by omega)]
    exact ⟨fun r => h0 w' k1 (fun g => r (g.2 z).2), fun r => h1 w' k1 ⟨hi, fun _ => ⟨ha2, r⟩⟩⟩
/-- how long Euclid's chain may still be -/
def euc (m x y : Nat) : Prop := (∃ j, m = 2 * j ∧ y < 2 ^ j) ∨ ∃ j, m = 2 * j + 1 ∧ y < x ∧ x < 2 ^ (j + 1)
theorem euc_step {m x y : Nat} (h : euc m x y) (hy : y ≠ 0) : ∃ m', m = m' + 1 ∧ euc m' y (x % y) := by
  rcases h with ⟨j, e, hj⟩ | ⟨j, e, h1, h2⟩
  · cases j with
    | zero => exact absurd hj (by simp; omega)
    | succ j => exact ⟨2 * j + 1, by omega, Or.inr ⟨j, rfl, Nat.mod_lt _ (by omega), hj⟩⟩
  · refine ⟨2 * j, e, Or.inl ⟨j, rfl, ?_⟩⟩
    have h3 := Nat.mod_lt x (show y > 0 by omega)
    have h4 := Nat.mod_add_div x y
    have h5 : y * 1 ≤ y * (x / y) := Nat.mul_le_mul_left _ (Nat.div_pos (by omega) (by omega))
    rw [Nat.pow_succ] at h2
    omega
theorem euc_start {x y : Nat} (h : y < 2 ^ 32) : euc 64 x y := Or.inl ⟨32, rfl, h⟩
theorem lcm_of {a b : Nat} (ha : 1 ≤ a) : a / Nat.gcd a b * b = Nat.lcm a b := by
  obtain ⟨q, hq⟩ := Nat.gcd_dvd_left a b
  have hg : 0 < Nat.gcd a b := Nat.gcd_pos_of_pos_left b ha
  have e1 : a / Nat.gcd a b = q := by
    have h3 : Nat.gcd a b * q / Nat.gcd a b = q := Nat.mul_div_cancel_left _ hg
    rw [← hq] at h3
    exact h3
  have e2 : Nat.lcm a b = a * b / Nat.gcd a b := rfl
  have e3 : a * b = Nat.gcd a b * (q * b) := by rw [← Nat.mul_assoc, ← hq]
  rw [e1, e2, e3, Nat.mul_div_cancel_left _ hg]
theorem sp_leastMultiple {a b : Nat} {P : Int64 → Prop} (ha : 1 ≤ a) (ha2 : a < 2 ^ 32) (hb : b < 2 ^ 32) (h : P (lN (Nat.lcm a b))) : cf_Orders_leastMultiple (lN a) (lN b) P := by
  have key : ∀ m x y k, euc m x y → k + m ≤ 64 → x < 2 ^ 32 → y < 2 ^ 32 → Nat.gcd x y = Nat.gcd a b → ∀ n, m < n → cf_Orders_leastMultiple_L9 P n (lN a) (lN b) (lN x) (lN y) (nI k) := by
    intro m
    have stop : ∀ x k, k ≤ 64 → x < 2 ^ 32 → Nat.gcd x 0 = Nat.gcd a b → ∀ n, 0 < n → cf_Orders_leastMultiple_L9 P n (lN a) (lN b) (lN x) (lN 0) (nI k) := by
      intro x k hk hx hg n hn
      obtain ⟨n, rfl⟩ : ∃ m, n = m + 1 := ⟨n - 1, by omega⟩
      show cf_Orders_leastMultiple_B9 _ _ _ _ _ _ _
      unfold cf_Orders_leastMultiple_B9
      rw [Nat.gcd_zero_right] at hg
      have hg0 : 0 < Nat.gcd a b := Nat.gcd_pos_of_pos_left b ha
      refine ⟨fun z => absurd ((nI_leI (show 100 < 2 ^ 31 by decide) (show k < 2 ^ 31 by omega)).mp z) (by omega), fun _ => ⟨fun _ => ⟨fun _ => ⟨lN_ne (b := 0) (by omega) (by decide) (by omega), ?_⟩, fun z => absurd ((lN_eq0 (a := x) (by omega)).mp z) (by omega)⟩, fun z => absurd rfl z⟩⟩
      rw [ldiv_lN (by omega) (by omega) (by omega), lN_mul, hg, lcm_of ha]
      exact h
    induction m with
    | zero =>
      intro x y k he hk hx hy hg n hn
      have : y = 0 := by
        rcases he with ⟨j, e, hj⟩ | ⟨j, e, -⟩
        · have : j = 0 := by omega
          subst this
          simpa using hj
        · omega
      subst this
      exact stop x k (by omega) hx hg n (by omega)
    | succ m ih =>
      intro x y k he hk hx hy hg n hn
      by_cases h0 : y = 0
      · subst h0
        exact stop x k (by omega) hx hg n (by omega)
      obtain ⟨n, rfl⟩ : ∃ m, n = m + 1 := ⟨n - 1, by omega⟩
      show cf_Orders_leastMultiple_B9 _ _ _ _ _ _ _
      unfold cf_Orders_leastMultiple_B9
      obtain ⟨m', e, he'⟩ := euc_step he h0
      have : m' = m := by omega
      subst this
      refine ⟨fun z => absurd ((nI_leI (show 100 < 2 ^ 31 by decide) (show k < 2 ^ 31 by omega)).mp z) (by omega), fun _ => ⟨fun z => absurd ((lN_eq0 (a := y) (by omega)).mp z) h0, fun _ => ⟨lN_ne (b := 0) (by omega) (by decide) h0, ?_⟩⟩⟩
      rw [lrem_lN (by omega) (by omega) (by omega)]
      rintro _ rfl _ rfl
      rw [nI_1]
      have := Nat.mod_lt x (show y > 0 by omega)
      refine ih y (x % y) (k + 1) he' (by omega) hy (by omega) ?_ n (by omega)
      rw [← hg, Nat.gcd_comm, ← Nat.gcd_rec, Nat.gcd_comm]
  unfold cf_Orders_leastMultiple
  exact ⟨65, key 64 a b 0 (euc_start hb) (by omega) ha2 hb rfl 65 (by omega)⟩
theorem lcml_snoc (l : List Nat) (x : Nat) : lcml (l ++ [x]) = Nat.lcm (lcml l) x := by
  have h : ∀ m, lcml (l ++ [x]) ∣ m ↔ Nat.lcm (lcml l) x ∣ m := by
    intro m
    rw [lcml_dvd, Nat.lcm_dvd_iff, lcml_dvd]
    constructor
    · intro h
      exact ⟨fun e he => h e (List.mem_append.mpr (Or.inl he)), h x (by simp)⟩
    · rintro ⟨h1, h2⟩ e he
      rcases List.mem_append.mp he with q | q
      · exact h1 e q
      · rw [List.mem_singleton.mp q]; exact h2
  exact Nat.dvd_antisymm ((h _).mpr (Nat.dvd_refl _)) ((h _).mp (Nat.dvd_refl _))
theorem map_gn_succ {bs : List (Nat × Nat)} {i : Nat} {g : Nat → Nat} (h : i < bs.length) : (bs.take (i + 1)).map (fun b => g b.1) = (bs.take i).map (fun b => g b.1) ++ [g (bs.getD i (0, 0)).1] := by
  rw [take_snocp h, List.map_append]
  rfl
theorem imax_nI {a b : Nat} (ha : a < 2 ^ 31) (hb : b < 2 ^ 31) : imax (nI a) (nI b) = nI (max a b) := by
  unfold imax
  by_cases h : a < b
  · rw [if_pos ((nI_ltI ha hb).mpr h), Nat.max_eq_right (by omega)]
  · rw [if_neg (fun z => h ((nI_ltI ha hb).mp z)), Nat.max_eq_left (by omega)]
theorem okB_take {a : Nat} {bs : List (Nat × Nat)} (hB : okB a bs) (i : Nat) : ∀ b, b ∈ bs.take i → irr b.1 ∧ 1 ≤ b.2 := fun b hb => hB.2.2 b (List.mem_of_mem_take hb)
theorem lcm_take_bound {a i : Nat} {bs : List (Nat × Nat)} (ha : a < 2 ^ 32) (ho : a % 2 = 1) (hB : okB a bs) : 1 ≤ lcml ((bs.take i).map (fun b => gn b.1)) ∧ lcml ((bs.take i).map (fun b => gn b.1)) ≤ 2 ^ 31 := by
  have hg : ∀ b, b ∈ bs.take i → 1 ≤ gn b.1 ∧ gn b.1 ≤ 2 ^ dg b.1 := fun b hb => by
    have hm := List.mem_of_mem_take hb
    have := gen_le (hB.2.2 b hm).1 (odd_base ho hB hm) (gn_irr (hB.2.2 b hm).1 (odd_base ho hB hm))
    omega
  have h1 : ∀ e, e ∈ (bs.take i).map (fun b => gn b.1) → 1 ≤ e := fun e he => by
    obtain ⟨b, hb, rfl⟩ := List.mem_map.mp he
    exact (hg b hb).1
  have h2 : lcml ((bs.take i).map (fun b => gn b.1)) ≤ 2 ^ dsum (bs.take i) := Nat.le_trans (lcml_le h1) (nprod_pow (fun b hb => (hg b hb).2))
  have h3 : dsum (bs.take i) ≤ 31 := by
    have h4 := (dsum_le (okB_take hB i)).1
    have h5 : dg (pprod (rep (bs.take i))) ≤ dg a := by
      have e : rep bs = rep (bs.take i) ++ rep (bs.drop i) := by rw [← rep_append, List.take_append_drop]
      have h6 : pdvd (pprod (rep (bs.take i))) a := by
        rw [← hB.1.2.2.2 (show a ≠ 0 by omega), e, pprod_append]
        exact pdvd_cm_left _ _
      exact pdvd_dg (by omega) h6
    have := (dg_lt (show a ≠ 0 by omega)).mpr ha
    omega
  refine ⟨?_, Nat.le_trans h2 (Nat.pow_le_pow_right (by omega) h3)⟩
  have := lcml_odd (l := (bs.take i).map (fun b => gn b.1)) (fun e he => by
    obtain ⟨b, hb, rfl⟩ := List.mem_map.mp he
    have hm := List.mem_of_mem_take hb
    exact gen_odd (hB.2.2 b hm).1 (odd_base ho hB hm) (gn_irr (hB.2.2 b hm).1 (odd_base ho hB hm)))
  omega
theorem isA_fr {c : Nat} {L : List (Nat × Nat)} {C M : List Nat} {w w' : Wd} {bs : List (Nat × Nat)} (hA : isA c w bs) (h : fr L C M w w') (h1 : (c, 3) ∉ L ∧ (c, 4) ∉ L ∧ ∀ j, (c + 2, j) ∉ L) (h2 : c ∉ C ∧ c + 2 ∉ C) (h3 : c + 1 ∉ M) : isA c w' bs := by
  obtain ⟨a1, a2, a3⟩ := hA
  refine ⟨(h.1 c 3 h1.1 h2.1).trans a1, (h.1 c 4 h1.2.1 h2.1).trans a2, fun j hj => ⟨?_, ?_⟩⟩
  · rw [h.2 (c + 1) h3]; exact (a3 j hj).1
  · rw [h.1 (c + 2) j (h1.2.2 j) h2.2]; exact (a3 j hj).2
theorem sp_ofSplit {a : Nat} {bs : List (Nat × Nat)} {w0 : Wd} {P : Int64 → Wd → Prop} (ha : a < 2 ^ 32) (ho : a % 2 = 1) (hB : okB a bs) (hA0 : isA 10 w0 bs) (h : ∀ w', fr [(18, 1)] [] [19] w0 w' → isGen (ords a) (gn a) → gn a ≤ 2 ^ 31 → P (lN (gn a)) w') : cf_Orders_ofSplit 18 10 w0 P := by
  obtain ⟨hl1, hl2⟩ := okB_len ha hB
  have hgn : ∀ b, b ∈ bs → isGen (ords b.1) (gn b.1) := fun b hb => gn_irr (hB.2.2 b hb).1 (odd_base ho hB hb)
  have hgl : ∀ b, b ∈ bs → 1 ≤ gn b.1 ∧ gn b.1 ≤ 2 ^ dg b.1 := fun b hb => by
    have := gen_le (hB.2.2 b hb).1 (odd_base ho hB hb) (hgn b hb)
    omega
  have hmx : ∀ i, mxt (bs.take i) ≤ 31 := fun i => mxt_le (fun b hb => (okB_mem ha hB (List.mem_of_mem_take hb)).2.2.2)
  have hmxb : mxt bs ≤ 31 := by have := hmx bs.length; rw [List.take_of_length_le (Nat.le_refl _)] at this; exact this
  have tail : ∀ w, fr [(18, 1)] [] [19] w0 w → ∀ m t, 6 ≤ t + m → (t = 0 ∨ 2 ^ (t - 1) < mxt bs) → ∀ n, m < n → cf_Orders_ofSplit_L54 18 10 P n (lN (lcml (bs.map (fun b => gn b.1)) * 2 ^ t)) (nI (max 1 (mxt bs))) (nI (2 ^ t)) w := by
    intro w hf m
    induction m with
    | zero =>
      intro t ht h2 n hn
      rcases h2 with z | z
      · omega
      · have : 2 ^ 5 ≤ 2 ^ (t - 1) := Nat.pow_le_pow_right (by omega) (by omega)
        omega
    | succ m ih =>
      intro t ht h2 n hn
      obtain ⟨n, rfl⟩ : ∃ m, n = m + 1 := ⟨n - 1, by omega⟩
      show cf_Orders_ofSplit_B54 18 10 _ _ _ _ _ _
      unfold cf_Orders_ofSplit_B54
      have ht5 : t ≤ 5 := by
        rcases h2 with z | z
        · omega
        · refine Classical.byContradiction (fun hc => ?_)
          have : 2 ^ 5 ≤ 2 ^ (t - 1) := Nat.pow_le_pow_right (by omega) (by omega)
          omega
      have hpt : 2 ^ t ≤ 2 ^ 5 := Nat.pow_le_pow_right (by omega) ht5
      have hpt1 := Nat.pow_pos (n := t) (show 0 < 2 by omega)
      rw [nI_leI (by omega) (by omega)]
      refine ⟨fun z => ?_, fun z => ?_⟩
      · have hall := fun m => ords_all2 (m := m) ho hB hgn (show mxt bs ≤ 2 ^ t by omega) h2
        have hgen : isGen (ords a) (lcml (bs.map (fun b => gn b.1)) * 2 ^ t) := by
          refine ⟨?_, (hall _).mpr (Nat.dvd_refl _), fun m hm => (hall m).mp hm⟩
          have := lcm_take_bound (i := bs.length) ha ho hB
          rw [List.take_of_length_le (Nat.le_refl _)] at this
          exact Nat.mul_pos this.1 hpt1
        have e := gn_eq hgen
        have hb := ord_bound ha (by omega) hB hgl h2
        rw [← e] at hgen hb ⊢
        exact h w hf hgen hb
      · rintro _ rfl _ rfl
        have e1 : lN (lcml (bs.map (fun b => gn b.1)) * 2 ^ t) * (2 : Int64) = lN (lcml (bs.map (fun b => gn b.1)) * 2 ^ (t + 1)) := by
          rw [show (2 : Int64) = lN 2 from rfl, lN_mul, Nat.pow_succ, Nat.mul_assoc]
        have e2 : nI (2 ^ t) * (2 : Int32) = nI (2 ^ (t + 1)) := by rw [show (2 : Int32) = nI 2 from rfl, nI_mul, Nat.pow_succ]
        rw [e1, e2]
        exact ih (t + 1) (by omega) (Or.inr (by rw [Nat.add_sub_cancel]; omega)) n (by omega)
  have key : ∀ m i w, bs.length ≤ i + m → i ≤ bs.length → fr [(18, 1)] [] [19] w0 w → ∀ n, m < n → cf_Orders_ofSplit_L8 18 10 P n (lN (lcml ((bs.take i).map (fun b => gn b.1)))) (nI (max 1 (mxt (bs.take i)))) (nI i) w := by
    intro m
    have stop : ∀ w, fr [(18, 1)] [] [19] w0 w → ∀ n, 0 < n → cf_Orders_ofSplit_L8 18 10 P n (lN (lcml ((bs.take bs.length).map (fun b => gn b.1)))) (nI (max 1 (mxt (bs.take bs.length)))) (nI bs.length) w := by
      intro w hf n hn
      obtain ⟨n, rfl⟩ : ∃ m, n = m + 1 := ⟨n - 1, by omega⟩
      show cf_Orders_ofSplit_B8 _ _ _ _ _ _ _ _
      unfold cf_Orders_ofSplit_B8 cf_Factors_unlike
      have hA := isA_fr hA0 hf (by simp) (by simp) (by simp)
      show (w.1 10 3 ≤ nI bs.length → _) ∧ (¬ w.1 10 3 ≤ nI bs.length → _)
      rw [hA.1, nI_leI (by omega) (by omega), List.take_of_length_le (Nat.le_refl _)]
      refine ⟨fun _ => ⟨7, ?_⟩, fun z => absurd (Nat.le_refl _) z⟩
      have := tail w hf 6 0 (by omega) (Or.inl rfl) 7 (by omega)
      rw [Nat.pow_zero, Nat.mul_one] at this
      exact this
    induction m with
    | zero =>
      intro i w hi hil hf n hn
      have : i = bs.length := by omega
      subst this
      exact stop w hf n (by omega)
    | succ m ih =>
      intro i w hi hil hf n hn
      by_cases hie : i = bs.length
      · subst hie; exact stop w hf n (by omega)
      obtain ⟨n, rfl⟩ : ∃ m, n = m + 1 := ⟨n - 1, by omega⟩
      show cf_Orders_ofSplit_B8 _ _ _ _ _ _ _ _
      unfold cf_Orders_ofSplit_B8 cf_Factors_unlike
      have hib : i < bs.length := by omega
      have hA := isA_fr hA0 hf (by simp) (by simp) (by simp)
      show (w.1 10 3 ≤ nI i → _) ∧ (¬ w.1 10 3 ≤ nI i → _)
      rw [hA.1, nI_leI (by omega) (by omega)]
      refine ⟨fun z => absurd z (by omega), fun _ => sp_base hA (by omega) hib ?_⟩
      have hm := okB_mem ha hB (getDp_mem hib)
      have hne := odd_base ho hB (getDp_mem hib)
      have hglb := gen_le hm.2.1 hne (gn_irr hm.2.1 hne)
      have hdd := (dg_lt (irr_ne hm.2.1)).mpr hm.1
      have hpw : 2 ^ dg (bs.getD i (0, 0)).1 ≤ 2 ^ 31 := Nat.pow_le_pow_right (by omega) (by omega)
      have hlb := lcm_take_bound (i := i) ha ho hB
      refine sp_ofIrreducible hm.2.1 hne hm.1 (fun w2 k1 => sp_leastMultiple hlb.1 (by omega) (by omega) ?_)
      have hf2 := fr_trans hf k1
      have hA2 := isA_fr hA0 hf2 (by simp) (by simp) (by simp)
      refine sp_often hA2 (by omega) hib ?_
      rintro _ rfl _ rfl
      have hmi := hmx i
      rw [imax_nI (by omega) (by omega), nI_1, ← lcml_snoc, ← map_gn_succ (g := gn) hib, Nat.max_assoc, ← mxt_succ hib]
      exact ih (i + 1) w2 (by omega) (by omega) hf2 n (by omega)
  unfold cf_Orders_ofSplit
  exact ⟨bs.length + 1, key bs.length 0 w0 (by omega) (by omega) (fr_refl _ _ _ _) _ (by omega)⟩
