-- stays, count
def same01 {α : Type} (T : (α → Prop) → Prop) (M : (α → Wd → Prop) → Prop) : Prop :=
  ∀ G : α → Prop, (∀ r, (∀ F : α → Wd → Prop, (∀ w2, Inv w2 → F r w2) → M F) → G r) → T G
def same10 {α : Type} (T : (α → Wd → Prop) → Prop) (M : Wd → (α → Prop) → Prop) : Prop :=
  ∀ G : α → Wd → Prop, (∀ r w1, Inv w1 → (∀ F : α → Prop, F r → M w1 F) → G r w1) → T G
theorem triN_odd (n k : Nat) : triN n k % 2 = 1 := by
  have h : (triN n k).testBit 0 = true := by
    unfold triN
    rw [Nat.testBit_or]
    simp
  rw [Nat.testBit_zero] at h
  exact of_decide_eq_true h
theorem triN_dg {n k : Nat} (hk : k < n) : triN n k ≠ 0 ∧ dg (triN n k) = n := by
  have h1 : 2 ^ n ≤ triN n k := Nat.le_trans Nat.left_le_or Nat.left_le_or
  have h2 : triN n k < 2 ^ (n + 1) := Nat.or_lt_two_pow (Nat.or_lt_two_pow (Nat.pow_lt_pow_right (by omega) (by omega)) (Nat.pow_lt_pow_right (by omega) (by omega))) (Nat.one_lt_two_pow (by omega))
  have h3 : triN n k ≠ 0 := by
    have := Nat.pow_pos (n := n) (show 0 < 2 by omega)
    omega
  exact ⟨h3, (log2_iff h3).mpr ⟨h1, h2⟩⟩
/-- the law of risen ones: by the primes of m -/
def risenOk (e o : Nat) (ps : List Nat) : Prop := ∀ q, q ∈ ps → q ∣ e ∧ ¬ q ∣ o
theorem lrem0 {a b : Nat} (ha : a < 2 ^ 63) (h0 : 0 < b) (hb : b < 2 ^ 63) : lrem (lN a) (lN b) = (0 : Int64) ↔ b ∣ a := by
  rw [lrem_lN ha h0 hb, lN_eq0 (by have := Nat.mod_le a b; omega)]
  exact (Nat.dvd_iff_mod_eq_zero).symm
theorem sp_staysRisen {a m : Nat} {w0 : Wd} {P : Int32 → Wd → Prop} (ha : a < 2 ^ 32) (hi : irr a) (h2 : a ≠ 2) (hm : 1 ≤ m) (hm2 : m ≤ 1000)
    (h : ∀ w' ps, fr [(18, 1)] [] [19] w0 w' → isPL m ps → (risenOk (gn a) ((2 ^ dg a - 1) / gn a) ps → P 1 w') ∧ (¬ risenOk (gn a) ((2 ^ dg a - 1) / gn a) ps → P 0 w')) : cf_Orders_staysRisen 18 (lN a) (nI m) w0 P := by
  have hg := gen_le hi h2 (gn_irr hi h2)
  have hdd := (dg_lt (irr_ne hi)).mpr ha
  have hpw : 2 ^ dg a ≤ 2 ^ 31 := Nat.pow_le_pow_right (by omega) (by omega)
  unfold cf_Orders_staysRisen
  refine sp_ofIrreducible hi h2 ha (fun w1 k1 => ?_)
  rw [show (1 : Int64) = lN 1 from rfl, lN_leI (by omega) (by omega)]
  refine ⟨fun _ => sp_degree (by omega) ⟨lN_ne (b := 0) (by omega) (by decide) (by omega), ?_⟩, fun z => absurd hg.1 z⟩
  rw [dI_pos (irr_ne hi)]
  have e1 := ones_lN (d := dg a) (by omega)
  rw [show (1 : Int64) = lN 1 from rfl] at e1
  rw [e1, ldiv_lN (by omega) (by omega) (by omega), nI_l (by omega)]
  rintro _ rfl
  have hq := Nat.div_le_self (2 ^ dg a - 1) (gn a)
  generalize (2 ^ dg a - 1) / gn a = o at h hq
  generalize gn a = e at h hg
  refine sp_findPrimes hm (by omega) (fun w2 ps k2 k3 k4 k5 => ?_)
  have h := h w2 ps (fr_trans k1 k2) k3
  have key : ∀ m' i, ps.length ≤ i + m' → i ≤ ps.length → (∀ q, q ∈ ps.take i → q ∣ e ∧ ¬ q ∣ o) → ∀ n, m' < n → cf_Orders_staysRisen_L38 18 P n (lN e) (lN o) (nI i) w2 := by
    intro m'
    have stop : (∀ q, q ∈ ps.take ps.length → q ∣ e ∧ ¬ q ∣ o) → ∀ n, 0 < n → cf_Orders_staysRisen_L38 18 P n (lN e) (lN o) (nI ps.length) w2 := by
      intro ht n hn
      obtain ⟨n, rfl⟩ : ∃ m, n = m + 1 := ⟨n - 1, by omega⟩
      show cf_Orders_staysRisen_B38 _ _ _ _ _ _ _
      unfold cf_Orders_staysRisen_B38
      rw [k4.1, nI_leI (by omega) (by omega)]
      rw [take_len] at ht
      exact ⟨fun _ => h.1 ht, fun z => absurd (Nat.le_refl _) z⟩
    induction m' with
    | zero =>
      intro i hi' hil ht n hn
      have : i = ps.length := by omega
      subst this
      exact stop ht n (by omega)
    | succ m' ih =>
      intro i hi' hil ht n hn
      by_cases hie : i = ps.length
      · subst hie; exact stop ht n (by omega)
      obtain ⟨n, rfl⟩ : ∃ m, n = m + 1 := ⟨n - 1, by omega⟩
      show cf_Orders_staysRisen_B38 _ _ _ _ _ _ _
      unfold cf_Orders_staysRisen_B38
      have hil2 : i < ps.length := by omega
      have hqm := getD_mem hil2
      have hqp := (k3.1 _).mp hqm
      have hql := Nat.le_of_dvd (by omega) hqp.2
      have hts := take_snoc hil2
      rw [k4.1, nI_leI (by omega) (by omega)]
      refine ⟨fun z => absurd z (by omega), fun _ => ⟨fun z => absurd ((nI_leI (show 16 < 2 ^ 31 by decide) (by omega)).mp z) (by omega), fun _ => ⟨vp_in_nI (by omega) (by omega), ?_⟩⟩⟩
      rw [nI_clamp (by omega), k4.2 i hil2]
      rintro _ rfl
      generalize ps.getD i 0 = q at hqm hqp hql hts
      have hq2 := hqp.1.1
      have hq0 : ¬ lN q = (0 : Int64) := lN_ne (b := 0) (by omega) (by decide) (by omega)
      refine ⟨fun z => absurd ((lN_ltI (b := 2) (by omega) (by decide)).mp z) (by omega), fun _ => ⟨hq0, ?_⟩⟩
      rw [lrem0 (by omega) (by omega) (by omega), lrem0 (by omega) (by omega) (by omega)]
      refine ⟨fun z => h.2 (fun r => z (r q hqm).1), fun z1 => ⟨hq0, fun z2 => ?_, fun z2 => h.2 (fun r => (r q hqm).2 z2)⟩⟩
      rintro _ rfl
      rw [nI_1]
      refine ih (i + 1) (by omega) (by omega) (fun x hx => ?_) n (by omega)
      rw [hts] at hx
      rcases List.mem_append.mp hx with y | y
      · exact ht x y
      · rw [List.mem_singleton.mp y]; exact ⟨z1, z2⟩
  exact ⟨ps.length + 1, key ps.length 0 (by omega) (by omega) (fun q hq => absurd hq (by simp)) _ (by omega)⟩
theorem mp_staysLoop {e o : Nat} {ps : List Nat} {w : Wd} {P : Int32 → Wd → Prop} (he : e < 2 ^ 63) (ho : o < 2 ^ 63) (hp : ∀ q, q ∈ ps → 2 ≤ q ∧ q < 2 ^ 63) (hc : pst 30 9 36 w ps) (hl : ps.length ≤ 12) (h1 : risenOk e o ps → P 1 w) (h0 : ¬ risenOk e o ps → P 0 w) : ∃ n, cf_M_stays_L86 P n (lN e) (lN o) (0 : Int32) w := by
  have key : ∀ m' i, ps.length ≤ i + m' → i ≤ ps.length → (∀ q, q ∈ ps.take i → q ∣ e ∧ ¬ q ∣ o) → ∀ n, m' < n → cf_M_stays_L86 P n (lN e) (lN o) (nI i) w := by
    intro m'
    have stop : (∀ q, q ∈ ps.take ps.length → q ∣ e ∧ ¬ q ∣ o) → ∀ n, 0 < n → cf_M_stays_L86 P n (lN e) (lN o) (nI ps.length) w := by
      intro ht n hn
      obtain ⟨n, rfl⟩ : ∃ m, n = m + 1 := ⟨n - 1, by omega⟩
      show cf_M_stays_B86 _ _ _ _ _ _
      unfold cf_M_stays_B86
      rw [hc.1, nI_leI (by omega) (by omega)]
      rw [take_len] at ht
      exact ⟨fun _ => h1 ht, fun z => absurd (Nat.le_refl _) z⟩
    induction m' with
    | zero =>
      intro i hi' hil ht n hn
      have : i = ps.length := by omega
      subst this
      exact stop ht n (by omega)
    | succ m' ih =>
      intro i hi' hil ht n hn
      by_cases hie : i = ps.length
      · subst hie; exact stop ht n (by omega)
      obtain ⟨n, rfl⟩ : ∃ m, n = m + 1 := ⟨n - 1, by omega⟩
      show cf_M_stays_B86 _ _ _ _ _ _
      unfold cf_M_stays_B86
      have hil2 : i < ps.length := by omega
      have hqm := getD_mem hil2
      have hq := hp _ hqm
      have hts := take_snoc hil2
      rw [hc.1, nI_leI (by omega) (by omega)]
      refine ⟨fun z => absurd z (by omega), fun _ => ⟨vp_in_nI (by omega) (by omega), ?_⟩⟩
      rw [nI_clamp (by omega), hc.2 i hil2]
      generalize ps.getD i 0 = q at hqm hq hts
      have hq0 : ¬ lN q = (0 : Int64) := lN_ne (b := 0) (by omega) (by decide) (by omega)
      refine ⟨hq0, ?_⟩
      rw [lrem0 (by omega) (by omega) (by omega), lrem0 (by omega) (by omega) (by omega)]
      refine ⟨fun z => h0 (fun r => z (r q hqm).1), fun z1 => ⟨vp_in_nI (by omega) (by omega), hq0, fun z2 => ?_, fun z2 => h0 (fun r => (r q hqm).2 z2)⟩⟩
      rintro _ rfl
      rw [nI_1]
      refine ih (i + 1) (by omega) (by omega) (fun x hx => ?_) n (by omega)
      rw [hts] at hx
      rcases List.mem_append.mp hx with y | y
      · exact ht x y
      · rw [List.mem_singleton.mp y]; exact ⟨z1, z2⟩
  exact ⟨ps.length + 1, key ps.length 0 (by omega) (by omega) (fun q hq => absurd hq (by simp)) _ (by omega)⟩
theorem op_stays {w : Wd} (hI : Inv w) (a0 : Int32) (a1 : Int32) (a2 : Int32) : same1 (cf_T_stays a0 a1 a2 w) (cf_M_stays a0 a1 a2) := by
  intro G h
  obtain ⟨now, u, past, kb, shelf, hc⟩ := hI
  have hI := core_Inv hc
  unfold cf_T_stays
  rw [lt_k 1 (n := 1) (by decide), le_k 1000 (n := 1000) (by decide)]
  have mno : ¬ (1 ≤ a2.toInt ∧ a2.toInt ≤ 1000) → ∀ F : Int32 → Wd → Prop, F (-1) w → cf_M_stays a0 a1 a2 w F := by
    intro hn F hF
    unfold cf_M_stays
    exact inTri_c (m := 24) (by decide) (fun _ => ⟨fun _ => hF, fun _ => mp_inI (lo := 1) (hi := 1000) (by decide) (by decide) (fun q => absurd q hn) (fun _ => ⟨fun z => absurd rfl z, fun _ => hF⟩)⟩) (fun _ => ⟨hF, ⟨fun _ => hF, fun z => absurd rfl z⟩⟩)
  refine isTri_c (m := 24) (by decide) (fun q => ⟨fun z => absurd z one_ne', fun _ => ⟨fun c1 => both_stay hI h (fun F hF => mno (by omega) F hF), fun c1 => ⟨fun c2 => ?_, fun c2 => both_stay hI h (fun F hF => mno (by omega) F hF)⟩⟩⟩) (fun q => ⟨fun _ => both_stay hI h (fun F hF => ?_), fun z => absurd rfl z⟩)
  · obtain ⟨n, hn, rfl, en⟩ := nat_of (a := a0) (by omega)
    obtain ⟨k, hk, rfl, ek⟩ := nat_of (a := a1) (by omega)
    obtain ⟨m, hm, rfl, em⟩ := nat_of (a := a2) (by omega)
    have hlt := triN_lt (n := n) (k := k) (by omega) (by omega)
    obtain ⟨ht0, htd⟩ := triN_dg (n := n) (k := k) (by omega)
    have hto := triN_odd n k
    have pre : ∀ (w1 : Wd) (F : Int32 → Wd → Prop), core w1 now u past kb shelf → (∀ w2, core w2 now u past kb shelf → irr (triN n k) → cf_M_orderOf (lN (triN n k)) w2 (fun r7 w8 => cf_M_allOnes (nI n) (fun r9 => ¬ r7 = 0 ∧ ∀ v10, v10 = r9 / r7 → cf_M_laysPrimes (nI m).toInt64 w8 (fun w11 => ∃ n, cf_M_stays_L86 F n r7 v10 (0 : Int32) w11)))) → (∀ w2, core w2 now u past kb shelf → ¬ irr (triN n k) → F (-2) w2) → cf_M_stays (nI n) (nI k) (nI m) w1 F := by
      intro w1 F hc1 f1 f0
      unfold cf_M_stays
      refine inTri_c (m := 24) (by decide) (fun _ => ⟨fun z => absurd z one_ne', fun _ => mp_inI (lo := 1) (hi := 1000) (by decide) (by decide) (fun _ => ⟨fun _ => ?_, fun z => absurd z one_ne'⟩) (fun y => absurd ⟨by omega, by omega⟩ y)⟩) (fun y => absurd q y)
      refine mp_tri (by omega) (by omega) ?_
      exact mp_isIrr (a := triN n k) (core_cache hc1) hlt (fun w2 j1 j2 j3 => ⟨fun _ => f1 w2 (core_kp hc1 j1 j2) j3, fun z => absurd z one_ne'⟩) (fun w2 j1 j2 j3 => ⟨fun z => absurd rfl z, fun _ => f0 w2 (core_kp hc1 j1 j2) j3⟩)
    refine sp_tri (by omega) (by omega) ?_
    refine sp_isIrr (a := triN n k) hlt (fun hi => ⟨fun _ => ?_, fun z => absurd z one_ne'⟩) (fun hi => ⟨fun z => absurd rfl z, fun _ => h _ _ (fun F hF => pre w F hc (fun w2 _ y => absurd y hi) (fun w2 hc2 _ => hF w2 (core_Inv hc2)))⟩)
    · have hne : triN n k ≠ 2 := by omega
      have hg := gen_le hi hne (gn_irr hi hne)
      rw [htd] at hg
      have hpw : 2 ^ n ≤ 2 ^ 24 := Nat.pow_le_pow_right (by omega) (by omega)
      obtain ⟨bs, hB⟩ := okB_exists ht0
      refine sp_staysRisen (a := triN n k) hlt hi hne (by omega) (by omega) (fun w1 ps k1 k2 => ?_)
      rw [htd]
      have hc1 := core_cls hc (Or.inl rfl) k1
      have mo : ∀ (F : Int32 → Wd → Prop), (∀ w2, Inv w2 → (risenOk (gn (triN n k)) ((2 ^ n - 1) / gn (triN n k)) ps → F 1 w2) ∧ (¬ risenOk (gn (triN n k)) ((2 ^ n - 1) / gn (triN n k)) ps → F 0 w2)) → cf_M_stays (nI n) (nI k) (nI m) w1 F := by
        intro F hF
        refine pre w1 F hc1 (fun w2 hc2 _ => ?_) (fun w2 _ y => absurd hi y)
        refine mp_orderOf hc2 hlt hto hi.1 hB (fun w3 j1 j2 => mp_allOnes (by omega) ⟨lN_ne (b := 0) (by omega) (by decide) (by omega), ?_⟩)
        rw [ldiv_lN (by omega) (by omega) (by omega), nI_l (by omega)]
        rintro _ rfl
        refine mp_laysPrimes (by omega) (by omega) (fun w4 ps' q1 q2 q3 q4 => ?_)
        have e := isPL_unique q2 k2
        subst e
        have hkp : kp w3 w4 := kp_fr q1 (by decide) (fun k hk => absurd hk (by simp)) (by decide)
        have hc4 := core_kp j2 hkp (cache_kc (kc_fr q1 (by decide) (by decide) (by decide)) (core_cache j2))
        have hdl := Nat.div_le_self (2 ^ n - 1) (gn (triN n k))
        refine mp_staysLoop (by omega) (by omega) (fun x hx => ?_) q3 q4 (hF w4 (core_Inv hc4)).1 (hF w4 (core_Inv hc4)).2
        have := (q2.1 x).mp hx
        have h3 := Nat.le_of_dvd (by omega) this.2
        exact ⟨this.1.1, by omega⟩
      exact ⟨fun r => ⟨fun z => absurd z one_ne', fun _ => h _ _ (fun F hF => mo F (fun w2 i => ⟨fun _ => hF w2 i, fun y => absurd r y⟩))⟩, fun r => ⟨fun _ => h _ _ (fun F hF => mo F (fun w2 i => ⟨fun y => absurd y r, fun _ => hF w2 i⟩)), fun z => absurd rfl z⟩⟩

  · unfold cf_M_stays
    exact inTri_c (m := 24) (by decide) (fun y => absurd y q) (fun _ => ⟨hF, ⟨fun _ => hF, fun z => absurd rfl z⟩⟩)
theorem choose10 {p : Nat → Nat → Prop} (h : ∀ k, k < 10 → ∃ a, p k a) : ∃ f : Nat → Nat, ∀ k, k < 10 → p k (f k) := ⟨fun k => Classical.epsilon (p k), fun k hk => Classical.epsilon_spec (h k hk)⟩
noncomputable def pset (Q : Nat → Prop) : Nat → Int32
  | 0 => 0
  | k + 1 => @ite Int32 (Q k) (Classical.propDecidable _) (pset Q k ||| ishl 1 (nI k)) (pset Q k)
theorem pset_yes {Q : Nat → Prop} {k : Nat} (h : Q k) : pset Q (k + 1) = pset Q k ||| ishl 1 (nI k) := @if_pos _ (Classical.propDecidable _) h _ _ _
theorem pset_no {Q : Nat → Prop} {k : Nat} (h : ¬ Q k) : pset Q (k + 1) = pset Q k := @if_neg _ (Classical.propDecidable _) h _ _ _
theorem or_zero32 (a : Int32) : a ||| 0 = a := I_inj (by show a.toBitVec ||| 0#32 = a.toBitVec; exact BitVec.or_zero)
def wsum (f : Nat → Nat) : Nat → Nat
  | 0 => 0
  | k + 1 => wsum f k + wt (f k)
theorem mp_placesThat {w0 : Wd} {now : Nat → Int64} {u : Nat} {past : Nat → Nat → Int64} {kb : Nat → Bool} {shelf : Nat → Nat → Int64} (hc : core w0 now u past kb shelf) {f : Nat → Nat} (hf : ∀ k, k < 10 → f k < 2 ^ 32 ∧ now k = lN (f k)) {b : Int32} {Q : Nat → Prop} {P : Int32 → Wd → Prop} (hQ0 : b = 0 → ∀ k, Q k ↔ f k ≠ 0) (hQ1 : ¬ b = 0 → ∀ k, Q k ↔ irr (f k)) (h : ∀ w', core w' now u past kb shelf → P (pset Q 10) w') : cf_M_placesThat b w0 P := by
  have key : ∀ m k w, k + m = 10 → core w now u past kb shelf → ∀ n, m < n → cf_M_placesThat_L4 P n b (pset Q k) (nI k) w := by
    intro m
    induction m with
    | zero =>
      intro k w hk hcw n hn
      obtain ⟨n, rfl⟩ : ∃ m, n = m + 1 := ⟨n - 1, by omega⟩
      show cf_M_placesThat_B4 _ _ _ _ _ _
      unfold cf_M_placesThat_B4
      have : k = 10 := by omega
      subst this
      exact ⟨fun _ => h w hcw, fun z => absurd (show (10 : Int32) ≤ nI 10 by decide) z⟩
    | succ m ih =>
      intro k w hk hcw n hn
      obtain ⟨n, rfl⟩ : ∃ m, n = m + 1 := ⟨n - 1, by omega⟩
      show cf_M_placesThat_B4 _ _ _ _ _ _
      unfold cf_M_placesThat_B4
      obtain ⟨f1, f2⟩ := hf k (by omega)
      refine ⟨fun z => absurd ((nI_leI (show 10 < 2 ^ 31 by decide) (show k < 2 ^ 31 by omega)).mp z) (by omega), fun _ => ⟨fun hb => ⟨vp_in_nI (by omega) (by omega), ?_⟩, fun hb => ⟨vp_in_nI (by omega) (by omega), ?_⟩⟩⟩
      · rw [nI_clamp (by omega), (core_poly' hcw (by omega) f2).2, lN_eq0 (by omega)]
        refine ⟨fun z => ?_, fun z => ?_⟩
        · rintro _ rfl _ rfl
          rw [nI_1, or_zero32, ← pset_no (fun q => (hQ0 hb k).mp q z)]
          exact ih (k + 1) w (by omega) hcw n (by omega)
        · rintro _ rfl _ rfl
          rw [nI_1, ← pset_yes ((hQ0 hb k).mpr z)]
          exact ih (k + 1) w (by omega) hcw n (by omega)
      · rw [nI_clamp (by omega), (core_poly' hcw (by omega) f2).2]
        refine mp_isIrr (core_cache hcw) f1 (fun w2 k1 k2 hi => ⟨fun z => absurd z one_ne', fun _ => ?_⟩) (fun w2 k1 k2 hi => ⟨fun _ => ?_, fun z => absurd rfl z⟩)
        · rintro _ rfl _ rfl
          rw [nI_1, ← pset_yes ((hQ1 hb k).mpr hi)]
          exact ih (k + 1) w2 (by omega) (core_kp hcw k1 k2) n (by omega)
        · rintro _ rfl _ rfl
          rw [nI_1, or_zero32, ← pset_no (fun q => hi ((hQ1 hb k).mp q))]
          exact ih (k + 1) w2 (by omega) (core_kp hcw k1 k2) n (by omega)
  unfold cf_M_placesThat
  exact ⟨11, key 10 0 w0 (by omega) hc 11 (by omega)⟩
theorem op_count {w : Wd} (hI : Inv w) (a0 : Int32) : same01 (cf_T_count a0 w) (cf_M_count a0 w) := by
  intro G h
  obtain ⟨now, u, past, kb, shelf, hc⟩ := hI
  have hI := core_Inv hc
  obtain ⟨f, hf⟩ := choose10 (p := fun k a => a < 2 ^ 32 ∧ now k = lN a) (fun k hk => by
    obtain ⟨a, ha, e0, -, -⟩ := core_poly hc hk
    exact ⟨a, ha, e0⟩)
  have cell : ∀ k, k < 10 → w.2 7 k = lN (f k) ∧ w.2 31 k = lN (f k) := fun k hk => core_poly' hc hk (hf k hk).2
  unfold cf_T_count
  have ne : ∀ (i j : Int32), a0 = i → i ≠ j → ¬ a0 = j := fun i j e n y => n (e.symm.trans y)
  refine ⟨fun z => ?_, fun z => ?_, fun z => ?_, fun z => ?_, fun z => ?_, fun z => ?_, fun z => ?_⟩
  · have key : ∀ m k, k + m = 10 → ∀ n, m < n → cf_Store_nonzeroPlaces_L4 w (fun r1 => G r1) n (pset (fun k => f k ≠ 0) k) (nI k) := by
      intro m
      induction m with
      | zero =>
        intro k hk n hn
        obtain ⟨n, rfl⟩ : ∃ m, n = m + 1 := ⟨n - 1, by omega⟩
        show cf_Store_nonzeroPlaces_B4 _ _ _ _ _
        unfold cf_Store_nonzeroPlaces_B4
        have : k = 10 := by omega
        subst this
        refine ⟨fun _ => h _ (fun F hF => ?_), fun z => absurd (show (10 : Int32) ≤ nI 10 by decide) z⟩
        unfold cf_M_count
        subst z
        exact ⟨fun _ => mp_placesThat hc hf (Q := fun k => f k ≠ 0) (fun _ k => Iff.rfl) (fun y => absurd rfl y) (fun w2 k1 => hF w2 (core_Inv k1)), fun y => absurd y (by decide), fun y => absurd y (by decide), fun y => absurd y (by decide), fun y => absurd y (by decide), fun y => absurd y (by decide), fun y => absurd y (by decide)⟩
      | succ m ih =>
        intro k hk n hn
        obtain ⟨n, rfl⟩ : ∃ m, n = m + 1 := ⟨n - 1, by omega⟩
        show cf_Store_nonzeroPlaces_B4 _ _ _ _ _
        unfold cf_Store_nonzeroPlaces_B4
        have hfk := (hf k (by omega)).1
        refine ⟨fun z => absurd ((nI_leI (show 10 < 2 ^ 31 by decide) (show k < 2 ^ 31 by omega)).mp z) (by omega), fun _ => sp_polyAt (by omega) ?_⟩
        rw [(cell k (by omega)).1, lN_eq0 (by omega)]
        refine ⟨fun y => ?_, fun y => ?_⟩
        · rintro _ rfl
          rw [nI_1, ← pset_no (Q := fun k => f k ≠ 0) (fun q => q y)]
          exact ih (k + 1) (by omega) n (by omega)
        · rintro _ rfl _ rfl
          rw [nI_1, ← pset_yes (Q := fun k => f k ≠ 0) y]
          exact ih (k + 1) (by omega) n (by omega)
    unfold cf_Store_nonzeroPlaces
    exact ⟨11, key 10 0 (by omega) 11 (by omega)⟩
  · refine h _ (fun F hF => ?_)
    unfold cf_M_count
    subst z
    refine ⟨fun y => absurd y (by decide), fun _ => ?_, fun y => absurd y (by decide), fun y => absurd y (by decide), fun y => absurd y (by decide), fun y => absurd y (by decide), fun y => absurd y (by decide)⟩
    have e1 := hc.1.2.2.1
    have e2 := hc.2.1.2.2.1
    rw [e2, ← e1]
    exact hF w hI
  · refine h _ (fun F hF => ?_)
    unfold cf_M_count
    subst z
    refine ⟨fun y => absurd y (by decide), fun y => absurd y (by decide), fun _ => ?_, fun y => absurd y (by decide), fun y => absurd y (by decide), fun y => absurd y (by decide), fun y => absurd y (by decide)⟩
    obtain ⟨t, ht, t1, t2, -⟩ := hc.2.2.2.2.2.1
    rw [t2, ← t1]
    exact hF w hI
  · refine h _ (fun F hF => ?_)
    unfold cf_M_count
    subst z
    refine ⟨fun y => absurd y (by decide), fun y => absurd y (by decide), fun y => absurd y (by decide), fun _ => ⟨vp_in_nI (n := 0) (by omega) (by omega), ?_⟩, fun y => absurd y (by decide), fun y => absurd y (by decide), fun y => absurd y (by decide)⟩
    have e1 := hc.1.2.2.2.2.1
    have m0 := hc.2.1.2.2.2.2.1 0 (by omega)
    have m1 := hc.2.1.2.2.2.2.1 1 (by omega)
    have z0 : (0 : Int32).toNatClampNeg = 0 := by decide
    have z1 : (1 : Int32).toNatClampNeg = 1 := by decide
    have hF := hF w hI
    rw [z0, z1, m0, m1]
    have e1' : w.1 6 5 = nI ((kb 0).toNat + 2 * (kb 1).toNat) := e1
    have hF' : F (nI ((kb 0).toNat + 2 * (kb 1).toNat)) w := by rw [← e1']; exact hF
    have v1 : vp_in (1 : Int32) 2 := vp_in_nI (n := 1) (by omega) (by omega)
    cases h0 : kb 0 <;> cases h1 : kb 1 <;> rw [h0, h1] at hF'
    · exact ⟨fun _ => ⟨v1, fun _ => hF', fun y => absurd rfl y⟩, fun y => absurd rfl y⟩
    · exact ⟨fun _ => ⟨v1, fun y => absurd y (by decide), fun _ => hF'⟩, fun y => absurd rfl y⟩
    · exact ⟨fun y => absurd y (by decide), fun _ => ⟨v1, fun _ => hF', fun y => absurd rfl y⟩⟩
    · exact ⟨fun y => absurd y (by decide), fun _ => ⟨v1, fun y => absurd y (by decide), fun _ => hF'⟩⟩
  · have key : ∀ m k, k + m = 10 → ∀ n, m < n → cf_Store_irreduciblePlaces_L4 w (fun r1 => G r1) n (pset (fun k => irr (f k)) k) (nI k) := by
      intro m
      induction m with
      | zero =>
        intro k hk n hn
        obtain ⟨n, rfl⟩ : ∃ m, n = m + 1 := ⟨n - 1, by omega⟩
        show cf_Store_irreduciblePlaces_B4 _ _ _ _ _
        unfold cf_Store_irreduciblePlaces_B4
        have : k = 10 := by omega
        subst this
        refine ⟨fun _ => h _ (fun F hF => ?_), fun z => absurd (show (10 : Int32) ≤ nI 10 by decide) z⟩
        unfold cf_M_count
        subst z
        exact ⟨fun y => absurd y (by decide), fun y => absurd y (by decide), fun y => absurd y (by decide), fun y => absurd y (by decide), fun _ => mp_placesThat hc hf (Q := fun k => irr (f k)) (fun y => absurd y (by decide)) (fun _ k => Iff.rfl) (fun w2 k1 => hF w2 (core_Inv k1)), fun y => absurd y (by decide), fun y => absurd y (by decide)⟩
      | succ m ih =>
        intro k hk n hn
        obtain ⟨n, rfl⟩ : ∃ m, n = m + 1 := ⟨n - 1, by omega⟩
        show cf_Store_irreduciblePlaces_B4 _ _ _ _ _
        unfold cf_Store_irreduciblePlaces_B4
        have hfk := (hf k (by omega)).1
        refine ⟨fun z => absurd ((nI_leI (show 10 < 2 ^ 31 by decide) (show k < 2 ^ 31 by omega)).mp z) (by omega), fun _ => sp_polyAt (by omega) ?_⟩
        rw [(cell k (by omega)).1]
        refine sp_isIrr hfk (fun hi => ⟨fun y => absurd y one_ne', fun _ => ?_⟩) (fun hi => ⟨fun _ => ?_, fun y => absurd rfl y⟩)
        · rintro _ rfl _ rfl
          rw [nI_1, ← pset_yes (Q := fun k => irr (f k)) hi]
          exact ih (k + 1) (by omega) n (by omega)
        · rintro _ rfl
          rw [nI_1, ← pset_no (Q := fun k => irr (f k)) hi]
          exact ih (k + 1) (by omega) n (by omega)
    unfold cf_Store_irreduciblePlaces
    exact ⟨11, key 10 0 (by omega) 11 (by omega)⟩
  · have mkey : ∀ (F : Int32 → Wd → Prop), F (nI (wsum f 10)) w → ∀ m k, k + m = 10 → ∀ n, m < n → cf_M_allWeights_L4 w (fun r5 => F r5 w) n (nI (wsum f k)) (nI k) := by
      intro F hF m
      induction m with
      | zero =>
        intro k hk n hn
        obtain ⟨n, rfl⟩ : ∃ m, n = m + 1 := ⟨n - 1, by omega⟩
        show cf_M_allWeights_B4 w (cf_M_allWeights_L4 w (fun r5 => F r5 w) n) (fun r5 => F r5 w) _ _
        unfold cf_M_allWeights_B4
        have : k = 10 := by omega
        subst this
        exact ⟨fun _ => hF, fun z => absurd (show (10 : Int32) ≤ nI 10 by decide) z⟩
      | succ m ih =>
        intro k hk n hn
        obtain ⟨n, rfl⟩ : ∃ m, n = m + 1 := ⟨n - 1, by omega⟩
        show cf_M_allWeights_B4 w (cf_M_allWeights_L4 w (fun r5 => F r5 w) n) (fun r5 => F r5 w) _ _
        unfold cf_M_allWeights_B4
        have hfk := (hf k (by omega)).1
        refine ⟨fun z => absurd ((nI_leI (show 10 < 2 ^ 31 by decide) (show k < 2 ^ 31 by omega)).mp z) (by omega), fun _ => ⟨vp_in_nI (by omega) (by omega), ?_⟩⟩
        rw [nI_clamp (by omega), (cell k (by omega)).2]
        refine mp_weight (by omega) ?_
        rintro _ rfl _ rfl
        rw [nI_1, nI_add]
        exact ih (k + 1) (by omega) n (by omega)
    have key : ∀ m k, k + m = 10 → ∀ n, m < n → cf_Store_allWeights_L4 w (fun r1 => G r1) n (nI (wsum f k)) (nI k) := by
      intro m
      induction m with
      | zero =>
        intro k hk n hn
        obtain ⟨n, rfl⟩ : ∃ m, n = m + 1 := ⟨n - 1, by omega⟩
        show cf_Store_allWeights_B4 _ _ _ _ _
        unfold cf_Store_allWeights_B4
        have : k = 10 := by omega
        subst this
        refine ⟨fun _ => h _ (fun F hF => ?_), fun z => absurd (show (10 : Int32) ≤ nI 10 by decide) z⟩
        unfold cf_M_count cf_M_allWeights
        subst z
        exact ⟨fun y => absurd y (by decide), fun y => absurd y (by decide), fun y => absurd y (by decide), fun y => absurd y (by decide), fun y => absurd y (by decide), fun _ => ⟨11, mkey F (hF w hI) 10 0 (by omega) 11 (by omega)⟩, fun y => absurd y (by decide)⟩
      | succ m ih =>
        intro k hk n hn
        obtain ⟨n, rfl⟩ : ∃ m, n = m + 1 := ⟨n - 1, by omega⟩
        show cf_Store_allWeights_B4 _ _ _ _ _
        unfold cf_Store_allWeights_B4
        have hfk := (hf k (by omega)).1
        refine ⟨fun z => absurd ((nI_leI (show 10 < 2 ^ 31 by decide) (show k < 2 ^ 31 by omega)).mp z) (by omega), fun _ => sp_polyAt (by omega) ?_⟩
        rw [(cell k (by omega)).1]
        refine sp_bitCount (by omega) ?_
        rintro _ rfl _ rfl
        rw [nI_1, nI_add]
        exact ih (k + 1) (by omega) n (by omega)
    unfold cf_Store_allWeights
    exact ⟨11, key 10 0 (by omega) 11 (by omega)⟩
  · refine h _ (fun F hF => ?_)
    have no : ∀ i : Int32, 0 ≤ i.toInt → i.toInt ≤ 5 → ¬ a0 = i := fun i h1 h2 e => by rw [e] at z; omega
    unfold cf_M_count
    exact ⟨fun y => absurd y (no 0 (by decide) (by decide)), fun y => absurd y (no 1 (by decide) (by decide)), fun y => absurd y (no 2 (by decide) (by decide)), fun y => absurd y (no 3 (by decide) (by decide)), fun y => absurd y (no 4 (by decide) (by decide)), fun y => absurd y (no 5 (by decide) (by decide)), fun _ => hF w hI⟩
