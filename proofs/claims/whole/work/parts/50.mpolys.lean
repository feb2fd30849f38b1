-- the model's polynomials: the same values
theorem nIm_up (j : Nat) : nI j - 1 + (1 : Int32) = nI (j + 1) - 1 := by rw [nI_pred, Int32.sub_add_cancel]
theorem nIm_lt {s i : Nat} (hs : s < 2 ^ 30) (hi : i < 2 ^ 30) : nI s - 1 < nI i ↔ s ≤ i := by
  cases s with
  | zero =>
    refine ⟨fun _ => by omega, fun _ => ?_⟩
    rw [Int32.lt_iff_toInt_lt, nI_toInt (by omega)]
    show (-1 : Int) < _
    omega
  | succ s => rw [nI_pred, nI_ltI (by omega) (by omega)]; omega
theorem nIm_lt2 {s i : Nat} (hs : s < 2 ^ 30) (hi : i < 2 ^ 30) : nI i - 1 < nI s - 1 ↔ i < s := by
  cases s with
  | zero =>
    refine ⟨fun c => ?_, fun c => by omega⟩
    exfalso
    cases i with
    | zero => exact absurd c (by decide)
    | succ i =>
      rw [nI_pred, Int32.lt_iff_toInt_lt, nI_toInt (by omega)] at c
      have : (nI 0 - 1).toInt = -1 := by decide
      omega
  | succ s => rw [nI_pred, nIm_lt (by omega) (by omega)]; omega
theorem sz_shr1 {x : Nat} (h : x ≠ 0) : sz (x >>> 1) + 1 = sz x := by
  by_cases h1 : x = 1
  · subst h1; decide
  · have hs := dg_shr (a := x) (k := 1) (by omega)
    rw [sz_pos h, sz_pos hs.2.2, hs.1]
    omega
theorem mp_degree {a : Nat} {P : Int32 → Prop} (ha : a < 2 ^ 64) (h : P (dI a)) : cf_M_degree (lN a) P := by
  have hsz : sz a ≤ 64 := sz_le.mpr ha
  have key : ∀ m x j, sz x = m → x < 2 ^ 64 → j + m = sz a → ∀ n, m < n → cf_M_degree_L4 P n (nI j - 1) (lN x) := by
    intro m
    induction m with
    | zero =>
      intro x j hx hx64 hj n hn
      obtain ⟨n, rfl⟩ : ∃ m, n = m + 1 := ⟨n - 1, by omega⟩
      have hx0 : x = 0 := by have := lt_of_szle (Nat.le_of_eq hx); simp at this; exact this
      subst hx0
      show cf_M_degree_B4 _ _ _ _
      unfold cf_M_degree_B4
      refine ⟨fun _ => ?_, fun c => absurd rfl c⟩
      rw [show j = sz a by omega]
      exact h
    | succ m ih =>
      intro x j hx hx64 hj n hn
      obtain ⟨n, rfl⟩ : ∃ m, n = m + 1 := ⟨n - 1, by omega⟩
      have hx0 : x ≠ 0 := by rintro rfl; rw [sz_zero] at hx; omega
      show cf_M_degree_B4 _ _ _ _
      unfold cf_M_degree_B4
      refine ⟨fun c => ?_, fun _ => ?_⟩
      · exfalso
        have c := congrArg (fun y => y.toBitVec.toNat) c
        have c : (BitVec.ofNat 64 x).toNat = 0 := c
        rw [BitVec.toNat_ofNat, Nat.mod_eq_of_lt hx64] at c
        exact hx0 c
      · have e : lushr (lN x) (1 : Int32) = lN (x >>> 1) := lushr_lN (k := 1) hx64 (by omega)
        rw [e, nIm_up]
        rintro _ rfl _ rfl
        have h1 := sz_shr1 hx0
        exact ih (x >>> 1) (j + 1) (by omega) (Nat.lt_of_le_of_lt (Nat.shiftRight_le x 1) hx64) (by omega) n (by omega)
  unfold cf_M_degree
  refine ⟨65, ?_⟩
  exact key (sz a) a 0 rfl ha (by omega) 65 (by omega)
theorem mp_has {a k : Nat} {P : Int32 → Prop} (ha : a < 2 ^ 64) (hk : k < 64) (h : P (nI (a.testBit k).toNat)) : cf_M_has (lN a) (nI k) P := by
  unfold cf_M_has
  rw [ubit_lN ha hk]
  by_cases ht : a.testBit k = true
  · rw [ht] at h ⊢
    exact ⟨fun c => absurd rfl c, fun _ => h⟩
  · rw [Bool.not_eq_true] at ht
    rw [ht] at h ⊢
    exact ⟨fun _ => h, fun c => absurd c (by decide)⟩
/-- a bit asked: the two ways on -/
theorem mp_hasB {a k : Nat} {P : Int32 → Prop} (ha : a < 2 ^ 64) (hk : k < 64) (h1 : a.testBit k = true → P (nI 1)) (h0 : a.testBit k = false → P (nI 0)) : cf_M_has (lN a) (nI k) P := by
  refine mp_has ha hk ?_
  by_cases ht : a.testBit k = true
  · rw [ht]; exact h1 ht
  · rw [Bool.not_eq_true] at ht
    rw [ht]; exact h0 ht
theorem one_ne : ¬ nI 1 = (0 : Int32) := by decide
theorem mod_bit (b i : Nat) : b % 2 ^ (i + 1) = (b % 2 ^ i) ^^^ (if b.testBit i then 2 ^ i else 0) := by
  apply Nat.eq_of_testBit_eq
  intro j
  rw [Nat.testBit_xor, Nat.testBit_mod_two_pow, Nat.testBit_mod_two_pow]
  by_cases h : j = i
  · subst h
    by_cases ht : b.testBit j = true
    · simp [ht, Nat.testBit_two_pow]
    · simp [ht]
  · by_cases ht : b.testBit i = true
    · rw [if_pos ht, Nat.testBit_two_pow]
      have : decide (i = j) = false := by simp; omega
      rw [this, Bool.xor_false]
      have : decide (j < i + 1) = decide (j < i) := by simp; omega
      rw [this]
    · rw [if_neg ht, Nat.zero_testBit, Bool.xor_false]
      have : decide (j < i + 1) = decide (j < i) := by simp; omega
      rw [this]
theorem mod_sz (b : Nat) : b % 2 ^ sz b = b := Nat.mod_eq_of_lt (sz_lt b)
theorem mp_product {a b : Nat} {P : Int64 → Prop} (hb : b < 2 ^ 63) (h : P (lN (cm a b))) : cf_M_product (lN a) (lN b) P := by
  have hz := sz_le63 hb
  have key : ∀ m i, i + m = sz b → ∀ n, m < n → cf_M_product_L6 P n (lN a) (lN b) (lN (cm a (b % 2 ^ i))) (nI i) := by
    intro m
    induction m with
    | zero =>
      intro i hi n hn
      obtain ⟨n, rfl⟩ : ∃ m, n = m + 1 := ⟨n - 1, by omega⟩
      show cf_M_product_B6 _ _ _ _ _ _
      unfold cf_M_product_B6
      refine mp_degree (by omega) ⟨fun _ => ?_, fun c => absurd ((nIm_lt (by omega) (by omega)).mpr (by omega)) c⟩
      rw [show i = sz b by omega, mod_sz]
      exact h
    | succ m ih =>
      intro i hi n hn
      obtain ⟨n, rfl⟩ : ∃ m, n = m + 1 := ⟨n - 1, by omega⟩
      show cf_M_product_B6 _ _ _ _ _ _
      unfold cf_M_product_B6
      refine mp_degree (by omega) ⟨fun c => ?_, fun _ => ?_⟩
      · have c := (nIm_lt (by omega) (by omega)).mp c
        omega
      · have ih := ih (i + 1) (by omega) n (by omega)
        rw [mod_bit] at ih
        refine mp_hasB (by omega) (by omega) (fun ht => ⟨fun c => absurd c one_ne, fun _ => ?_⟩) (fun ht => ⟨fun _ => ?_, fun c => absurd rfl c⟩)
        · rw [lshl_lN _ (by omega), lN_xor, nI_1]
          rintro _ rfl _ rfl
          rw [if_pos ht, cm_xor_right, cm_pow_two] at ih
          rw [Nat.shiftLeft_eq]
          exact ih
        · rw [nI_1]
          rintro _ rfl
          rw [ht] at ih
          simp only [Bool.false_eq_true, ite_false, Nat.xor_zero] at ih
          exact ih
  unfold cf_M_product
  refine ⟨65, ?_⟩
  have := key (sz b) 0 (by omega) 65 (by omega)
  rw [Nat.pow_zero, Nat.mod_one, cm_zero] at this
  exact this
theorem szbit {l k : Nat} (h : sz l ≤ k + 1) (ht : l.testBit k = false) : sz l ≤ k := by
  rw [sz_le] at h ⊢
  apply Nat.lt_pow_two_of_testBit
  intro j hj
  by_cases e : j = k
  · subst e; exact ht
  · exact Nat.testBit_lt_two_pow (Nat.lt_of_lt_of_le h (Nat.pow_le_pow_right (by omega) (by omega)))
theorem szbit1 {l k : Nat} (h : sz l ≤ k + 1) (ht : l.testBit k = true) : l ≠ 0 ∧ dg l = k := by
  have h0 : l ≠ 0 := by rintro rfl; simp at ht
  have h1 := Nat.ge_two_pow_of_testBit ht
  rw [sz_pos h0] at h
  have h2 := (le_dg h0).mpr h1
  exact ⟨h0, by omega⟩
theorem mp_restOf {a f : Nat} {P : Int64 → Prop} (ha : a < 2 ^ 63) (hf : f < 2 ^ 63) (hf0 : f ≠ 0) (h : P (lN (pmod a f))) : cf_M_restOf (lN a) (lN f) P := by
  have hfz := sz_le63 hf
  have hfp := sz_pos hf0
  have key : ∀ i l, i ≤ 63 → sz l ≤ i → pmod l f = pmod a f → ∀ n, i < n → cf_M_restOf_L16 P n (lN f) (dI f) (lN l) (nI i - 1) := by
    intro i
    induction i with
    | zero =>
      intro l hi hl he n hn
      obtain ⟨n, rfl⟩ : ∃ m, n = m + 1 := ⟨n - 1, by omega⟩
      show cf_M_restOf_B16 _ _ _ _ _ _
      unfold cf_M_restOf_B16
      refine ⟨fun _ => ?_, fun c => absurd ((nIm_lt2 (by omega) (by omega)).mpr (by omega)) c⟩
      rw [(pmod_stop (Or.inl (by omega))).1] at he
      rw [he]
      exact h
    | succ i ih =>
      intro l hi hl he n hn
      obtain ⟨n, rfl⟩ : ∃ m, n = m + 1 := ⟨n - 1, by omega⟩
      have hl63 : l < 2 ^ 63 := lt_of_szle (by omega)
      show cf_M_restOf_B16 _ _ _ _ _ _
      unfold cf_M_restOf_B16
      refine ⟨fun c => ?_, fun c => ?_⟩
      · have c := (nIm_lt2 (by omega) (by omega)).mp c
        rw [(pmod_stop (Or.inl (by omega))).1] at he
        rw [he]
        exact h
      · have c : ¬ i + 1 < sz f := fun z => c ((nIm_lt2 (by omega) (by omega)).mpr z)
        rw [nI_pred, m1_eq]
        refine mp_hasB (by omega) (by omega) (fun ht => ⟨fun c => absurd c one_ne, fun _ => ?_⟩) (fun ht => ⟨fun _ => ?_, fun c => absurd rfl c⟩)
        · obtain ⟨hl0, hld⟩ := szbit1 hl ht
          have hdd : dg f ≤ dg l := by omega
          rw [dI_pos hf0, pk_sub (by omega), lshl_lN _ (by omega), lN_xor, Nat.shiftLeft_eq]
          rintro _ rfl _ rfl
          have hst := (pmod_step hf0 hl0 hdd).1
          have hdr := pm_dropsz hl0 hf0 hdd
          rw [sz_pos hl0] at hdr
          rw [hld] at hst hdr
          rw [← dI_pos hf0]
          exact ih _ (by omega) (by omega) (hst.symm.trans he) n (by omega)
        · rintro _ rfl
          exact ih _ (by omega) (szbit hl ht) he n (by omega)
  unfold cf_M_restOf
  refine mp_degree (by omega) (mp_degree (by omega) ⟨65, ?_⟩)
  have hs := sz_le63 ha
  exact key (sz a) a hs (Nat.le_refl _) rfl 65 (by omega)
theorem mp_quotient {a f : Nat} {P : Int64 → Prop} (ha : a < 2 ^ 63) (hf : f < 2 ^ 63) (hf0 : f ≠ 0) (h : P (lN (pdiv a f))) : cf_M_quotient (lN a) (lN f) P := by
  have hfz := sz_le63 hf
  have hfp := sz_pos hf0
  have key : ∀ i l q, i ≤ 63 → sz l ≤ i → (∃ t, q = t * 2 ^ (i + 1 - sz f)) → q ^^^ pdiv l f = pdiv a f → ∀ n, i < n → cf_M_quotient_L19 P n (lN f) (dI f) (lN l) (lN q) (nI i - 1) := by
    intro i
    induction i with
    | zero =>
      intro l q hi hl ht he n hn
      obtain ⟨n, rfl⟩ : ∃ m, n = m + 1 := ⟨n - 1, by omega⟩
      show cf_M_quotient_B19 _ _ _ _ _ _ _
      unfold cf_M_quotient_B19
      refine ⟨fun _ => ?_, fun c => absurd ((nIm_lt2 (by omega) (by omega)).mpr (by omega)) c⟩
      rw [(pmod_stop (Or.inl (by omega))).2, Nat.xor_zero] at he
      rw [he]
      exact h
    | succ i ih =>
      intro l q hi hl ht he n hn
      obtain ⟨n, rfl⟩ : ∃ m, n = m + 1 := ⟨n - 1, by omega⟩
      have hl63 : l < 2 ^ 63 := lt_of_szle (by omega)
      show cf_M_quotient_B19 _ _ _ _ _ _ _
      unfold cf_M_quotient_B19
      refine ⟨fun c => ?_, fun c => ?_⟩
      · have c := (nIm_lt2 (by omega) (by omega)).mp c
        rw [(pmod_stop (Or.inl (by omega))).2, Nat.xor_zero] at he
        rw [he]
        exact h
      · have c : ¬ i + 1 < sz f := fun z => c ((nIm_lt2 (by omega) (by omega)).mpr z)
        rw [nI_pred, m1_eq]
        have e2 : i + 1 + 1 - sz f = i - dg f + 1 := by omega
        rw [e2] at ht
        obtain ⟨t, rfl⟩ := ht
        refine mp_hasB (by omega) (by omega) (fun ht => ⟨fun _ => ?_, fun c => absurd c one_ne⟩) (fun ht => ⟨fun c => absurd rfl c, fun _ => ?_⟩)
        · obtain ⟨hl0, hld⟩ := szbit1 hl ht
          have hdd : dg f ≤ dg l := by omega
          have hst := (pmod_step hf0 hl0 hdd).2
          have hdr := pm_dropsz hl0 hf0 hdd
          rw [sz_pos hl0] at hdr
          rw [hld] at hst hdr
          rw [dI_pos hf0, pk_sub (by omega), lshl_lN _ (by omega), lN_xor, Nat.shiftLeft_eq, show (1 : Int64) = lN 1 from rfl, lshl_lN _ (by omega), lN_or, Nat.shiftLeft_eq, Nat.one_mul, or_xor]
          rintro _ rfl _ rfl _ rfl
          rw [← dI_pos hf0]
          refine ih _ _ (by omega) (by omega) ?_ ?_ n (by omega)
          · obtain ⟨t', ht'⟩ := pow_dvd_xor (t := t) (k := i - dg f)
            refine ⟨t', ?_⟩
            rw [ht']
            congr 2
            omega
          · rw [Nat.xor_assoc, ← hst]
            exact he
        · rintro _ rfl
          refine ih _ _ (by omega) (szbit hl ht) ?_ he n (by omega)
          refine ⟨t * 2, ?_⟩
          rw [Nat.mul_assoc, ← Nat.pow_succ']
          congr 2
          omega
  unfold cf_M_quotient
  refine mp_degree (by omega) (mp_degree (by omega) ⟨65, ?_⟩)
  have hs := sz_le63 ha
  exact key (sz a) a 0 hs (Nat.le_refl _) ⟨0, by rw [Nat.zero_mul]⟩ (by rw [Nat.zero_xor]) 65 (by omega)
theorem mp_commonOf {a b : Nat} {P : Int64 → Prop} (ha : a < 2 ^ 63) (hb : b < 2 ^ 63) (h : P (lN (pgcd a b))) : cf_M_commonOf_W (lN a) (lN b) P := by
  have key : ∀ m, ∀ x z, sz z ≤ m → x < 2 ^ 63 → z < 2 ^ 63 → ∀ P : Int64 → Prop, P (lN (pgcd x z)) → ∀ n, m < n → cf_M_commonOf n (lN x) (lN z) P := by
    intro m
    induction m with
    | zero =>
      intro x z hz hx hz63 P h n hn
      obtain ⟨n, rfl⟩ : ∃ m, n = m + 1 := ⟨n - 1, by omega⟩
      have hz0 : z = 0 := by have := lt_of_szle hz; simp at this; exact this
      subst hz0
      rw [pgcd_zero] at h
      show cf_M_commonOf_E _ _ _ _
      unfold cf_M_commonOf_E
      exact ⟨fun c => absurd rfl c, fun _ => h⟩
    | succ m ih =>
      intro x z hz hx hz63 P h n hn
      obtain ⟨n, rfl⟩ : ∃ m, n = m + 1 := ⟨n - 1, by omega⟩
      show cf_M_commonOf_E _ _ _ _
      unfold cf_M_commonOf_E
      refine ⟨fun c => ?_, fun c => ?_⟩
      · have hz0 : z ≠ 0 := fun q => c (by rw [q]; rfl)
        refine mp_restOf hx hz63 hz0 ?_
        have h1 := pmod_szlt hz0 x
        rw [pgcd_step x hz0] at h
        exact ih z (pmod x z) (by omega) hz63 (pmod_bd hx) _ h n (by omega)
      · have hz0 : z = 0 := (lN_eq0 hz63).mp c
        subst hz0
        rw [pgcd_zero] at h
        exact h
  have hs := sz_le63 hb
  exact ⟨80, Nat.le_refl _, key (sz b) a b (Nat.le_refl _) ha hb P h 80 (by omega)⟩
theorem mp_timesBy {a b f : Nat} {P : Int64 → Prop} (ha : a < 2 ^ 63) (hb : b < 2 ^ 63) (hf : f < 2 ^ 32) (hf0 : f ≠ 0) (h : P (lN (pmod (cm a b) f))) : cf_M_timesBy (lN a) (lN b) (lN f) P := by
  unfold cf_M_timesBy
  have h1 := pmod_lt31 hf0 hf a
  have h2 := pmod_lt31 hf0 hf b
  refine mp_restOf ha (by omega) hf0 (mp_restOf hb (by omega) hf0 (mp_product (by omega) (mp_restOf (cm_bd (by omega) (by omega)) (by omega) hf0 ?_)))
  rw [pmod_mul_left hf0, pmod_mul_right hf0]
  exact h
theorem mp_powerBy {a e f : Nat} {P : Int64 → Prop} (ha : a < 2 ^ 63) (he : e < 2 ^ 63) (hf : f < 2 ^ 32) (hf0 : f ≠ 0) (h : P (lN (pmod (ppow a e) f))) : cf_M_powerBy (lN a) (lN e) (lN f) P := by
  have key : ∀ k, k ≤ 63 → ∀ n, k < n → cf_M_powerBy_L14 P n (lN a) (lN e) (lN f) (lN (pmod (ppow a (e >>> k)) f)) (nI k - 1) := by
    intro k
    induction k with
    | zero =>
      intro _ n hn
      obtain ⟨n, rfl⟩ : ∃ m, n = m + 1 := ⟨n - 1, by omega⟩
      show cf_M_powerBy_B14 _ _ _ _ _ _ _
      unfold cf_M_powerBy_B14
      exact ⟨fun _ => h, fun c => absurd nIm_neg c⟩
    | succ k ih =>
      intro hk n hn
      obtain ⟨n, rfl⟩ : ∃ m, n = m + 1 := ⟨n - 1, by omega⟩
      show cf_M_powerBy_B14 _ _ _ _ _ _ _
      unfold cf_M_powerBy_B14
      refine ⟨fun c => absurd c (nIm_nn (by omega)), fun _ => ?_⟩
      have hp := pmod_lt31 hf0 hf (ppow a (e >>> (k + 1)))
      refine mp_timesBy (by omega) (by omega) hf hf0 ?_
      have ih := ih (by omega) n (by omega)
      have e2 : pmod (cm (pmod (ppow a (e >>> (k + 1))) f) (pmod (ppow a (e >>> (k + 1))) f)) f = pmod (ppow a (2 * (e >>> (k + 1)))) f := by
        rw [pmod_mul_left hf0, pmod_mul_right hf0, ← ppow_add, Nat.two_mul]
      rw [e2, nI_pred, m1_eq]
      rw [shr_step e k] at ih
      refine mp_hasB (by omega) (by omega) (fun ht => ⟨fun c => absurd c one_ne, fun _ => ?_⟩) (fun ht => ⟨fun _ => ?_, fun c => absurd rfl c⟩)
      · have hq := pmod_lt31 hf0 hf (ppow a (2 * (e >>> (k + 1))))
        refine mp_timesBy (by omega) (by omega) hf hf0 ?_
        rintro _ rfl
        rw [pmod_mul_left hf0, cm_comm]
        rw [ht] at ih
        exact ih
      · rintro _ rfl
        rw [ht] at ih
        exact ih
  unfold cf_M_powerBy
  refine mp_restOf (a := 1) (by decide) (by omega) hf0 (mp_degree (by omega) ⟨64, ?_⟩)
  have hz := sz_le63 he
  have := key (sz e) hz 64 (by omega)
  have hb0 : e >>> sz e = 0 := Nat.shiftRight_eq_zero _ _ (sz_lt e)
  rw [hb0] at this
  exact this
theorem mp_insideBy {a g f : Nat} {P : Int64 → Prop} (ha : a < 2 ^ 63) (hg : g < 2 ^ 63) (hf : f < 2 ^ 32) (hf1 : f ≠ 0) (h : P (lN (pmod (pcomp a g) f))) : cf_M_insideBy (lN a) (lN g) (lN f) P := by
  have key : ∀ k, k ≤ 63 → ∀ n, k < n → cf_M_insideBy_L9 P n (lN a) (lN g) (lN f) (lN (pmod (pcomp (a >>> k) g) f)) (nI k - 1) := by
    intro k
    induction k with
    | zero =>
      intro _ n hn
      obtain ⟨n, rfl⟩ : ∃ m, n = m + 1 := ⟨n - 1, by omega⟩
      show cf_M_insideBy_B9 _ _ _ _ _ _ _
      unfold cf_M_insideBy_B9
      exact ⟨fun _ => h, fun c => absurd nIm_neg c⟩
    | succ k ih =>
      intro hk n hn
      obtain ⟨n, rfl⟩ : ∃ m, n = m + 1 := ⟨n - 1, by omega⟩
      show cf_M_insideBy_B9 _ _ _ _ _ _ _
      unfold cf_M_insideBy_B9
      refine ⟨fun c => absurd c (nIm_nn (by omega)), fun _ => ?_⟩
      have hp := pmod_lt31 hf1 hf (pcomp (a >>> (k + 1)) g)
      refine mp_timesBy (by omega) hg hf hf1 ?_
      have ih := ih (by omega) n (by omega)
      rw [pcomp_shr] at ih
      rw [nI_pred, m1_eq]
      refine mp_hasB (by omega) (by omega) (fun ht => ⟨fun c => absurd c one_ne, fun _ => ?_⟩) (fun ht => ⟨fun _ => ?_, fun c => absurd rfl c⟩)
      · refine mp_restOf (a := 1) (by decide) (by omega) hf1 ?_
        rintro _ rfl _ rfl
        rw [lN_xor, pmod_mul_left hf1, ← pmod_xor hf1]
        rw [ht] at ih
        exact ih
      · rintro _ rfl _ rfl
        rw [L0, lN_xor, pmod_mul_left hf1]
        rw [ht] at ih
        rw [Bool.toNat_false, Nat.xor_zero] at ih
        rw [Nat.xor_zero]
        exact ih
  unfold cf_M_insideBy
  refine mp_degree (by omega) ⟨64, ?_⟩
  have hz := sz_le63 ha
  have := key (sz a) hz 64 (by omega)
  have hb0 : a >>> sz a = 0 := Nat.shiftRight_eq_zero _ _ (sz_lt a)
  rw [hb0, pcomp_zero, pmod_zero] at this
  exact this
theorem mp_movedOf {a : Nat} {P : Int64 → Prop} (ha : a < 2 ^ 63) (h : P (lN (pcomp a 3))) : cf_M_movedOf (lN a) P := by
  have key : ∀ k, k ≤ 63 → ∀ n, k < n → cf_M_movedOf_L8 P n (lN a) (lN (pcomp (a >>> k) 3)) (nI k - 1) := by
    intro k
    induction k with
    | zero =>
      intro _ n hn
      obtain ⟨n, rfl⟩ : ∃ m, n = m + 1 := ⟨n - 1, by omega⟩
      show cf_M_movedOf_B8 _ _ _ _ _
      unfold cf_M_movedOf_B8
      exact ⟨fun _ => h, fun c => absurd nIm_neg c⟩
    | succ k ih =>
      intro hk n hn
      obtain ⟨n, rfl⟩ : ∃ m, n = m + 1 := ⟨n - 1, by omega⟩
      show cf_M_movedOf_B8 _ _ _ _ _
      unfold cf_M_movedOf_B8
      refine ⟨fun c => absurd c (nIm_nn (by omega)), fun _ => ?_⟩
      refine mp_product (b := 3) (by decide) ?_
      have ih := ih (by omega) n (by omega)
      rw [pcomp_shr] at ih
      rw [nI_pred, m1_eq]
      refine mp_hasB (by omega) (by omega) (fun ht => ⟨fun c => absurd c one_ne, fun _ => ?_⟩) (fun ht => ⟨fun _ => ?_, fun c => absurd rfl c⟩)
      · rintro _ rfl _ rfl
        rw [L1, lN_xor]
        rw [ht] at ih
        exact ih
      · rintro _ rfl _ rfl
        rw [L0, lN_xor]
        rw [ht] at ih
        exact ih
  unfold cf_M_movedOf
  refine mp_degree (by omega) ⟨64, ?_⟩
  have hz := sz_le63 ha
  have := key (sz a) hz 64 (by omega)
  have hb0 : a >>> sz a = 0 := Nat.shiftRight_eq_zero _ _ (sz_lt a)
  rw [hb0, pcomp_zero] at this
  exact this
theorem mp_tri {n k : Nat} {P : Int64 → Prop} (hn : n < 64) (hk : k < 64) (h : P (lN ((2 ^ n ||| 2 ^ k) ||| 1))) : cf_M_tri (nI n) (nI k) P := by
  unfold cf_M_tri
  rw [L1, lshl_lN _ hn, lshl_lN _ hk, lN_or, lN_or, Nat.shiftLeft_eq, Nat.shiftLeft_eq, Nat.one_mul, Nat.one_mul]
  exact h
theorem mp_reversed {a : Nat} {P : Int64 → Prop} (ha : a < 2 ^ 63) (h : P (lN (prev a))) : cf_M_reversed (lN a) P := by
  by_cases h0 : a = 0
  · subst h0
    unfold cf_M_reversed
    refine mp_degree (by omega) ⟨1, ?_⟩
    show cf_M_reversed_B11 _ _ _ _ _ _
    unfold cf_M_reversed_B11
    exact ⟨fun _ => h, fun c => absurd (show dI 0 < (0 : Int32) by decide) c⟩
  have hd := (dg_lt h0).mpr ha
  have key : ∀ m k, k + m = sz a → ∀ n, m < n → cf_M_reversed_L11 P n (lN a) (lN (revN a (dg a) k)) (nI (dg a)) (nI k) := by
    intro m
    induction m with
    | zero =>
      intro k hk n hn
      obtain ⟨n, rfl⟩ : ∃ m, n = m + 1 := ⟨n - 1, by omega⟩
      show cf_M_reversed_B11 _ _ _ _ _ _
      unfold cf_M_reversed_B11
      rw [sz_pos h0] at hk
      refine ⟨fun _ => ?_, fun c => absurd ((nI_ltI (by omega) (by omega)).mpr (by omega)) c⟩
      unfold prev at h
      rw [sz_pos h0] at h
      rw [show k = dg a + 1 by omega]
      exact h
    | succ m ih =>
      intro k hk n hn
      obtain ⟨n, rfl⟩ : ∃ m, n = m + 1 := ⟨n - 1, by omega⟩
      have hk2 := hk
      rw [sz_pos h0] at hk2
      have ih := ih (k + 1) (by omega) n (by omega)
      show cf_M_reversed_B11 _ _ _ _ _ _
      unfold cf_M_reversed_B11
      refine ⟨fun c => ?_, fun _ => ?_⟩
      · have := (nI_ltI (by omega) (by omega)).mp c
        omega
      · refine mp_hasB (by omega) (by omega) (fun ht => ⟨fun c => absurd c one_ne, fun _ => ?_⟩) (fun ht => ⟨fun _ => ?_, fun c => absurd rfl c⟩)
        · rw [pk_sub (by omega), show (1 : Int64) = lN 1 from rfl, lshl_lN _ (by omega), lN_or, nI_1]
          rintro _ rfl _ rfl
          simp only [revN] at ih
          rw [ht] at ih
          exact ih
        · rw [nI_1]
          rintro _ rfl
          simp only [revN] at ih
          rw [ht, Bool.toNat_false, Nat.zero_shiftLeft, Nat.or_zero] at ih
          exact ih
  unfold cf_M_reversed
  refine mp_degree (by omega) ⟨65, ?_⟩
  rw [dI_pos h0]
  refine key (sz a) 0 (by omega) 65 (by rw [sz_pos h0]; omega)
