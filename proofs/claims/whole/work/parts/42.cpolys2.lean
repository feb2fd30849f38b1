-- powers, quotients, inverses ..
def ppow (a : Nat) : Nat → Nat
  | 0 => 1
  | n + 1 => cm a (ppow a n)
theorem ppow_add (a m n : Nat) : ppow a (m + n) = cm (ppow a m) (ppow a n) := by
  induction m with
  | zero => rw [Nat.zero_add, show ppow a 0 = 1 from rfl, one_cm]
  | succ m ih => rw [show m + 1 + n = (m + n) + 1 by omega]; simp only [ppow]; rw [ih, cm_assoc]
theorem ppow_mul (a m n : Nat) : ppow a (m * n) = ppow (ppow a m) n := by
  induction n with
  | zero => rfl
  | succ n ih => rw [Nat.mul_succ, ppow_add, ih, cm_comm]; rfl
theorem ppow_one (a : Nat) : ppow a 1 = a := cm_one a
theorem ppow_cm (a b n : Nat) : ppow (cm a b) n = cm (ppow a n) (ppow b n) := by
  induction n with
  | zero => exact (cm_one 1).symm
  | succ n ih =>
    simp only [ppow]
    rw [ih, cm_assoc, cm_assoc, cm_left_comm b (ppow a n)]
theorem pmod_ppow {f : Nat} (hf : f ≠ 0) (a n : Nat) : pmod (ppow (pmod a f) n) f = pmod (ppow a n) f := by
  induction n with
  | zero => rfl
  | succ n ih =>
    simp only [ppow]
    rw [pmod_mul_left hf, ← pmod_mul_right hf a, ih, pmod_mul_right hf]
theorem pmod_lt31 {f : Nat} (hf : f ≠ 0) (hf2 : f < 2 ^ 32) (a : Nat) : pmod a f < 2 ^ 31 :=
  Nat.lt_of_lt_of_le (pmod_lt hf a) (Nat.pow_le_pow_right (by omega) (by have := (dg_lt hf).mpr hf2; omega))
theorem shr_step (e k : Nat) : e >>> k = 2 * (e >>> (k + 1)) + (e.testBit k).toNat := by
  rw [Nat.shiftRight_succ, Nat.testBit_eq_decide_div_mod_eq, ← Nat.shiftRight_eq_div_pow]
  have : e >>> k % 2 = 0 ∨ e >>> k % 2 = 1 := by omega
  rcases this with h | h <;> simp [h] <;> omega
theorem sp_powerBy {a e f : Nat} {P : Int64 → Prop} (ha : a < 2 ^ 63) (he : e < 2 ^ 63) (hf : f < 2 ^ 32) (hf0 : f ≠ 0) (h : P (lN (pmod (ppow a e) f))) : cf_Polys_powerBy (lN a) (lN e) (lN f) P := by
  have hb := pmod_lt31 hf0 hf a
  have key : ∀ k, k ≤ 63 → ∀ n, k < n → cf_Polys_powerBy_L22 P n (lN e) (lN f) (lN (pmod a f)) (lN (pmod (ppow a (e >>> k)) f)) (nI k - 1) := by
    intro k
    induction k with
    | zero =>
      intro _ n hn
      obtain ⟨n, rfl⟩ : ∃ m, n = m + 1 := ⟨n - 1, by omega⟩
      show cf_Polys_powerBy_B22 _ _ _ _ _ _ _
      unfold cf_Polys_powerBy_B22
      exact ⟨fun _ => by simpa using h, fun c => absurd nIm_neg c⟩
    | succ k ih =>
      intro hk n hn
      obtain ⟨n, rfl⟩ : ∃ m, n = m + 1 := ⟨n - 1, by omega⟩
      show cf_Polys_powerBy_B22 _ _ _ _ _ _ _
      unfold cf_Polys_powerBy_B22
      refine ⟨fun c => absurd c (nIm_nn (by omega)), fun _ => ?_⟩
      have hp := pmod_lt31 hf0 hf (ppow a (e >>> (k + 1)))
      refine sp_square (by omega) (sp_remainder (cm_bd (by omega) (by omega)) (by omega) ?_)
      have ih := ih (by omega) n (by omega)
      have e2 : pmod (cm (pmod (ppow a (e >>> (k + 1))) f) (pmod (ppow a (e >>> (k + 1))) f)) f = pmod (ppow a (2 * (e >>> (k + 1)))) f := by
        rw [pmod_mul_left hf0, pmod_mul_right hf0, ← ppow_add, Nat.two_mul]
      rw [e2, nI_pred, bit_lN he (by omega), m1_eq]
      rw [shr_step e k] at ih
      by_cases ht : e.testBit k = true
      · rw [ht]
        refine ⟨fun c => absurd c (by decide), fun _ => ?_⟩
        have hq := pmod_lt31 hf0 hf (ppow a (2 * (e >>> (k + 1))))
        refine sp_product (by omega) (sp_remainder (cm_bd (by omega) (by omega)) (by omega) ?_)
        rintro _ rfl
        rw [pmod_mul_left hf0, pmod_mul_right hf0, cm_comm]
        rw [ht] at ih
        exact ih
      · rw [Bool.not_eq_true] at ht
        rw [ht]
        refine ⟨fun _ => ?_, fun c => absurd rfl c⟩
        rintro _ rfl
        rw [ht] at ih
        exact ih
  unfold cf_Polys_powerBy
  refine sp_remainder ha (by omega) (sp_remainder (a := 1) (by decide) (by omega) (sp_degree he ⟨64, ?_⟩))
  have hz := sz_le63 he
  have := key (sz e) hz 64 (by omega)
  have hb0 : e >>> sz e = 0 := Nat.shiftRight_eq_zero _ _ (sz_lt e)
  rw [hb0] at this
  exact this
theorem or_xor {t k : Nat} : (t * 2 ^ (k + 1)) ||| 2 ^ k = (t * 2 ^ (k + 1)) ^^^ 2 ^ k := by
  apply Nat.eq_of_testBit_eq
  intro i
  rw [Nat.testBit_or, Nat.testBit_xor, Nat.testBit_mul_two_pow, Nat.testBit_two_pow]
  by_cases h : k = i
  · subst h
    simp
  · simp [h]
theorem pow_dvd_xor {t k : Nat} : ∃ t', (t * 2 ^ (k + 1)) ^^^ 2 ^ k = t' * 2 ^ k := by
  refine ⟨(t * 2) ^^^ 1, ?_⟩
  have e : t * 2 ^ (k + 1) = (t * 2) * 2 ^ k := by rw [Nat.pow_succ, Nat.mul_assoc, Nat.mul_comm 2]
  rw [e]
  have := Nat.shiftLeft_xor_distrib (a := t * 2) (b := 1) (i := k)
  rw [Nat.shiftLeft_eq, Nat.shiftLeft_eq, Nat.shiftLeft_eq, Nat.one_mul] at this
  exact this.symm
theorem dI_lt_dI {a f : Nat} (ha : a < 2 ^ 63) (hf : f < 2 ^ 63) (h0 : f ≠ 0) : dI a < dI f ↔ sz a < sz f := by
  rw [dI_pos h0]
  have h2 := (dg_lt h0).mpr hf
  by_cases h : a = 0
  · subst h
    rw [dI_zero, sz_zero, sz_pos h0]
    constructor
    · intro _; omega
    · intro _
      rw [Int32.lt_iff_toInt_lt, nI_toInt (by omega)]
      show (-1 : Int) < _
      omega
  · have h1 := (dg_lt h).mpr ha
    rw [dI_pos h, nI_ltI (by omega) (by omega), sz_pos h, sz_pos h0]
    omega
theorem sp_quotient {a f : Nat} {P : Int64 → Prop} (ha : a < 2 ^ 63) (hf : f < 2 ^ 63) (hf0 : f ≠ 0) (h : P (lN (pdiv a f))) : cf_Polys_quotient (lN a) (lN f) P := by
  have hfd := (dg_lt hf0).mpr hf
  have key : ∀ m, ∀ l q j, sz l ≤ m → j + sz l ≤ 63 → (∃ t, q = t * 2 ^ (sz l + 1 - sz f)) → q ^^^ pdiv l f = pdiv a f → ∀ n, m < n → cf_Polys_quotient_L15 P n (lN f) (dI f) (lN q) (lN l) (nI j) := by
    intro m
    induction m with
    | zero =>
      intro l q j hl hj _ he n hn
      obtain ⟨n, rfl⟩ : ∃ m, n = m + 1 := ⟨n - 1, by omega⟩
      have hl0 : l = 0 := by have := lt_of_szle hl; simp at this; exact this
      subst hl0
      rw [(pmod_stop (Or.inl (by rw [sz_zero, sz_pos hf0]; omega))).2, Nat.xor_zero] at he
      rw [← he] at h
      show cf_Polys_quotient_B15 _ _ _ _ _ _ _
      unfold cf_Polys_quotient_B15
      refine ⟨fun _ => h, fun _ => ⟨fun _ => h, fun c => ?_⟩⟩
      refine sp_degree (by decide) ⟨fun _ => h, fun c2 => ?_⟩
      exact absurd ((dI_lt_dI (by decide) hf hf0).mpr (by rw [sz_zero, sz_pos hf0]; omega)) c2
    | succ m ih =>
      intro l q j hl hj ht he n hn
      obtain ⟨n, rfl⟩ : ∃ m, n = m + 1 := ⟨n - 1, by omega⟩
      have hl63 : l < 2 ^ 63 := lt_of_szle (by omega)
      show cf_Polys_quotient_B15 _ _ _ _ _ _ _
      unfold cf_Polys_quotient_B15
      refine ⟨fun c => ?_, fun _ => ⟨fun c => ?_, fun c => ?_⟩⟩
      · have := (nI_leI (show 64 < 2 ^ 31 by decide) (show j < 2 ^ 31 by omega)).mp c
        omega
      · rw [dI_pos hf0] at c
        exact absurd c (nI_pos (by omega))
      · refine sp_degree hl63 ⟨fun c2 => ?_, fun c2 => sp_degree hl63 ?_⟩
        · rw [dI_lt_dI hl63 hf hf0] at c2
          rw [(pmod_stop (Or.inl c2)).2, Nat.xor_zero] at he
          rw [he]
          exact h
        · rw [dI_lt_dI hl63 hf hf0] at c2
          rintro _ rfl _ rfl _ rfl _ rfl
          have hl0 : l ≠ 0 := by rintro rfl; rw [sz_zero, sz_pos hf0] at c2; omega
          have hdd : dg f ≤ dg l := by rw [sz_pos hl0, sz_pos hf0] at c2; omega
          have hl3 := (dg_lt hl0).mpr hl63
          have e1 : dI l - dI f = nI (dg l - dg f) := by rw [dI_pos hl0, dI_pos hf0, pk_sub hdd]
          have hd := pm_dropsz hl0 hf0 hdd
          have hst := pmod_step hf0 hl0 hdd
          obtain ⟨t, rfl⟩ := ht
          have ez : sz l + 1 - sz f = dg l - dg f + 1 := by rw [sz_pos hl0, sz_pos hf0]; omega
          rw [ez] at he ⊢
          rw [e1, show (1 : Int64) = lN 1 from rfl, lshl_lN _ (by omega), lshl_lN _ (by omega), lN_xor, lN_or, nI_1, Nat.shiftLeft_eq, Nat.shiftLeft_eq, Nat.one_mul, or_xor]
          refine ih _ _ _ (by omega) (by omega) ?_ ?_ n (by omega)
          · obtain ⟨t', ht'⟩ := pow_dvd_xor (t := t) (k := dg l - dg f)
            rw [ht']
            refine ⟨t' * 2 ^ (dg l - dg f - (sz (l ^^^ f * 2 ^ (dg l - dg f)) + 1 - sz f)), ?_⟩
            rw [Nat.mul_assoc, ← Nat.pow_add]
            congr 2
            have hs := sz_sub hl0 hf0
            omega
          · rw [Nat.xor_assoc, ← hst.2]
            exact he
  unfold cf_Polys_quotient
  refine sp_degree hf ⟨65, ?_⟩
  have hs := sz_le.mpr ha
  exact key (sz a) a 0 0 (Nat.le_refl _) (by omega) ⟨0, by rw [Nat.zero_mul]⟩ (by rw [Nat.zero_xor]) 65 (by omega)
