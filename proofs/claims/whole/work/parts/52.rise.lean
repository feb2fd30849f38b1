-- derivatives and x^k put in
theorem der_mask : ∀ j, j < 63 → Nat.testBit 6148914691236517205 j = decide (j % 2 = 0) := by decide +kernel
def pder (a : Nat) : Nat := (a >>> 1) &&& 6148914691236517205
theorem pder_bit {a : Nat} (ha : a < 2 ^ 63) (j : Nat) : (pder a).testBit j = (a.testBit (j + 1) && decide (j % 2 = 0)) := by
  unfold pder
  rw [Nat.testBit_and, Nat.testBit_shiftRight, Nat.add_comm 1 j]
  by_cases h : j < 63
  · rw [der_mask j h]
  · have : a.testBit (j + 1) = false := Nat.testBit_lt_two_pow (Nat.lt_of_lt_of_le ha (Nat.pow_le_pow_right (by omega) (by omega)))
    rw [this, Bool.false_and, Bool.false_and]
theorem mp_derived {a : Nat} {P : Int64 → Prop} (ha : a < 2 ^ 63) (h : P (lN (pder a))) : cf_M_derived (lN a) P := by
  have hz := sz_le63 ha
  have key : ∀ m i, 2 * i + 1 + m ≥ sz a + 2 → 2 * i < sz a + 2 → ∀ n, m < n → cf_M_derived_L5 P n (lN a) (lN (pder (a % 2 ^ (2 * i)))) (nI (2 * i + 1)) := by
    intro m
    induction m with
    | zero =>
      intro i hi hi2 n hn
      obtain ⟨n, rfl⟩ : ∃ m, n = m + 1 := ⟨n - 1, by omega⟩
      show cf_M_derived_B5 _ _ _ _ _
      unfold cf_M_derived_B5
      refine mp_degree (by omega) ⟨fun _ => ?_, fun c => absurd ((nIm_lt (by omega) (by omega)).mpr (by omega)) c⟩
      rw [Nat.mod_eq_of_lt (lt_of_szle (show sz a ≤ 2 * i by omega))]
      exact h
    | succ m ih =>
      intro i hi hi2 n hn
      obtain ⟨n, rfl⟩ : ∃ m, n = m + 1 := ⟨n - 1, by omega⟩
      show cf_M_derived_B5 _ _ _ _ _
      unfold cf_M_derived_B5
      refine mp_degree (by omega) ⟨fun c => ?_, fun c => ?_⟩
      · have c := (nIm_lt (by omega) (by omega)).mp c
        have e : pder (a % 2 ^ (2 * i)) = pder a := by
          apply Nat.eq_of_testBit_eq
          intro j
          rw [pder_bit (Nat.lt_of_le_of_lt (Nat.mod_le _ _) ha), pder_bit ha, Nat.testBit_mod_two_pow]
          by_cases hj : j + 1 < 2 * i
          · simp [hj]
          · by_cases hj2 : j + 1 < sz a
            · have : j % 2 = 1 := by omega
              simp [this]
            · have : a.testBit (j + 1) = false := Nat.testBit_lt_two_pow (lt_of_szle (by omega))
              rw [this]
              simp
        rw [e]
        exact h
      · have c : ¬ sz a ≤ 2 * i + 1 := fun z => c ((nIm_lt (by omega) (by omega)).mpr z)
        have ih := ih (i + 1) (by omega) (by omega) n (by omega)
        have e2 : nI (2 * i + 1) + (2 : Int32) = nI (2 * (i + 1) + 1) := nI_add (2 * i + 1) 2
        refine mp_hasB (by omega) (by omega) (fun ht => ⟨fun c => absurd c one_ne, fun _ => ?_⟩) (fun ht => ⟨fun _ => ?_, fun c => absurd rfl c⟩)
        · have e3 : nI (2 * i + 1) - (1 : Int32) = nI (2 * i) := nI_pred (2 * i)
          rw [e2, e3, show (1 : Int64) = lN 1 from rfl, lshl_lN _ (by omega), lN_or, Nat.shiftLeft_eq, Nat.one_mul]
          rintro _ rfl _ rfl
          have e : pder (a % 2 ^ (2 * i)) ||| 2 ^ (2 * i) = pder (a % 2 ^ (2 * (i + 1))) := by
            apply Nat.eq_of_testBit_eq
            intro j
            rw [Nat.testBit_or, pder_bit (Nat.lt_of_le_of_lt (Nat.mod_le _ _) ha), pder_bit (Nat.lt_of_le_of_lt (Nat.mod_le _ _) ha), Nat.testBit_mod_two_pow, Nat.testBit_mod_two_pow, Nat.testBit_two_pow]
            by_cases hj : j = 2 * i
            · subst hj
              rw [ht]
              simp
              omega
            · have h1 : decide (2 * i = j) = false := by simp; omega
              rw [h1, Bool.or_false]
              by_cases hp : j % 2 = 0
              · have h2 : decide (j + 1 < 2 * i) = decide (j + 1 < 2 * (i + 1)) := by simp; omega
                rw [h2]
              · simp [hp]
          rw [e]
          exact ih
        · rw [e2]
          rintro _ rfl
          have e : pder (a % 2 ^ (2 * i)) = pder (a % 2 ^ (2 * (i + 1))) := by
            apply Nat.eq_of_testBit_eq
            intro j
            rw [pder_bit (Nat.lt_of_le_of_lt (Nat.mod_le _ _) ha), pder_bit (Nat.lt_of_le_of_lt (Nat.mod_le _ _) ha), Nat.testBit_mod_two_pow, Nat.testBit_mod_two_pow]
            by_cases hj : j = 2 * i
            · subst hj
              rw [ht]
              simp
            · by_cases hp : j % 2 = 0
              · have h2 : decide (j + 1 < 2 * i) = decide (j + 1 < 2 * (i + 1)) := by simp; omega
                rw [h2]
              · simp [hp]
          rw [e]
          exact ih
  unfold cf_M_derived
  refine ⟨70, ?_⟩
  have := key 66 0 (by omega) (by omega) 70 (by omega)
  rw [Nat.mul_zero, Nat.pow_zero, Nat.mod_one] at this
  exact this
theorem pc_shl (a k g : Nat) : pcomp (a >>> k) (2 ^ g) <<< (k * g) = (if a.testBit k then 2 ^ (k * g) else 0) ^^^ (pcomp (a >>> (k + 1)) (2 ^ g)) <<< ((k + 1) * g) := by
  rw [pcomp_shr, Nat.shiftLeft_xor_distrib, cm_pow_two, ← Nat.shiftLeft_eq, ← Nat.shiftLeft_add, Nat.xor_comm, Nat.add_comm g, ← Nat.succ_mul]
  congr 1
  by_cases h : a.testBit k = true
  · rw [h]; simp [Nat.shiftLeft_eq]
  · rw [Bool.not_eq_true] at h
    rw [h]; simp
theorem nI_mul (a b : Nat) : nI a * nI b = nI (a * b) := by
  apply I_inj
  show (BitVec.ofNat 32 a * BitVec.ofNat 32 b) = BitVec.ofNat 32 (a * b)
  rw [BitVec.ofNat_mul]
theorem or_xor2 {x k g : Nat} (hg : 1 ≤ g) : (x <<< ((k + 1) * g)) ||| 2 ^ (k * g) = (x <<< ((k + 1) * g)) ^^^ 2 ^ (k * g) := by
  have e : x <<< ((k + 1) * g) = (x * 2 ^ (g - 1)) * 2 ^ (k * g + 1) := by
    rw [Nat.shiftLeft_eq, Nat.mul_assoc, ← Nat.pow_add]
    congr 2
    rw [Nat.succ_mul]
    omega
  rw [e, or_xor]
theorem sp_risen {a g : Nat} {P : Int64 → Prop} (ha : a < 2 ^ 63) (hg : 1 ≤ g) (hb : ∀ i, a.testBit i = true → i * g < 64) (hg2 : g < 2 ^ 20) (h : P (lN (pcomp a (2 ^ g)))) : cf_Polys_risen (lN a) (nI g) P := by
  have key : ∀ k, k ≤ 63 → ∀ n, k < n → cf_Polys_risen_L8 P n (lN a) (nI g) (lN (pcomp (a >>> k) (2 ^ g) <<< (k * g))) (nI k - 1) := by
    intro k
    induction k with
    | zero =>
      intro _ n hn
      obtain ⟨n, rfl⟩ : ∃ m, n = m + 1 := ⟨n - 1, by omega⟩
      show cf_Polys_risen_B8 _ _ _ _ _ _
      unfold cf_Polys_risen_B8
      refine ⟨fun _ => ?_, fun c => absurd nIm_neg c⟩
      rw [Nat.zero_mul, Nat.shiftLeft_zero]
      exact h
    | succ k ih =>
      intro hk n hn
      obtain ⟨n, rfl⟩ : ∃ m, n = m + 1 := ⟨n - 1, by omega⟩
      show cf_Polys_risen_B8 _ _ _ _ _ _
      unfold cf_Polys_risen_B8
      refine ⟨fun c => absurd c (nIm_nn (by omega)), fun _ => ?_⟩
      have ih := ih (by omega) n (by omega)
      rw [pc_shl] at ih
      have hkg : k * g < 2 ^ 31 := Nat.lt_of_le_of_lt (Nat.mul_le_mul (show k ≤ 63 by omega) (Nat.le_of_lt hg2)) (by decide)
      rw [nI_pred, bit_lN ha (by omega), m1_eq, nI_mul]
      by_cases ht : a.testBit k = true
      · have hlt := hb k ht
        rw [ht]
        refine ⟨fun c => absurd c (by decide), fun _ => ⟨fun c => ?_, fun _ => ?_⟩⟩
        · have := (nI_leI (show 64 < 2 ^ 31 by decide) hkg).mp c
          omega
        · rw [show (1 : Int64) = lN 1 from rfl, lshl_lN _ hlt, lN_or, Nat.shiftLeft_eq 1, Nat.one_mul, or_xor2 hg]
          rintro _ rfl _ rfl
          rw [if_pos ht, Nat.xor_comm] at ih
          exact ih
      · rw [Bool.not_eq_true] at ht
        rw [ht]
        refine ⟨fun _ => ?_, fun c => absurd rfl c⟩
        rintro _ rfl
        rw [ht] at ih
        simpa using ih
  unfold cf_Polys_risen
  refine sp_degree ha ⟨64, ?_⟩
  have hz := sz_le63 ha
  have := key (sz a) hz 64 (by omega)
  have hb0 : a >>> sz a = 0 := Nat.shiftRight_eq_zero _ _ (sz_lt a)
  rw [hb0, pcomp_zero, Nat.zero_shiftLeft] at this
  exact this
theorem ppow_two (g k : Nat) : ppow (2 ^ g) k = 2 ^ (k * g) := by
  induction k with
  | zero => rw [Nat.zero_mul]; rfl
  | succ k ih => rw [Nat.succ_mul]; simp only [ppow]; rw [ih, cm_pow_two, ← Nat.pow_add, Nat.add_comm]
theorem pcomp_pow_lt (a g i : Nat) (h : a < 2 ^ i) : pcomp a (2 ^ g) < 2 ^ (i * g + 1 - g) ∨ i = 0 := by
  induction i generalizing a with
  | zero => exact Or.inr rfl
  | succ i ih =>
    refine Or.inl ?_
    rw [pcomp_step, cm_pow_two]
    have h2 : a / 2 < 2 ^ i := by omega
    have hb : a % 2 < 2 ^ (i * g + 1) := Nat.lt_of_lt_of_le (show a % 2 < 2 ^ 1 by omega) (Nat.pow_le_pow_right (by omega) (by omega))
    have e : (i + 1) * g + 1 - g = i * g + 1 := by rw [Nat.succ_mul]; omega
    rw [e]
    refine Nat.xor_lt_two_pow ?_ hb
    rcases ih (a / 2) h2 with h3 | h3
    · by_cases hi : i = 0
      · subst hi
        have : a / 2 = 0 := by omega
        rw [this, pcomp_zero, Nat.zero_mul]
        exact Nat.pow_pos (by omega)
      · have : i * g + 1 = (i * g + 1 - g) + g := by
          have := Nat.mul_le_mul_right g (show 1 ≤ i by omega)
          omega
        rw [this, Nat.pow_add]
        exact Nat.mul_lt_mul_of_pos_right h3 (Nat.pow_pos (by omega))
    · subst h3
      have : a / 2 = 0 := by omega
      rw [this, pcomp_zero, Nat.zero_mul]
      exact Nat.pow_pos (by omega)
theorem mp_risenOf {a g : Nat} {P : Int64 → Prop} (ha : a < 2 ^ 63) (hg : 1 ≤ g) (hb : ∀ i, a.testBit i = true → i * g < 64) (h : P (lN (pcomp a (2 ^ g)))) : cf_M_risenOf (lN a) (nI g) P := by
  have hz := sz_le63 ha
  have key : ∀ m i, i + m = sz a → ∀ n, m < n → cf_M_risenOf_L5 P n (lN a) (nI g) (lN (pcomp (a % 2 ^ i) (2 ^ g))) (nI i) := by
    intro m
    induction m with
    | zero =>
      intro i hi n hn
      obtain ⟨n, rfl⟩ : ∃ m, n = m + 1 := ⟨n - 1, by omega⟩
      show cf_M_risenOf_B5 _ _ _ _ _ _
      unfold cf_M_risenOf_B5
      refine mp_degree (by omega) ⟨fun _ => ?_, fun c => absurd ((nIm_lt (by omega) (by omega)).mpr (by omega)) c⟩
      rw [show i = sz a by omega, mod_sz]
      exact h
    | succ m ih =>
      intro i hi n hn
      obtain ⟨n, rfl⟩ : ∃ m, n = m + 1 := ⟨n - 1, by omega⟩
      show cf_M_risenOf_B5 _ _ _ _ _ _
      unfold cf_M_risenOf_B5
      refine mp_degree (by omega) ⟨fun c => ?_, fun _ => ?_⟩
      · have c := (nIm_lt (by omega) (by omega)).mp c
        omega
      · have ih := ih (i + 1) (by omega) n (by omega)
        rw [mod_bit, pcomp_add] at ih
        refine mp_hasB (by omega) (by omega) (fun ht => ⟨fun c => absurd c one_ne, fun _ => ?_⟩) (fun ht => ⟨fun _ => ?_, fun c => absurd rfl c⟩)
        · have hlt := hb i ht
          rw [nI_mul, show (1 : Int64) = lN 1 from rfl, lshl_lN _ hlt, lN_or, nI_1]
          rintro _ rfl _ rfl
          rw [if_pos ht, pcomp_pow, ppow_two] at ih
          rw [Nat.shiftLeft_eq, Nat.one_mul]
          have hsm : pcomp (a % 2 ^ i) (2 ^ g) < 2 ^ (i * g) := by
            by_cases hi0 : i = 0
            · subst hi0
              rw [Nat.pow_zero, Nat.mod_one, pcomp_zero, Nat.zero_mul]
              decide
            · have h1 := (pcomp_pow_lt (a % 2 ^ i) g i (Nat.mod_lt _ (Nat.pow_pos (by omega)))).resolve_right hi0
              refine Nat.lt_of_lt_of_le h1 (Nat.pow_le_pow_right (by omega) (by omega))
          have e : pcomp (a % 2 ^ i) (2 ^ g) ||| 2 ^ (i * g) = pcomp (a % 2 ^ i) (2 ^ g) ^^^ 2 ^ (i * g) := by
            apply Nat.eq_of_testBit_eq
            intro j
            rw [Nat.testBit_or, Nat.testBit_xor, Nat.testBit_two_pow]
            by_cases hj : i * g = j
            · rw [← hj, Nat.testBit_lt_two_pow hsm]; simp
            · simp [hj]
          rw [e]
          exact ih
        · rw [nI_1]
          rintro _ rfl
          rw [ht] at ih
          simp only [Bool.false_eq_true, ite_false, pcomp_zero, Nat.xor_zero] at ih
          exact ih
  unfold cf_M_risenOf
  refine ⟨65, ?_⟩
  have := key (sz a) 0 (by omega) 65 (by omega)
  rw [Nat.pow_zero, Nat.mod_one, pcomp_zero] at this
  exact this
