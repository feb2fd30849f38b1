-- what stands inside; the rest of the class's Polys
def pcomp (a g : Nat) : Nat := if h : a = 0 then 0 else cm (pcomp (a / 2) g) g ^^^ (a % 2)
termination_by a
decreasing_by omega
theorem pcomp_zero (g : Nat) : pcomp 0 g = 0 := by rw [pcomp]; simp
theorem pcomp_step (a g : Nat) : pcomp a g = cm (pcomp (a / 2) g) g ^^^ (a % 2) := by
  by_cases h : a = 0
  · subst h; rw [pcomp_zero, zero_cm]; rfl
  · rw [pcomp]; simp [h]
theorem pcomp_xor (g : Nat) : ∀ (n a b : Nat), a < 2 ^ n → b < 2 ^ n → pcomp (a ^^^ b) g = pcomp a g ^^^ pcomp b g := by
  intro n
  induction n with
  | zero => intro a b ha hb; have h1 : a = 0 := by simp at ha; exact ha
            have h2 : b = 0 := by simp at hb; exact hb
            subst h1; subst h2; rw [Nat.xor_self, pcomp_zero, Nat.xor_self]
  | succ n ih =>
    intro a b ha hb
    rw [pcomp_step (a ^^^ b), pcomp_step a, pcomp_step b]
    have hx := xor_cases a b
    rw [hx.2, ih (a / 2) (b / 2) (by omega) (by omega), cm_xor_left]
    have e : (a ^^^ b) % 2 = (a % 2) ^^^ (b % 2) := by
      rw [hx.1]
      have h1 : a % 2 = 0 ∨ a % 2 = 1 := by omega
      have h2 : b % 2 = 0 ∨ b % 2 = 1 := by omega
      rcases h1 with h1 | h1 <;> rcases h2 with h2 | h2 <;> rw [h1, h2] <;> rfl
    rw [e]
    ac_rfl
theorem pcomp_add (a b g : Nat) : pcomp (a ^^^ b) g = pcomp a g ^^^ pcomp b g := by
  refine pcomp_xor g (a + b) a b ?_ ?_
  · exact Nat.lt_of_lt_of_le Nat.lt_two_pow_self (Nat.pow_le_pow_right (by omega) (by omega))
  · exact Nat.lt_of_lt_of_le Nat.lt_two_pow_self (Nat.pow_le_pow_right (by omega) (by omega))
theorem pcomp_two (a g : Nat) : pcomp (2 * a) g = cm (pcomp a g) g := by
  rw [pcomp_step, show 2 * a / 2 = a by omega, show 2 * a % 2 = 0 by omega, Nat.xor_zero]
theorem pcomp_one (g : Nat) : pcomp 1 g = 1 := by rw [pcomp_step, show 1 / 2 = 0 from rfl, pcomp_zero, zero_cm]; rfl
theorem pcomp_x (g : Nat) : pcomp 2 g = g := by
  have := pcomp_two 1 g
  rw [pcomp_one, one_cm] at this
  exact this
theorem pcomp_cm (a b g : Nat) : pcomp (cm a b) g = cm (pcomp a g) (pcomp b g) := by
  induction b using Nat.strongRecOn with
  | ind b ih =>
    by_cases h : b = 0
    · subst h; rw [cm_zero, pcomp_zero, cm_zero]
    · rw [cm_step, pcomp_add, pcomp_two, ih (b / 2) (by omega), pcomp_step b, cm_xor_right, cm_assoc]
      have h1 : b % 2 = 0 ∨ b % 2 = 1 := by omega
      rcases h1 with h1 | h1 <;> rw [h1]
      · simp only [Nat.zero_ne_one, ite_false]
        rw [pcomp_zero, cm_zero, Nat.zero_xor, Nat.xor_zero]
      · simp only [ite_true]
        rw [cm_one, Nat.xor_comm]
theorem pcomp_pow (k g : Nat) : pcomp (2 ^ k) g = ppow g k := by
  induction k with
  | zero => exact pcomp_one g
  | succ k ih => rw [Nat.pow_succ, Nat.mul_comm, pcomp_two, ih, ppow_add, ppow_one]
theorem bit_lt (a k : Nat) : (a >>> k) % 2 = (a.testBit k).toNat := by
  have := shr_step a k
  have h : (a.testBit k).toNat < 2 := Bool.toNat_lt _
  omega
theorem pcomp_shr (a k g : Nat) : pcomp (a >>> k) g = cm (pcomp (a >>> (k + 1)) g) g ^^^ (a.testBit k).toNat := by
  rw [pcomp_step, bit_lt, Nat.shiftRight_succ]
theorem pmod_bit {f : Nat} (hd : 2 ≤ f) (b : Bool) : pmod b.toNat f = b.toNat := by
  refine pmod_small (Nat.lt_of_lt_of_le (Bool.toNat_lt b) ?_)
  have := dg_pos hd
  exact Nat.pow_le_pow_right (n := 2) (i := 1) (by omega) this
theorem sp_composed {a g f : Nat} {P : Int64 → Prop} (ha : a < 2 ^ 63) (hg : g < 2 ^ 32) (hf : f < 2 ^ 32) (hf0 : 2 ≤ f) (h : P (lN (pmod (pcomp a g) f))) : cf_Polys_composed (lN a) (lN g) (lN f) P := by
  have hf1 : f ≠ 0 := by omega
  have key : ∀ k, k ≤ 63 → ∀ n, k < n → cf_Polys_composed_L9 P n (lN a) (lN g) (lN f) (lN (pmod (pcomp (a >>> k) g) f)) (nI k - 1) := by
    intro k
    induction k with
    | zero =>
      intro _ n hn
      obtain ⟨n, rfl⟩ : ∃ m, n = m + 1 := ⟨n - 1, by omega⟩
      show cf_Polys_composed_B9 _ _ _ _ _ _ _
      unfold cf_Polys_composed_B9
      exact ⟨fun _ => h, fun c => absurd nIm_neg c⟩
    | succ k ih =>
      intro hk n hn
      obtain ⟨n, rfl⟩ : ∃ m, n = m + 1 := ⟨n - 1, by omega⟩
      show cf_Polys_composed_B9 _ _ _ _ _ _ _
      unfold cf_Polys_composed_B9
      refine ⟨fun c => absurd c (nIm_nn (by omega)), fun _ => ?_⟩
      have hp := pmod_lt31 hf1 hf (pcomp (a >>> (k + 1)) g)
      refine sp_productBy (by omega) hg (by omega) ?_
      have ih := ih (by omega) n (by omega)
      rw [nI_pred, bit_lN ha (by omega), m1_eq]
      rintro _ rfl _ rfl
      rw [lN_xor, pmod_mul_left hf1, ← pmod_bit hf0 (a.testBit k), ← pmod_xor hf1, ← pcomp_shr]
      exact ih
  unfold cf_Polys_composed
  refine sp_degree ha ⟨64, ?_⟩
  have hz := sz_le63 ha
  have := key (sz a) hz 64 (by omega)
  have hb0 : a >>> sz a = 0 := Nat.shiftRight_eq_zero _ _ (sz_lt a)
  rw [hb0, pcomp_zero, pmod_zero] at this
  exact this
theorem sp_shifted {a : Nat} {P : Int64 → Prop} (ha : a < 2 ^ 63) (h : P (lN (pcomp a 3))) : cf_Polys_shifted (lN a) P := by
  have key : ∀ k, k ≤ 63 → ∀ n, k < n → cf_Polys_shifted_L8 P n (lN a) (lN (pcomp (a >>> k) 3)) (nI k - 1) := by
    intro k
    induction k with
    | zero =>
      intro _ n hn
      obtain ⟨n, rfl⟩ : ∃ m, n = m + 1 := ⟨n - 1, by omega⟩
      show cf_Polys_shifted_B8 _ _ _ _ _
      unfold cf_Polys_shifted_B8
      exact ⟨fun _ => h, fun c => absurd nIm_neg c⟩
    | succ k ih =>
      intro hk n hn
      obtain ⟨n, rfl⟩ : ∃ m, n = m + 1 := ⟨n - 1, by omega⟩
      show cf_Polys_shifted_B8 _ _ _ _ _
      unfold cf_Polys_shifted_B8
      refine ⟨fun c => absurd c (nIm_nn (by omega)), fun _ => ?_⟩
      have ih := ih (by omega) n (by omega)
      rw [nI_pred, bit_lN ha (by omega), m1_eq]
      rintro _ rfl _ rfl
      have e1 : lshl (lN (pcomp (a >>> (k + 1)) 3)) (1 : Int32) = lN (pcomp (a >>> (k + 1)) 3 <<< 1) := lshl_lN (k := 1) _ (by omega)
      rw [e1, lN_xor, lN_xor]
      have e2 : pcomp (a >>> (k + 1)) 3 <<< 1 ^^^ pcomp (a >>> (k + 1)) 3 = cm (pcomp (a >>> (k + 1)) 3) 3 := by
        rw [cm_step _ 3, show 3 / 2 = 1 from rfl, cm_one, Nat.shiftLeft_eq, Nat.xor_comm]
        simp [Nat.mul_comm]
      rw [e2, ← pcomp_shr]
      exact ih
  unfold cf_Polys_shifted
  refine sp_degree ha ⟨64, ?_⟩
  have hz := sz_le63 ha
  have := key (sz a) hz 64 (by omega)
  have hb0 : a >>> sz a = 0 := Nat.shiftRight_eq_zero _ _ (sz_lt a)
  rw [hb0, pcomp_zero] at this
  exact this
theorem sp_derived {a : Nat} {P : Int64 → Prop} (ha : a < 2 ^ 63) (h : P (lN ((a >>> 1) &&& 6148914691236517205))) : cf_Polys_derived (lN a) P := by
  unfold cf_Polys_derived
  have e1 : lshr (lN a) (1 : Int32) = lN (a >>> 1) := lshr_lN (k := 1) ha (by omega)
  rw [e1, show (6148914691236517205 : Int64) = lN 6148914691236517205 from rfl, lN_and]
  exact h
theorem sp_tri {n k : Nat} {P : Int64 → Prop} (hn : n < 64) (hk : k < 64) (h : P (lN ((2 ^ n ||| 2 ^ k) ||| 1))) : cf_Polys_tri (nI n) (nI k) P := by
  unfold cf_Polys_tri
  rw [L1, lshl_lN _ hn, lshl_lN _ hk, lN_or, lN_or, Nat.shiftLeft_eq, Nat.shiftLeft_eq, Nat.one_mul, Nat.one_mul]
  exact h
/-- the first m bits of a, told the other way round -/
def revN (a n : Nat) : Nat → Nat
  | 0 => 0
  | m + 1 => revN a n m ||| (a.testBit m).toNat <<< (n - m)
/-- the mirror -/
def prev (a : Nat) : Nat := revN a (dg a) (sz a)
theorem sp_reversed {a : Nat} {P : Int64 → Prop} (ha : a < 2 ^ 63) (h : P (lN (prev a))) : cf_Polys_reversed (lN a) P := by
  by_cases h0 : a = 0
  · subst h0
    unfold cf_Polys_reversed
    refine sp_degree ha ⟨1, ?_⟩
    show cf_Polys_reversed_B10 _ _ _ _ _ _
    unfold cf_Polys_reversed_B10
    exact ⟨fun _ => h, fun c => absurd (show dI 0 < (0 : Int32) by decide) c⟩
  have hd := (dg_lt h0).mpr ha
  have key : ∀ m k, k + m = sz a → ∀ n, m < n → cf_Polys_reversed_L10 P n (lN a) (nI (dg a)) (lN (revN a (dg a) k)) (nI k) := by
    intro m
    induction m with
    | zero =>
      intro k hk n hn
      obtain ⟨n, rfl⟩ : ∃ m, n = m + 1 := ⟨n - 1, by omega⟩
      show cf_Polys_reversed_B10 _ _ _ _ _ _
      unfold cf_Polys_reversed_B10
      rw [sz_pos h0] at hk
      refine ⟨fun _ => ?_, fun c => absurd ((nI_ltI (by omega) (by omega)).mpr (by omega)) c⟩
      unfold prev at h
      rw [sz_pos h0] at h
      rw [show k = dg a + 1 by omega]
      exact h
    | succ m ih =>
      intro k hk n hn
      obtain ⟨n, rfl⟩ : ∃ m, n = m + 1 := ⟨n - 1, by omega⟩
      have hk2 := hk
      rw [sz_pos h0] at hk2
      show cf_Polys_reversed_B10 _ _ _ _ _ _
      unfold cf_Polys_reversed_B10
      refine ⟨fun c => ?_, fun _ => ?_⟩
      · have := (nI_ltI (by omega) (by omega)).mp c
        omega
      · rw [bit_lN ha (by omega), pk_sub (by omega), lshl_lN _ (by omega), lN_or, nI_1]
        rintro _ rfl _ rfl
        exact ih (k + 1) (by omega) n (by omega)
  unfold cf_Polys_reversed
  refine sp_degree ha ⟨65, ?_⟩
  rw [dI_pos h0]
  refine key (sz a) 0 (by omega) 65 (by rw [sz_pos h0]; omega)
