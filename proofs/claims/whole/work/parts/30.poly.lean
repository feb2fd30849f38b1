-- polynomials over two as natural numbers: bit k for x to the k; the sum is xor
def cm (a b : Nat) : Nat := if h : b = 0 then 0 else (if b % 2 = 1 then a else 0) ^^^ (2 * cm a (b / 2))
termination_by b
decreasing_by omega
theorem cm_zero (a : Nat) : cm a 0 = 0 := by rw [cm]; simp
theorem xor_cases (a b : Nat) : (a ^^^ b) % 2 = (a % 2 + b % 2) % 2 ∧ (a ^^^ b) / 2 = a / 2 ^^^ b / 2 := by
  constructor
  · have := Nat.xor_mod_two_pow (a := a) (b := b) (n := 1)
    simp only [Nat.pow_one] at this
    rw [this]
    have ha : a % 2 = 0 ∨ a % 2 = 1 := by omega
    have hb : b % 2 = 0 ∨ b % 2 = 1 := by omega
    rcases ha with ha | ha <;> rcases hb with hb | hb <;> simp [ha, hb]
  · exact Nat.xor_div_two
theorem two_xor (a b : Nat) : 2 * (a ^^^ b) = 2 * a ^^^ 2 * b := by
  have h := Nat.shiftLeft_xor_distrib (a := a) (b := b) (i := 1)
  simpa [Nat.shiftLeft_eq, Nat.mul_comm] using h
theorem cm_step (a b : Nat) : cm a b = (if b % 2 = 1 then a else 0) ^^^ (2 * cm a (b / 2)) := by
  by_cases h : b = 0
  · subst h; simp [cm_zero]
  · rw [cm]; simp [h]
theorem cm_one (a : Nat) : cm a 1 = a := by rw [cm_step]; simp [cm_zero]
theorem cm_two_right (a b : Nat) : cm a (2 * b) = 2 * cm a b := by
  rw [cm_step]
  have h1 : 2 * b % 2 = 0 := by omega
  have h2 : 2 * b / 2 = b := by omega
  simp [h1, h2]
theorem zero_cm (b : Nat) : cm 0 b = 0 := by
  induction b using Nat.strongRecOn with
  | _ b ih =>
    by_cases h : b = 0
    · subst h; exact cm_zero 0
    · rw [cm_step, ih (b / 2) (by omega)]; simp
theorem cm_xor_left (a a' b : Nat) : cm (a ^^^ a') b = cm a b ^^^ cm a' b := by
  induction b using Nat.strongRecOn with
  | _ b ih =>
    by_cases h : b = 0
    · subst h; simp [cm_zero]
    · rw [cm_step, cm_step a b, cm_step a' b, ih (b / 2) (by omega), two_xor]
      by_cases hb : b % 2 = 1
      · simp only [hb, if_pos]
        ac_rfl
      · simp only [hb, if_neg, not_false_eq_true, Nat.zero_xor]
theorem cm_two_left (a b : Nat) : cm (2 * a) b = 2 * cm a b := by
  induction b using Nat.strongRecOn with
  | _ b ih =>
    by_cases h : b = 0
    · subst h; simp [cm_zero]
    · rw [cm_step, cm_step a b, ih (b / 2) (by omega), two_xor]
      by_cases hb : b % 2 = 1 <;> simp [hb]
theorem one_cm (b : Nat) : cm 1 b = b := by
  induction b using Nat.strongRecOn with
  | _ b ih =>
    by_cases h : b = 0
    · subst h; exact cm_zero 1
    · rw [cm_step, ih (b / 2) (by omega)]
      have h2 : 2 * (b / 2) = b - b % 2 := by omega
      by_cases hb : b % 2 = 1
      · rw [if_pos hb]
        have := (xor_cases 1 (2 * (b / 2)))
        have e1 : (1 ^^^ 2 * (b / 2)) % 2 = 1 := by rw [this.1]; omega
        have e2 : (1 ^^^ 2 * (b / 2)) / 2 = b / 2 := by rw [this.2]; simp
        omega
      · rw [if_neg hb]; simp; omega
theorem nat_split (a : Nat) : a = (a % 2) ^^^ (2 * (a / 2)) := by
  have := xor_cases (a % 2) (2 * (a / 2))
  have e1 : ((a % 2) ^^^ 2 * (a / 2)) % 2 = a % 2 := by rw [this.1]; omega
  have e2 : ((a % 2) ^^^ 2 * (a / 2)) / 2 = a / 2 := by
    rw [this.2]
    have h1 : a % 2 / 2 = 0 := by omega
    have h2 : 2 * (a / 2) / 2 = a / 2 := by omega
    rw [h1, h2, Nat.zero_xor]
  omega
theorem cm_lstep (a b : Nat) : cm a b = (if a % 2 = 1 then b else 0) ^^^ (2 * cm (a / 2) b) := by
  have h := cm_xor_left (a % 2) (2 * (a / 2)) b
  rw [← nat_split a, cm_two_left] at h
  rw [h]
  have ha : a % 2 = 0 ∨ a % 2 = 1 := by omega
  rcases ha with ha | ha <;> simp [ha, zero_cm, one_cm]
theorem cm_comm (a b : Nat) : cm a b = cm b a := by
  induction b using Nat.strongRecOn with
  | _ b ih =>
    by_cases h : b = 0
    · subst h; rw [cm_zero, zero_cm]
    · rw [cm_step, ih (b / 2) (by omega), cm_lstep b a]
theorem cm_xor_right (a b b' : Nat) : cm a (b ^^^ b') = cm a b ^^^ cm a b' := by
  rw [cm_comm, cm_xor_left, cm_comm b, cm_comm b']
theorem cm_assoc (a b c : Nat) : cm (cm a b) c = cm a (cm b c) := by
  induction c using Nat.strongRecOn with
  | _ c ih =>
    by_cases h : c = 0
    · subst h; simp [cm_zero]
    · rw [cm_step, ih (c / 2) (by omega), cm_step b c, cm_xor_right, cm_two_right]
      by_cases hb : c % 2 = 1 <;> simp [hb, cm_zero]
theorem cm_left_comm (a b c : Nat) : cm a (cm b c) = cm b (cm a c) := by rw [← cm_assoc, cm_comm a b, cm_assoc]
theorem cm_pow_two (a k : Nat) : cm a (2 ^ k) = a * 2 ^ k := by
  induction k with
  | zero => simp [cm_one]
  | succ k ih => rw [Nat.pow_succ, Nat.mul_comm (2 ^ k) 2, cm_two_right, ih]; ac_rfl
-- degrees
theorem xor_top {x y k : Nat} (h1 : 2 ^ k ≤ x) (h2 : x < 2 ^ (k + 1)) (hy : y < 2 ^ k) : 2 ^ k ≤ x ^^^ y ∧ x ^^^ y < 2 ^ (k + 1) := by
  refine ⟨?_, Nat.xor_lt_two_pow h2 (Nat.lt_trans hy (Nat.pow_lt_pow_right (by omega) (by omega)))⟩
  refine Nat.le_of_not_lt (fun h => ?_)
  have h3 := Nat.xor_lt_two_pow h hy
  rw [Nat.xor_assoc, Nat.xor_self, Nat.xor_zero] at h3
  omega
theorem cm_deg {m n : Nat} : ∀ {a b : Nat}, 2 ^ m ≤ a → a < 2 ^ (m + 1) → 2 ^ n ≤ b → b < 2 ^ (n + 1) → 2 ^ (m + n) ≤ cm a b ∧ cm a b < 2 ^ (m + n + 1) := by
  induction n with
  | zero =>
    intro a b h1 h2 h3 h4
    obtain rfl : b = 1 := by simp at h3 h4; omega
    rw [cm_one]
    exact ⟨h1, h2⟩
  | succ n ih =>
    intro a b h1 h2 h3 h4
    have h3' : 2 ^ n ≤ b / 2 := by rw [Nat.pow_succ] at h3; omega
    have h4' : b / 2 < 2 ^ (n + 1) := by rw [Nat.pow_succ] at h4; omega
    obtain ⟨i1, i2⟩ := ih h1 h2 h3' h4'
    rw [cm_step, Nat.xor_comm]
    have e1 : 2 ^ (m + (n + 1)) ≤ 2 * cm a (b / 2) := by rw [show m + (n + 1) = m + n + 1 by omega, Nat.pow_succ]; omega
    have e2 : 2 * cm a (b / 2) < 2 ^ (m + (n + 1) + 1) := by rw [show m + (n + 1) + 1 = m + n + 1 + 1 by omega, Nat.pow_succ]; omega
    refine xor_top e1 e2 ?_
    by_cases hb : b % 2 = 1
    · rw [if_pos hb]
      exact Nat.lt_of_lt_of_le h2 (Nat.pow_le_pow_right (by omega) (by omega))
    · rw [if_neg hb]
      exact Nat.pow_pos (by omega)
theorem log2_iff {a k : Nat} (h : a ≠ 0) : Nat.log2 a = k ↔ 2 ^ k ≤ a ∧ a < 2 ^ (k + 1) := by
  constructor
  · rintro rfl
    exact ⟨Nat.log2_self_le h, Nat.lt_log2_self⟩
  · rintro ⟨h1, h2⟩
    have e1 := (Nat.le_log2 h).mpr h1
    have e2 := (Nat.log2_lt h).mpr h2
    omega
theorem cm_ne {a b : Nat} (ha : a ≠ 0) (hb : b ≠ 0) : cm a b ≠ 0 := by
  have h := cm_deg (Nat.log2_self_le ha) Nat.lt_log2_self (Nat.log2_self_le hb) Nat.lt_log2_self
  have := Nat.pow_pos (n := Nat.log2 a + Nat.log2 b) (show 0 < 2 by omega)
  omega
theorem cm_log2 {a b : Nat} (ha : a ≠ 0) (hb : b ≠ 0) : Nat.log2 (cm a b) = Nat.log2 a + Nat.log2 b :=
  (log2_iff (cm_ne ha hb)).mpr (cm_deg (Nat.log2_self_le ha) Nat.lt_log2_self (Nat.log2_self_le hb) Nat.lt_log2_self)
theorem cm_eq_zero {a b : Nat} : cm a b = 0 ↔ a = 0 ∨ b = 0 := by
  constructor
  · intro h
    refine Classical.byContradiction (fun q => ?_)
    exact cm_ne (fun z => q (Or.inl z)) (fun z => q (Or.inr z)) h
  · rintro (rfl | rfl)
    · exact zero_cm _
    · exact cm_zero _
theorem xor_eq_zero' {a b : Nat} : a ^^^ b = 0 ↔ a = b := by
  constructor
  · intro h
    have h2 : (a ^^^ b) ^^^ b = 0 ^^^ b := by rw [h]
    rwa [Nat.xor_assoc, Nat.xor_self, Nat.xor_zero, Nat.zero_xor] at h2
  · rintro rfl
    exact Nat.xor_self a
theorem cm_cancel {a b c : Nat} (ha : a ≠ 0) (h : cm a b = cm a c) : b = c := by
  have h1 : cm a (b ^^^ c) = 0 := by rw [cm_xor_right, h, Nat.xor_self]
  rcases cm_eq_zero.mp h1 with q | q
  · exact absurd q ha
  · exact xor_eq_zero'.mp q
theorem cm_lt {a b m n : Nat} (ha : a < 2 ^ m) (hb : b < 2 ^ n) (hm : 0 < m) (hn : 0 < n) : cm a b < 2 ^ (m + n - 1) := by
  by_cases h1 : a = 0
  · subst h1; rw [zero_cm]; exact Nat.pow_pos (by omega)
  by_cases h2 : b = 0
  · subst h2; rw [cm_zero]; exact Nat.pow_pos (by omega)
  have e := cm_deg (Nat.log2_self_le h1) Nat.lt_log2_self (Nat.log2_self_le h2) Nat.lt_log2_self
  have a1 := (Nat.log2_lt h1).mpr ha
  have b1 := (Nat.log2_lt h2).mpr hb
  exact Nat.lt_of_lt_of_le e.2 (Nat.pow_le_pow_right (by omega) (by omega))
theorem cm_eq_one {a b : Nat} : cm a b = 1 ↔ a = 1 ∧ b = 1 := by
  constructor
  · intro h
    have ha : a ≠ 0 := by rintro rfl; rw [zero_cm] at h; omega
    have hb : b ≠ 0 := by rintro rfl; rw [cm_zero] at h; omega
    have e := cm_log2 ha hb
    rw [h] at e
    have e0 : Nat.log2 1 = 0 := by decide
    have a0 : Nat.log2 a = 0 := by omega
    have b0 : Nat.log2 b = 0 := by omega
    have := (log2_iff ha).mp a0
    have := (log2_iff hb).mp b0
    simp at *
    omega
  · rintro ⟨rfl, rfl⟩
    exact cm_one 1
