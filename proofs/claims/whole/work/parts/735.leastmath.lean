-- least: the next of the same weight
theorem add_xor {n a b : Nat} (hb : b < 2 ^ n) : 2 ^ n * a + b = 2 ^ n * a ^^^ b := by
  apply Nat.eq_of_testBit_eq
  intro i
  rw [Nat.testBit_xor, Nat.testBit_two_pow_mul_add a hb, Nat.testBit_two_pow_mul]
  by_cases c : i < n
  · rw [if_pos c, show decide (i ≥ n) = false from decide_eq_false (by omega), Bool.false_and, Bool.false_xor]
  · have hbi : b.testBit i = false := Nat.testBit_lt_two_pow (Nat.lt_of_lt_of_le hb (Nat.pow_le_pow_right (by decide) (by omega)))
    rw [if_neg c, hbi, show decide (i ≥ n) = true from decide_eq_true (by omega), Bool.true_and, Bool.xor_false]
theorem wtF_lt {m j y : Nat} (hy : y < 2 ^ j) (hj : j ≤ m) : wtF m y = wtF j y := by
  obtain ⟨i, rfl⟩ : ∃ i, m = j + i := ⟨m - j, by omega⟩
  rw [wtF_add, Nat.div_eq_of_lt hy]
  have : ∀ i, wtF i 0 = 0 := by
    intro i
    induction i with
    | zero => rfl
    | succ i ih => show 0 % 2 + wtF i (0 / 2) = 0; rw [show 0 / 2 = 0 from rfl, ih]
  rw [this]
  rfl
theorem wtF_ones : ∀ j, wtF j (2 ^ j - 1) = j
  | 0 => rfl
  | j + 1 => by
    show (2 ^ (j + 1) - 1) % 2 + wtF j ((2 ^ (j + 1) - 1) / 2) = j + 1
    have h1 : 0 < 2 ^ j := Nat.two_pow_pos j
    have h2 : (2 ^ (j + 1) - 1) % 2 = 1 := by rw [Nat.pow_succ]; omega
    have h3 : (2 ^ (j + 1) - 1) / 2 = 2 ^ j - 1 := by rw [Nat.pow_succ]; omega
    rw [h2, h3, wtF_ones j]
    omega
theorem wtF_full : ∀ j y, y < 2 ^ j → wtF j y = j → y = 2 ^ j - 1
  | 0, y, h, _ => by
    have : (2 : Nat) ^ 0 = 1 := rfl
    omega
  | j + 1, y, h, e => by
    have e : y % 2 + wtF j (y / 2) = j + 1 := e
    have h1 := wtF_le j (y / 2)
    rw [Nat.pow_succ] at h ⊢
    have h2 := wtF_full j (y / 2) (by omega) (by omega)
    omega
theorem wtF_pos : ∀ j y, y < 2 ^ j → y ≠ 0 → 1 ≤ wtF j y
  | 0, y, h, z => by
    have : (2 : Nat) ^ 0 = 1 := rfl
    omega
  | j + 1, y, h, z => by
    show 1 ≤ y % 2 + wtF j (y / 2)
    by_cases c : y / 2 = 0
    · omega
    · rw [Nat.pow_succ] at h
      have := wtF_pos j (y / 2) (by omega) c
      omega
theorem wtF_split {m n a : Nat} : wtF (m + n) a = wtF m (a % 2 ^ m) + wtF n (a / 2 ^ m) := by rw [wtF_add, wtF_mod]
theorem ones_form (o : Nat) : ∃ h j, 2 * o + 1 = h * 2 ^ (j + 1 + 1) + (2 ^ (j + 1) - 1) := by
  induction o using Nat.strongRecOn with
  | _ o ih =>
    by_cases c : o % 2 = 0
    · exact ⟨o / 2, 0, by show _ = o / 2 * 4 + 1; omega⟩
    · obtain ⟨h, j, e⟩ := ih (o / 2) (by omega)
      refine ⟨h, j + 1, ?_⟩
      have h1 : 0 < 2 ^ (j + 1) := Nat.two_pow_pos _
      have h2 : 2 ^ (j + 1 + 1) = 2 ^ (j + 1) * 2 := Nat.pow_succ ..
      have h3 : h * 2 ^ (j + 1 + 1 + 1) = h * 2 ^ (j + 1 + 1) * 2 := by rw [Nat.pow_succ 2 (j + 1 + 1), Nat.mul_assoc]
      have h4 : 2 * (o / 2) + 1 = o := by omega
      rw [h4] at e
      rw [h3]
      generalize h * 2 ^ (j + 1 + 1) = T at e ⊢
      omega
theorem zeros_form (x : Nat) (hx : x ≠ 0) : ∃ k o, x = 2 ^ k * (2 * o + 1) := by
  induction x using Nat.strongRecOn with
  | _ x ih =>
    by_cases c : x % 2 = 1
    · exact ⟨0, x / 2, by rw [Nat.pow_zero]; omega⟩
    · obtain ⟨k, o, e⟩ := ih (x / 2) (by omega) (by omega)
      refine ⟨k + 1, o, ?_⟩
      rw [Nat.pow_succ, Nat.mul_comm (2 ^ k) 2, Nat.mul_assoc, ← e]
      omega
theorem low_bit : ∀ k o n, 2 ^ k * (2 * o + 1) < 2 ^ n → 2 ^ k * (2 * o + 1) &&& (2 ^ n - 2 ^ k * (2 * o + 1)) = 2 ^ k
  | 0, o, n, h => by
    rw [Nat.pow_zero, Nat.one_mul] at h ⊢
    apply Nat.eq_of_testBit_eq
    intro i
    rw [Nat.testBit_and, Nat.testBit_two_pow_sub_succ (by omega)]
    cases i with
    | zero =>
      have hn : n ≠ 0 := by
        intro z
        rw [z, Nat.pow_zero] at h
        omega
      have h1 : (2 * o + 1).testBit 0 = true := by rw [Nat.testBit_zero]; exact decide_eq_true (by omega)
      have h2 : (2 * o).testBit 0 = false := by rw [Nat.testBit_zero]; exact decide_eq_false (by omega)
      rw [h1, h2, show decide (0 < n) = true from decide_eq_true (by omega)]
      rfl
    | succ i =>
      have h1 : (2 * o + 1).testBit (i + 1) = o.testBit i := by rw [Nat.testBit_succ]; congr 1; omega
      have h2 : (2 * o).testBit (i + 1) = o.testBit i := by rw [Nat.testBit_succ]; congr 1; omega
      have h3 : (1 : Nat).testBit (i + 1) = false := by rw [Nat.testBit_succ]; exact Nat.zero_testBit i
      rw [h1, h2, h3]
      cases o.testBit i <;> simp
  | k + 1, o, n, h => by
    have e : 2 ^ (k + 1) * (2 * o + 1) = 2 * (2 ^ k * (2 * o + 1)) := by rw [Nat.pow_succ, Nat.mul_comm (2 ^ k) 2, Nat.mul_assoc]
    obtain ⟨n, rfl⟩ : ∃ m, n = m + 1 := ⟨n - 1, by
      have : n ≠ 0 := by
        intro z
        rw [z, Nat.pow_zero, e] at h
        have := Nat.mul_pos (Nat.two_pow_pos k) (show 0 < 2 * o + 1 by omega)
        omega
      omega⟩
    have e2 : 2 ^ (n + 1) = 2 * 2 ^ n := by rw [Nat.pow_succ, Nat.mul_comm]
    rw [e, e2] at h ⊢
    have ih := low_bit k o n (by omega)
    rw [← Nat.mul_sub]
    have and2 : ∀ a b : Nat, (2 * a) &&& (2 * b) = 2 * (a &&& b) := by
      intro a b
      have h1 : (2 * a &&& 2 * b) / 2 ^ 1 = (2 * a) / 2 ^ 1 &&& (2 * b) / 2 ^ 1 := Nat.and_div_two_pow
      have h2 : (2 * a &&& 2 * b) % 2 ^ 1 = ((2 * a) % 2 ^ 1) &&& ((2 * b) % 2 ^ 1) := Nat.and_mod_two_pow
      rw [Nat.pow_one] at h1 h2
      rw [show 2 * a / 2 = a by omega, show 2 * b / 2 = b by omega] at h1
      rw [show 2 * a % 2 = 0 by omega, show 2 * b % 2 = 0 by omega] at h2
      have h3 : (0 : Nat) &&& 0 = 0 := rfl
      omega
    rw [and2, ih, Nat.pow_succ, Nat.mul_comm]
/-- the next of the same weight, as the class finds it -/
theorem gosper {x : Nat} (hx : x ≠ 0) (hb : x < 2 ^ 20) : ∃ k nx, k < 20 ∧ x &&& (2 ^ 64 - x) = 2 ^ k ∧ (x + 2 ^ k) ||| ((x ^^^ (x + 2 ^ k)) >>> (2 + k)) = nx ∧ wt nx = wt x ∧ x < nx ∧ nx < 2 ^ 22 ∧ x + 2 ^ k < 2 ^ 22 ∧ ∀ y, x < y → y < nx → wt y ≠ wt x := by
  obtain ⟨k, o, e⟩ := zeros_form x hx
  obtain ⟨h, j', e2⟩ := ones_form o
  generalize hj : j' + 1 = j at e2
  have hj1 : 1 ≤ j := by omega
  have p1 : 0 < 2 ^ j := Nat.two_pow_pos j
  have p2 : 0 < 2 ^ k := Nat.two_pow_pos k
  have p3 : 2 ≤ 2 ^ j := by
    rw [← hj, Nat.pow_succ]
    have := Nat.two_pow_pos j'
    omega
  -- the parts
  have hn : 2 ^ k * (h * 2 ^ (j + 1)) = 2 ^ (k + j + 1) * h := by rw [Nat.mul_comm h, ← Nat.mul_assoc, ← Nat.pow_add, Nat.add_assoc]
  have hA : x = 2 ^ (k + j + 1) * h + 2 ^ k * (2 ^ j - 1) := by rw [e, e2, Nat.mul_add, hn]
  have hkj : 2 ^ k * 2 ^ j = 2 ^ (k + j) := (Nat.pow_add ..).symm
  have hAs : 2 ^ k * (2 ^ j - 1) + 2 ^ k = 2 ^ (k + j) := by
    rw [← hkj]
    obtain ⟨t, ht⟩ : ∃ t, 2 ^ j = t + 1 := ⟨2 ^ j - 1, by omega⟩
    rw [ht, Nat.add_sub_cancel, Nat.mul_succ]
  have hkj1 : 2 ^ (k + j + 1) = 2 ^ (k + j) + 2 ^ (k + j) := by rw [Nat.pow_succ]; omega
  have hr : x + 2 ^ k = 2 ^ (k + j + 1) * h + 2 ^ (k + j) := by omega
  have hx1 : 2 ^ (k + j) ≤ 2 * x := by
    have : 2 ^ k ≤ 2 ^ k * (2 ^ j - 1) := Nat.le_mul_of_pos_right _ (by omega)
    omega
  have hkj20 : k + j ≤ 20 := by
    refine Classical.byContradiction (fun z => ?_)
    have : 2 ^ 21 ≤ 2 ^ (k + j) := Nat.pow_le_pow_right (by decide) (by omega)
    omega
  generalize hAe : 2 ^ k * (2 ^ j - 1) = A at hA hAs
  have hxx : x ^^^ (x + 2 ^ k) = A + 2 ^ (k + j) := by
    rw [hr, hA, add_xor (show A < 2 ^ (k + j + 1) by omega), add_xor (show 2 ^ (k + j) < 2 ^ (k + j + 1) by omega)]
    have h1 : A + 2 ^ (k + j) = A ^^^ 2 ^ (k + j) := by
      have := add_xor (n := k + j) (a := 1) (b := A) (by omega)
      rw [Nat.mul_one] at this
      rw [Nat.add_comm, this, Nat.xor_comm]
    rw [h1, Nat.xor_assoc, Nat.xor_comm A, ← Nat.xor_assoc, ← Nat.xor_assoc, Nat.xor_self, Nat.zero_xor, Nat.xor_comm]
  have hsh : (A + 2 ^ (k + j)) >>> (2 + k) = 2 ^ (j - 1) - 1 := by
    have h1 : A + 2 ^ (k + j) = 2 ^ k * (2 ^ (j + 1) - 1) := by
      rw [← hAe, ← hkj, ← Nat.mul_add, Nat.pow_succ]
      congr 1
      omega
    rw [h1, Nat.shiftRight_eq_div_pow, Nat.pow_add 2 2 k, Nat.mul_comm (2 ^ 2), ← Nat.div_div_eq_div_mul, Nat.mul_div_cancel_left _ p2]
    obtain ⟨t, rfl⟩ : ∃ t, j = t + 1 := ⟨j - 1, by omega⟩
    have h2 : 2 ^ (t + 1 + 1) = 2 ^ t * 4 := by rw [Nat.pow_succ, Nat.pow_succ, Nat.mul_assoc]
    have := Nat.two_pow_pos t
    rw [h2, Nat.add_sub_cancel, show (2 : Nat) ^ 2 = 4 from rfl]
    omega
  have pj : 2 ^ j = 2 * 2 ^ (j - 1) := by
    obtain ⟨t, rfl⟩ : ∃ t, j = t + 1 := ⟨j - 1, by omega⟩
    rw [Nat.pow_succ, Nat.mul_comm, Nat.add_sub_cancel]
  have pjk : 2 ^ j ≤ 2 ^ (k + j) := Nat.pow_le_pow_right (by decide) (by omega)
  have hor : (x + 2 ^ k) ||| (2 ^ (j - 1) - 1) = 2 ^ (k + j + 1) * h + (2 ^ (k + j) + (2 ^ (j - 1) - 1)) := by
    have h1 : x + 2 ^ k = 2 ^ (k + j) * (2 * h + 1) := by
      rw [hr, Nat.pow_succ, Nat.mul_add, Nat.mul_one, ← Nat.mul_assoc]
    have h2 := Nat.two_pow_add_eq_or_of_lt (i := k + j) (b := 2 ^ (j - 1) - 1) (by omega) (2 * h + 1)
    rw [h1, ← h2, ← h1, hr, Nat.add_assoc]
  have hwt : ∀ c, c < 2 ^ (k + j + 1) → wt (2 ^ (k + j + 1) * h + c) = wtF (k + j + 1) c + wtF (64 - (k + j + 1)) h := by
    intro c hc
    unfold wt
    rw [show (64 : Nat) = (k + j + 1) + (64 - (k + j + 1)) by omega, wtF_split, Nat.mul_add_mod, Nat.mod_eq_of_lt hc, Nat.mul_add_div (Nat.two_pow_pos _), Nat.div_eq_of_lt hc, Nat.add_zero]
    congr 1
    congr 1
    omega
  have hwA : wtF (k + j + 1) A = j := by
    have z0 : wtF k 0 = 0 := wtF_lt (m := k) (j := 0) (y := 0) (by decide) (Nat.zero_le _)
    have z1 : wtF (j + 1) (2 ^ j - 1) = j := by rw [wtF_lt (m := j + 1) (j := j) (by omega) (by omega), wtF_ones]
    rw [Nat.add_assoc, wtF_split, ← hAe, Nat.mul_mod_right, Nat.mul_div_cancel_left _ p2, z0, z1, Nat.zero_add]
  have hhi : ∀ c, c < 2 ^ (k + j) → wtF (k + j + 1) (2 ^ (k + j) + c) = wtF (k + j) c + 1 := by
    intro c hc
    rw [wtF_split, Nat.add_mod_left, Nat.mod_eq_of_lt hc, Nat.add_div_left _ (Nat.two_pow_pos _), Nat.div_eq_of_lt hc]
    rfl
  have hwC : wtF (k + j + 1) (2 ^ (k + j) + (2 ^ (j - 1) - 1)) = j := by
    rw [hhi _ (by omega), wtF_lt (j := j - 1) (by omega) (by omega), wtF_ones]
    omega
  refine ⟨k, 2 ^ (k + j + 1) * h + (2 ^ (k + j) + (2 ^ (j - 1) - 1)), by omega, ?_, ?_, ?_, by omega, by omega, by omega, fun y h1 h2 => ?_⟩
  · rw [e]
    refine low_bit k o 64 ?_
    rw [← e]
    omega
  · rw [hxx, hsh, hor]
  · rw [hwt _ (by omega), hwC, hA, hwt _ (by omega), hwA]
  · have hyd : y / 2 ^ (k + j + 1) = h := by
      have pp : 0 < 2 ^ (k + j + 1) := Nat.two_pow_pos _
      apply Nat.le_antisymm
      · refine Nat.le_of_lt_succ ((Nat.div_lt_iff_lt_mul pp).mpr ?_)
        rw [Nat.succ_mul, Nat.mul_comm h]
        omega
      · refine (Nat.le_div_iff_mul_le pp).mpr ?_
        rw [Nat.mul_comm h]
        omega
    have hye := Nat.div_add_mod y (2 ^ (k + j + 1))
    have hyl := Nat.mod_lt y (Nat.two_pow_pos (k + j + 1))
    rw [hyd] at hye
    generalize y % 2 ^ (k + j + 1) = c at hye hyl
    rw [← hye, hwt c hyl, hA, hwt A (by omega), hwA]
    intro z
    have z : wtF (k + j + 1) c = j := by omega
    by_cases c1 : c < 2 ^ (k + j)
    · rw [wtF_lt c1 (by omega), wtF_split] at z
      have q1 : c / 2 ^ k < 2 ^ j := (Nat.div_lt_iff_lt_mul p2).mpr (by rw [Nat.mul_comm, hkj]; exact c1)
      have q2 : 2 ^ j - 1 ≤ c / 2 ^ k := (Nat.le_div_iff_mul_le p2).mpr (by rw [Nat.mul_comm, hAe]; omega)
      have q3 : c / 2 ^ k = 2 ^ j - 1 := by omega
      have q4 := Nat.div_add_mod c (2 ^ k)
      rw [q3, hAe] at q4
      rw [q3, wtF_ones] at z
      have q5 := wtF_pos k (c % 2 ^ k) (Nat.mod_lt _ p2) (by omega)
      omega
    · obtain ⟨c', rfl⟩ : ∃ c', c = 2 ^ (k + j) + c' := ⟨c - 2 ^ (k + j), by omega⟩
      rw [hhi c' (by omega), wtF_lt (j := j - 1) (show c' < 2 ^ (j - 1) by omega) (by omega)] at z
      have := wtF_full (j - 1) c' (by omega) (by omega)
      omega
theorem wt_below {m y : Nat} (hm : m ≤ 64) (h : y < 2 ^ m - 1) : wt y < m := by
  have h1 : wt y = wtF m y := wtF_lt (by omega) hm
  have h2 := wtF_le m y
  have h3 : wtF m y ≠ m := fun z => by
    have := wtF_full m y (by omega) z
    omega
  omega
theorem wt_ones {m : Nat} (hm : m ≤ 64) : wt (2 ^ m - 1) = m := by
  have := Nat.two_pow_pos m
  have h1 : wt (2 ^ m - 1) = wtF m (2 ^ m - 1) := wtF_lt (by omega) hm
  rw [h1, wtF_ones]
theorem wt_half {x y : Nat} (h : x < y) (hw : wt x = wt y) : x / 2 < y / 2 := by
  refine Classical.byContradiction (fun z => ?_)
  have h1 : wt x = x % 2 + wtF 63 (x / 2) := rfl
  have h2 : wt y = y % 2 + wtF 63 (y / 2) := rfl
  have h3 : x / 2 = y / 2 := by omega
  rw [h3] at h1
  omega
