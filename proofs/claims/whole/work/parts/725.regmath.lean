-- registers: steps are linear, many steps by a power of x
def par (x : Nat) : Nat := wt x % 2
theorem wtF_xor : ∀ (n x y : Nat), wtF n (x ^^^ y) % 2 = (wtF n x + wtF n y) % 2
  | 0, _, _ => rfl
  | n + 1, x, y => by
    show ((x ^^^ y) % 2 + wtF n ((x ^^^ y) / 2)) % 2 = (x % 2 + wtF n (x / 2) + (y % 2 + wtF n (y / 2))) % 2
    have h := xor_cases x y
    have ih := wtF_xor n (x / 2) (y / 2)
    rw [h.1, h.2]
    omega
theorem par_xor (x y : Nat) : par (x ^^^ y) = (par x + par y) % 2 := by
  unfold par wt
  rw [wtF_xor, Nat.add_mod]
theorem wtF_small : ∀ (n x : Nat), x < 2 ^ n → wtF (n + 1) x = wtF n x
  | n, x, h => by
    rw [wtF_snoc, Nat.testBit_lt_two_pow h]
    rfl
theorem par_two {x : Nat} (h : x < 2 ^ 63) : par (2 * x) = par x := by
  unfold par wt
  have e : wtF 64 (2 * x) = wtF 63 x := by
    show 2 * x % 2 + wtF 63 (2 * x / 2) = wtF 63 x
    rw [show 2 * x % 2 = 0 by omega, show 2 * x / 2 = x by omega, Nat.zero_add]
  rw [e, ← wtF_small 63 x h]
theorem par_zero : par 0 = 0 := by decide
theorem par_lt (x : Nat) : par x < 2 := Nat.mod_lt _ (by omega)
theorem par_bit {k : Nat} (hk : k < 63) (b : Nat) (hb : b < 2) : par (b <<< k) = b := by
  rw [Nat.shiftLeft_eq]
  have h : ∀ k, k < 63 → par (2 ^ k) = 1 := by decide +kernel
  rcases (show b = 0 ∨ b = 1 by omega) with e | e
  · rw [e, Nat.zero_mul]; exact par_zero
  · rw [e, Nat.one_mul]; exact h k hk
/-- a step of a state -/
def stepF (f st : Nat) : Nat := (st >>> 1) ||| (par (f &&& st) <<< (dg f - 1))
theorem or_disj {x y k : Nat} (hx : x < 2 ^ k) : x ||| (y <<< k) = x ^^^ (y <<< k) := by
  apply Nat.eq_of_testBit_eq
  intro i
  rw [Nat.testBit_or, Nat.testBit_xor, Nat.testBit_shiftLeft]
  by_cases h : k ≤ i
  · rw [Nat.testBit_lt_two_pow (Nat.lt_of_lt_of_le hx (Nat.pow_le_pow_right (by omega) h))]
    simp
  · simp [h]
theorem half_lt {st n : Nat} (h : st < 2 ^ n) (hn : 1 ≤ n) : st >>> 1 < 2 ^ (n - 1) := by
  rw [Nat.shiftRight_eq_div_pow, Nat.pow_one]
  obtain ⟨m, rfl⟩ : ∃ m, n = m + 1 := ⟨n - 1, by omega⟩
  rw [Nat.pow_succ] at h
  rw [Nat.add_sub_cancel]
  omega
theorem stepF_xor_form {f st : Nat} (hn : 1 ≤ dg f) (h : st < 2 ^ dg f) : stepF f st = (st >>> 1) ^^^ (par (f &&& st) <<< (dg f - 1)) := or_disj (half_lt h hn)
theorem stepF_lt {f st : Nat} (hn : 1 ≤ dg f) (h : st < 2 ^ dg f) : stepF f st < 2 ^ dg f := by
  have h1 := half_lt h hn
  have h2 : 2 ^ (dg f - 1) < 2 ^ dg f := Nat.pow_lt_pow_right (by omega) (by omega)
  refine Nat.or_lt_two_pow (by omega) ?_
  have h3 := par_lt (f &&& st)
  rw [Nat.shiftLeft_eq]
  have h4 : par (f &&& st) * 2 ^ (dg f - 1) ≤ 1 * 2 ^ (dg f - 1) := Nat.mul_le_mul_right _ (by omega)
  omega
theorem and_xor_distrib (f s t : Nat) : f &&& (s ^^^ t) = (f &&& s) ^^^ (f &&& t) := by
  apply Nat.eq_of_testBit_eq
  intro i
  rw [Nat.testBit_and, Nat.testBit_xor, Nat.testBit_xor, Nat.testBit_and, Nat.testBit_and]
  cases f.testBit i <;> cases s.testBit i <;> cases t.testBit i <;> rfl
theorem bit_xor_shift {a b k : Nat} (ha : a < 2) (hb : b < 2) : ((a + b) % 2) <<< k = (a <<< k) ^^^ (b <<< k) := by
  rw [Nat.shiftLeft_eq, Nat.shiftLeft_eq, Nat.shiftLeft_eq]
  rcases (show a = 0 ∨ a = 1 by omega) with e | e <;> rcases (show b = 0 ∨ b = 1 by omega) with e2 | e2 <;> rw [e, e2] <;> simp
theorem stepF_xor {f s t : Nat} (hn : 1 ≤ dg f) (hs : s < 2 ^ dg f) (ht : t < 2 ^ dg f) : stepF f (s ^^^ t) = stepF f s ^^^ stepF f t := by
  rw [stepF_xor_form hn hs, stepF_xor_form hn ht, stepF_xor_form hn (Nat.xor_lt_two_pow hs ht), and_xor_distrib, par_xor, bit_xor_shift (par_lt _) (par_lt _), Nat.shiftRight_xor_distrib, xor_swap4]
/-- many steps -/
def stp (f : Nat) : Nat → Nat → Nat
  | 0, st => st
  | t + 1, st => stp f t (stepF f st)
theorem stp_lt {f : Nat} (hn : 1 ≤ dg f) : ∀ t st, st < 2 ^ dg f → stp f t st < 2 ^ dg f
  | 0, _, h => h
  | t + 1, st, h => stp_lt hn t _ (stepF_lt hn h)
theorem stp_add (f : Nat) : ∀ t u st, stp f (t + u) st = stp f u (stp f t st)
  | 0, u, st => by rw [Nat.zero_add]; rfl
  | t + 1, u, st => by rw [show t + 1 + u = (t + u) + 1 by omega]; exact stp_add f t u (stepF f st)
theorem stp_succ (f t st : Nat) : stp f (t + 1) st = stepF f (stp f t st) := by
  rw [stp_add f t 1 st]
  rfl
theorem stp_xor {f : Nat} (hn : 1 ≤ dg f) : ∀ t r s, r < 2 ^ dg f → s < 2 ^ dg f → stp f t (r ^^^ s) = stp f t r ^^^ stp f t s
  | 0, _, _, _, _ => rfl
  | t + 1, r, s, hr, hs => by
    show stp f t (stepF f (r ^^^ s)) = _
    rw [stepF_xor hn hr hs]
    exact stp_xor hn t _ _ (stepF_lt hn hr) (stepF_lt hn hs)
theorem and_pow2 (x m : Nat) : x &&& 2 ^ m = (x.testBit m).toNat * 2 ^ m := by
  apply Nat.eq_of_testBit_eq
  intro i
  rw [Nat.testBit_and, Nat.testBit_two_pow]
  by_cases h : m = i
  · subst h
    cases hx : x.testBit m
    · simp
    · simp
  · cases hx : x.testBit m
    · simp [h]
    · simp [h, Nat.testBit_two_pow]
/-- the functional that a state is -/
def lin (f st p : Nat) : Nat := par (pmod p f &&& st)
theorem and_half (q st : Nat) : (2 * q) &&& st = 2 * (q &&& (st / 2)) := by
  apply Nat.eq_of_testBit_eq
  intro i
  cases i with
  | zero =>
    rw [Nat.testBit_and, Nat.testBit_zero, Nat.testBit_zero, Nat.testBit_zero]
    simp
  | succ i =>
    rw [Nat.testBit_and, Nat.testBit_succ, Nat.testBit_succ, Nat.testBit_succ, show 2 * q / 2 = q by omega, show 2 * (q &&& (st / 2)) / 2 = q &&& (st / 2) by omega, Nat.testBit_and]
theorem lin_step {f st p : Nat} (hf : f < 2 ^ 32) (hn : 1 ≤ dg f) (h : st < 2 ^ dg f) : lin f (stepF f st) p = lin f st (2 * p) := by
  have hf0 : f ≠ 0 := by
    intro z
    rw [z] at hn
    exact absurd hn (by decide)
  have hd := (dg_lt hf0).mpr hf
  have hq := pmod_lt hf0 p
  have e : pmod (2 * p) f = pmod (2 * pmod p f) f := by
    rw [two_cm, two_cm, pmod_mul_left hf0]
  unfold lin
  rw [e]
  generalize pmod p f = q at hq
  have hpw : 2 ^ dg f ≤ 2 ^ 31 := Nat.pow_le_pow_right (by omega) (by omega)
  have hqst : (q &&& (st / 2)) < 2 ^ 63 := Nat.lt_of_le_of_lt Nat.and_le_left (by omega)
  have p1 : par ((2 * q) &&& st) = par (q &&& (st >>> 1)) := by
    rw [and_half, par_two hqst, Nat.shiftRight_eq_div_pow, Nat.pow_one]
  obtain ⟨m, hm⟩ : ∃ m, dg f = m + 1 := ⟨dg f - 1, by omega⟩
  rw [stepF_xor_form hn h, and_xor_distrib, par_xor]
  have e0 : dg f - 1 = m := by omega
  rw [e0]
  have hb := par_lt (f &&& st)
  -- q and the new top bit
  have pt : par (q &&& (par (f &&& st) <<< m)) = (q.testBit m).toNat * par (f &&& st) := by
    have e2 : q &&& (par (f &&& st) <<< m) = ((q.testBit m).toNat * par (f &&& st)) <<< m := by
      rcases (show par (f &&& st) = 0 ∨ par (f &&& st) = 1 by omega) with z | z <;> rw [z]
      · rw [Nat.mul_zero, Nat.zero_shiftLeft, Nat.and_zero]
      · rw [Nat.mul_one, Nat.shiftLeft_eq, Nat.one_mul, and_pow2, Nat.shiftLeft_eq]
    rw [e2]
    refine par_bit (by omega) _ ?_
    have : (q.testBit m).toNat ≤ 1 := by cases q.testBit m <;> decide
    have h2 := Nat.mul_le_mul this (show par (f &&& st) ≤ 1 by omega)
    omega
  rw [pt]
  rw [hm] at hq
  by_cases hqm : q < 2 ^ m
  · have h1 : 2 * q < 2 ^ dg f := by rw [hm, Nat.pow_succ]; omega
    rw [pmod_small h1, p1, Nat.testBit_lt_two_pow hqm]
    show (par (q &&& (st >>> 1)) + 0 * _) % 2 = _
    rw [Nat.zero_mul, Nat.add_zero]
    exact Nat.mod_eq_of_lt (par_lt _)
  · have hq1 : q.testBit m = true := by
      rw [Nat.testBit_eq_decide_div_mod_eq]
      have : q / 2 ^ m = 1 := by
        rw [Nat.pow_succ] at hq
        exact Nat.div_eq_of_lt_le (by omega) (by omega)
      rw [this]
      rfl
    have h2a : 2 ^ dg f ≤ 2 * q := by rw [hm, Nat.pow_succ]; omega
    have h2b : 2 * q < 2 ^ (dg f + 1) := by rw [hm, Nat.pow_succ, Nat.pow_succ]; rw [Nat.pow_succ] at hq; omega
    have h2 : pmod (2 * q) f = 2 * q ^^^ f := by
      have hx : 2 * q ^^^ f < 2 ^ dg f := xor_low2 h2a h2b (dg_self hf0).1 (dg_self hf0).2
      refine pmod_of_cg hf0 ?_ hx
      unfold cg
      rw [← Nat.xor_assoc, Nat.xor_self, Nat.zero_xor]
      exact pdvd_refl f
    have h3 : (2 * q ^^^ f) &&& st = ((2 * q) &&& st) ^^^ (f &&& st) := by
      rw [Nat.and_comm, and_xor_distrib, Nat.and_comm st, Nat.and_comm st]
    rw [h2, h3, par_xor, p1, hq1]
    show (par (q &&& (st >>> 1)) + 1 * par (f &&& st)) % 2 = _
    rw [Nat.one_mul]
theorem lin_stp {f : Nat} (hf : f < 2 ^ 32) (hn : 1 ≤ dg f) : ∀ t st p, st < 2 ^ dg f → lin f (stp f t st) p = lin f st (cm (ppow 2 t) p)
  | 0, st, p, _ => by show lin f st p = lin f st (cm 1 p); rw [one_cm]
  | t + 1, st, p, h => by
    show lin f (stp f t (stepF f st)) p = lin f st (cm (cm 2 (ppow 2 t)) p)
    rw [lin_stp hf hn t _ p (stepF_lt hn h), lin_step hf hn h, two_cm, cm_comm _ 2, cm_assoc]
theorem lin_bit {f st i : Nat} (hi : i < dg f) (hi2 : i < 63) : lin f st (2 ^ i) = (st.testBit i).toNat := by
  unfold lin
  rw [pmod_small (Nat.pow_lt_pow_right (by omega) hi), Nat.and_comm, and_pow2]
  have := par_bit hi2 (st.testBit i).toNat (by cases st.testBit i <;> decide)
  rw [Nat.shiftLeft_eq] at this
  exact this
theorem stp_bit {f st t i : Nat} (hf : f < 2 ^ 32) (hn : 1 ≤ dg f) (h : st < 2 ^ dg f) (hi : i < dg f) (hi2 : i < 63) : ((stp f t st).testBit i).toNat = par (pmod (ppow 2 (t + i)) f &&& st) := by
  rw [← lin_bit hi hi2, lin_stp hf hn t st _ h, ← ppow_2, ← ppow_add]
  rfl
