-- shortest: laws of bits as carryless products
theorem tb_two (x j : Nat) : (2 * x).testBit (j + 1) = x.testBit j := by
  rw [Nat.testBit_succ, show 2 * x / 2 = x by omega]
theorem tb_two0 (x : Nat) : (2 * x).testBit 0 = false := by
  rw [Nat.testBit_zero, show 2 * x % 2 = 0 by omega]
  rfl
theorem bm_none : ∀ K a X t, a < 2 ^ K → (∀ i, i < K → i ≤ t → X.testBit (t - i) = false) → (cm a X).testBit t = false
  | 0, a, X, t, h, _ => by
    have : a = 0 := by rw [Nat.pow_zero] at h; omega
    rw [this, zero_cm, Nat.zero_testBit]
  | K + 1, a, X, t, h, hX => by
    have h0 : X.testBit t = false := hX 0 (by omega) (by omega)
    have e1 : (if a % 2 = 1 then X else 0).testBit t = false := by
      split
      · exact h0
      · exact Nat.zero_testBit t
    rw [cm_lstep, Nat.testBit_xor, e1, Bool.false_xor]
    cases t with
    | zero => exact tb_two0 _
    | succ t =>
      rw [tb_two]
      refine bm_none K (a / 2) X t (by rw [Nat.pow_succ] at h; omega) (fun i hi hit => ?_)
      have := hX (i + 1) (by omega) (by omega)
      rw [show t + 1 - (i + 1) = t - i by omega] at this
      exact this
theorem cm_low {K a X t : Nat} (ho : a % 2 = 1) (h : a < 2 ^ (K + 1)) (hX : ∀ i, 1 ≤ i → i ≤ K → i ≤ t → X.testBit (t - i) = false) : (cm a X).testBit t = X.testBit t := by
  rw [cm_lstep, if_pos ho, Nat.testBit_xor]
  have e : (2 * cm (a / 2) X).testBit t = false := by
    cases t with
    | zero => exact tb_two0 _
    | succ t =>
      rw [tb_two]
      refine bm_none K (a / 2) X t (by rw [Nat.pow_succ] at h; omega) (fun i hi hit => ?_)
      have := hX (i + 1) (by omega) (by omega) (by omega)
      rw [show t + 1 - (i + 1) = t - i by omega] at this
      exact this
  rw [e, Bool.xor_false]
/-- a law of length L for the first t bits -/
def gl (s t L C : Nat) : Prop := C % 2 = 1 ∧ C < 2 ^ (L + 1) ∧ ∀ j, L ≤ j → j < t → (cm C s).testBit j = false
theorem gl_less {s t u L C : Nat} (h : gl s t L C) (hu : u ≤ t) : gl s u L C := ⟨h.1, h.2.1, fun j h1 h2 => h.2.2 j h1 (by omega)⟩
theorem massey {s t l L C D : Nat} (hC : gl s t l C) (hb : (cm C s).testBit t = true) (hl : l ≤ t) (hD : gl s (t + 1) L D) : t + 1 ≤ l + L := by
  refine Nat.not_lt.mp (fun c => ?_)
  have h1 : (cm D (cm C s)).testBit t = true := by
    rw [cm_low hD.1 hD.2.1 (fun i h1 h2 h3 => hC.2.2 (t - i) (by omega) (by omega))]
    exact hb
  have h2 : (cm C (cm D s)).testBit t = false := bm_none (l + 1) C (cm D s) t hC.2.1 (fun i h1 h2 => hD.2.2 (t - i) (by omega) (by omega))
  rw [cm_left_comm, h2] at h1
  exact absurd h1 (by decide)
theorem cm_shl_left (B g s : Nat) : cm (B <<< g) s = (cm B s) <<< g := by
  rw [Nat.shiftLeft_eq, Nat.shiftLeft_eq, ← cm_pow_two, ← cm_pow_two, cm_assoc, cm_comm (2 ^ g) s, ← cm_assoc]
/-- what the loop keeps: the law C of length l, the law B that was broken last (of length m), g bits ago -/
def bm (s t C B l m g : Nat) : Prop :=
  gl s t l C ∧ 1 ≤ g ∧ m + l + g = t + 1 ∧ l ≤ t ∧ B < 2 ^ (m + 1) ∧ (∀ j, m ≤ j → j + 1 < m + l → (cm B s).testBit j = false) ∧ (1 ≤ l → (cm B s).testBit (m + l - 1) = true) ∧ ∀ L D, gl s t L D → l ≤ L
theorem bm_zero (s : Nat) : bm s 0 1 1 0 0 1 :=
  ⟨⟨rfl, by decide, fun j h1 h2 => by omega⟩, by omega, by omega, by omega, by decide, fun j h1 h2 => by omega, fun z => by omega, fun L D _ => by omega⟩
theorem bm_same {s t C B l m g : Nat} (h : bm s t C B l m g) (hb : (cm C s).testBit t = false) : bm s (t + 1) C B l m (g + 1) := by
  obtain ⟨h1, h2, h3, h4, h5, h6, h7, h8⟩ := h
  refine ⟨⟨h1.1, h1.2.1, fun j g1 g2 => ?_⟩, by omega, by omega, by omega, h5, h6, h7, fun L D hD => h8 L D (gl_less hD (by omega))⟩
  by_cases e : j = t
  · rw [e]; exact hb
  · exact h1.2.2 j g1 (by omega)
theorem mended_odd {C B g : Nat} (h : C % 2 = 1) (hg : 1 ≤ g) : (C ^^^ (B <<< g)) % 2 = 1 := by
  obtain ⟨k, rfl⟩ : ∃ k, g = k + 1 := ⟨g - 1, by omega⟩
  have e : B <<< (k + 1) = 2 * (B <<< k) := by rw [Nat.shiftLeft_eq, Nat.shiftLeft_eq, Nat.pow_succ]; rw [← Nat.mul_assoc, Nat.mul_comm]
  have := (xor_cases C (B <<< (k + 1))).1
  rw [this, e]
  omega
theorem shl_lt {B m g n : Nat} (h : B < 2 ^ (m + 1)) (hn : m + g ≤ n) : B <<< g < 2 ^ (n + 1) := by
  rw [Nat.shiftLeft_eq]
  have h1 : B * 2 ^ g < 2 ^ (m + 1) * 2 ^ g := Nat.mul_lt_mul_of_pos_right h (Nat.pow_pos (by omega))
  rw [← Nat.pow_add] at h1
  exact Nat.lt_of_lt_of_le h1 (Nat.pow_le_pow_right (by omega) (by omega))
theorem mended_bit {s C B g j : Nat} (hj : g ≤ j) : (cm (C ^^^ (B <<< g)) s).testBit j = ((cm C s).testBit j ^^ (cm B s).testBit (j - g)) := by
  rw [cm_xor_left, cm_shl_left, Nat.testBit_xor, Nat.testBit_shiftLeft]
  simp [hj]
theorem bm_long {s t C B l m g : Nat} (h : bm s t C B l m g) (hb : (cm C s).testBit t = true) (hl : 2 * l ≤ t) : bm s (t + 1) (C ^^^ (B <<< g)) C (t + 1 - l) l 1 := by
  obtain ⟨h1, h2, h3, h4, h5, h6, h7, h8⟩ := h
  refine ⟨⟨mended_odd h1.1 h2, Nat.xor_lt_two_pow (Nat.lt_of_lt_of_le h1.2.1 (Nat.pow_le_pow_right (by omega) (by omega))) (shl_lt h5 (by omega)), fun j g1 g2 => ?_⟩, by omega, by omega, by omega, h1.2.1, fun j g1 g2 => h1.2.2 j g1 (by omega), fun _ => ?_, fun L D hD => ?_⟩
  · rw [mended_bit (by omega)]
    by_cases e : j = t
    · subst e
      have := h7 (by omega)
      rw [show m + l - 1 = j - g by omega] at this
      rw [hb, this]
      rfl
    · rw [h1.2.2 j (by omega) (by omega), h6 (j - g) (by omega) (by omega)]
      rfl
  · rw [show l + (t + 1 - l) - 1 = t by omega]
    exact hb
  · have := massey h1 hb h4 hD
    omega
theorem bm_short {s t C B l m g : Nat} (h : bm s t C B l m g) (hb : (cm C s).testBit t = true) (hl : ¬ 2 * l ≤ t) : bm s (t + 1) (C ^^^ (B <<< g)) B l m (g + 1) := by
  obtain ⟨h1, h2, h3, h4, h5, h6, h7, h8⟩ := h
  refine ⟨⟨mended_odd h1.1 h2, Nat.xor_lt_two_pow h1.2.1 (shl_lt h5 (by omega)), fun j g1 g2 => ?_⟩, by omega, by omega, by omega, h5, h6, h7, fun L D hD => h8 L D (gl_less hD (by omega))⟩
  rw [mended_bit (by omega)]
  by_cases e : j = t
  · subst e
    have := h7 (by omega)
    rw [show m + l - 1 = j - g by omega] at this
    rw [hb, this]
    rfl
  · rw [h1.2.2 j (by omega) (by omega), h6 (j - g) (by omega) (by omega)]
    rfl
theorem odd_part : ∀ n E, E < n → E ≠ 0 → ∃ k D, E = D <<< k ∧ D % 2 = 1
  | 0, E, h, _ => by omega
  | n + 1, E, h, h0 => by
    by_cases ho : E % 2 = 1
    · exact ⟨0, E, rfl, ho⟩
    · obtain ⟨k, D, e, hD⟩ := odd_part n (E / 2) (by omega) (by omega)
      refine ⟨k + 1, D, ?_, hD⟩
      rw [Nat.shiftLeft_eq] at e ⊢
      rw [Nat.pow_succ, ← Nat.mul_assoc, ← e]
      omega
/-- with 2 L at most n there is one law of the least length alone -/
theorem law_one {s n L C1 C2 : Nat} (hm : ∀ L' D, gl s n L' D → L ≤ L') (h1 : gl s n L C1) (h2 : gl s n L C2) (hn : 2 * L ≤ n) : C1 = C2 := by
  refine Classical.byContradiction (fun hne => ?_)
  have h0 : C1 ^^^ C2 ≠ 0 := fun z => hne (xor_eq_zero'.mp z)
  obtain ⟨k, D, e, hD⟩ := odd_part _ _ (Nat.lt_succ_self _) h0
  have hlt : C1 ^^^ C2 < 2 ^ (L + 1) := Nat.xor_lt_two_pow h1.2.1 h2.2.1
  have hk : 1 ≤ k := by
    refine Nat.pos_of_ne_zero (fun z => ?_)
    rw [z] at e
    have := (xor_cases C1 C2).1
    rw [e, h1.1, h2.1] at this
    rw [Nat.shiftLeft_zero] at this
    omega
  rw [e, Nat.shiftLeft_eq] at hlt
  have hkL : k ≤ L := by
    refine Nat.not_lt.mp (fun c => ?_)
    have h3 : 2 ^ (L + 1) ≤ 2 ^ k := Nat.pow_le_pow_right (by omega) c
    have h4 : 1 * 2 ^ k ≤ D * 2 ^ k := Nat.mul_le_mul_right _ (by omega)
    omega
  have hDlt : D < 2 ^ (L - k + 1) := by
    refine Nat.lt_of_mul_lt_mul_right (a := 2 ^ k) ?_
    rw [← Nat.pow_add, show L - k + 1 + k = L + 1 by omega]
    exact hlt
  have hbit : ∀ j, L - k ≤ j → j < n - k → (cm D s).testBit j = false := by
    intro j g1 g2
    have g3 : (cm (C1 ^^^ C2) s).testBit (j + k) = false := by
      rw [cm_xor_left, Nat.testBit_xor, h1.2.2 (j + k) (by omega) (by omega), h2.2.2 (j + k) (by omega) (by omega)]
      rfl
    rw [e, cm_shl_left, Nat.testBit_shiftLeft] at g3
    simpa using g3
  have key : ∀ i, i ≤ k → gl s (n - k + i) (L - k) D := by
    intro i
    induction i with
    | zero => intro _; exact ⟨hD, hDlt, fun j g1 g2 => hbit j g1 (by omega)⟩
    | succ i ih =>
      intro hi
      have h3 := ih (by omega)
      refine ⟨hD, hDlt, fun j g1 g2 => ?_⟩
      by_cases ej : j = n - k + i
      · cases hb : (cm D s).testBit j with
        | false => rfl
        | true =>
          rw [ej] at hb
          have := massey h3 hb (by omega) (gl_less h1 (by omega))
          omega
      · exact h3.2.2 j g1 (by omega)
  have h4 := hm _ _ (by have := key k (Nat.le_refl k); rw [show n - k + k = n by omega] at this; exact this)
  omega
-- rules and laws
theorem par_b (x y b c : Nat) (hb : b < 2) (hc : c < 2) (hx : x < 2 ^ 62) : par ((2 * x + b) &&& (2 * y + c)) = (par (x &&& y) + (b &&& c)) % 2 := by
  have e : (2 * x + b) &&& (2 * y + c) = (b &&& c) ^^^ (2 * (x &&& y)) := by
    apply Nat.eq_of_testBit_eq
    intro i
    rw [Nat.testBit_and, Nat.testBit_xor]
    cases i with
    | zero =>
      rw [tb_two0, Nat.testBit_zero, Nat.testBit_zero, Nat.testBit_zero, show (2 * x + b) % 2 = b by omega, show (2 * y + c) % 2 = c by omega]
      rcases (show b = 0 ∨ b = 1 by omega) with e | e <;> rcases (show c = 0 ∨ c = 1 by omega) with e2 | e2 <;> rw [e, e2] <;> rfl
    | succ i =>
      have h1 : (b &&& c).testBit (i + 1) = false := by
        rcases (show b = 0 ∨ b = 1 by omega) with e | e <;> rcases (show c = 0 ∨ c = 1 by omega) with e2 | e2 <;> rw [e, e2]
        · exact Nat.zero_testBit _
        · exact Nat.zero_testBit _
        · exact Nat.zero_testBit _
        · rw [show 1 &&& 1 = 1 from rfl, Nat.testBit_succ]; exact Nat.zero_testBit _
      rw [tb_two, h1, Bool.false_xor, Nat.testBit_and, Nat.testBit_succ, Nat.testBit_succ, show (2 * x + b) / 2 = x by omega, show (2 * y + c) / 2 = y by omega]
  have hlt : (x &&& y) < 2 ^ 63 := Nat.lt_of_le_of_lt Nat.and_le_left (by omega)
  have hbc : par (b &&& c) = (b &&& c) := by
    rcases (show b = 0 ∨ b = 1 by omega) with e | e <;> rcases (show c = 0 ∨ c = 1 by omega) with e2 | e2 <;> rw [e, e2] <;> decide
  rw [e, par_xor, par_two hlt, hbc, Nat.add_comm]
theorem cm_mod_step (C s N : Nat) : cm (C % 2 ^ (N + 1)) s = cm (C % 2 ^ N) s ^^^ (if C.testBit N then s <<< N else 0) := by
  rw [mod_bit, cm_xor_left]
  congr 1
  split
  · rw [cm_comm, cm_pow_two, Nat.shiftLeft_eq]
  · exact zero_cm s
theorem cm_top {C s N : Nat} (h : C < 2 ^ (N + 1)) : cm C s = cm (C % 2 ^ N) s ^^^ (if C.testBit N then s <<< N else 0) := by
  have := cm_mod_step C s N
  rw [Nat.mod_eq_of_lt h] at this
  exact this
theorem bit_and (a b : Nat) : ((a % 2) &&& (b % 2)) = ((a.testBit 0) && (b.testBit 0)).toNat := by
  rw [Nat.testBit_zero, Nat.testBit_zero]
  rcases (show a % 2 = 0 ∨ a % 2 = 1 by omega) with e | e <;> rcases (show b % 2 = 0 ∨ b % 2 = 1 by omega) with e2 | e2 <;> rw [e, e2] <;> rfl
theorem par_law : ∀ N i p C s e, N ≤ 62 → p < 2 ^ N → C < 2 ^ N → (∀ j, j < N → C.testBit j = p.testBit (N - 1 - j)) → e + 1 = i + N → ((cm C s).testBit e).toNat = par (p &&& (s >>> i))
  | 0, i, p, C, s, e, _, hp, hC, _, _ => by
    have e1 : p = 0 := by rw [Nat.pow_zero] at hp; omega
    have e2 : C = 0 := by rw [Nat.pow_zero] at hC; omega
    rw [e1, e2, zero_cm, Nat.zero_testBit, Nat.zero_and]
    exact par_zero.symm
  | N + 1, i, p, C, s, e, hN, hp, hC, hb, he => by
    have ih := par_law N (i + 1) (p / 2) (C % 2 ^ N) s e (by omega) (by rw [Nat.pow_succ] at hp; omega) (Nat.mod_lt _ (Nat.pow_pos (by omega))) (fun j hj => by
      rw [Nat.testBit_mod_two_pow, hb j (by omega), ← Nat.testBit_succ, show N + 1 - 1 - j = N - 1 - j + 1 by omega]
      simp [hj]) (by omega)
    have hp2 : p / 2 < 2 ^ 62 := by
      have : 2 ^ (N + 1) ≤ 2 ^ 62 := Nat.pow_le_pow_right (by omega) hN
      omega
    have e1 : par (p &&& (s >>> i)) = (par (p / 2 &&& (s >>> (i + 1))) + ((p.testBit 0) && ((s >>> i).testBit 0)).toNat) % 2 := by
      have h1 := par_b (p / 2) ((s >>> i) / 2) (p % 2) ((s >>> i) % 2) (by omega) (by omega) hp2
      rw [show 2 * (p / 2) + p % 2 = p by omega, show 2 * ((s >>> i) / 2) + (s >>> i) % 2 = s >>> i by omega, bit_and] at h1
      rw [h1, Nat.shiftRight_succ]
    rw [e1, ← ih, cm_top hC, Nat.testBit_xor]
    have e2 : (if C.testBit N then s <<< N else 0).testBit e = (p.testBit 0 && (s >>> i).testBit 0) := by
      have h0 := hb N (by omega)
      rw [show N + 1 - 1 - N = 0 by omega] at h0
      rw [h0, Nat.testBit_shiftRight]
      cases p.testBit 0
      · exact Nat.zero_testBit e
      · show (s <<< N).testBit e = _
        rw [Nat.testBit_shiftLeft, show e - N = i + 0 by omega]
        simp
        omega
    rw [e2]
    cases (cm (C % 2 ^ N) s).testBit e <;> cases (p.testBit 0 && (s >>> i).testBit 0) <;> rfl
/-- a rule of length L for n bits: c its lower part -/
def rul (s n L c : Nat) : Prop := c < 2 ^ L ∧ ∀ i, i + L < n → par ((2 ^ L ||| c) &&& (s >>> i)) = 0
/-- k bits of a law told backwards from place L -/
def rv (C L : Nat) : Nat → Nat
  | 0 => 0
  | k + 1 => rv C L k ||| ((C.testBit (L - k)).toNat <<< k)
theorem rv_bit (C L : Nat) : ∀ k i, (rv C L k).testBit i = (decide (i < k) && C.testBit (L - i))
  | 0, i => by
    show (0 : Nat).testBit i = _
    rw [Nat.zero_testBit]
    simp
  | k + 1, i => by
    show (rv C L k ||| ((C.testBit (L - k)).toNat <<< k)).testBit i = _
    rw [Nat.testBit_or, rv_bit C L k i, Nat.testBit_shiftLeft]
    by_cases h : i < k
    · simp [h, show i < k + 1 by omega, show ¬ k ≤ i by omega]
    · by_cases h2 : i = k
      · subst h2
        cases C.testBit (L - i) <;> simp
      · have h3 : (C.testBit (L - k)).toNat.testBit (i - k) = false := by
          obtain ⟨j, hj⟩ : ∃ j, i - k = j + 1 := ⟨i - k - 1, by omega⟩
          rw [hj, Nat.testBit_succ]
          cases C.testBit (L - k) <;> exact Nat.zero_testBit _
        simp [h, h3, show ¬ i < k + 1 by omega]
theorem rv_lt (C L k : Nat) : rv C L k < 2 ^ k := by
  refine Nat.lt_pow_two_of_testBit _ (fun i hi => ?_)
  rw [rv_bit]
  simp [show ¬ i < k by omega]
theorem ext_lt {a b N : Nat} (ha : a < 2 ^ N) (hb : b < 2 ^ N) (h : ∀ i, i < N → a.testBit i = b.testBit i) : a = b := by
  apply Nat.eq_of_testBit_eq
  intro i
  by_cases hi : i < N
  · exact h i hi
  · rw [Nat.testBit_lt_two_pow (Nat.lt_of_lt_of_le ha (Nat.pow_le_pow_right (by omega) (Nat.not_lt.mp hi))), Nat.testBit_lt_two_pow (Nat.lt_of_lt_of_le hb (Nat.pow_le_pow_right (by omega) (Nat.not_lt.mp hi)))]
theorem rv_rv {C L : Nat} (h : C < 2 ^ (L + 1)) : rv (rv C L (L + 1)) L (L + 1) = C := by
  refine ext_lt (rv_lt _ _ _) h (fun i hi => ?_)
  rw [rv_bit, rv_bit, show L - (L - i) = i by omega]
  simp [hi, show L - i < L + 1 by omega]
/-- a law's rule: its lower part -/
def low (C L : Nat) : Nat := rv C L L
theorem rv_low {C L : Nat} (ho : C % 2 = 1) : rv C L (L + 1) = 2 ^ L ||| low C L := by
  show rv C L L ||| ((C.testBit (L - L)).toNat <<< L) = _
  rw [Nat.sub_self, Nat.testBit_zero, ho, Nat.or_comm]
  show (1 <<< L) ||| rv C L L = _
  rw [Nat.shiftLeft_eq, Nat.one_mul]
  rfl
theorem gl_rul {s n L C : Nat} (hL : L ≤ 61) (h : gl s n L C) : rul s n L (low C L) := by
  refine ⟨rv_lt _ _ _, fun i hi => ?_⟩
  rw [← rv_low h.1]
  rw [← par_law (L + 1) i (rv C L (L + 1)) C s (i + L) (by omega) (rv_lt _ _ _) h.2.1 (fun j hj => ?_) (by omega), h.2.2 (i + L) (by omega) hi]
  · rfl
  · rw [rv_bit, show L - (L + 1 - 1 - j) = j by omega]
    simp [show L - j < L + 1 by omega]
theorem rul_gl {s n L c : Nat} (hL : L ≤ 61) (h : rul s n L c) : gl s n L (rv (2 ^ L ||| c) L (L + 1)) ∧ low (rv (2 ^ L ||| c) L (L + 1)) L = c := by
  have hp : 2 ^ L ||| c < 2 ^ (L + 1) := Nat.or_lt_two_pow (Nat.pow_lt_pow_right (by omega) (by omega)) (Nat.lt_of_lt_of_le h.1 (Nat.pow_le_pow_right (by omega) (by omega)))
  have htop : (2 ^ L ||| c).testBit L = true := by
    rw [Nat.testBit_or, Nat.testBit_two_pow]
    simp
  refine ⟨⟨?_, rv_lt _ _ _, fun j g1 g2 => ?_⟩, ?_⟩
  · have : (rv (2 ^ L ||| c) L (L + 1)).testBit 0 = true := by
      rw [rv_bit, Nat.sub_zero, htop]
      simp
    rw [Nat.testBit_zero] at this
    exact of_decide_eq_true this
  · have g3 := par_law (L + 1) (j - L) (2 ^ L ||| c) (rv (2 ^ L ||| c) L (L + 1)) s j (by omega) hp (rv_lt _ _ _) (fun i hi => by
      rw [rv_bit, show L + 1 - 1 - i = L - i by omega]
      simp [hi]) (by omega)
    rw [h.2 (j - L) (by omega)] at g3
    cases hb : (cm (rv (2 ^ L ||| c) L (L + 1)) s).testBit j with
    | false => rfl
    | true => rw [hb] at g3; exact absurd g3 (by decide)
  · refine ext_lt (rv_lt _ _ _) h.1 (fun i hi => ?_)
    show (rv _ L L).testBit i = _
    rw [rv_bit, rv_bit, show L - (L - i) = i by omega, Nat.testBit_or, Nat.testBit_two_pow]
    simp [hi, show L - i < L + 1 by omega, show ¬ L = i by omega]
