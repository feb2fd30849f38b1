-- weights; the class's test of what is irreducible
def wtF : Nat → Nat → Nat
  | 0, _ => 0
  | n + 1, a => a % 2 + wtF n (a / 2)
def wt (a : Nat) : Nat := wtF 64 a
theorem wtF_add : ∀ (m n a : Nat), wtF (m + n) a = wtF m a + wtF n (a / 2 ^ m)
  | 0, n, a => by rw [Nat.zero_add]; show wtF n a = 0 + wtF n (a / 1); rw [Nat.div_one, Nat.zero_add]
  | m + 1, n, a => by
    rw [show m + 1 + n = (m + n) + 1 by omega]
    show a % 2 + wtF (m + n) (a / 2) = a % 2 + wtF m (a / 2) + wtF n (a / 2 ^ (m + 1))
    rw [wtF_add m n (a / 2), Nat.div_div_eq_div_mul, Nat.pow_succ, Nat.mul_comm 2, Nat.add_assoc]
theorem wtF_mod : ∀ (m a : Nat), wtF m (a % 2 ^ m) = wtF m a
  | 0, _ => rfl
  | m + 1, a => by
    show a % 2 ^ (m + 1) % 2 + wtF m (a % 2 ^ (m + 1) / 2) = a % 2 + wtF m (a / 2)
    have e1 : a % 2 ^ (m + 1) % 2 = a % 2 := Nat.mod_mod_of_dvd a ⟨2 ^ m, by rw [Nat.pow_succ, Nat.mul_comm]⟩
    have e2 : a % 2 ^ (m + 1) / 2 = a / 2 % 2 ^ m := by
      rw [Nat.pow_succ, Nat.mul_comm, Nat.mod_mul, Nat.add_comm, Nat.mul_comm 2]
      omega
    rw [e1, e2, wtF_mod m (a / 2)]
theorem wtF_le : ∀ (m a : Nat), wtF m a ≤ m
  | 0, _ => Nat.le_refl _
  | m + 1, a => by
    show a % 2 + wtF m (a / 2) ≤ m + 1
    have := wtF_le m (a / 2)
    omega
theorem wtF_snoc (k a : Nat) : wtF (k + 1) a = wtF k a + (a.testBit k).toNat := by
  rw [wtF_add k 1 a, Nat.testBit_eq_decide_div_mod_eq]
  show wtF k a + (a / 2 ^ k % 2 + 0) = _
  have : a / 2 ^ k % 2 = 0 ∨ a / 2 ^ k % 2 = 1 := by omega
  rcases this with h | h <;> rw [h] <;> rfl
def f1 (x : Nat) : Nat := x - ((x / 2) &&& 85)
def f2 (v : Nat) : Nat := (v &&& 51) + ((v / 4) &&& 51)
def f3 (v : Nat) : Nat := (v + v / 16) &&& 15
theorem byte_wt : ∀ x, x < 256 → f3 (f2 (f1 x)) = wtF 8 x := by decide +kernel
theorem byte_f1 : ∀ x, x < 256 → f1 x < 256 ∧ f2 (f1 x) ≤ 68 ∧ f2 (f1 x) % 16 ≤ 4 := by decide +kernel
theorem mask85 : ∀ x, x < 128 → ∀ b, b < 2 → (x + 128 * b) &&& 85 = x &&& 85 := by decide +kernel
theorem mask51 : ∀ x, x < 64 → ∀ b, b < 4 → (x + 64 * b) &&& 51 = x &&& 51 := by decide +kernel
theorem mask15 : ∀ x, x < 256 → x &&& 15 = x % 16 := by decide +kernel
def rp : Nat → Nat → Nat
  | 0, _ => 0
  | n + 1, m => 256 * rp n m + m
theorem and_split (x y : Nat) : x &&& y = 256 * ((x / 256) &&& (y / 256)) + ((x % 256) &&& (y % 256)) := by
  have h1 : (x &&& y) / 2 ^ 8 = x / 2 ^ 8 &&& y / 2 ^ 8 := Nat.and_div_two_pow
  have h2 : (x &&& y) % 2 ^ 8 = (x % 2 ^ 8) &&& (y % 2 ^ 8) := Nat.and_mod_two_pow
  have h3 := Nat.div_add_mod (x &&& y) 256
  have h1' : (x &&& y) / 256 = x / 256 &&& y / 256 := h1
  have h2' : (x &&& y) % 256 = (x % 256) &&& (y % 256) := h2
  rw [h1', h2'] at h3
  exact h3.symm
theorem rp_split (n m x : Nat) (hm : m < 256) : x &&& rp (n + 1) m = 256 * ((x / 256) &&& rp n m) + ((x % 256) &&& m) := by
  rw [and_split]
  have e1 : rp (n + 1) m / 256 = rp n m := by show (256 * rp n m + m) / 256 = _; omega
  have e2 : rp (n + 1) m % 256 = m := by show (256 * rp n m + m) % 256 = _; omega
  rw [e1, e2]
def V1 (n a : Nat) : Nat := a - ((a / 2) &&& rp n 85)
def V2 (n v : Nat) : Nat := (v &&& rp n 51) + ((v / 4) &&& rp n 51)
def V3 (n v : Nat) : Nat := (v + v / 16) &&& rp n 15
theorem V1_step (n a : Nat) : V1 (n + 1) a = 256 * V1 n (a / 256) + f1 (a % 256) := by
  unfold V1 f1
  rw [rp_split n 85 _ (by omega)]
  have e1 : a / 2 / 256 = a / 256 / 2 := by omega
  have e2 : a / 2 % 256 = a % 256 / 2 + 128 * (a / 256 % 2) := by omega
  rw [e1, e2, mask85 _ (by omega) _ (by omega)]
  have h1 : (a / 256 / 2) &&& rp n 85 ≤ a / 256 / 2 := Nat.and_le_left
  have h2 : (a % 256 / 2) &&& 85 ≤ a % 256 / 2 := Nat.and_le_left
  generalize (a / 256 / 2) &&& rp n 85 = A at *
  generalize (a % 256 / 2) &&& 85 = B at *
  omega
theorem V2_step (n v : Nat) : V2 (n + 1) v = 256 * V2 n (v / 256) + f2 (v % 256) := by
  unfold V2 f2
  rw [rp_split n 51 _ (by omega), rp_split n 51 _ (by omega)]
  have e1 : v / 4 / 256 = v / 256 / 4 := by omega
  have e2 : v / 4 % 256 = v % 256 / 4 + 64 * (v / 256 % 4) := by omega
  rw [e1, e2, mask51 _ (by omega) _ (by omega)]
  omega
theorem V12_step (n a : Nat) : V2 (n + 1) (V1 (n + 1) a) = 256 * V2 n (V1 n (a / 256)) + f2 (f1 (a % 256)) := by
  have hb := (byte_f1 (a % 256) (by omega)).1
  rw [V2_step, V1_step]
  have e1 : (256 * V1 n (a / 256) + f1 (a % 256)) / 256 = V1 n (a / 256) := by omega
  have e2 : (256 * V1 n (a / 256) + f1 (a % 256)) % 256 = f1 (a % 256) := by omega
  rw [e1, e2]
theorem V12_low (n a : Nat) : V2 n (V1 n a) % 16 ≤ 4 := by
  cases n with
  | zero =>
    have e : V2 0 (V1 0 a) = 0 := by
      unfold V2
      rw [show rp 0 51 = 0 from rfl, Nat.and_zero, Nat.and_zero]
    rw [e]
    omega
  | succ n =>
    rw [V12_step]
    have := (byte_f1 (a % 256) (by omega)).2.2
    omega
def V (n a : Nat) : Nat := V3 n (V2 n (V1 n a))
theorem V_step (n a : Nat) : V (n + 1) a = 256 * V n (a / 256) + wtF 8 (a % 256) := by
  unfold V V3
  rw [V12_step, rp_split n 15 _ (by omega)]
  have h1 := V12_low n (a / 256)
  have h2 := byte_f1 (a % 256) (by omega)
  have h3 := byte_wt (a % 256) (by omega)
  generalize V2 n (V1 n (a / 256)) = v at *
  rw [← h3]
  unfold f3
  generalize f2 (f1 (a % 256)) = r at *
  have e1 : (256 * v + r + (256 * v + r) / 16) / 256 = v + v / 16 := by omega
  have e2 : (256 * v + r + (256 * v + r) / 16) % 256 = r + r / 16 + 16 * (v % 16) := by omega
  rw [e1, e2, mask15 _ (by omega), mask15 _ (by omega)]
  omega
theorem V_zero (a : Nat) : V 0 a = 0 := by
  show ((_ : Nat) &&& 0) = 0
  exact Nat.and_zero _
theorem V_eight {a : Nat} (ha : a < 2 ^ 64) : ∃ b0 b1 b2 b3 b4 b5 b6 b7 : Nat, b0 ≤ 8 ∧ b1 ≤ 8 ∧ b2 ≤ 8 ∧ b3 ≤ 8 ∧ b4 ≤ 8 ∧ b5 ≤ 8 ∧ b6 ≤ 8 ∧ b7 ≤ 8 ∧
    V 8 a = 256 * (256 * (256 * (256 * (256 * (256 * (256 * b7 + b6) + b5) + b4) + b3) + b2) + b1) + b0 ∧ wt a = b0 + (b1 + (b2 + (b3 + (b4 + (b5 + (b6 + b7)))))) := by
  have hw : ∀ n x, wtF (8 + n) x = wtF 8 (x % 256) + wtF n (x / 256) := fun n x => by rw [wtF_add 8 n x, ← wtF_mod 8 x]
  refine ⟨wtF 8 (a % 256), wtF 8 (a / 256 % 256), wtF 8 (a / 256 / 256 % 256), wtF 8 (a / 256 / 256 / 256 % 256), wtF 8 (a / 256 / 256 / 256 / 256 % 256), wtF 8 (a / 256 / 256 / 256 / 256 / 256 % 256), wtF 8 (a / 256 / 256 / 256 / 256 / 256 / 256 % 256), wtF 8 (a / 256 / 256 / 256 / 256 / 256 / 256 / 256 % 256), wtF_le _ _, wtF_le _ _, wtF_le _ _, wtF_le _ _, wtF_le _ _, wtF_le _ _, wtF_le _ _, wtF_le _ _, ?_, ?_⟩
  · rw [V_step, V_step, V_step, V_step, V_step, V_step, V_step, V_step, V_zero]
    omega
  · show wtF (8 + 56) a = _
    rw [hw 56 a, show (56 : Nat) = 8 + 48 from rfl, hw 48, show (48 : Nat) = 8 + 40 from rfl, hw 40, show (40 : Nat) = 8 + 32 from rfl, hw 32, show (32 : Nat) = 8 + 24 from rfl, hw 24, show (24 : Nat) = 8 + 16 from rfl, hw 16, show (16 : Nat) = 8 + 8 from rfl, hw 8]
    rw [wtF_mod 8 (a / 256 / 256 / 256 / 256 / 256 / 256 / 256)]
theorem lN_subN {a b : Nat} (h : b ≤ a) : lN a - lN b = lN (a - b) := by
  apply L_inj
  show BitVec.ofNat 64 a - BitVec.ofNat 64 b = BitVec.ofNat 64 (a - b)
  have e : BitVec.ofNat 64 a = BitVec.ofNat 64 (a - b) + BitVec.ofNat 64 b := by rw [← BitVec.ofNat_add]; congr 1; omega
  rw [e, BitVec.add_sub_cancel]
theorem sp_bitCount {a : Nat} {P : Int32 → Prop} (ha : a < 2 ^ 63) (h : P (nI (wt a))) : cf_Long_bitCount (lN a) P := by
  unfold cf_Long_bitCount
  obtain ⟨b0, b1, b2, b3, b4, b5, b6, b7, h0, h1, h2, h3, h4, h5, h6, h7, hV, hw⟩ := V_eight (a := a) (by omega)
  have m5 : (6148914691236517205 : Int64) = lN (rp 8 85) := by decide +kernel
  have m3 : (3689348814741910323 : Int64) = lN (rp 8 51) := by decide +kernel
  have m1 : (1085102592571150095 : Int64) = lN (rp 8 15) := by decide +kernel
  have s1 : ∀ n k, n < 2 ^ 64 → k < 64 → lushr (lN n) (nI k) = lN (n / 2 ^ k) := fun n k hn hk => by rw [lushr_lN hn hk, Nat.shiftRight_eq_div_pow]
  have hV1 : V1 8 a < 2 ^ 64 := by unfold V1; omega
  have hV2 : V2 8 (V1 8 a) ≤ rp 8 51 + rp 8 51 := Nat.add_le_add Nat.and_le_right Nat.and_le_right
  have hV2b : V2 8 (V1 8 a) < 2 ^ 64 := Nat.lt_of_le_of_lt hV2 (by decide +kernel)
  rintro _ rfl
  have e1 : lN a - (lushr (lN a) 1 &&& (6148914691236517205 : Int64)) = lN (V1 8 a) := by
    rw [m5, show (1 : Int32) = nI 1 from rfl, s1 a 1 (by omega) (by omega), lN_and]
    exact lN_subN (Nat.le_trans Nat.and_le_left (Nat.div_le_self _ _))
  rw [e1]
  rintro _ rfl
  have e2 : (lN (V1 8 a) &&& (3689348814741910323 : Int64)) + (lushr (lN (V1 8 a)) 2 &&& (3689348814741910323 : Int64)) = lN (V2 8 (V1 8 a)) := by
    rw [m3, show (2 : Int32) = nI 2 from rfl, s1 _ 2 hV1 (by omega), lN_and, lN_and, lN_add]
    rfl
  rw [e2]
  rintro _ rfl
  have e3 : (lN (V2 8 (V1 8 a)) + lushr (lN (V2 8 (V1 8 a))) 4) &&& (1085102592571150095 : Int64) = lN (V 8 a) := by
    rw [m1, show (4 : Int32) = nI 4 from rfl, s1 _ 4 hV2b (by omega), lN_add, lN_and]
    rfl
  rw [e3, hV]
  rintro _ rfl _ rfl _ rfl
  rw [show (8 : Int32) = nI 8 from rfl, show (16 : Int32) = nI 16 from rfl, show (32 : Int32) = nI 32 from rfl]
  rw [s1 _ 8 (by omega) (by omega), lN_add]
  rw [s1 _ 16 (by omega) (by omega), lN_add]
  rw [s1 _ 32 (by omega) (by omega), lN_add]
  rw [lN_i32, show (127 : Int32) = nI (2 ^ 7 - 1) from rfl, nI_and, Nat.and_two_pow_sub_one_eq_mod]
  rw [hw] at h
  have e4 : ∀ x, x = b0 + (b1 + (b2 + (b3 + (b4 + (b5 + (b6 + b7)))))) → P (nI x) := fun x hx => hx ▸ h
  apply e4
  obtain ⟨t6, q6⟩ : ∃ t, t = 256 * b7 + b6 := ⟨_, rfl⟩
  obtain ⟨t5, q5⟩ : ∃ t, t = 256 * t6 + b5 := ⟨_, rfl⟩
  obtain ⟨t4, q4⟩ : ∃ t, t = 256 * t5 + b4 := ⟨_, rfl⟩
  obtain ⟨t3, q3⟩ : ∃ t, t = 256 * t4 + b3 := ⟨_, rfl⟩
  obtain ⟨t2, q2⟩ : ∃ t, t = 256 * t3 + b2 := ⟨_, rfl⟩
  obtain ⟨t1, q1⟩ : ∃ t, t = 256 * t2 + b1 := ⟨_, rfl⟩
  obtain ⟨t0, q0⟩ : ∃ t, t = 256 * t1 + b0 := ⟨_, rfl⟩
  rw [← q6, ← q5, ← q4, ← q3, ← q2, ← q1, ← q0]
  have g1 : t0 / 2 ^ 8 = t1 := by omega
  rw [g1]
  have g2 : (t0 + t1) / 2 ^ 16 = t2 + t3 := by omega
  rw [g2]
  have g3 : (t0 + t1 + (t2 + t3)) / 2 ^ 32 = t4 + t5 + t6 + b7 := by omega
  rw [g3]
  omega
theorem mp_weight {a : Nat} {P : Int32 → Prop} (ha : a < 2 ^ 64) (h : P (nI (wt a))) : cf_M_weight (lN a) P := by
  have key : ∀ m k, k + m = 64 → ∀ n, m < n → cf_M_weight_L4 P n (lN a) (nI (wtF k a)) (nI k) := by
    intro m
    induction m with
    | zero =>
      intro k hk n hn
      obtain ⟨n, rfl⟩ : ∃ m, n = m + 1 := ⟨n - 1, by omega⟩
      show cf_M_weight_B4 _ _ _ _ _
      unfold cf_M_weight_B4
      have hk : k = 64 := by omega
      subst hk
      exact ⟨fun _ => h, fun c => absurd ((nI_leI (show 64 < 2 ^ 31 by decide) (by decide)).mpr (Nat.le_refl _)) c⟩
    | succ m ih =>
      intro k hk n hn
      obtain ⟨n, rfl⟩ : ∃ m, n = m + 1 := ⟨n - 1, by omega⟩
      show cf_M_weight_B4 _ _ _ _ _
      unfold cf_M_weight_B4
      refine ⟨fun c => ?_, fun _ => ?_⟩
      · have := (nI_leI (show 64 < 2 ^ 31 by decide) (show k < 2 ^ 31 by omega)).mp c
        omega
      · have ih := ih (k + 1) (by omega) n (by omega)
        rw [wtF_snoc] at ih
        refine mp_hasB ha (by omega) (fun ht => ⟨fun z => absurd z one_ne, fun _ => ?_⟩) (fun ht => ⟨fun _ => ?_, fun z => absurd rfl z⟩)
        · rintro _ rfl _ rfl
          rw [ht] at ih
          rw [nI_1, nI_1]
          exact ih
        · rintro _ rfl _ rfl
          rw [ht] at ih
          rw [nI_1, show (0 : Int32) = nI 0 from rfl, nI_add]
          exact ih
  unfold cf_M_weight
  exact ⟨65, key 64 0 (by omega) 65 (by omega)⟩
theorem cg3_wt : ∀ n a, a < 2 ^ n → cg 3 a (wtF n a % 2)
  | 0, a, h => by
    have : a = 0 := by simpa using h
    subst this
    exact cg_refl _ _
  | n + 1, a, h => by
    have ih := cg3_wt n (a / 2) (by rw [Nat.pow_succ] at h; omega)
    have h2 : cg 3 2 1 := pdvd_refl 3
    have h3 : cg 3 (2 * (a / 2)) (wtF n (a / 2) % 2) := by
      rw [two_cm, cm_comm]
      have := cg_cm h2 ih
      rw [one_cm] at this
      exact this
    have h4 := cg_xor (cg_refl 3 (a % 2)) h3
    rw [← nat_split] at h4
    have e : a % 2 ^^^ wtF n (a / 2) % 2 = wtF (n + 1) a % 2 := by
      show _ = (a % 2 + wtF n (a / 2)) % 2
      have e1 : a % 2 = 0 ∨ a % 2 = 1 := by omega
      have e2 : wtF n (a / 2) % 2 = 0 ∨ wtF n (a / 2) % 2 = 1 := by omega
      rcases e1 with e1 | e1 <;> rcases e2 with e2 | e2 <;> rw [Nat.add_mod, e1, e2] <;> rfl
    rw [e] at h4
    exact h4
theorem dg2 : dg 2 = 1 := dg_pow 1
theorem irr_deg1 {a : Nat} (h2 : 2 ≤ a) (h4 : a < 4) : irr a := by
  refine last_irr (d := 1) (fun p hp _ => irr_dg hp) h2 ?_
  exact (dg_lt (by omega)).mpr (by omega)
theorem sp_isIrr {a : Nat} {P : Int32 → Prop} (ha : a < 2 ^ 32) (h1 : irr a → P 1) (h0 : ¬ irr a → P 0) : cf_Polys_isIrreducible (lN a) P := by
  unfold cf_Polys_isIrreducible
  refine sp_degree (by omega) ?_
  by_cases hs : a < 4
  · have hb : a = 0 ∨ a = 1 ∨ (2 ≤ a ∧ a < 4) := by omega
    rcases hb with e | e | e
    · subst e
      exact ⟨fun c => absurd c (by decide), fun _ => ⟨fun _ => h0 (fun z => by have := z.1; omega), fun c => absurd c (by decide)⟩⟩
    · subst e
      exact ⟨fun c => absurd c (by decide), fun _ => ⟨fun _ => h0 (fun z => by have := z.1; omega), fun c => absurd c (by decide)⟩⟩
    · have hd : dI a = 1 := by
        rcases (show a = 2 ∨ a = 3 by omega) with e | e <;> subst e <;> decide
      rw [hd]
      exact ⟨fun c => absurd c (by decide), fun _ => ⟨fun c => absurd rfl c, fun _ => h1 (irr_deg1 e.1 e.2)⟩⟩
  · have hdg : 2 ≤ dg a := (le_dg (by omega)).mpr (by omega)
    have hdl : dg a < 32 := (dg_lt (by omega)).mpr ha
    rw [dI_pos (by omega)]
    refine ⟨fun _ => ⟨fun c => h0 (fun z => ?_), fun c => ?_⟩, fun c => absurd ((nI_leI (show 2 < 2 ^ 31 by decide) (by omega)).mpr hdg) c⟩
    · have c := lN_and1.mp c
      have e : a = cm (a / 2) 2 := by rw [← two_cm]; omega
      rcases z.2 2 ⟨_, e⟩ with q | q <;> omega
    · refine sp_bitCount (by omega) ?_
      rw [show (1 : Int32) = nI 1 from rfl, nI_and, Nat.and_one_is_mod]
      refine ⟨fun c2 => ?_, fun c2 => h0 (fun z => ?_)⟩
      · have key : ∀ m d fr, 1 ≤ d → dg a + 1 ≤ d + m → fr < 2 ^ 32 → cg a fr (fx (d - 1)) → (∀ e, 1 ≤ e → e < d → pgcd a (fx e ^^^ 2) = 1) → ∀ n, m < n → cf_Polys_isIrreducible_L47 P n (lN a) (nI (dg a)) (lN fr) (nI d) := by
          intro m
          induction m with
          | zero =>
            intro d fr hd1 hd hfr hc hg n hn
            obtain ⟨n, rfl⟩ : ∃ m, n = m + 1 := ⟨n - 1, by omega⟩
            show cf_Polys_isIrreducible_B47 _ _ _ _ _ _
            unfold cf_Polys_isIrreducible_B47
            have hirr : irr a := (irr_test (by omega)).mpr (fun e h1 h2 => hg e h1 (by omega))
            refine ⟨fun _ => h1 hirr, fun c => ?_⟩
            exfalso
            by_cases hd2 : d < 2 ^ 20
            · have e2 : (2 : Int32) * nI d = nI (2 * d) := nI_mul 2 d
              rw [e2, nI_ltI (by omega) (by omega)] at c
              omega
            · have h2 := irr_dg hirr
              have h3 := hg (dg a) (by omega) (by omega)
              have h4 := pdvd_pgcd (pdvd_refl a) (fx_self hirr)
              rw [h3] at h4
              exact irr_not_one hirr h4
          | succ m ih =>
            intro d fr hd1 hd hfr hc hg n hn
            obtain ⟨n, rfl⟩ : ∃ m, n = m + 1 := ⟨n - 1, by omega⟩
            show cf_Polys_isIrreducible_B47 _ _ _ _ _ _
            unfold cf_Polys_isIrreducible_B47
            by_cases hd2 : dg a + 1 < d
            · exact ih d fr hd1 (by omega) hfr hc hg (n + 1) (by omega)
            have e2 : (2 : Int32) * nI d = nI (2 * d) := nI_mul 2 d
            rw [e2, nI_ltI (by omega) (by omega)]
            refine ⟨fun c => h1 ((irr_test (by omega)).mpr (fun e h1 h2 => hg e h1 (by omega))), fun c => ?_⟩
            refine sp_squareBy hfr (by omega) ?_
            have hr := pmod_lt31 (show a ≠ 0 by omega) ha (cm fr fr)
            have hcg : cg a (pmod (cm fr fr) a) (fx d) := by
              refine cg_trans (cg_pmod (by omega) _) ?_
              have e3 : fx d = cm (fx (d - 1)) (fx (d - 1)) := by rw [← fx_succ]; congr 1; omega
              rw [e3]
              exact cg_cm hc hc
            rw [show (2 : Int64) = lN 2 from rfl, lN_xor]
            refine sp_gcd (by omega) (Nat.lt_of_lt_of_le (Nat.xor_lt_two_pow (n := 32) (by omega) (by omega)) (by decide)) ?_
            have e4 : pgcd a (pmod (cm fr fr) a ^^^ 2) = pgcd a (fx d ^^^ 2) := pgcd_cg (cg_xor hcg (cg_refl a 2))
            rw [e4]
            have hgl : pgcd a (fx d ^^^ 2) < 2 ^ 32 := by
              rw [← e4]
              exact pgcd_bd ha (Nat.xor_lt_two_pow (by omega) (by omega))
            rw [lN_eq1 (by omega)]
            refine ⟨fun c3 => ?_, fun c3 => h0 (fun z => c3 ?_)⟩
            · rintro _ rfl
              rw [nI_1]
              refine ih (d + 1) _ (by omega) (by omega) (by omega) (by simpa using hcg) (fun e h1 h2 => ?_) n (by omega)
              by_cases h3 : e = d
              · rw [h3]; exact c3
              · exact hg e h1 (by omega)
            · exact (irr_test (by omega)).mp z d hd1 (by omega)
        exact ⟨dg a + 1, key (dg a) 1 2 (by omega) (by omega) (by omega) (by rw [Nat.sub_self, fx_zero]; exact cg_refl _ _) (fun e h1 h2 => by omega) _ (by omega)⟩
      · have h3 := cg3_wt 64 a (by omega)
        have h4 : wtF 64 a % 2 = 0 := (nI_eq0 (a := wt a % 2) (by omega)).mp c2
        rw [h4] at h3
        rcases z.2 3 (cg_zero.mp h3) with q | q <;> omega
