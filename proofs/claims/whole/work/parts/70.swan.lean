-- Swan's law
theorem nI_rem {a b : Nat} (ha : a < 2 ^ 31) (h0 : 0 < b) (hb : b < 2 ^ 31) : irem (nI a) (nI b) = nI (a % b) := pk_rem ha h0 hb
def swE (n k : Nat) : Int32 := if n = 2 * k then 1 else if 2 ≤ (n / 2 * k) % 4 then 1 else 0
def swO (n k : Nat) : Int32 := if 2 * n % k = 0 then (if n % 8 = 1 ∨ n % 8 = 7 then 0 else 1) else (if n % 8 = 1 ∨ n % 8 = 7 then 1 else 0)
def swanN (n k : Nat) : Int32 := if n % 2 = 0 then (if k % 2 = 0 then -2 else swE n k) else (if k % 2 = 0 then swO n k else swO n (n - k))
theorem rem_c {n : Nat} (hn : n < 2 ^ 31) : irem (nI n) 2 = nI (n % 2) ∧ irem (nI n) 8 = nI (n % 8) ∧ irem (nI n) 4 = nI (n % 4) ∧ nI n / 2 = nI (n / 2) ∧ (2 : Int32) * nI n = nI (2 * n) :=
  ⟨nI_rem (b := 2) hn (by omega) (by omega), nI_rem (b := 8) hn (by omega) (by omega), nI_rem (b := 4) hn (by omega) (by omega), pk_div (d := 2) hn (by omega) (by omega), nI_mul 2 n⟩
theorem c_eq {a : Nat} (ha : a < 2 ^ 31) : (nI a = (1 : Int32) ↔ a = 1) ∧ (nI a = (7 : Int32) ↔ a = 7) ∧ (nI a = (3 : Int32) ↔ a = 3) ∧ (nI a = (5 : Int32) ↔ a = 5) :=
  ⟨nI_eq (b := 1) ha (by omega), nI_eq (b := 7) ha (by omega), nI_eq (b := 3) ha (by omega), nI_eq (b := 5) ha (by omega)⟩
theorem mul_bd {n k : Nat} (hn : n ≤ 2000) (hk : k ≤ 2000) : n / 2 * k < 2 ^ 31 := Nat.lt_of_le_of_lt (Nat.mul_le_mul (show n / 2 ≤ 1000 by omega) hk) (by decide)
theorem sp_swanE {n k : Nat} {P : Int32 → Prop} (hn : n ≤ 2000) (hk : k ≤ 2000) (h : P (swE n k)) : cf_Families_swanOfEven (nI n) (nI k) P := by
  have hb := mul_bd hn hk
  unfold cf_Families_swanOfEven
  unfold swE at h
  rw [(rem_c (n := k) (by omega)).2.2.2.2, (rem_c (n := n) (by omega)).2.2.2.1, nI_mul, (rem_c hb).2.2.1, nI_eq (by omega) (by omega)]
  refine ⟨fun c => ?_, fun c => ?_⟩
  · rw [if_neg c] at h
    have e := nI_leI (a := 2) (b := n / 2 * k % 4) (by omega) (by omega)
    exact ⟨fun q => by rw [if_pos (e.mp q)] at h; exact h, fun q => by rw [if_neg (fun z => q (e.mpr z))] at h; exact h⟩
  · rw [if_pos c] at h; exact h
theorem sp_swanB {n : Nat} {P : Int32 → Prop} (hn : n ≤ 2000) (t : Bool) (h : P (if t then (if n % 8 = 1 ∨ n % 8 = 7 then 0 else 1) else (if n % 8 = 1 ∨ n % 8 = 7 then 1 else 0))) : cf_Families_swanOfOdd_B17 P (nI n) (nI t.toNat) := by
  unfold cf_Families_swanOfOdd_B17
  have hc := c_eq (a := n % 8) (by omega)
  rw [(rem_c (n := n) (by omega)).2.1, hc.1, hc.2.1]
  cases t with
  | true =>
    rw [if_pos rfl] at h
    refine ⟨fun c => ⟨fun z => absurd rfl z, fun _ => by rw [if_pos (Or.inl c)] at h; exact h⟩, fun c => ⟨fun c2 => ⟨fun _ => by rw [if_neg (by omega)] at h; exact h, fun z => absurd z (by decide)⟩, fun c2 => ⟨fun z => absurd rfl z, fun _ => by rw [if_pos (Or.inr c2)] at h; exact h⟩⟩⟩
  | false =>
    rw [if_neg (by decide)] at h
    refine ⟨fun c => ⟨fun _ => by rw [if_pos (Or.inl c)] at h; exact h, fun z => absurd z (by decide)⟩, fun c => ⟨fun c2 => ⟨fun z => absurd rfl z, fun _ => by rw [if_neg (by omega)] at h; exact h⟩, fun c2 => ⟨fun _ => by rw [if_pos (Or.inr c2)] at h; exact h, fun z => absurd z (by decide)⟩⟩⟩
theorem sp_swanO {n k : Nat} {P : Int32 → Prop} (hn : n ≤ 2000) (hk0 : 0 < k) (hk : k ≤ 2000) (h : P (swO n k)) : cf_Families_swanOfOdd (nI n) (nI k) P := by
  unfold cf_Families_swanOfOdd
  unfold swO at h
  have hm : 2 * n % k < 2 ^ 31 := by have := Nat.mod_lt (2 * n) hk0; omega
  rw [(rem_c (n := n) (by omega)).2.2.2.2, nI_rem (by omega) hk0 (by omega), nI_eq0 (by omega), nI_eq0 hm]
  refine ⟨fun c => ?_, fun _ => ⟨by omega, fun c => ?_, fun c => ?_⟩⟩
  · have := (nI_leI (a := k) (b := 0) (by omega) (by omega)).mp c
    omega
  · refine sp_swanB hn false ?_
    rw [if_neg c] at h
    exact h
  · refine sp_swanB hn true ?_
    rw [if_pos c] at h
    exact h
theorem sp_swan {n k : Nat} {P : Int32 → Prop} (hn : n ≤ 2000) (hk0 : 0 < k) (hk : k < n) (h : P (swanN n k)) : cf_Families_swanParity (nI n) (nI k) P := by
  unfold cf_Families_swanParity
  unfold swanN at h
  rw [(rem_c (n := n) (by omega)).1, (rem_c (n := k) (by omega)).1, nI_eq0 (by omega), nI_eq0 (by omega), pk_sub (by omega)]
  refine ⟨fun c => ?_, fun c => ?_⟩
  · rw [if_neg c] at h
    refine ⟨fun c2 => ?_, fun c2 => ?_⟩
    · rw [if_neg c2] at h
      exact sp_swanO hn (by omega) (by omega) h
    · rw [if_pos c2] at h
      exact sp_swanO hn (by omega) (by omega) h
  · rw [if_pos c] at h
    refine ⟨fun c2 => ?_, fun c2 => ?_⟩
    · rw [if_neg c2] at h
      exact sp_swanE hn (by omega) h
    · rw [if_pos c2] at h
      exact h
theorem mp_swan37 {NR : Int32 → Int32 → (Int32 → Prop) → Prop} {n k : Nat} {P : Int32 → Prop} (hn : n ≤ 2000) (hk0 : 0 < k) (hk : k < n) (h : P (if n % 2 = 0 then swE n k else swO n k)) : cf_M_swanOf_B37 NR P (nI n) (nI k) := by
  have hb := mul_bd hn (show k ≤ 2000 by omega)
  have hc := c_eq (a := n % 8) (by omega)
  have hm : 2 * n % k < 2 ^ 31 := by have := Nat.mod_lt (2 * n) hk0; omega
  unfold cf_M_swanOf_B37
  rw [(rem_c (n := n) (by omega)).1, (rem_c (n := n) (by omega)).2.1, (rem_c (n := n) (by omega)).2.2.2.2, (rem_c (n := n) (by omega)).2.2.2.1, (rem_c (n := k) (by omega)).2.2.2.2, nI_mul, (rem_c hb).2.2.1, nI_rem (by omega) hk0 (by omega), nI_eq0 (a := n % 2) (by omega), nI_eq0 (a := k) (by omega), nI_eq0 (a := 2 * n % k) hm, nI_eq (a := n) (b := 2 * k) (by omega) (by omega)]
  refine ⟨fun c => ?_, fun c => ?_⟩
  · rw [if_neg c] at h
    unfold swO at h
    rintro _ rfl
    rw [hc.1, hc.2.1, hc.2.2.1, hc.2.2.2]
    have hodd : n % 8 = 1 ∨ n % 8 = 3 ∨ n % 8 = 5 ∨ n % 8 = 7 := by omega
    refine ⟨by omega, fun c2 => ?_, fun c2 => ?_⟩
    · rw [if_neg c2] at h
      refine ⟨fun q => ⟨fun z => absurd z (by decide), fun _ => ?_⟩, fun q => ⟨fun q2 => ⟨fun _ => ?_, fun z => absurd rfl z⟩, fun q2 => ⟨fun z => absurd z (by decide), fun _ => ?_⟩⟩⟩
      · rw [if_neg (by omega)] at h; exact h
      · rw [if_pos (by omega)] at h; exact h
      · rw [if_neg (by omega)] at h; exact h
    · rw [if_pos c2] at h
      refine ⟨fun q => ⟨fun z => absurd z (by decide), fun _ => ?_⟩, fun q => ⟨fun q2 => ⟨fun _ => ?_, fun z => absurd rfl z⟩, fun q2 => ⟨fun z => absurd z (by decide), fun _ => ?_⟩⟩⟩
      · rw [if_pos (by omega)] at h; exact h
      · rw [if_neg (by omega)] at h; exact h
      · rw [if_pos (by omega)] at h; exact h
  · rw [if_pos c] at h
    unfold swE at h
    rintro _ rfl
    refine ⟨fun c2 => by rw [if_pos c2] at h; exact h, fun c2 => ?_⟩
    rw [if_neg c2] at h
    have e := nI_leI (a := n / 2 * k % 4) (b := 1) (by omega) (by omega)
    refine ⟨fun q => ?_, fun q => ?_⟩
    · have := e.mp q
      rw [if_neg (by omega)] at h; exact h
    · have : ¬ n / 2 * k % 4 ≤ 1 := fun z => q (e.mpr z)
      rw [if_pos (by omega)] at h; exact h
theorem mp_swan {n k : Nat} {P : Int32 → Prop} (hn : n ≤ 2000) (hk0 : 0 < k) (hk : k < n) (h : P (swanN n k)) : cf_M_swanOf_W (nI n) (nI k) P := by
  have one : ∀ (m k : Nat) (P : Int32 → Prop), 0 < k → k < n → ¬ (n % 2 = 1 ∧ k % 2 = 1) → P (swanN n k) → cf_M_swanOf (m + 1) (nI n) (nI k) P := by
    intro m k P hk0 hk hno h
    show cf_M_swanOf_E _ _ _ _
    have b15 : ¬ (n % 2 = 0 ∧ k % 2 = 0) → cf_M_swanOf_B15 (cf_M_swanOf m) P (nI n) (nI k) := by
      intro hne
      have h37 : cf_M_swanOf_B37 (cf_M_swanOf m) P (nI n) (nI k) := by
        refine mp_swan37 hn hk0 hk ?_
        unfold swanN at h
        by_cases c : n % 2 = 0
        · rw [if_pos c] at h ⊢
          rw [if_neg (by omega)] at h
          exact h
        · rw [if_neg c] at h ⊢
          rw [if_pos (by omega)] at h
          exact h
      unfold cf_M_swanOf_B15
      rw [(rem_c (n := n) (by omega)).1, (rem_c (n := k) (by omega)).1, (c_eq (a := n % 2) (by omega)).1, (c_eq (a := k % 2) (by omega)).1]
      exact ⟨fun _ => h37, fun c => ⟨fun _ => h37, fun c2 => absurd ⟨c, c2⟩ hno⟩⟩
    unfold cf_M_swanOf_E
    rw [(rem_c (n := n) (by omega)).1, (rem_c (n := k) (by omega)).1, nI_eq0 (by omega), nI_eq0 (by omega)]
    refine ⟨fun c => b15 (fun z => c z.1), fun c => ⟨fun c2 => b15 (fun z => c2 z.2), fun c2 => ?_⟩⟩
    unfold swanN at h
    rw [if_pos c, if_pos c2] at h
    exact h
  refine ⟨3, Nat.le_refl _, ?_⟩
  by_cases hb : n % 2 = 1 ∧ k % 2 = 1
  · show cf_M_swanOf_E _ _ _ _
    unfold cf_M_swanOf_E cf_M_swanOf_B15
    rw [(rem_c (n := n) (by omega)).1, (rem_c (n := k) (by omega)).1, nI_eq0 (by omega), nI_eq0 (by omega), (c_eq (a := n % 2) (by omega)).1, (c_eq (a := k % 2) (by omega)).1, pk_sub (by omega)]
    refine ⟨fun _ => ⟨fun z => absurd hb.1 z, fun _ => ⟨fun z => absurd hb.2 z, fun _ => ?_⟩⟩, fun c => absurd hb.1 (by omega)⟩
    refine one 1 (n - k) _ (by omega) (by omega) (by omega) ?_
    unfold swanN at h ⊢
    rw [if_neg (by omega), if_neg (by omega)] at h
    rw [if_neg (by omega), if_pos (by omega)]
    exact h
  · exact one 2 k P hk0 hk hb h
theorem tw_1 : (2 : Int32).toInt = 2 ∧ (2000 : Int32).toInt = 2000 ∧ (1 : Int32).toInt = 1 := by decide
