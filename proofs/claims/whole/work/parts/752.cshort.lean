-- shortest in the class
theorem and_and_one (a b : Nat) : (a &&& b) &&& 1 = (a.testBit 0 && b.testBit 0).toNat := by
  rw [Nat.and_one_is_mod, ← Nat.testBit_and, Nat.testBit_zero]
  rcases (show (a &&& b) % 2 = 0 ∨ (a &&& b) % 2 = 1 by omega) with e | e <;> rw [e] <;> rfl
theorem xor_toNat (a b : Bool) : a.toNat ^^^ b.toNat = (a ^^ b).toNat := by cases a <;> cases b <;> rfl
theorem pow_le63 {k : Nat} (h : k ≤ 62) : 2 ^ k < 2 ^ 63 := Nat.pow_lt_pow_right (by omega) (by omega)
theorem c_breaks {s t C l : Nat} {P : Int32 → Prop} (hC : C < 2 ^ (l + 1)) (hl : l ≤ t) (ht : t < 60) (hs : s < 2 ^ 60) (h1 : (cm C s).testBit t = true → P 1) (h0 : (cm C s).testBit t = false → P 0) : cf_Shifts_breaks (lN s) (nI t) (lN C) (nI l) P := by
  have hC63 : C < 2 ^ 63 := Nat.lt_of_lt_of_le hC (Nat.le_of_lt (pow_le63 (by omega)))
  have key : ∀ m i, i + m = l + 1 → ∀ n, m < n → cf_Shifts_breaks_L6 P n (lN s) (nI t) (lN C) (nI l) (lN ((cm (C % 2 ^ i) s).testBit t).toNat) (nI i) := by
    intro m
    induction m with
    | zero =>
      intro i hi n hn
      obtain ⟨n, rfl⟩ : ∃ m, n = m + 1 := ⟨n - 1, by omega⟩
      show cf_Shifts_breaks_B6 _ _ _ _ _ _ _ _
      unfold cf_Shifts_breaks_B6
      have hi : i = l + 1 := by omega
      subst hi
      rw [Nat.mod_eq_of_lt hC, nI_ltI (by omega) (by omega)]
      refine ⟨fun _ => ?_, fun z => absurd (by omega) z⟩
      cases hb : (cm C s).testBit t with
      | true => exact ⟨fun z => absurd z (by decide), fun _ => h1 hb⟩
      | false => exact ⟨fun _ => h0 hb, fun z => absurd rfl z⟩
    | succ m ih =>
      intro i hi n hn
      obtain ⟨n, rfl⟩ : ∃ m, n = m + 1 := ⟨n - 1, by omega⟩
      show cf_Shifts_breaks_B6 _ _ _ _ _ _ _ _
      unfold cf_Shifts_breaks_B6
      rw [nI_ltI (by omega) (by omega), nI_ltI (by omega) (by omega)]
      refine ⟨fun z => absurd z (by omega), fun _ => ⟨fun z => absurd z (by omega), fun _ => ?_⟩⟩
      rw [pk_sub (by omega), lshr_lN hC63 (by omega), lshr_lN (by omega) (by omega), L1, lN_and, lN_and, and_and_one, lN_xor, nI_1, Nat.testBit_shiftRight, Nat.testBit_shiftRight, xor_toNat]
      have e : ((cm (C % 2 ^ i) s).testBit t ^^ (C.testBit (i + 0) && s.testBit (t - i + 0))) = (cm (C % 2 ^ (i + 1)) s).testBit t := by
        rw [cm_mod_step, Nat.testBit_xor, Nat.add_zero, Nat.add_zero]
        congr 1
        cases C.testBit i
        · exact (Nat.zero_testBit t).symm
        · show s.testBit (t - i) = (s <<< i).testBit t
          rw [Nat.testBit_shiftLeft]
          simp
          omega
      rw [e]
      rintro _ rfl _ rfl
      exact ih (i + 1) (by omega) n (by omega)
  unfold cf_Shifts_breaks
  have := key (l + 1) 0 (by omega) (l + 2) (by omega)
  rw [show C % 2 ^ 0 = 0 by rw [Nat.pow_zero]; omega, zero_cm, Nat.zero_testBit] at this
  exact ⟨_, this⟩
theorem c_turned {C l : Nat} {P : Int64 → Prop} (hC : C < 2 ^ 63) (hl : l ≤ 60) (h : P (lN (rv C l (l + 1)))) : ∀ n, l + 2 ≤ n → cf_Shifts_shortestRule_L92 P n (lN C) (nI l) 0 0 := by
  have key : ∀ m i, i + m = l + 1 → ∀ n, m < n → cf_Shifts_shortestRule_L92 P n (lN C) (nI l) (lN (rv C l i)) (nI i) := by
    intro m
    induction m with
    | zero =>
      intro i hi n hn
      obtain ⟨n, rfl⟩ : ∃ m, n = m + 1 := ⟨n - 1, by omega⟩
      show cf_Shifts_shortestRule_B92 _ _ _ _ _ _
      unfold cf_Shifts_shortestRule_B92
      have hi : i = l + 1 := by omega
      subst hi
      rw [nI_ltI (by omega) (by omega)]
      exact ⟨fun _ => h, fun z => absurd (by omega) z⟩
    | succ m ih =>
      intro i hi n hn
      obtain ⟨n, rfl⟩ : ∃ m, n = m + 1 := ⟨n - 1, by omega⟩
      show cf_Shifts_shortestRule_B92 _ _ _ _ _ _
      unfold cf_Shifts_shortestRule_B92
      rw [nI_ltI (by omega) (by omega), pk_sub (by omega), bit_lN hC (by omega), lshl_lN _ (by omega), lN_or, nI_1]
      refine ⟨fun z => absurd z (by omega), fun _ => ?_⟩
      rintro _ rfl _ rfl
      exact ih (i + 1) (by omega) n (by omega)
  intro n hn
  exact key (l + 1) 0 (by omega) n (by omega)
theorem sp_shortest {s n : Nat} {P : Int64 → Prop} (hs : s < 2 ^ n) (hn : n ≤ 60) (h : ∀ C l, gl s n l C → (∀ L D, gl s n L D → l ≤ L) → l ≤ n → P (lN (rv C l (l + 1)))) : cf_Shifts_shortestRule (lN s) (nI n) P := by
  have hs60 : s < 2 ^ 60 := Nat.lt_of_lt_of_le hs (Nat.pow_le_pow_right (by omega) hn)
  have key : ∀ k t C B l m g, t + k = n → bm s t C B l m g → ∀ f, k < f → cf_Shifts_shortestRule_L14 P f (lN s) (nI n) (lN C) (lN B) (nI l) (nI g) (nI t) := by
    intro k
    induction k with
    | zero =>
      intro t C B l m g hk hb f hf
      obtain ⟨f, rfl⟩ : ∃ m, f = m + 1 := ⟨f - 1, by omega⟩
      show cf_Shifts_shortestRule_B14 _ _ _ _ _ _ _ _ _
      unfold cf_Shifts_shortestRule_B14
      have ht : t = n := by omega
      subst ht
      have hlt := hb.2.2.2.1
      refine ⟨fun _ => ⟨l + 2, c_turned (Nat.lt_of_lt_of_le hb.1.2.1 (Nat.le_of_lt (pow_le63 (by omega)))) (by omega) (h C l hb.1 hb.2.2.2.2.2.2.2 hlt) _ (Nat.le_refl _)⟩, fun z => absurd (Int32.le_refl _) z⟩
    | succ k ih =>
      intro t C B l m g hk hb f hf
      obtain ⟨f, rfl⟩ : ∃ m, f = m + 1 := ⟨f - 1, by omega⟩
      show cf_Shifts_shortestRule_B14 _ _ _ _ _ _ _ _ _
      unfold cf_Shifts_shortestRule_B14
      have hlt := hb.2.2.2.1
      have hmg := hb.2.2.1
      rw [nI_leI (by omega) (by omega)]
      refine ⟨fun z => absurd z (by omega), fun _ => c_breaks hb.1.2.1 hlt (by omega) hs60 (fun hy => ⟨fun _ => ?_, fun z => absurd z one_ne'⟩) (fun hno => ⟨fun z => absurd rfl z, fun _ => ?_⟩)⟩
      · rw [lshl_lN _ (by omega), lN_xor, show (2 : Int32) = nI 2 from rfl, nI_mul, nI_ltI (by omega) (by omega), nI_1, nI_1, pk_sub (by omega)]
        rintro _ rfl
        refine ⟨fun c => ?_, fun c => ?_⟩
        · rintro _ rfl _ rfl
          exact ih (t + 1) _ _ _ _ _ (by omega) (bm_short hb hy (by omega)) f (by omega)
        · rintro _ rfl _ rfl
          exact ih (t + 1) _ _ _ _ _ (by omega) (bm_long hb hy (by omega)) f (by omega)
      · rw [nI_1, nI_1]
        rintro _ rfl _ rfl
        exact ih (t + 1) _ _ _ _ _ (by omega) (bm_same hb hno) f (by omega)
  unfold cf_Shifts_shortestRule
  exact ⟨n + 1, key n 0 1 1 0 0 1 (by omega) (bm_zero s) (n + 1) (by omega)⟩
