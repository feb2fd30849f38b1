-- the class's Polys, as polynomials
/-- the degree as the programs answer it: -1 of 0 -/
def dI (a : Nat) : Int32 := nI (sz a) - 1
theorem dI_pos {a : Nat} (h : a ≠ 0) : dI a = nI (dg a) := by unfold dI; rw [sz_pos h, nI_pred]
theorem dI_zero : dI 0 = -1 := by decide
theorem m1_eq (k : Nat) : nI k + (-1 : Int32) = nI k - 1 := (Int32.sub_eq_add_neg _ _).symm
theorem nIm_neg : nI 0 - 1 < (0 : Int32) := by decide
theorem nIm_nn {k : Nat} (h : k + 1 < 2 ^ 31) : ¬ nI (k + 1) - 1 < (0 : Int32) := by rw [nI_pred]; exact nI_pos (by omega)
theorem sz_le63 {a : Nat} (h : a < 2 ^ 63) : sz a ≤ 63 := sz_le.mpr h
theorem sp_degree {a : Nat} {P : Int32 → Prop} (ha : a < 2 ^ 63) (h : P (dI a)) : cf_Polys_degree (lN a) P := by
  unfold cf_Polys_degree
  refine nlz_long (by omega) ?_
  have hz := sz_le63 ha
  have e : (63 : Int32) - nI (64 - sz a) = dI a := by
    unfold dI
    have e1 : nI (64 - sz a) = nI 64 - nI (sz a) := (pk_sub (by omega)).symm
    rw [e1, show (63 : Int32) = nI 64 - 1 from by decide]
    simp only [Int32.sub_eq_add_neg, Int32.neg_add, Int32.neg_neg]
    rw [Int32.add_comm (-nI 64), ← Int32.add_assoc, Int32.add_assoc (nI 64), Int32.add_comm (-1), ← Int32.add_assoc, Int32.add_comm (nI 64), Int32.add_assoc, Int32.add_assoc, Int32.add_comm (-1), ← Int32.add_assoc, ← Int32.add_assoc]
    rw [Int32.add_assoc (nI (sz a)), Int32.add_right_neg, Int32.add_zero]
  rw [e]
  exact h
theorem cm_shr (a b k : Nat) : (cm a (b >>> k)) <<< k = (if b.testBit k then a <<< k else 0) ^^^ (cm a (b >>> (k + 1))) <<< (k + 1) := by
  rw [cm_step a (b >>> k)]
  have e1 : (b >>> k) / 2 = b >>> (k + 1) := by rw [Nat.shiftRight_succ]
  have e2 : (b >>> k % 2 = 1) ↔ b.testBit k = true := by
    rw [Nat.testBit_eq_decide_div_mod_eq, Nat.shiftRight_eq_div_pow]
    simp
  rw [e1, Nat.shiftLeft_xor_distrib]
  have e3 : (2 * cm a (b >>> (k + 1))) <<< k = cm a (b >>> (k + 1)) <<< (k + 1) := by
    rw [Nat.shiftLeft_succ_inside]
  rw [e3]
  by_cases h : b.testBit k = true
  · rw [if_pos (e2.mpr h), if_pos h]
  · rw [if_neg (fun z => h (e2.mp z)), if_neg h, Nat.zero_shiftLeft]
theorem sp_product {a b : Nat} {P : Int64 → Prop} (hb : b < 2 ^ 63) (h : P (lN (cm a b))) : cf_Polys_product (lN a) (lN b) P := by
  have key : ∀ k, k ≤ 63 → ∀ n, k < n → cf_Polys_product_L12 P n (lN a) (lN b) (lN ((cm a (b >>> k)) <<< k)) (nI k - 1) := by
    intro k
    induction k with
    | zero =>
      intro _ n hn
      obtain ⟨n, rfl⟩ : ∃ m, n = m + 1 := ⟨n - 1, by omega⟩
      show cf_Polys_product_B12 _ _ _ _ _ _
      unfold cf_Polys_product_B12
      refine ⟨fun _ => by simpa using h, fun c => absurd nIm_neg c⟩
    | succ k ih =>
      intro hk n hn
      obtain ⟨n, rfl⟩ : ∃ m, n = m + 1 := ⟨n - 1, by omega⟩
      show cf_Polys_product_B12 _ _ _ _ _ _
      unfold cf_Polys_product_B12
      refine ⟨fun c => absurd c (nIm_nn (by omega)), fun _ => ?_⟩
      rw [nI_pred, bit_lN hb (by omega), m1_eq, lshl_lN _ (by omega)]
      have e := cm_shr a b k
      have ih := ih (by omega) n (by omega)
      rw [e] at ih
      by_cases ht : b.testBit k = true
      · rw [ht]
        refine ⟨fun c => absurd c (by decide), fun _ => ?_⟩
        rintro _ rfl _ rfl
        rw [lN_xor, Nat.xor_comm]
        rw [if_pos ht] at ih
        exact ih
      · rw [Bool.not_eq_true] at ht
        rw [ht]
        refine ⟨fun _ => ?_, fun c => absurd rfl c⟩
        rintro _ rfl
        rw [ht] at ih
        simpa using ih
  unfold cf_Polys_product
  refine nlz_long (by omega) ?_
  rintro _ rfl
  have hz := sz_le63 hb
  have e : (63 : Int32) - nI (64 - sz b) = nI (sz b) - 1 := by
    have := sp_degree (a := b) (P := fun x => x = dI b) hb rfl
    unfold cf_Polys_degree at this
    have e1 : nI (64 - sz b) = nI 64 - nI (sz b) := (pk_sub (by omega)).symm
    rw [e1, show (63 : Int32) = nI 64 - 1 from by decide]
    simp only [Int32.sub_eq_add_neg, Int32.neg_add, Int32.neg_neg]
    rw [Int32.add_comm (-nI 64), ← Int32.add_assoc, Int32.add_assoc (nI 64), Int32.add_comm (-1), ← Int32.add_assoc, Int32.add_comm (nI 64), Int32.add_assoc, Int32.add_assoc, Int32.add_comm (-1), ← Int32.add_assoc, ← Int32.add_assoc]
    rw [Int32.add_assoc (nI (sz b)), Int32.add_right_neg, Int32.add_zero]
  rw [e]
  refine ⟨64, ?_⟩
  have := key (sz b) hz 64 (by omega)
  have hb0 : b >>> sz b = 0 := Nat.shiftRight_eq_zero _ _ (sz_lt b)
  rw [hb0, cm_zero, Nat.zero_shiftLeft] at this
  exact this
theorem pmod_step {a f : Nat} (hf : f ≠ 0) (ha : a ≠ 0) (h : dg f ≤ dg a) : pmod a f = pmod (a ^^^ f * 2 ^ (dg a - dg f)) f ∧ pdiv a f = 2 ^ (dg a - dg f) ^^^ pdiv (a ^^^ f * 2 ^ (dg a - dg f)) f := by
  unfold pmod pdiv
  rw [pdm, dif_neg (by rintro (q | q | q) <;> omega)]
  exact ⟨rfl, rfl⟩
theorem pmod_stop {a f : Nat} (h : sz a < sz f ∨ f = 0) : pmod a f = a ∧ pdiv a f = 0 := by
  unfold pmod pdiv
  rw [pdm, dif_pos ?_]
  · exact ⟨rfl, rfl⟩
  · rcases h with h | h
    · by_cases ha : a = 0
      · exact Or.inr (Or.inl ha)
      · by_cases hf : f = 0
        · exact Or.inl hf
        · rw [sz_pos ha, sz_pos hf] at h
          exact Or.inr (Or.inr (by omega))
    · exact Or.inl h
theorem pm_dropsz {a f : Nat} (ha : a ≠ 0) (hf : f ≠ 0) (h : dg f ≤ dg a) : sz (a ^^^ f * 2 ^ (dg a - dg f)) < sz a := by
  have := sz_le.mpr (pm_drop ha hf h)
  rw [sz_pos ha]
  omega
theorem sz_sub {a f : Nat} (ha : a ≠ 0) (hf : f ≠ 0) : sz a - sz f = dg a - dg f := by rw [sz_pos ha, sz_pos hf]; omega
theorem lt_of_szle {a n : Nat} (h : sz a ≤ n) : a < 2 ^ n := sz_le.mp h
theorem nIsub_sign {a b : Nat} (ha : a < 2 ^ 30) (hb : b < 2 ^ 30) : (0 : Int32) ≤ nI a - nI b ↔ b ≤ a := by
  rw [Int32.le_iff_toInt_le, pk_sub_toInt ha hb]
  show (0 : Int) ≤ _ ↔ _
  omega
theorem sp_remainder {a f : Nat} {P : Int64 → Prop} (ha : a < 2 ^ 63) (hf : f < 2 ^ 63) (h : P (lN (pmod a f))) : cf_Polys_remainder (lN a) (lN f) P := by
  have key : ∀ m, ∀ l j, sz l ≤ m → j + sz l ≤ 63 → pmod l f = pmod a f → ∀ n, m < n → cf_Polys_remainder_L12 P n (lN f) (nI (64 - sz f)) (lN l) (nI j) := by
    intro m
    induction m with
    | zero =>
      intro l j hl hj he n hn
      obtain ⟨n, rfl⟩ : ∃ m, n = m + 1 := ⟨n - 1, by omega⟩
      have hl0 : l = 0 := by have := lt_of_szle hl; simp at this; exact this
      subst hl0
      rw [pmod_zero] at he
      rw [← he] at h
      show cf_Polys_remainder_B12 _ _ _ _ _ _
      unfold cf_Polys_remainder_B12
      refine ⟨fun _ => h, fun _ => ⟨fun _ => h, fun c => ?_⟩⟩
      have hf0 : f ≠ 0 := fun z => c (by rw [z]; rfl)
      refine nlz_long (by omega) ?_
      rintro _ rfl
      refine ⟨fun c2 => ?_, fun _ => h⟩
      exfalso
      rw [nIsub_sign (by omega) (by omega), sz_zero, sz_pos hf0] at c2
      have := (dg_lt hf0).mpr hf
      omega
    | succ m ih =>
      intro l j hl hj he n hn
      obtain ⟨n, rfl⟩ : ∃ m, n = m + 1 := ⟨n - 1, by omega⟩
      show cf_Polys_remainder_B12 _ _ _ _ _ _
      unfold cf_Polys_remainder_B12
      refine ⟨fun c => ?_, fun _ => ⟨fun c => ?_, fun c => ?_⟩⟩
      · have := (nI_leI (show 64 < 2 ^ 31 by decide) (show j < 2 ^ 31 by omega)).mp c
        omega
      · have hf0 : f = 0 := (lN_eq0 hf).mp c
        rw [(pmod_stop (Or.inr hf0)).1] at he
        rw [he]
        exact h
      · have hf0 : f ≠ 0 := fun z => c (by rw [z]; rfl)
        refine nlz_long (by have := lt_of_szle (show sz l ≤ 63 by omega); omega) ?_
        rintro _ rfl
        have hsf : sz f ≤ 63 := sz_le.mpr hf
        rw [nIsub_sign (by omega) (by omega)]
        refine ⟨fun c2 => ?_, fun c2 => ?_⟩
        · rintro _ rfl _ rfl
          have hl0 : l ≠ 0 := by rintro rfl; rw [sz_zero, sz_pos hf0] at c2; omega
          have hdd : dg f ≤ dg l := by rw [sz_pos hl0, sz_pos hf0] at c2; rw [sz_pos hl0] at hj; rw [sz_pos hf0] at hsf; omega
          have e1 : nI (64 - sz f) - nI (64 - sz l) = nI (dg l - dg f) := by
            rw [pk_sub c2]
            congr 1
            have := sz_sub hl0 hf0
            omega
          rw [e1, lshl_lN _ (by have := (dg_lt hl0).mpr (lt_of_szle (show sz l ≤ 63 by omega)); omega), lN_xor, nI_1, Nat.shiftLeft_eq]
          have hd := pm_dropsz hl0 hf0 hdd
          exact ih _ _ (by omega) (by omega) ((pmod_step hf0 hl0 hdd).1.symm.trans he) n (by omega)
        · have hz : sz l < sz f := by omega
          rw [(pmod_stop (Or.inl hz)).1] at he
          rw [he]
          exact h
  unfold cf_Polys_remainder
  refine nlz_long (by omega) ?_
  refine ⟨65, ?_⟩
  have hs := sz_le.mpr ha
  exact key (sz a) a 0 (Nat.le_refl _) (by omega) rfl 65 (by omega)
theorem pmod_szlt {f : Nat} (hf : f ≠ 0) (a : Nat) : sz (pmod a f) < sz f := by
  have := sz_le.mpr (pmod_lt hf a)
  rw [sz_pos hf]
  omega
theorem pmod_bd {a f n : Nat} (ha : a < 2 ^ n) : pmod a f < 2 ^ n := by
  by_cases hf : f = 0
  · rw [(pmod_stop (Or.inr hf)).1]; exact ha
  · by_cases h : sz a < sz f
    · rw [(pmod_stop (Or.inl h)).1]; exact ha
    · have h1 := pmod_szlt hf a
      exact lt_of_szle (Nat.le_trans (Nat.le_of_lt (Nat.lt_of_lt_of_le h1 (by omega))) (sz_le.mpr ha))
theorem sp_gcd {a b : Nat} {P : Int64 → Prop} (ha : a < 2 ^ 63) (hb : b < 2 ^ 63) (h : P (lN (pgcd a b))) : cf_Polys_gcd (lN a) (lN b) P := by
  have key : ∀ m, ∀ x z j, sz z ≤ m → x < 2 ^ 63 → j + sz z ≤ 63 → pgcd x z = pgcd a b → ∀ n, m < n → cf_Polys_gcd_L9 P n (lN x) (lN z) (nI j) := by
    intro m
    induction m with
    | zero =>
      intro x z j hz hx hj he n hn
      obtain ⟨n, rfl⟩ : ∃ m, n = m + 1 := ⟨n - 1, by omega⟩
      have hz0 : z = 0 := by have := lt_of_szle hz; simp at this; exact this
      subst hz0
      rw [pgcd_zero] at he
      rw [← he] at h
      show cf_Polys_gcd_B9 _ _ _ _ _
      unfold cf_Polys_gcd_B9
      exact ⟨fun _ => h, fun _ => ⟨fun _ => h, fun c => absurd rfl c⟩⟩
    | succ m ih =>
      intro x z j hz hx hj he n hn
      obtain ⟨n, rfl⟩ : ∃ m, n = m + 1 := ⟨n - 1, by omega⟩
      have hz63 : z < 2 ^ 63 := lt_of_szle (show sz z ≤ 63 by omega)
      show cf_Polys_gcd_B9 _ _ _ _ _
      unfold cf_Polys_gcd_B9
      refine ⟨fun c => ?_, fun _ => ⟨fun c => ?_, fun c => ?_⟩⟩
      · have := (nI_leI (show 64 < 2 ^ 31 by decide) (show j < 2 ^ 31 by omega)).mp c
        omega
      · have hz0 : z = 0 := (lN_eq0 hz63).mp c
        subst hz0
        rw [pgcd_zero] at he
        rw [he]
        exact h
      · have hz0 : z ≠ 0 := fun q => c (by rw [q]; rfl)
        refine sp_remainder hx hz63 ?_
        rintro _ rfl
        rw [nI_1]
        have h1 := pmod_szlt hz0 x
        exact ih z (pmod x z) (j + 1) (by omega) hz63 (by omega) ((pgcd_step x hz0).symm.trans he) n (by omega)
  unfold cf_Polys_gcd
  refine ⟨65, ?_⟩
  have hs := sz_le.mpr hb
  exact key (sz b) a b 0 (Nat.le_refl _) ha (by omega) rfl 65 (by omega)
theorem cm_bd {a b : Nat} (ha : a < 2 ^ 32) (hb : b < 2 ^ 32) : cm a b < 2 ^ 63 := cm_lt ha hb (by omega) (by omega)
theorem sp_productBy {a b f : Nat} {P : Int64 → Prop} (ha : a < 2 ^ 32) (hb : b < 2 ^ 32) (hf : f < 2 ^ 63) (h : P (lN (pmod (cm a b) f))) : cf_Polys_productBy (lN a) (lN b) (lN f) P := by
  unfold cf_Polys_productBy
  exact sp_product (by omega) (sp_remainder (cm_bd ha hb) hf h)
