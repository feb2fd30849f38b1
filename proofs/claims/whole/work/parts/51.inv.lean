-- inverses, powers of x put in, derivatives
theorem pmod_self {f : Nat} (hf : f ≠ 0) : pmod f f = 0 := by
  have := pmod_cm hf 1
  rw [one_cm] at this
  exact this
theorem ext_step {f a last rest lo of : Nat} (hf : f ≠ 0) (hr : rest ≠ 0) (h1 : pmod (cm lo a) f = pmod last f) (h2 : pmod (cm of a) f = pmod rest f) :
    pmod (cm (lo ^^^ cm (pdiv last rest) of) a) f = pmod (pmod last rest) f := by
  have e : pmod last rest = last ^^^ cm (pdiv last rest) rest := by
    have := pdm_eq hr last
    have h3 : cm (pdiv last rest) rest ^^^ pmod last rest ^^^ cm (pdiv last rest) rest = last ^^^ cm (pdiv last rest) rest := by rw [this]
    rw [← h3]
    rw [Nat.xor_comm (cm _ _) (pmod _ _), Nat.xor_assoc, Nat.xor_self, Nat.xor_zero]
  rw [e, cm_xor_left, pmod_xor hf, pmod_xor hf, h1, cm_assoc, ← pmod_mul_right hf _ (cm of a), h2, pmod_mul_right hf]
theorem sz_pdiv {a b : Nat} (ha : a ≠ 0) (hb : b ≠ 0) : sz (pdiv a b) ≤ sz a + 1 - sz b := by
  by_cases h : sz a < sz b
  · rw [(pmod_stop (Or.inl h)).2, sz_zero]; omega
  · have hd : pdiv a b ≠ 0 := by
      intro z
      have := pdm_eq hb a
      rw [z, zero_cm, Nat.zero_xor] at this
      have h2 := pmod_szlt hb a
      rw [this] at h2
      omega
    have e := pdm_eq hb a
    have h1 := pmod_lt hb a
    have h3 := cm_log2 hd hb
    have h4 : dg (cm (pdiv a b) b) = dg (pdiv a b) + dg b := h3
    have hne := cm_ne hd hb
    have h5 := (dg_self hne).1
    have h6 := (dg_self hne).2
    have h7 : 2 ^ dg b ≤ 2 ^ dg (cm (pdiv a b) b) := Nat.pow_le_pow_right (by omega) (by omega)
    have h8 := (xor_top h5 h6 (y := pmod a b) (by omega)).1
    rw [e] at h8
    have h9 := (le_dg ha).mpr h8
    rw [sz_pos ha, sz_pos hb, sz_pos hd]
    omega
theorem sz_cm {a b : Nat} (ha : a ≠ 0) (hb : b ≠ 0) : sz (cm a b) + 1 = sz a + sz b := by
  have h3 : dg (cm a b) = dg a + dg b := cm_log2 ha hb
  rw [sz_pos (cm_ne ha hb), sz_pos ha, sz_pos hb, h3]
  omega
theorem sz_cm_le {a b s : Nat} (h : sz a + sz b ≤ s + 1) (hs : 0 < s) : sz (cm a b) ≤ s := by
  by_cases ha : a = 0
  · subst ha; rw [zero_cm, sz_zero]; omega
  · by_cases hb : b = 0
    · subst hb; rw [cm_zero, sz_zero]; omega
    · have := sz_cm ha hb; omega
theorem sz_xor {a b n : Nat} (ha : sz a ≤ n) (hb : sz b ≤ n) : sz (a ^^^ b) ≤ n := sz_le.mpr (Nat.xor_lt_two_pow (sz_le.mp ha) (sz_le.mp hb))
/-- what an inverse by f is -/
def isInv (a f u : Nat) : Prop := u < 2 ^ dg f ∧ pmod (cm u a) f = 1
theorem isInv_unique {a f u v : Nat} (hf : f ≠ 0) (h1 : isInv a f u) (h2 : isInv a f v) : u = v := by
  have e : pmod (cm (cm u a) v) f = v := by
    rw [← pmod_mul_left hf, h1.2, one_cm, pmod_small h2.1]
  have e2 : pmod (cm (cm u a) v) f = u := by
    rw [cm_assoc, cm_comm a v, ← pmod_mul_right hf, h2.2, cm_one, pmod_small h1.1]
  omega
theorem inv_coprime {a f u : Nat} (hf : f ≠ 0) (h : pmod (cm u a) f = 1) : pgcd f a = 1 := by
  have h1 := pgcd_dvd_left f a
  have h2 := pgcd_dvd_right f a
  have e := pdm_eq hf (cm u a)
  rw [h] at e
  have h3 : pdvd (pgcd f a) (cm u a) := pdvd_mul_left u h2
  have h4 : pdvd (pgcd f a) (cm (pdiv (cm u a) f) f) := pdvd_mul_left _ h1
  rw [← e] at h3
  exact pdvd_one (pdvd_xor_cancel h4 h3)
theorem sp_inverseBy {a f : Nat} {P : Int64 → Prop} (ha : a < 2 ^ 63) (hf : f < 2 ^ 32) (hf1 : 2 ≤ f) (h1 : ∀ u, isInv a f u → P (lN u)) (h0 : (∀ u, ¬ isInv a f u) → P 0) : cf_Polys_inverseBy (lN a) (lN f) P := by
  have hf0 : f ≠ 0 := by omega
  have hd := dg_pos hf1
  have hsf : sz f ≤ 32 := sz_le.mpr hf
  have hfp := sz_pos hf0
  have fin : ∀ last lo : Nat, last < 2 ^ 63 → lo < 2 ^ 63 → pgcd last 0 = pgcd f (pmod a f) → pmod (cm lo (pmod a f)) f = pmod last f →
      ((¬ lN last = (1 : Int64) → P (0 : Int64)) ∧ (lN last = (1 : Int64) → cf_Polys_remainder (lN lo) (lN f) (fun r => P r))) := by
    intro last lo hl hlo hg hi
    rw [lN_eq1 hl]
    rw [pgcd_zero] at hg
    refine ⟨fun c => h0 (fun u hu => c ?_), fun c => sp_remainder hlo (by omega) (h1 _ ⟨pmod_lt hf0 lo, ?_⟩)⟩
    · rw [hg]
      refine inv_coprime (u := u) hf0 ?_
      rw [pmod_mul_right hf0]
      exact hu.2
    · rw [pmod_mul_left hf0, ← pmod_mul_right hf0, hi, c]
      exact pmod_small (Nat.lt_of_lt_of_le (show 1 < 2 ^ 1 by decide) (Nat.pow_le_pow_right (by omega) hd))
  have key : ∀ m, ∀ last rest lo of j, sz rest ≤ m → j + sz rest ≤ 63 → sz rest ≤ sz last → last ≠ 0 → sz lo + sz rest ≤ sz f + 1 → sz of + sz last ≤ sz f + 1 → sz lo ≤ sz f → sz last ≤ sz f → (rest ≠ 0 → sz rest < sz last) →
      pgcd last rest = pgcd f (pmod a f) → pmod (cm lo (pmod a f)) f = pmod last f → pmod (cm of (pmod a f)) f = pmod rest f →
      ∀ n, m < n → cf_Polys_inverseBy_L19 P n (lN f) (lN last) (lN rest) (lN lo) (lN of) (nI j) := by
    intro m
    induction m with
    | zero =>
      intro last rest lo of j hm hj hrl hl0 hs1 hs2 hs3 hs4 hlt hg hi1 hi2 n hn
      obtain ⟨n, rfl⟩ : ∃ m, n = m + 1 := ⟨n - 1, by omega⟩
      have hr0 : rest = 0 := by have := lt_of_szle hm; simp at this; exact this
      subst hr0
      show cf_Polys_inverseBy_B19 _ _ _ _ _ _ _ _
      unfold cf_Polys_inverseBy_B19
      have F := fin last lo (lt_of_szle (by omega)) (lt_of_szle (by omega)) hg hi1
      exact ⟨fun _ => F, fun _ => ⟨fun _ => F, fun c => absurd rfl c⟩⟩
    | succ m ih =>
      intro last rest lo of j hm hj hrl hl0 hs1 hs2 hs3 hs4 hlt hg hi1 hi2 n hn
      obtain ⟨n, rfl⟩ : ∃ m, n = m + 1 := ⟨n - 1, by omega⟩
      have hr63 : rest < 2 ^ 63 := lt_of_szle (show sz rest ≤ 63 by omega)
      show cf_Polys_inverseBy_B19 _ _ _ _ _ _ _ _
      unfold cf_Polys_inverseBy_B19
      refine ⟨fun c => ?_, fun _ => ⟨fun c => ?_, fun c => ?_⟩⟩
      · have := (nI_leI (show 64 < 2 ^ 31 by decide) (show j < 2 ^ 31 by omega)).mp c
        omega
      · have hr0 : rest = 0 := (lN_eq0 hr63).mp c
        subst hr0
        exact fin last lo (lt_of_szle (by omega)) (lt_of_szle (by omega)) hg hi1
      · have hr0 : rest ≠ 0 := fun q => c (by rw [q]; rfl)
        have hlt := hlt hr0
        have hof : of < 2 ^ 63 := lt_of_szle (show sz of ≤ 63 by omega)
        have hq := sz_pdiv hl0 hr0
        have hrp := sz_pos hr0
        refine sp_quotient (lt_of_szle (by omega)) hr63 hr0 (sp_product hr63 ?_)
        rintro _ rfl
        refine sp_product hof ?_
        rintro _ rfl _ rfl
        rw [lN_xor, lN_xor, nI_1]
        have e : last ^^^ cm (pdiv last rest) rest = pmod last rest := by
          have := pdm_eq hr0 last
          have h3 : cm (pdiv last rest) rest ^^^ pmod last rest ^^^ cm (pdiv last rest) rest = last ^^^ cm (pdiv last rest) rest := by rw [this]
          rw [← h3, Nat.xor_comm (cm _ _) (pmod _ _), Nat.xor_assoc, Nat.xor_self, Nat.xor_zero]
        rw [e]
        have h1 := pmod_szlt hr0 last
        have hnew : sz (lo ^^^ cm (pdiv last rest) of) ≤ sz f + 1 - sz rest := by
          refine sz_xor (by omega) (sz_cm_le (by omega) (by omega))
        exact ih rest (pmod last rest) of (lo ^^^ cm (pdiv last rest) of) (j + 1) (by omega) (by omega) (by omega) hr0 (by omega) (by omega) (by omega) (by omega) (fun _ => h1)
          ((pgcd_step last hr0).symm.trans hg) hi2 (ext_step hf0 hr0 hi1 hi2) n (by omega)
  unfold cf_Polys_inverseBy
  refine sp_remainder ha (by omega) ⟨65, ?_⟩
  have hs := pmod_szlt hf0 a
  refine key (sz (pmod a f)) f (pmod a f) 0 1 0 (Nat.le_refl _) (by omega) (by omega) hf0 ?_ ?_ ?_ (Nat.le_refl _) (fun _ => hs) rfl ?_ ?_ 65 (by omega)
  · rw [sz_zero]; omega
  · rw [show sz 1 = 1 from by decide]; omega
  · rw [sz_zero]; omega
  · rw [zero_cm, pmod_zero, pmod_self hf0]
  · rw [one_cm, pmod_pmod]
theorem mp_inverseOf {a f : Nat} {P : Int64 → Prop} (ha : a < 2 ^ 63) (hf : f < 2 ^ 32) (hf1 : 2 ≤ f) (h1 : ∀ u, isInv a f u → P (lN u)) (h0 : (∀ u, ¬ isInv a f u) → P 0) : cf_M_inverseOf (lN a) (lN f) P := by
  have hf0 : f ≠ 0 := by omega
  have hd := dg_pos hf1
  have hsf : sz f ≤ 32 := sz_le.mpr hf
  have hfp := sz_pos hf0
  have fin : ∀ last lo : Nat, last < 2 ^ 63 → lo < 2 ^ 63 → pgcd last 0 = pgcd f (pmod a f) → pmod (cm lo (pmod a f)) f = pmod last f →
      ((¬ lN last = (1 : Int64) → P (0 : Int64)) ∧ (lN last = (1 : Int64) → cf_M_restOf (lN lo) (lN f) (fun r => P r))) := by
    intro last lo hl hlo hg hi
    rw [lN_eq1 hl]
    rw [pgcd_zero] at hg
    refine ⟨fun c => h0 (fun u hu => c ?_), fun c => mp_restOf hlo (by omega) hf0 (h1 _ ⟨pmod_lt hf0 lo, ?_⟩)⟩
    · rw [hg]
      refine inv_coprime (u := u) hf0 ?_
      rw [pmod_mul_right hf0]
      exact hu.2
    · rw [pmod_mul_left hf0, ← pmod_mul_right hf0, hi, c]
      exact pmod_small (Nat.lt_of_lt_of_le (show 1 < 2 ^ 1 by decide) (Nat.pow_le_pow_right (by omega) hd))
  have key : ∀ m, ∀ last rest lo of, sz rest ≤ m → last < 2 ^ 32 → last ≠ 0 → lo < 2 ^ 32 → of < 2 ^ 32 → rest < 2 ^ 32 →
      pgcd last rest = pgcd f (pmod a f) → pmod (cm lo (pmod a f)) f = pmod last f → pmod (cm of (pmod a f)) f = pmod rest f →
      ∀ n, m < n → cf_M_inverseOf_L16 P n (lN f) (lN last) (lN rest) (lN lo) (lN of) := by
    intro m
    induction m with
    | zero =>
      intro last rest lo of hm hl hl0 hlo hof hr hg hi1 hi2 n hn
      obtain ⟨n, rfl⟩ : ∃ m, n = m + 1 := ⟨n - 1, by omega⟩
      have hr0 : rest = 0 := by have := lt_of_szle hm; simp at this; exact this
      subst hr0
      show cf_M_inverseOf_B16 _ _ _ _ _ _ _
      unfold cf_M_inverseOf_B16
      exact ⟨fun _ => fin last lo (by omega) (by omega) hg hi1, fun c => absurd rfl c⟩
    | succ m ih =>
      intro last rest lo of hm hl hl0 hlo hof hr hg hi1 hi2 n hn
      obtain ⟨n, rfl⟩ : ∃ m, n = m + 1 := ⟨n - 1, by omega⟩
      show cf_M_inverseOf_B16 _ _ _ _ _ _ _
      unfold cf_M_inverseOf_B16
      refine ⟨fun c => ?_, fun c => ?_⟩
      · have hr0 : rest = 0 := (lN_eq0 (by omega)).mp c
        subst hr0
        exact fin last lo (by omega) (by omega) hg hi1
      · have hr0 : rest ≠ 0 := fun q => c (by rw [q]; rfl)
        have hq := sz_pdiv hl0 hr0
        have hrp := sz_pos hr0
        have hsl : sz last ≤ 32 := sz_le.mpr hl
        refine mp_quotient (by omega) (by omega) hr0 (mp_restOf (by omega) (by omega) hr0 (mp_product (by omega) ?_))
        have hql : pdiv last rest < 2 ^ 32 := lt_of_szle (by omega)
        refine mp_restOf (cm_bd hql hof) (by omega) hf0 ?_
        rintro _ rfl
        rw [lN_xor]
        have h1 := pmod_szlt hr0 last
        have h2 := pmod_lt31 hf0 hf (cm (pdiv last rest) of)
        refine ih rest (pmod last rest) of _ (by omega) hr hr0 hof (Nat.xor_lt_two_pow hlo (by omega)) (pmod_bd hl)
          ((pgcd_step last hr0).symm.trans hg) hi2 ?_ n (by omega)
        have := ext_step hf0 hr0 hi1 hi2
        rw [cm_xor_left, pmod_xor hf0] at this ⊢
        rw [pmod_mul_left hf0]
        exact this
  unfold cf_M_inverseOf
  have hp := pmod_lt31 hf0 hf a
  refine mp_restOf ha (by omega) hf0 ⟨65, ?_⟩
  have hs := pmod_szlt hf0 a
  refine key (sz (pmod a f)) f (pmod a f) 0 1 (Nat.le_refl _) hf hf0 (by decide) (by decide) (by omega) rfl ?_ ?_ 65 (by omega)
  · rw [zero_cm, pmod_zero, pmod_self hf0]
  · rw [one_cm, pmod_pmod]
