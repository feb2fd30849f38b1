-- Integer's and Long's counts
theorem nlz_step {m n k : Nat} (hm : 2 ^ k ≤ m) : dg (m >>> k) + k = dg m := by
  have := dg_shr hm
  omega
theorem int_sub_nI {a b : Nat} (h : b ≤ a) : nI a + (-(nI b)) = nI (a - b) := by
  rw [← Int32.sub_eq_add_neg]
  exact pk_sub h
theorem nlz61 {m n : Nat} {P : Int32 → Prop} (h0 : 0 < m) (h1 : m < 2 ^ 4) (hn : n ≤ 31) (hd : dg m ≤ n) (h : P (nI (n - dg m))) : cf_Integer_numberOfLeadingZeros_B61 P (nI m) (nI n) := by
  unfold cf_Integer_numberOfLeadingZeros_B61
  have fin : ∀ m n : Nat, 0 < m → m < 4 → dg m ≤ n → P (nI (n - dg m)) → P (nI n - iushr (nI m) (1 : Int32)) := by
    intro m n h0 h1 hd h
    have e : iushr (nI m) (1 : Int32) = nI (m >>> 1) := iushr_nI (k := 1) (by omega) (by omega)
    have e2 : m >>> 1 = dg m := (show ∀ m, m < 4 → 0 < m → m >>> 1 = Nat.log2 m by decide) m h1 h0
    rw [e, e2, pk_sub hd]
    exact h
  refine ⟨fun c => ?_, fun c => ?_⟩
  · have c : m < 4 := (nI_ltI (by omega) (show 4 < 2 ^ 31 by decide)).mp c
    exact fin m n h0 c hd h
  · have c : ¬ m < 4 := fun z => c ((nI_ltI (by omega) (show 4 < 2 ^ 31 by decide)).mpr z)
    rintro _ rfl _ rfl
    have hs := dg_shr (a := m) (k := 2) (by omega)
    have e1 : nI n + (-2 : Int32) = nI (n - 2) := int_sub_nI (a := n) (b := 2) (by omega)
    have e2 : iushr (nI m) (2 : Int32) = nI (m >>> 2) := iushr_nI (k := 2) (by omega) (by omega)
    rw [e1, e2]
    refine fin (m >>> 2) (n - 2) (by omega) ?_ (by omega) ?_
    · rw [Nat.shiftRight_eq_div_pow]; omega
    · rw [hs.1, show n - 2 - (dg m - 2) = n - dg m by omega]; exact h
theorem nlz33 {m n : Nat} {P : Int32 → Prop} (h0 : 0 < m) (h1 : m < 2 ^ 16) (hn : n ≤ 31) (hd : dg m ≤ n) (h : P (nI (n - dg m))) : cf_Integer_numberOfLeadingZeros_B33 P (nI m) (nI n) := by
  unfold cf_Integer_numberOfLeadingZeros_B33
  have mid : ∀ m n : Nat, 0 < m → m < 2 ^ 8 → n ≤ 31 → dg m ≤ n → P (nI (n - dg m)) → ((nI m < (16 : Int32) → cf_Integer_numberOfLeadingZeros_B61 P (nI m) (nI n)) ∧ (¬ nI m < (16 : Int32) → ∀ v3, v3 = nI n + (-4 : Int32) → ∀ v4, v4 = iushr (nI m) (4 : Int32) → cf_Integer_numberOfLeadingZeros_B61 P v4 v3)) := by
    intro m n h0 h1 hn hd h
    refine ⟨fun c => ?_, fun c => ?_⟩
    · have c : m < 16 := (nI_ltI (by omega) (show 16 < 2 ^ 31 by decide)).mp c
      exact nlz61 h0 (by omega) hn hd h
    · have c : ¬ m < 16 := fun z => c ((nI_ltI (by omega) (show 16 < 2 ^ 31 by decide)).mpr z)
      rintro _ rfl _ rfl
      have hs := dg_shr (a := m) (k := 4) (by omega)
      have e1 : nI n + (-4 : Int32) = nI (n - 4) := int_sub_nI (a := n) (b := 4) (by omega)
      have e2 : iushr (nI m) (4 : Int32) = nI (m >>> 4) := iushr_nI (k := 4) (by omega) (by omega)
      rw [e1, e2]
      refine nlz61 (by omega) ?_ (by omega) (by omega) ?_
      · rw [Nat.shiftRight_eq_div_pow]; omega
      · rw [hs.1, show n - 4 - (dg m - 4) = n - dg m by omega]; exact h
  refine ⟨fun c => ?_, fun c => ?_⟩
  · have c : m < 256 := (nI_ltI (by omega) (show 256 < 2 ^ 31 by decide)).mp c
    exact mid m n h0 (by omega) hn hd h
  · have c : ¬ m < 256 := fun z => c ((nI_ltI (by omega) (show 256 < 2 ^ 31 by decide)).mpr z)
    rintro _ rfl _ rfl
    have hs := dg_shr (a := m) (k := 8) (by omega)
    have e1 : nI n + (-8 : Int32) = nI (n - 8) := int_sub_nI (a := n) (b := 8) (by omega)
    have e2 : iushr (nI m) (8 : Int32) = nI (m >>> 8) := iushr_nI (k := 8) (by omega) (by omega)
    rw [e1, e2]
    refine mid (m >>> 8) (n - 8) (by omega) ?_ (by omega) (by omega) ?_
    · rw [Nat.shiftRight_eq_div_pow]; omega
    · rw [hs.1, show n - 8 - (dg m - 8) = n - dg m by omega]; exact h
theorem nlz_int {m : Nat} {P : Int32 → Prop} (h1 : m < 2 ^ 32) (h : P (nI (32 - sz m))) : cf_Integer_numberOfLeadingZeros (nI m) P := by
  unfold cf_Integer_numberOfLeadingZeros
  by_cases hb : m < 2 ^ 31
  · by_cases h0 : m = 0
    · subst h0
      refine ⟨fun c => absurd c (by decide), fun _ => ⟨fun c => absurd rfl c, fun _ => h⟩⟩
    · have hp : 0 < nI m := (nI_ltI (show 0 < 2 ^ 31 by decide) hb).mpr (by omega)
      have hd : dg m < 31 := (dg_lt h0).mpr hb
      rw [sz_pos h0, show 32 - (dg m + 1) = 31 - dg m by omega] at h
      refine ⟨fun _ => ⟨fun c => ?_, fun c => ?_⟩, fun c => absurd hp c⟩
      · have c : m < 65536 := (nI_ltI hb (show 65536 < 2 ^ 31 by decide)).mp c
        exact nlz33 (n := 31) (by omega) (by omega) (by omega) (by omega) h
      · have c : ¬ m < 65536 := fun z => c ((nI_ltI hb (show 65536 < 2 ^ 31 by decide)).mpr z)
        rintro _ rfl _ rfl
        have hs := dg_shr (a := m) (k := 16) (by omega)
        have e1 : (31 : Int32) + (-16 : Int32) = nI (31 - 16) := int_sub_nI (a := 31) (b := 16) (by omega)
        have e2 : iushr (nI m) (16 : Int32) = nI (m >>> 16) := iushr_nI (k := 16) (by omega) (by omega)
        rw [e1, e2]
        refine nlz33 (by omega) ?_ (by omega) (by omega) ?_
        · rw [Nat.shiftRight_eq_div_pow]; omega
        · rw [hs.1, show 31 - 16 - (dg m - 16) = 31 - dg m by omega]; exact h
  · have hneg : nI m < 0 := by
      rw [Int32.lt_iff_toInt_lt]
      show (BitVec.ofNat 32 m).toInt < (0 : Int)
      rw [BitVec.toInt_eq_toNat_bmod, BitVec.toNat_ofNat, Nat.mod_eq_of_lt h1, Int.bmod_def]
      have e1 : ((m : Int) % ((2 ^ 32 : Nat) : Int)) = m := Int.emod_eq_of_lt (by omega) (by omega)
      rw [e1, if_neg (by omega)]
      omega
    have h0 : m ≠ 0 := by omega
    have hz : sz m = 32 := by
      rw [sz_pos h0]
      have := (log2_iff (k := 31) h0).mpr ⟨by omega, by omega⟩
      unfold dg
      omega
    rw [hz] at h
    refine ⟨fun c => ?_, fun _ => ⟨fun _ => h, fun c => ?_⟩⟩
    · exact absurd (Int32.lt_trans hneg c) (Int32.lt_irrefl)
    · rw [c] at hneg
      exact absurd hneg (Int32.lt_irrefl)
theorem nlz_long {a : Nat} {P : Int32 → Prop} (h1 : a < 2 ^ 64) (h : P (nI (64 - sz a))) : cf_Long_numberOfLeadingZeros (lN a) P := by
  unfold cf_Long_numberOfLeadingZeros
  rintro _ rfl
  have e : (lushr (lN a) (32 : Int32)).toInt32 = nI (a >>> 32) := by
    rw [show (32 : Int32) = nI 32 from rfl, lushr_lN h1 (by omega), lN_i32]
  have hh : a >>> 32 < 2 ^ 32 := by rw [Nat.shiftRight_eq_div_pow]; omega
  have z0 : nI (a >>> 32) = 0 ↔ a >>> 32 = 0 := by
    constructor
    · intro q
      have q2 : (nI (a >>> 32)).toBitVec.toNat = 0 := by rw [q]; rfl
      rw [nI_bv, BitVec.toNat_ofNat, Nat.mod_eq_of_lt hh] at q2
      exact q2
    · intro q; rw [q]; rfl
  rw [e, z0]
  refine ⟨fun c => ?_, fun c => ?_⟩
  · refine nlz_int hh ?_
    have hb : 2 ^ 32 ≤ a := by rw [Nat.shiftRight_eq_div_pow] at c; omega
    have hs := dg_shr hb
    have ha : a ≠ 0 := by omega
    rw [sz_pos hs.2.2, hs.1]
    rw [sz_pos ha] at h
    rw [show 32 - (dg a - 32 + 1) = 64 - (dg a + 1) by omega]
    exact h
  · have hs : a < 2 ^ 32 := by rw [Nat.shiftRight_eq_div_pow] at c; omega
    rw [lN_i32]
    refine nlz_int hs ?_
    have hz := sz_le.mpr hs
    rw [show (32 : Int32) = nI 32 from rfl, nI_add, show 32 + (32 - sz a) = 64 - sz a by omega]
    exact h
