-- longs and ints as natural numbers
theorem L_inj {a b : Int64} (h : a.toBitVec = b.toBitVec) : a = b := Int64.toBitVec_inj.mp h
theorem I_inj {a b : Int32} (h : a.toBitVec = b.toBitVec) : a = b := Int32.toBitVec_inj.mp h
theorem lN_bv (n : Nat) : (lN n).toBitVec = BitVec.ofNat 64 n := rfl
theorem nI_bv (n : Nat) : (nI n).toBitVec = BitVec.ofNat 32 n := rfl
theorem lN_xor (a b : Nat) : lN a ^^^ lN b = lN (a ^^^ b) := L_inj (by show BitVec.ofNat 64 a ^^^ BitVec.ofNat 64 b = BitVec.ofNat 64 (a ^^^ b); rw [BitVec.ofNat_xor])
theorem lN_and (a b : Nat) : lN a &&& lN b = lN (a &&& b) := L_inj (by show BitVec.ofNat 64 a &&& BitVec.ofNat 64 b = BitVec.ofNat 64 (a &&& b); rw [BitVec.ofNat_and])
theorem lN_or (a b : Nat) : lN a ||| lN b = lN (a ||| b) := L_inj (by show BitVec.ofNat 64 a ||| BitVec.ofNat 64 b = BitVec.ofNat 64 (a ||| b); rw [BitVec.ofNat_or])
theorem nI_and (a b : Nat) : nI a &&& nI b = nI (a &&& b) := I_inj (by show BitVec.ofNat 32 a &&& BitVec.ofNat 32 b = BitVec.ofNat 32 (a &&& b); rw [BitVec.ofNat_and])
theorem nI_or (a b : Nat) : nI a ||| nI b = nI (a ||| b) := I_inj (by show BitVec.ofNat 32 a ||| BitVec.ofNat 32 b = BitVec.ofNat 32 (a ||| b); rw [BitVec.ofNat_or])
theorem L0 : (0 : Int64) = lN 0 := rfl
theorem L1 : (1 : Int64) = lN 1 := rfl
theorem L2 : (2 : Int64) = lN 2 := rfl
theorem lN_toInt' {n : Nat} (h : n < 2 ^ 63) : (lN n).toInt = (n : Int) := Int64.toInt_ofNat_of_lt h
theorem nI_toInt' {n : Nat} (h : n < 2 ^ 31) : (nI n).toInt = (n : Int) := nI_toInt h
theorem lN_eqI {a b : Nat} (ha : a < 2 ^ 63) (hb : b < 2 ^ 63) : lN a = lN b ↔ a = b := by
  rw [← Int64.toInt_inj, lN_toInt' ha, lN_toInt' hb]; omega
theorem lN_ltI {a b : Nat} (ha : a < 2 ^ 63) (hb : b < 2 ^ 63) : lN a < lN b ↔ a < b := by
  rw [Int64.lt_iff_toInt_lt, lN_toInt' ha, lN_toInt' hb]; omega
theorem lN_leI {a b : Nat} (ha : a < 2 ^ 63) (hb : b < 2 ^ 63) : lN a ≤ lN b ↔ a ≤ b := by
  rw [Int64.le_iff_toInt_le, lN_toInt' ha, lN_toInt' hb]; omega
theorem lN_eq0 {a : Nat} (ha : a < 2 ^ 63) : lN a = 0 ↔ a = 0 := lN_eqI ha (by decide)
theorem lN_eq1 {a : Nat} (ha : a < 2 ^ 63) : lN a = 1 ↔ a = 1 := lN_eqI ha (by decide)
theorem lN_nn {a : Nat} (ha : a < 2 ^ 63) : ¬ lN a < 0 := fun h => by have := (lN_ltI ha (show 0 < 2 ^ 63 by omega)).mp h; omega
theorem nI_eq0 {a : Nat} (ha : a < 2 ^ 31) : nI a = 0 ↔ a = 0 := nI_eq ha (by decide)
theorem nI_eq1 {a : Nat} (ha : a < 2 ^ 31) : nI a = 1 ↔ a = 1 := nI_eq ha (by decide)
theorem sh_amt : ∀ k, k < 64 → ((nI k).toInt64 &&& 63) = lN k := by decide +kernel
theorem sh_amt2 : ∀ k, k < 64 → ((lN k).toBitVec.smod 64).toNat = k := by decide +kernel
theorem sh_amu : ∀ k, k < 64 → ((nI k).toInt64.toUInt64 &&& Int64.toUInt64 63) = UInt64.ofNat k := by decide +kernel
theorem sh_amu2 : ∀ k, k < 64 → ((UInt64.ofNat k).toBitVec % 64#64).toNat = k := by decide +kernel
theorem lshl_lN (n : Nat) {k : Nat} (hk : k < 64) : lshl (lN n) (nI k) = lN (n <<< k) := by
  unfold lshl
  rw [sh_amt k hk]
  apply L_inj
  show (lN n).toBitVec <<< ((lN k).toBitVec.smod 64) = BitVec.ofNat 64 (n <<< k)
  apply BitVec.eq_of_toNat_eq
  rw [BitVec.shiftLeft_eq', BitVec.toNat_shiftLeft, sh_amt2 k hk, lN_bv, BitVec.toNat_ofNat, BitVec.toNat_ofNat, Nat.shiftLeft_eq, Nat.shiftLeft_eq, Nat.mod_mul_mod]
theorem lushr_lN {n k : Nat} (hn : n < 2 ^ 64) (hk : k < 64) : lushr (lN n) (nI k) = lN (n >>> k) := by
  unfold lushr
  rw [sh_amu k hk]
  apply L_inj
  show (lN n).toBitVec >>> ((UInt64.ofNat k).toBitVec % 64#64) = BitVec.ofNat 64 (n >>> k)
  apply BitVec.eq_of_toNat_eq
  rw [BitVec.ushiftRight_eq', BitVec.toNat_ushiftRight, sh_amu2 k hk, lN_bv, BitVec.toNat_ofNat, BitVec.toNat_ofNat, Nat.mod_eq_of_lt hn, Nat.mod_eq_of_lt (Nat.lt_of_le_of_lt (Nat.shiftRight_le n k) hn)]
theorem lshr_lN {n k : Nat} (hn : n < 2 ^ 63) (hk : k < 64) : lshr (lN n) (nI k) = lN (n >>> k) := by
  unfold lshr
  rw [sh_amt k hk]
  apply L_inj
  show (lN n).toBitVec.sshiftRight' ((lN k).toBitVec.smod 64) = BitVec.ofNat 64 (n >>> k)
  apply BitVec.eq_of_toInt_eq
  have h1 : (lN n).toBitVec.toInt = (n : Int) := lN_toInt' hn
  have h2 : n >>> k < 2 ^ 63 := Nat.lt_of_le_of_lt (Nat.shiftRight_le n k) hn
  have h3 : (BitVec.ofNat 64 (n >>> k)).toInt = ((n >>> k : Nat) : Int) := lN_toInt' h2
  rw [BitVec.sshiftRight_eq', BitVec.toInt_sshiftRight, sh_amt2 k hk, h1, h3]
  simp [Int.shiftRight_eq_div_pow, Nat.shiftRight_eq_div_pow]
theorem bit_lN {n k : Nat} (hn : n < 2 ^ 63) (hk : k < 64) : lshr (lN n) (nI k) &&& 1 = lN ((n.testBit k).toNat) := by
  rw [lshr_lN hn hk, L1, lN_and]
  congr 1
  rw [Nat.testBit_eq_decide_div_mod_eq, Nat.and_one_is_mod, Nat.shiftRight_eq_div_pow]
  have : n / 2 ^ k % 2 = 0 ∨ n / 2 ^ k % 2 = 1 := by omega
  rcases this with h | h <;> simp [h]
theorem ubit_lN {n k : Nat} (hn : n < 2 ^ 64) (hk : k < 64) : lushr (lN n) (nI k) &&& 1 = lN ((n.testBit k).toNat) := by
  rw [lushr_lN hn hk, L1, lN_and]
  congr 1
  rw [Nat.testBit_eq_decide_div_mod_eq, Nat.and_one_is_mod, Nat.shiftRight_eq_div_pow]
  have : n / 2 ^ k % 2 = 0 ∨ n / 2 ^ k % 2 = 1 := by omega
  rcases this with h | h <;> simp [h]
theorem lN_i32 (n : Nat) : (lN n).toInt32 = nI n := lN_i n
theorem ish_amu : ∀ k, k < 32 → (((nI k).toUInt32 &&& Int32.toUInt32 31).toBitVec % 32#32).toNat = k := by decide +kernel
theorem iushr_nI {n k : Nat} (hn : n < 2 ^ 32) (hk : k < 32) : iushr (nI n) (nI k) = nI (n >>> k) := by
  unfold iushr
  apply I_inj
  show (nI n).toBitVec >>> (((nI k).toUInt32 &&& Int32.toUInt32 31).toBitVec % 32#32) = BitVec.ofNat 32 (n >>> k)
  apply BitVec.eq_of_toNat_eq
  rw [BitVec.ushiftRight_eq', BitVec.toNat_ushiftRight, ish_amu k hk, nI_bv, BitVec.toNat_ofNat, BitVec.toNat_ofNat, Nat.mod_eq_of_lt hn, Nat.mod_eq_of_lt (Nat.lt_of_le_of_lt (Nat.shiftRight_le n k) hn)]
theorem ish_am : ∀ k, k < 32 → ((nI k &&& 31).toBitVec.smod 32).toNat = k := by decide +kernel
theorem ishl_nI (n : Nat) {k : Nat} (hk : k < 32) : ishl (nI n) (nI k) = nI (n <<< k) := by
  unfold ishl
  apply I_inj
  show (nI n).toBitVec <<< ((nI k &&& 31).toBitVec.smod 32) = BitVec.ofNat 32 (n <<< k)
  apply BitVec.eq_of_toNat_eq
  rw [BitVec.shiftLeft_eq', BitVec.toNat_shiftLeft, ish_am k hk, nI_bv, BitVec.toNat_ofNat, BitVec.toNat_ofNat, Nat.shiftLeft_eq, Nat.shiftLeft_eq, Nat.mod_mul_mod]
theorem ishr_nI {n k : Nat} (hn : n < 2 ^ 31) (hk : k < 32) : ishr (nI n) (nI k) = nI (n >>> k) := by
  unfold ishr
  apply I_inj
  show (nI n).toBitVec.sshiftRight' ((nI k &&& 31).toBitVec.smod 32) = BitVec.ofNat 32 (n >>> k)
  apply BitVec.eq_of_toInt_eq
  have h1 : (nI n).toBitVec.toInt = (n : Int) := nI_toInt hn
  have h2 : n >>> k < 2 ^ 31 := Nat.lt_of_le_of_lt (Nat.shiftRight_le n k) hn
  have h3 : (BitVec.ofNat 32 (n >>> k)).toInt = ((n >>> k : Nat) : Int) := nI_toInt h2
  rw [BitVec.sshiftRight_eq', BitVec.toInt_sshiftRight, ish_am k hk, h1, h3]
  simp [Int.shiftRight_eq_div_pow, Nat.shiftRight_eq_div_pow]
/-- how many bits -/
def sz (a : Nat) : Nat := if a = 0 then 0 else dg a + 1
theorem sz_zero : sz 0 = 0 := rfl
theorem sz_pos {a : Nat} (h : a ≠ 0) : sz a = dg a + 1 := if_neg h
theorem sz_lt (a : Nat) : a < 2 ^ sz a := by
  by_cases h : a = 0
  · subst h; decide
  · rw [sz_pos h]; exact (dg_self h).2
theorem sz_le {a n : Nat} : sz a ≤ n ↔ a < 2 ^ n := by
  by_cases h : a = 0
  · subst h; simp [sz_zero, Nat.pow_pos]
  · rw [sz_pos h, ← dg_lt h]; omega
theorem dg_shr {a k : Nat} (h : 2 ^ k ≤ a) : dg (a >>> k) = dg a - k ∧ k ≤ dg a ∧ a >>> k ≠ 0 := by
  have ha : a ≠ 0 := by have := Nat.pow_pos (n := k) (show 0 < 2 by omega); omega
  have hk : k ≤ dg a := (le_dg ha).mpr h
  obtain ⟨h1, h2⟩ := dg_self ha
  have e1 : 2 ^ (dg a - k) ≤ a >>> k := by
    rw [Nat.shiftRight_eq_div_pow, Nat.le_div_iff_mul_le (Nat.pow_pos (by omega)), ← Nat.pow_add, show dg a - k + k = dg a by omega]
    exact h1
  have e2 : a >>> k < 2 ^ (dg a - k + 1) := by
    rw [Nat.shiftRight_eq_div_pow, Nat.div_lt_iff_lt_mul (Nat.pow_pos (by omega)), ← Nat.pow_add, show dg a - k + 1 + k = dg a + 1 by omega]
    exact h2
  have hne : a >>> k ≠ 0 := by have := Nat.pow_pos (n := dg a - k) (show 0 < 2 by omega); omega
  exact ⟨(log2_iff hne).mpr ⟨e1, e2⟩, hk, hne⟩
