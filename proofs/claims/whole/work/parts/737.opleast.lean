theorem one_shl {d : Nat} (hd : d < 63) : lshl (1 : Int64) (nI d) = lN (2 ^ d) := by
  have := lshl_lN 1 (k := d) (by omega)
  rw [Nat.one_shiftLeft] at this
  exact this
theorem pow_or {d low : Nat} (h : low < 2 ^ d) : 2 ^ d ||| low = 2 ^ d + low := by
  have := Nat.two_pow_add_eq_or_of_lt h 1
  rw [Nat.mul_one] at this
  exact this.symm
theorem neg_lN {x : Nat} (h : x ≤ 2 ^ 64) : -(lN x) = lN (2 ^ 64 - x) := by
  apply L_inj
  show -(BitVec.ofNat 64 x) = BitVec.ofNat 64 (2 ^ 64 - x)
  apply BitVec.eq_of_toNat_eq
  rw [BitVec.toNat_neg, BitVec.toNat_ofNat, BitVec.toNat_ofNat]
  omega
def tz62 (x0 x1 : Int32) : Int32 := if x0 ≤ 4 then x1 + iushr x0 1 else x1 + 2 + iushr (iushr x0 2) 1
def tz34 (x0 x1 : Int32) : Int32 := if x0 ≤ 256 then (if x0 ≤ 16 then tz62 x0 x1 else tz62 (iushr x0 4) (x1 + 4)) else (if iushr x0 8 ≤ 16 then tz62 (iushr x0 8) (x1 + 8) else tz62 (iushr (iushr x0 8) 4) (x1 + 8 + 4))
def tzI (a : Int32) : Int32 := if 0 < ((a ^^^ (-1 : Int32)) &&& (a - (1 : Int32))) then (if ((a ^^^ (-1 : Int32)) &&& (a - (1 : Int32))) ≤ 65536 then tz34 ((a ^^^ (-1 : Int32)) &&& (a - (1 : Int32))) 1 else tz34 (iushr ((a ^^^ (-1 : Int32)) &&& (a - (1 : Int32))) 16) (1 + 16)) else ((a ^^^ (-1 : Int32)) &&& (a - (1 : Int32))) &&& 32
theorem sp_tz62 {x0 x1 : Int32} {P : Int32 → Prop} (h : P (tz62 x0 x1)) : cf_Integer_numberOfTrailingZeros_B62 P x0 x1 := by
  unfold cf_Integer_numberOfTrailingZeros_B62
  unfold tz62 at h
  refine ⟨fun z => ?_, fun z => ?_⟩
  · rw [if_pos z] at h; exact h
  · rw [if_neg z] at h
    rintro _ rfl _ rfl
    exact h
theorem sp_tz34 {x0 x1 : Int32} {P : Int32 → Prop} (h : P (tz34 x0 x1)) : cf_Integer_numberOfTrailingZeros_B34 P x0 x1 := by
  unfold cf_Integer_numberOfTrailingZeros_B34
  unfold tz34 at h
  refine ⟨fun z => ⟨fun y => ?_, fun y => ?_⟩, fun z => ?_⟩
  · rw [if_pos z, if_pos y] at h; exact sp_tz62 h
  · rw [if_pos z, if_neg y] at h
    rintro _ rfl _ rfl
    exact sp_tz62 h
  · rw [if_neg z] at h
    rintro _ rfl _ rfl
    refine ⟨fun y => ?_, fun y => ?_⟩
    · rw [if_pos y] at h; exact sp_tz62 h
    · rw [if_neg y] at h
      rintro _ rfl _ rfl
      exact sp_tz62 h
theorem sp_tzI {a : Int32} {P : Int32 → Prop} (h : P (tzI a)) : cf_Integer_numberOfTrailingZeros a P := by
  unfold cf_Integer_numberOfTrailingZeros
  unfold tzI at h
  rintro _ rfl
  refine ⟨fun z => ⟨fun y => ?_, fun y => ?_⟩, fun z => ?_⟩
  · rw [if_pos z, if_pos y] at h; exact sp_tz34 h
  · rw [if_pos z, if_neg y] at h
    rintro _ rfl _ rfl
    exact sp_tz34 h
  · rw [if_neg z] at h; exact h
theorem tz_val : ∀ k, k < 20 → (lN (2 ^ k)).toInt32 ≠ 0 ∧ tzI (lN (2 ^ k)).toInt32 = nI k := by decide +kernel
theorem sp_tz {k : Nat} {P : Int32 → Prop} (hk : k < 20) (h : P (nI k)) : cf_Long_numberOfTrailingZeros (lN (2 ^ k)) P := by
  unfold cf_Long_numberOfTrailingZeros
  obtain ⟨h1, h2⟩ := tz_val k hk
  rintro _ rfl
  refine ⟨fun z => sp_tzI ?_, fun z => absurd z h1⟩
  rw [h2]
  exact h
theorem wt_le_d {d y : Nat} (hd : d ≤ 64) (h : y < 2 ^ d) : wt y ≤ d := by
  have h1 : wt y = wtF d y := wtF_lt h hd
  have := wtF_le d y
  omega
theorem wt_zero {y : Nat} (hy : y < 2 ^ 64) (h : wt y = 0) : y = 0 := by
  refine Classical.byContradiction (fun z => ?_)
  have h1 : wt y = wtF 64 y := rfl
  have := wtF_pos 64 y hy z
  omega
theorem good_odd {pr : Prop} {a d : Nat} (hd : 2 ≤ d) (h : 2 ^ d ≤ a) (hg : good pr a) : a.testBit 0 = true := by
  have h4 : 2 ^ 2 ≤ 2 ^ d := Nat.pow_le_pow_right (by decide) hd
  rw [Nat.testBit_zero]
  refine decide_eq_true (Classical.byContradiction (fun z => ?_))
  have : pdvd 2 a := ⟨a / 2, by rw [show cm (a / 2) 2 = cm (a / 2) (2 * 1) from rfl, cm_two_right, cm_one]; omega⟩
  rcases hg.1.2 2 this with q | q <;> omega
theorem sp_leastOfWeight {d wg : Nat} {pr : Int32} {w0 : Wd} {P : Int64 → Wd → Prop} (hd1 : 1 ≤ d) (hd : d ≤ 20) (hw1 : 1 ≤ wg) (hw : wg ≤ d + 1)
    (h1 : ∀ w' low, fr [(21, 1)] [] [22] w0 w' → low < 2 ^ d → wt low + 1 = wg → good (¬ pr = 0) (2 ^ d + low) → (∀ y, y < low → wt y + 1 = wg → ¬ good (¬ pr = 0) (2 ^ d + y)) → P (lN (2 ^ d + low)) w')
    (h0 : ∀ w', fr [(21, 1)] [] [22] w0 w' → (∀ y, y < 2 ^ d → wt y + 1 = wg → ¬ good (¬ pr = 0) (2 ^ d + y)) → P 0 w') : cf_Families_leastOfWeight (nI d) (nI wg) pr w0 P := by
  have hd20 : 2 ^ d ≤ 2 ^ 20 := Nat.pow_le_pow_right (by decide) hd
  have key : ∀ m low c w', low < 2 ^ 22 → 2 ^ 22 ≤ low + m → wt low + 1 = wg → c ≤ low / 2 → c ≤ 2 ^ 19 + 1 → fr [(21, 1)] [] [22] w0 w' → (∀ y, y < low → wt y + 1 = wg → ¬ good (¬ pr = 0) (2 ^ d + y)) → ∀ n, m < n → cf_Families_leastOfWeight_L17 P n pr (lN (2 ^ d)) (lN low) (nI c) w' := by
    intro m
    induction m with
    | zero => intro low c w' h1 h2; omega
    | succ m ih =>
      intro low c w' hl hm hwt hc1 hc2 hf hno n hn
      obtain ⟨n, rfl⟩ : ∃ m, n = m + 1 := ⟨n - 1, by omega⟩
      show cf_Families_leastOfWeight_B17 _ _ _ _ _ _ _
      unfold cf_Families_leastOfWeight_B17
      rw [show (1000000 : Int32) = nI 1000000 from rfl, nI_leI (by omega) (by omega), lN_leI (by omega) (by omega)]
      refine ⟨fun z => absurd z (by omega), fun _ => ⟨fun z => h0 w' hf (fun y hy e => hno y (by omega) e), fun z => ?_⟩⟩
      have hlt : low < 2 ^ d := by omega
      rw [lN_or, pow_or hlt]
      refine sp_isSought (by omega) (fun w2 f2 g => ⟨fun y => absurd y one_ne', fun _ => h1 w2 low (fr_trans hf f2) hlt hwt g hno⟩) (fun w2 f2 g => ⟨fun _ => ⟨fun y => ?_, fun y => ?_⟩, fun y => absurd rfl y⟩)
      · have hl0 : low ≠ 0 := fun e => y (by rw [e]; rfl)
        obtain ⟨k, nx, hk, g1, g2, g3, g4, g5, g6, g7⟩ := gosper hl0 (by omega)
        rw [neg_lN (by omega), lN_and, g1]
        rintro _ rfl _ rfl
        refine sp_tz hk ?_
        rintro _ rfl _ rfl
        have hxl : low ^^^ (low + 2 ^ k) < 2 ^ 63 := Nat.lt_of_lt_of_le (Nat.xor_lt_two_pow (n := 22) (by omega) (by omega)) (by decide)
        have e2 : (2 : Int32) + nI k = nI (2 + k) := nI_add 2 k
        rw [lN_add, lN_xor, e2, lshr_lN hxl (by omega), lN_or, g2, nI_1]
        have hhalf := wt_half g4 g3.symm
        refine ih nx (c + 1) w2 g5 (by omega) (by omega) (by omega) (by omega) (fr_trans hf f2) (fun y hy e => ?_) n (by omega)
        by_cases q : y < low
        · exact hno y q e
        · by_cases q2 : y = low
          · rw [q2]; exact g
          · exact absurd (by omega) (g7 y (by omega) hy)
      · have hl0 : low = 0 := (lN_eq0 (by omega)).mp y
        refine h0 w2 (fr_trans hf f2) (fun y hy e => ?_)
        have hw0 : wt low = 0 := by rw [hl0]; decide
        have : y = 0 := wt_zero (by omega) (by omega)
        rw [this, ← hl0]
        exact g
  unfold cf_Families_leastOfWeight
  rintro _ rfl _ rfl
  have hp := Nat.two_pow_pos (wg - 1)
  have hp2 : 2 ^ (wg - 1) ≤ 2 ^ 20 := Nat.pow_le_pow_right (by decide) (by omega)
  have es : nI wg - (1 : Int32) = nI (wg - 1) := pk_sub (b := 1) (by omega)
  rw [one_shl (by omega), es, ones_lN (by omega)]
  have hwo := wt_ones (m := wg - 1) (by omega)
  exact ⟨2 ^ 22 + 1, key (2 ^ 22) (2 ^ (wg - 1) - 1) 0 w0 (by omega) (by omega) (by omega) (Nat.zero_le _) (by omega) (fr_refl _ _ _ _) (fun y hy e => by
    have := wt_below (m := wg - 1) (by omega) hy
    omega) _ (by omega)⟩
def leastP (d : Nat) (pr : Prop) (low : Nat) : Prop := low < 2 ^ d ∧ good pr (2 ^ d + low) ∧ ∀ y, y < 2 ^ d → good pr (2 ^ d + y) → wt low < wt y ∨ (wt low = wt y ∧ low ≤ y)
theorem leastP_unique {d : Nat} {pr : Prop} {x y : Nat} (h1 : leastP d pr x) (h2 : leastP d pr y) : x = y := by
  have a := h1.2.2 y h2.1 h2.2.1
  have b := h2.2.2 x h1.1 h1.2.1
  omega
theorem leastP_of {d wg low : Nat} {pr : Prop} (hinv : ∀ y, y < 2 ^ d → good pr (2 ^ d + y) → wg ≤ wt y + 1) (h1 : low < 2 ^ d) (h2 : wt low + 1 = wg) (h3 : good pr (2 ^ d + low)) (h4 : ∀ y, y < low → wt y + 1 = wg → ¬ good pr (2 ^ d + y)) : leastP d pr low := by
  refine ⟨h1, h3, fun y hy hg => ?_⟩
  have := hinv y hy hg
  by_cases c : wt low = wt y
  · right
    refine ⟨c, Classical.byContradiction (fun z => h4 y (by omega) (by omega) hg)⟩
  · left; omega
theorem leastP_next {d wg : Nat} {pr : Prop} (hinv : ∀ y, y < 2 ^ d → good pr (2 ^ d + y) → wg ≤ wt y + 1) (h : ∀ y, y < 2 ^ d → wt y + 1 = wg → ¬ good pr (2 ^ d + y)) : ∀ y, y < 2 ^ d → good pr (2 ^ d + y) → wg + 1 ≤ wt y + 1 := by
  intro y hy hg
  have h1 := hinv y hy hg
  have h2 : wt y + 1 ≠ wg := fun z => h y hy z hg
  omega
theorem sp_lightest {d : Nat} {pr : Int32} {w0 : Wd} {P : Int64 → Wd → Prop} (hd1 : 1 ≤ d) (hd : d ≤ 20) (h : ∀ w' low, fr [(21, 1)] [] [22] w0 w' → leastP d (¬ pr = 0) low → P (lN (2 ^ d + low)) w') : cf_Families_lightest (nI d) pr w0 P := by
  obtain ⟨lo, hlo, hgo⟩ := exists_primitive hd1 hd
  have hd20 : 2 ^ d ≤ 2 ^ 20 := Nat.pow_le_pow_right (by decide) hd
  have key : ∀ m wg w', d + 2 ≤ wg + m → 1 ≤ wg → fr [(21, 1)] [] [22] w0 w' → (∀ y, y < 2 ^ d → good (¬ pr = 0) (2 ^ d + y) → wg ≤ wt y + 1) → ∀ n, m < n → cf_Families_lightest_L2 P n (nI d) pr (nI wg) w' := by
    intro m
    induction m with
    | zero =>
      intro wg w' hm hw1 hf hinv
      have := hinv lo hlo (hgo _)
      have := wt_le_d (by omega) hlo
      omega
    | succ m ih =>
      intro wg w' hm hw1 hf hinv n hn
      have hb1 := hinv lo hlo (hgo _)
      have hb2 := wt_le_d (by omega) hlo
      obtain ⟨n, rfl⟩ : ∃ m, n = m + 1 := ⟨n - 1, by omega⟩
      show cf_Families_lightest_B2 _ _ _ _ _ _
      unfold cf_Families_lightest_B2
      rw [nI_1, nI_ltI (by omega) (by omega)]
      refine ⟨fun z => absurd z (by omega), fun _ => sp_leastOfWeight hd1 hd hw1 (by omega) (fun w2 low f2 a1 a2 a3 a4 => ⟨fun z => ?_, fun _ => h w2 low (fr_trans hf f2) (leastP_of hinv a1 a2 a3 a4)⟩) (fun w2 f2 a1 => ⟨fun _ => ?_, fun z => absurd rfl z⟩)⟩
      · have := (lN_eq0 (a := 2 ^ d + low) (by omega)).mp z
        have := Nat.two_pow_pos d
        omega
      · rintro _ rfl
        rw [nI_1]
        exact ih (wg + 1) w2 (by omega) (by omega) (fr_trans hf f2) (leastP_next hinv a1) n (by omega)
  unfold cf_Families_lightest
  exact ⟨_, key (d + 1) 1 w0 (by omega) (by omega) (fr_refl _ _ _ _) (fun y _ _ => by omega) (d + 2) (by omega)⟩
theorem mp_leastLoop {now : Nat → Int64} {u : Nat} {past : Nat → Nat → Int64} {kb : Nat → Bool} {shelf : Nat → Nat → Int64} {d : Nat} {pr : Int32} {P : Int64 → Wd → Prop} (hd1 : 1 ≤ d) (hd : d ≤ 20) (h : ∀ w' low, core w' now u past kb shelf → leastP d (¬ pr = 0) low → P (lN (2 ^ d + low)) w') :
    ∀ m wg w', d + 2 ≤ wg + m → 1 ≤ wg → core w' now u past kb shelf → (∀ y, y < 2 ^ d → good (¬ pr = 0) (2 ^ d + y) → wg ≤ wt y + 1) → ∀ n, m < n → cf_M_least_L18 P n (nI d) pr (nI wg) w' := by
  obtain ⟨lo, hlo, hgo⟩ := exists_primitive hd1 hd
  have hd20 : 2 ^ d ≤ 2 ^ 20 := Nat.pow_le_pow_right (by decide) hd
  intro m
  induction m with
  | zero =>
    intro wg w' hm hw1 hc hinv
    have := hinv lo hlo (hgo _)
    have := wt_le_d (by omega) hlo
    omega
  | succ m ih =>
    intro wg w0 hm hw1 hc0 hinv n hn
    have hb1 := hinv lo hlo (hgo _)
    have hb2 := wt_le_d (by omega) hlo
    obtain ⟨n, rfl⟩ : ∃ m, n = m + 1 := ⟨n - 1, by omega⟩
    show cf_M_least_B18 _ _ _ _ _ _
    unfold cf_M_least_B18
    rw [nI_1, nI_ltI (by omega) (by omega)]
    refine ⟨fun z => absurd z (by omega), fun _ => ?_⟩
    have key : ∀ m' low w', 2 ^ d ≤ low + m' → low ≤ 2 ^ d → core w' now u past kb shelf → (∀ y, y < low → wt y + 1 = wg → ¬ good (¬ pr = 0) (2 ^ d + y)) → ∀ n', m' < n' → cf_M_least_L28 (cf_M_least_L18 P n) P n' (nI d) pr (nI wg) (lN low) w' := by
      intro m'
      have stop : ∀ w', core w' now u past kb shelf → (∀ y, y < 2 ^ d → wt y + 1 = wg → ¬ good (¬ pr = 0) (2 ^ d + y)) → ∀ n', 0 < n' → cf_M_least_L28 (cf_M_least_L18 P n) P n' (nI d) pr (nI wg) (lN (2 ^ d)) w' := by
        intro w' hc hno n' hn'
        obtain ⟨n', rfl⟩ : ∃ m, n' = m + 1 := ⟨n' - 1, by omega⟩
        show cf_M_least_B28 _ _ P _ _ _ _ _
        unfold cf_M_least_B28
        rw [one_shl (by omega)]
        refine ⟨fun _ => ?_, fun z => absurd (Int64.le_refl _) z⟩
        rintro _ rfl
        rw [nI_1]
        exact ih (wg + 1) w' (by omega) (by omega) hc (leastP_next hinv hno) n (by omega)
      induction m' with
      | zero =>
        intro low w' h1 h2 hc hno n' hn'
        have : low = 2 ^ d := by omega
        subst this
        exact stop w' hc hno n' (by omega)
      | succ m' ihm =>
        intro low w' h1 h2 hc hno n' hn'
        by_cases hle : low = 2 ^ d
        · subst hle
          exact stop w' hc hno n' (by omega)
        obtain ⟨n', rfl⟩ : ∃ m, n' = m + 1 := ⟨n' - 1, by omega⟩
        show cf_M_least_B28 _ _ P _ _ _ _ _
        unfold cf_M_least_B28
        have hlt : low < 2 ^ d := by omega
        have next : ∀ w2, core w2 now u past kb shelf → (wt low + 1 = wg → ¬ good (¬ pr = 0) (2 ^ d + low)) → cf_M_least_L28 (cf_M_least_L18 P n) P n' (nI d) pr (nI wg) (lN (low + 1)) w2 := by
          intro w2 hc2 hng
          refine ihm (low + 1) w2 (by omega) (by omega) hc2 (fun y hy e => ?_) n' (by omega)
          by_cases q : y = low
          · rw [q]; rw [q] at e; exact hng e
          · exact hno y (by omega) e
        have try_ : wt low + 1 = wg → cf_M_isGood (lN (2 ^ d + low)) pr w' (fun r6 w7 => ((r6 = 0 → ∀ v8, v8 = lN low + (1 : Int64) → cf_M_least_L28 (cf_M_least_L18 P n) P n' (nI d) pr (nI wg) v8 w7) ∧ (¬ r6 = 0 → P (lN (2 ^ d + low)) w7))) := by
          intro hwt
          refine mp_isGood hc (by omega) (fun w2 _ hc2 g => ⟨fun z => absurd z one_ne', fun _ => h w2 low hc2 (leastP_of hinv hlt hwt g hno)⟩) (fun w2 _ hc2 g => ⟨fun _ => ?_, fun z => absurd rfl z⟩)
          rintro _ rfl
          rw [lN_succ]
          exact next w2 hc2 (fun _ => g)
        rw [one_shl (by omega), lN_leI (by omega) (by omega)]
        refine ⟨fun z => absurd z (by omega), fun _ => ?_⟩
        rintro _ rfl
        have es : nI wg - (1 : Int32) = nI (wg - 1) := pk_sub (b := 1) (by omega)
        have hwl := wt_le_d (by omega) hlt
        refine mp_weight (by omega) ?_
        rw [lN_or, pow_or hlt, es, nI_eq (by omega) (by omega), nI_eq1 (by omega)]
        refine ⟨fun z => ?_, fun z => ⟨fun _ => try_ (by omega), fun c => ?_⟩⟩
        · rintro _ rfl
          rw [lN_succ]
          exact next w' hc (fun e => absurd (by omega) z)
        · refine mp_hasB (k := 0) (by omega) (by omega) (fun hb => ⟨fun y => absurd y one_ne', fun _ => try_ (by omega)⟩) (fun hb => ⟨fun _ => ?_, fun y => absurd rfl y⟩)
          rintro _ rfl
          rw [lN_succ]
          refine next w' hc (fun _ g => ?_)
          have := good_odd (show 2 ≤ d by omega) (Nat.le_add_right _ _) g
          rw [hb] at this
          exact absurd this (by decide)
    exact ⟨_, key (2 ^ d) 0 w0 (by omega) (by omega) hc0 (fun y hy => absurd hy (by omega)) (2 ^ d + 1) (by omega)⟩
theorem op_least {w : Wd} (hI : Inv w) (a0 : Int32) (a1 : Int32) : same1 (cf_T_least a0 a1 w) (cf_M_least a0 a1) := by
  intro G h
  obtain ⟨now, u, past, kb, shelf, hc⟩ := hI
  have hI := core_Inv hc
  have mno : ¬ (1 ≤ a0.toInt ∧ a0.toInt ≤ 20) → ∀ F : Int64 → Wd → Prop, F (-1) w → cf_M_least a0 a1 w F := by
    intro hn F hF
    unfold cf_M_least
    exact mp_inI (lo := 1) (hi := 20) (by decide) (by decide) (fun q => absurd q hn) (fun _ => ⟨fun z => absurd rfl z, fun _ => hF⟩)
  unfold cf_T_least
  rw [lt_k 1 (n := 1) (by decide), le_k 20 (n := 20) (by decide)]
  refine ⟨fun z => both_stay hI h (fun F hF => mno (by omega) F hF), fun z => ⟨fun y => ?_, fun y => both_stay hI h (fun F hF => mno (by omega) F hF)⟩⟩
  obtain ⟨d, hd, rfl, ed⟩ := nat_of (a := a0) (by omega)
  refine sp_lightest (by omega) (by omega) (fun w1 low f1 l1 => h _ _ (fun F hF => ?_))
  have hc1 := core_cls hc (Or.inr rfl) f1
  unfold cf_M_least
  refine mp_inI (lo := 1) (hi := 20) (by decide) (by decide) (fun q => ⟨fun _ => ⟨d + 2, ?_⟩, fun z => absurd z one_ne'⟩) (fun q => absurd (by omega) q)
  refine mp_leastLoop (by omega) (by omega) (fun w2 low2 hc2 l2 => ?_) (d + 1) 1 w1 (by omega) (by omega) hc1 (fun y _ _ => by omega) (d + 2) (by omega)
  rw [leastP_unique l2 l1]
  exact hF w2 (core_Inv hc2)
