-- calls that stand on factors, orders and what is good
theorem lt_k {a : Int32} (k : Int32) {n : Int} (h : k.toInt = n) : a < k ↔ a.toInt < n := by rw [lt_toInt, h]
theorem k_lt {a : Int32} (k : Int32) {n : Int} (h : k.toInt = n) : k < a ↔ n < a.toInt := by rw [lt_toInt, h]
theorem le_k {a : Int32} (k : Int32) {n : Int} (h : k.toInt = n) : a ≤ k ↔ a.toInt ≤ n := by rw [le_toInt, h]
theorem k_le {a : Int32} (k : Int32) {n : Int} (h : k.toInt = n) : k ≤ a ↔ n ≤ a.toInt := by rw [le_toInt, h]
theorem core_cls {w w' : Wd} {now : Nat → Int64} {u : Nat} {past : Nat → Nat → Int64} {kb : Nat → Bool} {shelf : Nat → Nat → Int64} (hc : core w now u past kb shelf) {c : Nat} (hcc : c = 18 ∨ c = 21) (h : fr [(c, 1)] [] [c + 1] w w') : core w' now u past kb shelf := by
  refine core_kp hc (kp_fr h ?_ (fun k hk => absurd hk (by simp)) ?_) (cache_kc (kc_fr h ?_ (by decide) ?_) (core_cache hc))
  · rcases hcc with e | e <;> subst e <;> decide
  · rcases hcc with e | e <;> subst e <;> decide
  · rcases hcc with e | e <;> subst e <;> decide
  · rcases hcc with e | e <;> subst e <;> decide
theorem sp_orderOf {w : Wd} {now : Nat → Int64} {u : Nat} {past : Nat → Nat → Int64} {kb : Nat → Bool} {shelf : Nat → Nat → Int64} (hc : core w now u past kb shelf) {a : Nat} (ha : a < 2 ^ 32) (ho : a % 2 = 1) {P : Int64 → Wd → Prop}
    (h : ∀ w', core w' now u past kb shelf → isGen (ords a) (gn a) → gn a ≤ 2 ^ 31 → P (lN (gn a)) w') : cf_T_orderOf (lN a) w P := by
  unfold cf_T_orderOf
  refine T_split hc (Or.inl rfl) ha (fun w1 bs k1 k2 k3 k4 => sp_ofSplit ha ho k4 k3 (fun w2 j1 j2 j3 => h w2 (core_cls k2 (Or.inl rfl) j1) j2 j3))
theorem op_order {w : Wd} (hI : Inv w) (a0 : Int32) : same1 (cf_T_order a0 w) (cf_M_order a0) := by
  intro G h
  obtain ⟨now, u, past, kb, shelf, hc⟩ := hI
  have hI := core_Inv hc
  unfold cf_T_order
  refine sp_isPlace (fun ha => ⟨fun _ => ?_, fun z => absurd z one_ne'⟩) (fun hno => ⟨fun z => absurd rfl z, fun _ => both_stay hI h (fun F hF => ?_)⟩)
  · obtain ⟨k, hk, rfl⟩ := ha
    obtain ⟨a, ha, e0, e1, e2⟩ := core_poly hc hk
    refine sp_polyAt hk ?_
    rw [e1, show (2 : Int64) = lN 2 from rfl, lN_ltI (by omega) (by omega), lN_and1]
    have mo : ¬ (2 ≤ a ∧ a % 2 = 1) → ∀ F : Int64 → Wd → Prop, F (-2) w → cf_M_order (nI k) w F := by
      intro hn F hF
      unfold cf_M_order
      refine mp_isPlace (fun _ => ⟨fun _ => ⟨vp_in_nI (by omega) (by omega), ?_⟩, fun z => absurd z one_ne'⟩) (fun z => absurd ⟨k, hk, rfl⟩ z)
      rw [nI_clamp (by omega), e2]
      exact mp_hasOrder (by omega) (fun g1 g2 => absurd ⟨g1, g2⟩ hn) (fun _ => ⟨fun _ => hF, fun z => absurd rfl z⟩)
    refine ⟨fun z => both_stay hI h (fun F hF => mo (fun q => by omega) F hF), fun z => ⟨fun q => ?_, fun q => both_stay hI h (fun F hF => mo (fun y => q y.2) F hF)⟩⟩
    have ho : a % 2 = 1 := Classical.byContradiction (fun y => q y)
    refine sp_orderOf hc ha ho (fun w1 k1 k2 k3 => h _ _ (fun F hF => ?_))
    unfold cf_M_order
    refine mp_isPlace (fun _ => ⟨fun _ => ⟨vp_in_nI (by omega) (by omega), ?_⟩, fun z => absurd z one_ne'⟩) (fun z => absurd ⟨k, hk, rfl⟩ z)
    rw [nI_clamp (by omega), (core_poly' k1 hk e0).2]
    refine mp_hasOrder (by omega) (fun g1 g2 => ⟨fun z => absurd z one_ne', fun _ => ⟨vp_in_nI (by omega) (by omega), ?_⟩⟩) (fun y => absurd ⟨by omega, ho⟩ y)
    obtain ⟨bs, hB⟩ := okB_exists (a := a) (by omega)
    exact mp_orderOf k1 ha ho g1 hB (fun w2 j1 j2 => hF w2 (core_Inv j2))
  · unfold cf_M_order
    exact mp_isPlace (fun z => absurd z hno) (fun _ => ⟨fun z => absurd rfl z, fun _ => hF⟩)
-- counting by rules
noncomputable def cntg (Q : Nat → Prop) : Nat → Nat
  | 0 => 0
  | k + 1 => cntg Q k + @ite Nat (Q k) (Classical.propDecidable _) 1 0
theorem cntg_yes {Q : Nat → Prop} {k : Nat} (h : Q k) : cntg Q (k + 1) = cntg Q k + 1 := by
  show _ + @ite Nat (Q k) (Classical.propDecidable _) 1 0 = _
  rw [@if_pos _ (Classical.propDecidable _) h]
theorem cntg_no {Q : Nat → Prop} {k : Nat} (h : ¬ Q k) : cntg Q (k + 1) = cntg Q k := by
  show _ + @ite Nat (Q k) (Classical.propDecidable _) 1 0 = _
  rw [@if_neg _ (Classical.propDecidable _) h, Nat.add_zero]
theorem cntg_le {Q : Nat → Prop} : ∀ k, cntg Q k ≤ k
  | 0 => Nat.le_refl _
  | k + 1 => by
    have := cntg_le (Q := Q) k
    by_cases h : Q k
    · rw [cntg_yes h]; omega
    · rw [cntg_no h]; omega
theorem cntg_mono {Q : Nat → Prop} {j k : Nat} (h : j ≤ k) : cntg Q j ≤ cntg Q k := by
  induction k with
  | zero => have : j = 0 := by omega
            rw [this]; exact Nat.le_refl _
  | succ k ih =>
    by_cases e : j = k + 1
    · rw [e]; exact Nat.le_refl _
    · refine Nat.le_trans (ih (by omega)) ?_
      by_cases h : Q k
      · rw [cntg_yes h]; omega
      · rw [cntg_no h]; exact Nat.le_refl _
def triN (n k : Nat) : Nat := (2 ^ n ||| 2 ^ k) ||| 1
theorem triN_lt {n k : Nat} (hn : n ≤ 31) (hk : k < n) : triN n k < 2 ^ 32 := by
  refine Nat.or_lt_two_pow (Nat.or_lt_two_pow (Nat.pow_lt_pow_right (by omega) (by omega)) (Nat.pow_lt_pow_right (by omega) (by omega))) (by omega)
def goodT (pr : Int32) (n k : Nat) : Prop := 1 ≤ k ∧ good (¬ pr = 0) (triN n k)
theorem sp_triAt {n i : Nat} {pr : Int32} {w0 : Wd} {P : Int32 → Wd → Prop} (hn : n ≤ 24) (hn2 : 2 ≤ n) (hi : i < 2 ^ 31)
    (h1 : ∀ w' k, fr [(21, 1)] [] [22] w0 w' → k < n → goodT pr n k → cntg (goodT pr n) k = i → P (nI k) w') (h0 : ∀ w', fr [(21, 1)] [] [22] w0 w' → cntg (goodT pr n) n ≤ i → P 0 w') : cf_Families_triAt (nI n) pr (nI i) w0 P := by
  have key : ∀ m k w, n ≤ k + m → 1 ≤ k → k ≤ n → fr [(21, 1)] [] [22] w0 w → cntg (goodT pr n) k ≤ i → ∀ n', m < n' → cf_Families_triAt_L6 P n' (nI n) pr (nI (i - cntg (goodT pr n) k)) (nI k) w := by
    intro m
    induction m with
    | zero =>
      intro k w hk hk1 hkn hf hc n' hn'
      obtain ⟨n', rfl⟩ : ∃ m, n' = m + 1 := ⟨n' - 1, by omega⟩
      show cf_Families_triAt_B6 _ _ _ _ _ _ _
      unfold cf_Families_triAt_B6
      have : k = n := by omega
      subst this
      exact ⟨fun _ => h0 w hf hc, fun z => absurd ((nI_leI (by omega) (by omega)).mpr (Nat.le_refl _)) z⟩
    | succ m ih =>
      intro k w hk hk1 hkn hf hc n' hn'
      by_cases hke : k = n
      · exact ih k w (by omega) hk1 hkn hf hc n' (by omega)
      obtain ⟨n', rfl⟩ : ∃ m, n' = m + 1 := ⟨n' - 1, by omega⟩
      show cf_Families_triAt_B6 _ _ _ _ _ _ _
      unfold cf_Families_triAt_B6
      rw [nI_leI (by omega) (by omega)]
      refine ⟨fun z => absurd z (by omega), fun _ => ⟨fun z => absurd z (nI_pos (by omega)), fun _ => sp_tri (by omega) (by omega) ?_⟩⟩
      refine sp_isSought (a := triN n k) (triN_lt (by omega) (by omega)) (fun w' k1 g => ⟨fun z => absurd z one_ne', fun _ => ⟨fun z => ?_, fun z => ?_⟩⟩) (fun w' k1 g => ⟨fun _ => ?_, fun z => absurd rfl z⟩)
      · rintro _ rfl _ rfl
        have hq : goodT pr n k := ⟨hk1, g⟩
        have hne : i - cntg (goodT pr n) k ≠ 0 := fun y => z ((nI_eq0 (by omega)).mpr y)
        obtain ⟨r, hr⟩ : ∃ r, i - cntg (goodT pr n) k = r + 1 := ⟨_, (Nat.succ_pred hne).symm⟩
        rw [hr, m1_eq, nI_pred, nI_1]
        have := ih (k + 1) w' (by omega) (by omega) (by omega) (fr_trans hf k1) (by rw [cntg_yes hq]; omega) n' (by omega)
        rw [cntg_yes hq, show i - (cntg (goodT pr n) k + 1) = r by omega] at this
        exact this
      · have he : i - cntg (goodT pr n) k = 0 := (nI_eq0 (by omega)).mp z
        exact h1 w' k (fr_trans hf k1) (by omega) ⟨hk1, g⟩ (by omega)
      · rintro _ rfl
        rw [nI_1]
        have hq : ¬ goodT pr n k := fun y => g y.2
        have := ih (k + 1) w' (by omega) (by omega) (by omega) (fr_trans hf k1) (by rw [cntg_no hq]; omega) n' (by omega)
        rw [cntg_no hq] at this
        exact this
  unfold cf_Families_triAt
  have hz : cntg (goodT pr n) 1 = 0 := by
    rw [cntg_no (fun y => by have := y.1; omega)]
    rfl
  have := key n 1 w0 (by omega) (by omega) (by omega) (fr_refl _ _ _ _) (by omega) (n + 1) (by omega)
  rw [hz, Nat.sub_zero] at this
  exact ⟨_, this⟩
theorem sp_countTris {n : Nat} {pr : Int32} {w0 : Wd} {P : Int32 → Wd → Prop} (hn : n ≤ 24) (hn2 : 2 ≤ n)
    (h : ∀ w', fr [(21, 1)] [] [22] w0 w' → P (nI (cntg (goodT pr n) n)) w') : cf_Families_countTris (nI n) pr w0 P := by
  have key : ∀ m k w, n ≤ k + m → 1 ≤ k → k ≤ n → fr [(21, 1)] [] [22] w0 w → ∀ n', m < n' → cf_Families_countTris_L5 P n' (nI n) pr (nI (cntg (goodT pr n) k)) (nI k) w := by
    intro m
    induction m with
    | zero =>
      intro k w hk hk1 hkn hf n' hn'
      obtain ⟨n', rfl⟩ : ∃ m, n' = m + 1 := ⟨n' - 1, by omega⟩
      show cf_Families_countTris_B5 _ _ _ _ _ _ _
      unfold cf_Families_countTris_B5
      have : k = n := by omega
      subst this
      exact ⟨fun _ => h w hf, fun z => absurd ((nI_leI (by omega) (by omega)).mpr (Nat.le_refl _)) z⟩
    | succ m ih =>
      intro k w hk hk1 hkn hf n' hn'
      by_cases hke : k = n
      · exact ih k w (by omega) hk1 hkn hf n' (by omega)
      obtain ⟨n', rfl⟩ : ∃ m, n' = m + 1 := ⟨n' - 1, by omega⟩
      show cf_Families_countTris_B5 _ _ _ _ _ _ _
      unfold cf_Families_countTris_B5
      rw [nI_leI (by omega) (by omega)]
      refine ⟨fun z => absurd z (by omega), fun _ => sp_tri (by omega) (by omega) ?_⟩
      refine sp_isSought (a := triN n k) (triN_lt (by omega) (by omega)) (fun w' k1 g => ⟨fun z => absurd z one_ne', fun _ => ?_⟩) (fun w' k1 g => ⟨fun _ => ?_, fun z => absurd rfl z⟩)
      · rintro _ rfl _ rfl
        rw [nI_1, nI_1]
        have := ih (k + 1) w' (by omega) (by omega) (by omega) (fr_trans hf k1) n' (by omega)
        rw [cntg_yes ⟨hk1, g⟩] at this
        exact this
      · rintro _ rfl
        rw [nI_1]
        have := ih (k + 1) w' (by omega) (by omega) (by omega) (fr_trans hf k1) n' (by omega)
        rw [cntg_no (fun y => g y.2)] at this
        exact this
  unfold cf_Families_countTris
  have hz : cntg (goodT pr n) 1 = 0 := by
    rw [cntg_no (fun y => by have := y.1; omega)]
    rfl
  have := key n 1 w0 (by omega) (by omega) (by omega) (fr_refl _ _ _ _) (n + 1) (by omega)
  rw [hz] at this
  exact ⟨_, this⟩
theorem mp_trinomial {w0 : Wd} {now : Nat → Int64} {u : Nat} {past : Nat → Nat → Int64} {kb : Nat → Bool} {shelf : Nat → Nat → Int64} (hc : core w0 now u past kb shelf) {n : Nat} {pr a2 : Int32} {P : Int32 → Wd → Prop} (hn : n ≤ 24) (hn2 : 2 ≤ n) (ha2 : -1 ≤ a2.toInt)
    (h1 : ∀ w' k, core w' now u past kb shelf → k < n → goodT pr n k → a2 = nI (cntg (goodT pr n) k) → P (nI k) w') (h0 : ∀ w', core w' now u past kb shelf → (∀ k, k < n → goodT pr n k → a2 ≠ nI (cntg (goodT pr n) k)) → (a2 = -1 → P (nI (cntg (goodT pr n) n)) w') ∧ (a2 ≠ -1 → P (-2) w')) : cf_M_trinomial (nI n) pr a2 w0 P := by
  have en : (nI n).toInt = (n : Int) := nI_toInt (by omega)
  have key : ∀ m k w, n ≤ k + m → 1 ≤ k → k ≤ n → core w now u past kb shelf → (∀ j, j < k → goodT pr n j → a2 ≠ nI (cntg (goodT pr n) j)) → ∀ n', m < n' → cf_M_trinomial_L27 P n' (nI n) pr a2 (nI (cntg (goodT pr n) k)) (nI k) w := by
    intro m
    induction m with
    | zero =>
      intro k w hk hk1 hkn hf hno n' hn'
      obtain ⟨n', rfl⟩ : ∃ m, n' = m + 1 := ⟨n' - 1, by omega⟩
      show cf_M_trinomial_B27 _ _ _ _ _ _ _ _
      unfold cf_M_trinomial_B27
      have : k = n := by omega
      subst this
      have := h0 w hf hno
      exact ⟨fun _ => ⟨fun z => this.2 z, fun z => this.1 z⟩, fun z => absurd ((nI_leI (by omega) (by omega)).mpr (Nat.le_refl _)) z⟩
    | succ m ih =>
      intro k w hk hk1 hkn hf hno n' hn'
      by_cases hke : k = n
      · exact ih k w (by omega) hk1 hkn hf hno n' (by omega)
      obtain ⟨n', rfl⟩ : ∃ m, n' = m + 1 := ⟨n' - 1, by omega⟩
      show cf_M_trinomial_B27 _ _ _ _ _ _ _ _
      unfold cf_M_trinomial_B27
      rw [nI_leI (by omega) (by omega)]
      refine ⟨fun z => absurd z (by omega), fun _ => mp_tri (by omega) (by omega) ?_⟩
      refine mp_isGood (a := triN n k) hf (triN_lt (by omega) (by omega)) (fun w' k1 k2 g => ⟨fun _ => ⟨fun z => ?_, fun z => h1 w' k k2 (by omega) ⟨hk1, g⟩ z.symm⟩, fun z => absurd z one_ne'⟩) (fun w' k1 k2 g => ⟨fun z => absurd rfl z, fun _ => ?_⟩)
      · rintro _ rfl _ rfl
        rw [nI_1, nI_1]
        have := ih (k + 1) w' (by omega) (by omega) (by omega) k2 (fun j hj hq => ?_) n' (by omega)
        · rw [cntg_yes ⟨hk1, g⟩] at this
          exact this
        · by_cases e : j = k
          · rw [e]; exact fun y => z y.symm
          · exact hno j (by omega) hq
      · rintro _ rfl
        rw [nI_1]
        have := ih (k + 1) w' (by omega) (by omega) (by omega) k2 (fun j hj hq => ?_) n' (by omega)
        · rw [cntg_no (fun y => g y.2)] at this
          exact this
        · by_cases e : j = k
          · rw [e] at hq; exact absurd hq.2 g
          · exact hno j (by omega) hq
  unfold cf_M_trinomial
  have hz : cntg (goodT pr n) 1 = 0 := by
    rw [cntg_no (fun y => by have := y.1; omega)]
    rfl
  refine mp_inI (lo := 2) (hi := 24) (by decide) (by decide) (fun _ => ⟨fun z => absurd z one_ne', fun _ => ?_⟩) (fun q => absurd ⟨by omega, by omega⟩ q)
  rw [k_le (-1) (n := -1) (by decide)]
  refine ⟨fun _ => ?_, fun z => absurd ha2 z⟩
  have := key n 1 w0 (by omega) (by omega) (by omega) hc (fun j hj hq => by have := hq.1; omega) (n + 1) (by omega)
  rw [hz] at this
  exact ⟨_, this⟩
theorem cntg_unique {Q : Nat → Prop} {j k : Nat} (hj : Q j) (hk : Q k) (e : cntg Q j = cntg Q k) : j = k := by
  refine Classical.byContradiction (fun hne => ?_)
  rcases (show j < k ∨ k < j by omega) with h | h
  · have := cntg_mono (Q := Q) (show j + 1 ≤ k by omega)
    rw [cntg_yes hj] at this
    omega
  · have := cntg_mono (Q := Q) (show k + 1 ≤ j by omega)
    rw [cntg_yes hk] at this
    omega
theorem op_trinomial {w : Wd} (hI : Inv w) (a0 : Int32) (a1 : Int32) (a2 : Int32) : same1 (cf_T_trinomial a0 a1 a2 w) (cf_M_trinomial a0 a1 a2) := by
  intro G h
  obtain ⟨now, u, past, kb, shelf, hc⟩ := hI
  have hI := core_Inv hc
  unfold cf_T_trinomial
  rw [lt_k 2 (n := 2) (by decide), k_lt 24 (n := 24) (by decide), k_le (-1) (n := -1) (by decide)]
  have no : ¬ (2 ≤ a0.toInt ∧ a0.toInt ≤ 24) → G (-1) w := fun hn => both_stay hI h (fun F hF => by
    unfold cf_M_trinomial
    exact mp_inI (lo := 2) (hi := 24) (by decide) (by decide) (fun q => absurd q hn) (fun _ => ⟨fun _ => hF, fun z => absurd rfl z⟩))
  refine ⟨fun z => no (by omega), fun c1 => ⟨fun z => no (by omega), fun c2 => ⟨fun c3 => ?_, fun c3 => both_stay hI h (fun F hF => ?_)⟩⟩⟩
  · obtain ⟨n, hn, rfl, en⟩ := nat_of (a := a0) (by omega)
    refine ⟨fun c4 => ?_, fun c4 => ?_⟩
    · have hne : a2.toInt ≠ -1 := fun y => c4 (Int32.toInt_inj.mp (by rw [y]; decide))
      obtain ⟨i, hi, rfl, ei⟩ := nat_of (a := a2) (by omega)
      refine sp_triAt (by omega) (by omega) hi (fun w1 k k1 k2 k3 k4 => ⟨fun _ => h _ _ (fun F hF => ?_), fun z => ?_⟩) (fun w1 k1 k2 => ⟨fun z => absurd rfl z, fun _ => h _ _ (fun F hF => ?_)⟩)
      · refine mp_trinomial (core_cls hc (Or.inr rfl) k1) (by omega) (by omega) (by omega) (fun w2 j j1 j2 j3 j4 => ?_) (fun w2 j1 j2 => absurd (by rw [k4]) (j2 k k2 k3))
        have e := (nI_eq hi (by have := cntg_le (Q := goodT a1 n) j; omega)).mp j4
        rw [cntg_unique j3 k3 (by omega)]
        exact hF w2 (core_Inv j1)
      · have := (nI_eq0 (a := k) (by omega)).mp z
        have := k3.1
        omega
      · refine mp_trinomial (core_cls hc (Or.inr rfl) k1) (by omega) (by omega) (by omega) (fun w2 j j1 j2 j3 j4 => ?_) (fun w2 j1 j2 => ⟨fun z => absurd z c4, fun _ => hF w2 (core_Inv j1)⟩)
        have e := (nI_eq hi (by have := cntg_le (Q := goodT a1 n) j; omega)).mp j4
        have := cntg_mono (Q := goodT a1 n) (show j + 1 ≤ n by omega)
        rw [cntg_yes j3] at this
        omega
    · subst c4
      refine sp_countTris (by omega) (by omega) (fun w1 k1 => h _ _ (fun F hF => ?_))
      refine mp_trinomial (core_cls hc (Or.inr rfl) k1) (by omega) (by omega) (by decide) (fun w2 j j1 j2 j3 j4 => ?_) (fun w2 j1 j2 => ⟨fun _ => hF w2 (core_Inv j1), fun z => absurd rfl z⟩)
      exfalso
      have h5 : (nI (cntg (goodT a1 n) j)).toInt = (cntg (goodT a1 n) j : Int) := nI_toInt (by have := cntg_le (Q := goodT a1 n) j; omega)
      rw [← j4] at h5
      have h6 : (-1 : Int32).toInt = -1 := by decide
      omega
  · unfold cf_M_trinomial
    rw [k_le (-1) (n := -1) (by decide)]
    exact mp_inI (lo := 2) (hi := 24) (by decide) (by decide) (fun _ => ⟨fun z => absurd z one_ne', fun _ => ⟨fun z => absurd z c3, fun _ => hF⟩⟩) (fun q => absurd ⟨by omega, by omega⟩ q)
/-- the least degree from n on without one -/
def bareAt (n t : Nat) : Prop := n ≤ t ∧ t ≤ 24 ∧ cntg (goodT 0 t) t = 0 ∧ ∀ s, n ≤ s → s < t → cntg (goodT 0 s) s ≠ 0
theorem sp_bare {w0 : Wd} {now : Nat → Int64} {u : Nat} {past : Nat → Nat → Int64} {kb : Nat → Bool} {shelf : Nat → Nat → Int64} (hc : core w0 now u past kb shelf) {n0 : Nat} (h2 : 2 ≤ n0) (h24 : n0 ≤ 24) {P : Int32 → Wd → Prop}
    (h1 : ∀ w' t, core w' now u past kb shelf → bareAt n0 t → P (nI t) w') (h0 : ∀ w', core w' now u past kb shelf → (∀ s, n0 ≤ s → s ≤ 24 → cntg (goodT 0 s) s ≠ 0) → P (-2) w') : ∃ n, cf_T_bare_L15 P n (nI n0) w0 := by
  have key : ∀ m n w1, n + m = 25 → n0 ≤ n → core w1 now u past kb shelf → (∀ s, n0 ≤ s → s < n → cntg (goodT 0 s) s ≠ 0) → ∀ n', m < n' → cf_T_bare_L15 P n' (nI n) w1 := by
    intro m
    induction m with
    | zero =>
      intro n w1 hn hn0 hc1 hs n' hn'
      obtain ⟨n', rfl⟩ : ∃ m, n' = m + 1 := ⟨n' - 1, by omega⟩
      show cf_T_bare_B15 _ _ _ _
      unfold cf_T_bare_B15
      exact ⟨fun _ => h0 w1 hc1 (fun s a b => hs s a (by omega)), fun z => absurd ((nI_ltI (show 24 < 2 ^ 31 by decide) (by omega)).mpr (by omega)) z⟩
    | succ m ih =>
      intro n w1 hn hn0 hc1 hs n' hn'
      obtain ⟨n', rfl⟩ : ∃ m, n' = m + 1 := ⟨n' - 1, by omega⟩
      show cf_T_bare_B15 _ _ _ _
      unfold cf_T_bare_B15
      refine ⟨fun z => absurd ((nI_ltI (show 24 < 2 ^ 31 by decide) (by omega)).mp z) (by omega), fun _ => ?_⟩
      refine sp_triAt (n := n) (i := 0) (by omega) (by omega) (by omega) (fun w2 k k1 k2 k3 k4 => ⟨fun _ => ?_, fun z => ?_⟩) (fun w2 k1 k2 => ⟨fun z => absurd rfl z, fun _ => h1 w2 n (core_cls hc1 (Or.inr rfl) k1) ⟨hn0, by omega, by omega, hs⟩⟩)
      · rintro _ rfl
        rw [nI_1]
        refine ih (n + 1) w2 (by omega) (by omega) (core_cls hc1 (Or.inr rfl) k1) (fun s a b => ?_) n' (by omega)
        by_cases e : s = n
        · rw [e]
          have := cntg_mono (Q := goodT 0 n) (show k + 1 ≤ n by omega)
          rw [cntg_yes k3] at this
          omega
        · exact hs s a (by omega)
      · have := (nI_eq0 (a := k) (by omega)).mp z
        have := k3.1
        omega
  exact ⟨_, key (25 - n0) n0 w0 (by omega) (Nat.le_refl _) hc (fun s a b => absurd a (by omega)) (26 - n0) (by omega)⟩
theorem mp_bare {w0 : Wd} {now : Nat → Int64} {u : Nat} {past : Nat → Nat → Int64} {kb : Nat → Bool} {shelf : Nat → Nat → Int64} (hc : core w0 now u past kb shelf) {n0 : Nat} (h2 : 2 ≤ n0) (h24 : n0 ≤ 24) {P : Int32 → Wd → Prop}
    (h1 : ∀ w' t, core w' now u past kb shelf → bareAt n0 t → P (nI t) w') (h0 : ∀ w', core w' now u past kb shelf → (∀ s, n0 ≤ s → s ≤ 24 → cntg (goodT 0 s) s ≠ 0) → P (-2) w') : ∃ n, cf_M_bare_L18 P n (nI n0) w0 := by
  have key : ∀ m n w1, n + m = 25 → n0 ≤ n → core w1 now u past kb shelf → (∀ s, n0 ≤ s → s < n → cntg (goodT 0 s) s ≠ 0) → ∀ n', m < n' → cf_M_bare_L18 P n' (nI n) w1 := by
    intro m
    induction m with
    | zero =>
      intro n w1 hn hn0 hc1 hs n' hn'
      obtain ⟨n', rfl⟩ : ∃ m, n' = m + 1 := ⟨n' - 1, by omega⟩
      show cf_M_bare_B18 _ _ _ _
      unfold cf_M_bare_B18
      exact ⟨fun _ => h0 w1 hc1 (fun s a b => hs s a (by omega)), fun z => absurd ((nI_ltI (show 24 < 2 ^ 31 by decide) (by omega)).mpr (by omega)) z⟩
    | succ m ih =>
      intro n w1 hn hn0 hc1 hs n' hn'
      obtain ⟨n', rfl⟩ : ∃ m, n' = m + 1 := ⟨n' - 1, by omega⟩
      show cf_M_bare_B18 _ _ _ _
      unfold cf_M_bare_B18
      refine ⟨fun z => absurd ((nI_ltI (show 24 < 2 ^ 31 by decide) (by omega)).mp z) (by omega), fun _ => ?_⟩
      have hb := cntg_le (Q := goodT 0 n) n
      refine mp_trinomial hc1 (by omega) (by omega) (by decide) (fun w2 k k1 k2 k3 k4 => ?_) (fun w2 k1 k2 => ⟨fun _ => ?_, fun z => absurd rfl z⟩)
      · exfalso
        have h5 : (nI (cntg (goodT 0 n) k)).toInt = (cntg (goodT 0 n) k : Int) := nI_toInt (by have := cntg_le (Q := goodT 0 n) k; omega)
        rw [← k4] at h5
        have h6 : (-1 : Int32).toInt = -1 := by decide
        omega
      · rw [nI_eq0 (by omega)]
        refine ⟨fun z => ?_, fun z => h1 w2 n k1 ⟨hn0, by omega, z, hs⟩⟩
        rintro _ rfl
        rw [nI_1]
        refine ih (n + 1) w2 (by omega) (by omega) k1 (fun s a b => ?_) n' (by omega)
        by_cases e : s = n
        · rw [e]; exact z
        · exact hs s a (by omega)
  exact ⟨_, key (25 - n0) n0 w0 (by omega) (Nat.le_refl _) hc (fun s a b => absurd a (by omega)) (26 - n0) (by omega)⟩
theorem op_bare {w : Wd} (hI : Inv w) (a0 : Int32) : same1 (cf_T_bare a0 w) (cf_M_bare a0) := by
  intro G h
  obtain ⟨now, u, past, kb, shelf, hc⟩ := hI
  have hI := core_Inv hc
  unfold cf_T_bare
  rw [lt_k 2 (n := 2) (by decide), le_k 24 (n := 24) (by decide)]
  have no : ¬ (2 ≤ a0.toInt ∧ a0.toInt ≤ 24) → G (-1) w := fun hn => both_stay hI h (fun F hF => by
    unfold cf_M_bare
    exact mp_inI (lo := 2) (hi := 24) (by decide) (by decide) (fun q => absurd q hn) (fun _ => ⟨fun z => absurd rfl z, fun _ => hF⟩))
  refine ⟨fun z => no (by omega), fun c1 => ⟨fun c2 => ?_, fun z => no (by omega)⟩⟩
  obtain ⟨n, hn, rfl, en⟩ := nat_of (a := a0) (by omega)
  have inn : ∀ (F : Int32 → Wd → Prop) (w1 : Wd), (∃ n', cf_M_bare_L18 F n' (nI n) w1) → cf_M_bare (nI n) w1 F := by
    intro F w1 hF
    unfold cf_M_bare
    exact mp_inI (lo := 2) (hi := 24) (by decide) (by decide) (fun _ => ⟨fun _ => hF, fun z => absurd z one_ne'⟩) (fun q => absurd ⟨by omega, by omega⟩ q)
  refine sp_bare hc (by omega) (by omega) (fun w1 t k1 k2 => h _ _ (fun F hF => inn F w1 (mp_bare k1 (by omega) (by omega) (fun w2 t' j1 j2 => ?_) (fun w2 j1 j2 => absurd k2.2.2.1 (j2 t k2.1 k2.2.1))))) (fun w1 k1 k2 => h _ _ (fun F hF => inn F w1 (mp_bare k1 (by omega) (by omega) (fun w2 t' j1 j2 => absurd j2.2.2.1 (k2 t' j2.1 j2.2.1)) (fun w2 j1 j2 => hF w2 (core_Inv j1)))))
  have : t' = t := by
    refine Classical.byContradiction (fun hne => ?_)
    rcases (show t' < t ∨ t < t' by omega) with c | c
    · exact k2.2.2.2 t' j2.1 c j2.2.2.1
    · exact j2.2.2.2 t k2.1 c k2.2.2.1
  rw [this]
  exact hF w2 (core_Inv j1)
/-- the least good one above a -/
def nextAt (pr : Int32) (a f : Nat) : Prop := a < f ∧ f < 2 ^ 21 ∧ good (¬ pr = 0) f ∧ ∀ e, a < e → e < f → ¬ good (¬ pr = 0) e
theorem good2 {pr : Prop} {a : Nat} (h : good pr a) : 2 ≤ a := h.1.1
theorem sp_nextAbove {a : Nat} {pr : Int32} {w0 : Wd} {P : Int64 → Wd → Prop} (ha : a < 2 ^ 32) (h1 : ∀ w' f, fr [(21, 1)] [] [22] w0 w' → nextAt pr a f → P (lN f) w') (h0 : ∀ w', fr [(21, 1)] [] [22] w0 w' → (∀ e, a < e → e < 2 ^ 21 → ¬ good (¬ pr = 0) e) → P 0 w') : cf_Families_nextAbove (lN a) pr w0 P := by
  have key : ∀ m f w, (2 ^ 21 ≤ f + m) → a < f → f < 2 ^ 33 → fr [(21, 1)] [] [22] w0 w → (∀ e, a < e → e < f → ¬ good (¬ pr = 0) e) → ∀ n', m < n' → cf_Families_nextAbove_L5 P n' pr (lN f) w := by
    intro m
    have stop : ∀ f w, 2 ^ 21 ≤ f → f < 2 ^ 33 → fr [(21, 1)] [] [22] w0 w → (∀ e, a < e → e < f → ¬ good (¬ pr = 0) e) → ∀ n', 0 < n' → cf_Families_nextAbove_L5 P n' pr (lN f) w := by
      intro f w hf hf2 hfr hs n' hn'
      obtain ⟨n', rfl⟩ : ∃ m, n' = m + 1 := ⟨n' - 1, by omega⟩
      show cf_Families_nextAbove_B5 _ _ _ _ _
      unfold cf_Families_nextAbove_B5
      exact ⟨fun _ => h0 w hfr (fun e x y => hs e x (by omega)), fun z => absurd ((lN_leI (a := 2097152) (b := f) (by decide) (by omega)).mpr (by omega)) z⟩
    induction m with
    | zero => intro f w hm haf hf2 hf hs n' hn'; exact stop f w (by omega) hf2 hf hs n' (by omega)
    | succ m ih =>
      intro f w hm haf hf2 hf hs n' hn'
      by_cases hb : 2 ^ 21 ≤ f
      · exact stop f w hb hf2 hf hs n' (by omega)
      obtain ⟨n', rfl⟩ : ∃ m, n' = m + 1 := ⟨n' - 1, by omega⟩
      show cf_Families_nextAbove_B5 _ _ _ _ _
      unfold cf_Families_nextAbove_B5
      refine ⟨fun z => absurd ((lN_leI (a := 2097152) (b := f) (by decide) (by omega)).mp z) (by omega), fun _ => ?_⟩
      refine sp_isSought (by omega) (fun w' k1 g => ⟨fun z => absurd z one_ne', fun _ => h1 w' f (fr_trans hf k1) ⟨haf, by omega, g, hs⟩⟩) (fun w' k1 g => ⟨fun _ => ?_, fun z => absurd rfl z⟩)
      rintro _ rfl
      rw [lN_succ]
      refine ih (f + 1) w' (by omega) (by omega) (by omega) (fr_trans hf k1) (fun e x y => ?_) n' (by omega)
      by_cases c : e = f
      · rw [c]; exact g
      · exact hs e x (by omega)
  unfold cf_Families_nextAbove
  rintro _ rfl
  rw [lN_succ]
  exact ⟨2 ^ 21 + 1, key (2 ^ 21) (a + 1) w0 (by omega) (by omega) (by omega) (fr_refl _ _ _ _) (fun e x y => absurd x (by omega)) _ (by omega)⟩
theorem mp_nextLoop {w0 : Wd} {now : Nat → Int64} {u : Nat} {past : Nat → Nat → Int64} {kb : Nat → Bool} {shelf : Nat → Nat → Int64} (hc : core w0 now u past kb shelf) {a : Nat} {pr : Int32} {P : Int64 → Wd → Prop} (ha : a < 2 ^ 32) (h1 : ∀ w' f, core w' now u past kb shelf → nextAt pr a f → P (lN f) w') (h0 : ∀ w', core w' now u past kb shelf → (∀ e, a < e → e < 2 ^ 21 → ¬ good (¬ pr = 0) e) → P (-2) w') : ∃ n, cf_M_next_L20 P n pr (lN (a + 1)) w0 := by
  have key : ∀ m f w, (2 ^ 21 ≤ f + m) → a < f → f < 2 ^ 33 → core w now u past kb shelf → (∀ e, a < e → e < f → ¬ good (¬ pr = 0) e) → ∀ n', m < n' → cf_M_next_L20 P n' pr (lN f) w := by
    intro m
    have stop : ∀ f w, 2 ^ 21 ≤ f → f < 2 ^ 33 → core w now u past kb shelf → (∀ e, a < e → e < f → ¬ good (¬ pr = 0) e) → ∀ n', 0 < n' → cf_M_next_L20 P n' pr (lN f) w := by
      intro f w hf hf2 hfr hs n' hn'
      obtain ⟨n', rfl⟩ : ∃ m, n' = m + 1 := ⟨n' - 1, by omega⟩
      show cf_M_next_B20 _ _ _ _ _
      unfold cf_M_next_B20
      have h3 := (le_dg (show f ≠ 0 by omega)).mpr hf
      have h4 := (dg_lt (show f ≠ 0 by omega)).mpr hf2
      refine mp_degree (by omega) ?_
      rw [dI_pos (by omega)]
      exact ⟨fun _ => h0 w hfr (fun e x y => hs e x (by omega)), fun z => absurd ((nI_ltI (show 20 < 2 ^ 31 by decide) (by omega)).mpr (by omega)) z⟩
    induction m with
    | zero => intro f w hm haf hf2 hf hs n' hn'; exact stop f w (by omega) hf2 hf hs n' (by omega)
    | succ m ih =>
      intro f w hm haf hf2 hf hs n' hn'
      by_cases hb : 2 ^ 21 ≤ f
      · exact stop f w hb hf2 hf hs n' (by omega)
      obtain ⟨n', rfl⟩ : ∃ m, n' = m + 1 := ⟨n' - 1, by omega⟩
      show cf_M_next_B20 _ _ _ _ _
      unfold cf_M_next_B20
      have h4 := (dg_lt (n := 21) (show f ≠ 0 by omega)).mpr (by omega)
      refine mp_degree (by omega) ?_
      rw [dI_pos (by omega)]
      have next : ∀ w', core w' now u past kb shelf → ¬ good (¬ pr = 0) f → ∀ v, v = lN f + (1 : Int64) → cf_M_next_L20 P n' pr v w' := by
        rintro w' hc' hg _ rfl
        rw [lN_succ]
        refine ih (f + 1) w' (by omega) (by omega) (by omega) hc' (fun e x y => ?_) n' (by omega)
        by_cases c : e = f
        · rw [c]; exact hg
        · exact hs e x (by omega)
      refine ⟨fun z => absurd ((nI_ltI (show 20 < 2 ^ 31 by decide) (by omega)).mp z) (by omega), fun _ => ⟨fun z => next w hf (fun g => ?_), fun z => ?_⟩⟩
      · have := (lN_leI (a := f) (b := 1) (by omega) (by decide)).mp z
        have := good2 g
        omega
      · exact mp_isGood hf (by omega) (fun w' k1 k2 g => ⟨fun z => absurd z one_ne', fun _ => h1 w' f k2 ⟨haf, by omega, g, hs⟩⟩) (fun w' k1 k2 g => ⟨fun _ => next w' k2 g, fun z => absurd rfl z⟩)
  exact ⟨_, key (2 ^ 21) (a + 1) w0 (by omega) (by omega) (by omega) hc (fun e x y => absurd x (by omega)) (2 ^ 21 + 1) (by omega)⟩
theorem op_next {w : Wd} (hI : Inv w) (a0 : Int32) (a1 : Int32) : same1 (cf_T_next a0 a1 w) (cf_M_next a0 a1) := by
  intro G h
  obtain ⟨now, u, past, kb, shelf, hc⟩ := hI
  have hI := core_Inv hc
  unfold cf_T_next
  refine sp_isPlace (fun ha => ⟨fun _ => ?_, fun z => absurd z one_ne'⟩) (fun hno => ⟨fun z => absurd rfl z, fun _ => both_stay hI h (fun F hF => ?_)⟩)
  · obtain ⟨k, hk, rfl⟩ := ha
    obtain ⟨a, ha, e0, e1, e2⟩ := core_poly hc hk
    refine sp_polyAt hk ?_
    rw [e1]
    have inn : ∀ (F : Int64 → Wd → Prop) (w1 : Wd), core w1 now u past kb shelf → (∃ n', cf_M_next_L20 F n' a1 (lN (a + 1)) w1) → cf_M_next (nI k) a1 w1 F := by
      intro F w1 hc1 hF
      unfold cf_M_next
      refine mp_isPlace (fun _ => ⟨fun _ => ⟨vp_in_nI (by omega) (by omega), ?_⟩, fun z => absurd z one_ne'⟩) (fun z => absurd ⟨k, hk, rfl⟩ z)
      rw [nI_clamp (by omega), (core_poly' hc1 hk e0).2, lN_succ]
      rintro _ rfl
      exact hF
    refine sp_nextAbove ha (fun w1 f k1 k2 => ⟨fun _ => h _ _ (fun F hF => inn F w1 (core_cls hc (Or.inr rfl) k1) (mp_nextLoop (core_cls hc (Or.inr rfl) k1) ha (fun w2 f' j1 j2 => ?_) (fun w2 j1 j2 => absurd k2.2.2.1 (j2 f k2.1 k2.2.1)))), fun z => ?_⟩) (fun w1 k1 k2 => ⟨fun z => absurd rfl z, fun _ => h _ _ (fun F hF => inn F w1 (core_cls hc (Or.inr rfl) k1) (mp_nextLoop (core_cls hc (Or.inr rfl) k1) ha (fun w2 f' j1 j2 => absurd j2.2.2.1 (k2 f' j2.1 j2.2.1)) (fun w2 j1 j2 => hF w2 (core_Inv j1))))⟩)
    · have : f' = f := by
        refine Classical.byContradiction (fun hne => ?_)
        rcases (show f' < f ∨ f < f' by omega) with c | c
        · exact k2.2.2.2 f' j2.1 c j2.2.2.1
        · exact j2.2.2.2 f k2.1 c k2.2.2.1
      rw [this]
      exact hF w2 (core_Inv j1)
    · have h3 := k2.2.1
      have := (lN_eq0 (a := f) (by omega)).mp z
      have := k2.1
      omega
  · unfold cf_M_next
    exact mp_isPlace (fun z => absurd z hno) (fun _ => ⟨fun z => absurd rfl z, fun _ => hF⟩)
