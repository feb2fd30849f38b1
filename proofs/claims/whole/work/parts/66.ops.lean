-- kept on a shelf, brought back
def setK (kb : Nat → Bool) (a : Nat) : Nat → Bool := fun k => if k = a then true else kb k
def setS (shelf : Nat → Nat → Int64) (a : Nat) (r : Nat → Int64) : Nat → Nat → Int64 := fun k => if k = a then r else shelf k
theorem kb_or : ∀ (p q : Bool) (a : Nat), a < 2 → nI (p.toNat + 2 * q.toNat) ||| ishl (1 : Int32) (nI a) = nI ((if 0 = a then true else p).toNat + 2 * (if 1 = a then true else q).toNat) := by
  intro p q a ha
  rcases (show a = 0 ∨ a = 1 by omega) with rfl | rfl <;> cases p <;> cases q <;> decide +kernel
theorem kb_bit : ∀ (p q : Bool) (a : Nat), a < 2 → (ishr (nI (p.toNat + 2 * q.toNat)) (nI a) &&& (1 : Int32) = 0 ↔ (if a = 0 then p else q) = false) := by
  intro p q a ha
  rcases (show a = 0 ∨ a = 1 by omega) with rfl | rfl <;> cases p <;> cases q <;> decide +kernel
theorem sp_isShelf {a : Int32} {P : Int32 → Prop} (h1 : ∀ k, k < 2 → a = nI k → P 1) (h0 : ¬ (0 ≤ a.toInt ∧ a.toInt ≤ 1) → P 0) : cf_Store_isShelf a P := by
  unfold cf_Store_isShelf
  rw [Int32.lt_iff_toInt_lt, Int32.le_iff_toInt_le]
  show (a.toInt < 0 → _) ∧ (¬ a.toInt < 0 → ((2 : Int) ≤ a.toInt → _) ∧ (¬ (2 : Int) ≤ a.toInt → _))
  exact ⟨fun c => h0 (by omega), fun c => ⟨fun c2 => h0 (by omega), fun c2 => h1 a.toInt.toNat (by omega) (nI_ofI (by omega))⟩⟩
theorem mp_inS {a : Int32} {P : Int32 → Prop} (h1 : 0 ≤ a.toInt ∧ a.toInt ≤ 1 → P 1) (h0 : ¬ (0 ≤ a.toInt ∧ a.toInt ≤ 1) → P 0) : cf_M_in a.toInt64 (0 : Int64) (1 : Int64) P := mp_inI rfl rfl h1 h0
theorem nI_sh {k : Nat} (hk : k < 2) : 0 ≤ (nI k).toInt ∧ (nI k).toInt ≤ 1 := by rw [nI_toInt (by omega)]; omega
theorem mp_keepL {w : Wd} {a : Nat} {P : Int32 → Wd → Prop} (ha : a < 2)
    (h : ∀ w' : Wd, (∀ k, w'.2 33 k = if 14 * a ≤ k ∧ k < 14 * a + 14 then w.2 31 (k - 14 * a) else w.2 33 k) → (∀ c i, w'.1 c i = if c = 34 ∧ i = a then 1 else w.1 c i) → (∀ c, c ≠ 33 → w'.2 c = w.2 c) → P 1 w') :
    ∀ n, 15 ≤ n → cf_M_keep_L14 P n (nI a) 0 w := by
  have key : ∀ m i (wc : Wd), i + m = 14 → wc.1 = w.1 → (∀ c, c ≠ 33 → wc.2 c = w.2 c) → (∀ k, wc.2 33 k = if 14 * a ≤ k ∧ k < 14 * a + i then w.2 31 (k - 14 * a) else w.2 33 k) → ∀ n, m < n → cf_M_keep_L14 P n (nI a) (nI i) wc := by
    intro m
    induction m with
    | zero =>
      intro i wc hi e1 e2 e3 n hn
      obtain ⟨n, rfl⟩ : ∃ m, n = m + 1 := ⟨n - 1, by omega⟩
      show cf_M_keep_B14 _ _ _ _ _
      unfold cf_M_keep_B14
      have hi : i = 14 := by omega
      subst hi
      refine ⟨fun _ => ⟨vp_in_nI (by omega) (by omega), ?_⟩, fun c => absurd ((nI_leI (show 14 < 2 ^ 31 by decide) (by decide)).mpr (Nat.le_refl _)) c⟩
      rw [nI_clamp (by omega)]
      rintro _ rfl
      refine h _ (fun k => ?_) (fun c i => ?_) (fun c hc => ?_)
      · rw [wI_2]; exact e3 k
      · rw [wI_1, e1]; rfl
      · rw [wI_2]; exact e2 c hc
    | succ m ih =>
      intro i wc hi e1 e2 e3 n hn
      obtain ⟨n, rfl⟩ : ∃ m, n = m + 1 := ⟨n - 1, by omega⟩
      show cf_M_keep_B14 _ _ _ _ _
      unfold cf_M_keep_B14
      refine ⟨fun c => ?_, fun _ => ?_⟩
      · have := (nI_leI (show 14 < 2 ^ 31 by decide) (show i < 2 ^ 31 by omega)).mp c
        omega
      · have e4 : (14 : Int32) * nI a = nI (14 * a) := nI_mul 14 a
        rw [e4, nI_add, nI_clamp (by omega), nI_clamp (by omega), nI_1]
        refine ⟨vp_in_nI (by omega) (by omega), vp_in_nI (by omega) (by omega), ?_⟩
        rintro _ rfl _ rfl
        refine ih (i + 1) _ (by omega) ?_ ?_ ?_ n (by omega)
        · rw [wL_1]; exact e1
        · intro c hc
          rw [← e2 c hc]
          funext j
          rw [wL_2, if_neg (fun z => hc z.1)]
        · intro k
          rw [wL_2, e3 k, e2 31 (by decide)]
          by_cases hk : k = 14 * a + i
          · subst hk
            rw [if_pos ⟨rfl, rfl⟩, if_pos (by omega)]
            have e5 : 14 * a + i - 14 * a = i := by omega
            rw [e5]
          · rw [if_neg (fun z => hk z.2)]
            by_cases h2 : 14 * a ≤ k ∧ k < 14 * a + i
            · rw [if_pos h2, if_pos (by omega)]
            · rw [if_neg h2, if_neg (by omega)]
  intro n hn
  refine key 14 0 w (by omega) rfl (fun _ _ => rfl) (fun k => ?_) n (by omega)
  rw [if_neg (by omega)]
theorem op_keep {w : Wd} (hI : Inv w) (a : Int32) : same1 (cf_T_keep a w) (cf_M_keep a) := by
  intro G h
  obtain ⟨now, u, past, kb, shelf, hc⟩ := hI
  have hI : Inv w := ⟨now, u, past, kb, shelf, hc⟩
  obtain ⟨hic, him, hn, hp, hs, hr⟩ := hc
  obtain ⟨h1, h2, h3, ⟨s, hs10, h4, h5⟩, h6, h7⟩ := hic
  unfold cf_T_keep cf_Store_keepOn
  refine sp_isShelf (fun k hk ek => ⟨fun _ => ?_, fun z => absurd z one_ne'⟩) (fun hno => ⟨fun z => absurd rfl z, fun _ => ⟨fun _ => both_stay hI h (fun F hF => ?_), fun z => absurd rfl z⟩⟩)
  · subst ek
    refine sp_copyRow (x := 0) (y := k) (by omega) (by omega) (by omega) (by omega) ?_
    rintro _ rfl
    rw [wR_1, h6, kb_or _ _ k hk]
    refine ⟨fun z => absurd z one_ne', fun _ => ?_⟩
    generalize hw1 : wI _ 6 5 _ = w1
    have fr1 : fr [(6, 5)] [] [9] w w1 := by
      rw [← hw1]
      exact fr_wI _ (fr_wR _ (fr_refl _ _ _ _) (by decide)) (by decide)
    have ic1 : ic w1 now u past (setK kb k) (setS shelf k now) := by
      rw [← hw1]
      refine ⟨?_, h2, ?_, ⟨s, hs10, ?_, ?_⟩, ?_, ?_⟩
      · intro i hi
        rw [wI_2, wR_2, if_neg (by decide)]
        exact h1 i hi
      · rw [wI_1, if_neg (by decide)]; exact h3
      · rw [wI_1, if_neg (by decide)]; exact h4
      · intro j hj i hi
        rw [wI_2, wR_2, if_neg (by decide)]
        exact h5 j hj i hi
      · rw [wI_1, if_pos ⟨rfl, rfl⟩]
        rfl
      · intro j hj hkb i hi
        rw [wI_2, wR_2, if_pos rfl]
        unfold va_cpy
        unfold setK at hkb
        unfold setS
        by_cases hjk : j = k
        · subst hjk
          rw [if_pos rfl, if_pos (by omega)]
          have e5 : 0 * 13 + (j * 13 + i - j * 13) = i := by omega
          rw [e5]
          exact h1 i hi
        · rw [if_neg hjk] at hkb ⊢
          rw [if_neg (by omega)]
          exact h7 j hj hkb i hi
    have im1 := im_fr him fr1 (by decide) (by decide) (by decide)
    refine h _ w1 (fun F hF => ?_)
    obtain ⟨n1, n2, n3, n4, n5, n6⟩ := im1
    unfold cf_M_keep
    refine mp_inS (fun _ => ⟨fun _ => ?_, fun z => absurd z one_ne'⟩) (fun z => absurd (nI_sh hk) z)
    refine ⟨15, mp_keepL hk (fun w2 g1 g2 g3 => hF w2 ?_) 15 (by omega)⟩
    have fr2 : fr [(34, k)] [] [33] w1 w2 := by
      refine ⟨fun c i hci _ => ?_, fun c hc => ?_⟩
      · rw [g2, if_neg (fun z => hci (by rw [z.1, z.2]; simp))]
      · rw [g3 c (fun z => hc (by rw [z]; decide))]
    refine ⟨now, u, past, setK kb k, setS shelf k now, ic_fr ic1 fr2 (by simp) (by decide) (by decide), ⟨?_, n2, ?_, ?_, ?_, ?_⟩, hn, hp, ?_, rest_fr (rest_fr hr fr1 (by simp) rfl (by simp)) fr2 (by simp) rfl (by simp)⟩
    · intro i hi
      rw [g3 31 (by decide)]
      exact n1 i hi
    · rw [g2, if_neg (fun z => absurd z.1 (by decide))]; exact n3
    · intro j hj i hi
      rw [g3 32 (by decide)]
      exact n4 j hj i hi
    · intro j hj
      rw [g2]
      unfold setK
      by_cases hjk : j = k
      · rw [if_pos ⟨rfl, hjk⟩, if_pos hjk]; rfl
      · rw [if_neg (fun z => hjk z.2), if_neg hjk]
        exact n5 j hj
    · intro j hj hkb i hi
      unfold setK at hkb
      unfold setS
      rw [g1]
      by_cases hjk : j = k
      · subst hjk
        rw [if_pos rfl, if_pos (by omega)]
        have e5 : j * 14 + i - 14 * j = i := by omega
        rw [e5]
        exact n1 i hi
      · rw [if_neg hjk] at hkb ⊢
        rw [if_neg (by omega)]
        exact n6 j hj hkb i hi
    · intro j
      unfold setS
      by_cases hjk : j = k
      · rw [if_pos hjk]; exact hn
      · rw [if_neg hjk]; exact hs j
  · unfold cf_M_keep
    exact mp_inS (fun z => absurd z hno) (fun _ => ⟨fun z => absurd rfl z, fun _ => hF⟩)
theorem mp_backL {w : Wd} {a : Nat} {P : Int32 → Wd → Prop} (ha : a < 2)
    (h : ∀ w' : Wd, (∀ i, i < 14 → w'.2 31 i = w.2 33 (a * 14 + i)) → (∀ c i, w'.1 c i = if c = 30 ∧ i = 2 then 0 else w.1 c i) → (∀ c, c ≠ 31 → w'.2 c = w.2 c) → P 1 w') :
    ∀ n, 15 ≤ n → cf_M_back_L26 P n (nI a) 0 w := by
  have key : ∀ m i (wc : Wd), i + m = 14 → wc.1 = w.1 → (∀ c, c ≠ 31 → wc.2 c = w.2 c) → (∀ k, k < i → wc.2 31 k = w.2 33 (a * 14 + k)) → ∀ n, m < n → cf_M_back_L26 P n (nI a) (nI i) wc := by
    intro m
    induction m with
    | zero =>
      intro i wc hi e1 e2 e3 n hn
      obtain ⟨n, rfl⟩ : ∃ m, n = m + 1 := ⟨n - 1, by omega⟩
      show cf_M_back_B26 _ _ _ _ _
      unfold cf_M_back_B26
      have hi : i = 14 := by omega
      subst hi
      refine ⟨fun _ => ?_, fun c => absurd ((nI_leI (show 14 < 2 ^ 31 by decide) (by decide)).mpr (Nat.le_refl _)) c⟩
      rintro _ rfl
      refine h _ (fun k hk => ?_) (fun c i => ?_) (fun c hc => ?_)
      · rw [wI_2]; exact e3 k hk
      · rw [wI_1, e1]
      · rw [wI_2]; exact e2 c hc
    | succ m ih =>
      intro i wc hi e1 e2 e3 n hn
      obtain ⟨n, rfl⟩ : ∃ m, n = m + 1 := ⟨n - 1, by omega⟩
      show cf_M_back_B26 _ _ _ _ _
      unfold cf_M_back_B26
      refine ⟨fun c => ?_, fun _ => ?_⟩
      · have := (nI_leI (show 14 < 2 ^ 31 by decide) (show i < 2 ^ 31 by omega)).mp c
        omega
      · have e4 : (14 : Int32) * nI a = nI (14 * a) := nI_mul 14 a
        rw [e4, nI_add, nI_clamp (by omega), nI_clamp (by omega), nI_1]
        refine ⟨vp_in_nI (by omega) (by omega), vp_in_nI (by omega) (by omega), ?_⟩
        rintro _ rfl _ rfl
        refine ih (i + 1) _ (by omega) ?_ ?_ ?_ n (by omega)
        · rw [wL_1]; exact e1
        · intro c hc
          rw [← e2 c hc]
          funext j
          rw [wL_2, if_neg (fun z => hc z.1)]
        · intro k hk
          rw [wL_2]
          by_cases hki : k = i
          · subst hki
            rw [if_pos ⟨rfl, rfl⟩, e2 33 (by decide), Nat.mul_comm 14]
          · rw [if_neg (fun z => hki z.2)]
            exact e3 k (by omega)
  intro n hn
  exact key 14 0 w (by omega) rfl (fun _ _ => rfl) (fun k hk => absurd hk (by omega)) n (by omega)
theorem op_back {w : Wd} (hI : Inv w) (a : Int32) : same1 (cf_T_back a w) (cf_M_back a) := by
  intro G h
  obtain ⟨now, u, past, kb, shelf, hc⟩ := hI
  have hI : Inv w := ⟨now, u, past, kb, shelf, hc⟩
  obtain ⟨hic, him, hn, hp, hs, hr⟩ := hc
  obtain ⟨h1, h2, h3, ⟨s, hs10, h4, h5⟩, h6, h7⟩ := hic
  have hkk : ∀ k, k < 2 → (if k = 0 then kb 0 else kb 1) = kb k := by
    intro k hk
    rcases (show k = 0 ∨ k = 1 by omega) with rfl | rfl <;> rfl
  unfold cf_T_back
  refine sp_isShelf (fun k hk ek => ⟨fun _ => ?_, fun z => absurd z one_ne'⟩) (fun hno => ⟨fun z => absurd rfl z, fun _ => both_stay hI h (fun F hF => ?_)⟩)
  · subst ek
    unfold cf_Store_takeFrom
    refine sp_isShelf (fun k2 hk2 ek2 => ⟨fun z => absurd z one_ne', fun _ => ?_⟩) (fun hno => absurd (nI_sh hk) hno)
    rw [h6, kb_bit _ _ k hk, hkk k hk]
    refine ⟨fun c => ?_, fun c => ⟨fun _ => both_stay hI h (fun F hF => ?_), fun z => absurd rfl z⟩⟩
    · have hkb : kb k = true := by rw [Bool.not_eq_false] at c; exact c
      refine sp_copyRow (x := k) (y := 0) (by omega) (by omega) (by omega) (by omega) ?_
      rintro _ rfl
      refine ⟨fun z => absurd z one_ne', fun _ => ?_⟩
      generalize hw1 : wI _ 6 3 _ = w1
      have fr1 : fr [(6, 3)] [] [7] w w1 := by
        rw [← hw1]
        exact fr_wI _ (fr_wR _ (fr_refl _ _ _ _) (by decide)) (by decide)
      have ic1 : ic w1 (shelf k) 0 past kb shelf := by
        rw [← hw1]
        refine ⟨?_, by omega, ?_, ⟨s, hs10, ?_, fun j hj => absurd hj (by omega)⟩, ?_, ?_⟩
        · intro i hi
          rw [wI_2, wR_2, if_pos rfl]
          unfold va_cpy
          rw [if_pos (by omega)]
          have e5 : k * 13 + (i - 0 * 13) = k * 13 + i := by omega
          rw [e5]
          exact h7 k hk hkb i hi
        · rw [wI_1, if_pos ⟨rfl, rfl⟩]; rfl
        · rw [wI_1, if_neg (by decide)]; exact h4
        · rw [wI_1, if_neg (by decide)]; exact h6
        · intro j hj hkb i hi
          rw [wI_2, wR_2, if_neg (by decide)]
          exact h7 j hj hkb i hi
      have im1 := im_fr him fr1 (by decide) (by decide) (by decide)
      refine h _ w1 (fun F hF => ?_)
      obtain ⟨n1, n2, n3, n4, n5, n6⟩ := im1
      unfold cf_M_back
      refine mp_inS (fun _ => ⟨fun _ => ⟨vp_in_nI (by omega) (by omega), ?_⟩, fun z => absurd z one_ne'⟩) (fun z => absurd (nI_sh hk) z)
      rw [nI_clamp (by omega), n5 k hk, hkb]
      refine ⟨fun _ => ⟨15, mp_backL hk (fun w2 g1 g2 g3 => hF w2 ?_) 15 (by omega)⟩, fun z => absurd z (by decide)⟩
      have fr2 : fr [(30, 2)] [] [31] w1 w2 := by
        refine ⟨fun c i hci _ => ?_, fun c hc => ?_⟩
        · rw [g2, if_neg (fun z => hci (by rw [z.1, z.2]; simp))]
        · rw [g3 c (fun z => hc (by rw [z]; decide))]
      refine ⟨shelf k, 0, past, kb, shelf, ic_fr ic1 fr2 (by simp) (by decide) (by decide), ⟨?_, by omega, ?_, fun j hj => absurd hj (by omega), ?_, ?_⟩, hs k, hp, hs, rest_fr (rest_fr hr fr1 (by simp) rfl (by simp)) fr2 (by simp) rfl (by simp)⟩
      · intro i hi
        rw [g1 i hi]
        exact n6 k hk hkb i hi
      · rw [g2, if_pos ⟨rfl, rfl⟩]; rfl
      · intro j hj
        rw [g2, if_neg (fun z => absurd z.1 (by decide))]
        exact n5 j hj
      · intro j hj hkb i hi
        rw [g3 33 (by decide)]
        exact n6 j hj hkb i hi
    · have hkb : kb k = false := c
      unfold cf_M_back
      refine mp_inS (fun _ => ⟨fun _ => ⟨vp_in_nI (by omega) (by omega), ?_⟩, fun z => absurd z one_ne'⟩) (fun z => absurd (nI_sh hk) z)
      rw [nI_clamp (by omega), him.2.2.2.2.1 k hk, hkb]
      exact ⟨fun z => absurd rfl z, fun _ => hF⟩
  · unfold cf_M_back
    exact mp_inS (fun z => absurd z hno) (fun _ => ⟨fun z => absurd rfl z, fun _ => hF⟩)
