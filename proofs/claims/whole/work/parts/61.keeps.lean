-- the model keeps what was, ere it acts
theorem mp_row52 {w : Wd} {u : Nat} {P : Wd → Prop} (hu : u < 10) (h3 : w.1 30 2 = nI u)
    (h : ∀ w' : Wd, (∀ k, w'.2 32 k = if 14 * u ≤ k ∧ k < 14 * u + 14 then w.2 31 (k - 14 * u) else w.2 32 k) → (∀ c i, w'.1 c i = if c = 30 ∧ i = 2 then nI (u + 1) else w.1 c i) → (∀ c, c ≠ 32 → w'.2 c = w.2 c) → P w') :
    ∀ n, 15 ≤ n → cf_M_keepsAct_L52 P n 0 w := by
  have key : ∀ m i (wc : Wd), i + m = 14 → wc.1 = w.1 → (∀ c, c ≠ 32 → wc.2 c = w.2 c) → (∀ k, wc.2 32 k = if 14 * u ≤ k ∧ k < 14 * u + i then w.2 31 (k - 14 * u) else w.2 32 k) → ∀ n, m < n → cf_M_keepsAct_L52 P n (nI i) wc := by
    intro m
    induction m with
    | zero =>
      intro i wc hi e1 e2 e3 n hn
      obtain ⟨n, rfl⟩ : ∃ m, n = m + 1 := ⟨n - 1, by omega⟩
      show cf_M_keepsAct_B52 _ _ _ _
      unfold cf_M_keepsAct_B52
      have hi : i = 14 := by omega
      subst hi
      refine ⟨fun _ => ?_, fun c => absurd ((nI_leI (show 14 < 2 ^ 31 by decide) (by decide)).mpr (Nat.le_refl _)) c⟩
      rw [e1, h3, nI_1]
      rintro _ rfl
      refine h _ (fun k => ?_) (fun c i => ?_) (fun c hc => ?_)
      · rw [wI_2]; exact e3 k
      · rw [wI_1, e1]
      · rw [wI_2]; exact e2 c hc
    | succ m ih =>
      intro i wc hi e1 e2 e3 n hn
      obtain ⟨n, rfl⟩ : ∃ m, n = m + 1 := ⟨n - 1, by omega⟩
      show cf_M_keepsAct_B52 _ _ _ _
      unfold cf_M_keepsAct_B52
      refine ⟨fun c => ?_, fun _ => ?_⟩
      · have := (nI_leI (show 14 < 2 ^ 31 by decide) (show i < 2 ^ 31 by omega)).mp c
        omega
      · have e4 : (14 : Int32) * nI u = nI (14 * u) := nI_mul 14 u
        rw [e1, h3, e4, nI_add, nI_clamp (by omega), nI_clamp (by omega), nI_1]
        refine ⟨vp_in_nI (by omega) (by omega), vp_in_nI (by omega) (by omega), ?_⟩
        rintro _ rfl _ rfl
        refine ih (i + 1) _ (by omega) ?_ ?_ ?_ n (by omega)
        · rw [wL_1]; exact e1
        · intro c hc
          rw [← e2 c hc]
          funext j
          rw [wL_2, if_neg (fun z => hc z.1)]
        · intro k
          rw [wL_2, e3 k, e2 31 (by decide)]
          by_cases hk : k = 14 * u + i
          · subst hk
            rw [if_pos ⟨rfl, rfl⟩, if_pos (by omega)]
            have e5 : 14 * u + i - 14 * u = i := by omega
            rw [e5]
          · rw [if_neg (fun z => hk z.2)]
            by_cases h2 : 14 * u ≤ k ∧ k < 14 * u + i
            · rw [if_pos h2, if_pos (by omega)]
            · rw [if_neg h2, if_neg (by omega)]
  intro n hn
  refine key 14 0 w (by omega) rfl (fun _ _ => rfl) (fun k => ?_) n (by omega)
  rw [if_neg (by omega)]
theorem mp_keepsAct {w : Wd} {now : Nat → Int64} {u : Nat} {past : Nat → Nat → Int64} {kb : Nat → Bool} {shelf : Nat → Nat → Int64} {P : Wd → Prop}
    (hi : im w now u past kb shelf) (h : ∀ w', im w' now (up u) (push now past) kb shelf → fr [(30, 2)] [] [32] w w' → P w') : cf_M_keepsAct w P := by
  obtain ⟨h1, h2, h3, h4, h5, h6⟩ := hi
  -- the end of both ways
  have last : ∀ (v : Nat) (wc : Wd), v < 10 → up u = v + 1 → wc.1 30 2 = nI v → (∀ c, c ≠ 32 → wc.2 c = w.2 c) → (∀ c i, ¬ (c = 30 ∧ i = 2) → wc.1 c i = w.1 c i) → (∀ j, j < v → ∀ i, i < 14 → wc.2 32 ((v - 1 - j) * 14 + i) = mrow (past j) i) →
      ∀ n, 15 ≤ n → cf_M_keepsAct_L52 P n 0 wc := by
    intro v wc hv hup e1 e2 e3 e4
    refine mp_row52 hv e1 ?_
    intro w' g1 g2 g3
    refine h w' ⟨?_, ?_, ?_, ?_, ?_, ?_⟩ ⟨?_, ?_⟩
    · intro i hi
      rw [g3 31 (by decide), e2 31 (by decide)]
      exact h1 i hi
    · omega
    · rw [g2, if_pos ⟨rfl, rfl⟩, hup]
    · intro j hj i hi
      rw [hup] at hj ⊢
      rw [g1]
      cases j with
      | zero =>
        rw [if_pos (by omega), e2 31 (by decide)]
        have : (v + 1 - 1 - 0) * 14 + i - 14 * v = i := by omega
        rw [this]
        exact h1 i hi
      | succ j =>
        rw [if_neg (by omega)]
        have : v + 1 - 1 - (j + 1) = v - 1 - j := by omega
        rw [this]
        exact e4 j (by omega) i hi
    · intro k hk
      rw [g2, if_neg (fun z => absurd z.1 (by decide)), e3 _ _ (fun z => absurd z.1 (by decide))]
      exact h5 k hk
    · intro k hk hkb i hi
      rw [g3 33 (by decide), e2 33 (by decide)]
      exact h6 k hk hkb i hi
    · intro c i hc _
      have hc : ¬ (c = 30 ∧ i = 2) := fun z => hc (by rw [z.1, z.2]; decide)
      rw [g2, if_neg hc]
      exact e3 c i hc
    · intro c hc
      have hc : c ≠ 32 := fun z => hc (by rw [z]; decide)
      rw [g3 c hc]
      exact e2 c hc
  unfold cf_M_keepsAct
  rw [h3]
  refine ⟨fun c => ?_, fun c => ?_⟩
  · have hu : u ≠ 10 := fun z => c (by rw [z]; rfl)
    exact ⟨15, last u w (by omega) (by unfold up; rw [if_pos (by omega)]) h3 (fun _ _ => rfl) (fun _ _ _ => rfl) h4 15 (by omega)⟩
  · have hu : u = 10 := (nI_eq (show u < 2 ^ 31 by omega) (show 10 < 2 ^ 31 by decide)).mp c
    have key : ∀ m i (wc : Wd), i + m = 140 → 14 ≤ i → wc.1 = w.1 → (∀ c, c ≠ 32 → wc.2 c = w.2 c) → (∀ k, wc.2 32 k = if k + 14 < i then w.2 32 (k + 14) else w.2 32 k) → ∀ n, m < n → cf_M_keepsAct_L12 P n (nI i) wc := by
      intro m
      induction m with
      | zero =>
        intro i wc hi hi14 e1 e2 e3 n hn
        obtain ⟨n, rfl⟩ : ∃ m, n = m + 1 := ⟨n - 1, by omega⟩
        show cf_M_keepsAct_B12 _ _ _ _
        unfold cf_M_keepsAct_B12
        have hi : i = 140 := by omega
        subst hi
        refine ⟨fun _ => ?_, fun c => absurd ((nI_leI (show 140 < 2 ^ 31 by decide) (by decide)).mpr (Nat.le_refl _)) c⟩
        rw [e1, h3, hu]
        have e10 : nI 10 - (1 : Int32) = nI 9 := nI_pred 9
        rw [e10]
        rintro _ rfl
        refine ⟨15, last 9 _ (by omega) (by rw [hu]; rfl) ?_ ?_ ?_ ?_ 15 (by omega)⟩
        · rw [wI_1, if_pos ⟨rfl, rfl⟩]
        · intro c hc
          rw [wI_2]
          exact e2 c hc
        · intro c i hc
          rw [wI_1, if_neg hc, e1]
        · intro j hj i hi
          rw [wI_2, e3, if_pos (by omega), ← h4 j (by omega) i hi]
          have e5 : (9 - 1 - j) * 14 + i + 14 = (u - 1 - j) * 14 + i := by omega
          rw [e5]
      | succ m ih =>
        intro i wc hi hi14 e1 e2 e3 n hn
        obtain ⟨n, rfl⟩ : ∃ m, n = m + 1 := ⟨n - 1, by omega⟩
        show cf_M_keepsAct_B12 _ _ _ _
        unfold cf_M_keepsAct_B12
        refine ⟨fun c => ?_, fun _ => ?_⟩
        · have := (nI_leI (show 140 < 2 ^ 31 by decide) (show i < 2 ^ 31 by omega)).mp c
          omega
        · have e4 : nI i - (14 : Int32) = nI (i - 14) := pk_sub (b := 14) hi14
          rw [e4, nI_clamp (by omega), nI_clamp (by omega), nI_1]
          refine ⟨vp_in_nI (by omega) (by omega), vp_in_nI (by omega) (by omega), ?_⟩
          rintro _ rfl _ rfl
          refine ih (i + 1) _ (by omega) (by omega) ?_ ?_ ?_ n (by omega)
          · rw [wL_1]; exact e1
          · intro c hc
            rw [← e2 c hc]
            funext j
            rw [wL_2, if_neg (fun z => hc z.1)]
          · intro k
            rw [wL_2, e3 k, e3 i, if_neg (show ¬ i + 14 < i by omega)]
            by_cases hk : k = i - 14
            · subst hk
              rw [if_pos ⟨rfl, rfl⟩, if_pos (by omega)]
              have e5 : i - 14 + 14 = i := by omega
              rw [e5]
            · rw [if_neg (fun z => hk z.2)]
              by_cases h2 : k + 14 < i
              · rw [if_pos h2, if_pos (by omega)]
              · rw [if_neg h2, if_neg (by omega)]
    refine ⟨127, key 126 14 w (by omega) (by omega) rfl (fun _ _ => rfl) (fun k => ?_) 127 (by omega)⟩
    rw [if_neg (by omega)]
/-- one slot of a row told anew -/
def setR (r : Nat → Int64) (k : Nat) (x : Int64) : Nat → Int64 := fun i => if i = k then x else r i
theorem mrow_set {r : Nat → Int64} {k : Nat} {x : Int64} (hk : k < 10) (i : Nat) : mrow (setR r k x) i = if i = k then x else mrow r i := by
  unfold mrow setR
  by_cases h : i = k
  · subst h
    rw [if_pos (by omega), if_pos rfl, if_pos rfl]
  · rw [if_neg h, if_neg h]
    by_cases h1 : i ≤ 10
    · rw [if_pos h1, if_pos h1]
    · rw [if_neg h1, if_neg h1]
      by_cases h2 : i = 11
      · rw [if_pos h2, if_pos h2, if_neg (by omega)]
      · rw [if_neg h2, if_neg h2, if_neg (by omega)]
theorem ic_set {w : Wd} {now : Nat → Int64} {u : Nat} {past : Nat → Nat → Int64} {kb : Nat → Bool} {shelf : Nat → Nat → Int64} (hi : ic w now u past kb shelf) (k : Nat) (x : Int64) : ic (wL w 7 k x) (setR now k x) u past kb shelf := by
  obtain ⟨h1, h2, h3, ⟨s, hs, h4, h5⟩, h6, h7⟩ := hi
  refine ⟨?_, h2, h3, ⟨s, hs, h4, ?_⟩, h6, ?_⟩
  · intro i hi
    rw [wL_2]
    unfold setR
    by_cases h : i = k
    · rw [if_pos ⟨rfl, h⟩, if_pos h]
    · rw [if_neg (fun z => h z.2), if_neg h]
      exact h1 i hi
  · intro j hj i hi
    rw [wL_2, if_neg (fun z => absurd z.1 (by decide))]
    exact h5 j hj i hi
  · intro k2 hk hkb i hi
    rw [wL_2, if_neg (fun z => absurd z.1 (by decide))]
    exact h7 k2 hk hkb i hi
theorem im_set {w : Wd} {now : Nat → Int64} {u : Nat} {past : Nat → Nat → Int64} {kb : Nat → Bool} {shelf : Nat → Nat → Int64} (hi : im w now u past kb shelf) {k : Nat} (hk : k < 10) (x : Int64) : im (wL w 31 k x) (setR now k x) u past kb shelf := by
  obtain ⟨h1, h2, h3, h4, h5, h6⟩ := hi
  refine ⟨?_, h2, h3, ?_, h5, ?_⟩
  · intro i hi
    rw [wL_2, mrow_set hk]
    by_cases h : i = k
    · rw [if_pos ⟨rfl, h⟩, if_pos h]
    · rw [if_neg (fun z => h z.2), if_neg h]
      exact h1 i hi
  · intro j hj i hi
    rw [wL_2, if_neg (fun z => absurd z.1 (by decide))]
    exact h4 j hj i hi
  · intro k2 hk hkb i hi
    rw [wL_2, if_neg (fun z => absurd z.1 (by decide))]
    exact h6 k2 hk hkb i hi
theorem fr_mono {L L' : List (Nat × Nat)} {C C' M M' : List Nat} {w w' : Wd} (h : fr L C M w w') (h1 : ∀ x, x ∈ L → x ∈ L') (h2 : ∀ x, x ∈ C → x ∈ C') (h3 : ∀ x, x ∈ M → x ∈ M') : fr L' C' M' w w' :=
  ⟨fun c i a b => h.1 c i (fun z => a (h1 _ z)) (fun z => b (h2 _ z)), fun c a => h.2 c (fun z => a (h3 _ z))⟩
theorem sp_place {w : Wd} {now : Nat → Int64} {u : Nat} {past : Nat → Nat → Int64} {kb : Nat → Bool} {shelf : Nat → Nat → Int64} {k x : Nat} {P : Int32 → Wd → Prop}
    (hi : ic w now u past kb shelf) (hk : k < 10) (hx : x < 2 ^ 63) (h : ∀ w', ic w' (setR now k (lN x)) (up u) (push now past) kb shelf → fr [(6, 3), (6, 4)] [] [7, 8] w w' → P (dI x) w') : cf_T_place (nI k) (lN x) w P := by
  unfold cf_T_place
  refine sp_remember hi (fun w' h1 h2 => sp_write hk (sp_degree hx ?_))
  refine h _ (ic_set h1 k (lN x)) (fr_wL _ (fr_mono h2 (fun _ z => z) (fun _ z => z) (by decide)) (by decide))
theorem mp_gets {w : Wd} {now : Nat → Int64} {u : Nat} {past : Nat → Nat → Int64} {kb : Nat → Bool} {shelf : Nat → Nat → Int64} {k x : Nat} {P : Int32 → Wd → Prop}
    (hi : im w now u past kb shelf) (hk : k < 10) (hx : x < 2 ^ 63) (h : ∀ w', im w' (setR now k (lN x)) (up u) (push now past) kb shelf → fr [(30, 2)] [] [31, 32] w w' → P (dI x) w') : cf_M_gets (nI k) (lN x) w P := by
  unfold cf_M_gets
  refine mp_keepsAct hi (fun w' h1 h2 => ⟨vp_in_nI (by omega) (by omega), ?_⟩)
  rintro _ rfl
  rw [nI_clamp (by omega)]
  refine mp_degree (by omega) ?_
  exact h _ (im_set h1 hk (lN x)) (fr_wL _ (fr_mono h2 (fun _ z => z) (fun _ z => z) (by decide)) (by decide))
