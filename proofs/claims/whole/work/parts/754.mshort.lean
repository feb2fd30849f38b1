-- shortest in the model: the code
def sI (c i : Nat) : Bool := c == 40
def sL (c i : Nat) : Bool := (c == 30 && i == 13) || c == 38
def skc (B w : Wd) : Prop := (∀ c i, sI c i = false → w.1 c i = B.1 c i) ∧ (∀ c i, sL c i = false → w.2 c i = B.2 c i)
theorem skc_refl (B : Wd) : skc B B := ⟨fun _ _ _ => rfl, fun _ _ _ => rfl⟩
theorem skc_trans {A B w : Wd} (h1 : skc A B) (h2 : skc B w) : skc A w := ⟨fun c i h => (h2.1 c i h).trans (h1.1 c i h), fun c i h => (h2.2 c i h).trans (h1.2 c i h)⟩
theorem skc_wI {B w : Wd} {j : Nat} (x : Int32) (h : skc B w) : skc B (wI w 40 j x) := by
  refine ⟨fun k i hr => ?_, fun k i hr => ?_⟩
  · rw [wI_1, if_neg]
    · exact h.1 k i hr
    · rintro ⟨rfl, -⟩
      exact absurd hr (by unfold sI; decide)
  · rw [wI_2]; exact h.2 k i hr
theorem skc_wL {B w : Wd} {c j : Nat} (x : Int64) (h : skc B w) (hn : sL c j = true) : skc B (wL w c j x) := by
  refine ⟨fun k i hr => ?_, fun k i hr => ?_⟩
  · rw [wL_1]; exact h.1 k i hr
  · rw [wL_2, if_neg]
    · exact h.2 k i hr
    · rintro ⟨rfl, rfl⟩
      rw [hn] at hr
      exact absurd hr (by decide)
theorem Inv_skc {w w' : Wd} (hI : Inv w) (h : skc w w') : Inv w' := by
  have h30 : ∀ i, w'.1 30 i = w.1 30 i := fun i => h.1 30 i rfl
  have hl : ∀ c, c ≠ 30 → c ≠ 38 → w'.2 c = w.2 c := by
    intro c h1 h2
    funext i
    refine h.2 c i ?_
    unfold sL
    rw [show (c == 30) = false from beq_eq_false_iff_ne.mpr h1, show (c == 38) = false from beq_eq_false_iff_ne.mpr h2]
    rfl
  have hi : ∀ c, c ≠ 40 → w'.1 c = w.1 c := by
    intro c h1
    funext i
    exact h.1 c i (beq_eq_false_iff_ne.mpr h1)
  obtain ⟨now, u, past, kb, shelf, hic, him, hn, hp, hs, ⟨t, ht, t1, t2, t3⟩, ⟨f1, f2, f3⟩, hca⟩ := hI
  refine ⟨now, u, past, kb, shelf, ?_, ?_, hn, hp, hs, ⟨t, ht, ?_, ?_, ?_⟩, ⟨?_, ?_, ?_⟩, ?_⟩
  · unfold ic
    rw [hi 6 (by decide), hl 7 (by decide) (by decide), hl 8 (by decide) (by decide), hl 9 (by decide) (by decide)]
    exact hic
  · unfold im
    rw [hi 30 (by decide), hi 34 (by decide), hl 31 (by decide) (by decide), hl 32 (by decide) (by decide), hl 33 (by decide) (by decide)]
    exact him
  · rw [hi 2 (by decide)]; exact t1
  · rw [h30]; exact t2
  · rw [hi 3 (by decide), hi 43 (by decide)]; exact t3
  · rw [hi 1 (by decide), h30]; exact f1
  · rw [hi 1 (by decide), h30]; exact f2
  · rw [hi 1 (by decide), h30]; exact f3
  · unfold cacheOk
    rw [h.2 30 7 rfl, h30, hl 35 (by decide) (by decide)]
    exact hca
/-- the rows and leads lie in the model -/
def sR (w : Wd) (m : Nat) (R l : Nat → Nat) : Prop := ∀ k, k < m → w.2 38 k = lN (R k) ∧ w.1 40 k = nI (l k)
theorem shl_one62 : (4611686018427387904 : Int64) = lN (2 ^ 62) := by decide
theorem mp_last {B w0 : Wd} {R l : Nat → Nat} {m L : Nat} {P : Int32 → Wd → Prop} (hm : m ≤ 62) (hk0 : skc B w0) (hw0 : sR w0 m R l) (hl : ∀ k, k < m → l k < 62 ∧ R k < 2 ^ 63) (h13 : w0.2 30 13 = lN 0)
    (h : ∀ w', skc B w' → w'.2 30 13 = lN (solN R l m) → P 1 w') : ∀ n, m < n → cf_M_isRule_L212 P n (nI m) 0 w0 := by
  have key : ∀ g k w, k + g = m → skc B w → sR w m R l → w.2 30 13 = lN (solN R l k) → ∀ n, g < n → cf_M_isRule_L212 P n (nI m) (nI k) w := by
    intro g
    induction g with
    | zero =>
      intro k w hk hs hw h13 n hn
      obtain ⟨n, rfl⟩ : ∃ m, n = m + 1 := ⟨n - 1, by omega⟩
      show cf_M_isRule_B212 _ _ _ _ _
      unfold cf_M_isRule_B212
      have : k = m := by omega
      subst this
      exact ⟨fun _ => h w hs h13, fun z => absurd (Int32.le_refl _) z⟩
    | succ g ih =>
      intro k w hk hs hw h13 n hn
      obtain ⟨n, rfl⟩ : ∃ m, n = m + 1 := ⟨n - 1, by omega⟩
      show cf_M_isRule_B212 _ _ _ _ _
      unfold cf_M_isRule_B212
      obtain ⟨w38, w40⟩ := hw k (by omega)
      obtain ⟨l62, R63⟩ := hl k (by omega)
      rw [nI_leI (by omega) (by omega), nI_clamp (by omega), w38, w40, h13, nI_1]
      refine ⟨fun z => absurd z (by omega), fun _ => ⟨vp_in_nI (by omega) (by omega), mp_hasB (k := 62) (by omega) (by omega) (fun hb => ⟨fun z => absurd z one_ne, fun _ => ⟨vp_in_nI (by omega) (by omega), ?_⟩⟩) (fun hb => ⟨fun _ => ?_, fun z => absurd rfl z⟩)⟩⟩
      · rw [L1, lshl_lN _ (by omega), lN_or, Nat.shiftLeft_eq, Nat.one_mul]
        rintro _ rfl _ rfl
        refine ih (k + 1) _ (by omega) (skc_wL _ hs rfl) (fun a ha => ?_) ?_ n (by omega)
        · rw [wL_1, wL_2, if_neg (fun z => absurd z.1 (by decide))]
          exact hw a ha
        · rw [wL_2, if_pos ⟨rfl, rfl⟩]
          show lN _ = lN (if (R k).testBit 62 = true then solN R l k ||| 2 ^ l k else solN R l k)
          rw [if_pos hb]
      · rintro _ rfl
        refine ih (k + 1) w (by omega) hs hw ?_ n (by omega)
        rw [h13]
        show lN _ = lN (if (R k).testBit 62 = true then solN R l k ||| 2 ^ l k else solN R l k)
        rw [hb]
        rfl
  intro n hn
  exact key m 0 w0 (by omega) hk0 hw0 h13 n hn
theorem mp_clean {B w0 : Wd} {s n L i m r g : Nat} {R l : Nat → Nat} {K6 : Int64 → Int32 → Int32 → Int32 → Int32 → Wd → Prop} {P : Int32 → Wd → Prop} (hm : m < 62) (hi : i < 62) (hk0 : skc B w0) (hw0 : sR w0 m R l) (hR : ∀ k, k < m → R k < 2 ^ 63) (h38 : w0.2 38 m = lN r) (h40 : w0.1 40 m = nI g) (hg : g < 62)
    (h : ∀ w', skc B w' → sR w' (m + 1) (newR R m r g) (newl l m g) → K6 (lN s) (nI n) (nI L) (nI (m + 1)) (nI (i + 1)) w') :
    ∀ f, m < f → cf_M_isRule_L150 K6 P f (lN s) (nI n) (nI L) (nI m) (nI i) (lN r) 0 w0 := by
  have key : ∀ d k w, k + d = m → skc B w → (∀ a, a < m → w.1 40 a = nI (l a)) → w.2 38 m = lN r → w.1 40 m = nI g → (∀ a, a < k → w.2 38 a = lN (newR R m r g a)) → (∀ a, k ≤ a → a < m → w.2 38 a = lN (R a)) → ∀ f, d < f → cf_M_isRule_L150 K6 P f (lN s) (nI n) (nI L) (nI m) (nI i) (lN r) (nI k) w := by
    intro d
    induction d with
    | zero =>
      intro k w hk hs a40 r38 r40 b38 c38 f hf
      obtain ⟨f, rfl⟩ : ∃ m, f = m + 1 := ⟨f - 1, by omega⟩
      show cf_M_isRule_B150 _ _ P _ _ _ _ _ _ _ _
      unfold cf_M_isRule_B150
      have : k = m := by omega
      subst this
      refine ⟨fun _ => ?_, fun z => absurd (Int32.le_refl _) z⟩
      rw [nI_1, nI_1]
      rintro _ rfl _ rfl
      refine h w hs (fun a ha => ?_)
      by_cases e : a = k
      · rw [e, r38, r40]
        unfold newR newl
        rw [if_pos rfl, if_pos rfl]
        exact ⟨rfl, rfl⟩
      · refine ⟨b38 a (by omega), ?_⟩
        rw [a40 a (by omega)]
        unfold newl
        rw [if_neg e]
    | succ d ih =>
      intro k w hk hs a40 r38 r40 b38 c38 f hf
      obtain ⟨f, rfl⟩ : ∃ m, f = m + 1 := ⟨f - 1, by omega⟩
      show cf_M_isRule_B150 _ _ P _ _ _ _ _ _ _ _
      unfold cf_M_isRule_B150
      have hRk := hR k (by omega)
      rw [nI_leI (by omega) (by omega), nI_clamp (by omega), nI_clamp (by omega), r40, c38 k (Nat.le_refl _) (by omega)]
      have nk : newR R m r g k = (if (R k).testBit g = true then R k ^^^ r else R k) := if_neg (by omega)
      refine ⟨fun z => absurd z (by omega), fun _ => ⟨vp_in_nI (by omega) (by omega), vp_in_nI (by omega) (by omega), mp_hasB (by omega) (by omega) (fun hb => ⟨fun z => absurd z one_ne, fun _ => ⟨vp_in_nI (by omega) (by omega), vp_in_nI (by omega) (by omega), ?_⟩⟩) (fun hb => ⟨fun _ => ?_, fun z => absurd rfl z⟩)⟩⟩
      · rw [lN_xor, nI_1]
        rintro _ rfl _ rfl
        refine ih (k + 1) _ (by omega) (skc_wL _ hs rfl) (fun a ha => ?_) ?_ ?_ (fun a ha => ?_) (fun a h1 h2 => ?_) f (by omega)
        · rw [wL_1]; exact a40 a ha
        · rw [wL_2, if_neg (by omega)]; exact r38
        · rw [wL_1]; exact r40
        · rw [wL_2]
          by_cases e : a = k
          · rw [if_pos ⟨rfl, e⟩, e, nk, if_pos hb]
          · rw [if_neg (fun z => e z.2)]; exact b38 a (by omega)
        · rw [wL_2, if_neg (by omega)]; exact c38 a (by omega) h2
      · rw [nI_1]
        rintro _ rfl
        refine ih (k + 1) w (by omega) hs a40 r38 r40 (fun a ha => ?_) (fun a h1 h2 => c38 a (by omega) h2) f (by omega)
        by_cases e : a = k
        · rw [e, nk, hb, c38 k (Nat.le_refl _) (by omega)]; rfl
        · exact b38 a (by omega)
  intro f hf
  exact key m 0 w0 (by omega) hk0 (fun a ha => (hw0 a ha).2) h38 h40 (fun a ha => absurd ha (by omega)) (fun a _ ha => (hw0 a ha).1) f hf
theorem mp_isRule {B : Wd} {s n L : Nat} {P : Int32 → Wd → Prop} (hs : s < 2 ^ 60) (hn : n ≤ 60) (hL : L ≤ 60)
    (h1 : ∀ w' c, skc B w' → rul s n L c → w'.2 30 13 = lN c → P 1 w') (h0 : ∀ w', skc B w' → (∀ c, ¬ rul s n L c) → P 0 w') : ∀ w0, skc B w0 → cf_M_isRule (lN s) (nI n) (nI L) w0 P := by
  have key : ∀ d i m R l w, 61 ≤ i + d → i ≤ 60 → skc B w → sR w m R l → el s L i m R l → ∀ f, d < f → cf_M_isRule_L6 P f (lN s) (nI n) (nI L) (nI m) (nI i) w := by
    intro d
    induction d with
    | zero => intro i m R l w h1 h2; omega
    | succ d ih =>
      intro i m R l w hd hi hk hw he f hf
      obtain ⟨f, rfl⟩ : ∃ m, f = m + 1 := ⟨f - 1, by omega⟩
      show cf_M_isRule_B6 _ _ _ _ _ _ _ _
      unfold cf_M_isRule_B6
      have hmi := he.1
      have hRl : ∀ k, k < m → l k < 62 ∧ R k < 2 ^ 63 := fun k hk => ⟨by have := (he.2.1 k hk).2.1; omega, okr_lt (he.2.1 k hk).1 (by omega)⟩
      rw [nI_add, nI_leI (by omega) (by omega)]
      refine ⟨fun c => ?_, fun c => mp_allOnes (by omega) ?_⟩
      · rintro _ rfl
        refine ⟨m + 1, mp_last (B := B) (w0 := wL w 30 13 0) (L := L) (by omega) (skc_wL _ hk rfl) (fun k hk2 => ?_) hRl ?_ (fun w' g1 g2 => h1 w' _ g1 (el_rul he (by omega) c) g2) (m + 1) (by omega)⟩
        · rw [wL_1, wL_2, if_neg (fun z => absurd z.1 (by decide))]
          exact hw k hk2
        · rw [wL_2, if_pos ⟨rfl, rfl⟩]; rfl
      · -- the row reduced
        have red : ∀ e k r, k + e = m → rd s L i m R l r k → ∀ f2, e < f2 → cf_M_isRule_L50 (cf_M_isRule_L6 P f) P f2 (lN s) (nI n) (nI L) (nI m) (nI i) (lN r) (nI k) w := by
          intro e
          induction e with
          | zero =>
            intro k r hk2 hr f2 hf2
            obtain ⟨f2, rfl⟩ : ∃ m, f2 = m + 1 := ⟨f2 - 1, by omega⟩
            show cf_M_isRule_B50 _ _ _ _ _ _ _ _ _ _ _
            unfold cf_M_isRule_B50
            have : k = m := by omega
            subst this
            have hr63 := okr_lt hr.1 (by omega)
            refine ⟨fun _ => mp_allOnes (d := 62) (by omega) ?_, fun z => absurd (Int32.le_refl _) z⟩
            rintro _ rfl
            rw [lN_and, Nat.and_two_pow_sub_one_eq_mod]
            have ha62 : r % 2 ^ 62 < 2 ^ 62 := Nat.mod_lt _ (Nat.pow_pos (by omega))
            rw [lN_eq0 (by omega), lN_eq0 (by omega)]
            have go : ∀ hz : (r % 2 ^ 62 ≠ 0 ∨ r = 0), cf_M_isRule_B116 (cf_M_isRule_L6 P f) P (lN s) (nI n) (nI L) (nI k) (nI i) (lN r) (lN (r % 2 ^ 62)) w := by
              intro hz
              unfold cf_M_isRule_B116
              rw [lN_eq0 (by omega)]
              refine ⟨fun a0 => mp_degree (by omega) ⟨vp_in_nI (by omega) (by omega), ?_⟩, fun a0 => ?_⟩
              · obtain ⟨ab, al⟩ := ahead_bit hr.1 (by omega) a0
                rw [dI_pos a0, nI_clamp (by omega)]
                rintro _ rfl
                refine ⟨vp_in_nI (by omega) (by omega), ?_⟩
                rintro _ rfl
                refine ⟨k + 1, mp_clean (B := B) (R := R) (l := l) (g := dg (r % 2 ^ 62)) (by omega) (by omega) (skc_wL _ (skc_wI _ hk) rfl) (fun a ha => ?_) (fun a ha => (hRl a ha).2) ?_ ?_ (by omega) (fun w' g1 g2 => ?_) (k + 1) (by omega)⟩
                · rw [wL_1, wI_1, if_neg (by omega), wL_2, if_neg (by omega), wI_2]
                  exact hw a ha
                · rw [wL_2, if_pos ⟨rfl, rfl⟩]
                · rw [wL_1, wI_1, if_pos ⟨rfl, rfl⟩]
                · exact ih (i + 1) (k + 1) _ _ w' (by omega) (by omega) g1 g2 (el_new he hr al ab) f (by omega)
              · have r0 : r = 0 := hz.resolve_left (fun z => z a0)
                subst r0
                rw [nI_1]
                rintro _ rfl
                exact ih (i + 1) k R l w (by omega) (by omega) hk hw (el_null he hr) f (by omega)
            refine ⟨fun a0 => go (Or.inl a0), fun a0 => ⟨fun r0 => go (Or.inr r0), fun r0 => h0 w hk (fun c2 => ?_)⟩⟩
            have r62 := (okr_split hr.1 (by omega) a0).resolve_left r0
            subst r62
            exact el_none he hr (by omega) (by omega)
          | succ e ihe =>
            intro k r hk2 hr f2 hf2
            obtain ⟨f2, rfl⟩ : ∃ m, f2 = m + 1 := ⟨f2 - 1, by omega⟩
            show cf_M_isRule_B50 _ _ _ _ _ _ _ _ _ _ _
            unfold cf_M_isRule_B50
            have hr63 := okr_lt hr.1 (by omega)
            obtain ⟨w38, w40⟩ := hw k (by omega)
            have hlk := (hRl k (by omega)).1
            rw [nI_leI (by omega) (by omega), nI_clamp (by omega), w38, w40, nI_1]
            refine ⟨fun z => absurd z (by omega), fun _ => ⟨vp_in_nI (by omega) (by omega), mp_hasB (by omega) (by omega) (fun hb => ⟨fun z => absurd z one_ne, fun _ => ⟨vp_in_nI (by omega) (by omega), ?_⟩⟩) (fun hb => ⟨fun _ => ?_, fun z => absurd rfl z⟩)⟩⟩
            · rw [lN_xor]
              rintro _ rfl _ rfl
              exact ihe (k + 1) _ (by omega) (rd_yes he (by omega) hr hb) f2 (by omega)
            · rintro _ rfl
              exact ihe (k + 1) _ (by omega) (rd_no hr hb) f2 (by omega)
        rintro _ rfl
        rw [lushr_lN (by omega) (by omega), lN_and, Nat.and_two_pow_sub_one_eq_mod]
        refine mp_hasB (by omega) (by omega) (fun hb => ⟨fun z => absurd z one_ne, fun _ => ?_⟩) (fun hb => ⟨fun _ => ?_, fun z => absurd rfl z⟩)
        · rw [shl_one62, lN_or]
          rintro _ rfl
          have e : (s >>> i) % 2 ^ L ||| 2 ^ 62 = rowN s L i := by
            unfold rowN
            rw [hb]
            show _ = _ ||| (1 <<< 62)
            rw [Nat.shiftLeft_eq, Nat.one_mul]
          rw [e]
          exact ⟨m + 1, red m 0 _ (by omega) (rd_zero s L i m R l) (m + 1) (by omega)⟩
        · have e : (s >>> i) % 2 ^ L = rowN s L i := by
            unfold rowN
            rw [hb]
            show _ = _ ||| (0 <<< 62)
            rw [Nat.zero_shiftLeft, Nat.or_zero]
          rw [e]
          exact ⟨m + 1, red m 0 _ (by omega) (rd_zero s L i m R l) (m + 1) (by omega)⟩
  intro w0 hw0
  unfold cf_M_isRule
  exact ⟨62, key 61 0 0 (fun _ => 0) (fun _ => 0) w0 (by omega) (by omega) hw0 (fun k hk => absurd hk (by omega)) (el_zero s L _ _) 62 (by omega)⟩
