-- swan, evens, multiple, mirror
theorem isTri_c {a b : Int32} {c : Int32} {m : Int} {P : Int32 → Prop} (hc : c.toInt = m) (h1 : 2 ≤ a.toInt ∧ a.toInt ≤ m ∧ 1 ≤ b.toInt ∧ b.toInt < a.toInt → P 1) (h0 : ¬ (2 ≤ a.toInt ∧ a.toInt ≤ m ∧ 1 ≤ b.toInt ∧ b.toInt < a.toInt) → P 0) : cf_T_isTri a b c P := by
  unfold cf_T_isTri
  rw [lt_k 2 (n := 2) (by decide), k_lt c hc, lt_k 1 (n := 1) (by decide), le_toInt]
  exact ⟨fun z => h0 (by omega), fun z1 => ⟨fun z => h0 (by omega), fun z2 => ⟨fun z => h0 (by omega), fun z3 => ⟨fun z => h0 (by omega), fun z4 => h1 ⟨by omega, by omega, by omega, by omega⟩⟩⟩⟩⟩
theorem inTri_c {a b : Int32} {c : Int64} {m : Int} {A : Prop} {Q : Int32 → Prop} (hc : c.toInt = m) (h1 : 2 ≤ a.toInt ∧ a.toInt ≤ m ∧ 1 ≤ b.toInt ∧ b.toInt < a.toInt → Q 1) (h0 : ¬ (2 ≤ a.toInt ∧ a.toInt ≤ m ∧ 1 ≤ b.toInt ∧ b.toInt < a.toInt) → A ∧ Q 0) :
    cf_M_in a.toInt64 2 c (fun r1 => (r1 = 0 → A) ∧ (¬ r1 = 0 → cf_M_in b.toInt64 1 ((a - 1).toInt64) Q)) := by
  refine mp_inI (lo := 2) (hi := m) (by decide) hc (fun q => ⟨fun z => absurd z one_ne', fun _ => ?_⟩) (fun q => ⟨fun _ => (h0 (fun y => q ⟨y.1, y.2.1⟩)).1, fun z => absurd rfl z⟩)
  by_cases hb : b.toInt64.toInt = b.toInt
  · have ha32 : a.toInt < 2 ^ 31 := Int32.toInt_lt a
    obtain ⟨n, hn, rfl, en⟩ := nat_of (a := a) (by omega)
    have e : nI n - (1 : Int32) = nI (n - 1) := pk_sub (b := 1) (by omega)
    have e2 : (nI (n - 1)).toInt64.toInt = (n - 1 : Nat) := by rw [nI_l (by omega), lN_toInt' (by omega)]
    rw [e]
    exact mp_inI (lo := 1) (hi := ((n - 1 : Nat) : Int)) (by decide) e2 (fun y => h1 ⟨q.1, q.2, y.1, by omega⟩) (fun y => (h0 (fun x => y ⟨x.2.2.1, by omega⟩)).2)
  · exact absurd (Int32.toInt_toInt64 b) hb
theorem op_swan {w : Wd} (_ : Inv w) (a k : Int32) : same0 (cf_T_swan a k) (cf_M_swan a k) := by
  intro G h
  unfold cf_T_swan
  refine isTri_c (m := 2000) (by decide) (fun q => ⟨fun z => absurd z one_ne', fun _ => ?_⟩) (fun q => ⟨fun _ => h _ (fun F hF => ?_), fun z => absurd rfl z⟩)
  · obtain ⟨n, hn, rfl, en⟩ := nat_of (a := a) (by omega)
    obtain ⟨j, hj, rfl, ej⟩ := nat_of (a := k) (by omega)
    refine sp_swan (by omega) (by omega) (by omega) (h _ (fun F hF => ?_))
    unfold cf_M_swan
    refine inTri_c (m := 2000) (by decide) (fun _ => ⟨fun z => absurd z one_ne', fun _ => ?_⟩) (fun y => absurd q y)
    have g := mp_swan (n := n) (k := j) (P := F) (by omega) (by omega) (by omega) hF
    exact g
  · unfold cf_M_swan
    exact inTri_c (m := 2000) (by decide) (fun y => absurd y q) (fun _ => ⟨hF, ⟨fun _ => hF, fun z => absurd rfl z⟩⟩)
theorem op_evens {w : Wd} (_ : Inv w) (a : Int32) : same0 (cf_T_evens a) (cf_M_evens a) := by
  intro G h
  unfold cf_T_evens
  rw [lt_k 2 (n := 2) (by decide), le_k 2000 (n := 2000) (by decide)]
  have no : ¬ (2 ≤ a.toInt ∧ a.toInt ≤ 2000) → G (-1) := fun hn => h _ (fun F hF => by
    unfold cf_M_evens
    exact mp_inI (lo := 2) (hi := 2000) (by decide) (by decide) (fun q => absurd q hn) (fun _ => ⟨fun z => absurd rfl z, fun _ => hF⟩))
  refine ⟨fun z => no (by omega), fun c1 => ⟨fun c2 => ?_, fun z => no (by omega)⟩⟩
  obtain ⟨n, hn, rfl, en⟩ := nat_of (a := a) (by omega)
  have tkey : ∀ (P : Int32 → Prop) m k s, n ≤ k + m → 1 ≤ k → k ≤ n → (∀ (r : Int32), (∀ (Q : Int32 → Prop), Q r → ∀ n', m < n' → cf_M_evens_L20 Q n' (nI n) s (nI k)) → P r) → ∀ n', m < n' → cf_Families_countEven_L4 P n' (nI n) s (nI k) := by
    intro P m
    have stop : ∀ s (m : Nat), (∀ (r : Int32), (∀ (Q : Int32 → Prop), Q r → ∀ n', m < n' → cf_M_evens_L20 Q n' (nI n) s (nI n)) → P r) → ∀ n', 0 < n' → cf_Families_countEven_L4 P n' (nI n) s (nI n) := by
      intro s m hP n' hn'
      obtain ⟨n', rfl⟩ : ∃ m, n' = m + 1 := ⟨n' - 1, by omega⟩
      show cf_Families_countEven_B4 _ _ _ _ _
      unfold cf_Families_countEven_B4
      refine ⟨fun _ => hP s (fun Q hQ n2 hn2 => ?_), fun z => absurd ((nI_leI (by omega) (by omega)).mpr (Nat.le_refl _)) z⟩
      obtain ⟨n2, rfl⟩ : ∃ m, n2 = m + 1 := ⟨n2 - 1, by omega⟩
      show cf_M_evens_B20 _ _ _ _ _
      unfold cf_M_evens_B20
      exact ⟨fun _ => hQ, fun z => absurd ((nI_leI (by omega) (by omega)).mpr (Nat.le_refl _)) z⟩
    induction m with
    | zero =>
      intro k s hk hk1 hkn hP n' hn'
      have : k = n := by omega
      subst this
      exact stop s 0 hP n' (by omega)
    | succ m ih =>
      intro k s hk hk1 hkn hP n' hn'
      by_cases hke : k = n
      · subst hke; exact stop s (m + 1) hP n' (by omega)
      obtain ⟨n', rfl⟩ : ∃ m, n' = m + 1 := ⟨n' - 1, by omega⟩
      show cf_Families_countEven_B4 _ _ _ _ _
      unfold cf_Families_countEven_B4
      refine ⟨fun z => absurd ((nI_leI (by omega) (by omega)).mp z) (by omega), fun _ => sp_swan (by omega) (by omega) (by omega) ⟨fun z => ?_, fun z => ?_⟩⟩
      · rintro _ rfl
        rw [nI_1]
        refine ih (k + 1) s (by omega) (by omega) (by omega) (fun r hr => hP r (fun Q hQ n2 hn2 => ?_)) n' (by omega)
        obtain ⟨n2, rfl⟩ : ∃ m, n2 = m + 1 := ⟨n2 - 1, by omega⟩
        show cf_M_evens_B20 _ _ _ _ _
        unfold cf_M_evens_B20
        refine ⟨fun y => absurd ((nI_leI (by omega) (by omega)).mp y) (by omega), fun _ => mp_swan (by omega) (by omega) (by omega) ⟨fun _ => ?_, fun y => absurd y z⟩⟩
        rintro _ rfl _ rfl
        rw [nI_1, Int32.add_zero]
        exact hr Q hQ n2 (by omega)
      · rintro _ rfl _ rfl
        rw [nI_1]
        refine ih (k + 1) (s + 1) (by omega) (by omega) (by omega) (fun r hr => hP r (fun Q hQ n2 hn2 => ?_)) n' (by omega)
        obtain ⟨n2, rfl⟩ : ∃ m, n2 = m + 1 := ⟨n2 - 1, by omega⟩
        show cf_M_evens_B20 _ _ _ _ _
        unfold cf_M_evens_B20
        refine ⟨fun y => absurd ((nI_leI (by omega) (by omega)).mp y) (by omega), fun _ => mp_swan (by omega) (by omega) (by omega) ⟨fun y => absurd z y, fun _ => ?_⟩⟩
        rintro _ rfl _ rfl
        rw [nI_1]
        exact hr Q hQ n2 (by omega)
  unfold cf_Families_countEven
  refine ⟨n + 1, tkey _ n 1 0 (by omega) (by omega) (by omega) (fun r hr => h r (fun F hF => ?_)) (n + 1) (by omega)⟩
  unfold cf_M_evens
  exact mp_inI (lo := 2) (hi := 2000) (by decide) (by decide) (fun _ => ⟨fun _ => ⟨n + 1, hr F hF (n + 1) (by omega)⟩, fun z => absurd z one_ne'⟩) (fun q => absurd ⟨by omega, by omega⟩ q)
theorem revN_lt (a n : Nat) : ∀ m, revN a n m < 2 ^ (n + 1)
  | 0 => Nat.pow_pos (by omega)
  | m + 1 => by
    refine Nat.or_lt_two_pow (revN_lt a n m) ?_
    rw [Nat.shiftLeft_eq]
    have h1 : (a.testBit m).toNat ≤ 1 := by cases a.testBit m <;> decide
    have h2 : (a.testBit m).toNat * 2 ^ (n - m) ≤ 1 * 2 ^ (n - m) := Nat.mul_le_mul_right _ h1
    have h3 : 2 ^ (n - m) ≤ 2 ^ n := Nat.pow_le_pow_right (by omega) (by omega)
    have h4 : 2 ^ n < 2 ^ (n + 1) := Nat.pow_lt_pow_right (by omega) (by omega)
    omega
theorem prev_lt {a : Nat} (ha : a < 2 ^ 32) : prev a < 2 ^ 32 := by
  have hd : dg a ≤ 31 := by
    by_cases z : a = 0
    · rw [z]; decide
    · have := (dg_lt z).mpr ha; omega
  exact Nat.lt_of_lt_of_le (revN_lt a (dg a) (sz a)) (Nat.pow_le_pow_right (by omega) (by omega))
theorem op_mirror {w : Wd} (hI : Inv w) (a0 : Int32) (a1 : Int32) : same0 (cf_T_mirror a0 a1 w) (cf_M_mirror a0 a1 w) := by
  intro G h
  obtain ⟨now, u, past, kb, shelf, hc⟩ := hI
  unfold cf_T_mirror
  have mno : isPl a0 → ¬ (0 ≤ a1.toInt ∧ a1.toInt ≤ 1) → ∀ F : Int32 → Prop, F (-5) → cf_M_mirror a0 a1 w F := by
    intro ha hn F hF
    unfold cf_M_mirror
    exact mp_isPlace (fun _ => ⟨fun z => absurd z one_ne', fun _ => mp_inI (lo := 0) (hi := 1) (by decide) (by decide) (fun q => absurd q hn) (fun _ => ⟨fun z => absurd rfl z, fun _ => hF⟩)⟩) (fun z => absurd ha z)
  rw [lt_k 0 (n := 0) (by decide), le_k 1 (n := 1) (by decide)]
  refine sp_isPlace (fun ha => ⟨fun z => absurd z one_ne', fun _ => ⟨fun c1 => h _ (fun F hF => mno ha (by omega) F hF), fun c1 => ⟨fun c2 => ?_, fun c2 => h _ (fun F hF => mno ha (by omega) F hF)⟩⟩⟩) (fun hno => ⟨fun _ => h _ (fun F hF => ?_), fun z => absurd rfl z⟩)
  · obtain ⟨k, hk, rfl⟩ := ha
    obtain ⟨a, ha, e0, e1, e2⟩ := core_poly hc hk
    refine sp_polyAt hk ?_
    rw [e1]
    have hp : prev a < 2 ^ 32 := prev_lt ha
    have ein : ∀ F : Int32 → Prop, (¬ a1 = 1 → (¬ lN (prev a) = lN a → F 0) ∧ (lN (prev a) = lN a → F 1)) → (a1 = 1 → F (dI (pgcd a (prev a)))) → cf_M_mirror (nI k) a1 w F := by
      intro F f1 f2
      unfold cf_M_mirror
      refine mp_isPlace (fun _ => ⟨fun z => absurd z one_ne', fun _ => mp_inI (lo := 0) (hi := 1) (by decide) (by decide) (fun _ => ⟨fun _ => ⟨vp_in_nI (by omega) (by omega), ?_⟩, fun z => absurd z one_ne'⟩) (fun q => absurd ⟨by omega, c2⟩ q)⟩) (fun z => absurd ⟨k, hk, rfl⟩ z)
      rw [nI_clamp (by omega), e2]
      refine mp_reversed (by omega) ⟨fun z => ⟨vp_in_nI (by omega) (by omega), f1 z⟩, fun z => ⟨vp_in_nI (by omega) (by omega), ?_⟩⟩
      refine mp_commonOf (by omega) (by omega) (mp_degree ?_ (f2 z))
      have := pgcd_bd ha hp
      omega
    refine sp_reversed (by omega) ⟨fun z => ?_, fun z => ?_⟩
    · have h1 : a1 = 1 := by
        have : a1.toInt = 1 := by
          have : a1.toInt ≠ 0 := fun y => z (Int32.toInt_inj.mp (by rw [y]; decide))
          omega
        exact Int32.toInt_inj.mp (by rw [this]; decide)
      refine sp_gcd (by omega) (by omega) (sp_degree (by have := pgcd_bd ha hp; omega) (h _ (fun F hF => ein F (fun y => absurd h1 y) (fun _ => hF))))
    · have h1 : ¬ a1 = 1 := by rw [z]; decide
      exact ⟨fun y => h _ (fun F hF => ein F (fun _ => ⟨fun _ => hF, fun x => absurd x y⟩) (fun x => absurd x h1)), fun y => h _ (fun F hF => ein F (fun _ => ⟨fun x => absurd y x, fun _ => hF⟩) (fun x => absurd x h1))⟩
  · unfold cf_M_mirror
    exact mp_isPlace (fun z => absurd z hno) (fun _ => ⟨fun _ => hF, fun z => absurd rfl z⟩)
-- multiples that are trinomials
def pw (f n : Nat) : Nat := pmod (ppow 2 n) f
theorem pw_succ {f : Nat} (hf : f ≠ 0) (n : Nat) : pmod (2 * pw f n) f = pw f (n + 1) := by
  rw [two_cm, cm_comm]
  exact pmod_mul_right hf 2 (ppow 2 n)
/-- the trinomial with n and k is a multiple of f -/
def mulAt (f n k : Nat) : Prop := 1 ≤ k ∧ k < n ∧ pw f k = pw f n ^^^ 1
/-- the first such one -/
def mulFirst (f n k : Nat) : Prop := n ≤ 300 ∧ mulAt f n k ∧ (∀ n' k', n' < n → ¬ mulAt f n' k') ∧ ∀ k', k' < k → ¬ mulAt f n k'
theorem mulFirst_unique {f n k n' k' : Nat} (h1 : mulFirst f n k) (h2 : mulFirst f n' k') : n = n' ∧ k = k' := by
  have e : n = n' := by
    refine Classical.byContradiction (fun hne => ?_)
    rcases (show n < n' ∨ n' < n by omega) with c | c
    · exact h2.2.2.1 n k c h1.2.1
    · exact h1.2.2.1 n' k' c h2.2.1
  subst e
  refine ⟨rfl, ?_⟩
  refine Classical.byContradiction (fun hne => ?_)
  rcases (show k < k' ∨ k' < k by omega) with c | c
  · exact h2.2.2.2 k c h1.2.1
  · exact h1.2.2.2 k' c h2.2.1
theorem sp_findMultiple {f : Nat} {w0 : Wd} {P : Int32 → Wd → Prop} (hf : f < 2 ^ 32) (hf2 : 2 ≤ f)
    (h1 : ∀ w' n k, fr [(26, 2), (26, 3)] [] [27] w0 w' → mulFirst f n k → w'.1 26 2 = nI n → w'.1 26 3 = nI k → P 1 w') (h0 : ∀ w', fr [(26, 2), (26, 3)] [] [27] w0 w' → (∀ n k, n ≤ 300 → ¬ mulAt f n k) → P 0 w') : cf_Rows_findMultiple (lN f) w0 P := by
  have hf0 : f ≠ 0 := by omega
  have hb : ∀ n, pw f n < 2 ^ 31 := fun n => pmod_lt31 hf0 hf _
  have key : ∀ m n w, n + m = 301 → fr [(26, 2), (26, 3)] [] [27] w0 w → (∀ j, j < n → w.2 27 j = lN (pw f j)) → (∀ n' k', n' < n → ¬ mulAt f n' k') → ∀ n', m < n' → cf_Rows_findMultiple_L9 P n' (lN f) (lN (pw f n)) (nI n) w := by
    intro m
    induction m with
    | zero =>
      intro n w hn hfr hc hno n' hn'
      obtain ⟨n', rfl⟩ : ∃ m, n' = m + 1 := ⟨n' - 1, by omega⟩
      show cf_Rows_findMultiple_B9 _ _ _ _ _ _
      unfold cf_Rows_findMultiple_B9
      exact ⟨fun _ => h0 w hfr (fun n2 k2 q => hno n2 k2 (by omega)), fun z => absurd ((nI_ltI (show 300 < 2 ^ 31 by decide) (by omega)).mpr (by omega)) z⟩
    | succ m ih =>
      intro n w hn hfr hc hno n' hn'
      obtain ⟨n', rfl⟩ : ∃ m, n' = m + 1 := ⟨n' - 1, by omega⟩
      show cf_Rows_findMultiple_B9 _ _ _ _ _ _
      unfold cf_Rows_findMultiple_B9
      refine ⟨fun z => absurd ((nI_ltI (show 300 < 2 ^ 31 by decide) (by omega)).mp z) (by omega), fun _ => ⟨fun z => absurd ((nI_leI (show 2880 < 2 ^ 31 by decide) (by omega)).mp z) (by omega), fun _ => ⟨vp_in_nI (by omega) (by omega), ?_⟩⟩⟩
      rw [nI_clamp (by omega)]
      rintro _ rfl
      have hfr2 : fr [(26, 2), (26, 3)] [] [27] w0 (wL w 27 n (lN (pw f n))) := fr_wL _ hfr (by simp)
      have hc2 : ∀ j, j < n + 1 → (wL w 27 n (lN (pw f n))).2 27 j = lN (pw f j) := by
        intro j hj
        rw [wL_2]
        by_cases e : j = n
        · rw [if_pos ⟨rfl, e⟩, e]
        · rw [if_neg (fun z => e z.2)]
          exact hc j (by omega)
      generalize wL w 27 n (lN (pw f n)) = w2 at hfr2 hc2
      have inner : ∀ m2 k, n ≤ k + m2 → 1 ≤ k → k ≤ 400 → (∀ k', k' < k → ¬ mulAt f n k') → ∀ n2, m2 < n2 → cf_Rows_findMultiple_L38 (cf_Rows_findMultiple_L9 P n') P n2 (lN f) (lN (pw f n)) (nI n) (nI k) w2 := by
        intro m2
        have out : ∀ k, n ≤ k → k < 2 ^ 20 → (∀ k', k' < k → ¬ mulAt f n k') → ∀ n2, 0 < n2 → cf_Rows_findMultiple_L38 (cf_Rows_findMultiple_L9 P n') P n2 (lN f) (lN (pw f n)) (nI n) (nI k) w2 := by
          intro k hk hkb hno2 n2 hn2
          obtain ⟨n2, rfl⟩ : ∃ m, n2 = m + 1 := ⟨n2 - 1, by omega⟩
          show cf_Rows_findMultiple_B38 _ _ P _ _ _ _ _
          unfold cf_Rows_findMultiple_B38
          rw [nI_leI (by omega) (by omega)]
          refine ⟨fun _ => ?_, fun z => absurd hk z⟩
          have hbn := hb n
          rw [show (1 : Int32) = nI 1 from rfl, lshl_lN _ (by omega), Nat.shiftLeft_eq, Nat.pow_one, Nat.mul_comm]
          refine sp_remainder (by omega) (by omega) ?_
          rw [pw_succ hf0]
          rintro _ rfl
          rw [nI_add]
          refine ih (n + 1) w2 (by omega) hfr2 hc2 (fun n2 k2 q => ?_) n' (by omega)
          by_cases e : n2 = n
          · rw [e]
            intro y
            exact hno2 k2 (by have := y.2.1; omega) y
          · exact hno n2 k2 (by omega)
        induction m2 with
        | zero =>
          intro k hk hk1 hkb hno2 n2 hn2
          exact out k (by omega) (by omega) hno2 n2 (by omega)
        | succ m2 ih2 =>
          intro k hk hk1 hkb hno2 n2 hn2
          by_cases hkn : n ≤ k
          · exact out k hkn (by omega) hno2 n2 (by omega)
          obtain ⟨n2, rfl⟩ : ∃ m, n2 = m + 1 := ⟨n2 - 1, by omega⟩
          show cf_Rows_findMultiple_B38 _ _ P _ _ _ _ _
          unfold cf_Rows_findMultiple_B38
          rw [nI_leI (by omega) (by omega)]
          refine ⟨fun z => absurd z hkn, fun _ => ⟨vp_in_nI (by omega) (by omega), ?_⟩⟩
          have b1 := hb k
          have b2 := hb n
          have b3 : pw f n ^^^ 1 < 2 ^ 32 := Nat.xor_lt_two_pow (by omega) (by omega)
          rw [nI_clamp (by omega), hc2 k (by omega), show (1 : Int64) = lN 1 from rfl, lN_xor, lN_eqI (by omega) (by omega)]
          refine ⟨fun z => ?_, fun z => ?_⟩
          · rintro _ rfl
            rw [nI_1]
            refine ih2 (k + 1) (by omega) (by omega) (by omega) (fun k' hk' => ?_) n2 (by omega)
            by_cases e : k' = k
            · rw [e]; exact fun y => z y.2.2
            · exact hno2 k' (by omega)
          · rintro _ rfl _ rfl
            refine h1 _ n k (fr_wI _ (fr_wI _ hfr2 (by simp)) (by simp)) ⟨by omega, ⟨hk1, by omega, z⟩, hno, hno2⟩ ?_ ?_
            · rw [wI_1, if_neg (by omega), wI_1, if_pos ⟨rfl, rfl⟩]
            · rw [wI_1, if_pos ⟨rfl, rfl⟩]
      exact ⟨n + 1, inner n 1 (by omega) (by omega) (by omega) (fun k' hk' y => by have := y.1; omega) (n + 1) (by omega)⟩
  unfold cf_Rows_findMultiple
  refine sp_remainder (a := 1) (by omega) (by omega) ?_
  exact ⟨302, key 301 0 w0 (by omega) (fr_refl _ _ _ _) (fun j hj => absurd hj (by omega)) (fun n' k' q => absurd q (by omega)) 302 (by omega)⟩
theorem mul_xor {f n k : Nat} : (pw f n ^^^ pw f k) ^^^ 1 = 0 ↔ pw f k = pw f n ^^^ 1 := by
  rw [xor_eq_zero']
  constructor
  · intro e
    rw [← e, ← Nat.xor_assoc, Nat.xor_self, Nat.zero_xor]
  · intro e
    rw [e, ← Nat.xor_assoc, Nat.xor_self, Nat.zero_xor]
theorem mp_mulSearch {f : Nat} {a1 : Int32} {w : Wd} {P : Int32 → Wd → Prop} (hf : f < 2 ^ 32) (hf2 : 2 ≤ f) (hc : ∀ j, j < 301 → w.2 37 j = lN (pw f j))
    (h1 : ∀ n k, mulFirst f n k → (¬ a1 = 0 → P (nI k) w) ∧ (a1 = 0 → P (nI n) w)) (h0 : (∀ n k, n ≤ 300 → ¬ mulAt f n k) → P (-2) w) : ∃ n', cf_M_multiple_L90 P n' a1 (2 : Int32) w := by
  have hf0 : f ≠ 0 := by omega
  have hb : ∀ n, pw f n < 2 ^ 31 := fun n => pmod_lt31 hf0 hf _
  have h01 : pw f 0 = 1 := pmod_bit hf2 true
  have key : ∀ m n, n + m = 301 → 2 ≤ n → (∀ n' k', n' < n → ¬ mulAt f n' k') → ∀ n', m < n' → cf_M_multiple_L90 P n' a1 (nI n) w := by
    intro m
    induction m with
    | zero =>
      intro n hn hn2 hno n' hn'
      obtain ⟨n', rfl⟩ : ∃ m, n' = m + 1 := ⟨n' - 1, by omega⟩
      show cf_M_multiple_B90 _ _ _ _ _
      unfold cf_M_multiple_B90
      exact ⟨fun _ => h0 (fun n2 k2 q => hno n2 k2 (by omega)), fun z => absurd ((nI_ltI (show 300 < 2 ^ 31 by decide) (by omega)).mpr (by omega)) z⟩
    | succ m ih =>
      intro n hn hn2 hno n' hn'
      obtain ⟨n', rfl⟩ : ∃ m, n' = m + 1 := ⟨n' - 1, by omega⟩
      show cf_M_multiple_B90 _ _ _ _ _
      unfold cf_M_multiple_B90
      refine ⟨fun z => absurd ((nI_ltI (show 300 < 2 ^ 31 by decide) (by omega)).mp z) (by omega), fun _ => ?_⟩
      have inner : ∀ m2 k, k + m2 = n → 1 ≤ k → (∀ k', k' < k → ¬ mulAt f n k') → ∀ n2, m2 < n2 → cf_M_multiple_L101 (cf_M_multiple_L90 P n') P n2 a1 (nI n) (nI k) w := by
        intro m2
        induction m2 with
        | zero =>
          intro k hk hk1 hno2 n2 hn2
          obtain ⟨n2, rfl⟩ : ∃ m, n2 = m + 1 := ⟨n2 - 1, by omega⟩
          show cf_M_multiple_B101 _ _ P _ _ _ _
          unfold cf_M_multiple_B101
          rw [nI_leI (by omega) (by omega)]
          refine ⟨fun _ => ?_, fun z => absurd (show n ≤ k by omega) z⟩
          rintro _ rfl
          rw [nI_1]
          refine ih (n + 1) (by omega) (by omega) (fun n2 k2 q => ?_) n' (by omega)
          by_cases e : n2 = n
          · rw [e]
            intro y
            exact hno2 k2 (by have := y.2.1; omega) y
          · exact hno n2 k2 (by omega)
        | succ m2 ih2 =>
          intro k hk hk1 hno2 n2 hn2
          obtain ⟨n2, rfl⟩ : ∃ m, n2 = m + 1 := ⟨n2 - 1, by omega⟩
          show cf_M_multiple_B101 _ _ P _ _ _ _
          unfold cf_M_multiple_B101
          rw [nI_leI (by omega) (by omega)]
          refine ⟨fun z => absurd z (by omega), fun _ => ⟨vp_in_nI (by omega) (by omega), vp_in_nI (by omega) (by omega), vp_in_nI (n := 0) (by omega) (by omega), ?_⟩⟩
          have e0 : (0 : Int32).toNatClampNeg = 0 := by decide
          have b1 := hb k
          have b2 := hb n
          have b3 : (pw f n ^^^ pw f k) ^^^ 1 < 2 ^ 32 := Nat.xor_lt_two_pow (Nat.xor_lt_two_pow (by omega) (by omega)) (by omega)
          rw [e0, nI_clamp (by omega), nI_clamp (by omega), hc n (by omega), hc k (by omega), hc 0 (by omega), h01, lN_xor, lN_xor, lN_eq0 (by omega), mul_xor]
          refine ⟨fun z => ?_, fun z => h1 n k ⟨by omega, ⟨hk1, by omega, z⟩, hno, hno2⟩⟩
          rintro _ rfl
          rw [nI_1]
          refine ih2 (k + 1) (by omega) (by omega) (fun k' hk' => ?_) n2 (by omega)
          by_cases e : k' = k
          · rw [e]; exact fun y => z y.2.2
          · exact hno2 k' (by omega)
      exact ⟨n + 1, inner (n - 1) 1 (by omega) (by omega) (fun k' hk' y => by have := y.1; omega) (n + 1) (by omega)⟩
  exact ⟨300, key 299 2 (by omega) (by omega) (fun n' k' q y => by have := y.1; have := y.2.1; omega) 300 (by omega)⟩
theorem op_multiple {w : Wd} (hI : Inv w) (a0 : Int32) (a1 : Int32) : same1 (cf_T_multiple a0 a1 w) (cf_M_multiple a0 a1) := by
  intro G h
  obtain ⟨now, u, past, kb, shelf, hc⟩ := hI
  have hI := core_Inv hc
  unfold cf_T_multiple
  have mno : isPl a0 → ¬ (0 ≤ a1.toInt ∧ a1.toInt ≤ 1) → ∀ F : Int32 → Wd → Prop, F (-1) w → cf_M_multiple a0 a1 w F := by
    intro ha hn F hF
    unfold cf_M_multiple
    exact mp_isPlace (fun _ => ⟨fun z => absurd z one_ne', fun _ => mp_inI (lo := 0) (hi := 1) (by decide) (by decide) (fun q => absurd q hn) (fun _ => ⟨fun z => absurd rfl z, fun _ => hF⟩)⟩) (fun z => absurd ha z)
  rw [lt_k 0 (n := 0) (by decide), le_k 1 (n := 1) (by decide)]
  refine sp_isPlace (fun ha => ⟨fun z => absurd z one_ne', fun _ => ⟨fun c1 => both_stay hI h (fun F hF => mno ha (by omega) F hF), fun c1 => ⟨fun c2 => ?_, fun c2 => both_stay hI h (fun F hF => mno ha (by omega) F hF)⟩⟩⟩) (fun hno => ⟨fun _ => both_stay hI h (fun F hF => ?_), fun z => absurd rfl z⟩)
  · obtain ⟨k, hk, rfl⟩ := ha
    obtain ⟨a, ha, e0, e1, e2⟩ := core_poly hc hk
    refine sp_polyAt hk ?_
    rw [e1, show (2 : Int64) = lN 2 from rfl, lN_ltI (by omega) (by omega)]
    have pre : ∀ (w1 : Wd) (F : Int32 → Wd → Prop), core w1 now u past kb shelf → (a < 2 → F (-2) w1) → (2 ≤ a → ∀ w2, core w2 now u past kb shelf → (∀ j, j < 301 → w2.2 37 j = lN (pw a j)) → ∃ n', cf_M_multiple_L90 F n' a1 (2 : Int32) w2) → cf_M_multiple (nI k) a1 w1 F := by
      intro w1 F hc1 f0 f1
      unfold cf_M_multiple
      refine mp_isPlace (fun _ => ⟨fun z => absurd z one_ne', fun _ => mp_inI (lo := 0) (hi := 1) (by decide) (by decide) (fun _ => ⟨fun _ => ⟨vp_in_nI (by omega) (by omega), ?_⟩, fun z => absurd z one_ne'⟩) (fun q => absurd ⟨by omega, c2⟩ q)⟩) (fun z => absurd ⟨k, hk, rfl⟩ z)
      rw [nI_clamp (by omega), (core_poly' hc1 hk e0).2]
      rintro _ rfl
      refine mp_degree (by omega) ?_
      rw [dI_ge1 (by omega)]
      refine ⟨fun z => ?_, fun z => f0 (by omega)⟩
      have hf0 : a ≠ 0 := by omega
      have hb : ∀ n, pw a n < 2 ^ 31 := fun n => pmod_lt31 hf0 ha _
      refine mp_restOf (a := 1) (by omega) (by omega) hf0 ⟨vp_in_nI (n := 0) (by omega) (by omega), ?_⟩
      rintro _ rfl
      have z0 : (0 : Int32).toNatClampNeg = 0 := by decide
      rw [z0]
      have key : ∀ m j w2, j + m = 301 → 1 ≤ j → core w2 now u past kb shelf → (∀ i, i < j → w2.2 37 i = lN (pw a i)) → ∀ n', m < n' → cf_M_multiple_L51 F n' a1 (lN a) (nI j) w2 := by
        intro m
        induction m with
        | zero =>
          intro j w2 hj hj1 hc2 hp n' hn'
          obtain ⟨n', rfl⟩ : ∃ m, n' = m + 1 := ⟨n' - 1, by omega⟩
          show cf_M_multiple_B51 _ _ _ _ _ _
          unfold cf_M_multiple_B51
          have : j = 301 := by omega
          subst this
          exact ⟨fun _ => f1 z w2 hc2 hp, fun y => absurd (show (300 : Int32) < nI 301 by decide) y⟩
        | succ m ih =>
          intro j w2 hj hj1 hc2 hp n' hn'
          obtain ⟨n', rfl⟩ : ∃ m, n' = m + 1 := ⟨n' - 1, by omega⟩
          show cf_M_multiple_B51 _ _ _ _ _ _
          unfold cf_M_multiple_B51
          rw [show nI j - (1 : Int32) = nI (j - 1) from pk_sub (b := 1) (by omega)]
          refine ⟨fun y => absurd ((nI_ltI (show 300 < 2 ^ 31 by decide) (by omega)).mp y) (by omega), fun _ => ⟨vp_in_nI (by omega) (by omega), ?_⟩⟩
          have b1 := hb (j - 1)
          rw [nI_clamp (by omega), hp (j - 1) (by omega), show (1 : Int32) = nI 1 from rfl, lshl_lN _ (by omega), Nat.shiftLeft_eq, Nat.pow_one, Nat.mul_comm]
          refine mp_restOf (by omega) (by omega) hf0 ?_
          rw [pw_succ hf0, show j - 1 + 1 = j by omega]
          refine ⟨vp_in_nI (by omega) (by omega), ?_⟩
          rw [nI_clamp (by omega)]
          rintro _ rfl _ rfl
          rw [nI_add]
          refine ih (j + 1) _ (by omega) (by omega) (core_kp hc2 (kp_wL _ (kp_refl _) rfl) (cache_kc (kc_wL _ (kc_refl _) ⟨fun y => absurd y.1 (by decide), by decide⟩) (core_cache hc2))) (fun i hi => ?_) n' (by omega)
          rw [wL_2]
          by_cases e : i = j
          · rw [if_pos ⟨rfl, e⟩, e]
          · rw [if_neg (fun y => e y.2)]
            exact hp i (by omega)
      refine ⟨301, key 300 1 _ (by omega) (by omega) (core_kp hc1 (kp_wL _ (kp_refl _) rfl) (cache_kc (kc_wL _ (kc_refl _) (by decide)) (core_cache hc1))) (fun i hi => ?_) 301 (by omega)⟩
      have : i = 0 := by omega
      subst this
      rw [wL_2, if_pos ⟨rfl, rfl⟩]
      rfl
    refine ⟨fun z => both_stay hI h (fun F hF => pre w F hc (fun _ => hF) (fun y => absurd y (by omega))), fun z => sp_polyAt hk ?_⟩
    rw [e1]
    have hcw : ∀ w1, fr [(26, 2), (26, 3)] [] [27] w w1 → core w1 now u past kb shelf := fun w1 hf => core_kp hc (kp_fr hf (by decide) (fun k hk => absurd hk (by simp)) (by decide)) (cache_kc (kc_fr hf (by decide) (by decide) (by decide)) (core_cache hc))
    refine sp_findMultiple ha (by omega) (fun w1 n j k1 k2 k3 k4 => ⟨fun _ => ⟨fun z1 => ?_, fun z1 => ?_⟩, fun y => absurd y one_ne'⟩) (fun w1 k1 k2 => ⟨fun y => absurd rfl y, fun _ => h _ _ (fun F hF => pre w1 F (hcw w1 k1) (fun y => absurd y z) (fun _ w2 j1 j2 => mp_mulSearch ha (by omega) j2 (fun n j q => absurd q.2.1 (k2 n j q.1)) (fun _ => hF w2 (core_Inv j1))))⟩)
    · show G (w1.1 26 3) w1
      rw [k4]
      refine h _ _ (fun F hF => pre w1 F (hcw w1 k1) (fun y => absurd y z) (fun _ w2 j1 j2 => mp_mulSearch ha (by omega) j2 (fun n' j' q => ?_) (fun q => absurd k2.2.1 (q n j k2.1))))
      obtain ⟨rfl, rfl⟩ := mulFirst_unique k2 q
      exact ⟨fun _ => hF w2 (core_Inv j1), fun y => absurd y z1⟩
    · show G (w1.1 26 2) w1
      rw [k3]
      refine h _ _ (fun F hF => pre w1 F (hcw w1 k1) (fun y => absurd y z) (fun _ w2 j1 j2 => mp_mulSearch ha (by omega) j2 (fun n' j' q => ?_) (fun q => absurd k2.2.1 (q n j k2.1))))
      obtain ⟨rfl, rfl⟩ := mulFirst_unique k2 q
      exact ⟨fun y => absurd z1 y, fun _ => hF w2 (core_Inv j1)⟩
  · unfold cf_M_multiple
    exact mp_isPlace (fun z => absurd z hno) (fun _ => ⟨fun _ => hF, fun z => absurd rfl z⟩)
