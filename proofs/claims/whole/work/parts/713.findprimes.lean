-- both find the primes of a number
theorem lrem_lN {a b : Nat} (ha : a < 2 ^ 63) (h0 : 0 < b) (hb : b < 2 ^ 63) : lrem (lN a) (lN b) = lN (a % b) := pk_lRem ha h0 hb
theorem ldiv_lN {a b : Nat} (ha : a < 2 ^ 63) (h0 : 0 < b) (hb : b < 2 ^ 63) : lN a / lN b = lN (a / b) := pk_lDiv ha h0 hb
theorem sq_big {p left : Nat} (h : 65537 ≤ p) (hl : left < 2 ^ 32) : left < p * p := by
  have := Nat.mul_le_mul h h
  omega
/-- a list of numbers in a row of longs, how many in a slot -/
def pst (c i b : Nat) (w : Wd) (ps : List Nat) : Prop := w.1 c i = nI ps.length ∧ ∀ j, j < ps.length → w.2 b j = lN (ps.getD j 0)
theorem pst_put {c i b : Nat} {w : Wd} {ps : List Nat} {x : Nat} (h : pst c i b w ps) : pst c i b (wI (wL w b ps.length (lN x)) c i (nI (ps.length + 1))) (ps ++ [x]) := by
  refine ⟨?_, fun j hj => ?_⟩
  · rw [wI_1, if_pos ⟨rfl, rfl⟩, List.length_append]; rfl
  · rw [List.length_append] at hj
    have hj : j < ps.length + 1 := hj
    rw [wI_2, wL_2]
    by_cases e : j = ps.length
    · subst e
      rw [if_pos ⟨rfl, rfl⟩, getD_append_last]
    · rw [if_neg (fun z => e z.2), getD_append_left' (by omega)]
      exact h.2 j (by omega)
theorem sp_notePrime {c : Nat} {w : Wd} {acc : List Nat} {p : Nat} {P : Wd → Prop} (hA : pst c 1 (c + 1) w acc) (hl : acc.length < 16) (h : ∀ w', fr [(c, 1)] [] [c + 1] w w' → pst c 1 (c + 1) w' (acc ++ [p]) → P w') : cf_Orders_notePrime c (lN p) w P := by
  unfold cf_Orders_notePrime
  rw [hA.1]
  refine ⟨fun z => ?_, fun _ => ⟨vp_in_nI (by omega) (by omega), ?_⟩⟩
  · have := (nI_leI (show 16 < 2 ^ 31 by decide) (show acc.length < 2 ^ 31 by omega)).mp z
    omega
  · rw [nI_clamp (by omega)]
    rintro _ rfl _ rfl
    rw [wL_1, hA.1, nI_1]
    exact h _ (fr_wI _ (fr_wL _ (fr_refl _ _ _ _) (by simp)) (by simp)) (pst_put hA)
theorem sieve_not {n left d : Nat} {acc : List Nat} (h : sieve n left d acc) (hd : ¬ d ∣ left) : sieve n left (d + 1) acc := by
  refine sieve_up h (by omega) (fun p hp hpl => ?_)
  have := h.2.2.2.2.2.1 p hp hpl
  have : p ≠ d := fun z => hd (z ▸ hpl)
  omega
theorem sieve_odd {n left d : Nat} {acc : List Nat} (h : sieve n left (d + 1) acc) (hd : d % 2 = 1) (h3 : 2 ≤ d) : sieve n left (d + 2) acc := by
  refine sieve_up h (by omega) (fun p hp hpl => ?_)
  have h4 := h.2.2.2.2.2.1 p hp hpl
  have : p ≠ d + 1 := by
    intro z
    have h5 : 2 ∣ p := by omega
    rcases hp.2 2 h5 with q | q <;> omega
  omega
theorem div_pow_step {d k l left : Nat} (hd : 0 < d) (he : d ^ k * l = left) (hdv : d ∣ l) : d ^ (k + 1) * (l / d) = left := by
  rw [Nat.pow_succ, Nat.mul_assoc, Nat.mul_div_cancel' hdv]
  exact he
theorem pow_lt_bound {d k l left : Nat} (hd : 2 ≤ d) (hl : 1 ≤ l) (he : d ^ k * l = left) (h : left < 2 ^ 32) : k ≤ 32 := by
  refine Classical.byContradiction (fun hc => ?_)
  have h1 : 2 ^ 33 ≤ d ^ k := Nat.le_trans (Nat.pow_le_pow_right (by omega) (show 33 ≤ k by omega)) (Nat.pow_le_pow_left hd k)
  have h2 : d ^ k * 1 ≤ d ^ k * l := Nat.mul_le_mul_left _ hl
  omega
theorem sp_findPrimes {c n : Nat} {w0 : Wd} {P : Wd → Prop} (h1 : 1 ≤ n) (hn : n < 2 ^ 32) (h : ∀ w' ps, fr [(c, 1)] [] [c + 1] w0 w' → isPL n ps → pst c 1 (c + 1) w' ps → ps.length ≤ 12 → P w') : cf_Orders_findPrimes c (lN n) w0 P := by
  have fin : ∀ w left d acc, fr [(c, 1)] [] [c + 1] w0 w → sieve n left d acc → left < 2 ^ 32 → pst c 1 (c + 1) w acc → left < d * d →
      ((lN left ≤ (1 : Int64) → P w) ∧ (¬ lN left ≤ (1 : Int64) → cf_Orders_notePrime c (lN left) w (fun w2 => P w2))) := by
    intro w left d acc hf hs hl hp hd
    have hlen := sieve_len hn hs
    have e := lN_leI (a := left) (b := 1) (by omega) (by decide)
    refine ⟨fun cc => ?_, fun cc => ?_⟩
    · have : left = 1 := by
        have := e.mp cc
        have := hs.1
        omega
      subst this
      exact h w acc hf (sieve_end hs) hp (by omega)
    · have hl2 : 2 ≤ left := by
        have : ¬ left ≤ 1 := fun z => cc (e.mpr z)
        omega
      have hpl := sieve_last hs hl2 hd
      refine sp_notePrime hp (by omega) (fun w' k1 k2 => h w' _ (fr_trans hf k1) ?_ k2 (by simp; omega))
      have hdl : d ≤ left := hs.2.2.2.2.2.1 left hpl (Nat.dvd_refl left)
      have hs2 : sieve n left left acc := sieve_up hs hdl (fun q hq hql => Nat.le_of_eq (prm_dvd_prm hq hpl hql).symm)
      exact sieve_end (sieve_take hs2 hpl (Nat.le_refl 1) (show left ^ 1 * 1 = left by rw [Nat.pow_one, Nat.mul_one]) (fun z => by have := Nat.le_of_dvd (by omega) z; omega))
  have key : ∀ m d left acc w, 70000 ≤ d + m → (d = 2 ∨ d % 2 = 1) → d ≤ 65540 → fr [(c, 1)] [] [c + 1] w0 w → sieve n left d acc → left < 2 ^ 32 → pst c 1 (c + 1) w acc → ∀ n', m < n' → cf_Orders_findPrimes_L12 c P n' (lN left) (lN d) w := by
    intro m
    induction m with
    | zero => intro d left acc w h1 _ h2; omega
    | succ m ih =>
      intro d left acc w hm hdo hdb hf hs hl hp n' hn'
      obtain ⟨n', rfl⟩ : ∃ m, n' = m + 1 := ⟨n' - 1, by omega⟩
      show cf_Orders_findPrimes_B12 _ _ _ _ _ _
      unfold cf_Orders_findPrimes_B12
      have hd2 : 2 ≤ d := by have := hs.2.2.2.2.2.2.2.2; omega
      have hsq : d * d ≤ 65540 * 65540 := Nat.mul_le_mul hdb hdb
      have e1 := lN_ltI (a := 65536) (b := d) (by decide) (by omega)
      have e2 := lN_ltI (a := left) (b := d * d) (by omega) (by omega)
      rw [lN_mul]
      have hlen := sieve_len hn hs
      -- on to the next candidate
      have next : ∀ w' l' acc', fr [(c, 1)] [] [c + 1] w0 w' → sieve n l' (d + 1) acc' → l' < 2 ^ 32 → pst c 1 (c + 1) w' acc' → cf_Orders_findPrimes_B76 c (cf_Orders_findPrimes_L12 c P n') P (lN l') (lN d) w' := by
        intro w' l' acc' hf' hs' hl' hp'
        unfold cf_Orders_findPrimes_B76
        have e3 : lN d = (2 : Int64) ↔ d = 2 := lN_eqI (b := 2) (by omega) (by decide)
        rw [e3]
        refine ⟨fun q => ?_, fun q => ?_⟩
        · rintro _ rfl
          have e4 : lN d + (2 : Int64) = lN (d + 2) := lN_add d 2
          rw [e4]
          have ho : d % 2 = 1 := hdo.resolve_left q
          by_cases hb : d + 2 ≤ 65540
          · exact ih (d + 2) l' acc' w' (by omega) (Or.inr (by omega)) hb hf' (sieve_odd hs' ho hd2) hl' hp' n' (by omega)
          · -- beyond the bound: one more look
            have hs3 := sieve_odd hs' ho hd2
            obtain ⟨n', rfl⟩ : ∃ m, n' = m + 1 := ⟨n' - 1, by omega⟩
            show cf_Orders_findPrimes_B12 _ _ _ _ _ _
            unfold cf_Orders_findPrimes_B12
            refine ⟨fun _ => fin w' l' (d + 2) acc' hf' hs3 hl' hp' (sq_big (by omega) hl'), fun z => absurd ((lN_ltI (a := 65536) (b := d + 2) (by decide) (by omega)).mpr (by omega)) z⟩
        · rintro _ rfl
          rw [lN_succ]
          subst q
          exact ih 3 l' acc' w' (by omega) (Or.inr rfl) (by omega) hf' hs' hl' hp' n' (by omega)
      refine ⟨fun z => fin w left d acc hf hs hl hp (sq_big (by have := e1.mp z; omega) hl), fun z => ⟨fun z2 => fin w left d acc hf hs hl hp (e2.mp z2), fun z2 => ⟨lN_ne (b := 0) (by omega) (by decide) (by omega), ?_⟩⟩⟩
      rw [lrem_lN (by omega) (by omega) (by omega)]
      have e5 : lN (left % d) = (0 : Int64) ↔ d ∣ left := by
        rw [lN_eq0 (by have := Nat.mod_le left d; omega)]
        exact (Nat.dvd_iff_mod_eq_zero).symm
      rw [e5]
      refine ⟨fun q => next w left acc hf (sieve_not hs q) hl hp, fun q => ?_⟩
      have hpd := sieve_prm hs q
      refine sp_notePrime hp (by omega) (fun w2 k1 k2 => ?_)
      have inner : ∀ m2 k l, 64 ≤ k + m2 → 1 ≤ l → d ^ k * l = left → (k = 0 → d ∣ l) → ∀ n2, m2 < n2 → cf_Orders_findPrimes_L49 c (cf_Orders_findPrimes_L12 c P n') P n2 (lN l) (lN d) (nI k) w2 := by
        intro m2
        induction m2 with
        | zero =>
          intro k l hk hl1 he _ n2 _
          have := pow_lt_bound hd2 hl1 he hl
          omega
        | succ m2 ih2 =>
          intro k l hk hl1 he hk0 n2 hn2
          obtain ⟨n2, rfl⟩ : ∃ m, n2 = m + 1 := ⟨n2 - 1, by omega⟩
          show cf_Orders_findPrimes_B49 c _ _ P _ _ _ _
          unfold cf_Orders_findPrimes_B49
          have hkb := pow_lt_bound hd2 hl1 he hl
          have hll : l < 2 ^ 32 := by
            have : 1 * l ≤ d ^ k * l := Nat.mul_le_mul_right _ (Nat.pow_pos (by omega))
            omega
          refine ⟨fun z => ?_, fun _ => ⟨lN_ne (b := 0) (by omega) (by decide) (by omega), ?_⟩⟩
          · have := (nI_leI (show 64 < 2 ^ 31 by decide) (show k < 2 ^ 31 by omega)).mp z
            omega
          · rw [lrem_lN (by omega) (by omega) (by omega)]
            have e6 : lN (l % d) = (0 : Int64) ↔ d ∣ l := by
              rw [lN_eq0 (by have := Nat.mod_le l d; omega)]
              exact (Nat.dvd_iff_mod_eq_zero).symm
            rw [e6]
            refine ⟨fun r => next w2 l (acc ++ [d]) (fr_trans hf k1) (sieve_take hs hpd (Nat.pos_of_ne_zero (fun y => r (hk0 y))) he r) hll k2, fun r => ⟨lN_ne (b := 0) (by omega) (by decide) (by omega), ?_⟩⟩
            rw [ldiv_lN (by omega) (by omega) (by omega)]
            rintro _ rfl _ rfl
            rw [nI_1]
            refine ih2 (k + 1) (l / d) (by omega) ?_ (div_pow_step (by omega) he r) (fun y => absurd y (by omega)) n2 (by omega)
            exact Nat.div_pos (Nat.le_of_dvd (by omega) r) (by omega)
      exact ⟨65, inner 64 0 left (by omega) hs.1 (by rw [Nat.pow_zero, Nat.one_mul]) (fun _ => q) 65 (by omega)⟩
  unfold cf_Orders_findPrimes
  rintro _ rfl
  refine ⟨70000, key 69998 2 n [] _ (by omega) (Or.inl rfl) (by omega) (fr_wI _ (fr_refl _ _ _ _) (by simp)) (sieve_start h1) hn ⟨?_, fun j hj => absurd hj (by simp)⟩ _ (by omega)⟩
  rw [wI_1, if_pos ⟨rfl, rfl⟩]
  rfl
theorem mp_laysPrimes {n : Nat} {w0 : Wd} {P : Wd → Prop} (h1 : 1 ≤ n) (hn : n < 2 ^ 32) (h : ∀ w' ps, fr [(30, 9)] [] [36] w0 w' → isPL n ps → pst 30 9 36 w' ps → ps.length ≤ 12 → P w') : cf_M_laysPrimes (lN n) w0 P := by
  have key : ∀ m d left acc w, fr [(30, 9)] [] [36] w0 w → sieve n left d acc → left < 2 ^ 32 → pst 30 9 36 w acc → acc.length ≤ 12 → ∀ n', ((left = 1 ∧ 1 ≤ n') ∨ (70000 ≤ d + m ∧ d ≤ 65540 ∧ m + 2 ≤ n')) → cf_M_laysPrimes_L12 P n' (lN left) (lN d) w := by
    intro m
    have one : ∀ d acc w, fr [(30, 9)] [] [36] w0 w → sieve n 1 d acc → pst 30 9 36 w acc → acc.length ≤ 12 → ∀ n', 1 ≤ n' → cf_M_laysPrimes_L12 P n' (lN 1) (lN d) w := by
      intro d acc w hf hs hp hlen n' hn'
      obtain ⟨n', rfl⟩ : ∃ m, n' = m + 1 := ⟨n' - 1, by omega⟩
      show cf_M_laysPrimes_B12 _ _ _ _ _
      unfold cf_M_laysPrimes_B12
      exact ⟨fun _ => h w acc hf (sieve_end hs) hp hlen, fun z => absurd (show lN 1 ≤ (1 : Int64) by decide) z⟩
    induction m with
    | zero =>
      intro d left acc w hf hs hl hp hlen n' hor
      rcases hor with ⟨e, h2⟩ | ⟨h2, h3, -⟩
      · subst e; exact one d acc w hf hs hp hlen n' h2
      · omega
    | succ m ih =>
      intro d left acc w hf hs hl hp hlen n' hor
      by_cases hl1 : left = 1
      · subst hl1
        exact one d acc w hf hs hp hlen n' (by omega)
      rcases hor with ⟨e, h2⟩ | ⟨hm, hdb, hn'⟩
      · exact absurd e hl1
      obtain ⟨n', rfl⟩ : ∃ m, n' = m + 1 := ⟨n' - 1, by omega⟩
      show cf_M_laysPrimes_B12 _ _ _ _ _
      unfold cf_M_laysPrimes_B12
      have hd2 : 2 ≤ d := by have := hs.2.2.2.2.2.2.2.2; omega
      have hl2 : 2 ≤ left := by have := hs.1; omega
      have hsq : d * d ≤ 65540 * 65540 := Nat.mul_le_mul hdb hdb
      have hlen2 := sieve_len hn hs
      have e1 := lN_leI (a := left) (b := 1) (by omega) (by decide)
      -- one candidate d' looked at
      have look : ∀ d', sieve n left d' acc → 2 ≤ d' → d' < 2 ^ 32 → (d' = left ∨ d' ≤ 65535 ∧ d ≤ d') → cf_M_laysPrimes_B31 (cf_M_laysPrimes_L12 P n') P (lN left) (lN d') w := by
        intro d' hs' hd2' hd32 hdd
        unfold cf_M_laysPrimes_B31
        refine ⟨lN_ne (b := 0) (by omega) (by decide) (by omega), ?_⟩
        rw [lrem_lN (by omega) (by omega) (by omega)]
        have e5 : lN (left % d') = (0 : Int64) ↔ d' ∣ left := by
          rw [lN_eq0 (by have := Nat.mod_le left d'; omega)]
          exact (Nat.dvd_iff_mod_eq_zero).symm
        rw [e5]
        refine ⟨fun q => ?_, fun q => ?_⟩
        · rw [hp.1]
          refine ⟨vp_in_nI (by omega) (by omega), ?_⟩
          rw [nI_clamp (by omega)]
          rintro _ rfl _ rfl
          rw [wL_1, hp.1, nI_1]
          have hpd := sieve_prm hs' q
          have hf2 : fr [(30, 9)] [] [36] w0 (wI (wL w 36 acc.length (lN d')) 30 9 (nI (acc.length + 1))) := fr_wI _ (fr_wL _ hf (by simp)) (by simp)
          have hp2 := pst_put (x := d') hp
          generalize wI (wL w 36 acc.length (lN d')) 30 9 (nI (acc.length + 1)) = w2 at hf2 hp2
          have inner : ∀ m2 k l, 64 ≤ k + m2 → 1 ≤ l → d' ^ k * l = left → (k = 0 → d' ∣ l) → ∀ n2, m2 < n2 → cf_M_laysPrimes_L64 (cf_M_laysPrimes_L12 P n') P n2 (lN l) (lN d') w2 := by
            intro m2
            induction m2 with
            | zero =>
              intro k l hk hl1 he _ n2 _
              have := pow_lt_bound hd2' hl1 he hl
              omega
            | succ m2 ih2 =>
              intro k l hk hl1 he hk0 n2 hn2
              obtain ⟨n2, rfl⟩ : ∃ m, n2 = m + 1 := ⟨n2 - 1, by omega⟩
              show cf_M_laysPrimes_B64 _ _ P _ _ _
              unfold cf_M_laysPrimes_B64
              have hll : l < 2 ^ 32 := by
                have : 1 * l ≤ d' ^ k * l := Nat.mul_le_mul_right _ (Nat.pow_pos (by omega))
                omega
              refine ⟨lN_ne (b := 0) (by omega) (by decide) (by omega), ?_⟩
              rw [lrem_lN (by omega) (by omega) (by omega)]
              have e6 : lN (l % d') = (0 : Int64) ↔ d' ∣ l := by
                rw [lN_eq0 (by have := Nat.mod_le l d'; omega)]
                exact (Nat.dvd_iff_mod_eq_zero).symm
              rw [e6]
              refine ⟨fun r => ?_, fun r => ⟨lN_ne (b := 0) (by omega) (by decide) (by omega), ?_⟩⟩
              · rintro _ rfl
                rw [lN_succ]
                have hk1 : 1 ≤ k := Nat.pos_of_ne_zero (fun y => r (hk0 y))
                refine ih (d' + 1) l (acc ++ [d']) w2 hf2 (sieve_take hs' hpd hk1 he r) hll hp2 (by simp; omega) n' ?_
                rcases hdd with e | ⟨e, e'⟩
                · left
                  refine ⟨?_, by omega⟩
                  have : d' ^ 1 ≤ d' ^ k := Nat.pow_le_pow_right (by omega) hk1
                  rw [Nat.pow_one] at this
                  have h3 : d' * l ≤ d' ^ k * l := Nat.mul_le_mul_right _ this
                  rw [he, e] at h3
                  have h4 : left * l ≤ left * 1 := by omega
                  have := Nat.le_of_mul_le_mul_left h4 (by omega)
                  omega
                · right
                  exact ⟨by omega, by omega, by omega⟩
              · rw [ldiv_lN (by omega) (by omega) (by omega)]
                rintro _ rfl
                refine ih2 (k + 1) (l / d') (by omega) ?_ (div_pow_step (by omega) he r) (fun y => absurd y (by omega)) n2 (by omega)
                exact Nat.div_pos (Nat.le_of_dvd (by omega) r) (by omega)
          exact ⟨65, inner 64 0 left (by omega) hs.1 (by rw [Nat.pow_zero, Nat.one_mul]) (fun _ => q) 65 (by omega)⟩
        · rintro _ rfl
          rw [lN_succ]
          rcases hdd with e | ⟨e, e'⟩
          · exact absurd (e ▸ Nat.dvd_refl _) q
          · exact ih (d' + 1) left acc w hf (sieve_not hs' q) hl hp hlen n' (Or.inr ⟨by omega, by omega, by omega⟩)
      refine ⟨fun z => absurd (e1.mp z) (by omega), fun _ => ?_⟩
      rw [lN_mul, lN_leI (by omega) (by omega)]
      refine ⟨fun z => look d hs hd2 (by omega) (Or.inr ⟨?_, Nat.le_refl _⟩), fun z => ?_⟩
      · refine Classical.byContradiction (fun hc => ?_)
        have := Nat.mul_le_mul (show 65536 ≤ d by omega) (show 65536 ≤ d by omega)
        omega
      · have hpl := sieve_last hs hl2 (by omega)
        have hdl : d ≤ left := hs.2.2.2.2.2.1 left hpl (Nat.dvd_refl left)
        exact look left (sieve_up hs hdl (fun q hq hql => Nat.le_of_eq (prm_dvd_prm hq hpl hql).symm)) hl2 hl (Or.inl rfl)
  unfold cf_M_laysPrimes
  rintro _ rfl
  refine ⟨70002, key 69998 2 n [] _ (fr_wI _ (fr_refl _ _ _ _) (by simp)) (sieve_start h1) hn ⟨?_, fun j hj => absurd hj (by simp)⟩ (by simp) _ (Or.inr ⟨by omega, by omega, by omega⟩)⟩
  rw [wI_1, if_pos ⟨rfl, rfl⟩]
  rfl
