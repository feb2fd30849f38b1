-- what stays: the cells that the relation speaks of
def rI (c i : Nat) : Bool := (c == 6 && (i == 3 || i == 4 || i == 5)) || (c == 30 && (i == 2 || i == 21 || i == 23 || i == 24 || i == 25)) || c == 34 || (c == 2 && i == 1) || c == 3 || c == 43 || (c == 1 && (i == 5 || i == 6 || i == 7))
def rL (c : Nat) : Bool := c == 7 || c == 8 || c == 9 || c == 31 || c == 32 || c == 33
def kp (w w' : Wd) : Prop := (∀ c i, rI c i = true → w'.1 c i = w.1 c i) ∧ (∀ c, rL c = true → ∀ i, w'.2 c i = w.2 c i)
def kc (w w' : Wd) : Prop := w'.1 30 6 = w.1 30 6 ∧ w'.2 30 7 = w.2 30 7 ∧ ∀ i, w'.2 35 i = w.2 35 i
theorem kp_refl (w : Wd) : kp w w := ⟨fun _ _ _ => rfl, fun _ _ _ => rfl⟩
theorem kc_refl (w : Wd) : kc w w := ⟨rfl, rfl, fun _ => rfl⟩
theorem kp_trans {a b c : Wd} (h1 : kp a b) (h2 : kp b c) : kp a c := ⟨fun k i h => (h2.1 k i h).trans (h1.1 k i h), fun k h i => (h2.2 k h i).trans (h1.2 k h i)⟩
theorem kc_trans {a b c : Wd} (h1 : kc a b) (h2 : kc b c) : kc a c := ⟨h2.1.trans h1.1, h2.2.1.trans h1.2.1, fun i => (h2.2.2 i).trans (h1.2.2 i)⟩
theorem kp_wI {w w' : Wd} {c j : Nat} (x : Int32) (h : kp w w') (hn : rI c j = false) : kp w (wI w' c j x) := by
  refine ⟨fun k i hr => ?_, fun k hr i => ?_⟩
  · rw [wI_1, if_neg]
    · exact h.1 k i hr
    · rintro ⟨rfl, rfl⟩
      rw [hn] at hr
      exact absurd hr (by decide)
  · rw [wI_2]; exact h.2 k hr i
theorem kp_wL {w w' : Wd} {c j : Nat} (x : Int64) (h : kp w w') (hn : rL c = false) : kp w (wL w' c j x) := by
  refine ⟨fun k i hr => ?_, fun k hr i => ?_⟩
  · rw [wL_1]; exact h.1 k i hr
  · rw [wL_2, if_neg]
    · exact h.2 k hr i
    · rintro ⟨rfl, -⟩
      rw [hn] at hr
      exact absurd hr (by decide)
theorem kc_wI {w w' : Wd} {c j : Nat} (x : Int32) (h : kc w w') (hn : ¬ (c = 30 ∧ j = 6)) : kc w (wI w' c j x) := by
  refine ⟨?_, ?_, fun i => ?_⟩
  · rw [wI_1, if_neg (fun z => hn ⟨z.1.symm, z.2.symm⟩)]; exact h.1
  · rw [wI_2]; exact h.2.1
  · rw [wI_2]; exact h.2.2 i
theorem kc_wL {w w' : Wd} {c j : Nat} (x : Int64) (h : kc w w') (hn : ¬ (c = 30 ∧ j = 7) ∧ c ≠ 35) : kc w (wL w' c j x) := by
  refine ⟨?_, ?_, fun i => ?_⟩
  · rw [wL_1]; exact h.1
  · rw [wL_2, if_neg (fun z => hn.1 ⟨z.1.symm, z.2.symm⟩)]; exact h.2.1
  · rw [wL_2, if_neg (fun z => hn.2 z.1.symm)]; exact h.2.2 i
theorem cache_kc {w w' : Wd} (h : kc w w') (hc : cacheOk w) : cacheOk w' := by
  rcases hc with e | ⟨a, ps, ha, e1, e2, e3, e4⟩
  · exact Or.inl (h.2.1.trans e)
  · exact Or.inr ⟨a, ps, ha, h.2.1.trans e1, e2, h.1.trans e3, fun j hj => (h.2.2 j).trans (e4 j hj)⟩
theorem core_kp {w w' : Wd} {now : Nat → Int64} {u : Nat} {past : Nat → Nat → Int64} {kb : Nat → Bool} {shelf : Nat → Nat → Int64} (hi : core w now u past kb shelf) (h : kp w w') (hc : cacheOk w') : core w' now u past kb shelf := by
  obtain ⟨⟨h1, h2, h3, ⟨s, hs, h4, h5⟩, h6, h7⟩, ⟨g1, g2, g3, g4, g5, g6⟩, o1, o2, o3, ⟨⟨t, ht, t1, t2, t3⟩, ⟨f1, f2, f3⟩, -⟩⟩ := hi
  have I := h.1
  have L := h.2
  refine ⟨⟨fun i hi => (L 7 rfl i).trans (h1 i hi), h2, (I 6 3 rfl).trans h3, ⟨s, hs, (I 6 4 rfl).trans h4, fun j hj i hi => (L 8 rfl _).trans (h5 j hj i hi)⟩, (I 6 5 rfl).trans h6, fun k hk hb i hi => (L 9 rfl _).trans (h7 k hk hb i hi)⟩, ⟨fun i hi => (L 31 rfl i).trans (g1 i hi), g2, (I 30 2 rfl).trans g3, fun j hj i hi => (L 32 rfl _).trans (g4 j hj i hi), fun k hk => (I 34 k rfl).trans (g5 k hk), fun k hk hb i hi => (L 33 rfl _).trans (g6 k hk hb i hi)⟩, o1, o2, o3, ⟨⟨t, ht, (I 2 1 rfl).trans t1, (I 30 21 rfl).trans t2, fun i hi => ?_⟩, ⟨?_, ?_, ?_⟩, hc⟩⟩
  · rw [I 3 i rfl, I 43 i rfl]; exact t3 i hi
  · rw [I 1 5 rfl, I 30 23 rfl]; exact f1
  · rw [I 1 6 rfl, I 30 24 rfl]; exact f2
  · rw [I 1 7 rfl, I 30 25 rfl]; exact f3
theorem core_cache {w : Wd} {now : Nat → Int64} {u : Nat} {past : Nat → Nat → Int64} {kb : Nat → Bool} {shelf : Nat → Nat → Int64} (hi : core w now u past kb shelf) : cacheOk w := hi.2.2.2.2.2.2.2
theorem Inv_kp {w w' : Wd} (hI : Inv w) (h : kp w w') (hc : cacheOk w') : Inv w' := by
  obtain ⟨now, u, past, kb, shelf, h1⟩ := hI
  exact ⟨now, u, past, kb, shelf, core_kp h1 h hc⟩
theorem Inv_cache {w : Wd} (hI : Inv w) : cacheOk w := by
  obtain ⟨now, u, past, kb, shelf, h1⟩ := hI
  exact core_cache h1
-- lists of factors
theorem isF_unique {a : Nat} {ps qs : List Nat} (h1 : isF a ps) (h2 : isF a qs) : ps = qs := by
  by_cases h : a = 0
  · rw [h1.2.2.1 (by omega), h2.2.2.1 (by omega)]
  · exact factors_unique h1.1 h2.1 h1.2.1 h2.2.1 ((h1.2.2.2 h).trans (h2.2.2.2 h).symm)
theorem isF_irr {a : Nat} {ps : List Nat} (h : isF a ps) : irr a ↔ ps.length = 1 := by
  constructor
  · intro ha
    have : isF a [a] := by
      refine ⟨fun p hp => ?_, List.pairwise_singleton _ _, fun c => ?_, fun _ => cm_one a⟩
      · rw [List.mem_singleton.mp hp]; exact ha
      · have := ha.1; omega
    rw [isF_unique h this]
    rfl
  · intro hl
    obtain ⟨p, rfl⟩ := List.length_eq_one_iff.mp hl
    have ha : a ≠ 0 := by
      intro z
      have := h.2.2.1 (by omega)
      exact absurd this (by simp)
    have e := h.2.2.2 ha
    have e2 : pprod [p] = p := cm_one p
    rw [e2] at e
    rw [← e]
    exact h.1 p List.mem_cons_self
theorem len_dg {l : List Nat} (h : ∀ p ∈ l, irr p) : l.length ≤ dg (pprod l) := by
  induction l with
  | nil => exact Nat.zero_le _
  | cons p l ih =>
    have h1 := ih (fun q hq => h q (List.mem_cons_of_mem _ hq))
    have hp := h p List.mem_cons_self
    show l.length + 1 ≤ dg (cm p (pprod l))
    rw [dg_cm (irr_ne hp) (pprod_ne (fun q hq => h q (List.mem_cons_of_mem _ hq)))]
    have := irr_dg hp
    omega
/-- the cache holds the factors of a -/
def isC (w : Wd) (a : Nat) (ps : List Nat) : Prop := w.2 30 7 = lN a ∧ isF a ps ∧ w.1 30 6 = nI ps.length ∧ ∀ j, j < ps.length → w.2 35 j = lN (ps.getD j 0)
theorem isC_ok {w : Wd} {a : Nat} {ps : List Nat} (ha : a < 2 ^ 63) (h : isC w a ps) : cacheOk w := Or.inr ⟨a, ps, ha, h.1, h.2.1, h.2.2.1, h.2.2.2⟩
theorem isC_kc {w w' : Wd} {a : Nat} {ps : List Nat} (h : isC w a ps) (hk : kc w w') : isC w' a ps := ⟨hk.2.1.trans h.1, h.2.1, hk.1.trans h.2.2.1, fun j hj => (hk.2.2 j).trans (h.2.2.2 j hj)⟩
theorem dI_lt_dI2 {a f : Nat} (ha : a < 2 ^ 63) (hf : f < 2 ^ 63) (h0 : f ≠ 0) : dI a < dI f ↔ sz a < sz f := dI_lt_dI ha hf h0
theorem lN_ne {a b : Nat} (ha : a < 2 ^ 63) (hb : b < 2 ^ 63) (h : a ≠ b) : ¬ lN a = lN b := fun z => h ((lN_eqI ha hb).mp z)
theorem lN_succ (a : Nat) : lN a + (1 : Int64) = lN (a + 1) := lN_add a 1
theorem getD_append_left' {l m : List Nat} {j : Nat} (h : j < l.length) : (l ++ m).getD j 0 = l.getD j 0 := by
  rw [List.getD_eq_getElem?_getD, List.getD_eq_getElem?_getD, List.getElem?_append_left h]
theorem getD_append_last {l : List Nat} {x : Nat} : (l ++ [x]).getD l.length 0 = x := by
  rw [List.getD_eq_getElem?_getD, List.getElem?_append_right (Nat.le_refl _), Nat.sub_self]
  rfl
theorem pdiv_mul {a d : Nat} (hd : d ≠ 0) (h : pdvd d a) : cm (pdiv a d) d = a := by
  have := pdm_eq hd a
  rw [(pdvd_iff hd a).mp h, Nat.xor_zero] at this
  exact this
theorem pdiv_ne {a d : Nat} (hd : d ≠ 0) (ha : a ≠ 0) (h : pdvd d a) : pdiv a d ≠ 0 := by
  intro z
  have := pdiv_mul hd h
  rw [z, zero_cm] at this
  exact ha this.symm
theorem pdiv_dvd {a d : Nat} (hd : d ≠ 0) (h : pdvd d a) : pdvd (pdiv a d) a := ⟨d, by rw [cm_comm]; exact (pdiv_mul hd h).symm⟩
theorem pairwise_snoc {l : List Nat} {x : Nat} (h : l.Pairwise (· ≤ ·)) (hx : ∀ y ∈ l, y ≤ x) : (l ++ [x]).Pairwise (· ≤ ·) := by
  rw [List.pairwise_append]
  refine ⟨h, List.pairwise_singleton _ _, fun a ha b hb => ?_⟩
  rw [List.mem_singleton.mp hb]
  exact hx a ha
/-- what the trial division holds -/
def trial (w : Wd) (a left d : Nat) (acc : List Nat) : Prop :=
  w.2 30 7 = lN a ∧ w.1 30 6 = nI acc.length ∧ (∀ j, j < acc.length → w.2 35 j = lN (acc.getD j 0)) ∧ left ≠ 0 ∧ cm (pprod acc) left = a ∧ (∀ p, p ∈ acc → irr p) ∧ acc.Pairwise (· ≤ ·) ∧ (∀ p, p ∈ acc → p ≤ d) ∧ (∀ e, 2 ≤ e → pdvd e left → d ≤ e)
theorem trial_dg {w : Wd} {a left d : Nat} {acc : List Nat} (h : trial w a left d acc) : acc.length + dg left ≤ dg a := by
  obtain ⟨-, -, -, h4, h5, h6, -⟩ := h
  rw [← h5, dg_cm (pprod_ne h6) h4]
  have := len_dg h6
  omega
theorem mp_inner {w0 : Wd} {a : Nat} (ha : a < 2 ^ 32) {K : Int64 → Int64 → Wd → Prop} {P : Wd → Prop} {d : Nat} (hd : 2 ≤ d) (hd2 : d < 2 ^ 32)
    (h : ∀ w left acc, kp w0 w → trial w a left (d + 1) acc → left < 2 ^ 32 → K (lN left) (lN (d + 1)) w) :
    ∀ m w left acc, kp w0 w → trial w a left d acc → left < 2 ^ 32 → sz left ≤ m → ∀ n, m < n → cf_M_laysFactors_L52 K P n (lN left) (lN d) w := by
  intro m
  induction m with
  | zero =>
    intro w left acc _ ht _ hm
    have := sz_pos ht.2.2.2.1
    omega
  | succ m ih =>
    intro w left acc hk ht hl hm n hn
    obtain ⟨n, rfl⟩ : ∃ m, n = m + 1 := ⟨n - 1, by omega⟩
    show cf_M_laysFactors_B52 K _ P _ _ _
    unfold cf_M_laysFactors_B52
    have hdg := trial_dg ht
    obtain ⟨t1, t2, t3, t4, t5, t6, t7, t8, t9⟩ := ht
    have up : ¬ pdvd d left → K (lN left) (lN (d + 1)) w := by
      intro hnd
      refine h w left acc hk ⟨t1, t2, t3, t4, t5, t6, t7, fun p hp => by have := t8 p hp; omega, fun e he hel => ?_⟩ hl
      have := t9 e he hel
      have : e ≠ d := fun z => hnd (z ▸ hel)
      omega
    have hl63 : left < 2 ^ 63 := by omega
    have hd63 : d < 2 ^ 63 := by omega
    refine mp_degree (by omega) (mp_degree (by omega) ⟨fun c => ?_, fun c => ?_⟩)
    · rintro _ rfl
      rw [lN_succ]
      refine up (fun hdv => ?_)
      have h1 := pdvd_dg t4 hdv
      have h2 := (dI_lt_dI hl63 hd63 (by omega)).mp c
      rw [sz_pos t4, sz_pos (by omega)] at h2
      omega
    · refine mp_restOf hl63 hd63 (by omega) ⟨fun c2 => ?_, fun c2 => ?_⟩
      · rintro _ rfl
        rw [lN_succ]
        refine up (fun hdv => c2 ?_)
        rw [(pdvd_iff (by omega) _).mp hdv]
        rfl
      · have hdv : pdvd d left := (pdvd_iff (by omega) _).mpr ((lN_eq0 (Nat.lt_of_lt_of_le (pmod_bd hl) (by decide))).mp c2)
        have hirr : irr d := by
          refine ⟨hd, fun e he => ?_⟩
          by_cases e1 : e = 1
          · exact Or.inl e1
          · right
            have he0 : e ≠ 0 := by
              intro z
              rw [z] at he
              have := zero_pdvd he
              omega
            have h1 := t9 e (by omega) (pdvd_trans he hdv)
            obtain ⟨q, hq⟩ := he
            have hq0 : q ≠ 0 := by
              intro z
              rw [z, zero_cm] at hq
              omega
            have h2 := dg_cm hq0 he0
            rw [← hq] at h2
            have h3 := dg_le he0 h1
            have h4 : dg q = 0 := by omega
            have h5 := (dg_self hq0).2
            rw [h4] at h5
            have : q = 1 := by omega
            rw [this, one_cm] at hq
            exact hq.symm
        have hdd := irr_dg hirr
        have hdl := pdvd_dg t4 hdv
        have hda : dg a ≤ 31 := by
          by_cases z : a = 0
          · rw [z]; decide
          · have := (dg_lt z).mpr ha; omega
        rw [t2]
        refine ⟨vp_in_nI (by omega) (by omega), ?_⟩
        rw [nI_clamp (by omega)]
        rintro _ rfl _ rfl
        rw [wL_1, t2, nI_1]
        refine mp_quotient hl63 hd63 (by omega) ?_
        have hq0 := pdiv_ne (show d ≠ 0 by omega) t4 hdv
        have hqm := pdiv_mul (show d ≠ 0 by omega) hdv
        have hqd : dg left = dg (pdiv left d) + dg d := by rw [← dg_cm hq0 (by omega), hqm]
        refine ih _ (pdiv left d) (acc ++ [d]) ?_ ⟨?_, ?_, ?_, hq0, ?_, ?_, ?_, ?_, ?_⟩ ?_ ?_ n (by omega)
        · exact kp_wI _ (kp_wL _ hk rfl) rfl
        · rw [wI_2, wL_2, if_neg (by omega)]; exact t1
        · rw [wI_1, if_pos ⟨rfl, rfl⟩, List.length_append]
          rfl
        · intro j hj
          rw [List.length_append] at hj
          have hj : j < acc.length + 1 := hj
          rw [wI_2, wL_2]
          by_cases e : j = acc.length
          · subst e
            rw [if_pos ⟨rfl, rfl⟩, getD_append_last]
          · rw [if_neg (fun z => e z.2), getD_append_left' (by omega)]
            exact t3 j (by omega)
        · rw [pprod_append]
          show cm (cm (pprod acc) (cm d 1)) (pdiv left d) = a
          rw [cm_one, cm_assoc, cm_comm d, hqm]
          exact t5
        · intro p hp
          rcases List.mem_append.mp hp with q | q
          · exact t6 p q
          · rw [List.mem_singleton.mp q]; exact hirr
        · exact pairwise_snoc t7 t8
        · intro p hp
          rcases List.mem_append.mp hp with q | q
          · exact t8 p q
          · rw [List.mem_singleton.mp q]; exact Nat.le_refl _
        · intro e he hel
          exact t9 e he (pdvd_trans hel (pdiv_dvd (by omega) hdv))
        · have h1 := (dg_lt (n := 32) t4).mpr hl
          exact (dg_lt hq0).mp (by omega)
        · rw [sz_pos hq0]
          rw [sz_pos t4] at hm
          omega
theorem dI_lt1' {m : Nat} (hm : m < 2 ^ 63) : dI m < (1 : Int32) ↔ m < 2 := dI_lt1 hm
theorem mp_outer {w0 : Wd} {a : Nat} (ha : a < 2 ^ 32) {P : Wd → Prop} (h : ∀ w ps, kp w0 w → isC w a ps → P w) :
    ∀ m w left d acc, kp w0 w → trial w a left d acc → left < 2 ^ 32 → 2 ≤ d → d ≤ 2 ^ 32 → 2 ^ 32 + 1 ≤ d + m → ∀ n, m < n → cf_M_laysFactors_L27 P n (lN left) (lN d) w := by
  intro m
  induction m with
  | zero => intro w left d acc _ _ _ _ h1 h2; omega
  | succ m ih =>
    intro w left d acc hk ht hl hd2 hd hm n hn
    obtain ⟨n, rfl⟩ : ∃ m, n = m + 1 := ⟨n - 1, by omega⟩
    show cf_M_laysFactors_B27 _ _ _ _ _
    unfold cf_M_laysFactors_B27
    have ht' := ht
    obtain ⟨t1, t2, t3, t4, t5, t6, t7, t8, t9⟩ := ht
    refine mp_degree (by omega) ⟨fun c => ?_, fun c => ?_⟩
    · have : left = 1 := by
        have := (dI_lt1 (m := left) (by omega)).mp c
        omega
      rw [this, cm_one] at t5
      refine h w acc hk ⟨t1, ⟨t6, t7, fun c2 => ?_, fun _ => t5⟩, t2, t3⟩
      have := len_dg t6
      rw [t5] at this
      refine List.length_eq_zero_iff.mp ?_
      have h0 : dg a = 0 := by
        rcases (show a = 0 ∨ a = 1 by omega) with e | e <;> rw [e] <;> decide
      omega
    · have hl2 : 2 ≤ left := by
        have : ¬ left < 2 := fun z => c ((dI_lt1 (m := left) (by omega)).mpr z)
        omega
      have fin : ∀ d', d ≤ d' → d' < 2 ^ 32 → (∀ p, p ∈ acc → p ≤ d') → (∀ e, 2 ≤ e → pdvd e left → d' ≤ e) → ∃ n_1, cf_M_laysFactors_L52 (cf_M_laysFactors_L27 P n) P n_1 (lN left) (lN d') w := by
        intro d' h1 h2 h3 h4
        refine ⟨sz left + 1, mp_inner ha (by omega) h2 (fun w' left' acc' k1 k2 k3 => ih w' left' (d' + 1) acc' k1 k2 k3 (by omega) (by omega) (by omega) n (by omega)) (sz left) w left acc hk ⟨t1, t2, t3, t4, t5, t6, t7, h3, h4⟩ hl (Nat.le_refl _) _ (Nat.lt_succ_self _)⟩
      have hlt : left < 2 ^ 63 := by omega
      have hdt : d < 2 ^ 63 := by omega
      refine mp_degree (by omega) (mp_degree (by omega) ?_)
      rw [dI_pos (by omega), dI_pos t4]
      have hb1 := (dg_lt (n := 32) t4).mpr hl
      have hb2 := (dg_lt (a := d) (n := 33) (by omega)).mpr (by omega)
      have e2 : (2 : Int32) * nI (dg d) = nI (2 * dg d) := nI_mul 2 _
      rw [e2, nI_leI (by omega) (by omega)]
      refine ⟨fun c2 => ?_, fun c2 => ?_⟩
      · refine fin d (Nat.le_refl _) ?_ t8 t9
        exact (dg_lt (by omega)).mp (by omega)
      · have hirr : irr left := by
          refine ⟨hl2, fun e he => ?_⟩
          by_cases c3 : e = 1
          · exact Or.inl c3
          by_cases c4 : e = left
          · exact Or.inr c4
          obtain ⟨e', h1, h3, h4⟩ := half_div hl2 he c3 c4
          have h5 := t9 e' h1 h3
          have := dg_le (by omega) h5
          omega
        have hdl := t9 left hl2 (pdvd_refl left)
        refine fin left hdl hl (fun p hp => Nat.le_trans (t8 p hp) hdl) (fun e he hel => ?_)
        rcases hirr.2 e hel with q | q
        · omega
        · omega
theorem mp_laysFactors {w : Wd} {a : Nat} {P : Wd → Prop} (hc : cacheOk w) (ha : a < 2 ^ 32) (h : ∀ w' ps, kp w w' → isC w' a ps → P w') : cf_M_laysFactors (lN a) w P := by
  unfold cf_M_laysFactors
  refine ⟨fun c => ?_, fun c => ?_⟩
  · rintro _ rfl _ rfl
    have k0 : kp w (wI (wL w 30 7 (lN a)) 30 6 0) := kp_wI _ (kp_wL _ (kp_refl w) rfl) rfl
    have z1 : (wI (wL w 30 7 (lN a)) 30 6 0).2 30 7 = lN a := by rw [wI_2, wL_2, if_pos ⟨rfl, rfl⟩]
    have z2 : (wI (wL w 30 7 (lN a)) 30 6 0).1 30 6 = nI 0 := by rw [wI_1, if_pos ⟨rfl, rfl⟩]; rfl
    by_cases h0 : a = 0
    · subst h0
      refine ⟨1, ?_⟩
      show cf_M_laysFactors_B27 _ _ _ _ _
      unfold cf_M_laysFactors_B27
      refine mp_degree (by omega) ⟨fun _ => ?_, fun c2 => absurd ((dI_lt1 (m := 0) (by omega)).mpr (by omega)) c2⟩
      exact h _ [] k0 ⟨z1, ⟨fun p hp => absurd hp (by simp), List.Pairwise.nil, fun _ => rfl, fun z => absurd rfl z⟩, z2, fun j hj => absurd hj (by simp)⟩
    · refine ⟨2 ^ 32, mp_outer ha h (2 ^ 32 - 1) _ a 2 [] k0 ⟨z1, z2, fun j hj => absurd hj (by simp), h0, one_cm a, fun p hp => absurd hp (by simp), List.Pairwise.nil, fun p hp => absurd hp (by simp), fun e he _ => he⟩ ha (by omega) (by omega) (by omega) _ (by omega)⟩
  · rcases hc with e | ⟨b, ps, hb, e1, e2, e3, e4⟩
    · exfalso
      rw [e] at c
      have h1 : (lN a).toInt = (a : Int) := lN_toInt' (by omega)
      rw [← c] at h1
      have h2 : (-1 : Int64).toInt = -1 := by decide
      omega
    · rw [e1] at c
      have : b = a := (lN_eqI hb (by omega)).mp c
      subst this
      exact h w ps (kp_refl w) ⟨e1, e2, e3, e4⟩
theorem mp_isIrr {w : Wd} {a : Nat} {P : Int32 → Wd → Prop} (hc : cacheOk w) (ha : a < 2 ^ 32) (h1 : ∀ w', kp w w' → cacheOk w' → irr a → P 1 w') (h0 : ∀ w', kp w w' → cacheOk w' → ¬ irr a → P 0 w') : cf_M_isIrreducible (lN a) w P := by
  unfold cf_M_isIrreducible
  refine mp_laysFactors hc ha (fun w' ps k1 k2 => ?_)
  have hok := isC_ok (by omega) k2
  have hl : ps.length < 2 ^ 31 := by
    by_cases z : a = 0
    · rw [k2.2.1.2.2.1 (by omega)]; decide
    · have := len_dg k2.2.1.1
      rw [k2.2.1.2.2.2 z] at this
      have := (dg_lt z).mpr ha
      omega
  rw [k2.2.2.1, nI_eq1 hl, ← isF_irr k2.2.1]
  exact ⟨fun c => h0 w' k1 hok c, fun c => h1 w' k1 hok c⟩
