-- the least polynomial of an element
/-- s is the one of least degree, g, that is 0 at a -/
def mpoly (a f s g : Nat) : Prop := 2 ^ g ≤ s ∧ s < 2 ^ (g + 1) ∧ pdvd f (pcomp s a) ∧ ∀ t, t < 2 ^ g → t ≠ 0 → ¬ pdvd f (pcomp t a)
theorem mpoly_ne {a f s g : Nat} (h : mpoly a f s g) : s ≠ 0 := by
  have := Nat.pow_pos (n := g) (show 0 < 2 by omega)
  have := h.1
  omega
theorem mpoly_dg {a f s g : Nat} (h : mpoly a f s g) : dg s = g := (log2_iff (mpoly_ne h)).mpr ⟨h.1, h.2.1⟩
theorem mpoly_dvd {a f s g t : Nat} (h : mpoly a f s g) (ht : pdvd f (pcomp t a)) : pdvd s t := by
  have hs := mpoly_ne h
  have e := pdm_eq hs t
  have h1 : pdvd f (pcomp (pmod t s) a) := by
    have h2 : pcomp t a = cm (pcomp (pdiv t s) a) (pcomp s a) ^^^ pcomp (pmod t s) a := by rw [← pcomp_cm, ← pcomp_add, e]
    have h3 : pdvd f (cm (pcomp (pdiv t s) a) (pcomp s a)) := pdvd_mul_left _ h.2.2.1
    refine pdvd_xor_cancel h3 ?_
    rw [← h2]
    exact ht
  have h4 : pmod t s = 0 := by
    refine Classical.byContradiction (fun z => h.2.2.2 _ ?_ z h1)
    have := pmod_lt hs t
    rw [mpoly_dg h] at this
    exact this
  exact (pdvd_iff hs t).mpr h4
theorem mpoly_irr {a f s g : Nat} (hf : irr f) (h : mpoly a f s g) (hg : 1 ≤ g) : irr s := by
  have hs := mpoly_ne h
  have h2 : 2 ≤ s := by
    have := Nat.pow_le_pow_right (show 0 < 2 by omega) hg
    have := h.1
    omega
  refine ⟨h2, fun d hd => ?_⟩
  obtain ⟨q, e⟩ := hd
  have h3 : pdvd f (cm (pcomp q a) (pcomp d a)) := by rw [← pcomp_cm, ← e]; exact h.2.2.1
  have hq0 : q ≠ 0 := by
    intro z
    rw [z, zero_cm] at e
    exact hs e
  have hd0 : d ≠ 0 := by
    intro z
    rw [z, cm_zero] at e
    exact hs e
  have hdg : dg s = dg q + dg d := by rw [← dg_cm hq0 hd0, ← e]
  rcases irr_euclid hf h3 with r | r
  · left
    have h4 := pdvd_dg hq0 (mpoly_dvd h r)
    have h5 : dg d = 0 := by omega
    have h6 := (dg_self hd0).2
    rw [h5] at h6
    omega
  · right
    have h4 := pdvd_dg hd0 (mpoly_dvd h r)
    have h5 : dg q = 0 := by omega
    have h6 := (dg_self hq0).2
    rw [h5] at h6
    have : q = 1 := by omega
    rw [e, this, one_cm]
theorem mpoly_pos {a f s g : Nat} (hf : irr f) (h : mpoly a f s g) : 1 ≤ g := by
  refine Nat.pos_of_ne_zero (fun z => ?_)
  subst z
  have h1 := h.1
  have h2 := h.2.1
  have e : s = 1 := by omega
  have h3 := h.2.2.1
  rw [e, pcomp_one] at h3
  exact irr_not_one hf h3
theorem cj_inc {a f g : Nat} (h : inF a f) (hg : cjFirst a f g) {i j : Nat} (hij : i < j) (hj : j < g) : ¬ cg f (cj a f i) (cj a f j) := by
  intro hc
  have hf0 := irr_ne h.1
  refine hg.2.2.2 (j - i) (by omega) (by omega) (cg_small hf0 ?_ (cj_lt h _) h.2)
  have h1 : cg f (ppow a (2 ^ i)) (ppow a (2 ^ j)) := cg_trans (cg_symm (cj_cg hf0 i)) (cg_trans hc (cj_cg hf0 j))
  have h2 := cg_pow h1 (2 ^ (dg f - i))
  rw [← fro_add, ← fro_add] at h2
  have h5 := hg.2.1
  rw [show i + (dg f - i) = dg f by omega, show j + (dg f - i) = dg f + (j - i) by omega, fro_add] at h2
  have h3 := fermat h.1 a
  exact cg_trans (cj_cg hf0 _) (cg_trans (cg_symm (cg_pow h3 _)) (cg_trans (cg_symm h2) h3))
theorem cj_root {a f s : Nat} (hf : irr f) (h : pdvd f (pcomp s a)) (j : Nat) : pdvd f (pcomp s (cj a f j)) := by
  have h1 := cg_pcomp s (cj_cg (a := a) (irr_ne hf) j)
  refine (cg_dvd_iff h1 (pdvd_refl f)).mpr ?_
  rw [← fro_pcomp]
  have h2 := cg_pow (cg_zero.mpr h) (2 ^ j)
  rw [ppow_zero' _ (Nat.pow_pos (by omega))] at h2
  exact cg_zero.mp h2
def cjs (a f : Nat) : Nat → List Nat
  | 0 => []
  | j + 1 => cj a f j :: cjs a f j
theorem cjs_len (a f : Nat) : ∀ g, (cjs a f g).length = g
  | 0 => rfl
  | g + 1 => by show (cjs a f g).length + 1 = g + 1; rw [cjs_len]
theorem cjs_mem {a f x : Nat} : ∀ {g}, x ∈ cjs a f g → ∃ j, j < g ∧ x = cj a f j
  | 0, h => absurd h (by simp [cjs])
  | g + 1, h => by
    rcases List.mem_cons.mp h with q | q
    · exact ⟨g, by omega, q⟩
    · obtain ⟨j, h1, h2⟩ := cjs_mem q
      exact ⟨j, by omega, h2⟩
theorem cjs_inc {a f g : Nat} (h : inF a f) (hg : cjFirst a f g) : ∀ n, n ≤ g → (cjs a f n).Pairwise (fun v w => ¬ cg f v w)
  | 0, _ => List.Pairwise.nil
  | n + 1, hn => List.pairwise_cons.mpr ⟨fun y hy => by
      obtain ⟨j, h1, rfl⟩ := cjs_mem hy
      exact fun c => cj_inc h hg h1 (by omega) (cg_symm c), cjs_inc h hg n (by omega)⟩
theorem mpoly_deg {a f s k g : Nat} (h : inF a f) (hs : mpoly a f s k) (hg : cjFirst a f g) : k = g := by
  have hk := mpoly_pos h.1 hs
  have h1 : g ≤ dg s := by
    have := roots_le h.1 (mpoly_ne hs) (cjs_inc h hg g (Nat.le_refl _)) (fun v hv => by
      obtain ⟨j, -, rfl⟩ := cjs_mem hv
      exact cj_root h.1 hs.2.2.1 j)
    rw [cjs_len] at this
    exact this
  rw [mpoly_dg hs] at h1
  have h2 : pdvd s (fx g ^^^ 2) := by
    refine mpoly_dvd hs ?_
    rw [pcomp_add, pcomp_x, pcomp_fx]
    have := cj_cg (a := a) (irr_ne h.1) g
    rw [hg.2.2.1] at this
    exact cg_symm this
  have h3 := fx_deg (mpoly_irr h.1 hs hk) hg.1 h2
  rw [mpoly_dg hs] at h3
  omega
-- coefficient functions
def lf (c : Nat → Nat) : Nat → List Nat
  | 0 => []
  | n + 1 => c 0 :: lf (fun i => c (i + 1)) n
theorem lf_len : ∀ (n : Nat) (c : Nat → Nat), (lf c n).length = n
  | 0, _ => rfl
  | n + 1, c => by show (lf _ n).length + 1 = n + 1; rw [lf_len]
theorem lf_mem : ∀ (n : Nat) (c : Nat → Nat) (i : Nat), i < n → c i ∈ lf c n
  | 0, _, i, h => absurd h (by omega)
  | n + 1, c, 0, _ => List.mem_cons_self
  | n + 1, c, i + 1, h => List.mem_cons_of_mem _ (lf_mem n (fun i => c (i + 1)) i (by omega))
theorem ev_xor (v : Nat) : ∀ (n : Nat) (c d : Nat → Nat), ev (lf (fun i => c i ^^^ d i) n) v = ev (lf c n) v ^^^ ev (lf d n) v
  | 0, _, _ => (Nat.xor_self 0).symm
  | n + 1, c, d => by
    show (c 0 ^^^ d 0) ^^^ cm v (ev (lf (fun i => c (i + 1) ^^^ d (i + 1)) n) v) = (c 0 ^^^ cm v _) ^^^ (d 0 ^^^ cm v _)
    rw [ev_xor v n (fun i => c (i + 1)) (fun i => d (i + 1)), cm_xor_right, xor_swap4]
theorem ev_bits (v : Nat) : ∀ (n s : Nat), s < 2 ^ n → ev (lf (fun i => (s.testBit i).toNat) n) v = pcomp s v
  | 0, s, h => by
    have : s = 0 := by simpa using h
    subst this
    exact (pcomp_zero v).symm
  | n + 1, s, h => by
    have e0 : (s.testBit 0).toNat = s % 2 := by
      rw [Nat.testBit_zero]
      have : s % 2 = 0 ∨ s % 2 = 1 := by omega
      rcases this with q | q <;> rw [q] <;> rfl
    have e1 : (fun i => (s.testBit (i + 1)).toNat) = fun i => ((s / 2).testBit i).toNat := by
      funext i
      rw [Nat.testBit_succ]
    show (s.testBit 0).toNat ^^^ cm v (ev (lf (fun i => (s.testBit (i + 1)).toNat) n) v) = _
    rw [e0, e1, ev_bits v n (s / 2) (by rw [Nat.pow_succ] at h; omega), pcomp_step s, cm_comm v, Nat.xor_comm]
theorem ev_last0 (v : Nat) : ∀ (n : Nat) (c : Nat → Nat), c n = 0 → ev (lf c (n + 1)) v = ev (lf c n) v
  | 0, c, h => by
    show c 0 ^^^ cm v 0 = 0
    rw [h, cm_zero]
    rfl
  | n + 1, c, h => by
    show c 0 ^^^ cm v (ev (lf (fun i => c (i + 1)) (n + 1)) v) = c 0 ^^^ cm v (ev (lf (fun i => c (i + 1)) n) v)
    rw [ev_last0 v n (fun i => c (i + 1)) h]
theorem ev_cg {f v : Nat} : ∀ (n : Nat) (c d : Nat → Nat), (∀ i, cg f (c i) (d i)) → cg f (ev (lf c n) v) (ev (lf d n) v)
  | 0, _, _, _ => cg_refl _ _
  | n + 1, c, d, h => cg_xor (h 0) (cg_cm (cg_refl _ _) (ev_cg n (fun i => c (i + 1)) (fun i => d (i + 1)) (fun i => h (i + 1))))
/-- the coefficients times y and one more root -/
def nxt (c : Nat → Nat) (p x : Nat) : Nat → Nat
  | 0 => p ^^^ cm (c 0) x
  | i + 1 => c i ^^^ cm (c (i + 1)) x
theorem nxt_shift (c : Nat → Nat) (p x : Nat) : (fun i => nxt c p x (i + 1)) = nxt (fun i => c (i + 1)) (c 0) x := by
  funext i
  cases i <;> rfl
theorem ev_nxt (v x : Nat) : ∀ (n : Nat) (c : Nat → Nat) (p : Nat), c n = 0 → ev (lf (nxt c p x) (n + 1)) v = p ^^^ cm (v ^^^ x) (ev (lf c n) v)
  | 0, c, p, h => by
    show (p ^^^ cm (c 0) x) ^^^ cm v 0 = p ^^^ cm (v ^^^ x) 0
    rw [h, zero_cm, cm_zero, cm_zero, Nat.xor_zero]
  | n + 1, c, p, h => by
    show (p ^^^ cm (c 0) x) ^^^ cm v (ev (lf (fun i => nxt c p x (i + 1)) (n + 1)) v) = p ^^^ cm (v ^^^ x) (c 0 ^^^ cm v (ev (lf (fun i => c (i + 1)) n) v))
    rw [nxt_shift, ev_nxt v x n (fun i => c (i + 1)) (c 0) h]
    generalize ev (lf (fun i => c (i + 1)) n) v = E
    rw [cm_xor_right v, cm_left_comm v, cm_xor_right (v ^^^ x), cm_xor_left v x (c 0), cm_comm (c 0) x, Nat.xor_assoc, ← Nat.xor_assoc (cm x (c 0)), Nat.xor_comm (cm x (c 0)) (cm v (c 0))]
/-- the coefficients after r rounds -/
def co (a f : Nat) : Nat → Nat → Nat
  | 0 => fun i => if i = 0 then 1 else 0
  | r + 1 => fun i => (if i = 0 then 0 else co a f r (i - 1)) ^^^ pmod (cm (co a f r i) (cj a f r)) f
theorem co_nxt {a f : Nat} (hf : f ≠ 0) (r i : Nat) : cg f (co a f (r + 1) i) (nxt (co a f r) 0 (cj a f r) i) := by
  cases i with
  | zero =>
    show cg f (0 ^^^ pmod (cm (co a f r 0) (cj a f r)) f) (0 ^^^ cm (co a f r 0) (cj a f r))
    exact cg_xor (cg_refl _ _) (cg_pmod hf _)
  | succ i =>
    show cg f (co a f r (i + 1 - 1) ^^^ pmod (cm (co a f r (i + 1)) (cj a f r)) f) (co a f r i ^^^ cm (co a f r (i + 1)) (cj a f r))
    exact cg_xor (cg_refl _ _) (cg_pmod hf _)
theorem co_high {a f : Nat} : ∀ r i, r < i → co a f r i = 0
  | 0, i, h => if_neg (by omega)
  | r + 1, i, h => by
    show (if i = 0 then 0 else co a f r (i - 1)) ^^^ pmod (cm (co a f r i) (cj a f r)) f = 0
    rw [if_neg (by omega), co_high r (i - 1) (by omega), co_high r i (by omega), zero_cm, pmod_zero]
    rfl
theorem co_top {a f : Nat} : ∀ r, co a f r r = 1
  | 0 => rfl
  | r + 1 => by
    show (if r + 1 = 0 then 0 else co a f r (r + 1 - 1)) ^^^ pmod (cm (co a f r (r + 1)) (cj a f r)) f = 1
    rw [if_neg (by omega), Nat.add_sub_cancel, co_top r, co_high r (r + 1) (by omega), zero_cm, pmod_zero]
    rfl
theorem co_lt {a f : Nat} (hf : 2 ≤ f) (hd : 1 ≤ dg f) : ∀ r i, co a f r i < 2 ^ dg f
  | 0, i => by
    have h1 : 1 < 2 ^ dg f := Nat.one_lt_two_pow (by omega)
    show (if i = 0 then 1 else 0) < _
    split <;> omega
  | r + 1, i => by
    refine Nat.xor_lt_two_pow ?_ (pmod_lt (by omega) _)
    split
    · exact Nat.pow_pos (by omega)
    · exact co_lt hf hd r (i - 1)
theorem co_root {a f : Nat} (hf : irr f) : ∀ r j, j < r → pdvd f (ev (lf (co a f r) (r + 1)) (cj a f j))
  | 0, j, h => absurd h (by omega)
  | r + 1, j, h => by
    have h1 := ev_cg (v := cj a f j) (r + 2) _ _ (fun i => co_nxt (a := a) (irr_ne hf) r i)
    refine (cg_dvd_iff h1 (pdvd_refl f)).mpr ?_
    rw [ev_nxt _ _ (r + 1) (co a f r) 0 (co_high r (r + 1) (by omega)), Nat.zero_xor]
    by_cases e : j = r
    · rw [e, Nat.xor_self, zero_cm]
      exact pdvd_zero f
    · exact pdvd_mul_left _ (co_root hf r j (by omega))
theorem co_bits {a f s g : Nat} (h : inF a f) (hs : mpoly a f s g) (hg : cjFirst a f g) : ∀ i, i ≤ g → co a f g i = (s.testBit i).toNat := by
  have hf0 := irr_ne h.1
  have hd := irr_dg h.1
  have top : s.testBit g = true := by
    have h1 := hs.1
    have h2 := hs.2.1
    rw [Nat.testBit_eq_decide_div_mod_eq]
    have : s / 2 ^ g = 1 := by
      rw [Nat.pow_succ] at h2
      exact Nat.div_eq_of_lt_le (by omega) (by omega)
    rw [this]
    rfl
  intro i hi
  by_cases hig : i = g
  · rw [hig, co_top, top]; rfl
  · have hz := roots_zero h.1 (cjs a f g) (lf (fun i => co a f g i ^^^ (s.testBit i).toNat) g) (by rw [lf_len, cjs_len]; exact Nat.le_refl _) (cjs_inc h hg g (Nat.le_refl _)) (fun v hv => ?_) _ (lf_mem g _ i (by omega))
    · refine cg_small hf0 hz (co_lt h.1.1 hd g i) ?_
      have : (s.testBit i).toNat ≤ 1 := by cases s.testBit i <;> decide
      have h1 : 1 < 2 ^ dg f := Nat.one_lt_two_pow (by omega)
      omega
    · obtain ⟨j, hj, rfl⟩ := cjs_mem hv
      rw [← ev_last0 _ g _ (by rw [co_top, top]; rfl), ev_xor, ev_bits _ (g + 1) s hs.2.1]
      exact pdvd_xor (co_root h.1 g j hj) (cj_root h.1 hs.2.2.1 j)
theorem or_bit (s i : Nat) : (s % 2 ^ i) ||| ((s.testBit i).toNat <<< i) = s % 2 ^ (i + 1) := by
  apply Nat.eq_of_testBit_eq
  intro j
  rw [Nat.testBit_or, Nat.testBit_mod_two_pow, Nat.testBit_mod_two_pow, Nat.testBit_shiftLeft]
  by_cases h1 : j < i
  · have h2 : ¬ i ≤ j := by omega
    have h3 : j < i + 1 := by omega
    simp [h1, h2, h3]
  · by_cases h2 : j = i
    · subst h2
      have h3 : j < j + 1 := by omega
      cases s.testBit j <;> simp [h3]
    · have h3 : ¬ j < i + 1 := by omega
      obtain ⟨d, hd⟩ : ∃ d, j - i = d + 1 := ⟨j - i - 1, by omega⟩
      have h4 : ((s.testBit i).toNat).testBit (j - i) = false := by
        rw [hd]
        cases s.testBit i <;> simp [Nat.testBit_succ]
      simp [h1, h3, h4]
theorem imin_nI {a b : Nat} (ha : a < 2 ^ 31) (hb : b < 2 ^ 31) (h : a ≤ b) : imin (nI a) (nI b) = nI a := by
  unfold imin
  rw [if_neg (fun z => by have := (nI_ltI hb ha).mp z; omega)]
theorem sp_leastPoly {a f s g : Nat} {w0 : Wd} {P : Int64 → Wd → Prop} (hf : f < 2 ^ 32) (h : inF a f) (hs : mpoly a f s g) (hg : cjFirst a f g) (hP : ∀ w', fr [] [] [24] w0 w' → P (lN s) w') : cf_Field_leastPoly (lN a) (lN f) w0 P := by
  have hf0 := irr_ne h.1
  have hd1 := irr_dg h.1
  have hd := (dg_lt hf0).mpr hf
  have b31 := inF_32 hf h
  have hgd := hg.2.1
  have hg1 := hg.1
  unfold cf_Field_leastPoly
  refine sp_unlikeConjugates hf h (fun g' hg' => ?_)
  have := cjFirst_unique hg' hg
  subst this
  rw [show (32 : Int32) - 1 = nI 31 by decide, imin_nI (by omega) (by omega) (by omega)]
  rintro _ rfl
  -- the bits put together
  have fin : ∀ w, fr [] [] [24] w0 w → (∀ i, i ≤ g' → w.2 24 i = lN (co a f g' i)) → ∃ n, cf_Field_leastPoly_L147 P n (nI g') (0 : Int64) (0 : Int32) w := by
    intro w hfr hc
    have key : ∀ m i, i + m = g' + 1 → ∀ n, m < n → cf_Field_leastPoly_L147 P n (nI g') (lN (s % 2 ^ i)) (nI i) w := by
      intro m
      induction m with
      | zero =>
        intro i hi n hn
        obtain ⟨n, rfl⟩ : ∃ m, n = m + 1 := ⟨n - 1, by omega⟩
        show cf_Field_leastPoly_B147 _ _ _ _ _ _
        unfold cf_Field_leastPoly_B147
        have : i = g' + 1 := by omega
        subst this
        rw [nI_ltI (by omega) (by omega)]
        refine ⟨fun _ => ?_, fun z => absurd (by omega) z⟩
        rw [Nat.mod_eq_of_lt hs.2.1]
        exact hP w hfr
      | succ m ih =>
        intro i hi n hn
        obtain ⟨n, rfl⟩ : ∃ m, n = m + 1 := ⟨n - 1, by omega⟩
        show cf_Field_leastPoly_B147 _ _ _ _ _ _
        unfold cf_Field_leastPoly_B147
        rw [nI_ltI (by omega) (by omega)]
        refine ⟨fun z => absurd z (by omega), fun _ => ⟨vp_in_nI (by omega) (by omega), ?_⟩⟩
        rw [nI_clamp (by omega), hc i (by omega), co_bits h hs hg i (by omega)]
        have e1 : (lN (s.testBit i).toNat) &&& (1 : Int64) = lN (s.testBit i).toNat := by cases s.testBit i <;> decide
        rw [e1, lshl_lN _ (by omega), lN_or, or_bit]
        rintro _ rfl _ rfl
        rw [nI_1]
        exact ih (i + 1) (by omega) n (by omega)
    have := key (g' + 1) 0 (by omega) (g' + 2) (by omega)
    rw [Nat.pow_zero, Nat.mod_one] at this
    exact ⟨_, this⟩
  -- the rounds
  have rounds : ∀ m r w, r + m = g' → fr [] [] [24] w0 w → (∀ i, i ≤ g' → w.2 24 i = lN (co a f r i)) → ∀ n, m < n → cf_Field_leastPoly_L57 P n (lN f) (nI g') (lN (cj a f r)) (nI r) w := by
    intro m
    induction m with
    | zero =>
      intro r w hr hfr hc n hn
      obtain ⟨n, rfl⟩ : ∃ m, n = m + 1 := ⟨n - 1, by omega⟩
      show cf_Field_leastPoly_B57 _ _ _ _ _ _ _
      unfold cf_Field_leastPoly_B57
      have : r = g' := by omega
      subst this
      exact ⟨fun _ => fin w hfr hc, fun z => absurd ((nI_leI (by omega) (by omega)).mpr (Nat.le_refl _)) z⟩
    | succ m ih =>
      intro r w hr hfr hc n hn
      obtain ⟨n, rfl⟩ : ∃ m, n = m + 1 := ⟨n - 1, by omega⟩
      show cf_Field_leastPoly_B57 _ _ _ _ _ _ _
      unfold cf_Field_leastPoly_B57
      refine ⟨fun z => absurd ((nI_leI (by omega) (by omega)).mp z) (by omega), fun _ => ?_⟩
      have hcj := b31 _ (cj_lt h r)
      have hco : ∀ i, co a f r i < 2 ^ 31 := fun i => b31 _ (co_lt h.1.1 hd1 r i)
      have down : ∀ i w2, i ≤ g' → fr [] [] [24] w0 w2 → (∀ j, j ≤ i → w2.2 24 j = lN (co a f r j)) → (∀ j, i < j → j ≤ g' → w2.2 24 j = lN (co a f (r + 1) j)) → ∀ n2, i < n2 → cf_Field_leastPoly_L68 (cf_Field_leastPoly_L57 P n) P n2 (lN f) (nI g') (lN (cj a f r)) (nI r) (nI i) w2 := by
        intro i
        induction i with
        | zero =>
          intro w2 hi hf2 h1 h2 n2 hn2
          obtain ⟨n2, rfl⟩ : ∃ m, n2 = m + 1 := ⟨n2 - 1, by omega⟩
          show cf_Field_leastPoly_B68 _ _ P _ _ _ _ _ _
          unfold cf_Field_leastPoly_B68
          have z0 : (0 : Int32).toNatClampNeg = 0 := by decide
          have v0 : vp_in (0 : Int32) 32 := vp_in_nI (n := 0) (by omega) (by omega)
          refine ⟨fun _ => ⟨v0, ?_⟩, fun z => absurd (show nI 0 ≤ (0 : Int32) by decide) z⟩
          have hb0 := hco 0
          rw [z0, h1 0 (by omega)]
          refine sp_productBy (by omega) (by omega) (by omega) ⟨v0, ?_⟩
          rintro _ rfl
          refine sp_squareBy (by omega) (by omega) ?_
          rintro _ rfl
          rw [nI_1]
          refine ih (r + 1) _ (by omega) (fr_wL _ hf2 (by simp)) (fun j hj => ?_) n (by omega)
          rw [wL_2]
          by_cases e : j = 0
          · subst e
            rw [if_pos ⟨rfl, rfl⟩]
            show _ = lN (0 ^^^ pmod (cm (co a f r 0) (cj a f r)) f)
            rw [Nat.zero_xor]
          · rw [if_neg (fun z => e z.2)]
            exact h2 j (by omega) hj
        | succ i ihd =>
          intro w2 hi hf2 h1 h2 n2 hn2
          obtain ⟨n2, rfl⟩ : ∃ m, n2 = m + 1 := ⟨n2 - 1, by omega⟩
          show cf_Field_leastPoly_B68 _ _ P _ _ _ _ _ _
          unfold cf_Field_leastPoly_B68
          have le0 : nI (i + 1) ≤ (0 : Int32) ↔ i + 1 ≤ 0 := nI_leI (b := 0) (by omega) (by omega)
          rw [le0]
          refine ⟨fun z => absurd z (by omega), fun _ => ?_⟩
          rw [nI_pred, m1_eq, nI_pred]
          refine ⟨vp_in_nI (by omega) (by omega), vp_in_nI (by omega) (by omega), ?_⟩
          have hb0 := hco (i + 1)
          rw [nI_clamp (by omega), nI_clamp (by omega), h1 (i + 1) (by omega), h1 i (by omega)]
          refine sp_productBy (by omega) (by omega) (by omega) ⟨vp_in_nI (by omega) (by omega), ?_⟩
          rw [lN_xor]
          rintro _ rfl _ rfl
          refine ihd _ (by omega) (fr_wL _ hf2 (by simp)) (fun j hj => ?_) (fun j hj hjg => ?_) n2 (by omega)
          · rw [wL_2, if_neg (by omega)]
            exact h1 j (by omega)
          · rw [wL_2]
            by_cases e : j = i + 1
            · subst e
              rw [if_pos ⟨rfl, rfl⟩]
              show _ = lN ((if i + 1 = 0 then 0 else co a f r (i + 1 - 1)) ^^^ pmod (cm (co a f r (i + 1)) (cj a f r)) f)
              rw [if_neg (by omega), Nat.add_sub_cancel]
            · rw [if_neg (fun z => e z.2)]
              exact h2 j (by omega) hjg
      exact ⟨g' + 1, down g' w (Nat.le_refl _) hfr hc (fun j h1 h2 => absurd h1 (by omega)) (g' + 1) (by omega)⟩
  have zero : ∀ m i w, i + m = 32 → fr [] [] [24] w0 w → (∀ j, j < i → w.2 24 j = 0) → ∀ n, m < n → cf_Field_leastPoly_L20 P n (lN a) (lN f) (nI g') (nI i) w := by
    intro m
    induction m with
    | zero =>
      intro i w hi hfr hc n hn
      obtain ⟨n, rfl⟩ : ∃ m, n = m + 1 := ⟨n - 1, by omega⟩
      show cf_Field_leastPoly_B20 _ _ _ _ _ _ _
      unfold cf_Field_leastPoly_B20
      have : i = 32 := by omega
      subst this
      refine ⟨fun _ => ⟨vp_in_nI (n := 0) (by omega) (by omega), ?_⟩, fun z => absurd (show (32 : Int32) ≤ nI 32 by decide) z⟩
      rintro _ rfl
      have z0 : (0 : Int32).toNatClampNeg = 0 := by decide
      rw [z0]
      refine ⟨g' + 1, rounds g' 0 _ (by omega) (fr_wL _ hfr (by simp)) (fun j hj => ?_) (g' + 1) (by omega)⟩
      rw [wL_2]
      by_cases e : j = 0
      · rw [if_pos ⟨rfl, e⟩, e]; rfl
      · rw [if_neg (fun z => e z.2), hc j (by omega)]
        show (0 : Int64) = lN (if j = 0 then 1 else 0)
        rw [if_neg e]
        rfl
    | succ m ih =>
      intro i w hi hfr hc n hn
      obtain ⟨n, rfl⟩ : ∃ m, n = m + 1 := ⟨n - 1, by omega⟩
      show cf_Field_leastPoly_B20 _ _ _ _ _ _ _
      unfold cf_Field_leastPoly_B20
      refine ⟨fun z => absurd ((nI_leI (show 32 < 2 ^ 31 by decide) (by omega)).mp z) (by omega), fun _ => ⟨vp_in_nI (by omega) (by omega), ?_⟩⟩
      rw [nI_clamp (by omega)]
      rintro _ rfl _ rfl
      rw [nI_1]
      refine ih (i + 1) _ (by omega) (fr_wL _ hfr (by simp)) (fun j hj => ?_) n (by omega)
      rw [wL_2]
      by_cases e : j = i
      · rw [if_pos ⟨rfl, e⟩]
      · rw [if_neg (fun z => e z.2)]
        exact hc j (by omega)
  exact ⟨33, zero 32 0 w0 (by omega) (fr_refl _ _ _ _) (fun j hj => absurd hj (by omega)) 33 (by omega)⟩
