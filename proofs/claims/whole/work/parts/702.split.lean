-- how a polynomial splits: by degrees, by traces
theorem pgcd_cg {f a b : Nat} (h : cg f a b) : pgcd f a = pgcd f b := by
  have go : ∀ {x y : Nat}, cg f x y → ∀ {c}, pdvd c f → pdvd c x → pdvd c y := fun {x y} hxy {c} h1 h2 => pdvd_xor_cancel h2 (pdvd_trans h1 hxy)
  exact pgcd_unique (pgcd_dvd_left f b) (go (cg_symm h) (pgcd_dvd_left f b) (pgcd_dvd_right f b)) (fun c h1 h2 => pdvd_pgcd h1 (go h h1 h2))
theorem cg_dvd_iff {f a b d : Nat} (h : cg f a b) (hd : pdvd d f) : pdvd d a ↔ pdvd d b :=
  ⟨fun q => pdvd_xor_cancel q (pdvd_trans hd h), fun q => pdvd_xor_cancel q (pdvd_trans hd (cg_symm h))⟩
theorem dg_le_dvd {p f : Nat} (hf : f ≠ 0) (h : pdvd p f) : dg p ≤ dg f := pdvd_dg hf h
theorem dg_cm {a b : Nat} (ha : a ≠ 0) (hb : b ≠ 0) : dg (cm a b) = dg a + dg b := cm_log2 ha hb
/-- a true divisor that is not 1: one of the two has at most half the degree -/
theorem half_div {f d : Nat} (hf : 2 ≤ f) (hd : pdvd d f) (h1 : d ≠ 1) (h2 : d ≠ f) : ∃ e, 2 ≤ e ∧ pdvd e f ∧ 2 * dg e ≤ dg f := by
  obtain ⟨q, e⟩ := hd
  have hd0 : d ≠ 0 := by
    intro z
    rw [z, cm_zero] at e
    omega
  have hq0 : q ≠ 0 := by
    intro z
    rw [z, zero_cm] at e
    omega
  have hq1 : q ≠ 1 := by
    intro z
    rw [z, one_cm] at e
    exact h2 e.symm
  have hs := dg_cm hq0 hd0
  rw [← e] at hs
  by_cases c : 2 * dg d ≤ dg f
  · exact ⟨d, by omega, ⟨q, e⟩, c⟩
  · exact ⟨q, by omega, ⟨d, by rw [e, cm_comm]⟩, by omega⟩
theorem irr_test {f : Nat} (h2 : 2 ≤ f) : irr f ↔ ∀ d, 1 ≤ d → 2 * d ≤ dg f → pgcd f (fx d ^^^ 2) = 1 := by
  constructor
  · intro hi d h1 hd
    rcases hi.2 _ (pgcd_dvd_left f (fx d ^^^ 2)) with q | q
    · exact q
    · have h3 := pgcd_dvd_right f (fx d ^^^ 2)
      rw [q] at h3
      have := fx_deg hi h1 h3
      omega
  · intro h
    refine ⟨h2, fun d hd => ?_⟩
    by_cases c1 : d = 1
    · exact Or.inl c1
    by_cases c2 : d = f
    · exact Or.inr c2
    obtain ⟨e, he, hef, hed⟩ := half_div h2 hd c1 c2
    obtain ⟨p, hp, hpe⟩ := exists_irr e he
    have hpd := dg_le_dvd (by omega) hpe
    have h3 := h (dg p) (irr_dg hp) (by omega)
    have h4 := pdvd_pgcd (pdvd_trans hpe hef) (fx_self hp)
    rw [h3] at h4
    exact absurd h4 (irr_not_one hp)
/-- none of the irreducible ones in f has a degree below d -/
def ns (f d : Nat) : Prop := ∀ p, irr p → pdvd p f → d ≤ dg p
theorem last_irr {f d : Nat} (h : ns f d) (hf : 2 ≤ f) (hd : dg f < 2 * d) : irr f := by
  refine ⟨hf, fun e he => ?_⟩
  by_cases c1 : e = 1
  · exact Or.inl c1
  by_cases c2 : e = f
  · exact Or.inr c2
  obtain ⟨e, he, hef, hed⟩ := half_div hf he c1 c2
  obtain ⟨p, hp, hpe⟩ := exists_irr e he
  have hpd := dg_le_dvd (by omega) hpe
  have := h p hp (pdvd_trans hpe hef)
  omega
theorem joint_iff {f d p : Nat} (h : ns f d) (h1 : 1 ≤ d) (hp : irr p) : pdvd p (pgcd f (fx d ^^^ 2)) ↔ pdvd p f ∧ dg p = d := by
  constructor
  · intro hd
    have h2 := pdvd_trans hd (pgcd_dvd_left f _)
    have h3 := fx_deg hp h1 (pdvd_trans hd (pgcd_dvd_right f _))
    have := h p hp h2
    exact ⟨h2, by omega⟩
  · rintro ⟨h2, h3⟩
    refine pdvd_pgcd h2 ?_
    rw [← h3]
    exact fx_self hp
theorem xor_cancel_mid {a b c d : Nat} (h : a ^^^ b = c ^^^ d) : a ^^^ c = b ^^^ d := by
  have : (a ^^^ b) ^^^ (b ^^^ c) = (c ^^^ d) ^^^ (b ^^^ c) := by rw [h]
  rw [xor_mid, Nat.xor_comm b c, xor_swap4, Nat.xor_self, Nat.zero_xor, Nat.xor_comm d b] at this
  exact this
theorem dg_sq {a : Nat} (h : a ≠ 0) : dg (cm a a) = 2 * dg a := by rw [dg_cm h h]; omega
theorem two_cm (a : Nat) : 2 * a = cm a 2 := by
  have := cm_two_right a 1
  rw [cm_one] at this
  exact this.symm
theorem sq_two {a b : Nat} (h : cm a a = 2 * cm b b) : a = 0 ∧ b = 0 := by
  by_cases hb : b = 0
  · subst hb
    rw [cm_zero, Nat.mul_zero] at h
    rcases cm_eq_zero.mp h with q | q <;> exact ⟨q, rfl⟩
  · exfalso
    have h1 := cm_ne hb hb
    have ha : a ≠ 0 := by
      intro z
      rw [z, cm_zero] at h
      omega
    have h2 : dg (cm a a) = dg (2 * cm b b) := by rw [h]
    rw [dg_sq ha, two_cm (cm b b), dg_cm h1 (by omega), dg_sq hb] at h2
    have h3 : dg 2 = 1 := dg_pow 1
    omega
theorem sq_unique {u v s t : Nat} (h : cm u u ^^^ 2 * cm v v = cm s s ^^^ 2 * cm t t) : u = s ∧ v = t := by
  have h1 := xor_cancel_mid h
  rw [← sq_xor, ← two_xor, ← sq_xor] at h1
  have := sq_two h1
  exact ⟨xor_eq_zero'.mp this.1, xor_eq_zero'.mp this.2⟩
theorem sq_parts (h : Nat) : ∃ u v, h = cm u u ^^^ 2 * cm v v := by
  induction h using Nat.strongRecOn with
  | _ h ih =>
    by_cases h0 : h = 0
    · exact ⟨0, 0, by rw [h0, cm_zero]; rfl⟩
    · obtain ⟨u, v, e⟩ := ih (h / 2 / 2) (by omega)
      refine ⟨2 * u + h % 2, 2 * v + h / 2 % 2, ?_⟩
      rw [cm_self_step (2 * u + h % 2), cm_self_step (2 * v + h / 2 % 2)]
      rw [show (2 * u + h % 2) % 2 = h % 2 by omega, show (2 * u + h % 2) / 2 = u by omega, show (2 * v + h / 2 % 2) % 2 = h / 2 % 2 by omega, show (2 * v + h / 2 % 2) / 2 = v by omega]
      have e4 : ∀ x, 4 * x = 2 * (2 * x) := fun x => by omega
      rw [e4, e4, two_xor, xor_swap4]
      have e5 : 2 * (2 * cm u u) ^^^ 2 * (2 * (2 * cm v v)) = 2 * (2 * (h / 2 / 2)) := by
        rw [← two_xor, ← two_xor, ← e]
      rw [e5, Nat.xor_assoc, ← two_xor, ← nat_split (h / 2), ← nat_split h]
theorem fx_sqfree {p d : Nat} (hd : 1 ≤ d) (h : pdvd (cm p p) (fx d ^^^ 2)) : p = 1 := by
  obtain ⟨q, e⟩ := h
  obtain ⟨u, v, e2⟩ := sq_parts q
  obtain ⟨k, rfl⟩ : ∃ k, d = k + 1 := ⟨d - 1, by omega⟩
  have h1 : cm q (cm p p) = cm (cm u p) (cm u p) ^^^ 2 * cm (cm v p) (cm v p) := by
    rw [e2, cm_xor_left, cm_two_left]
    have h2 : ∀ x, cm (cm x x) (cm p p) = cm (cm x p) (cm x p) := by
      intro x
      rw [cm_assoc, cm_left_comm x p p, ← cm_assoc]
    rw [h2, h2]
  have h3 : fx (k + 1) ^^^ 2 = cm (fx k) (fx k) ^^^ 2 * cm 1 1 := by rw [fx_succ, cm_one]
  rw [h1, h3] at e
  have := (sq_unique e).2
  exact (cm_eq_one.mp this.symm).2
theorem joint_sqfree {f d p : Nat} (h1 : 1 ≤ d) (hp : irr p) : ¬ pdvd (cm p p) (pgcd f (fx d ^^^ 2)) := by
  intro h
  have := fx_sqfree h1 (pdvd_trans h (pgcd_dvd_right f _))
  have := hp.1
  omega
-- traces
def tr : Nat → Nat → Nat
  | 0, _ => 0
  | j + 1, a => tr j a ^^^ ppow a (2 ^ j)
theorem tr_xor (j a b : Nat) : tr j (a ^^^ b) = tr j a ^^^ tr j b := by
  induction j with
  | zero => exact (Nat.xor_self 0).symm
  | succ j ih => show tr j (a ^^^ b) ^^^ ppow (a ^^^ b) (2 ^ j) = _; rw [ih, fro_xor, xor_swap4]; rfl
theorem tr_cg {p a b : Nat} (j : Nat) (h : cg p a b) : cg p (tr j a) (tr j b) := by
  induction j with
  | zero => exact cg_refl _ _
  | succ j ih => exact cg_xor ih (cg_pow h _)
theorem tr_zero (j : Nat) : tr j 0 = 0 := by
  induction j with
  | zero => rfl
  | succ j ih => show tr j 0 ^^^ ppow 0 (2 ^ j) = 0; rw [ih, ppow_zero' _ (Nat.pow_pos (by omega))]; rfl
theorem sq_pow (a n : Nat) : cm (ppow a n) (ppow a n) = ppow (cm a a) n := by rw [ppow_cm]
theorem tr_sq (j a : Nat) : tr j (cm a a) = cm (tr j a) (tr j a) := by
  induction j with
  | zero => exact (cm_zero 0).symm
  | succ j ih => show tr j (cm a a) ^^^ ppow (cm a a) (2 ^ j) = cm (tr j a ^^^ ppow a (2 ^ j)) (tr j a ^^^ ppow a (2 ^ j)); rw [ih, sq_xor, sq_pow]
theorem tr_shift (j a : Nat) : cm (tr j a) (tr j a) ^^^ tr j a = ppow a (2 ^ j) ^^^ a := by
  induction j with
  | zero => show cm 0 0 ^^^ 0 = _; rw [fro_zero, Nat.xor_self a, cm_zero, Nat.xor_self]
  | succ j ih =>
    show cm (tr j a ^^^ ppow a (2 ^ j)) (tr j a ^^^ ppow a (2 ^ j)) ^^^ (tr j a ^^^ ppow a (2 ^ j)) = _
    rw [sq_xor, xor_swap4, ih, ← fro_succ, Nat.xor_comm (ppow a (2 ^ j)) a, Nat.xor_comm (ppow a (2 ^ (j + 1))) (ppow a (2 ^ j)), xor_mid, Nat.xor_comm]
/-- a trace is 0 or 1 -/
theorem tr_bit {p : Nat} (hp : irr p) (a : Nat) : cg p (tr (dg p) a) 0 ∨ cg p (tr (dg p) a) 1 := by
  have h := tr_shift (dg p) a
  have h1 : pdvd p (cm (tr (dg p) a) (tr (dg p) a) ^^^ tr (dg p) a) := by rw [h]; exact fermat hp a
  have h2 : pdvd p (cm (tr (dg p) a) (tr (dg p) a ^^^ 1)) := by rw [cm_xor_right, cm_one]; exact h1
  rcases irr_euclid hp h2 with q | q
  · exact Or.inl (cg_zero.mpr q)
  · exact Or.inr q
def sfx : Nat → Nat
  | 0 => 0
  | j + 1 => sfx j ^^^ fx j
theorem sfx_lt (j : Nat) : sfx j < 2 ^ (2 ^ j) := by
  induction j with
  | zero => exact Nat.pow_pos (by omega)
  | succ j ih =>
    have h1 : 2 ^ j + 1 ≤ 2 ^ (j + 1) := by have := Nat.pow_pos (n := j) (show 0 < 2 by omega); rw [Nat.pow_succ]; omega
    refine Nat.lt_of_lt_of_le (Nat.xor_lt_two_pow (n := 2 ^ j + 1) (Nat.lt_of_lt_of_le ih (Nat.pow_le_pow_right (by omega) (by omega))) ?_) (Nat.pow_le_pow_right (by omega) h1)
    rw [fx_eq]
    exact Nat.pow_lt_pow_right (by omega) (by omega)
theorem sfx_dg (j : Nat) : sfx (j + 1) ≠ 0 ∧ dg (sfx (j + 1)) = 2 ^ j := by
  have h3 := xor_top (x := fx j) (y := sfx j) (k := 2 ^ j) (by rw [fx_eq]; omega) (by rw [fx_eq]; exact Nat.pow_lt_pow_right (by omega) (by omega)) (sfx_lt j)
  rw [Nat.xor_comm] at h3
  have h4 : sfx (j + 1) ≠ 0 := by
    have := Nat.pow_pos (n := 2 ^ j) (show 0 < 2 by omega)
    show sfx j ^^^ fx j ≠ 0
    omega
  exact ⟨h4, (log2_iff h4).mpr h3⟩
theorem sfx_tr (j v : Nat) : pcomp (sfx j) v = tr j v := by
  induction j with
  | zero => exact pcomp_zero v
  | succ j ih => show pcomp (sfx j ^^^ fx j) v = _; rw [pcomp_add, ih, pcomp_fx]; rfl
theorem tr_some {p : Nat} (hp : irr p) : ∃ t, t < 2 ^ dg p ∧ ¬ pdvd p (tr (dg p) t) := by
  refine Classical.byContradiction (fun hno => ?_)
  have h1 := irr_dg hp
  obtain ⟨k, hk⟩ : ∃ k, dg p = k + 1 := ⟨dg p - 1, by omega⟩
  have h2 := roots_le hp (sfx_dg k).1 (all_inc hp) (fun v hv => ?_)
  · rw [List.length_range, (sfx_dg k).2, hk] at h2
    have := (Nat.pow_le_pow_iff_right (by omega)).mp h2
    omega
  · rw [sfx_tr, ← hk]
    exact Classical.byContradiction (fun c => hno ⟨v, List.mem_range.mp hv, c⟩)
/-- two fields of one degree whose traces of all powers of x agree are one -/
theorem tr_same {p q d n : Nat} (hp : irr p) (hq : irr q) (ep : dg p = d) (eq : dg q = d) (hn : 2 * d ≤ n)
    (h : ∀ i, i < n → i % 2 = 1 → (pdvd p (tr d (ppow 2 i)) ↔ pdvd q (tr d (ppow 2 i)))) : p = q := by
  refine Classical.byContradiction (fun hne => ?_)
  have bit1 : ∀ j, tr j 1 = 0 ∨ tr j 1 = 1 := by
    intro j
    induction j with
    | zero => exact Or.inl rfl
    | succ j ih =>
      show tr j 1 ^^^ ppow 1 (2 ^ j) = 0 ∨ tr j 1 ^^^ ppow 1 (2 ^ j) = 1
      rw [ppow_one_left]
      rcases ih with e | e <;> rw [e]
      · exact Or.inr rfl
      · exact Or.inl rfl
  have sq_dvd : ∀ {r : Nat}, irr r → ∀ a, pdvd r (cm a a) ↔ pdvd r a := fun hr a => ⟨fun z => (irr_euclid hr z).elim id id, fun z => pdvd_mul_left _ z⟩
  have all : ∀ i, i < n → (pdvd p (tr d (ppow 2 i)) ↔ pdvd q (tr d (ppow 2 i))) := by
    intro i
    induction i using Nat.strongRecOn with
    | _ i ih =>
      intro hi
      by_cases h0 : i = 0
      · subst h0
        show pdvd p (tr d 1) ↔ pdvd q (tr d 1)
        rcases bit1 d with e | e <;> rw [e]
        · exact ⟨fun _ => pdvd_zero q, fun _ => pdvd_zero p⟩
        · exact ⟨fun z => absurd z (irr_not_one hp), fun z => absurd z (irr_not_one hq)⟩
      · by_cases ho : i % 2 = 1
        · exact h i hi ho
        · have e : ppow 2 i = cm (ppow 2 (i / 2)) (ppow 2 (i / 2)) := by
            rw [← ppow_add]
            congr 1
            omega
          rw [e, tr_sq, sq_dvd hp, sq_dvd hq]
          exact ih (i / 2) (by omega) (by omega)
  have bits : ∀ k, k ≤ n → ∀ b, b < 2 ^ k → ∃ t, (t = 0 ∨ t = 1) ∧ cg p (tr d b) t ∧ cg q (tr d b) t := by
    intro k
    induction k with
    | zero =>
      intro _ b hb
      have : b = 0 := by simpa using hb
      subst this
      exact ⟨0, Or.inl rfl, by rw [tr_zero]; exact cg_refl _ _, by rw [tr_zero]; exact cg_refl _ _⟩
    | succ k ih =>
      intro hk b hb
      by_cases hs : b < 2 ^ k
      · exact ih (by omega) b hs
      · have h2 : b ^^^ 2 ^ k < 2 ^ k := by
          have hx := xor_top (x := b) (y := 0) (k := k) (by omega) hb (Nat.pow_pos (by omega))
          refine Nat.lt_pow_two_of_testBit _ (fun i hi => ?_)
          rw [Nat.testBit_xor, Nat.testBit_two_pow]
          by_cases hik : i = k
          · subst hik
            have hlt : b - 2 ^ i < 2 ^ i := by rw [Nat.pow_succ] at hb; omega
            have e3 : b = 2 ^ i + (b - 2 ^ i) := by omega
            rw [e3, Nat.testBit_two_pow_add_eq, Nat.testBit_lt_two_pow hlt]
            simp
          · rw [Nat.testBit_lt_two_pow (Nat.lt_of_lt_of_le hb (Nat.pow_le_pow_right (by omega) (by omega)))]
            simp
            omega
        obtain ⟨t, ht, t1, t2⟩ := ih (by omega) _ h2
        have e : b = (b ^^^ 2 ^ k) ^^^ ppow 2 k := by rw [ppow_2, Nat.xor_assoc, Nat.xor_self, Nat.xor_zero]
        have hpk : ∃ s, (s = 0 ∨ s = 1) ∧ cg p (tr d (ppow 2 k)) s ∧ cg q (tr d (ppow 2 k)) s := by
          have hb1 := tr_bit hp (ppow 2 k)
          have hb2 := tr_bit hq (ppow 2 k)
          rw [ep] at hb1
          rw [eq] at hb2
          have ha := all k (by omega)
          rcases hb1 with g1 | g1
          · exact ⟨0, Or.inl rfl, g1, cg_zero.mpr (ha.mp (cg_zero.mp g1))⟩
          · rcases hb2 with g2 | g2
            · exact ⟨0, Or.inl rfl, cg_zero.mpr (ha.mpr (cg_zero.mp g2)), g2⟩
            · exact ⟨1, Or.inr rfl, g1, g2⟩
        obtain ⟨s, hs1, s1, s2⟩ := hpk
        refine ⟨t ^^^ s, ?_, ?_, ?_⟩
        · rcases ht with e1 | e1 <;> rcases hs1 with e2 | e2 <;> rw [e1, e2] <;> decide
        · rw [e, tr_xor]; exact cg_xor t1 s1
        · rw [e, tr_xor]; exact cg_xor t2 s2
  obtain ⟨t, ht, htn⟩ := tr_some hp
  have hpq : ¬ pdvd p q := fun z => hne (irr_dvd_irr hp hq z)
  obtain ⟨u, hu, hc⟩ := irr_inv hp hpq
  have hp0 := irr_ne hp
  have hq0 := irr_ne hq
  have hpq0 := cm_ne hp0 hq0
  have hb0 : cg (cm p q) (pmod (cm (cm t u) q) (cm p q)) (cm (cm t u) q) := cg_pmod hpq0 _
  have hbp : cg p (pmod (cm (cm t u) q) (cm p q)) t := by
    refine cg_trans (cg_dvd (pdvd_cm_left p q) hb0) ?_
    rw [cm_assoc]
    have := cg_cm (cg_refl p t) hc
    rw [cm_one] at this
    exact this
  have hbq : cg q (pmod (cm (cm t u) q) (cm p q)) 0 := by
    refine cg_trans (cg_dvd (pdvd_cm_right p q) hb0) ?_
    exact cg_zero.mpr (pdvd_cm_right _ q)
  have hlt : pmod (cm (cm t u) q) (cm p q) < 2 ^ n := by
    refine Nat.lt_of_lt_of_le (pmod_lt hpq0 _) (Nat.pow_le_pow_right (by omega) ?_)
    rw [dg_cm hp0 hq0]
    omega
  obtain ⟨s, hs, s1, s2⟩ := bits n (Nat.le_refl _) _ hlt
  have e0 : s = 0 := by
    rcases hs with e | e
    · exact e
    · exfalso
      have := cg_trans (cg_symm s2) (tr_cg d hbq)
      rw [tr_zero, e] at this
      exact irr_not_one hq (cg_zero.mp this)
  rw [e0] at s1
  rw [ep] at htn
  exact htn (cg_zero.mp (cg_trans (cg_symm (tr_cg d hbp)) s1))
