-- division with rest, divisors, the greatest common divisor
def dg (a : Nat) : Nat := Nat.log2 a
theorem dg_lt {a n : Nat} (h : a ≠ 0) : dg a < n ↔ a < 2 ^ n := Nat.log2_lt h
theorem le_dg {a n : Nat} (h : a ≠ 0) : n ≤ dg a ↔ 2 ^ n ≤ a := Nat.le_log2 h
theorem dg_self {a : Nat} (h : a ≠ 0) : 2 ^ dg a ≤ a ∧ a < 2 ^ (dg a + 1) := ⟨Nat.log2_self_le h, Nat.lt_log2_self⟩
theorem pm_drop {a f : Nat} (ha : a ≠ 0) (hf : f ≠ 0) (h : dg f ≤ dg a) : a ^^^ (f * 2 ^ (dg a - dg f)) < 2 ^ dg a := by
  have e : dg (f * 2 ^ (dg a - dg f)) = dg a ∧ f * 2 ^ (dg a - dg f) ≠ 0 := by
    have h0 : f * 2 ^ (dg a - dg f) ≠ 0 := Nat.mul_ne_zero hf (Nat.pos_iff_ne_zero.mp (Nat.pow_pos (by omega)))
    refine ⟨?_, h0⟩
    rw [← cm_pow_two]
    have h2 : (2 : Nat) ^ (dg a - dg f) ≠ 0 := Nat.pos_iff_ne_zero.mp (Nat.pow_pos (by omega))
    unfold dg at *
    rw [cm_log2 hf h2, Nat.log2_two_pow]
    omega
  obtain ⟨a1, a2⟩ := dg_self ha
  obtain ⟨b1, b2⟩ := dg_self e.2
  rw [e.1] at b1 b2
  generalize f * 2 ^ (dg a - dg f) = g at *
  refine Nat.lt_pow_two_of_testBit _ (fun i hi => ?_)
  rw [Nat.testBit_xor]
  by_cases hk : i = dg a
  · subst hk
    rw [Nat.testBit_of_two_pow_le_and_two_pow_add_one_gt a1 a2, Nat.testBit_of_two_pow_le_and_two_pow_add_one_gt b1 b2]
    rfl
  · have hi2 : dg a + 1 ≤ i := by omega
    rw [Nat.testBit_lt_two_pow (Nat.lt_of_lt_of_le a2 (Nat.pow_le_pow_right (by omega) hi2)), Nat.testBit_lt_two_pow (Nat.lt_of_lt_of_le b2 (Nat.pow_le_pow_right (by omega) hi2))]
    rfl
def pdm (a f : Nat) : Nat × Nat := if h : f = 0 ∨ a = 0 ∨ dg a < dg f then (0, a) else
  let r := pdm (a ^^^ (f * 2 ^ (dg a - dg f))) f
  (2 ^ (dg a - dg f) ^^^ r.1, r.2)
termination_by a
decreasing_by
  have h1 : f ≠ 0 := fun q => h (Or.inl q)
  have h2 : a ≠ 0 := fun q => h (Or.inr (Or.inl q))
  have h3 : ¬ dg a < dg f := fun q => h (Or.inr (Or.inr q))
  exact Nat.lt_of_lt_of_le (pm_drop h2 h1 (by omega)) (dg_self h2).1
def pdiv (a f : Nat) : Nat := (pdm a f).1
def pmod (a f : Nat) : Nat := (pdm a f).2
theorem pdm_spec (f : Nat) (hf : f ≠ 0) : ∀ a, a = cm (pdiv a f) f ^^^ pmod a f ∧ pmod a f < 2 ^ dg f := by
  intro a
  unfold pdiv pmod
  induction a using Nat.strongRecOn with
  | _ a ih =>
    rw [pdm]
    by_cases h : f = 0 ∨ a = 0 ∨ dg a < dg f
    · rw [dif_pos h]
      refine ⟨by simp [zero_cm], ?_⟩
      rcases h with h | h | h
      · exact absurd h hf
      · subst h; exact Nat.pow_pos (by omega)
      · show a < _
        by_cases ha : a = 0
        · subst ha; exact Nat.pow_pos (by omega)
        · exact (dg_lt ha).mp h
    · rw [dif_neg h]
      have h2 : a ≠ 0 := fun q => h (Or.inr (Or.inl q))
      have h3 : ¬ dg a < dg f := fun q => h (Or.inr (Or.inr q))
      have hd := Nat.lt_of_lt_of_le (pm_drop h2 hf (by omega)) (dg_self h2).1
      obtain ⟨i1, i2⟩ := ih _ hd
      refine ⟨?_, i2⟩
      show a = cm (2 ^ (dg a - dg f) ^^^ (pdm (a ^^^ f * 2 ^ (dg a - dg f)) f).1) f ^^^ (pdm (a ^^^ f * 2 ^ (dg a - dg f)) f).2
      rw [cm_xor_left, Nat.xor_assoc, ← i1, cm_comm (2 ^ _), cm_pow_two, Nat.xor_comm a, ← Nat.xor_assoc, Nat.xor_self, Nat.zero_xor]
theorem pdm_eq {f : Nat} (hf : f ≠ 0) (a : Nat) : cm (pdiv a f) f ^^^ pmod a f = a := (pdm_spec f hf a).1.symm
theorem pmod_lt {f : Nat} (hf : f ≠ 0) (a : Nat) : pmod a f < 2 ^ dg f := (pdm_spec f hf a).2
theorem lt_of_small {f r : Nat} (hf : f ≠ 0) (q : Nat) (h : cm q f ^^^ r < 2 ^ dg f) (hr : r < 2 ^ dg f) : q = 0 := by
  refine Classical.byContradiction (fun hq => ?_)
  have h1 := Nat.xor_lt_two_pow h hr
  rw [Nat.xor_assoc, Nat.xor_self, Nat.xor_zero] at h1
  have h2 := cm_log2 hq hf
  have h3 := (dg_lt (cm_ne hq hf)).mpr h1
  unfold dg at *
  omega
/-- quotient and rest are the only ones -/
theorem pdm_unique {f q r a : Nat} (hf : f ≠ 0) (h : a = cm q f ^^^ r) (hr : r < 2 ^ dg f) : pdiv a f = q ∧ pmod a f = r := by
  obtain ⟨e1, e2⟩ := pdm_spec f hf a
  have h1 : cm (pdiv a f ^^^ q) f ^^^ (pmod a f ^^^ r) = 0 := by
    rw [cm_xor_left]
    calc cm (pdiv a f) f ^^^ cm q f ^^^ (pmod a f ^^^ r) = (cm (pdiv a f) f ^^^ pmod a f) ^^^ (cm q f ^^^ r) := by ac_rfl
      _ = a ^^^ a := by rw [← e1, ← h]
      _ = 0 := Nat.xor_self _
  have h2 : pdiv a f ^^^ q = 0 := lt_of_small hf _ (by rw [h1]; exact Nat.pow_pos (by omega)) (Nat.xor_lt_two_pow e2 hr)
  rw [h2, zero_cm, Nat.zero_xor] at h1
  exact ⟨xor_eq_zero'.mp h2, xor_eq_zero'.mp h1⟩
theorem pmod_small {a f : Nat} (h : a < 2 ^ dg f) : pmod a f = a := by
  by_cases hf : f = 0
  · subst hf
    unfold pmod
    rw [pdm]
    simp
  · exact (pdm_unique (q := 0) hf (by rw [zero_cm, Nat.zero_xor]) h).2
theorem pmod_pmod (a f : Nat) : pmod (pmod a f) f = pmod a f := by
  by_cases hf : f = 0
  · subst hf
    unfold pmod
    rw [pdm]
    simp
  · exact pmod_small (pmod_lt hf a)
theorem pmod_zero (f : Nat) : pmod 0 f = 0 := pmod_small (Nat.pow_pos (by omega))
theorem pmod_xor {f : Nat} (hf : f ≠ 0) (a b : Nat) : pmod (a ^^^ b) f = pmod a f ^^^ pmod b f := by
  refine (pdm_unique (q := pdiv a f ^^^ pdiv b f) hf ?_ (Nat.xor_lt_two_pow (pmod_lt hf a) (pmod_lt hf b))).2
  rw [cm_xor_left]
  calc a ^^^ b = (cm (pdiv a f) f ^^^ pmod a f) ^^^ (cm (pdiv b f) f ^^^ pmod b f) := by rw [pdm_eq hf, pdm_eq hf]
    _ = _ := by ac_rfl
theorem pmod_cm {f : Nat} (hf : f ≠ 0) (q : Nat) : pmod (cm q f) f = 0 := (pdm_unique (q := q) hf (by rw [Nat.xor_zero]) (Nat.pow_pos (by omega))).2
theorem pmod_mul_left {f : Nat} (hf : f ≠ 0) (a b : Nat) : pmod (cm (pmod a f) b) f = pmod (cm a b) f := by
  have h : cm a b = cm (cm (pdiv a f) b) f ^^^ cm (pmod a f) b := by
    calc cm a b = cm (cm (pdiv a f) f ^^^ pmod a f) b := by rw [pdm_eq hf]
      _ = _ := by rw [cm_xor_left, cm_assoc, cm_comm f b, ← cm_assoc]
  rw [h, pmod_xor hf, pmod_cm hf, Nat.zero_xor]
theorem pmod_mul_right {f : Nat} (hf : f ≠ 0) (a b : Nat) : pmod (cm a (pmod b f)) f = pmod (cm a b) f := by
  rw [cm_comm, pmod_mul_left hf, cm_comm]
def pdvd (d a : Nat) : Prop := ∃ q, a = cm q d
theorem pdvd_zero (d : Nat) : pdvd d 0 := ⟨0, (zero_cm d).symm⟩
theorem pdvd_refl (d : Nat) : pdvd d d := ⟨1, (one_cm d).symm⟩
theorem one_pdvd (a : Nat) : pdvd 1 a := ⟨a, (cm_one a).symm⟩
theorem pdvd_trans {a b c : Nat} (h1 : pdvd a b) (h2 : pdvd b c) : pdvd a c := by
  obtain ⟨q, rfl⟩ := h1
  obtain ⟨r, rfl⟩ := h2
  exact ⟨cm r q, (cm_assoc r q a).symm⟩
theorem pdvd_xor {d a b : Nat} (h1 : pdvd d a) (h2 : pdvd d b) : pdvd d (a ^^^ b) := by
  obtain ⟨q, rfl⟩ := h1
  obtain ⟨r, rfl⟩ := h2
  exact ⟨q ^^^ r, (cm_xor_left q r d).symm⟩
theorem pdvd_mul_left {d a : Nat} (b : Nat) (h : pdvd d a) : pdvd d (cm b a) := by
  obtain ⟨q, rfl⟩ := h
  exact ⟨cm b q, (cm_assoc b q d).symm⟩
theorem pdvd_mul_right {d a : Nat} (b : Nat) (h : pdvd d a) : pdvd d (cm a b) := by
  rw [cm_comm]; exact pdvd_mul_left b h
theorem pdvd_cm_left (a b : Nat) : pdvd a (cm a b) := ⟨b, cm_comm a b⟩
theorem pdvd_cm_right (a b : Nat) : pdvd b (cm a b) := ⟨a, rfl⟩
theorem pdvd_xor_cancel {d a b : Nat} (h1 : pdvd d a) (h2 : pdvd d (a ^^^ b)) : pdvd d b := by
  have := pdvd_xor h1 h2
  rwa [← Nat.xor_assoc, Nat.xor_self, Nat.zero_xor] at this
theorem pdvd_iff {d : Nat} (hd : d ≠ 0) (a : Nat) : pdvd d a ↔ pmod a d = 0 := by
  constructor
  · rintro ⟨q, rfl⟩
    exact pmod_cm hd q
  · intro h
    have := pdm_eq hd a
    rw [h, Nat.xor_zero] at this
    exact ⟨_, this.symm⟩
theorem zero_pdvd {a : Nat} (h : pdvd 0 a) : a = 0 := by
  obtain ⟨q, rfl⟩ := h
  exact cm_zero q
theorem pdvd_dg {d a : Nat} (ha : a ≠ 0) (h : pdvd d a) : dg d ≤ dg a := by
  obtain ⟨q, rfl⟩ := h
  have hq : q ≠ 0 := by rintro rfl; exact ha (zero_cm d)
  have hd : d ≠ 0 := by rintro rfl; exact ha (cm_zero q)
  unfold dg
  rw [cm_log2 hq hd]
  omega
theorem pdvd_antisymm {a b : Nat} (h1 : pdvd a b) (h2 : pdvd b a) : a = b := by
  by_cases ha : a = 0
  · subst ha; exact (zero_pdvd h1).symm
  obtain ⟨q, rfl⟩ := h1
  obtain ⟨r, hr⟩ := h2
  have h3 : cm (cm r q) a = cm 1 a := by rw [one_cm, cm_assoc]; exact hr.symm
  rw [cm_comm, cm_comm 1] at h3
  have := cm_eq_one.mp (cm_cancel ha h3)
  rw [this.2, one_cm]
theorem pdvd_one {a : Nat} (h : pdvd a 1) : a = 1 := pdvd_antisymm h (one_pdvd a)
def pgcd (a b : Nat) : Nat := if h : b = 0 then a else pgcd b (pmod a b)
termination_by (if b = 0 then 0 else 2 ^ dg b)
decreasing_by
  rw [if_neg h]
  have h1 := pmod_lt h a
  by_cases h2 : pmod a b = 0
  · rw [if_pos h2]; exact Nat.pow_pos (by omega)
  · rw [if_neg h2]
    exact Nat.lt_of_le_of_lt (dg_self h2).1 h1
theorem pgcd_zero (a : Nat) : pgcd a 0 = a := by rw [pgcd]; simp
theorem pgcd_step {b : Nat} (a : Nat) (h : b ≠ 0) : pgcd a b = pgcd b (pmod a b) := by rw [pgcd]; simp [h]
theorem pgcd_spec (a b : Nat) : pdvd (pgcd a b) a ∧ pdvd (pgcd a b) b ∧ ∃ u v, pgcd a b = cm u a ^^^ cm v b := by
  have key : ∀ n, ∀ a b : Nat, (if b = 0 then 0 else 2 ^ dg b) ≤ n → pdvd (pgcd a b) a ∧ pdvd (pgcd a b) b ∧ ∃ u v, pgcd a b = cm u a ^^^ cm v b := by
    intro n
    induction n using Nat.strongRecOn with
    | _ n ih =>
      intro a b hn
      by_cases hb : b = 0
      · subst hb
        rw [pgcd_zero]
        exact ⟨pdvd_refl a, pdvd_zero a, 1, 0, by rw [one_cm, cm_zero, Nat.xor_zero]⟩
      · rw [if_neg hb] at hn
        rw [pgcd_step a hb]
        have h1 := pmod_lt hb a
        have hlt : (if pmod a b = 0 then 0 else 2 ^ dg (pmod a b)) < n := by
          refine Nat.lt_of_lt_of_le ?_ hn
          by_cases h2 : pmod a b = 0
          · rw [if_pos h2]; exact Nat.pow_pos (by omega)
          · rw [if_neg h2]; exact Nat.lt_of_le_of_lt (dg_self h2).1 h1
        obtain ⟨i1, i2, u, v, i3⟩ := ih _ hlt b (pmod a b) (Nat.le_refl _)
        refine ⟨?_, i1, v, u ^^^ cm v (pdiv a b), ?_⟩
        · have := pdvd_xor (pdvd_mul_left (pdiv a b) i1) i2
          rwa [pdm_eq hb] at this
        · rw [i3, cm_xor_left, cm_assoc]
          have e : pmod a b = a ^^^ cm (pdiv a b) b := by
            calc pmod a b = cm (pdiv a b) b ^^^ (cm (pdiv a b) b ^^^ pmod a b) := by rw [← Nat.xor_assoc, Nat.xor_self, Nat.zero_xor]
              _ = _ := by rw [pdm_eq hb, Nat.xor_comm]
          rw [e, cm_xor_right]
          ac_rfl
  exact key _ a b (Nat.le_refl _)
theorem pgcd_dvd_left (a b : Nat) : pdvd (pgcd a b) a := (pgcd_spec a b).1
theorem pgcd_dvd_right (a b : Nat) : pdvd (pgcd a b) b := (pgcd_spec a b).2.1
theorem pdvd_pgcd {d a b : Nat} (h1 : pdvd d a) (h2 : pdvd d b) : pdvd d (pgcd a b) := by
  obtain ⟨u, v, h⟩ := (pgcd_spec a b).2.2
  rw [h]
  exact pdvd_xor (pdvd_mul_left u h1) (pdvd_mul_left v h2)
theorem pgcd_unique {d a b : Nat} (h1 : pdvd d a) (h2 : pdvd d b) (h3 : ∀ c, pdvd c a → pdvd c b → pdvd c d) : pgcd a b = d :=
  pdvd_antisymm (h3 _ (pgcd_dvd_left a b) (pgcd_dvd_right a b)) (pdvd_pgcd h1 h2)
theorem pgcd_comm (a b : Nat) : pgcd a b = pgcd b a := pgcd_unique (pgcd_dvd_right b a) (pgcd_dvd_left b a) (fun _ h1 h2 => pdvd_pgcd h2 h1)
theorem pgcd_ne {a b : Nat} (h : a ≠ 0) : pgcd a b ≠ 0 := fun z => h (zero_pdvd (z ▸ pgcd_dvd_left a b))
theorem euclid_of_coprime {a b c : Nat} (h : pgcd a b = 1) (hd : pdvd a (cm b c)) : pdvd a c := by
  obtain ⟨u, v, e⟩ := (pgcd_spec a b).2.2
  rw [h] at e
  have h1 : c = cm (cm c u) a ^^^ cm v (cm b c) := by
    calc c = cm c 1 := (cm_one c).symm
      _ = cm c (cm u a ^^^ cm v b) := by rw [← e]
      _ = _ := by rw [cm_xor_right, cm_comm c (cm v b), cm_assoc v b c, ← cm_assoc c u a]
  rw [h1]
  exact pdvd_xor ⟨_, rfl⟩ (pdvd_mul_left v hd)
theorem coprime_mul {a b c : Nat} (h1 : pgcd a b = 1) (h2 : pgcd a c = 1) : pgcd a (cm b c) = 1 := by
  refine pgcd_unique (one_pdvd _) (one_pdvd _) (fun d hd1 hd2 => ?_)
  have h3 : pgcd d b = 1 := pdvd_one (h1 ▸ pdvd_pgcd (pdvd_trans (pgcd_dvd_left d b) hd1) (pgcd_dvd_right d b))
  have h4 := euclid_of_coprime h3 hd2
  exact h2 ▸ pdvd_pgcd hd1 h4
theorem coprime_dvd_mul {a b c : Nat} (h : pgcd a b = 1) (h1 : pdvd a c) (h2 : pdvd b c) : pdvd (cm a b) c := by
  obtain ⟨q, rfl⟩ := h2
  have : pdvd a (cm b q) := by rw [cm_comm]; exact h1
  obtain ⟨r, rfl⟩ := euclid_of_coprime h this
  exact ⟨r, by rw [cm_assoc]⟩
/-- irreducible -/
def irr (p : Nat) : Prop := 2 ≤ p ∧ ∀ d, pdvd d p → d = 1 ∨ d = p
theorem irr_coprime {p a : Nat} (hp : irr p) (h : ¬ pdvd p a) : pgcd p a = 1 := by
  rcases hp.2 _ (pgcd_dvd_left p a) with h1 | h1
  · exact h1
  · exact absurd (h1 ▸ pgcd_dvd_right p a) h
theorem irr_euclid {p a b : Nat} (hp : irr p) (h : pdvd p (cm a b)) : pdvd p a ∨ pdvd p b := by
  by_cases h1 : pdvd p a
  · exact Or.inl h1
  · exact Or.inr (euclid_of_coprime (irr_coprime hp h1) h)
theorem irr_ne {p : Nat} (hp : irr p) : p ≠ 0 := by have := hp.1; omega
theorem irr_dg {p : Nat} (hp : irr p) : 1 ≤ dg p := by
  rw [le_dg (irr_ne hp)]
  simpa using hp.1
theorem irr_dvd_irr {p q : Nat} (hp : irr p) (hq : irr q) (h : pdvd p q) : p = q := by
  rcases hq.2 p h with h1 | h1
  · exact absurd h1 (by have := hp.1; omega)
  · exact h1
theorem irr_not_one {p : Nat} (hp : irr p) : ¬ pdvd p 1 := fun h => by have := pdvd_one h; have := hp.1; omega
theorem dg_pos {a : Nat} (h : 2 ≤ a) : 1 ≤ dg a := by rw [le_dg (by omega)]; simpa using h
theorem dg_le {a b : Nat} (hb : b ≠ 0) (h : a ≤ b) : dg a ≤ dg b := by
  by_cases ha : a = 0
  · subst ha; exact Nat.zero_le _
  · exact (le_dg hb).mpr (Nat.le_trans (dg_self ha).1 h)
theorem exists_irr (a : Nat) (h : 2 ≤ a) : ∃ p, irr p ∧ pdvd p a := by
  induction a using Nat.strongRecOn with
  | _ a ih =>
    by_cases hp : irr a
    · exact ⟨a, hp, pdvd_refl a⟩
    · have : ∃ d, pdvd d a ∧ ¬ (d = 1 ∨ d = a) := by
        refine Classical.byContradiction (fun q => hp ⟨h, fun d hd => ?_⟩)
        refine Classical.byContradiction (fun z => q ⟨d, hd, z⟩)
      obtain ⟨d, hd, hn⟩ := this
      have ha0 : a ≠ 0 := by omega
      have hd0 : d ≠ 0 := by rintro rfl; exact ha0 (zero_pdvd hd)
      have hd2 : 2 ≤ d := by
        have : d ≠ 1 := fun z => hn (Or.inl z)
        omega
      obtain ⟨q, hq⟩ := hd
      have hq0 : q ≠ 0 := by rintro rfl; rw [zero_cm] at hq; exact ha0 hq
      have hq1 : q ≠ 1 := by rintro rfl; rw [one_cm] at hq; exact hn (Or.inr hq.symm)
      have hlt : d < a := by
        have e := cm_log2 hq0 hd0
        rw [← hq] at e
        have h1 := dg_pos (show 2 ≤ q by omega)
        have h2 := dg_self hd0
        have h3 := dg_self ha0
        unfold dg at *
        exact Nat.lt_of_lt_of_le h2.2 (Nat.le_trans (Nat.pow_le_pow_right (by omega) (by omega)) h3.1)
      obtain ⟨p, hp1, hp2⟩ := ih d hlt hd2
      exact ⟨p, hp1, pdvd_trans hp2 ⟨q, hq⟩⟩
