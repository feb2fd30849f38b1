-- orders: the theory
def ords (f m : Nat) : Prop := cg f (ppow 2 m) 1
theorem ords_grp (f : Nat) : grp (ords f) := by
  refine ⟨cg_refl f 1, fun a b h1 h2 => ?_, fun a b h1 h2 => ?_⟩
  · have := cg_cm h1 h2
    rw [← ppow_add, cm_one] at this
    exact this
  · have h3 := cg_cm (cg_refl f (ppow 2 a)) h2
    rw [← ppow_add, cm_one] at h3
    exact cg_trans (cg_symm h3) h1
theorem ords_dvd {f g m : Nat} (h : pdvd g f) (hm : ords f m) : ords g m := cg_dvd h hm
theorem irr2 : irr 2 := irr_deg1 (by omega) (by omega)
theorem not_two {p : Nat} (hp : irr p) (h : p ≠ 2) : ¬ pdvd p 2 := fun z => h (irr_dvd_irr hp irr2 z)
theorem ords_irr {p : Nat} (hp : irr p) (h : p ≠ 2) : ords p (2 ^ dg p - 1) := fermat1 hp (not_two hp h)
theorem ones_odd {d : Nat} (h : 1 ≤ d) : (2 ^ d - 1) % 2 = 1 := by
  obtain ⟨k, rfl⟩ : ∃ k, d = k + 1 := ⟨d - 1, by omega⟩
  have := Nat.pow_pos (n := k) (show 0 < 2 by omega)
  rw [Nat.pow_succ]
  omega
theorem odd_dvd {a b : Nat} (h : a ∣ b) (hb : b % 2 = 1) : a % 2 = 1 := by
  obtain ⟨c, rfl⟩ := h
  rw [Nat.mul_mod] at hb
  have : a % 2 = 0 ∨ a % 2 = 1 := by omega
  rcases this with e | e
  · rw [e] at hb; simp at hb
  · exact e
theorem gen_odd {p e : Nat} (hp : irr p) (h : p ≠ 2) (he : isGen (ords p) e) : e % 2 = 1 := odd_dvd (he.2.2 _ (ords_irr hp h)) (ones_odd (irr_dg hp))
theorem xn_sqfree {p n : Nat} (hn : n % 2 = 1) (h : pdvd (cm p p) (ppow 2 n ^^^ 1)) : p = 1 := by
  obtain ⟨q, e⟩ := h
  obtain ⟨u, v, e2⟩ := sq_parts q
  have h1 : cm q (cm p p) = cm (cm u p) (cm u p) ^^^ 2 * cm (cm v p) (cm v p) := by
    rw [e2, cm_xor_left, cm_two_left]
    have h2 : ∀ x, cm (cm x x) (cm p p) = cm (cm x p) (cm x p) := by
      intro x
      rw [cm_assoc, cm_left_comm x p p, ← cm_assoc]
    rw [h2, h2]
  have h3 : ppow 2 n ^^^ 1 = cm 1 1 ^^^ 2 * cm (ppow 2 (n / 2)) (ppow 2 (n / 2)) := by
    rw [cm_one, Nat.xor_comm, ← ppow_add, two_cm, cm_comm]
    have : n = (n / 2 + n / 2) + 1 := by omega
    have e3 : ppow 2 n = ppow 2 ((n / 2 + n / 2) + 1) := by rw [← this]
    rw [e3]
    rfl
  rw [h1, h3] at e
  have := (sq_unique e).1
  exact (cm_eq_one.mp this.symm).2
theorem pdvd_ppow {p a n : Nat} (hp : irr p) (h : pdvd p (ppow a n)) : pdvd p a := by
  induction n with
  | zero => exact absurd h (irr_not_one hp)
  | succ n ih => exact (irr_euclid hp h).elim id ih
theorem ppow_ne {a : Nat} (h : a ≠ 0) (n : Nat) : ppow a n ≠ 0 := by
  induction n with
  | zero => exact (show (1 : Nat) ≠ 0 by decide)
  | succ n ih => exact cm_ne h ih
theorem pow_dvd_iff {p y k n : Nat} (hp : irr p) (h1 : pdvd p y) (h2 : ¬ pdvd (cm p p) y) : pdvd (ppow p k) (ppow y n) ↔ k ≤ n := by
  obtain ⟨z, ez⟩ := h1
  have hz : ¬ pdvd p z := by
    rintro ⟨q, eq⟩
    exact h2 ⟨q, by rw [ez, eq, cm_assoc]⟩
  have e : ppow y n = cm (ppow z n) (ppow p n) := by rw [ez, ppow_cm]
  constructor
  · intro h
    refine Classical.byContradiction (fun hlt => hz ?_)
    obtain ⟨q, eq⟩ := h
    obtain ⟨j, rfl⟩ : ∃ j, k = n + (j + 1) := ⟨k - n - 1, by omega⟩
    rw [e, ppow_add, cm_left_comm q, cm_comm (ppow z n)] at eq
    have := cm_cancel (ppow_ne (irr_ne hp) n) eq
    refine pdvd_ppow hp (n := n) ?_
    rw [this]
    exact pdvd_mul_left _ (pdvd_cm_left p _)
  · intro h
    obtain ⟨j, rfl⟩ : ∃ j, n = k + j := ⟨n - k, by omega⟩
    rw [e, ppow_add p k j]
    exact pdvd_mul_left _ (pdvd_cm_left _ _)
/-- k is at most the power of 2 in m -/
def tw (k m : Nat) : Prop := m = 0 ∨ ∃ s r, m = 2 ^ s * r ∧ r % 2 = 1 ∧ k ≤ 2 ^ s
theorem two_adic (m : Nat) (h : m ≠ 0) : ∃ s r, m = 2 ^ s * r ∧ r % 2 = 1 := by
  induction m using Nat.strongRecOn with
  | _ m ih =>
    by_cases ho : m % 2 = 1
    · exact ⟨0, m, by omega, ho⟩
    · obtain ⟨s, r, e, hr⟩ := ih (m / 2) (by omega) (by omega)
      refine ⟨s + 1, r, ?_, hr⟩
      rw [Nat.pow_succ, Nat.mul_comm (2 ^ s) 2, Nat.mul_assoc, ← e]
      omega
theorem pow_dvd_two {t s r : Nat} (hr : r % 2 = 1) : 2 ^ t ∣ 2 ^ s * r ↔ t ≤ s := by
  constructor
  · intro h
    refine Classical.byContradiction (fun hlt => ?_)
    have h2 : 2 ^ (s + 1) ∣ 2 ^ s * r := Nat.dvd_trans (Nat.pow_dvd_pow 2 (by omega)) h
    obtain ⟨q, e⟩ := h2
    rw [Nat.pow_succ, Nat.mul_assoc] at e
    have := Nat.eq_of_mul_eq_mul_left (Nat.pow_pos (by omega)) e
    omega
  · intro h
    exact Nat.dvd_trans (Nat.pow_dvd_pow 2 h) ⟨r, rfl⟩
theorem odd_coprime_pow {e s : Nat} (he : e % 2 = 1) : Nat.Coprime e (2 ^ s) := by
  refine Nat.Coprime.pow_right s ?_
  have : Nat.Coprime 2 e := prm_coprime ⟨by omega, fun d hd => by have := Nat.le_of_dvd (by omega) hd; have : d ≠ 0 := (fun z => by rw [z] at hd; have := Nat.eq_zero_of_zero_dvd hd; omega); omega⟩ (fun z => by omega)
  exact this.symm
theorem ords_pow {p e k m : Nat} (hp : irr p) (h2 : p ≠ 2) (he : isGen (ords p) e) (hk : 1 ≤ k) : ords (ppow p k) m ↔ e ∣ m ∧ tw k m := by
  have hodd := gen_odd hp h2 he
  have hpk : pdvd p (ppow p k) := by
    obtain ⟨j, rfl⟩ : ∃ j, k = j + 1 := ⟨k - 1, by omega⟩
    exact pdvd_cm_left p _
  by_cases hm : m = 0
  · subst hm
    exact ⟨fun _ => ⟨⟨0, rfl⟩, Or.inl rfl⟩, fun _ => (ords_grp _).1⟩
  · obtain ⟨s, r, em, hr⟩ := two_adic m hm
    have key : e ∣ m → (ords (ppow p k) m ↔ k ≤ 2 ^ s) := by
      intro hem
      rw [em] at hem
      have her : e ∣ r := Nat.Coprime.dvd_of_dvd_mul_left (odd_coprime_pow hodd) hem
      have hpr : ords p r := by
        obtain ⟨c, rfl⟩ := her
        exact grp_mul (ords_grp p) he.2.1 c
      have hy : ppow 2 m ^^^ 1 = ppow (ppow 2 r ^^^ 1) (2 ^ s) := by
        rw [fro_xor, ppow_one_left, ← ppow_mul, em, Nat.mul_comm]
      unfold ords cg
      rw [hy]
      refine pow_dvd_iff hp hpr (fun z => ?_)
      have := xn_sqfree hr z
      have := hp.1
      omega
    constructor
    · intro h
      have hem := he.2.2 m (ords_dvd hpk h)
      exact ⟨hem, Or.inr ⟨s, r, em, hr, (key hem).mp h⟩⟩
    · rintro ⟨hem, hor⟩
      refine (key hem).mpr ?_
      rcases hor with z | ⟨s', r', em', hr', hk'⟩
      · exact absurd z hm
      · have h1 : s' ≤ s := (pow_dvd_two hr).mp (by rw [← em, em']; exact ⟨r', rfl⟩)
        exact Nat.le_trans hk' (Nat.pow_le_pow_right (by omega) h1)
theorem tw_iff {k t m : Nat} (h1 : k ≤ 2 ^ t) (h2 : t = 0 ∨ 2 ^ (t - 1) < k) : tw k m ↔ 2 ^ t ∣ m := by
  constructor
  · rintro (z | ⟨s, r, em, hr, hk⟩)
    · rw [z]; exact ⟨0, rfl⟩
    · rw [em, pow_dvd_two hr]
      rcases h2 with z | z
      · omega
      · have : 2 ^ (t - 1) < 2 ^ s := by omega
        have := (Nat.pow_lt_pow_iff_right (show 1 < 2 by omega)).mp this
        omega
  · intro h
    by_cases hm : m = 0
    · exact Or.inl hm
    · obtain ⟨s, r, em, hr⟩ := two_adic m hm
      rw [em, pow_dvd_two hr] at h
      exact Or.inr ⟨s, r, em, hr, Nat.le_trans h1 (Nat.pow_le_pow_right (by omega) h)⟩
theorem coprime_of_irr {a b : Nat} (ha : a ≠ 0) (h : ∀ q, irr q → pdvd q a → ¬ pdvd q b) : pgcd a b = 1 := by
  refine Classical.byContradiction (fun hne => ?_)
  have h0 := pgcd_ne (b := b) ha
  obtain ⟨q, hq, hqd⟩ := exists_irr (pgcd a b) (by omega)
  exact h q hq (pdvd_trans hqd (pgcd_dvd_left a b)) (pdvd_trans hqd (pgcd_dvd_right a b))
theorem pprod_replicate (p : Nat) : ∀ t, pprod (List.replicate t p) = ppow p t
  | 0 => rfl
  | t + 1 => by rw [List.replicate_succ]; show cm p _ = cm p _; rw [pprod_replicate p t]
theorem ords_rep {m : Nat} : ∀ {bs : List (Nat × Nat)}, (bs.map Prod.fst).Pairwise (· < ·) → (∀ b, b ∈ bs → irr b.1 ∧ 1 ≤ b.2) → (ords (pprod (rep bs)) m ↔ ∀ b, b ∈ bs → ords (ppow b.1 b.2) m)
  | [], _, _ => ⟨fun _ b hb => absurd hb (by simp), fun _ => one_pdvd _⟩
  | b :: l, hs, hi => by
    obtain ⟨s1, s2⟩ := List.pairwise_cons.mp hs
    have hb := hi b List.mem_cons_self
    have hl : ∀ x, x ∈ l → irr x.1 ∧ 1 ≤ x.2 := fun x hx => hi x (List.mem_cons_of_mem _ hx)
    have ih := ords_rep (m := m) s2 hl
    have e : pprod (rep (b :: l)) = cm (ppow b.1 b.2) (pprod (rep l)) := by
      show pprod (List.replicate b.2 b.1 ++ rep l) = _
      rw [pprod_append, pprod_replicate]
    rw [e]
    constructor
    · intro h x hx
      rcases List.mem_cons.mp hx with q | q
      · rw [q]; exact ords_dvd (pdvd_cm_left _ _) h
      · exact ih.mp (ords_dvd (pdvd_cm_right _ _) h) x q
    · intro h
      refine coprime_dvd_mul (coprime_of_irr (ppow_ne (irr_ne hb.1) _) (fun q hq h1 h2 => ?_)) (h b List.mem_cons_self) (ih.mpr (fun x hx => h x (List.mem_cons_of_mem _ hx)))
      have h3 := pdvd_ppow hq h1
      have h4 := irr_dvd_irr hq hb.1 h3
      have h5 := irr_mem (rep_irr (fun x hx => (hl x hx).1)) hq h2
      obtain ⟨x, hx, ex⟩ := mem_rep h5
      have := s1 x.1 (List.mem_map.mpr ⟨x, hx, rfl⟩)
      omega
def lcml : List Nat → Nat
  | [] => 1
  | a :: l => Nat.lcm a (lcml l)
theorem lcml_dvd {m : Nat} : ∀ {l : List Nat}, lcml l ∣ m ↔ ∀ e, e ∈ l → e ∣ m
  | [] => ⟨fun _ e he => absurd he (by simp), fun _ => Nat.one_dvd m⟩
  | a :: l => by
    show Nat.lcm a (lcml l) ∣ m ↔ _
    rw [Nat.lcm_dvd_iff, lcml_dvd (l := l)]
    simp
theorem lcml_odd : ∀ {l : List Nat}, (∀ e, e ∈ l → e % 2 = 1) → lcml l % 2 = 1
  | [], _ => rfl
  | a :: l, h => by
    have h1 := h a List.mem_cons_self
    have h2 := lcml_odd (fun e he => h e (List.mem_cons_of_mem _ he))
    refine odd_dvd (Nat.lcm_dvd_mul a (lcml l)) ?_
    rw [Nat.mul_mod, h1, h2]
theorem mxt_mem : ∀ {bs : List (Nat × Nat)}, bs ≠ [] → ∃ b, b ∈ bs ∧ b.2 = mxt bs
  | [], h => absurd rfl h
  | b :: l, _ => by
    by_cases hl : l = []
    · subst hl
      exact ⟨b, List.mem_cons_self, (Nat.max_zero _).symm⟩
    · obtain ⟨x, hx, e⟩ := mxt_mem hl
      by_cases h : b.2 ≤ mxt l
      · exact ⟨x, List.mem_cons_of_mem _ hx, by rw [e]; exact (Nat.max_eq_right h).symm⟩
      · exact ⟨b, List.mem_cons_self, (Nat.max_eq_left (by omega)).symm⟩
theorem le_mxt {bs : List (Nat × Nat)} {b : Nat × Nat} (h : b ∈ bs) : b.2 ≤ mxt bs := by
  induction bs with
  | nil => exact absurd h (by simp)
  | cons x l ih =>
    rcases List.mem_cons.mp h with q | q
    · rw [q]; exact Nat.le_max_left _ _
    · exact Nat.le_trans (ih q) (Nat.le_max_right _ _)
theorem odd_base {a : Nat} {bs : List (Nat × Nat)} (ho : a % 2 = 1) (hB : okB a bs) {b : Nat × Nat} (hb : b ∈ bs) : b.1 ≠ 2 := by
  intro z
  have h1 := (hB.2.2 b hb).2
  have hm : b.1 ∈ rep bs := by
    clear hB
    induction bs with
    | nil => exact absurd hb (by simp)
    | cons x l ih =>
      rcases List.mem_cons.mp hb with q | q
      · subst q
        exact List.mem_append.mpr (Or.inl (List.mem_replicate.mpr ⟨by omega, rfl⟩))
      · exact List.mem_append.mpr (Or.inr (ih q))
  have h2 := mem_dvd_pprod hm
  rw [hB.1.2.2.2 (by omega), z] at h2
  obtain ⟨q, e⟩ := h2
  rw [← two_cm] at e
  omega
/-- whose multiples bring x back -/
theorem ords_all {a m : Nat} {bs : List (Nat × Nat)} (ho : a % 2 = 1) (hB : okB a bs) {g : Nat → Nat} (hg : ∀ b, b ∈ bs → isGen (ords b.1) (g b.1)) : ords a m ↔ lcml (bs.map (fun b => g b.1)) ∣ m ∧ tw (mxt bs) m := by
  have e := hB.1.2.2.2 (show a ≠ 0 by omega)
  have h1 : ords a m ↔ ∀ b, b ∈ bs → ords (ppow b.1 b.2) m := by
    rw [← e]
    exact ords_rep hB.2.1 hB.2.2
  have h2 : ∀ b, b ∈ bs → (ords (ppow b.1 b.2) m ↔ g b.1 ∣ m ∧ tw b.2 m) := fun b hb => ords_pow (hB.2.2 b hb).1 (odd_base ho hB hb) (hg b hb) (hB.2.2 b hb).2
  rw [h1, lcml_dvd]
  constructor
  · intro h
    refine ⟨fun x hx => ?_, ?_⟩
    · obtain ⟨b, hb, rfl⟩ := List.mem_map.mp hx
      exact ((h2 b hb).mp (h b hb)).1
    · by_cases hl : bs = []
      · subst hl
        by_cases hm : m = 0
        · exact Or.inl hm
        · obtain ⟨s, r, em, hr⟩ := two_adic m hm
          exact Or.inr ⟨s, r, em, hr, Nat.zero_le _⟩
      · obtain ⟨b, hb, eb⟩ := mxt_mem hl
        rw [← eb]
        exact ((h2 b hb).mp (h b hb)).2
  · rintro ⟨h3, h4⟩ b hb
    refine (h2 b hb).mpr ⟨h3 _ (List.mem_map.mpr ⟨b, hb, rfl⟩), ?_⟩
    rcases h4 with z | ⟨s, r, em, hr, hk⟩
    · exact Or.inl z
    · exact Or.inr ⟨s, r, em, hr, Nat.le_trans (le_mxt hb) hk⟩
theorem ords_all2 {a m t : Nat} {bs : List (Nat × Nat)} (ho : a % 2 = 1) (hB : okB a bs) {g : Nat → Nat} (hg : ∀ b, b ∈ bs → isGen (ords b.1) (g b.1)) (h1 : mxt bs ≤ 2 ^ t) (h2 : t = 0 ∨ 2 ^ (t - 1) < mxt bs) : ords a m ↔ lcml (bs.map (fun b => g b.1)) * 2 ^ t ∣ m := by
  rw [ords_all ho hB hg, tw_iff h1 h2]
  have hodd : lcml (bs.map (fun b => g b.1)) % 2 = 1 := by
    refine lcml_odd (fun e he => ?_)
    obtain ⟨b, hb, rfl⟩ := List.mem_map.mp he
    exact gen_odd (hB.2.2 b hb).1 (odd_base ho hB hb) (hg b hb)
  constructor
  · rintro ⟨h3, h4⟩
    exact Nat.Coprime.mul_dvd_of_dvd_of_dvd (odd_coprime_pow hodd) h3 h4
  · intro h
    exact ⟨Nat.dvd_trans ⟨_, rfl⟩ h, Nat.dvd_trans ⟨_, Nat.mul_comm _ _⟩ h⟩
/-- the sum of the degrees of the unlike ones -/
def dsum : List (Nat × Nat) → Nat
  | [] => 0
  | b :: l => dg b.1 + dsum l
theorem dg_ppow {p : Nat} (hp : p ≠ 0) (t : Nat) : dg (ppow p t) = t * dg p := by
  induction t with
  | zero => show dg 1 = _; rw [Nat.zero_mul]; decide
  | succ t ih => show dg (cm p (ppow p t)) = _; rw [dg_cm hp (ppow_ne hp t), ih, Nat.succ_mul]; omega
theorem dsum_le {bs : List (Nat × Nat)} (h : ∀ b, b ∈ bs → irr b.1 ∧ 1 ≤ b.2) : dsum bs ≤ dg (pprod (rep bs)) ∧ dsum bs + mxt bs ≤ dg (pprod (rep bs)) + 1 := by
  induction bs with
  | nil => exact ⟨Nat.zero_le _, Nat.zero_le _⟩
  | cons b l ih =>
    have hb := h b List.mem_cons_self
    have hl : ∀ x, x ∈ l → irr x.1 ∧ 1 ≤ x.2 := fun x hx => h x (List.mem_cons_of_mem _ hx)
    obtain ⟨i1, i2⟩ := ih hl
    have e : pprod (rep (b :: l)) = cm (ppow b.1 b.2) (pprod (rep l)) := by
      show pprod (List.replicate b.2 b.1 ++ rep l) = _
      rw [pprod_append, pprod_replicate]
    have hd := irr_dg hb.1
    rw [e, dg_cm (ppow_ne (irr_ne hb.1) _) (pprod_ne (rep_irr (fun x hx => (hl x hx).1))), dg_ppow (irr_ne hb.1)]
    show dg b.1 + dsum l ≤ _ ∧ dg b.1 + dsum l + max b.2 (mxt l) ≤ _
    obtain ⟨t, ht⟩ : ∃ t, b.2 = t + 1 := ⟨b.2 - 1, by omega⟩
    have h3 : b.2 * dg b.1 = t * dg b.1 + dg b.1 := by rw [ht, Nat.succ_mul]
    have h4 : t ≤ t * dg b.1 := Nat.le_mul_of_pos_right t hd
    omega
theorem lcml_le {l : List Nat} (h : ∀ e, e ∈ l → 1 ≤ e) : lcml l ≤ nprod l := by
  induction l with
  | nil => exact Nat.le_refl _
  | cons a l ih =>
    have h1 := ih (fun e he => h e (List.mem_cons_of_mem _ he))
    have h2 : ∀ l : List Nat, (∀ e, e ∈ l → 1 ≤ e) → 1 ≤ nprod l := by
      intro l
      induction l with
      | nil => exact fun _ => Nat.le_refl _
      | cons b l ih => exact fun h => Nat.mul_pos (h b List.mem_cons_self) (ih (fun e he => h e (List.mem_cons_of_mem _ he)))
    have ha := h a List.mem_cons_self
    show Nat.lcm a (lcml l) ≤ a * nprod l
    refine Nat.le_trans (Nat.le_of_dvd ?_ (Nat.lcm_dvd_mul a (lcml l))) (Nat.mul_le_mul_left _ h1)
    refine Nat.mul_pos ha (Nat.pos_of_ne_zero (fun z => ?_))
    have : lcml l ∣ nprod l := lcml_dvd.mpr (fun e he => by
      clear z h1 h ih h2 ha
      induction l with
      | nil => exact absurd he (by simp)
      | cons b l ih =>
        rcases List.mem_cons.mp he with q | q
        · rw [q]; exact ⟨nprod l, rfl⟩
        · exact Nat.dvd_trans (ih q) ⟨b, Nat.mul_comm _ _⟩)
    rw [z] at this
    have h3 := Nat.eq_zero_of_zero_dvd this
    have := h2 l (fun e he => h e (List.mem_cons_of_mem _ he))
    omega
theorem nprod_pow {bs : List (Nat × Nat)} {g : Nat → Nat} (h : ∀ b, b ∈ bs → g b.1 ≤ 2 ^ dg b.1) : nprod (bs.map (fun b => g b.1)) ≤ 2 ^ dsum bs := by
  induction bs with
  | nil => exact Nat.le_refl _
  | cons b l ih =>
    show g b.1 * nprod (l.map _) ≤ 2 ^ (dg b.1 + dsum l)
    rw [Nat.pow_add]
    exact Nat.mul_le_mul (h b List.mem_cons_self) (ih (fun x hx => h x (List.mem_cons_of_mem _ hx)))
theorem lt_two_pow' (n : Nat) : n < 2 ^ n := Nat.lt_two_pow_self
theorem ord_bound {a t : Nat} {bs : List (Nat × Nat)} (ha : a < 2 ^ 32) (h0 : a ≠ 0) (hB : okB a bs) {g : Nat → Nat} (hg : ∀ b, b ∈ bs → 1 ≤ g b.1 ∧ g b.1 ≤ 2 ^ dg b.1) (h2 : t = 0 ∨ 2 ^ (t - 1) < mxt bs) : lcml (bs.map (fun b => g b.1)) * 2 ^ t ≤ 2 ^ 31 := by
  have h3 := dsum_le hB.2.2
  rw [hB.1.2.2.2 h0] at h3
  have h4 := (dg_lt h0).mpr ha
  have h5 : lcml (bs.map (fun b => g b.1)) ≤ 2 ^ dsum bs := Nat.le_trans (lcml_le (fun e he => by
    obtain ⟨b, hb, rfl⟩ := List.mem_map.mp he
    exact (hg b hb).1)) (nprod_pow (fun b hb => (hg b hb).2))
  refine Nat.le_trans (Nat.mul_le_mul_right _ h5) ?_
  rw [← Nat.pow_add]
  refine Nat.pow_le_pow_right (by omega) ?_
  rcases h2 with z | z
  · omega
  · have := lt_two_pow' (t - 1)
    omega
theorem gen_le {p e : Nat} (hp : irr p) (h : p ≠ 2) (he : isGen (ords p) e) : 1 ≤ e ∧ e ≤ 2 ^ dg p - 1 := by
  refine ⟨he.1, Nat.le_of_dvd ?_ (he.2.2 _ (ords_irr hp h))⟩
  have := ones_odd (irr_dg hp)
  omega
