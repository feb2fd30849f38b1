-- numbers: primes, what reduces to the least one
def prm (p : Nat) : Prop := 2 ≤ p ∧ ∀ d, d ∣ p → d = 1 ∨ d = p
theorem exists_prm (n : Nat) (h : 2 ≤ n) : ∃ p, prm p ∧ p ∣ n := by
  induction n using Nat.strongRecOn with
  | _ n ih =>
    by_cases hp : prm n
    · exact ⟨n, hp, Nat.dvd_refl n⟩
    · have : ∃ d, d ∣ n ∧ d ≠ 1 ∧ d ≠ n := by
        refine Classical.byContradiction (fun hno => hp ⟨h, fun d hd => ?_⟩)
        by_cases h1 : d = 1
        · exact Or.inl h1
        · by_cases h2 : d = n
          · exact Or.inr h2
          · exact absurd ⟨d, hd, h1, h2⟩ hno
      obtain ⟨d, hd, h1, h2⟩ := this
      have h3 := Nat.le_of_dvd (by omega) hd
      have h4 : d ≠ 0 := by
        intro z
        rw [z] at hd
        have := Nat.eq_zero_of_zero_dvd hd
        omega
      obtain ⟨p, hp1, hp2⟩ := ih d (by omega) (by omega)
      exact ⟨p, hp1, Nat.dvd_trans hp2 hd⟩
theorem prm_coprime {p a : Nat} (hp : prm p) (h : ¬ p ∣ a) : Nat.Coprime p a := by
  rcases hp.2 _ (Nat.gcd_dvd_left p a) with q | q
  · exact q
  · exact absurd (q ▸ Nat.gcd_dvd_right p a) h
theorem prm_dvd_mul {p a b : Nat} (hp : prm p) (h : p ∣ a * b) : p ∣ a ∨ p ∣ b := by
  by_cases ha : p ∣ a
  · exact Or.inl ha
  · exact Or.inr (Nat.Coprime.dvd_of_dvd_mul_left (prm_coprime hp ha) h)
theorem prm_dvd_prm {p q : Nat} (hp : prm p) (hq : prm q) (h : p ∣ q) : p = q := by
  rcases hq.2 p h with e | e
  · have := hp.1; omega
  · exact e
/-- the primes of n, rising -/
def isPL (n : Nat) (ps : List Nat) : Prop := (∀ p, p ∈ ps ↔ prm p ∧ p ∣ n) ∧ ps.Pairwise (· < ·)
theorem sorted_ext : ∀ {l m : List Nat}, l.Pairwise (· < ·) → m.Pairwise (· < ·) → (∀ x, x ∈ l ↔ x ∈ m) → l = m
  | [], [], _, _, _ => rfl
  | [], b :: m, _, _, h => absurd ((h b).mpr List.mem_cons_self) (by simp)
  | a :: l, [], _, _, h => absurd ((h a).mp List.mem_cons_self) (by simp)
  | a :: l, b :: m, hl, hm, h => by
    obtain ⟨l1, l2⟩ := List.pairwise_cons.mp hl
    obtain ⟨m1, m2⟩ := List.pairwise_cons.mp hm
    have e : a = b := by
      rcases List.mem_cons.mp ((h a).mp List.mem_cons_self) with q | q
      · exact q
      · rcases List.mem_cons.mp ((h b).mpr List.mem_cons_self) with r | r
        · exact r.symm
        · have := m1 a q
          have := l1 b r
          omega
    subst e
    have : l = m := sorted_ext l2 m2 (fun x => by
      constructor
      · intro hx
        rcases List.mem_cons.mp ((h x).mp (List.mem_cons_of_mem _ hx)) with q | q
        · have := l1 x hx; omega
        · exact q
      · intro hx
        rcases List.mem_cons.mp ((h x).mpr (List.mem_cons_of_mem _ hx)) with q | q
        · have := m1 x hx; omega
        · exact q)
    rw [this]
theorem isPL_unique {n : Nat} {ps qs : List Nat} (h1 : isPL n ps) (h2 : isPL n qs) : ps = qs :=
  sorted_ext h1.2 h2.2 (fun x => (h1.1 x).trans (h2.1 x).symm)
def fct : Nat → Nat
  | 0 => 1
  | n + 1 => (n + 1) * fct n
theorem fct_mono {m n : Nat} (h : m ≤ n) : fct m ≤ fct n := by
  induction n with
  | zero => have : m = 0 := by omega
            rw [this]; exact Nat.le_refl _
  | succ n ih =>
    by_cases e : m = n + 1
    · rw [e]; exact Nat.le_refl _
    · refine Nat.le_trans (ih (by omega)) ?_
      show fct n ≤ (n + 1) * fct n
      exact Nat.le_mul_of_pos_left _ (by omega)
def nprod : List Nat → Nat
  | [] => 1
  | a :: l => a * nprod l
theorem nprod_snoc (l : List Nat) (x : Nat) : nprod (l ++ [x]) = nprod l * x := by
  induction l with
  | nil => show x * 1 = 1 * x; omega
  | cons a l ih => show a * nprod (l ++ [x]) = a * nprod l * x; rw [ih, Nat.mul_assoc]
/-- where a search for the primes of n stands: those below d are out -/
def sieve (n left d : Nat) (acc : List Nat) : Prop :=
  1 ≤ left ∧ left ∣ n ∧ (∀ p, p ∈ acc → prm p ∧ p ∣ n ∧ p < d) ∧ acc.Pairwise (· < ·) ∧ (∀ p, prm p → p ∣ n → p ∈ acc ∨ p ∣ left) ∧ (∀ p, prm p → p ∣ left → d ≤ p) ∧
    nprod acc * left ≤ n ∧ fct (acc.length + 1) ≤ nprod acc ∧ acc.length + 2 ≤ d
theorem sieve_start {n : Nat} (h : 1 ≤ n) : sieve n n 2 [] :=
  ⟨h, Nat.dvd_refl n, fun p hp => absurd hp (by simp), List.Pairwise.nil, fun p _ h => Or.inr h, fun p hp _ => hp.1, by show 1 * n ≤ n; omega, by decide, by simp⟩
theorem sieve_len {n left d : Nat} {acc : List Nat} (hn : n < 2 ^ 32) (h : sieve n left d acc) : acc.length ≤ 11 := by
  obtain ⟨h1, -, -, -, -, -, h7, h8, -⟩ := h
  refine Classical.byContradiction (fun hc => ?_)
  have h9 := fct_mono (show 13 ≤ acc.length + 1 by omega)
  have h10 : fct 13 = 6227020800 := by decide +kernel
  have h11 : nprod acc * 1 ≤ nprod acc * left := Nat.mul_le_mul_left _ h1
  omega
theorem sieve_up {n left d d' : Nat} {acc : List Nat} (h : sieve n left d acc) (hd : d ≤ d') (hn : ∀ p, prm p → p ∣ left → d' ≤ p) : sieve n left d' acc := by
  obtain ⟨h1, h2, h3, h4, h5, h6, h7, h8, h9⟩ := h
  exact ⟨h1, h2, fun p hp => by have := h3 p hp; exact ⟨this.1, this.2.1, by omega⟩, h4, h5, hn, h7, h8, by omega⟩
theorem sieve_end {n d : Nat} {acc : List Nat} (h : sieve n 1 d acc) : isPL n acc := by
  obtain ⟨h1, h2, h3, h4, h5, h6, h7, h8, h9⟩ := h
  refine ⟨fun p => ⟨fun hp => ⟨(h3 p hp).1, (h3 p hp).2.1⟩, fun hp => ?_⟩, h4⟩
  rcases h5 p hp.1 hp.2 with q | q
  · exact q
  · have := Nat.le_of_dvd (by omega) q
    have := hp.1.1
    omega
theorem sieve_prm {n left d : Nat} {acc : List Nat} (h : sieve n left d acc) (hd : d ∣ left) : prm d := by
  obtain ⟨h1, -, -, -, -, h6, -, -, h9⟩ := h
  obtain ⟨p, hp, hpd⟩ := exists_prm d (by omega)
  have h2 := h6 p hp (Nat.dvd_trans hpd hd)
  have h3 := Nat.le_of_dvd (by omega) hpd
  have : p = d := by omega
  exact this ▸ hp
theorem sieve_last {n left d : Nat} {acc : List Nat} (h : sieve n left d acc) (hl : 2 ≤ left) (hd : left < d * d) : prm left := by
  obtain ⟨h1, -, -, -, -, h6, -, -, h9⟩ := h
  refine ⟨hl, fun e he => ?_⟩
  by_cases e1 : e = 1
  · exact Or.inl e1
  by_cases e2 : e = left
  · exact Or.inr e2
  exfalso
  obtain ⟨q, hq⟩ := he
  have he0 : e ≠ 0 := by
    intro z
    rw [z, Nat.zero_mul] at hq
    omega
  have hq0 : q ≠ 0 := by
    intro z
    rw [z, Nat.mul_zero] at hq
    omega
  have hq1 : q ≠ 1 := by
    intro z
    rw [z, Nat.mul_one] at hq
    exact e2 hq.symm
  obtain ⟨p, hp, hpe⟩ := exists_prm e (by omega)
  obtain ⟨r, hr, hrq⟩ := exists_prm q (by omega)
  have a1 := h6 p hp (Nat.dvd_trans hpe ⟨q, hq⟩)
  have a2 := h6 r hr (Nat.dvd_trans hrq ⟨e, by rw [hq, Nat.mul_comm]⟩)
  have b1 := Nat.le_of_dvd (by omega) hpe
  have b2 := Nat.le_of_dvd (by omega) hrq
  have := Nat.mul_le_mul (show d ≤ e by omega) (show d ≤ q by omega)
  omega
/-- a prime d is taken out, as often as it is there -/
theorem sieve_take {n left left' d k : Nat} {acc : List Nat} (h : sieve n left d acc) (hp : prm d) (hk : 1 ≤ k) (he : d ^ k * left' = left) (hn : ¬ d ∣ left') : sieve n left' (d + 1) (acc ++ [d]) := by
  obtain ⟨h1, h2, h3, h4, h5, h6, h7, h8, h9⟩ := h
  have hl0 : 1 ≤ left' := by
    refine Nat.pos_of_ne_zero (fun z => ?_)
    rw [z, Nat.mul_zero] at he
    omega
  have hdl : d ∣ left := by
    obtain ⟨j, rfl⟩ : ∃ j, k = j + 1 := ⟨k - 1, by omega⟩
    exact ⟨d ^ j * left', by rw [← he, Nat.pow_succ, Nat.mul_comm (d ^ j) d, Nat.mul_assoc]⟩
  have hll : left' ∣ left := ⟨d ^ k, by rw [Nat.mul_comm]; exact he.symm⟩
  have hpk : d ≤ d ^ k := by
    have := Nat.pow_le_pow_right (show 0 < d by omega) hk
    rw [Nat.pow_one] at this
    exact this
  refine ⟨hl0, Nat.dvd_trans hll h2, ?_, ?_, ?_, ?_, ?_, ?_, ?_⟩
  · intro p hpm
    rcases List.mem_append.mp hpm with q | q
    · have := h3 p q; exact ⟨this.1, this.2.1, by omega⟩
    · rw [List.mem_singleton.mp q]; exact ⟨hp, Nat.dvd_trans hdl h2, by omega⟩
  · refine List.pairwise_append.mpr ⟨h4, List.pairwise_singleton _ _, fun a ha b hb => ?_⟩
    rw [List.mem_singleton.mp hb]
    exact (h3 a ha).2.2
  · intro p hp1 hp2
    rcases h5 p hp1 hp2 with q | q
    · exact Or.inl (List.mem_append.mpr (Or.inl q))
    · rw [← he] at q
      rcases prm_dvd_mul hp1 q with r | r
      · left
        have : p ∣ d := by
          clear he hpk hk q
          induction k with
          | zero =>
            rw [Nat.pow_zero] at r
            have := Nat.le_of_dvd (by omega) r
            have := hp1.1
            omega
          | succ k ih =>
            rw [Nat.pow_succ] at r
            rcases prm_dvd_mul hp1 r with s | s
            · exact ih s
            · exact s
        rw [prm_dvd_prm hp1 hp this]
        simp
      · exact Or.inr r
  · intro p hp1 hp2
    have := h6 p hp1 (Nat.dvd_trans hp2 hll)
    have : p ≠ d := fun z => hn (z ▸ hp2)
    omega
  · rw [nprod_snoc]
    refine Nat.le_trans ?_ h7
    rw [← he, Nat.mul_assoc]
    exact Nat.mul_le_mul_left _ (Nat.mul_le_mul_right _ hpk)
  · rw [nprod_snoc, List.length_append]
    show (acc.length + 1 + 1) * fct (acc.length + 1) ≤ nprod acc * d
    rw [Nat.mul_comm (nprod acc)]
    exact Nat.mul_le_mul (by omega) h8
  · rw [List.length_append]
    show acc.length + 1 + 2 ≤ d + 1
    omega
/-- a set of numbers that holds with two their sum and difference -/
def grp (S : Nat → Prop) : Prop := S 0 ∧ (∀ a b, S a → S b → S (a + b)) ∧ (∀ a b, S (a + b) → S b → S a)
theorem grp_mul {S : Nat → Prop} (h : grp S) {a : Nat} (ha : S a) (k : Nat) : S (a * k) := by
  induction k with
  | zero => exact h.1
  | succ k ih => rw [Nat.mul_succ]; exact h.2.1 _ _ ih ha
theorem grp_mod {S : Nat → Prop} (h : grp S) {a b : Nat} (ha : S a) (hb : S b) : S (a % b) := by
  have e := Nat.mod_add_div a b
  have h2 := grp_mul h hb (a / b)
  exact h.2.2 (a % b) (b * (a / b)) (by rw [e]; exact ha) h2
theorem grp_gcd {S : Nat → Prop} (h : grp S) : ∀ (a b : Nat), S a → S b → S (Nat.gcd a b) := by
  intro a
  induction a using Nat.strongRecOn with
  | _ a ih =>
    intro b ha hb
    by_cases z : a = 0
    · rw [z, Nat.gcd_zero_left]; exact hb
    · rw [Nat.gcd_rec]
      exact ih (b % a) (Nat.mod_lt _ (by omega)) a (grp_mod h hb ha) ha
/-- the least one above 0 of such a set: all are its multiples -/
def isGen (S : Nat → Prop) (e : Nat) : Prop := 1 ≤ e ∧ S e ∧ ∀ m, S m → e ∣ m
theorem isGen_unique {S : Nat → Prop} {e f : Nat} (h1 : isGen S e) (h2 : isGen S f) : e = f := Nat.dvd_antisymm (h1.2.2 f h2.2.1) (h2.2.2 e h1.2.1)
theorem gen_of {S : Nat → Prop} (h : grp S) {e : Nat} (h1 : 1 ≤ e) (he : S e) (hp : ∀ p, prm p → p ∣ e → ¬ S (e / p)) : isGen S e := by
  refine ⟨h1, he, fun m hm => ?_⟩
  have hg := grp_gcd h e m he hm
  have hd := Nat.gcd_dvd_left e m
  by_cases c : Nat.gcd e m = e
  · rw [← c]; exact Nat.gcd_dvd_right e m
  · exfalso
    obtain ⟨q, hq⟩ := hd
    have hg0 : Nat.gcd e m ≠ 0 := by
      intro z
      rw [z, Nat.zero_mul] at hq
      omega
    have hq0 : q ≠ 0 := by
      intro z
      rw [z, Nat.mul_zero] at hq
      omega
    have hq1 : q ≠ 1 := by
      intro z
      rw [z, Nat.mul_one] at hq
      exact c hq.symm
    obtain ⟨p, hpp, r, hr⟩ := exists_prm q (by omega)
    refine hp p hpp ⟨Nat.gcd e m * r, ?_⟩ ?_
    · rw [Nat.mul_left_comm, ← hr]; exact hq
    · have e2 : e / p = Nat.gcd e m * r := by
        have : e = p * (Nat.gcd e m * r) := by rw [Nat.mul_left_comm, ← hr]; exact hq
        have e3 : p * (Nat.gcd e m * r) / p = Nat.gcd e m * r := Nat.mul_div_cancel_left _ (Nat.lt_of_lt_of_le (by omega) hpp.1)
        rw [← this] at e3
        exact e3
      rw [e2]
      exact grp_mul h hg r
/-- where a reduction stands: by the primes before the i-th nothing more can be taken off -/
def redu (S : Nat → Prop) (e0 e : Nat) (done : List Nat) : Prop := 1 ≤ e ∧ e ∣ e0 ∧ S e ∧ ∀ p, p ∈ done → ¬ (p ∣ e ∧ S (e / p))
theorem redu_step {S : Nat → Prop} (h : grp S) {e0 e q : Nat} {done : List Nat} (hr : redu S e0 e done) (hq : q ∣ e) (hs : S (e / q)) (hq0 : 1 ≤ q) : redu S e0 (e / q) done := by
  obtain ⟨h1, h2, h3, h4⟩ := hr
  obtain ⟨k, hk⟩ := hq
  have ek : e / q = k := by rw [hk]; exact Nat.mul_div_cancel_left _ hq0
  have hk0 : 1 ≤ k := Nat.pos_of_ne_zero (fun z => by rw [z, Nat.mul_zero] at hk; omega)
  rw [ek] at hs ⊢
  refine ⟨hk0, Nat.dvd_trans ⟨q, by rw [Nat.mul_comm]; exact hk⟩ h2, hs, fun p hp z => h4 p hp ⟨Nat.dvd_trans z.1 ⟨q, by rw [Nat.mul_comm]; exact hk⟩, ?_⟩⟩
  obtain ⟨r, hr⟩ := z.1
  have hp0 : 0 < p := Nat.pos_of_ne_zero (fun y => by rw [y, Nat.zero_mul] at hr; omega)
  have e1 : k / p = r := by rw [hr]; exact Nat.mul_div_cancel_left _ hp0
  have e2 : e / p = r * q := by
    rw [hk, hr, Nat.mul_left_comm, Nat.mul_div_cancel_left _ hp0, Nat.mul_comm]
  rw [e2]
  have := z.2
  rw [e1] at this
  exact grp_mul h this q
theorem redu_end {S : Nat → Prop} (h : grp S) {e0 e : Nat} {ps : List Nat} (hps : isPL e0 ps) (hr : redu S e0 e ps) : isGen S e := by
  obtain ⟨h1, h2, h3, h4⟩ := hr
  exact gen_of h h1 h3 (fun p hp hd hs => h4 p ((hps.1 p).mpr ⟨hp, Nat.dvd_trans hd h2⟩) ⟨hd, hs⟩)
theorem redu_next {S : Nat → Prop} {e0 e p : Nat} {done : List Nat} (hr : redu S e0 e done) (hn : ¬ (p ∣ e ∧ S (e / p))) : redu S e0 e (done ++ [p]) := by
  obtain ⟨h1, h2, h3, h4⟩ := hr
  refine ⟨h1, h2, h3, fun q hq => ?_⟩
  rcases List.mem_append.mp hq with r | r
  · exact h4 q r
  · rw [List.mem_singleton.mp r]; exact hn
