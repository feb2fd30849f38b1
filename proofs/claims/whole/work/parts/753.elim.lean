-- shortest in the model: rows of equations
def rowN (s L i : Nat) : Nat := ((s >>> i) % 2 ^ L) ||| ((s.testBit (i + L)).toNat <<< 62)
def okr (L r : Nat) : Prop := ∀ b, L ≤ b → b ≠ 62 → r.testBit b = false
theorem okr_xor {L a b : Nat} (ha : okr L a) (hb : okr L b) : okr L (a ^^^ b) := by
  intro i h1 h2
  rw [Nat.testBit_xor, ha i h1 h2, hb i h1 h2]
  rfl
theorem okr_lt {L r : Nat} (h : okr L r) (hL : L ≤ 62) : r < 2 ^ 63 :=
  Nat.lt_pow_two_of_testBit _ (fun i hi => h i (by omega) (by omega))
theorem bit_one (x : Bool) (k b : Nat) : (x.toNat <<< k).testBit b = (x && decide (b = k)) := by
  cases x
  · show (0 <<< k).testBit b = _
    rw [Nat.zero_shiftLeft, Nat.zero_testBit]
    rfl
  · show (1 <<< k).testBit b = _
    rw [Nat.shiftLeft_eq, Nat.one_mul, Nat.testBit_two_pow]
    by_cases h : k = b
    · simp [h]
    · simp [h, show ¬ b = k by omega]
theorem rowN_bit (s L i b : Nat) : (rowN s L i).testBit b = ((decide (b < L) && s.testBit (i + b)) || (s.testBit (i + L) && decide (b = 62))) := by
  unfold rowN
  rw [Nat.testBit_or, bit_one, Nat.testBit_mod_two_pow, Nat.testBit_shiftRight]
theorem rowN_ok (s L i : Nat) : okr L (rowN s L i) := by
  intro b h1 h2
  rw [rowN_bit]
  simp [show ¬ b < L by omega, h2]
theorem par_and_xor (x a b : Nat) : par (x &&& (a ^^^ b)) = (par (x &&& a) + par (x &&& b)) % 2 := by
  rw [and_xor_distrib, par_xor]
theorem par_xor_and (a b y : Nat) : par ((a ^^^ b) &&& y) = (par (a &&& y) + par (b &&& y)) % 2 := by
  rw [Nat.and_comm, par_and_xor, Nat.and_comm y a, Nat.and_comm y b]
theorem par_pow {k : Nat} (hk : k < 63) (r : Nat) : par (2 ^ k &&& r) = (r.testBit k).toNat := by
  rw [Nat.and_comm, and_pow2]
  have := par_bit hk (r.testBit k).toNat (by cases r.testBit k <;> decide)
  rw [Nat.shiftLeft_eq] at this
  exact this
/-- a row as an equation of c -/
theorem par_row {s L i c : Nat} (hc : c < 2 ^ L) (hL : L ≤ 61) : par ((c ||| 2 ^ 62) &&& rowN s L i) = par ((2 ^ L ||| c) &&& (s >>> i)) := by
  have cb : ∀ b, L ≤ b → c.testBit b = false := fun b hb => Nat.testBit_lt_two_pow (Nat.lt_of_lt_of_le hc (Nat.pow_le_pow_right (by omega) hb))
  have e1 : (c ||| 2 ^ 62) &&& rowN s L i = (c &&& (s >>> i)) ^^^ ((s.testBit (i + L)).toNat <<< 62) := by
    apply Nat.eq_of_testBit_eq
    intro b
    rw [Nat.testBit_and, Nat.testBit_or, rowN_bit, Nat.testBit_xor, Nat.testBit_and, bit_one, Nat.testBit_two_pow, Nat.testBit_shiftRight]
    by_cases h1 : b < L
    · simp [h1, show ¬ 62 = b by omega, show ¬ b = 62 by omega]
    · rw [cb b (by omega)]
      by_cases h2 : b = 62
      · simp [h2, show ¬ 62 < L by omega]
      · simp [h1, h2, show ¬ 62 = b by omega]
  have e2 : (2 ^ L ||| c) &&& (s >>> i) = (c &&& (s >>> i)) ^^^ ((s.testBit (i + L)).toNat <<< L) := by
    apply Nat.eq_of_testBit_eq
    intro b
    rw [Nat.testBit_and, Nat.testBit_or, Nat.testBit_xor, Nat.testBit_and, bit_one, Nat.testBit_two_pow, Nat.testBit_shiftRight]
    by_cases h1 : L = b
    · subst h1
      rw [cb L (by omega)]
      simp
    · simp [h1, show ¬ b = L by omega]
  have hb : (s.testBit (i + L)).toNat < 2 := by cases s.testBit (i + L) <;> decide
  rw [e1, e2, par_xor, par_xor, par_bit (by omega) _ hb, par_bit (by omega) _ hb]
/-- what the rows so far are -/
def el (s L i m : Nat) (R l : Nat → Nat) : Prop :=
  m ≤ i ∧ (∀ k, k < m → okr L (R k) ∧ l k < L ∧ (R k).testBit (l k) = true) ∧ (∀ j k, j < m → k < m → j ≠ k → (R j).testBit (l k) = false) ∧
  ∀ x, (∀ a, a < i → par (x &&& rowN s L a) = 0) ↔ ∀ k, k < m → par (x &&& R k) = 0
theorem el_zero (s L : Nat) (R l : Nat → Nat) : el s L 0 0 R l :=
  ⟨Nat.le_refl _, fun k hk => absurd hk (by omega), fun j k hj => absurd hj (by omega), fun x => ⟨fun _ k hk => absurd hk (by omega), fun _ a ha => absurd ha (by omega)⟩⟩
/-- a row on its way through k rows -/
def rd (s L i m : Nat) (R l : Nat → Nat) (r k : Nat) : Prop :=
  okr L r ∧ (∀ a, a < k → r.testBit (l a) = false) ∧ ∀ x, (∀ a, a < m → par (x &&& R a) = 0) → par (x &&& r) = par (x &&& rowN s L i)
theorem rd_zero (s L i m : Nat) (R l : Nat → Nat) : rd s L i m R l (rowN s L i) 0 := ⟨rowN_ok s L i, fun a ha => absurd ha (by omega), fun _ _ => rfl⟩
theorem rd_no {s L i m : Nat} {R l : Nat → Nat} {r k : Nat} (h : rd s L i m R l r k) (hb : r.testBit (l k) = false) : rd s L i m R l r (k + 1) := by
  refine ⟨h.1, fun a ha => ?_, h.2.2⟩
  by_cases e : a = k
  · rw [e]; exact hb
  · exact h.2.1 a (by omega)
theorem rd_yes {s L i m : Nat} {R l : Nat → Nat} {r k : Nat} (he : el s L i m R l) (hk : k < m) (h : rd s L i m R l r k) (hb : r.testBit (l k) = true) : rd s L i m R l (r ^^^ R k) (k + 1) := by
  obtain ⟨h1, h2, h3, h4⟩ := he
  refine ⟨okr_xor h.1 (h2 k hk).1, fun a ha => ?_, fun x hx => ?_⟩
  · rw [Nat.testBit_xor]
    by_cases e : a = k
    · rw [e, hb, (h2 k hk).2.2]; rfl
    · rw [h.2.1 a (by omega), h3 k a hk (by omega) (fun z => e z.symm)]; rfl
  · rw [par_and_xor, hx k hk, h.2.2 x hx, Nat.add_zero, Nat.mod_eq_of_lt (par_lt _)]
theorem el_null {s L i m : Nat} {R l : Nat → Nat} (he : el s L i m R l) (h : rd s L i m R l 0 m) : el s L (i + 1) m R l := by
  obtain ⟨h1, h2, h3, h4⟩ := he
  refine ⟨by omega, h2, h3, fun x => ⟨fun hx => (h4 x).mp (fun a ha => hx a (by omega)), fun hx a ha => ?_⟩⟩
  by_cases e : a = i
  · rw [e, ← h.2.2 x hx, Nat.and_zero]; exact par_zero
  · exact (h4 x).mpr hx a (by omega)
theorem el_none {s L i m : Nat} {R l : Nat → Nat} (he : el s L i m R l) (h : rd s L i m R l (2 ^ 62) m) {n c : Nat} (hL : L ≤ 61) (hi : i + L < n) : ¬ rul s n L c := by
  rintro ⟨hc, hr⟩
  have hrow : ∀ a, a < i + 1 → par ((c ||| 2 ^ 62) &&& rowN s L a) = 0 := fun a ha => by rw [par_row hc hL]; exact hr a (by omega)
  have h1 := h.2.2 _ ((he.2.2.2 _).mp (fun a ha => hrow a (by omega)))
  rw [hrow i (by omega), Nat.and_comm, par_pow (by omega), Nat.testBit_or, Nat.testBit_two_pow] at h1
  simp at h1
/-- the rows behind a new one -/
def newR (R : Nat → Nat) (m r g : Nat) : Nat → Nat := fun k => if k = m then r else if (R k).testBit g = true then R k ^^^ r else R k
def newl (l : Nat → Nat) (m g : Nat) : Nat → Nat := fun k => if k = m then g else l k
theorem el_new {s L i m g : Nat} {R l : Nat → Nat} {r : Nat} (he : el s L i m R l) (h : rd s L i m R l r m) (hg : g < L) (hb : r.testBit g = true) : el s L (i + 1) (m + 1) (newR R m r g) (newl l m g) := by
  obtain ⟨h1, h2, h3, h4⟩ := he
  have nm : newR R m r g m = r := if_pos rfl
  have nl : newl l m g m = g := if_pos rfl
  have nk : ∀ k, k < m → newR R m r g k = (if (R k).testBit g = true then R k ^^^ r else R k) := fun k hk => if_neg (by omega)
  have lk : ∀ k, k < m → newl l m g k = l k := fun k hk => if_neg (by omega)
  -- a bit where the new row has none
  have same : ∀ k b, k < m → r.testBit b = false → (newR R m r g k).testBit b = (R k).testBit b := by
    intro k b hk hr
    rw [nk k hk]
    split
    · rw [Nat.testBit_xor, hr, Bool.xor_false]
    · rfl
  refine ⟨by omega, fun k hk => ?_, fun j k hj hk hjk => ?_, fun x => ?_⟩
  · by_cases e : k = m
    · subst e
      rw [nm, nl]
      exact ⟨h.1, hg, hb⟩
    · have hk : k < m := by omega
      rw [lk k hk, same k (l k) hk (h.2.1 k hk)]
      refine ⟨?_, (h2 k hk).2⟩
      rw [nk k hk]
      split
      · exact okr_xor (h2 k hk).1 h.1
      · exact (h2 k hk).1
  · by_cases ej : j = m
    · have hk : k < m := by omega
      rw [ej, nm, lk k hk]
      exact h.2.1 k hk
    · have hj : j < m := by omega
      by_cases ek : k = m
      · rw [ek, nl, nk j hj]
        split
        · rename_i c
          rw [Nat.testBit_xor, c, hb]; rfl
        · rename_i c
          exact Bool.not_eq_true _ ▸ c
      · have hk : k < m := by omega
        rw [lk k hk, same j (l k) hj (h.2.1 k hk)]
        exact h3 j k hj hk hjk
  · constructor
    · intro hx k hk
      have hR := (h4 x).mp (fun a ha => hx a (by omega))
      have hr : par (x &&& r) = 0 := by rw [h.2.2 x hR]; exact hx i (by omega)
      by_cases e : k = m
      · rw [e, nm]; exact hr
      · have hk : k < m := by omega
        rw [nk k hk]
        split
        · rw [par_and_xor, hR k hk, hr]
        · exact hR k hk
    · intro hx
      have hr : par (x &&& r) = 0 := by have := hx m (by omega); rw [nm] at this; exact this
      have hR : ∀ k, k < m → par (x &&& R k) = 0 := by
        intro k hk
        have h5 := hx k (by omega)
        rw [nk k hk] at h5
        split at h5
        · rw [par_and_xor, hr, Nat.add_zero, Nat.mod_eq_of_lt (par_lt _)] at h5
          exact h5
        · exact h5
      intro a ha
      by_cases e : a = i
      · rw [e, ← h.2.2 x hR]; exact hr
      · exact (h4 x).mpr hR a (by omega)
/-- the coefficients that lie at hand -/
def solN (R l : Nat → Nat) : Nat → Nat
  | 0 => 0
  | k + 1 => if (R k).testBit 62 = true then solN R l k ||| 2 ^ l k else solN R l k
theorem solN_bit (R l : Nat → Nat) : ∀ k b, (solN R l k).testBit b = true → ∃ a, a < k ∧ b = l a
  | 0, b, h => by rw [show solN R l 0 = 0 from rfl, Nat.zero_testBit] at h; exact absurd h (by decide)
  | k + 1, b, h => by
    unfold solN at h
    split at h
    · rw [Nat.testBit_or, Nat.testBit_two_pow, Bool.or_eq_true] at h
      rcases h with h | h
      · obtain ⟨a, h1, h2⟩ := solN_bit R l k b h
        exact ⟨a, by omega, h2⟩
      · exact ⟨k, by omega, (of_decide_eq_true h).symm⟩
    · obtain ⟨a, h1, h2⟩ := solN_bit R l k b h
      exact ⟨a, by omega, h2⟩
theorem el_leads {s L i m : Nat} {R l : Nat → Nat} (he : el s L i m R l) {j k : Nat} (hj : j < m) (hk : k < m) (h : j ≠ k) : l j ≠ l k := by
  intro z
  have h1 := he.2.2.1 k j hk hj (fun y => h y.symm)
  rw [z, (he.2.1 k hk).2.2] at h1
  exact absurd h1 (by decide)
theorem solN_lt {s L i m : Nat} {R l : Nat → Nat} (he : el s L i m R l) {k : Nat} (hk : k ≤ m) : solN R l k < 2 ^ L := by
  refine Nat.lt_pow_two_of_testBit _ (fun b hb => ?_)
  cases h : (solN R l k).testBit b with
  | false => rfl
  | true =>
    obtain ⟨a, h1, h2⟩ := solN_bit R l k b h
    have := (he.2.1 a (by omega)).2.1
    omega
theorem solN_par {s L i m : Nat} {R l : Nat → Nat} (he : el s L i m R l) (hL : L ≤ 61) : ∀ k, k ≤ m → ∀ a, a < m → par (solN R l k &&& R a) = if a < k ∧ (R a).testBit 62 = true then 1 else 0
  | 0, _, a, ha => by
    show par (0 &&& R a) = _
    rw [Nat.zero_and, if_neg (by omega)]
    exact par_zero
  | k + 1, hk, a, ha => by
    have ih := solN_par he hL k (by omega) a ha
    unfold solN
    by_cases c : (R k).testBit 62 = true
    · rw [if_pos c]
      have hno : (solN R l k).testBit (l k) = false := by
        cases h : (solN R l k).testBit (l k) with
        | false => rfl
        | true =>
          obtain ⟨b, h1, h2⟩ := solN_bit R l k _ h
          exact absurd h2 (el_leads he (by omega) (by omega) (by omega))
      have e : solN R l k ||| 2 ^ l k = solN R l k ^^^ 2 ^ l k := by
        apply Nat.eq_of_testBit_eq
        intro b
        rw [Nat.testBit_or, Nat.testBit_xor, Nat.testBit_two_pow]
        by_cases hb : l k = b
        · rw [← hb, hno]; simp
        · simp [hb]
      rw [e, par_xor_and, ih, par_pow (by have := (he.2.1 k (by omega)).2.1; omega)]
      by_cases eak : a = k
      · rw [eak, (he.2.1 k (by omega)).2.2, if_neg (by omega), if_pos ⟨by omega, c⟩]
        rfl
      · rw [he.2.2.1 a k ha (by omega) eak]
        by_cases hak : a < k ∧ (R a).testBit 62 = true
        · rw [if_pos hak, if_pos ⟨by omega, hak.2⟩]; rfl
        · rw [if_neg hak, if_neg (fun z => hak ⟨by omega, z.2⟩)]; rfl
    · rw [if_neg c, ih]
      by_cases hak : a < k ∧ (R a).testBit 62 = true
      · rw [if_pos hak, if_pos ⟨by omega, hak.2⟩]
      · rw [if_neg hak, if_neg]
        rintro ⟨z1, z2⟩
        by_cases eak : a = k
        · rw [eak] at z2; exact c z2
        · exact hak ⟨by omega, z2⟩
theorem el_rul {s L i m n : Nat} {R l : Nat → Nat} (he : el s L i m R l) (hL : L ≤ 61) (hn : n ≤ i + L) : rul s n L (solN R l m) := by
  have hc := solN_lt he (Nat.le_refl m)
  refine ⟨hc, fun a ha => ?_⟩
  rw [← par_row hc hL]
  refine (he.2.2.2 _).mpr (fun k hk => ?_) a (by omega)
  have e : solN R l m ||| 2 ^ 62 = solN R l m ^^^ 2 ^ 62 := by
    apply Nat.eq_of_testBit_eq
    intro b
    rw [Nat.testBit_or, Nat.testBit_xor, Nat.testBit_two_pow]
    by_cases hb : 62 = b
    · subst hb
      rw [Nat.testBit_lt_two_pow (Nat.lt_of_lt_of_le hc (Nat.pow_le_pow_right (by omega) (by omega)))]
      simp
    · simp [hb]
  rw [e, par_xor_and, solN_par he hL m (Nat.le_refl m) k hk, par_pow (by omega)]
  cases h : (R k).testBit 62 with
  | true => rw [if_pos ⟨hk, rfl⟩]; rfl
  | false => rw [if_neg (fun z => absurd z.2 (by decide))]; rfl
theorem okr_split {L r : Nat} (h : okr L r) (hL : L ≤ 61) (h0 : r % 2 ^ 62 = 0) : r = 0 ∨ r = 2 ^ 62 := by
  have hb : ∀ b, b < 62 → r.testBit b = false := by
    intro b hb
    have : (r % 2 ^ 62).testBit b = false := by rw [h0, Nat.zero_testBit]
    rw [Nat.testBit_mod_two_pow] at this
    simpa [hb] using this
  cases ht : r.testBit 62 with
  | false =>
    left
    apply Nat.eq_of_testBit_eq
    intro b
    rw [Nat.zero_testBit]
    by_cases h1 : b < 62
    · exact hb b h1
    · by_cases h2 : b = 62
      · rw [h2]; exact ht
      · exact h b (by omega) h2
  | true =>
    right
    apply Nat.eq_of_testBit_eq
    intro b
    rw [Nat.testBit_two_pow]
    by_cases h1 : b < 62
    · rw [hb b h1]; simp; omega
    · by_cases h2 : b = 62
      · rw [h2, ht]; simp
      · rw [h b (by omega) h2]; simp; omega
theorem top_bit {a : Nat} (h0 : a ≠ 0) : a.testBit (dg a) = true := by
  have hs := dg_self h0
  have h2 := Nat.pow_succ (n := 2) (m := dg a)
  rw [Nat.testBit_eq_decide_div_mod_eq]
  have : a / 2 ^ dg a = 1 := Nat.div_eq_of_lt_le (by omega) (by omega)
  rw [this]
  rfl
theorem ahead_bit {L r : Nat} (h : okr L r) (hL : L ≤ 61) (h0 : r % 2 ^ 62 ≠ 0) : r.testBit (dg (r % 2 ^ 62)) = true ∧ dg (r % 2 ^ 62) < L := by
  have hlt : r % 2 ^ 62 < 2 ^ L := by
    refine Nat.lt_pow_two_of_testBit _ (fun b hb => ?_)
    rw [Nat.testBit_mod_two_pow]
    by_cases h1 : b < 62
    · rw [h b hb (by omega)]; simp
    · simp [h1]
  have hd := (dg_lt h0).mpr hlt
  refine ⟨?_, hd⟩
  have h1 := top_bit h0
  rw [Nat.testBit_mod_two_pow] at h1
  exact ((Bool.and_eq_true _ _).mp h1).2
