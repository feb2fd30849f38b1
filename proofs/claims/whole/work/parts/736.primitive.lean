-- for each degree up to 20 there is a primitive one
def allB : Nat → (Nat → Bool) → Bool
  | 0, _ => true
  | n + 1, f => f n && allB n f
theorem allB_iff {f : Nat → Bool} : ∀ {n}, allB n f = true → ∀ i, i < n → f i = true
  | 0, _, i, h => absurd h (by omega)
  | n + 1, h, i, hi => by
    have h : (f n && allB n f) = true := h
    rw [Bool.and_eq_true] at h
    by_cases e : i = n
    · rw [e]; exact h.1
    · exact allB_iff h.2 i (by omega)
def modF (e de : Nat) : Nat → Nat → Nat
  | 0, a => a
  | k + 1, a => if a < 2 ^ de then a else modF e de k (a ^^^ (e * 2 ^ (dg a - de)))
theorem modF_dvd {e de : Nat} : ∀ k a, pdvd e a → pdvd e (modF e de k a)
  | 0, _, h => h
  | k + 1, a, h => by
    show pdvd e (if a < 2 ^ de then a else modF e de k (a ^^^ (e * 2 ^ (dg a - de))))
    split
    · exact h
    · exact modF_dvd k _ (pdvd_xor h ⟨2 ^ (dg a - de), by rw [cm_comm, cm_pow_two]⟩)
def chkE (a e : Nat) : Bool := e < 2 || (modF e (dg e) 21 a != 0 && modF e (dg e) 21 a < 2 ^ dg e)
theorem chkE_ok {a e : Nat} (h : chkE a e = true) (h2 : 2 ≤ e) : ¬ pdvd e a := by
  intro hd
  have h3 := modF_dvd (de := dg e) 21 a hd
  unfold chkE at h
  rw [show decide (e < 2) = false from decide_eq_false (by omega), Bool.false_or, Bool.and_eq_true] at h
  have h4 : modF e (dg e) 21 a ≠ 0 := by simpa using h.1
  have h5 : modF e (dg e) 21 a < 2 ^ dg e := by simpa using h.2
  have h6 := pdvd_dg h4 h3
  have h7 := (dg_lt h4).mpr h5
  omega
def chkI (a d : Nat) : Bool := allB 32 (fun i => allB 64 (fun j => decide (2 ^ (d / 2 + 1) ≤ 64 * i + j) || chkE a (64 * i + j)))
theorem chkI_ok {a d : Nat} (h2 : 2 ≤ a) (hd : dg a = d) (hd20 : d ≤ 20) (h : chkI a d = true) : irr a := by
  refine ⟨h2, fun e he => ?_⟩
  by_cases c1 : e = 1
  · exact Or.inl c1
  by_cases c2 : e = a
  · exact Or.inr c2
  exfalso
  obtain ⟨f, f1, f2, f3⟩ := half_div h2 he c1 c2
  have f4 : f < 2 ^ (d / 2 + 1) := (dg_lt (by omega)).mp (by omega)
  have f5 : f < 2048 := Nat.lt_of_lt_of_le f4 (show 2 ^ (d / 2 + 1) ≤ 2 ^ 11 from Nat.pow_le_pow_right (by decide) (by omega))
  have h3 := allB_iff (allB_iff h (f / 64) (by omega)) (f % 64) (by omega)
  rw [show 64 * (f / 64) + f % 64 = f by omega, show decide (2 ^ (d / 2 + 1) ≤ f) = false from decide_eq_false (by omega), Bool.false_or] at h3
  exact chkE_ok h3 f1 f2
def chkP (q : Nat) : Bool := decide (2 ≤ q) && (decide (q < 810000) && allB 30 (fun i => allB 30 (fun j => decide (30 * i + j < 2) || (decide (q ≤ 30 * i + j) || decide (q % (30 * i + j) ≠ 0)))))
theorem chkP_ok {q : Nat} (h : chkP q = true) : prm q := by
  unfold chkP at h
  rw [Bool.and_eq_true, Bool.and_eq_true] at h
  have h2 : 2 ≤ q := of_decide_eq_true h.1
  have h3 : q < 810000 := of_decide_eq_true h.2.1
  have no : ∀ f, 2 ≤ f → f < 900 → f < q → f ∣ q → False := by
    intro f f1 f2 f3 f4
    have h4 := allB_iff (allB_iff h.2.2 (f / 30) (by omega)) (f % 30) (by omega)
    rw [show 30 * (f / 30) + f % 30 = f by omega, show decide (f < 2) = false from decide_eq_false (by omega), show decide (q ≤ f) = false from decide_eq_false (by omega), Bool.false_or, Bool.false_or] at h4
    exact of_decide_eq_true h4 (Nat.mod_eq_zero_of_dvd f4)
  refine ⟨h2, fun d hd => ?_⟩
  by_cases c1 : d = 1
  · exact Or.inl c1
  by_cases c2 : d = q
  · exact Or.inr c2
  exfalso
  obtain ⟨e, he⟩ := hd
  have hd0 : d ≠ 0 := fun z => by rw [z, Nat.zero_mul] at he; omega
  have he0 : e ≠ 0 := fun z => by rw [z, Nat.mul_zero] at he; omega
  have he1 : e ≠ 1 := fun z => by rw [z, Nat.mul_one] at he; exact c2 he.symm
  have l1 : d * 2 ≤ d * e := Nat.mul_le_mul_left d (by omega)
  have l2 : 2 * e ≤ d * e := Nat.mul_le_mul_right e (by omega)
  by_cases c3 : d < 900
  · exact no d (by omega) c3 (by omega) ⟨e, he⟩
  · by_cases c4 : e < 900
    · exact no e (by omega) c4 (by omega) ⟨d, by rw [Nat.mul_comm]; exact he⟩
    · have := Nat.mul_le_mul (show 900 ≤ d by omega) (show 900 ≤ e by omega)
      omega
def xmF (a d r : Nat) : Nat := if 2 * r < 2 ^ d then 2 * r else (2 * r) ^^^ a
theorem xmF_cg (a d r : Nat) : cg a (xmF a d r) (2 * r) := by
  unfold xmF
  split
  · exact cg_refl _ _
  · unfold cg
    rw [Nat.xor_comm (2 * r), Nat.xor_assoc, Nat.xor_self, Nat.xor_zero]
    exact pdvd_refl a
def mulF (a d : Nat) : Nat → Nat → Nat → Nat
  | 0, _, _ => 0
  | k + 1, u, v => xmF a d (mulF a d k u (v / 2)) ^^^ (if v % 2 = 1 then u else 0)
theorem mulF_cg (a d u : Nat) : ∀ k v, v < 2 ^ k → cg a (mulF a d k u v) (cm u v)
  | 0, v, h => by
    have : v = 0 := by
      have : (2 : Nat) ^ 0 = 1 := rfl
      omega
    rw [this, cm_zero]
    exact cg_refl _ _
  | k + 1, v, h => by
    have ih := mulF_cg a d u k (v / 2) (by rw [Nat.pow_succ] at h; omega)
    rw [cm_step, Nat.xor_comm]
    refine cg_xor (cg_trans (xmF_cg a d _) ?_) (cg_refl _ _)
    have := cg_cm (cg_refl a 2) ih
    rw [cm_comm 2, cm_comm 2, show (2 : Nat) = 2 * 1 from rfl, cm_two_right, cm_one, cm_two_right, cm_one] at this
    exact this
def powF (a d : Nat) : Nat → Nat → Nat
  | 0, _ => 1
  | k + 1, n => if n % 2 = 1 then xmF a d (mulF a d (dg (powF a d k (n / 2)) + 1) (powF a d k (n / 2)) (powF a d k (n / 2))) else mulF a d (dg (powF a d k (n / 2)) + 1) (powF a d k (n / 2)) (powF a d k (n / 2))
theorem powF_cg (a d : Nat) : ∀ k n, n < 2 ^ k → cg a (powF a d k n) (ppow 2 n)
  | 0, n, h => by
    have : n = 0 := by
      have : (2 : Nat) ^ 0 = 1 := rfl
      omega
    rw [this]
    exact cg_refl _ _
  | k + 1, n, h => by
    have ih := powF_cg a d k (n / 2) (by rw [Nat.pow_succ] at h; omega)
    show cg a (if n % 2 = 1 then xmF a d (mulF a d (dg (powF a d k (n / 2)) + 1) (powF a d k (n / 2)) (powF a d k (n / 2))) else mulF a d (dg (powF a d k (n / 2)) + 1) (powF a d k (n / 2)) (powF a d k (n / 2))) _
    generalize powF a d k (n / 2) = s at ih
    have hs : s < 2 ^ (dg s + 1) := by
      by_cases z : s = 0
      · rw [z]; exact Nat.two_pow_pos _
      · exact (dg_self z).2
    have h1 := cg_trans (mulF_cg a d s (dg s + 1) s hs) (cg_cm ih ih)
    rw [← ppow_add] at h1
    split
    · rename_i c
      have e : ppow 2 n = 2 * ppow 2 (n / 2 + n / 2) := by
        rw [show n = (n / 2 + n / 2) + 1 by omega]
        show cm 2 (ppow 2 _) = _
        rw [cm_comm, show cm (ppow 2 (n / 2 + n / 2)) 2 = cm (ppow 2 (n / 2 + n / 2)) (2 * 1) from rfl, cm_two_right, cm_one]
        congr 2
        omega
      rw [e]
      refine cg_trans (xmF_cg a d _) ?_
      have := cg_cm (cg_refl a 2) h1
      rw [cm_comm 2, cm_comm 2, show (2 : Nat) = 2 * 1 from rfl, cm_two_right, cm_one, cm_two_right, cm_one] at this
      exact this
    · rename_i c
      rw [show n / 2 + n / 2 = n by omega] at h1
      exact h1
def allQ (a d : Nat) : List Nat → Bool
  | [] => true
  | q :: l => (chkP q && (decide (powF a d 20 ((2 ^ d - 1) / q) < 2 ^ d) && decide (powF a d 20 ((2 ^ d - 1) / q) ≠ 1))) && allQ a d l
theorem allQ_ok {a d : Nat} (h1 : 1 ≤ d) (hd : dg a = d) (h20 : d ≤ 20) (ha : a ≠ 0) : ∀ qs, allQ a d qs = true → ∀ q, q ∈ qs → prm q ∧ ¬ ords a ((2 ^ d - 1) / q)
  | [], _, q, hq => absurd hq (by simp)
  | r :: l, h, q, hq => by
    have h : ((chkP r && (decide (powF a d 20 ((2 ^ d - 1) / r) < 2 ^ d) && decide (powF a d 20 ((2 ^ d - 1) / r) ≠ 1))) && allQ a d l) = true := h
    rw [Bool.and_eq_true, Bool.and_eq_true, Bool.and_eq_true] at h
    rcases List.mem_cons.mp hq with e | e
    · subst e
      have hp := chkP_ok h.1.1
      refine ⟨hp, fun ho => of_decide_eq_true h.1.2.2 ?_⟩
      have hlt : (2 ^ d - 1) / q < 2 ^ 20 := by
        have h2 : 2 ^ d ≤ 2 ^ 20 := Nat.pow_le_pow_right (by decide) h20
        have h3 := Nat.div_le_self (2 ^ d - 1) q
        have := Nat.two_pow_pos d
        omega
      have h2 := cg_trans (powF_cg a d 20 _ hlt) ho
      refine cg_small ha h2 (by rw [hd]; exact of_decide_eq_true h.1.2.1) ?_
      rw [hd]
      exact Nat.one_lt_two_pow (by omega)
    · exact allQ_ok h1 hd h20 ha l h.2 q e
theorem prm_nprod {p : Nat} (hp : prm p) : ∀ qs : List Nat, p ∣ nprod qs → ∃ q, q ∈ qs ∧ p ∣ q
  | [], h => by
    have h : p ∣ 1 := h
    have := Nat.le_of_dvd (by decide) h
    have := hp.1
    omega
  | q :: l, h => by
    rcases prm_dvd_mul hp (show p ∣ q * nprod l from h) with e | e
    · exact ⟨q, List.mem_cons_self, e⟩
    · obtain ⟨r, h1, h2⟩ := prm_nprod hp l e
      exact ⟨r, List.mem_cons_of_mem _ h1, h2⟩
def tabA : List Nat := [0, 3, 7, 11, 19, 37, 67, 131, 285, 529, 1033, 2053, 4179, 8219, 16427, 32771, 65581, 131081, 262273, 524327, 1048585]
def tabQ : List (List Nat) := [[], [], [3], [7], [3, 5], [31], [3, 3, 7], [127], [3, 5, 17], [7, 73], [3, 11, 31], [23, 89], [3, 3, 5, 7, 13], [8191], [3, 43, 127], [7, 31, 151], [3, 5, 17, 257], [131071], [3, 3, 3, 7, 19, 73], [524287], [3, 5, 5, 11, 31, 41]]
def chkA (d : Nat) : Bool := decide (2 ^ d ≤ tabA.getD d 0) && (decide (tabA.getD d 0 < 2 ^ (d + 1)) && (decide (tabA.getD d 0 ≠ 2) && (chkI (tabA.getD d 0) d && (decide (nprod (tabQ.getD d []) = 2 ^ d - 1) && allQ (tabA.getD d 0) d (tabQ.getD d [])))))
theorem tab_ok : ∀ i, i < 20 → chkA (i + 1) = true := by decide +kernel
theorem exists_primitive {d : Nat} (h1 : 1 ≤ d) (h20 : d ≤ 20) : ∃ low, low < 2 ^ d ∧ ∀ pr, good pr (2 ^ d + low) := by
  have h := tab_ok (d - 1) (by omega)
  rw [show d - 1 + 1 = d by omega] at h
  unfold chkA at h
  generalize tabA.getD d 0 = a at h
  generalize tabQ.getD d [] = qs at h
  rw [Bool.and_eq_true, Bool.and_eq_true, Bool.and_eq_true, Bool.and_eq_true, Bool.and_eq_true] at h
  obtain ⟨c1, c2, c3, c4, c5, c6⟩ := h
  have c1 := of_decide_eq_true c1
  have c2 := of_decide_eq_true c2
  have c3 := of_decide_eq_true c3
  have c5 := of_decide_eq_true c5
  have hp := Nat.one_lt_two_pow (n := d) (by omega)
  have ha0 : a ≠ 0 := by omega
  have hd : dg a = d := by
    have u1 := (dg_lt ha0).mpr c2
    have u2 := (le_dg ha0).mpr c1
    omega
  have hi := chkI_ok (by omega) hd h20 c4
  have hq := allQ_ok h1 hd h20 ha0 qs c6
  have hg : isGen (ords a) (2 ^ d - 1) := by
    refine gen_of (ords_grp a) (by omega) ?_ (fun p hpp hdv hs => ?_)
    · have := ords_irr hi c3
      rw [hd] at this
      exact this
    · rw [← c5] at hdv
      obtain ⟨q, m1, m2⟩ := prm_nprod hpp qs hdv
      have := prm_dvd_prm hpp (hq q m1).1 m2
      rw [this] at hs
      exact (hq q m1).2 hs
  refine ⟨a - 2 ^ d, by rw [Nat.pow_succ] at c2; omega, fun pr => ?_⟩
  rw [show 2 ^ d + (a - 2 ^ d) = a by omega]
  exact ⟨hi, fun _ => ⟨c3, by rw [hd]; exact gn_eq hg⟩⟩
