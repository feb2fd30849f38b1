-- run: what both readers read, as functions of the text
abbrev Out : Type := (Nat × Nat) ⊕ (Int32 × Int32 × Int32)
def bnd (o : Out) (f : Nat → Nat → Out) : Out :=
  match o with
  | .inl (v, p) => f v p
  | .inr x => .inr x
def skF (t : Nat) (β : Nat → Nat) : Nat → Nat → Nat
  | 0, p => p
  | n + 1, p => if p < t ∧ β p = 32 then skF t β n (p + 1) else p
def sk (t : Nat) (β : Nat → Nat) (p : Nat) : Nat := skF t β (t - p) p
abbrev isd (t : Nat) (β : Nat → Nat) (p : Nat) : Prop := p < t ∧ 48 ≤ β p ∧ β p ≤ 57
abbrev isl (t : Nat) (β : Nat → Nat) (p : Nat) : Prop := p < t ∧ 97 ≤ β p ∧ β p ≤ 122
abbrev isc (t : Nat) (β : Nat → Nat) (p c : Nat) : Prop := p < t ∧ β p = c
def dgF (t : Nat) (β : Nat → Nat) : Nat → Nat → Nat → Nat × Nat
  | 0, p, a => (a, p)
  | n + 1, p, a => if isd t β p then dgF t β n (p + 1) (10 * a + β p - 48) else (a, p)
def fl (c s d : Nat) (op : Nat → Int32) : Out := .inr (nI (8 * s + c), nI d, if d = 0 then -1 else op (d - 1))
theorem fl_ne (c s d : Nat) (op : Nat → Int32) (x : Nat × Nat) : fl c s d op ≠ .inl x := by
  unfold fl
  intro z
  cases z
def pNum (t : Nat) (β : Nat → Nat) (lo hi p d : Nat) (op : Nat → Int32) : Out :=
  if isd t β (sk t β p) then (if lo ≤ (dgF t β (t - sk t β p) (sk t β p) 0).1 ∧ (dgF t β (t - sk t β p) (sk t β p) 0).1 ≤ hi then .inl ((dgF t β (t - sk t β p) (sk t β p) 0).1, (dgF t β (t - sk t β p) (sk t β p) 0).2) else fl 2 (sk t β p) d op) else fl 1 (sk t β p) d op
def wds (i : Nat) : List Nat := [[120], [112], [116, 114, 105], [114, 101, 118], [100, 101, 114]].getD i []
abbrev isw (t : Nat) (β : Nat → Nat) (i p : Nat) : Prop := (∀ j, j < (wds i).length → isc t β (p + j) ((wds i).getD j 0)) ∧ ¬ isl t β (p + (wds i).length)
abbrev NRt := Nat → Nat → (Nat → Int32) → Out
def pTri (t : Nat) (β : Nat → Nat) (p d : Nat) (op : Nat → Int32) : Out :=
  bnd (pNum t β 2 31 p d op) (fun a e => bnd (pNum t β 1 (a - 1) e d op) (fun b e2 => .inl (((2 ^ a ||| 2 ^ b) ||| 1), e2)))
def pOne (t : Nat) (β : Nat → Nat) (nr : NRt) (q : Nat → Nat) (p d : Nat) (op : Nat → Int32) : Out :=
  if isd t β (sk t β p) then pNum t β 0 1 (sk t β p) d op
  else if isw t β 0 (sk t β p) then .inl (2, (sk t β p + 1))
  else if isw t β 1 (sk t β p) then bnd (pNum t β 0 9 (sk t β p + 1) d op) (fun k e => .inl ((q k), e))
  else if isw t β 2 (sk t β p) then pTri t β (sk t β p + 3) d op
  else if isw t β 3 (sk t β p) then bnd (nr (sk t β p + 3) d op) (fun v e => .inl ((prev v), e))
  else if isw t β 4 (sk t β p) then bnd (nr (sk t β p + 3) d op) (fun v e => .inl ((pder v), e))
  else nr (sk t β p) d op
def pPow (t : Nat) (β : Nat → Nat) (nr : NRt) (q : Nat → Nat) (p d : Nat) (op : Nat → Int32) : Out :=
  bnd (pOne t β nr q (sk t β p) d op) (fun v e =>
    if isc t β (sk t β e) 94 then bnd (pNum t β 0 31 (sk t β e + 1) d op) (fun k e2 => if v = 0 ∨ dg v * k ≤ 31 then .inl ((ppow v k), e2) else fl 3 (sk t β p) d op)
    else .inl (v, (sk t β e)))
abbrev ahead (t : Nat) (β : Nat → Nat) (p : Nat) : Prop := isc t β p 40 ∨ isd t β p ∨ isl t β p
def pPrdL (t : Nat) (β : Nat → Nat) (nr : NRt) (q : Nat → Nat) (s0 d : Nat) (op : Nat → Int32) : Nat → Nat → Nat → Out
  | 0, acc, p => .inl (acc, p)
  | n + 1, acc, p =>
    if isc t β (sk t β p) 42 ∨ ahead t β (sk t β p) then
      bnd (pPow t β nr q (if isc t β (sk t β p) 42 then sk t β p + 1 else sk t β p) d op) (fun v e => if cm acc v < 2 ^ 32 then pPrdL t β nr q s0 d op n (cm acc v) e else fl 3 s0 d op)
    else .inl (acc, (sk t β p))
def pPrd (t : Nat) (β : Nat → Nat) (nr : NRt) (q : Nat → Nat) (p d : Nat) (op : Nat → Int32) : Out :=
  bnd (pPow t β nr q (sk t β p) d op) (fun v e => pPrdL t β nr q (sk t β p) d op (t + 1 - e) v e)
def pSumL (t : Nat) (β : Nat → Nat) (nr : NRt) (q : Nat → Nat) (d : Nat) (op : Nat → Int32) : Nat → Nat → Nat → Out
  | 0, acc, p => .inl (acc, p)
  | n + 1, acc, p =>
    if isc t β (sk t β p) 43 then bnd (pPrd t β nr q (sk t β p + 1) d op) (fun v e => pSumL t β nr q d op n (acc ^^^ v) e)
    else .inl (acc, (sk t β p))
def pSum (t : Nat) (β : Nat → Nat) (nr : NRt) (q : Nat → Nat) (p d : Nat) (op : Nat → Int32) : Out :=
  bnd (pPrd t β nr q p d op) (fun v e => pSumL t β nr q d op (t + 1 - e) v e)
def updO (op : Nat → Int32) (d s : Nat) : Nat → Int32 := fun i => if i = d then nI s else op i
def pNestE (t : Nat) (β : Nat → Nat) (nr : NRt) (q : Nat → Nat) (p d : Nat) (op : Nat → Int32) : Out :=
  if isc t β (sk t β p) 40 then
    (if d < 6 then bnd (pSum t β nr q (sk t β p + 1) (d + 1) (updO op d (sk t β p))) (fun v e => if isc t β (sk t β e) 41 then .inl (v, (sk t β e + 1)) else fl 1 (sk t β e) (d + 1) (updO op d (sk t β p)))
     else fl 4 (sk t β p) d op)
  else fl 1 (sk t β p) d op
def pNest (t : Nat) (β : Nat → Nat) (q : Nat → Nat) : Nat → NRt
  | 0 => fun p d op => fl 1 (sk t β p) d op
  | n + 1 => fun p d op => pNestE t β (pNest t β q n) q p d op
-- how far they go
theorem skF_ge (t : Nat) (β : Nat → Nat) : ∀ n p, p ≤ skF t β n p
  | 0, p => Nat.le_refl _
  | n + 1, p => by
    show p ≤ (if p < t ∧ β p = 32 then skF t β n (p + 1) else p)
    split
    · have := skF_ge t β n (p + 1); omega
    · exact Nat.le_refl _
theorem skF_le {t : Nat} {β : Nat → Nat} : ∀ n p, p ≤ t → skF t β n p ≤ t
  | 0, p, h => h
  | n + 1, p, h => by
    show (if p < t ∧ β p = 32 then skF t β n (p + 1) else p) ≤ t
    split
    · rename_i c
      exact skF_le n (p + 1) (by omega)
    · exact h
theorem skF_end {t : Nat} {β : Nat → Nat} : ∀ n p, t ≤ p + n → ¬ (skF t β n p < t ∧ β (skF t β n p) = 32)
  | 0, p, h => fun z => by have := z.1; have e : skF t β 0 p = p := rfl; omega
  | n + 1, p, h => by
    show ¬ ((if p < t ∧ β p = 32 then skF t β n (p + 1) else p) < t ∧ β (if p < t ∧ β p = 32 then skF t β n (p + 1) else p) = 32)
    split
    · exact skF_end n (p + 1) (by omega)
    · rename_i c
      exact c
theorem sk_ge (t : Nat) (β : Nat → Nat) (p : Nat) : p ≤ sk t β p := skF_ge t β _ p
theorem sk_le {t : Nat} {β : Nat → Nat} {p : Nat} (h : p ≤ t) : sk t β p ≤ t := skF_le _ p h
theorem sk_end (t : Nat) (β : Nat → Nat) (p : Nat) : ¬ isc t β (sk t β p) 32 := skF_end _ p (by omega)
theorem sk_yes {t : Nat} {β : Nat → Nat} {p : Nat} (h : isc t β p 32) : sk t β p = sk t β (p + 1) := by
  unfold sk
  have h1 := h.1
  rw [show t - p = (t - (p + 1)) + 1 by omega]
  show (if p < t ∧ β p = 32 then skF t β (t - (p + 1)) (p + 1) else p) = _
  rw [if_pos h]
theorem sk_no {t : Nat} {β : Nat → Nat} {p : Nat} (h : ¬ isc t β p 32) : sk t β p = p := by
  unfold sk
  cases e : t - p with
  | zero => rfl
  | succ n =>
    show (if p < t ∧ β p = 32 then skF t β n (p + 1) else p) = p
    rw [if_neg h]
theorem sk_sk (t : Nat) (β : Nat → Nat) (p : Nat) : sk t β (sk t β p) = sk t β p := sk_no (sk_end t β p)
theorem dgF_le {t : Nat} {β : Nat → Nat} : ∀ n p a, p ≤ t → p ≤ (dgF t β n p a).2 ∧ (dgF t β n p a).2 ≤ t
  | 0, p, a, h => ⟨Nat.le_refl _, h⟩
  | n + 1, p, a, h => by
    show p ≤ (if isd t β p then dgF t β n (p + 1) (10 * a + β p - 48) else (a, p)).2 ∧ (if isd t β p then dgF t β n (p + 1) (10 * a + β p - 48) else (a, p)).2 ≤ t
    split
    · rename_i c
      have := dgF_le (β := β) n (p + 1) (10 * a + β p - 48) c.1
      omega
    · exact ⟨Nat.le_refl _, h⟩
def okO (t p : Nat) (o : Out) : Prop :=
  match o with
  | .inl (v, e) => v < 2 ^ 32 ∧ p < e ∧ e ≤ t
  | .inr _ => True
theorem okO_fl (t p c s d : Nat) (op : Nat → Int32) : okO t p (fl c s d op) := trivial
theorem okO_mono {t p p' : Nat} {o : Out} (h : okO t p o) (hp : p' ≤ p) : okO t p' o := by
  cases o with
  | inl ve => 
    obtain ⟨v, e⟩ := ve
    exact ⟨h.1, by have := h.2.1; omega, h.2.2⟩
  | inr abc => trivial
theorem okO_bind {t p p' : Nat} {o : Out} {f : Nat → Nat → Out} (h : okO t p o) (hf : ∀ v e, v < 2 ^ 32 → p < e → e ≤ t → okO t p' (f v e)) : okO t p' (bnd o f) := by
  cases o with
  | inl ve => 
    obtain ⟨v, e⟩ := ve
    exact hf v e h.1 h.2.1 h.2.2
  | inr abc => trivial
theorem pNum_le {t : Nat} {β : Nat → Nat} {lo hi p d : Nat} {op : Nat → Int32} {v e : Nat} (hp : p ≤ t) (h : pNum t β lo hi p d op = .inl (v, e)) : lo ≤ v ∧ v ≤ hi ∧ p < e ∧ e ≤ t := by
  unfold pNum at h
  split at h
  · rename_i c
    split at h
    · rename_i c2
      have h0 := Sum.inl.inj h
      have h1 := (Prod.mk.inj h0).1
      have h2 := (Prod.mk.inj h0).2
      have hs := sk_ge t β p
      have ht := c.1
      have e1 : dgF t β (t - sk t β p) (sk t β p) 0 = dgF t β (t - sk t β p - 1) (sk t β p + 1) (10 * 0 + β (sk t β p) - 48) := by
        obtain ⟨n, hn⟩ : ∃ n, t - sk t β p = n + 1 := ⟨t - sk t β p - 1, by omega⟩
        rw [hn]
        show (if isd t β (sk t β p) then dgF t β n (sk t β p + 1) (10 * 0 + β (sk t β p) - 48) else (0, sk t β p)) = _
        rw [if_pos c]
        rfl
      have h3 := dgF_le (t := t) (β := β) (t - sk t β p - 1) (sk t β p + 1) (10 * 0 + β (sk t β p) - 48) (by omega)
      rw [← e1] at h3
      rw [← h1, ← h2]
      omega
    · exact absurd h (fl_ne _ _ _ _ _)
  · exact absurd h (fl_ne _ _ _ _ _)
theorem pNum_ok {t : Nat} {β : Nat → Nat} {lo hi p d : Nat} {op : Nat → Int32} (hp : p ≤ t) (hh : hi < 2 ^ 32) : okO t p (pNum t β lo hi p d op) := by
  cases h : pNum t β lo hi p d op with
  | inl ve => 
    obtain ⟨v, e⟩ := ve
    have := pNum_le hp h
    exact ⟨by omega, this.2.2.1, this.2.2.2⟩
  | inr abc => trivial
theorem bits_lt {a b : Nat} (ha : a ≤ 31) (hb : b ≤ 31) : (2 ^ a ||| 2 ^ b) ||| 1 < 2 ^ 32 :=
  Nat.or_lt_two_pow (Nat.or_lt_two_pow (Nat.pow_lt_pow_right (by decide) (by omega)) (Nat.pow_lt_pow_right (by decide) (by omega))) (by decide)
theorem pTri_ok {t : Nat} {β : Nat → Nat} {p d : Nat} {op : Nat → Int32} (hp : p ≤ t) : okO t p (pTri t β p d op) := by
  unfold pTri
  cases h : pNum t β 2 31 p d op with
  | inr abc => trivial
  | inl ve =>
    obtain ⟨a, e⟩ := ve
    obtain ⟨h1, h2, h3, h4⟩ := pNum_le hp h
    show okO t p (bnd (pNum t β 1 (a - 1) e d op) _)
    cases h' : pNum t β 1 (a - 1) e d op with
    | inr abc => trivial
    | inl ve2 =>
      obtain ⟨b, e2⟩ := ve2
      obtain ⟨g1, g2, g3, g4⟩ := pNum_le h4 h'
      exact ⟨bits_lt h2 (by omega), by omega, g4⟩
theorem isw_at {t : Nat} {β : Nat → Nat} {i p : Nat} (h : isw t β i p) (hi : i < 5) : p + (wds i).length ≤ t := by
  have hl : 1 ≤ (wds i).length := (show ∀ i, i < 5 → 1 ≤ (wds i).length by decide) i hi
  have := (h.1 ((wds i).length - 1) (by omega)).1
  omega
theorem pder_lt {a : Nat} (h : a < 2 ^ 32) : pder a < 2 ^ 32 := by
  unfold pder
  refine Nat.lt_of_le_of_lt Nat.and_le_left ?_
  rw [Nat.shiftRight_eq_div_pow]
  exact Nat.lt_of_le_of_lt (Nat.div_le_self _ _) h
def nrOk (t : Nat) (nr : NRt) : Prop := ∀ p d op, p ≤ t → okO t p (nr p d op)
theorem pOne_ok {t : Nat} {β : Nat → Nat} {nr : NRt} {q : Nat → Nat} (hn : nrOk t nr) (hq : ∀ k, k < 10 → q k < 2 ^ 32) {p d : Nat} {op : Nat → Int32} (hp : p ≤ t) : okO t p (pOne t β nr q p d op) := by
  unfold pOne
  have h1 := sk_ge t β p
  have h2 := sk_le (β := β) hp
  split
  · exact okO_mono (pNum_ok h2 (by decide)) h1
  split
  · rename_i c
    have := isw_at c (by decide)
    exact ⟨by decide, by omega, this⟩
  split
  · rename_i c
    have hl := isw_at c (by decide)
    have hl : sk t β p + 1 ≤ t := hl
    cases h : pNum t β 0 9 (sk t β p + 1) d op with
    | inr abc => trivial
    | inl ve =>
      obtain ⟨k, e⟩ := ve
      obtain ⟨g1, g2, g3, g4⟩ := pNum_le hl h
      exact ⟨hq k (by omega), by omega, g4⟩
  split
  · rename_i c
    have hl := isw_at c (by decide)
    have hl : sk t β p + 3 ≤ t := hl
    exact okO_mono (pTri_ok hl) (by omega)
  split
  · rename_i c
    have hl := isw_at c (by decide)
    have hl : sk t β p + 3 ≤ t := hl
    exact okO_bind (hn _ d op hl) (fun v e a b c => ⟨prev_lt a, by omega, c⟩)
  split
  · rename_i c
    have hl := isw_at c (by decide)
    have hl : sk t β p + 3 ≤ t := hl
    exact okO_bind (hn _ d op hl) (fun v e a b c => ⟨pder_lt a, by omega, c⟩)
  · exact okO_mono (hn _ d op h2) h1
theorem ppow_bd {v k : Nat} (h : v = 0 ∨ dg v * k ≤ 31) : ppow v k < 2 ^ 32 := by
  by_cases z : v = 0
  · subst z
    cases k with
    | zero => decide
    | succ k => show cm 0 _ < _; rw [zero_cm]; decide
  · refine (dg_lt (ppow_ne z k)).mp ?_
    rw [dg_ppow z, Nat.mul_comm]
    rcases h with q | q
    · exact absurd q z
    · omega
theorem pPow_ok {t : Nat} {β : Nat → Nat} {nr : NRt} {q : Nat → Nat} (hn : nrOk t nr) (hq : ∀ k, k < 10 → q k < 2 ^ 32) {p d : Nat} {op : Nat → Int32} (hp : p ≤ t) : okO t p (pPow t β nr q p d op) := by
  unfold pPow
  have h1 := sk_ge t β p
  have h2 := sk_le (β := β) hp
  refine okO_bind (pOne_ok hn hq h2) (fun v e a b c => ?_)
  have h3 := sk_ge t β e
  have h4 := sk_le (β := β) c
  split
  · rename_i c1
    refine okO_bind (pNum_ok (t := t) (p := sk t β e + 1) c1.1 (by decide)) (fun k e2 _ b2 c2 => ?_)
    split
    · rename_i c3
      exact ⟨ppow_bd c3, by omega, c2⟩
    · exact okO_fl ..
  · exact ⟨a, by omega, h4⟩
theorem pPrdL_ok {t : Nat} {β : Nat → Nat} {nr : NRt} {q : Nat → Nat} (hn : nrOk t nr) (hq : ∀ k, k < 10 → q k < 2 ^ 32) {s0 d : Nat} {op : Nat → Int32} : ∀ n acc p p', p ≤ t → acc < 2 ^ 32 → p' < p → okO t p' (pPrdL t β nr q s0 d op n acc p)
  | 0, acc, p, p', h, ha, hp => ⟨ha, hp, h⟩
  | n + 1, acc, p, p', h, ha, hp => by
    have h1 := sk_ge t β p
    have h2 := sk_le (β := β) h
    unfold pPrdL
    split
    · rename_i c
      have hx : (if isc t β (sk t β p) 42 then sk t β p + 1 else sk t β p) ≤ t ∧ sk t β p ≤ (if isc t β (sk t β p) 42 then sk t β p + 1 else sk t β p) := by
        split
        · rename_i c2
          exact ⟨c2.1, by omega⟩
        · exact ⟨h2, Nat.le_refl _⟩
      refine okO_bind (pPow_ok hn hq hx.1) (fun v e a b c => ?_)
      split
      · rename_i c3
        exact pPrdL_ok hn hq n (cm acc v) e p' c c3 (by omega)
      · exact okO_fl ..
    · exact ⟨ha, by omega, h2⟩
theorem pPrd_ok {t : Nat} {β : Nat → Nat} {nr : NRt} {q : Nat → Nat} (hn : nrOk t nr) (hq : ∀ k, k < 10 → q k < 2 ^ 32) {p d : Nat} {op : Nat → Int32} (hp : p ≤ t) : okO t p (pPrd t β nr q p d op) := by
  unfold pPrd
  have h1 := sk_ge t β p
  have h2 := sk_le (β := β) hp
  exact okO_bind (pPow_ok hn hq h2) (fun v e a b c => pPrdL_ok hn hq _ v e p c a (by omega))
theorem pSumL_ok {t : Nat} {β : Nat → Nat} {nr : NRt} {q : Nat → Nat} (hn : nrOk t nr) (hq : ∀ k, k < 10 → q k < 2 ^ 32) {d : Nat} {op : Nat → Int32} : ∀ n acc p p', p ≤ t → acc < 2 ^ 32 → p' < p → okO t p' (pSumL t β nr q d op n acc p)
  | 0, acc, p, p', h, ha, hp => ⟨ha, hp, h⟩
  | n + 1, acc, p, p', h, ha, hp => by
    have h1 := sk_ge t β p
    have h2 := sk_le (β := β) h
    unfold pSumL
    split
    · rename_i c
      exact okO_bind (pPrd_ok (t := t) (p := sk t β p + 1) hn hq c.1) (fun v e a b c => pSumL_ok hn hq n (acc ^^^ v) e p' c (Nat.xor_lt_two_pow ha a) (by omega))
    · exact ⟨ha, by omega, h2⟩
theorem pSum_ok {t : Nat} {β : Nat → Nat} {nr : NRt} {q : Nat → Nat} (hn : nrOk t nr) (hq : ∀ k, k < 10 → q k < 2 ^ 32) {p d : Nat} {op : Nat → Int32} (hp : p ≤ t) : okO t p (pSum t β nr q p d op) := by
  unfold pSum
  exact okO_bind (pPrd_ok hn hq hp) (fun v e a b c => pSumL_ok hn hq _ v e p c a (by omega))
theorem pNest_ok {t : Nat} {β : Nat → Nat} {q : Nat → Nat} (hq : ∀ k, k < 10 → q k < 2 ^ 32) : ∀ n, nrOk t (pNest t β q n)
  | 0, p, d, op, _ => okO_fl ..
  | n + 1, p, d, op, hp => by
    show okO t p (pNestE t β (pNest t β q n) q p d op)
    have h1 := sk_ge t β p
    have h2 := sk_le (β := β) hp
    unfold pNestE
    split
    · rename_i c
      split
      · refine okO_bind (pSum_ok (t := t) (p := sk t β p + 1) (pNest_ok hq n) hq c.1) (fun v e a b c => ?_)
        have h3 := sk_ge t β e
        split
        · rename_i c2
          exact ⟨a, by omega, c2.1⟩
        · exact okO_fl ..
      · exact okO_fl ..
    · exact okO_fl ..
