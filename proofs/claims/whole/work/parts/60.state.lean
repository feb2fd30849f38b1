-- what both hold: the state, in the class's cells (ic) and in the model's (im)
/-- the rows of Int32: which a place's number is -/
def isPl (a : Int32) : Prop := ∃ k, k < 10 ∧ a = nI k
theorem nI_ofI {a : Int32} (h : 0 ≤ a.toInt) : a = nI a.toInt.toNat := by
  have h2 : a.toInt < 2 ^ 31 := Int32.toInt_lt a
  rw [← Int32.toInt_inj, nI_toInt (by omega)]
  omega
theorem isPl_iff (a : Int32) : isPl a ↔ 0 ≤ a.toInt ∧ a.toInt < 10 := by
  constructor
  · rintro ⟨k, hk, rfl⟩
    rw [nI_toInt (by omega)]
    omega
  · rintro ⟨h1, h2⟩
    exact ⟨a.toInt.toNat, by omega, nI_ofI h1⟩
theorem sp_isPlace {a : Int32} {P : Int32 → Prop} (h1 : isPl a → P 1) (h0 : ¬ isPl a → P 0) : cf_Store_isPlace a P := by
  unfold cf_Store_isPlace
  rw [isPl_iff] at h1 h0
  rw [Int32.lt_iff_toInt_lt, Int32.le_iff_toInt_le]
  show (a.toInt < 0 → _) ∧ (¬ a.toInt < 0 → ((10 : Int) ≤ a.toInt → _) ∧ (¬ (10 : Int) ≤ a.toInt → _))
  exact ⟨fun c => h0 (by omega), fun c => ⟨fun c2 => h0 (by omega), fun c2 => h1 (by omega)⟩⟩
theorem mp_isPlace {a : Int32} {P : Int32 → Prop} (h1 : isPl a → P 1) (h0 : ¬ isPl a → P 0) : cf_M_isPlace a P := by
  unfold cf_M_isPlace cf_M_in
  rw [isPl_iff] at h1 h0
  rw [Int64.lt_iff_toInt_lt, Int64.lt_iff_toInt_lt, Int32.toInt_toInt64]
  show (a.toInt < 0 → _) ∧ (¬ a.toInt < 0 → ((9 : Int) < a.toInt → _) ∧ (¬ (9 : Int) < a.toInt → _))
  exact ⟨fun c => ⟨Or.inl rfl, h0 (by omega)⟩, fun c => ⟨fun c2 => ⟨Or.inl rfl, h0 (by omega)⟩, fun c2 => ⟨Or.inr rfl, h1 (by omega)⟩⟩⟩
theorem one_ne' : ¬ (1 : Int32) = 0 := by decide
theorem sp_arePlaces {a b c : Int32} {P : Int32 → Prop} (h1 : isPl a → isPl b → isPl c → P 1) (h0 : ¬ (isPl a ∧ isPl b ∧ isPl c) → P 0) : cf_T_arePlaces a b c P := by
  unfold cf_T_arePlaces
  refine sp_isPlace (fun ha => ⟨fun z => absurd z one_ne', fun _ => ?_⟩) (fun ha => ⟨fun _ => h0 (fun z => ha z.1), fun z => absurd rfl z⟩)
  refine sp_isPlace (fun hb => ⟨fun z => absurd z one_ne', fun _ => ?_⟩) (fun hb => ⟨fun _ => h0 (fun z => hb z.2.1), fun z => absurd rfl z⟩)
  exact sp_isPlace (fun hc => ⟨fun z => absurd z one_ne', fun _ => h1 ha hb hc⟩) (fun hc => ⟨fun _ => h0 (fun z => hc z.2.2), fun z => absurd rfl z⟩)
theorem mp_areThree {a b c : Int32} {P : Int32 → Prop} (h1 : isPl a → isPl b → isPl c → P 1) (h0 : ¬ (isPl a ∧ isPl b ∧ isPl c) → P 0) : cf_M_areThree a b c P := by
  unfold cf_M_areThree
  refine mp_isPlace (fun ha => ⟨fun z => absurd z one_ne', fun _ => ?_⟩) (fun ha => ⟨fun _ => h0 (fun z => ha z.1), fun z => absurd rfl z⟩)
  refine mp_isPlace (fun hb => ⟨fun z => absurd z one_ne', fun _ => ?_⟩) (fun hb => ⟨fun _ => h0 (fun z => hb z.2.1), fun z => absurd rfl z⟩)
  exact mp_isPlace (fun hc => ⟨fun z => absurd z one_ne', fun _ => h1 ha hb hc⟩) (fun hc => ⟨fun _ => h0 (fun z => hc z.2.2), fun z => absurd rfl z⟩)
theorem sp_polyAt {k : Nat} {w : Wd} {P : Int64 → Prop} (hk : k < 10) (h : P (w.2 7 k)) : cf_Store_polyAt (nI k) w P := by
  unfold cf_Store_polyAt
  refine sp_isPlace (fun _ => ⟨fun z => absurd z one_ne', fun _ => ⟨fun c => ?_, fun _ => ⟨vp_in_nI (by omega) (by omega), ?_⟩⟩⟩) (fun z => absurd ⟨k, hk, rfl⟩ z)
  · have := (nI_leI (show 13 < 2 ^ 31 by decide) (show k < 2 ^ 31 by omega)).mp c
    omega
  · rw [nI_clamp (by omega)]
    exact h
theorem sp_write {k : Nat} {x : Int64} {w : Wd} {P : Wd → Prop} (hk : k < 10) (h : P (wL w 7 k x)) : cf_Store_write (nI k) x w P := by
  unfold cf_Store_write
  refine sp_isPlace (fun _ => ⟨fun z => absurd z one_ne', fun _ => ⟨fun c => ?_, fun _ => ⟨vp_in_nI (by omega) (by omega), ?_⟩⟩⟩) (fun z => absurd ⟨k, hk, rfl⟩ z)
  · have := (nI_leI (show 13 < 2 ^ 31 by decide) (show k < 2 ^ 31 by omega)).mp c
    omega
  · rintro _ rfl
    rw [nI_clamp (by omega)]
    exact h
/-- what a run of writes leaves as it was: ints by cell and slot, or by cell; longs by cell -/
def fr (L : List (Nat × Nat)) (C M : List Nat) (w w' : Wd) : Prop := (∀ c i, (c, i) ∉ L → c ∉ C → w'.1 c i = w.1 c i) ∧ (∀ c, c ∉ M → w'.2 c = w.2 c)
theorem fr_refl (L : List (Nat × Nat)) (C M : List Nat) (w : Wd) : fr L C M w w := ⟨fun _ _ _ _ => rfl, fun _ _ => rfl⟩
theorem fr_trans {L : List (Nat × Nat)} {C M : List Nat} {w w' w'' : Wd} (h1 : fr L C M w w') (h2 : fr L C M w' w'') : fr L C M w w'' :=
  ⟨fun c i h3 h4 => (h2.1 c i h3 h4).trans (h1.1 c i h3 h4), fun c h3 => (h2.2 c h3).trans (h1.2 c h3)⟩
theorem fr_wI {L : List (Nat × Nat)} {C M : List Nat} {w w' : Wd} {c j : Nat} (x : Int32) (h : fr L C M w w') (hm : (c, j) ∈ L ∨ c ∈ C) : fr L C M w (wI w' c j x) := by
  refine ⟨fun k i h1 h2 => ?_, fun k h1 => ?_⟩
  · rw [wI_1]
    split
    · next e =>
      exfalso
      rcases hm with hm | hm
      · exact h1 (by rw [e.1, e.2]; exact hm)
      · exact h2 (by rw [e.1]; exact hm)
    · exact h.1 k i h1 h2
  · rw [wI_2]; exact h.2 k h1
theorem fr_wL {L : List (Nat × Nat)} {C M : List Nat} {w w' : Wd} {c j : Nat} (x : Int64) (h : fr L C M w w') (hm : c ∈ M) : fr L C M w (wL w' c j x) := by
  refine ⟨fun k i h1 h2 => ?_, fun k h1 => ?_⟩
  · rw [wL_1]; exact h.1 k i h1 h2
  · have : k ≠ c := fun e => h1 (e ▸ hm)
    rw [← h.2 k h1]
    funext i
    rw [wL_2]
    simp [this]
theorem fr_wR {L : List (Nat × Nat)} {C M : List Nat} {w w' : Wd} {c : Nat} (f : Nat → Int64) (h : fr L C M w w') (hm : c ∈ M) : fr L C M w (wR w' c f) := by
  refine ⟨fun k i h1 h2 => ?_, fun k h1 => ?_⟩
  · rw [wR_1]; exact h.1 k i h1 h2
  · have : k ≠ c := fun e => h1 (e ▸ hm)
    rw [← h.2 k h1]
    funext i
    rw [wR_2]
    simp [this]
/-- the class's cells of what is kept -/
def ic (w : Wd) (now : Nat → Int64) (u : Nat) (past : Nat → Nat → Int64) (kb : Nat → Bool) (shelf : Nat → Nat → Int64) : Prop :=
  (∀ i, i < 13 → w.2 7 i = now i) ∧ u ≤ 10 ∧ w.1 6 3 = nI u ∧
  (∃ s, s < 10 ∧ w.1 6 4 = nI s ∧ ∀ j, j < u → ∀ i, i < 13 → w.2 8 (((s + 9 - j) % 10) * 13 + i) = past j i) ∧
  w.1 6 5 = nI ((kb 0).toNat + 2 * (kb 1).toNat) ∧ (∀ k, k < 2 → kb k = true → ∀ i, i < 13 → w.2 9 (k * 13 + i) = shelf k i)
/-- how a row of the class stands in the model -/
def mrow (r : Nat → Int64) (i : Nat) : Int64 := if i ≤ 10 then r i else if i = 11 then lN (dg (r 10).toNatClampNeg) else r (i - 1)
/-- the model's cells of the same -/
def im (w : Wd) (now : Nat → Int64) (u : Nat) (past : Nat → Nat → Int64) (kb : Nat → Bool) (shelf : Nat → Nat → Int64) : Prop :=
  (∀ i, i < 14 → w.2 31 i = mrow now i) ∧ u ≤ 10 ∧ w.1 30 2 = nI u ∧
  (∀ j, j < u → ∀ i, i < 14 → w.2 32 ((u - 1 - j) * 14 + i) = mrow (past j) i) ∧
  (∀ k, k < 2 → w.1 34 k = nI (kb k).toNat) ∧ (∀ k, k < 2 → kb k = true → ∀ i, i < 14 → w.2 33 (k * 14 + i) = mrow (shelf k) i)
/-- one more row to go back to -/
def push (now : Nat → Int64) (past : Nat → Nat → Int64) : Nat → Nat → Int64
  | 0 => now
  | j + 1 => past j
def up (u : Nat) : Nat := if u < 10 then u + 1 else 10
theorem up_imin : ∀ u, u ≤ 10 → imin (nI u + 1) 10 = nI (up u) := by
  intro u h
  rcases (show u = 0 ∨ u = 1 ∨ u = 2 ∨ u = 3 ∨ u = 4 ∨ u = 5 ∨ u = 6 ∨ u = 7 ∨ u = 8 ∨ u = 9 ∨ u = 10 by omega) with h | h | h | h | h | h | h | h | h | h | h <;> subst h <;> decide +kernel
theorem next_slot : ∀ s, s < 10 → irem (nI s + 1) 10 = nI ((s + 1) % 10) := by decide +kernel
theorem sp_copyRow {b0 n0 b2 n2 x y : Nat} {w : Wd} {P : Wd → Prop} (hx : x * 13 + 13 ≤ n0) (hy : y * 13 + 13 ≤ n2) (hn0 : n0 < 2 ^ 20) (hn2 : n2 < 2 ^ 20)
    (h : P (wR w b2 (va_cpy (w.2 b0) (w.2 b2) (x * 13) (y * 13) 13))) : cf_Store_copyRow b0 n0 b2 n2 (nI x) (nI y) w P := by
  unfold cf_Store_copyRow
  have e1 : nI x * (13 : Int32) = nI (x * 13) := nI_mul x 13
  have e2 : nI y * (13 : Int32) = nI (y * 13) := nI_mul y 13
  rintro _ rfl _ rfl
  rw [e1, e2]
  have a1 : nI (x * 13) + (13 : Int32) = nI (x * 13 + 13) := nI_add _ 13
  have a2 : nI (y * 13) + (13 : Int32) = nI (y * 13 + 13) := nI_add _ 13
  rw [a1, a2]
  refine ⟨fun c => absurd c (nI_pos (by omega)), fun _ => ⟨fun c => ?_, fun _ => ⟨fun c => absurd c (nI_pos (by omega)), fun _ => ⟨fun c => ?_, fun _ => ⟨⟨nI_pos (by omega), nI_pos (by omega), by decide, ?_, ?_⟩, ?_⟩⟩⟩⟩⟩
  · have := (nI_ltI (show n0 < 2 ^ 31 by omega) (by omega)).mp c
    omega
  · have := (nI_ltI (show n2 < 2 ^ 31 by omega) (by omega)).mp c
    omega
  · rw [nI_clamp (by omega)]; exact hx
  · rw [nI_clamp (by omega)]; exact hy
  · rintro _ rfl
    rw [nI_clamp (by omega), nI_clamp (by omega)]
    exact h
theorem sp_remember {w : Wd} {now : Nat → Int64} {u : Nat} {past : Nat → Nat → Int64} {kb : Nat → Bool} {shelf : Nat → Nat → Int64} {P : Wd → Prop}
    (hi : ic w now u past kb shelf) (h : ∀ w', ic w' now (up u) (push now past) kb shelf → fr [(6, 3), (6, 4)] [] [8] w w' → P w') : cf_Store_remember w P := by
  obtain ⟨h1, h2, h3, ⟨s, hs, h4, h5⟩, h6, h7⟩ := hi
  unfold cf_Store_remember
  rw [h4]
  refine sp_copyRow (x := 0) (y := s) (by omega) (by omega) (by omega) (by omega) ?_
  rintro _ rfl _ rfl
  have e1 : ∀ (f : Nat → Int64) (x : Int32), (wI (wR w 8 f) 6 4 x).1 6 3 = nI u := by
    intro f x
    rw [wI_1, if_neg (by decide), wR_1]
    exact h3
  have e0 : ∀ (f : Nat → Int64), (wR w 8 f).1 6 4 = nI s := fun f => h4
  rw [e1, e0, next_slot s hs, up_imin u h2]
  refine h _ ⟨?_, ?_, ?_, ⟨(s + 1) % 10, by omega, ?_, ?_⟩, ?_, ?_⟩ ?_
  · intro i hi
    rw [wI_2, wI_2, wR_2, if_neg (by decide)]
    exact h1 i hi
  · unfold up; split <;> omega
  · rw [wI_1, if_pos (by decide)]
  · rw [wI_1, if_neg (by decide), wI_1, if_pos (by decide)]
  · intro j hj i hi
    rw [wI_2, wI_2, wR_2, if_pos rfl]
    unfold va_cpy
    cases j with
    | zero =>
      have e : ((s + 1) % 10 + 9 - 0) % 10 = s := by omega
      rw [e, if_pos (by omega)]
      have e3 : 0 * 13 + (s * 13 + i - s * 13) = i := by omega
      rw [e3]
      exact h1 i hi
    | succ j =>
      have hj2 : j < 9 ∧ j < u := by unfold up at hj; split at hj <;> omega
      have e : ((s + 1) % 10 + 9 - (j + 1)) % 10 = (s + 9 - j) % 10 := by omega
      rw [e, if_neg (by omega)]
      exact h5 j hj2.2 i hi
  · rw [wI_1, if_neg (by decide), wI_1, if_neg (by decide), wR_1]
    exact h6
  · intro k hk hkb i hi
    rw [wI_2, wI_2, wR_2, if_neg (by decide)]
    exact h7 k hk hkb i hi
  · exact fr_wI _ (fr_wI _ (fr_wR _ (fr_refl _ _ _ _) (by decide)) (by decide)) (by decide)
