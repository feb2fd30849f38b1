-- the relation of the whole state, and what 'both answer the same' is
/-- a row as the calls leave it -/
def okRow (r : Nat → Int64) : Prop := (∀ i, i < 10 → ∃ n, n < 2 ^ 32 ∧ r i = lN n) ∧
  ∃ g st : Nat, g < 2 ^ 32 ∧ r 10 = lN g ∧ st < 2 ^ 31 ∧ r 11 = lN st ∧ (g ≠ 0 → g % 2 = 1 ∧ 1 ≤ dg g ∧ st < 2 ^ dg g)
def tapeOk (w : Wd) : Prop := ∃ t, t ≤ 300 ∧ w.1 2 1 = nI t ∧ w.1 30 21 = nI t ∧ ∀ i, i < t → w.1 3 i = w.1 43 i
def faultOk (w : Wd) : Prop := w.1 1 5 = w.1 30 23 ∧ w.1 1 6 = w.1 30 24 ∧ w.1 1 7 = w.1 30 25
/-- the model's list of factors of a -/
def isF (a : Nat) (ps : List Nat) : Prop := (∀ p, p ∈ ps → irr p) ∧ ps.Pairwise (· ≤ ·) ∧ (a ≤ 1 → ps = []) ∧ (a ≠ 0 → pprod ps = a)
def cacheOk (w : Wd) : Prop := w.2 30 7 = -1 ∨ ∃ (a : Nat) (ps : List Nat), a < 2 ^ 63 ∧ w.2 30 7 = lN a ∧ isF a ps ∧ w.1 30 6 = nI ps.length ∧ ∀ j, j < ps.length → w.2 35 j = lN (ps.getD j 0)
def restOk (w : Wd) : Prop := tapeOk w ∧ faultOk w ∧ cacheOk w
def core (w : Wd) (now : Nat → Int64) (u : Nat) (past : Nat → Nat → Int64) (kb : Nat → Bool) (shelf : Nat → Nat → Int64) : Prop :=
  ic w now u past kb shelf ∧ im w now u past kb shelf ∧ okRow now ∧ (∀ j, okRow (past j)) ∧ (∀ k, okRow (shelf k)) ∧ restOk w
def Inv (w : Wd) : Prop := ∃ now u past kb shelf, core w now u past kb shelf
/-- both answer the same, and the relation stays -/
def same1 {α : Type} (T : (α → Wd → Prop) → Prop) (M : Wd → (α → Wd → Prop) → Prop) : Prop :=
  ∀ G : α → Wd → Prop, (∀ r w1, (∀ F : α → Wd → Prop, (∀ w2, Inv w2 → F r w2) → M w1 F) → G r w1) → T G
def same0 {α : Type} (T : (α → Prop) → Prop) (M : (α → Prop) → Prop) : Prop :=
  ∀ G : α → Prop, (∀ r, (∀ F : α → Prop, F r → M F) → G r) → T G
theorem ic_fr {w w' : Wd} {now : Nat → Int64} {u : Nat} {past : Nat → Nat → Int64} {kb : Nat → Bool} {shelf : Nat → Nat → Int64} {L : List (Nat × Nat)} {C M : List Nat}
    (hi : ic w now u past kb shelf) (h : fr L C M w w') (hL : (6, 3) ∉ L ∧ (6, 4) ∉ L ∧ (6, 5) ∉ L) (hC : 6 ∉ C) (hM : 7 ∉ M ∧ 8 ∉ M ∧ 9 ∉ M) : ic w' now u past kb shelf := by
  obtain ⟨h1, h2, h3, ⟨s, hs, h4, h5⟩, h6, h7⟩ := hi
  refine ⟨?_, h2, ?_, ⟨s, hs, ?_, ?_⟩, ?_, ?_⟩
  · rw [h.2 7 hM.1]; exact h1
  · rw [h.1 6 3 hL.1 hC]; exact h3
  · rw [h.1 6 4 hL.2.1 hC]; exact h4
  · rw [h.2 8 hM.2.1]; exact h5
  · rw [h.1 6 5 hL.2.2 hC]; exact h6
  · rw [h.2 9 hM.2.2]; exact h7
theorem im_fr {w w' : Wd} {now : Nat → Int64} {u : Nat} {past : Nat → Nat → Int64} {kb : Nat → Bool} {shelf : Nat → Nat → Int64} {L : List (Nat × Nat)} {C M : List Nat}
    (hi : im w now u past kb shelf) (h : fr L C M w w') (hL : (30, 2) ∉ L ∧ (34, 0) ∉ L ∧ (34, 1) ∉ L) (hC : 30 ∉ C ∧ 34 ∉ C) (hM : 31 ∉ M ∧ 32 ∉ M ∧ 33 ∉ M) : im w' now u past kb shelf := by
  obtain ⟨h1, h2, h3, h4, h5, h6⟩ := hi
  refine ⟨?_, h2, ?_, ?_, ?_, ?_⟩
  · rw [h.2 31 hM.1]; exact h1
  · rw [h.1 30 2 hL.1 hC.1]; exact h3
  · rw [h.2 32 hM.2.1]; exact h4
  · intro k hk
    rw [← h5 k hk]
    rcases (show k = 0 ∨ k = 1 by omega) with rfl | rfl
    · exact h.1 34 0 hL.2.1 hC.2
    · exact h.1 34 1 hL.2.2 hC.2
  · rw [h.2 33 hM.2.2]; exact h6
theorem rest_fr {w w' : Wd} {L : List (Nat × Nat)} {C M : List Nat} (hr : restOk w) (h : fr L C M w w')
    (hL : ∀ x, x ∈ L → x.1 = 6 ∨ x = (30, 2) ∨ x.1 = 34) (hC : C = []) (hM : ∀ x, x ∈ M → x = 7 ∨ x = 8 ∨ x = 9 ∨ x = 31 ∨ x = 32 ∨ x = 33) : restOk w' := by
  subst hC
  have gI : ∀ c i, c ≠ 6 → (c, i) ≠ (30, 2) → c ≠ 34 → w'.1 c i = w.1 c i := fun c i h1 h2 h3 => h.1 c i (fun z => by rcases hL _ z with q | q | q; exact h1 q; exact h2 q; exact h3 q) (by simp)
  have gL : ∀ c, c ≠ 7 → c ≠ 8 → c ≠ 9 → c ≠ 31 → c ≠ 32 → c ≠ 33 → w'.2 c = w.2 c := fun c h1 h2 h3 h4 h5 h6 => h.2 c (fun z => by rcases hM _ z with q | q | q | q | q | q <;> contradiction)
  obtain ⟨⟨t, ht, t1, t2, t3⟩, ⟨f1, f2, f3⟩, hc⟩ := hr
  refine ⟨⟨t, ht, ?_, ?_, ?_⟩, ⟨?_, ?_, ?_⟩, ?_⟩
  · rw [gI 2 1 (by decide) (by decide) (by decide)]; exact t1
  · rw [gI 30 21 (by decide) (by decide) (by decide)]; exact t2
  · intro i hi
    rw [gI 3 i (by decide) (by simp) (by decide), gI 43 i (by decide) (by simp) (by decide)]
    exact t3 i hi
  · rw [gI 1 5 (by decide) (by decide) (by decide), gI 30 23 (by decide) (by decide) (by decide)]; exact f1
  · rw [gI 1 6 (by decide) (by decide) (by decide), gI 30 24 (by decide) (by decide) (by decide)]; exact f2
  · rw [gI 1 7 (by decide) (by decide) (by decide), gI 30 25 (by decide) (by decide) (by decide)]; exact f3
  · unfold cacheOk
    rw [gL 30 (by decide) (by decide) (by decide) (by decide) (by decide) (by decide), gL 35 (by decide) (by decide) (by decide) (by decide) (by decide) (by decide), gI 30 6 (by decide) (by decide) (by decide)]
    exact hc
theorem okRow_set {r : Nat → Int64} {k x : Nat} (h : okRow r) (hk : k < 10) (hx : x < 2 ^ 32) : okRow (setR r k (lN x)) := by
  obtain ⟨h1, g, st, hg, e1, hst, e2, h3⟩ := h
  refine ⟨?_, g, st, hg, ?_, hst, ?_, h3⟩
  · intro i hi
    unfold setR
    by_cases hik : i = k
    · rw [if_pos hik]; exact ⟨x, hx, rfl⟩
    · rw [if_neg hik]; exact h1 i hi
  · unfold setR; rw [if_neg (by omega)]; exact e1
  · unfold setR; rw [if_neg (by omega)]; exact e2
theorem okRow_push {r : Nat → Int64} {past : Nat → Nat → Int64} (h : okRow r) (hp : ∀ j, okRow (past j)) : ∀ j, okRow (push r past j) := by
  intro j
  cases j with
  | zero => exact h
  | succ j => exact hp j
/-- a value told into a place by both -/
theorem both_place {w : Wd} {now : Nat → Int64} {u : Nat} {past : Nat → Nat → Int64} {kb : Nat → Bool} {shelf : Nat → Nat → Int64} (hc : core w now u past kb shelf) {k x : Nat} (hk : k < 10) (hx : x < 2 ^ 32) {G : Int32 → Wd → Prop}
    (h : ∀ r w1, im w1 now u past kb shelf → (∀ F : Int32 → Wd → Prop, (∀ w2, Inv w2 → F r w2) → cf_M_gets (nI k) (lN x) w1 F) → G r w1) : cf_T_place (nI k) (lN x) w G := by
  obtain ⟨h1, h2, h3, h4, h5, h6⟩ := hc
  refine sp_place h1 hk (by omega) (fun w1 g1 g2 => ?_)
  have g3 := im_fr h2 g2 (by decide) (by decide) (by decide)
  refine h _ _ g3 (fun F hF => mp_gets g3 hk (by omega) (fun w2 k1 k2 => hF w2 ?_))
  refine ⟨_, _, _, _, _, ic_fr g1 k2 (by decide) (by decide) (by decide), k1, okRow_set h3 hk hx, okRow_push h3 h4, h5, ?_⟩
  refine rest_fr (rest_fr h6 g2 (by simp) rfl (by simp)) k2 (by simp) rfl (by simp)
/-- both refuse, or only answer: nothing changes -/
theorem both_stay {α : Type} {w : Wd} (hI : Inv w) {M : Wd → (α → Wd → Prop) → Prop} {r : α} {G : α → Wd → Prop}
    (h : ∀ r w1, (∀ F : α → Wd → Prop, (∀ w2, Inv w2 → F r w2) → M w1 F) → G r w1) (hM : ∀ F : α → Wd → Prop, F r w → M w F) : G r w :=
  h r w (fun F hF => hM F (hF w hI))
theorem im_now {w : Wd} {now : Nat → Int64} {u : Nat} {past : Nat → Nat → Int64} {kb : Nat → Bool} {shelf : Nat → Nat → Int64} (h : im w now u past kb shelf) {i : Nat} (hi : i < 10) : w.2 31 i = now i := by
  rw [h.1 i (by omega)]
  unfold mrow
  rw [if_pos (by omega)]
theorem op_add {w : Wd} (hI : Inv w) (a b c : Int32) : same1 (cf_T_add a b c w) (cf_M_add a b c) := by
  intro G h
  obtain ⟨now, u, past, kb, shelf, hc⟩ := hI
  have hI : Inv w := ⟨now, u, past, kb, shelf, hc⟩
  unfold cf_T_add
  refine sp_arePlaces (fun ha hb hcc => ⟨fun _ => ?_, fun z => absurd z one_ne'⟩) (fun hno => ⟨fun z => absurd rfl z, fun _ => both_stay hI h (fun F hF => ?_)⟩)
  · obtain ⟨a, ha', rfl⟩ := ha
    obtain ⟨b, hb', rfl⟩ := hb
    obtain ⟨c, hc', rfl⟩ := hcc
    obtain ⟨x, hx, ex⟩ := hc.2.2.1.1 a ha'
    obtain ⟨y, hy, ey⟩ := hc.2.2.1.1 b hb'
    refine sp_polyAt ha' (sp_polyAt hb' ?_)
    rw [hc.1.1 a (by omega), hc.1.1 b (by omega), ex, ey, lN_xor]
    refine both_place hc hc' (Nat.xor_lt_two_pow hx hy) (fun r w1 g1 g2 => h r w1 (fun F hF => ?_))
    unfold cf_M_add
    refine mp_areThree (fun _ _ _ => ⟨fun z => absurd z one_ne', fun _ => ⟨vp_in_nI (by omega) (by omega), vp_in_nI (by omega) (by omega), ?_⟩⟩) (fun hno => absurd ⟨⟨a, ha', rfl⟩, ⟨b, hb', rfl⟩, ⟨c, hc', rfl⟩⟩ hno)
    rw [nI_clamp (by omega), nI_clamp (by omega), im_now g1 ha', im_now g1 hb', ex, ey, lN_xor]
    exact g2 F hF
  · unfold cf_M_add
    exact mp_areThree (fun z1 z2 z3 => absurd ⟨z1, z2, z3⟩ hno) (fun _ => ⟨fun _ => hF, fun z => absurd rfl z⟩)
