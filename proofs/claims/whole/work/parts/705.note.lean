-- the class's factors: noted, taken out, sorted
def rep : List (Nat × Nat) → List Nat
  | [] => []
  | b :: l => List.replicate b.2 b.1 ++ rep l
theorem rep_append (l m : List (Nat × Nat)) : rep (l ++ m) = rep l ++ rep m := by
  induction l with
  | nil => rfl
  | cons b l ih => show List.replicate b.2 b.1 ++ rep (l ++ m) = _; rw [ih, ← List.append_assoc]; rfl
theorem rep_one (b : Nat × Nat) : rep [b] = List.replicate b.2 b.1 := List.append_nil _
theorem mem_rep {p : Nat} : ∀ {l : List (Nat × Nat)}, p ∈ rep l → ∃ b, b ∈ l ∧ b.1 = p
  | [], h => absurd h (by simp [rep])
  | b :: l, h => by
    rcases List.mem_append.mp h with q | q
    · exact ⟨b, List.mem_cons_self, (List.eq_of_mem_replicate q).symm⟩
    · obtain ⟨d, h1, h2⟩ := mem_rep q
      exact ⟨d, List.mem_cons_of_mem _ h1, h2⟩
/-- what stands in a Factors of the class -/
def isA (c : Nat) (w : Wd) (acc : List (Nat × Nat)) : Prop :=
  w.1 c 3 = nI acc.length ∧ w.1 c 4 = nI (rep acc).length ∧ ∀ j, j < acc.length → w.2 (c + 1) j = lN (acc.getD j (0, 0)).1 ∧ w.1 (c + 2) j = nI (acc.getD j (0, 0)).2
theorem kp_fr {w w' : Wd} {L : List (Nat × Nat)} {C M : List Nat} (h : fr L C M w w') (hL : ∀ x, x ∈ L → rI x.1 x.2 = false) (hC : ∀ k, k ∈ C → ∀ i, rI k i = false) (hM : ∀ k, k ∈ M → rL k = false) : kp w w' := by
  refine ⟨fun k i hr => h.1 k i (fun z => ?_) (fun z => ?_), fun k hr i => ?_⟩
  · have := hL _ z
    rw [hr] at this
    exact absurd this (by decide)
  · have := hC _ z i
    rw [hr] at this
    exact absurd this (by decide)
  · rw [h.2 k (fun z => by have := hM _ z; rw [hr] at this; exact absurd this (by decide))]
theorem kc_fr {w w' : Wd} {L : List (Nat × Nat)} {C M : List Nat} (h : fr L C M w w') (hL : (30, 6) ∉ L) (hC : 30 ∉ C) (hM : 30 ∉ M ∧ 35 ∉ M) : kc w w' :=
  ⟨h.1 30 6 hL hC, by rw [h.2 30 hM.1], fun i => by rw [h.2 35 hM.2]⟩
theorem getDp_left {l m : List (Nat × Nat)} {j : Nat} (h : j < l.length) : (l ++ m).getD j (0, 0) = l.getD j (0, 0) := by
  rw [List.getD_eq_getElem?_getD, List.getD_eq_getElem?_getD, List.getElem?_append_left h]
theorem getDp_last {l : List (Nat × Nat)} {x : Nat × Nat} : (l ++ [x]).getD l.length (0, 0) = x := by
  rw [List.getD_eq_getElem?_getD, List.getElem?_append_right (Nat.le_refl _), Nat.sub_self]
  rfl
theorem sp_note {c : Nat} {w : Wd} {acc : List (Nat × Nat)} {p t : Nat} {P : Wd → Prop} (hA : isA c w acc) (hl : acc.length < 31)
    (h : ∀ w', fr [(c, 3), (c, 4)] [c + 2] [c + 1] w w' → isA c w' (acc ++ [(p, t)]) → P w') : cf_Factors_note c (lN p) (nI t) w P := by
  obtain ⟨h1, h2, h3⟩ := hA
  unfold cf_Factors_note
  rw [h1]
  have no : ¬ (31 : Int32) ≤ nI acc.length := fun z => by
    have := (nI_leI (show 31 < 2 ^ 31 by decide) (show acc.length < 2 ^ 31 by omega)).mp z
    omega
  refine ⟨fun z => absurd z no, fun _ => ⟨fun z => absurd z no, fun _ => ⟨vp_in_nI (by omega) (by omega), ?_⟩⟩⟩
  rw [nI_clamp (by omega)]
  rintro _ rfl
  rw [wL_1, h1]
  refine ⟨vp_in_nI (by omega) (by omega), ?_⟩
  rw [nI_clamp (by omega)]
  rintro _ rfl _ rfl _ rfl
  have e1 : (wI (wL w (c + 1) acc.length (lN p)) (c + 2) acc.length (nI t)).1 c 3 = nI acc.length := by
    rw [wI_1, if_neg (by omega), wL_1, h1]
  rw [e1, nI_1]
  have e2 : (wI (wI (wL w (c + 1) acc.length (lN p)) (c + 2) acc.length (nI t)) c 3 (nI (acc.length + 1))).1 c 4 = nI (rep acc).length := by
    rw [wI_1, if_neg (by omega), wI_1, if_neg (by omega), wL_1, h2]
  rw [e2, nI_add]
  refine h _ ?_ ⟨?_, ?_, fun j hj => ?_⟩
  · refine fr_wI _ (fr_wI _ (fr_wI _ (fr_wL _ (fr_refl _ _ _ _) (by simp)) (by simp)) (by simp)) (by simp)
  · rw [wI_1, if_neg (by omega), wI_1, if_pos ⟨rfl, rfl⟩, List.length_append]
    rfl
  · rw [wI_1, if_pos ⟨rfl, rfl⟩, rep_append, rep_one, List.length_append, List.length_replicate]
  · rw [List.length_append] at hj
    have hj : j < acc.length + 1 := hj
    refine ⟨?_, ?_⟩
    · rw [wI_2, wI_2, wI_2, wL_2]
      by_cases e : j = acc.length
      · subst e
        rw [if_pos ⟨rfl, rfl⟩, getDp_last]
      · rw [if_neg (fun z => e z.2), getDp_left (by omega)]
        exact (h3 j (by omega)).1
    · rw [wI_1, if_neg (by omega), wI_1, if_neg (by omega), wI_1, wL_1]
      by_cases e : j = acc.length
      · subst e
        rw [if_pos ⟨rfl, rfl⟩, getDp_last]
      · rw [if_neg (fun z => e z.2), getDp_left (by omega)]
        exact (h3 j (by omega)).2
theorem irr_lt_dg {a b : Nat} (hb : b ≠ 0) (h : dg a < dg b) : a < b := by
  by_cases z : a = 0
  · omega
  · have h1 := (dg_self z).2
    have h2 := (dg_self hb).1
    have h3 : 2 ^ (dg a + 1) ≤ 2 ^ dg b := Nat.pow_le_pow_right (by omega) h
    omega
theorem sp_takeOut {c : Nat} {w : Wd} {acc : List (Nat × Nat)} {p left : Nat} {P : Int64 → Wd → Prop} (hA : isA c w acc) (hl : acc.length < 31) (hp : irr p) (hp2 : p < 2 ^ 32) (h0 : left ≠ 0) (h2 : left < 2 ^ 32) (hd : pdvd p left)
    (h : ∀ w' left' t, fr [(c, 3), (c, 4)] [c + 2] [c + 1] w w' → 1 ≤ t → cm (pprod (List.replicate t p)) left' = left → ¬ pdvd p left' → left' ≠ 0 → isA c w' (acc ++ [(p, t)]) → P (lN left') w') : cf_Factors_takeOut c (lN left) (lN p) w P := by
  have hp0 := irr_ne hp
  have hpd := irr_dg hp
  have dl := (dg_lt h0).mpr h2
  have key : ∀ m l t, l ≠ 0 → cm (pprod (List.replicate t p)) l = left → (t = 0 → pdvd p l) → t + sz l ≤ sz left → sz l ≤ m → ∀ n, m < n → cf_Factors_takeOut_L9 c P n (lN p) (lN l) (nI t) (nI t) w := by
    intro m
    induction m with
    | zero =>
      intro l t hl0 _ _ _ hm
      have := sz_pos hl0
      omega
    | succ m ih =>
      intro l t hl0 he ht0 hts hm n hn
      obtain ⟨n, rfl⟩ : ∃ m, n = m + 1 := ⟨n - 1, by omega⟩
      show cf_Factors_takeOut_B9 _ _ _ _ _ _ _ _
      unfold cf_Factors_takeOut_B9
      have hl32 : l < 2 ^ 32 := by
        refine lt_of_szle ?_
        have := sz_le.mpr h2
        omega
      have htl : t ≤ 31 := by
        have := sz_le.mpr h2
        have := sz_pos hl0
        omega
      have fin : ¬ pdvd p l → cf_Factors_note c (lN p) (nI t) w (fun w3 => P (lN l) w3) := by
        intro hnd
        have ht1 : 1 ≤ t := Nat.pos_of_ne_zero (fun z => hnd (ht0 z))
        exact sp_note hA hl (fun w' k1 k2 => h w' l t k1 ht1 he hnd hl0 k2)
      refine ⟨fun c1 => ?_, fun _ => ?_⟩
      · have := (nI_leI (show 31 < 2 ^ 31 by decide) (show t < 2 ^ 31 by omega)).mp c1
        refine fin (fun z => ?_)
        have h3 := pdvd_dg hl0 z
        have := sz_le.mpr h2
        have := sz_pos hl0
        omega
      · refine sp_remainder (by omega) (by omega) ⟨fun c2 => fin (fun z => c2 ?_), fun c2 => ?_⟩
        · rw [(pdvd_iff hp0 _).mp z]; rfl
        · have hdv : pdvd p l := (pdvd_iff hp0 _).mpr ((lN_eq0 (Nat.lt_of_lt_of_le (pmod_bd hl32) (by decide))).mp c2)
          refine sp_quotient (by omega) (by omega) hp0 ?_
          rintro _ rfl _ rfl
          rw [nI_1]
          have hq0 := pdiv_ne hp0 hl0 hdv
          have hqm := pdiv_mul hp0 hdv
          have hqd : dg l = dg (pdiv l p) + dg p := by rw [← dg_cm hq0 hp0, hqm]
          have s1 := sz_pos hl0
          have s2 := sz_pos hq0
          refine ih (pdiv l p) (t + 1) hq0 ?_ (fun z => absurd z (by omega)) (by omega) (by omega) n (by omega)
          rw [List.replicate_succ]
          show cm (cm p (pprod (List.replicate t p))) (pdiv l p) = left
          rw [cm_comm p, cm_assoc, cm_comm p, hqm]
          exact he
  unfold cf_Factors_takeOut
  exact ⟨sz left + 1, key (sz left) left 0 h0 (one_cm left) (fun _ => hd) (by omega) (Nat.le_refl _) _ (Nat.lt_succ_self _)⟩
/-- the parts in their cells -/
def isP (c : Nat) (w : Wd) (ls : List Nat) : Prop := ∀ j, j < ls.length → w.2 (c + 3) j = lN (ls.getD j 0)
theorem getD_mid {S T : List Nat} {x : Nat} : (S ++ x :: T).getD S.length 0 = x := by
  rw [List.getD_eq_getElem?_getD, List.getElem?_append_right (Nat.le_refl _), Nat.sub_self]
  rfl
theorem getD_mid_ne {S T : List Nat} {x y k : Nat} (h : k ≠ S.length) : (S ++ x :: T).getD k 0 = (S ++ y :: T).getD k 0 := by
  rw [List.getD_eq_getElem?_getD, List.getD_eq_getElem?_getD]
  by_cases h2 : k < S.length
  · rw [List.getElem?_append_left h2, List.getElem?_append_left h2]
  · rw [List.getElem?_append_right (by omega), List.getElem?_append_right (by omega)]
    obtain ⟨j, hj⟩ : ∃ j, k - S.length = j + 1 := ⟨k - S.length - 1, by omega⟩
    rw [hj, List.getElem?_cons_succ, List.getElem?_cons_succ]
theorem ins_eq (S1 S2 T : List Nat) (x : Nat) : S1 ++ x :: S2 ++ T = S1 ++ x :: (S2 ++ T) := by simp
theorem perm_ins (S1 S2 T : List Nat) (x : Nat) : (S1 ++ x :: S2 ++ T).Perm (S1 ++ S2 ++ x :: T) := by
  rw [ins_eq, List.append_assoc S1 S2]
  exact List.Perm.append_left _ List.perm_middle.symm
theorem sp_sort_inner {c : Nat} {K : Int32 → Int32 → Wd → Prop} {P : Wd → Prop} {w0 : Wd} {many i x : Nat} {S T : List Nat} (hm : many ≤ 31) (hT : i + 1 + T.length = many) (hSl : S.length = i) (hS : S.Pairwise (· ≤ ·)) (hbd : ∀ y, y ∈ S → y < 2 ^ 63) (hx : x < 2 ^ 63)
    (h : ∀ w' S1 S2, fr [] [] [c + 3] w0 w' → S1 ++ S2 = S → (∀ y, y ∈ S2 → x < y) → (∀ y, y ∈ S1 → y ≤ x) → isP c w' (S1 ++ x :: S2 ++ T) → K (nI many) (nI (i + 1)) w') :
    ∀ m (S1 S2 : List Nat) w, S1.length = m → fr [] [] [c + 3] w0 w → S1 ++ S2 = S → (∀ y, y ∈ S2 → x < y) → (∀ k, k < many → k ≠ m → w.2 (c + 3) k = lN ((S1 ++ 0 :: (S2 ++ T)).getD k 0)) →
      ∀ n, m < n → cf_Factors_sortParts_L31 c K P n (nI many) (nI i) (lN x) (nI m) (nI m - 1) w := by
  intro m
  have bound : ∀ (S1 S2 : List Nat), S1 ++ S2 = S → S1.length + S2.length = i := fun S1 S2 e => by rw [← hSl, ← e, List.length_append]
  have put : ∀ (S1 S2 : List Nat) (w : Wd), S1 ++ S2 = S → (∀ k, k < many → k ≠ S1.length → w.2 (c + 3) k = lN ((S1 ++ 0 :: (S2 ++ T)).getD k 0)) → isP c (wL w (c + 3) S1.length (lN x)) (S1 ++ x :: S2 ++ T) := by
    intro S1 S2 w e hc j hj
    have hb := bound S1 S2 e
    have hj : j < many := by
      simp at hj
      omega
    rw [wL_2, ins_eq]
    by_cases e2 : j = S1.length
    · subst e2
      rw [if_pos ⟨rfl, rfl⟩, getD_mid]
    · rw [if_neg (fun z => e2 z.2), hc j hj e2]
      exact congrArg lN (getD_mid_ne e2)
  induction m with
  | zero =>
    intro S1 S2 w hl hf he hgt hc n hn
    obtain ⟨n, rfl⟩ : ∃ m, n = m + 1 := ⟨n - 1, by omega⟩
    have hS1 : S1 = [] := List.length_eq_zero_iff.mp hl
    subst hS1
    show cf_Factors_sortParts_B31 c K _ P _ _ _ _ _ _
    unfold cf_Factors_sortParts_B31
    refine ⟨fun _ => ⟨vp_in_nI (n := 0) (by omega) (by omega), ?_⟩, fun z => absurd nIm_neg z⟩
    rintro _ rfl _ rfl
    rw [nI_1]
    exact h _ [] S2 (fr_wL _ hf (by simp)) he hgt (fun y hy => absurd hy (by simp)) (put [] S2 w he hc)
  | succ m ih =>
    intro S1 S2 w hl hf he hgt hc n hn
    obtain ⟨n, rfl⟩ : ∃ m, n = m + 1 := ⟨n - 1, by omega⟩
    obtain ⟨S1', y, e0⟩ : ∃ S y, S1 = S ++ [y] := by
      rcases List.eq_nil_or_concat S1 with e | ⟨S, y, e⟩
      · rw [e] at hl; exact absurd hl (by simp)
      · exact ⟨S, y, by rw [e, List.concat_eq_append]⟩
    have hS' : S1'.length = m := by rw [e0] at hl; simpa using hl
    have hb := bound S1 S2 he
    have hy : y ∈ S := by rw [← he, e0]; simp
    have hy63 := hbd y hy
    show cf_Factors_sortParts_B31 c K _ P _ _ _ _ _ _
    unfold cf_Factors_sortParts_B31
    rw [nI_pred]
    have ey : w.2 (c + 3) m = lN y := by
      rw [hc m (by omega) (by omega), e0, List.append_assoc, ← hS']
      exact congrArg lN getD_mid
    refine ⟨fun z => absurd z (nI_pos (by omega)), fun _ => ⟨vp_in_nI (by omega) (by omega), ?_⟩⟩
    rw [nI_clamp (by omega), nI_clamp (show m + 1 < 2 ^ 31 by omega), ey, lN_leI hy63 hx]
    refine ⟨fun c1 => ⟨vp_in_nI (by omega) (by omega), ?_⟩, fun c1 => ⟨vp_in_nI (by omega) (by omega), ?_⟩⟩
    · rintro _ rfl _ rfl
      rw [nI_1]
      refine h _ S1 S2 (fr_wL _ hf (by simp)) he hgt (fun z hz => ?_) ?_
      · rw [e0] at hz
        rcases List.mem_append.mp hz with q | q
        · rw [← he, e0] at hS
          have h2 := (List.pairwise_append.mp (List.pairwise_append.mp hS).1).2.2 z q y (by simp)
          omega
        · rw [List.mem_singleton.mp q]; exact c1
      · rw [← hl]
        exact put S1 S2 w he (by rw [hl]; exact hc)
    · rw [nI_1]
      refine ⟨vp_in_nI (by omega) (by omega), ?_⟩
      rw [nI_clamp (by omega)]
      rintro _ rfl _ rfl
      rw [m1_eq]
      refine ih S1' (y :: S2) (wL w (c + 3) (m + 1) (lN y)) hS' (fr_wL _ hf (by simp)) (by rw [← he, e0]; simp) ?_ ?_ n (by omega)
      · intro z hz
        rcases List.mem_cons.mp hz with q | q
        · omega
        · exact hgt z q
      · intro k hk hk2
        rw [wL_2]
        have e2 : S1' ++ 0 :: (y :: S2 ++ T) = (S1' ++ [0]) ++ y :: (S2 ++ T) := by simp
        have h3 : (S1' ++ [0]).length = m + 1 := by simp [hS']
        by_cases e : k = m + 1
        · subst e
          rw [if_pos ⟨rfl, rfl⟩, e2, ← h3]
          exact congrArg lN getD_mid.symm
        · rw [if_neg (fun z => e z.2), hc k hk e, e0]
          have e3 : (S1' ++ [y]) ++ 0 :: (S2 ++ T) = S1' ++ y :: (0 :: (S2 ++ T)) := by simp
          have e5 : S1' ++ 0 :: (0 :: (S2 ++ T)) = (S1' ++ [0]) ++ 0 :: (S2 ++ T) := by simp
          rw [e3, e2, getD_mid_ne (x := y) (y := 0) (by omega), e5]
          exact congrArg lN (getD_mid_ne (by omega))
theorem sp_sortParts {c : Nat} {w : Wd} {ls : List Nat} {P : Wd → Prop} (hm : ls.length ≤ 31) (hb : ∀ y, y ∈ ls → y < 2 ^ 63) (hc : isP c w ls)
    (h : ∀ w' ls', fr [] [] [c + 3] w w' → ls'.Perm ls → ls'.Pairwise (· ≤ ·) → isP c w' ls' → P w') : cf_Factors_sortParts c (nI ls.length) w P := by
  have key : ∀ m (S T : List Nat) w', T.length ≤ m → fr [] [] [c + 3] w w' → (S ++ T).Perm ls → S.Pairwise (· ≤ ·) → isP c w' (S ++ T) → ∀ n, m < n → cf_Factors_sortParts_L2 c P n (nI ls.length) (nI S.length) w' := by
    intro m
    induction m with
    | zero =>
      intro S T w' hT hf hp hs hc n hn
      obtain ⟨n, rfl⟩ : ∃ m, n = m + 1 := ⟨n - 1, by omega⟩
      show cf_Factors_sortParts_B2 _ _ _ _ _ _
      unfold cf_Factors_sortParts_B2
      have hT0 : T = [] := List.length_eq_zero_iff.mp (by omega)
      subst hT0
      rw [List.append_nil] at hp hc
      have hl := hp.length_eq
      refine ⟨fun _ => h w' S hf hp hs hc, fun z => absurd ((nI_leI (by omega) (by omega)).mpr (by omega)) z⟩
    | succ m ih =>
      intro S T w' hT hf hp hs hc n hn
      obtain ⟨n, rfl⟩ : ∃ m, n = m + 1 := ⟨n - 1, by omega⟩
      show cf_Factors_sortParts_B2 _ _ _ _ _ _
      unfold cf_Factors_sortParts_B2
      have hl := hp.length_eq
      rw [List.length_append] at hl
      cases T with
      | nil =>
        rw [List.append_nil] at hp hc
        simp at hl
        refine ⟨fun _ => h w' S hf hp hs hc, fun z => absurd ((nI_leI (by omega) (by omega)).mpr (by omega)) z⟩
      | cons x T =>
        simp at hl hT
        have hmem : ∀ y, y ∈ S ++ x :: T → y < 2 ^ 63 := fun y hy => hb y (hp.subset hy)
        refine ⟨fun z => ?_, fun _ => ⟨fun z => ?_, fun _ => ⟨vp_in_nI (by omega) (by omega), ?_⟩⟩⟩
        · have := (nI_leI (show ls.length < 2 ^ 31 by omega) (show S.length < 2 ^ 31 by omega)).mp z
          omega
        · have := (nI_leI (show 31 < 2 ^ 31 by decide) (show S.length < 2 ^ 31 by omega)).mp z
          omega
        · rw [nI_clamp (by omega)]
          have e1 : w'.2 (c + 3) S.length = lN x := by
            rw [hc S.length (by simp)]
            exact congrArg lN getD_mid
          rw [e1]
          rintro _ rfl _ rfl
          refine ⟨S.length + 1, ?_⟩
          refine sp_sort_inner (T := T) (S := S) (w0 := w') hm (by omega) rfl hs (fun y hy => hmem y (List.mem_append.mpr (Or.inl hy))) (hmem x (by simp)) (fun w2 S1 S2 k1 k2 k3 k4 k5 => ?_) S.length S [] w' rfl (fr_refl _ _ _ _) (List.append_nil _) (fun y hy => absurd hy (by simp)) (fun k hk hk2 => ?_) _ (by omega)
          · have hlen : (S1 ++ x :: S2).length = S.length + 1 := by rw [← k2]; simp; omega
            have := ih (S1 ++ x :: S2) T w2 (by omega) (fr_trans hf k1) ?_ ?_ k5 n (by omega)
            · rw [hlen] at this
              exact this
            · refine (perm_ins S1 S2 T x).trans ?_
              rw [k2]
              exact hp
            · rw [← k2] at hs
              obtain ⟨p1, p2, p3⟩ := List.pairwise_append.mp hs
              refine List.pairwise_append.mpr ⟨p1, List.pairwise_cons.mpr ⟨fun y hy => Nat.le_of_lt (k3 y hy), p2⟩, fun a ha b hb => ?_⟩
              rcases List.mem_cons.mp hb with q | q
              · rw [q]; exact k4 a ha
              · exact p3 a ha b q
          · rw [hc k (by simp; omega)]
            exact congrArg lN (getD_mid_ne hk2)
  unfold cf_Factors_sortParts
  cases ls with
  | nil =>
    refine ⟨1, ?_⟩
    show cf_Factors_sortParts_B2 _ _ _ _ _ _
    unfold cf_Factors_sortParts_B2
    exact ⟨fun _ => h w [] (fr_refl _ _ _ _) (List.Perm.refl _) List.Pairwise.nil hc, fun z => absurd (show nI 0 ≤ (1 : Int32) by decide) z⟩
  | cons x T => exact ⟨32, key 31 [x] T w (by simp at hm; omega) (fr_refl _ _ _ _) (List.Perm.refl _) (List.pairwise_singleton _ _) hc 32 (by omega)⟩
