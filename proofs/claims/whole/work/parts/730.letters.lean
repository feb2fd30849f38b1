-- texts: letter and spell
def txtNum (v : Nat) : List Nat := if v < 10 then [48 + v] else [48 + v / 10, 48 + v % 10]
def txtPow (i : Nat) : List Nat := if i = 0 then [49] else if i = 1 then [120] else 120 :: 94 :: txtNum i
def tf (a n : Nat) : Nat → List Nat
  | 0 => []
  | j + 1 => (if a.testBit j then (if j < n then [43] else []) ++ txtPow j else []) ++ tf a n j
def txtPoly (a : Nat) : List Nat := if a = 0 then [48] else tf a (dg a) (dg a + 1)
def txtFac : List (Nat × Nat) → List Nat
  | [] => []
  | b :: l => (40 :: txtPoly b.1 ++ 41 :: (if 1 < b.2 then 94 :: txtNum b.2 else [])) ++ txtFac l
theorem txtNum_len (v : Nat) : (txtNum v).length ≤ 2 := by
  unfold txtNum
  split <;> simp
theorem txtPow_len (i : Nat) : (txtPow i).length ≤ 4 ∧ (i < 2 → (txtPow i).length ≤ 1) := by
  unfold txtPow
  have := txtNum_len i
  split
  · simp
  · split
    · simp
    · refine ⟨by simp; omega, fun z => absurd z (by omega)⟩
theorem tf_len (a n : Nat) : ∀ j, (tf a n j).length ≤ 5 * j ∧ (j ≤ 2 → (tf a n j).length ≤ 2 * j) ∧ (2 ≤ j → (tf a n j).length + 6 ≤ 5 * j)
  | 0 => ⟨Nat.le_refl _, fun _ => Nat.le_refl _, fun z => absurd z (by omega)⟩
  | j + 1 => by
    obtain ⟨h1, h2, h3⟩ := tf_len a n j
    have h4 := txtPow_len j
    have e : (tf a n (j + 1)).length = (if a.testBit j then (if j < n then [43] else []) ++ txtPow j else []).length + (tf a n j).length := List.length_append
    have h5 : (if a.testBit j then (if j < n then [43] else []) ++ txtPow j else []).length ≤ 1 + (txtPow j).length := by
      split
      · rw [List.length_append]
        have : (if j < n then [43] else [] : List Nat).length ≤ 1 := by split <;> simp
        omega
      · simp
    rw [e]
    refine ⟨by omega, fun z => ?_, fun z => ?_⟩
    · have := h4.2 (by omega)
      have := h2 (by omega)
      omega
    · by_cases c : j < 2
      · have := h4.2 c
        have := h2 (by omega)
        omega
      · have := h3 (by omega)
        omega
theorem txtPoly_len {a : Nat} (ha : a < 2 ^ 32) : (txtPoly a).length ≤ 160 ∧ (2 ≤ a → (txtPoly a).length ≤ 5 * dg a) := by
  unfold txtPoly
  by_cases z : a = 0
  · rw [if_pos z]
    exact ⟨by simp, fun y => absurd y (by omega)⟩
  · rw [if_neg z]
    have hd := (dg_lt z).mpr ha
    obtain ⟨h1, h2, h3⟩ := tf_len a (dg a) (dg a + 1)
    refine ⟨by omega, fun y => ?_⟩
    have := dg_pos y
    have := h3 (by omega)
    omega
theorem txtFac_len {a : Nat} {bs : List (Nat × Nat)} (ha : a < 2 ^ 32) (hB : okB a bs) : (txtFac bs).length ≤ 310 := by
  have h1 : ∀ l : List (Nat × Nat), (∀ b, b ∈ l → b.1 < 2 ^ 32 ∧ irr b.1) → (txtFac l).length ≤ 5 * l.length + 5 * dsum l := by
    intro l
    induction l with
    | nil => exact fun _ => Nat.le_refl _
    | cons b l ih =>
      intro h
      have hb := h b List.mem_cons_self
      have ih := ih (fun x hx => h x (List.mem_cons_of_mem _ hx))
      have h2 := (txtPoly_len hb.1).2 hb.2.1
      have h3 : (if 1 < b.2 then 94 :: txtNum b.2 else []).length ≤ 3 := by
        have := txtNum_len b.2
        split
        · rw [List.length_cons]; omega
        · simp
      have e : (txtFac (b :: l)).length = (40 :: txtPoly b.1 ++ 41 :: (if 1 < b.2 then 94 :: txtNum b.2 else [])).length + (txtFac l).length := List.length_append
      rw [e, List.length_append, List.length_cons, List.length_cons, List.length_cons]
      show _ ≤ 5 * (l.length + 1) + 5 * (dg b.1 + dsum l)
      omega
  have h2 := h1 bs (fun b hb => ⟨(okB_mem ha hB hb).1, (hB.2.2 b hb).1⟩)
  have h3 := (dsum_le hB.2.2).1
  obtain ⟨h4, h5⟩ := okB_len ha hB
  have h6 : dg (pprod (rep bs)) ≤ 31 := by
    by_cases z : a = 0
    · rw [hB.1.2.2.1 (by omega)]; decide
    · rw [hB.1.2.2.2 z]
      have := (dg_lt z).mpr ha
      omega
  omega
-- the class's bytes
def isL (w : Wd) (l : List Nat) : Prop := w.1 28 1 = nI l.length ∧ ∀ j, j < l.length → w.1 29 j = nI (l.getD j 0)
theorem byte_id : ∀ c, c < 128 → (nI c).toInt8.toInt32.toInt8.toInt32 = nI c := by decide +kernel
theorem sp_wr {w : Wd} {l : List Nat} {c : Nat} {P : Wd → Prop} (hL : isL w l) (hc : c < 128) (hl : l.length < 400) (h : ∀ w', fr [(28, 1)] [29] [] w w' → isL w' (l ++ [c]) → P w') : cf_Letters_write (nI c) w P := by
  unfold cf_Letters_write
  rw [hL.1]
  refine ⟨fun z => absurd ((nI_leI (show 400 < 2 ^ 31 by decide) (by omega)).mp z) (by omega), fun _ => ⟨vp_in_nI (by omega) (by omega), ?_⟩⟩
  rw [nI_clamp (by omega), byte_id c hc]
  rintro _ rfl _ rfl
  have e1 : (wI w 29 l.length (nI c)).1 28 1 = nI l.length := by rw [wI_1, if_neg (by omega)]; exact hL.1
  rw [e1, nI_1]
  refine h _ (fr_wI _ (fr_wI _ (fr_refl _ _ _ _) (by simp)) (by simp)) ⟨?_, fun j hj => ?_⟩
  · rw [wI_1, if_pos ⟨rfl, rfl⟩, List.length_append]; rfl
  · rw [List.length_append] at hj
    have hj : j < l.length + 1 := hj
    rw [wI_1, if_neg (by omega), wI_1]
    by_cases e : j = l.length
    · subst e
      rw [if_pos ⟨rfl, rfl⟩, getD_append_last]
    · rw [if_neg (fun z => e z.2), getD_append_left' (by omega)]
      exact hL.2 j (by omega)
theorem c48 (v : Nat) : (48 : Int32) + nI v = nI (48 + v) := nI_add 48 v
theorem sp_wrNum {w : Wd} {l : List Nat} {v : Nat} {P : Wd → Prop} (hL : isL w l) (hv : v < 80) (hl : l.length + (txtNum v).length ≤ 400) (h : ∀ w', fr [(28, 1)] [29] [] w w' → isL w' (l ++ txtNum v) → P w') : cf_Letters_writeNumber (nI v) w P := by
  unfold cf_Letters_writeNumber
  rw [show (10 : Int32) = nI 10 from rfl, nI_ltI (by omega) (by omega), nI_rem (by omega) (by omega) (by omega), pk_div (by omega) (by omega) (by omega), c48, c48]
  unfold txtNum at hl h
  refine ⟨fun z => ?_, fun z => ?_⟩
  · rw [if_pos z] at hl h
    have hl : l.length + 1 ≤ 400 := hl
    rw [Nat.mod_eq_of_lt z]
    exact sp_wr hL (by omega) (by omega) h
  · rw [if_neg z] at hl h
    have hl : l.length + 2 ≤ 400 := hl
    refine sp_wr hL (by omega) (by omega) (fun w1 f1 l1 => sp_wr l1 (by omega) (by rw [List.length_append]; show l.length + 1 < 400; omega) (fun w2 f2 l2 => h w2 (fr_trans f1 f2) ?_))
    rw [List.append_assoc] at l2
    exact l2
theorem sp_wrPow {w : Wd} {l : List Nat} {i : Nat} {P : Wd → Prop} (hL : isL w l) (hi : i < 32) (hl : l.length + (txtPow i).length ≤ 400) (h : ∀ w', fr [(28, 1)] [29] [] w w' → isL w' (l ++ txtPow i) → P w') : cf_Letters_writePowerOfX (nI i) w P := by
  unfold cf_Letters_writePowerOfX
  rw [nI_eq0 (by omega), show (1 : Int32) = nI 1 from rfl, nI_leI (by omega) (by omega)]
  unfold txtPow at hl h
  refine ⟨fun z => ?_, fun z => ?_⟩
  · rw [if_neg z] at hl h
    have hl1 : l.length < 400 := by
      split at hl
      · have hl : l.length + 1 ≤ 400 := hl
        omega
      · rw [List.length_cons] at hl
        omega
    refine sp_wr (c := 120) hL (by omega) hl1 (fun w1 f1 l1 => ⟨fun y => ?_, fun y => ?_⟩)
    · rw [if_pos (by omega)] at h
      exact h w1 f1 l1
    · rw [if_neg (by omega)] at hl h
      rw [List.length_cons, List.length_cons] at hl
      refine sp_wr (c := 94) l1 (by omega) (by rw [List.length_append]; show l.length + 1 < 400; omega) (fun w2 f2 l2 => sp_wrNum l2 (by omega) (by rw [List.length_append, List.length_append]; show l.length + 1 + 1 + _ ≤ 400; omega) (fun w3 f3 l3 => h w3 (fr_trans (fr_trans f1 f2) f3) ?_))
      rw [List.append_assoc, List.append_assoc] at l3
      exact l3
  · rw [if_pos z] at hl h
    exact sp_wr (c := 49) hL (by omega) (by have hl : l.length + 1 ≤ 400 := hl; omega) h
theorem sp_wrPoly {w0 : Wd} {l : List Nat} {a : Nat} {P : Wd → Prop} (hL : isL w0 l) (ha : a < 2 ^ 32) (hl : l.length + (txtPoly a).length ≤ 400) (h : ∀ w', fr [(28, 1)] [29] [] w0 w' → isL w' (l ++ txtPoly a) → P w') : cf_Letters_writePoly (lN a) w0 P := by
  unfold cf_Letters_writePoly
  refine sp_degree (by omega) ?_
  by_cases z : a = 0
  · subst z
    have ht : txtPoly 0 = [48] := rfl
    rw [ht] at hl h
    refine ⟨fun y => absurd y (by decide), fun _ => sp_wr (c := 48) hL (by omega) (by have hl : l.length + 1 ≤ 400 := hl; omega) (fun w1 f1 l1 => ⟨1, ?_⟩)⟩
    show cf_Letters_writePoly_B18 _ _ _ _ _ _
    unfold cf_Letters_writePoly_B18
    exact ⟨fun _ => h w1 f1 l1, fun y => absurd (show dI 0 < (0 : Int32) by decide) y⟩
  · have ht : txtPoly a = tf a (dg a) (dg a + 1) := if_neg z
    rw [ht] at hl h
    have hd := (dg_lt z).mpr ha
    rw [dI_pos z]
    have key : ∀ j l' w, fr [(28, 1)] [29] [] w0 w → isL w l' → l' ++ tf a (dg a) j = l ++ tf a (dg a) (dg a + 1) → j ≤ dg a + 1 → ∀ n, j < n → cf_Letters_writePoly_L18 P n (lN a) (nI (dg a)) (nI j - 1) w := by
      intro j
      induction j with
      | zero =>
        intro l' w hf hL' he hj n hn
        obtain ⟨n, rfl⟩ : ∃ m, n = m + 1 := ⟨n - 1, by omega⟩
        show cf_Letters_writePoly_B18 _ _ _ _ _ _
        unfold cf_Letters_writePoly_B18
        have he : l' = l ++ tf a (dg a) (dg a + 1) := by rw [← he]; exact (List.append_nil l').symm
        exact ⟨fun _ => h w hf (he ▸ hL'), fun y => absurd nIm_neg y⟩
      | succ j ih =>
        intro l' w hf hL' he hj n hn
        obtain ⟨n, rfl⟩ : ∃ m, n = m + 1 := ⟨n - 1, by omega⟩
        show cf_Letters_writePoly_B18 _ _ _ _ _ _
        unfold cf_Letters_writePoly_B18
        have htj : tf a (dg a) (j + 1) = (if a.testBit j then (if j < dg a then [43] else []) ++ txtPow j else []) ++ tf a (dg a) j := rfl
        have hlen : l'.length + (tf a (dg a) (j + 1)).length ≤ 400 := by
          have := congrArg List.length he
          rw [List.length_append, List.length_append] at this
          omega
        refine ⟨fun y => absurd y (nIm_nn (by omega)), fun _ => ?_⟩
        rw [nI_pred, bit_lN (by omega) (by omega), m1_eq, nI_leI (by omega) (by omega)]
        refine ⟨fun y => ?_, fun y => ?_⟩
        · have hb : a.testBit j = false := by
            cases hb : a.testBit j
            · rfl
            · rw [hb] at y; exact absurd y (by decide)
          rintro _ rfl
          rw [htj, if_neg (by rw [hb]; decide)] at he
          exact ih l' w hf hL' he (by omega) n (by omega)
        · have hb : a.testBit j = true := by
            cases hb : a.testBit j
            · rw [hb] at y; exact absurd rfl y
            · rfl
          rw [htj, if_pos hb] at he hlen
          rw [List.length_append, List.length_append] at hlen
          refine ⟨fun q => ?_, fun q => ?_⟩
          · rw [if_neg (by omega), List.nil_append] at he
            refine sp_wrPow hL' (by omega) (by omega) (fun w1 f1 l1 => ?_)
            rintro _ rfl
            exact ih _ w1 (fr_trans hf f1) l1 (by rw [List.append_assoc]; exact he) (by omega) n (by omega)
          · rw [if_pos (by omega)] at he hlen
            have hlen : l'.length + (1 + (txtPow j).length + (tf a (dg a) j).length) ≤ 400 := hlen
            refine sp_wr (c := 43) hL' (by omega) (by omega) (fun w1 f1 l1 => sp_wrPow l1 (by omega) (by rw [List.length_append]; show l'.length + 1 + _ ≤ 400; omega) (fun w2 f2 l2 => ?_))
            rintro _ rfl
            refine ih _ w2 (fr_trans (fr_trans hf f1) f2) l2 ?_ (by omega) n (by omega)
            rw [List.append_assoc, List.append_assoc, ← he, List.append_assoc]
    have := key (dg a + 1) l w0 (fr_refl _ _ _ _) hL rfl (Nat.le_refl _) (dg a + 2) (by omega)
    rw [nI_pred] at this
    exact ⟨fun _ => ⟨_, this⟩, fun y => absurd (show (0 : Int32) ≤ nI (dg a) from (nI_leI (a := 0) (by decide) (by omega)).mpr (Nat.zero_le _)) y⟩
theorem sp_wrFactors {w0 : Wd} {bs : List (Nat × Nat)} {a : Nat} {P : Wd → Prop} (hL : isL w0 []) (ha : a < 2 ^ 32) (hB : okB a bs) (hA : isA 10 w0 bs) (h : ∀ w', fr [(28, 1)] [29] [] w0 w' → isL w' (txtFac bs) → P w') : cf_Letters_writeFactors 10 w0 P := by
  obtain ⟨hl1, hl2⟩ := okB_len ha hB
  have hlen := txtFac_len ha hB
  have key : ∀ m i l w, bs.length ≤ i + m → i ≤ bs.length → fr [(28, 1)] [29] [] w0 w → isL w l → l ++ txtFac (bs.drop i) = txtFac bs → ∀ n, m < n → cf_Letters_writeFactors_L2 10 P n (nI i) w := by
    intro m
    have stop : ∀ l w, fr [(28, 1)] [29] [] w0 w → isL w l → l ++ txtFac (bs.drop bs.length) = txtFac bs → ∀ n, 0 < n → cf_Letters_writeFactors_L2 10 P n (nI bs.length) w := by
      intro l w hf hl he n hn
      obtain ⟨n, rfl⟩ : ∃ m, n = m + 1 := ⟨n - 1, by omega⟩
      show cf_Letters_writeFactors_B2 10 _ _ _ _
      unfold cf_Letters_writeFactors_B2 cf_Factors_unlike
      have hAw := isA_fr hA hf (by simp) (by simp) (by simp)
      show (w.1 10 3 ≤ nI bs.length → _) ∧ (¬ w.1 10 3 ≤ nI bs.length → _)
      rw [hAw.1, nI_leI (by omega) (by omega)]
      rw [List.drop_eq_nil_of_le (Nat.le_refl _)] at he
      have he : l = txtFac bs := by rw [← he]; exact (List.append_nil l).symm
      exact ⟨fun _ => h w hf (he ▸ hl), fun z => absurd (Nat.le_refl _) z⟩
    induction m with
    | zero =>
      intro i l w hi hil hf hl he n hn
      have : i = bs.length := by omega
      subst this
      exact stop l w hf hl he n (by omega)
    | succ m ih =>
      intro i l w hi hil hf hl he n hn
      by_cases hie : i = bs.length
      · subst hie; exact stop l w hf hl he n (by omega)
      obtain ⟨n, rfl⟩ : ∃ m, n = m + 1 := ⟨n - 1, by omega⟩
      show cf_Letters_writeFactors_B2 10 _ _ _ _
      unfold cf_Letters_writeFactors_B2 cf_Factors_unlike
      have hil2 : i < bs.length := by omega
      have hAw := isA_fr hA hf (by simp) (by simp) (by simp)
      have hb := okB_mem ha hB (getDp_mem hil2)
      have hdrop : bs.drop i = bs.getD i (0, 0) :: bs.drop (i + 1) := by rw [getDp_lt hil2, List.drop_eq_getElem_cons hil2]
      rw [hdrop] at he
      generalize hbb : bs.getD i (0, 0) = b at he hb
      have het : txtFac (b :: bs.drop (i + 1)) = (40 :: txtPoly b.1 ++ 41 :: (if 1 < b.2 then 94 :: txtNum b.2 else [])) ++ txtFac (bs.drop (i + 1)) := rfl
      rw [het] at he
      have htot := congrArg List.length he
      rw [List.length_append, List.length_append, List.length_append, List.length_cons, List.length_cons] at htot
      show (w.1 10 3 ≤ nI i → _) ∧ (¬ w.1 10 3 ≤ nI i → _)
      rw [hAw.1, nI_leI (by omega) (by omega)]
      refine ⟨fun z => absurd z (by omega), fun _ => sp_wr (c := 40) hl (by omega) (by omega) (fun w1 f1 l1 => ?_)⟩
      have hA1 := isA_fr hA (fr_trans hf f1) (by simp) (by simp) (by simp)
      refine sp_base hA1 (by omega) hil2 ?_
      rw [hbb]
      refine sp_wrPoly l1 hb.1 (by rw [List.length_append]; show l.length + 1 + _ ≤ 400; omega) (fun w2 f2 l2 => sp_wr (c := 41) l2 (by omega) (by rw [List.length_append, List.length_append]; show l.length + 1 + _ < 400; omega) (fun w3 f3 l3 => ?_))
      have f03 := fr_trans (fr_trans (fr_trans hf f1) f2) f3
      have hA3 := isA_fr hA f03 (by simp) (by simp) (by simp)
      refine sp_often hA3 (by omega) hil2 ?_
      rw [hbb, show (1 : Int32) = nI 1 from rfl, nI_leI (by omega) (by omega)]
      refine ⟨fun y => ?_, fun y => ?_⟩
      · rw [if_neg (by omega)] at he
        rintro _ rfl
        rw [nI_add]
        refine ih (i + 1) _ w3 (by omega) (by omega) f03 l3 ?_ n (by omega)
        rw [← he]
        simp
      · rw [if_pos (by omega)] at he htot
        rw [List.length_cons] at htot
        refine sp_wr (c := 94) l3 (by omega) (by rw [List.length_append, List.length_append, List.length_append]; show l.length + 1 + _ + 1 < 400; omega) (fun w4 f4 l4 => ?_)
        have f04 := fr_trans f03 f4
        have hA4 := isA_fr hA f04 (by simp) (by simp) (by simp)
        refine sp_often hA4 (by omega) hil2 ?_
        rw [hbb]
        refine sp_wrNum l4 (by omega) (by rw [List.length_append, List.length_append, List.length_append, List.length_append]; show l.length + 1 + _ + 1 + 1 + _ ≤ 400; omega) (fun w5 f5 l5 => ?_)
        rintro _ rfl
        rw [nI_add]
        refine ih (i + 1) _ w5 (by omega) (by omega) (fr_trans f04 f5) l5 ?_ n (by omega)
        rw [← he]
        simp
  unfold cf_Letters_writeFactors
  exact ⟨bs.length + 1, key bs.length 0 [] w0 (by omega) (by omega) (fr_refl _ _ _ _) hL rfl _ (by omega)⟩
-- the model's bytes
def isM (w : Wd) (k : Int32) (l : List Nat) : Prop := w.1 30 17 = nI l.length ∧ w.1 30 18 = k ∧ (∀ j, j < l.length → k = nI j → w.1 30 19 = nI (l.getD j 0)) ∧ ((∀ j, j < l.length → k ≠ nI j) → w.1 30 19 = -2)
theorem mp_begins {k : Int32} {w : Wd} {P : Wd → Prop} (h : ∀ w', fr [(30, 17), (30, 18), (30, 19)] [] [] w w' → isM w' k [] → P w') : cf_M_begins k w P := by
  unfold cf_M_begins
  rintro _ rfl _ rfl _ rfl
  refine h _ (fr_wI _ (fr_wI _ (fr_wI _ (fr_refl _ _ _ _) (by decide)) (by decide)) (by decide)) ⟨?_, ?_, fun j hj => absurd hj (by simp), fun _ => ?_⟩
  · rw [wI_1, if_neg (by decide), wI_1, if_neg (by decide), wI_1, if_pos ⟨rfl, rfl⟩]; rfl
  · rw [wI_1, if_neg (by decide), wI_1, if_pos ⟨rfl, rfl⟩]
  · rw [wI_1, if_pos ⟨rfl, rfl⟩]
theorem mp_sb {k : Int32} {w : Wd} {l : List Nat} {c : Nat} {P : Wd → Prop} (hM : isM w k l) (hl : l.length < 2 ^ 20) (h : ∀ w', fr [(30, 17), (30, 18), (30, 19)] [] [] w w' → isM w' k (l ++ [c]) → P w') : cf_M_spellByte (nI c) w P := by
  obtain ⟨h1, h2, h3, h4⟩ := hM
  unfold cf_M_spellByte
  rw [h1, h2]
  have lenE : (l ++ [c]).length = l.length + 1 := by rw [List.length_append]; rfl
  refine ⟨fun z => ?_, fun z => ?_⟩
  · rintro _ rfl
    rw [nI_1]
    refine h _ (fr_wI _ (fr_refl _ _ _ _) (by decide)) ⟨?_, ?_, fun j hj hk => ?_, fun hk => ?_⟩
    · rw [wI_1, if_pos ⟨rfl, rfl⟩, lenE]
    · rw [wI_1, if_neg (by decide)]; exact h2
    · rw [wI_1, if_neg (by decide)]
      rw [lenE] at hj
      have hne : j ≠ l.length := fun e => z (by rw [hk, e])
      rw [getD_append_left' (by omega)]
      exact h3 j (by omega) hk
    · rw [wI_1, if_neg (by decide)]
      exact h4 (fun j hj => hk j (by rw [lenE]; omega))
  · rintro _ rfl _ rfl
    have e : (wI w 30 19 (nI c)).1 30 17 = nI l.length := by rw [wI_1, if_neg (by decide)]; exact h1
    rw [e, nI_1]
    refine h _ (fr_wI _ (fr_wI _ (fr_refl _ _ _ _) (by decide)) (by decide)) ⟨?_, ?_, fun j hj hk => ?_, fun hk => ?_⟩
    · rw [wI_1, if_pos ⟨rfl, rfl⟩, lenE]
    · rw [wI_1, if_neg (by decide), wI_1, if_neg (by decide)]; exact h2
    · rw [wI_1, if_neg (by decide), wI_1, if_pos ⟨rfl, rfl⟩]
      rw [lenE] at hj
      have : j = l.length := by
        rw [← z] at hk
        exact ((nI_eq (by omega) (by omega)).mp hk).symm
      subst this
      rw [getD_append_last]
    · exact absurd z.symm (hk l.length (by rw [lenE]; omega))
theorem mp_sNum {k : Int32} {w : Wd} {l : List Nat} {v : Nat} {P : Wd → Prop} (hM : isM w k l) (hv : v < 80) (hl : l.length + 10 < 2 ^ 20) (h : ∀ w', fr [(30, 17), (30, 18), (30, 19)] [] [] w w' → isM w' k (l ++ txtNum v) → P w') : cf_M_spellNumber_W (nI v) w P := by
  have one : ∀ n v l w (P : Wd → Prop), isM w k l → v < 10 → l.length + 5 < 2 ^ 20 → (∀ w', fr [(30, 17), (30, 18), (30, 19)] [] [] w w' → isM w' k (l ++ [48 + v]) → P w') → cf_M_spellNumber (n + 1) (nI v) w P := by
    intro n v l w P hM hv hl h
    show cf_M_spellNumber_E _ _ _ _
    unfold cf_M_spellNumber_E
    rw [show (10 : Int32) = nI 10 from rfl, nI_rem (by omega) (by omega) (by omega), c48, Nat.mod_eq_of_lt hv]
    exact ⟨fun _ => mp_sb hM (by omega) h, fun z => absurd ((nI_leI (b := 9) (by omega) (by decide)).mpr (by omega)) z⟩
  unfold txtNum at h
  by_cases c : v < 10
  · rw [if_pos c] at h
    exact ⟨1, by omega, one 0 v l w P hM c (by omega) h⟩
  · rw [if_neg c] at h
    refine ⟨2, by omega, ?_⟩
    show cf_M_spellNumber_E _ _ _ _
    unfold cf_M_spellNumber_E
    rw [show (10 : Int32) = nI 10 from rfl, nI_rem (by omega) (by omega) (by omega), pk_div (by omega) (by omega) (by omega), c48]
    refine ⟨fun z => absurd ((nI_leI (b := 9) (by omega) (by decide)).mp z) (by omega), fun _ => one 0 (v / 10) l w _ hM (by omega) (by omega) (fun w1 f1 m1 => mp_sb m1 (by rw [List.length_append]; show l.length + 1 < _; omega) (fun w2 f2 m2 => h w2 (fr_trans f1 f2) ?_))⟩
    rw [List.append_assoc] at m2
    exact m2
theorem mp_sPow {k : Int32} {w : Wd} {l : List Nat} {i : Nat} {P : Wd → Prop} (hM : isM w k l) (hi : i < 32) (hl : l.length + 20 < 2 ^ 20) (h : ∀ w', fr [(30, 17), (30, 18), (30, 19)] [] [] w w' → isM w' k (l ++ txtPow i) → P w') : cf_M_spellPower (nI i) w P := by
  unfold cf_M_spellPower
  rw [nI_eq0 (by omega), nI_eq1 (by omega)]
  unfold txtPow at h
  refine ⟨fun z => mp_sb (c := 120) hM (by omega) (fun w1 f1 m1 => ⟨fun y => ?_, fun y => ?_⟩), fun z => mp_sb (c := 49) hM (by omega) (fun w1 f1 m1 => ?_)⟩
  · rw [if_neg z, if_neg y] at h
    refine mp_sb (c := 94) m1 (by rw [List.length_append]; show l.length + 1 < _; omega) (fun w2 f2 m2 => mp_sNum m2 (by omega) (by rw [List.length_append, List.length_append]; show l.length + 1 + 1 + 10 < _; omega) (fun w3 f3 m3 => h w3 (fr_trans (fr_trans f1 f2) f3) ?_))
    rw [List.append_assoc, List.append_assoc] at m3
    exact m3
  · rw [if_neg z, if_pos y] at h
    exact h w1 f1 m1
  · rw [if_pos z] at h
    exact h w1 f1 m1
theorem mp_sPoly {k : Int32} {w0 : Wd} {l : List Nat} {a : Nat} {P : Wd → Prop} (hM : isM w0 k l) (ha : a < 2 ^ 32) (hl : l.length + 1000 < 2 ^ 20) (h : ∀ w', fr [(30, 17), (30, 18), (30, 19)] [] [] w0 w' → isM w' k (l ++ txtPoly a) → P w') : cf_M_spellPoly (lN a) w0 P := by
  unfold cf_M_spellPoly
  rw [lN_eq0 (by omega)]
  refine ⟨fun z => mp_degree (by omega) ?_, fun z => ?_⟩
  · have ht : txtPoly a = tf a (dg a) (dg a + 1) := if_neg z
    have htl := (txtPoly_len ha).1
    rw [ht] at h htl
    have hd := (dg_lt z).mpr ha
    rw [dI_pos z]
    have key : ∀ j l' w, fr [(30, 17), (30, 18), (30, 19)] [] [] w0 w → isM w k l' → l' ++ tf a (dg a) j = l ++ tf a (dg a) (dg a + 1) → j ≤ dg a + 1 → ∀ n, j < n → cf_M_spellPoly_L17 P n (lN a) (nI j - 1) w := by
      intro j
      induction j with
      | zero =>
        intro l' w hf hM' he hj n hn
        obtain ⟨n, rfl⟩ : ∃ m, n = m + 1 := ⟨n - 1, by omega⟩
        show cf_M_spellPoly_B17 _ _ _ _ _
        unfold cf_M_spellPoly_B17
        have he : l' = l ++ tf a (dg a) (dg a + 1) := by rw [← he]; exact (List.append_nil l').symm
        exact ⟨fun _ => h w hf (he ▸ hM'), fun y => absurd nIm_neg y⟩
      | succ j ih =>
        intro l' w hf hM' he hj n hn
        obtain ⟨n, rfl⟩ : ∃ m, n = m + 1 := ⟨n - 1, by omega⟩
        show cf_M_spellPoly_B17 _ _ _ _ _
        unfold cf_M_spellPoly_B17
        have htj : tf a (dg a) (j + 1) = (if a.testBit j then (if j < dg a then [43] else []) ++ txtPow j else []) ++ tf a (dg a) j := rfl
        have hlen : l'.length ≤ l.length + 160 := by
          have := congrArg List.length he
          rw [List.length_append, List.length_append] at this
          omega
        refine ⟨fun y => absurd y (nIm_nn (by omega)), fun _ => ?_⟩
        rw [nI_pred, m1_eq]
        refine mp_hasB (by omega) (by omega) (fun hb => ⟨fun _ => mp_degree (by omega) ?_, fun y => absurd y one_ne⟩) (fun hb => ⟨fun y => absurd rfl y, fun _ => ?_⟩)
        · rw [dI_pos z, nI_leI (by omega) (by omega)]
          rw [htj, if_pos hb] at he
          refine ⟨fun q => ?_, fun q => ?_⟩
          · rw [if_neg (by omega), List.nil_append] at he
            refine mp_sPow hM' (by omega) (by omega) (fun w1 f1 m1 => ?_)
            rintro _ rfl
            exact ih _ w1 (fr_trans hf f1) m1 (by rw [List.append_assoc]; exact he) (by omega) n (by omega)
          · rw [if_pos (by omega)] at he
            refine mp_sb (c := 43) hM' (by omega) (fun w1 f1 m1 => mp_sPow m1 (by omega) (by rw [List.length_append]; show l'.length + 1 + 20 < _; omega) (fun w2 f2 m2 => ?_))
            rintro _ rfl
            refine ih _ w2 (fr_trans (fr_trans hf f1) f2) m2 ?_ (by omega) n (by omega)
            rw [List.append_assoc, List.append_assoc, ← he, List.append_assoc]
        · rintro _ rfl
          rw [htj, if_neg (by rw [hb]; decide)] at he
          exact ih l' w hf hM' he (by omega) n (by omega)
    have := key (dg a + 1) l w0 (fr_refl _ _ _ _) hM rfl (Nat.le_refl _) (dg a + 2) (by omega)
    rw [nI_pred] at this
    exact ⟨_, this⟩
  · subst z
    have ht : txtPoly 0 = [48] := rfl
    rw [ht] at h
    refine mp_sb (c := 48) hM (by omega) (fun w1 f1 m1 => mp_degree (by omega) ⟨1, ?_⟩)
    show cf_M_spellPoly_B17 _ _ _ _ _
    unfold cf_M_spellPoly_B17
    exact ⟨fun _ => h w1 f1 m1, fun y => absurd (show dI 0 < (0 : Int32) by decide) y⟩
/-- what both tell of a text -/
def tell (k : Int32) (l : List Nat) (r : Int32) : Prop := (k = -1 → r = nI l.length) ∧ (∀ j, j < l.length → k = nI j → r = nI (l.getD j 0)) ∧ (k ≠ -1 → (∀ j, j < l.length → k ≠ nI j) → r = -2)
theorem neg_not {j : Nat} (hj : j < 2 ^ 31) : (-1 : Int32) ≠ nI j := by
  intro e
  have h5 : (nI j).toInt = (j : Int) := nI_toInt hj
  rw [← e] at h5
  have h6 : (-1 : Int32).toInt = -1 := by decide
  omega
theorem tell_eq {k : Int32} {l : List Nat} {r r' : Int32} (h1 : tell k l r) (h2 : tell k l r') : r = r' := by
  by_cases c : k = -1
  · rw [h1.1 c, h2.1 c]
  · by_cases c2 : ∃ j, j < l.length ∧ k = nI j
    · obtain ⟨j, hj, e⟩ := c2
      rw [h1.2.1 j hj e, h2.2.1 j hj e]
    · have : ∀ j, j < l.length → k ≠ nI j := fun j hj e => c2 ⟨j, hj, e⟩
      rw [h1.2.2 c this, h2.2.2 c this]
theorem sp_letterAt {k : Int32} {w : Wd} {l : List Nat} {P : Int32 → Prop} (hL : isL w l) (hk : -1 ≤ k.toInt) (hl : l.length ≤ 400) (h : ∀ r, tell k l r → P r) : cf_T_letterAt k w P := by
  unfold cf_T_letterAt cf_Letters_size
  show (¬ k = -1 → (w.1 28 1 ≤ k → P (-2)) ∧ (¬ w.1 28 1 ≤ k → cf_Letters_byteAt k w (fun r2 => P r2))) ∧ (k = -1 → P (w.1 28 1))
  rw [hL.1]
  refine ⟨fun z => ?_, fun z => h _ ⟨fun _ => rfl, fun j hj e => ?_, fun y => absurd z y⟩⟩
  · have hne : k.toInt ≠ -1 := fun y => z (Int32.toInt_inj.mp (by rw [y]; decide))
    obtain ⟨j, hj, rfl, ej⟩ := nat_of (a := k) (by omega)
    rw [nI_leI (by omega) hj]
    refine ⟨fun y => h _ ⟨fun x => absurd x z, fun i hi e => ?_, fun _ _ => rfl⟩, fun y => ?_⟩
    · have := (nI_eq hj (by omega)).mp e
      omega
    · unfold cf_Letters_byteAt
      rw [hL.1, nI_leI (by omega) hj]
      refine ⟨fun x => absurd x (nI_pos hj), fun _ => ⟨fun x => absurd x y, fun _ => ⟨fun x => absurd ((nI_leI (show 400 < 2 ^ 31 by decide) hj).mp x) (by omega), fun _ => ⟨vp_in_nI (by omega) (by omega), ?_⟩⟩⟩⟩
      rw [nI_clamp hj, hL.2 j (by omega)]
      refine h _ ⟨fun x => absurd x z, fun i hi e => ?_, fun _ x => absurd rfl (x j (by omega))⟩
      have := (nI_eq hj (by omega)).mp e
      rw [this]
  · exact absurd (z.symm.trans e) (neg_not (by omega))
theorem mp_told {k : Int32} {w : Wd} {l : List Nat} {P : Int32 → Prop} (hM : isM w k l) (hl : l.length < 2 ^ 20) (h : ∀ r, tell k l r → P r) : cf_M_told k w P := by
  obtain ⟨h1, h2, h3, h4⟩ := hM
  unfold cf_M_told
  refine ⟨fun z => h _ ⟨fun x => absurd x z, fun j hj e => h3 j hj e, fun _ x => h4 x⟩, fun z => ?_⟩
  rw [h1]
  exact h _ ⟨fun _ => rfl, fun j hj e => absurd (z.symm.trans e) (neg_not (by omega)), fun y => absurd z y⟩
theorem core_L {w w' : Wd} {now : Nat → Int64} {u : Nat} {past : Nat → Nat → Int64} {kb : Nat → Bool} {shelf : Nat → Nat → Int64} (hc : core w now u past kb shelf) (h : fr [(28, 1)] [29] [] w w') : core w' now u past kb shelf :=
  core_kp hc (kp_fr h (by decide) (fun k hk i => by rw [List.mem_singleton] at hk; subst hk; rfl) (fun k hk => absurd hk (by simp))) (cache_kc (kc_fr h (by decide) (by decide) (by decide)) (core_cache hc))
theorem kpkc_M {w w' : Wd} (h : fr [(30, 17), (30, 18), (30, 19)] [] [] w w') : kp w w' ∧ kc w w' :=
  ⟨kp_fr h (by decide) (fun k hk => absurd hk (by simp)) (fun k hk => absurd hk (by simp)), kc_fr h (by decide) (by decide) (by decide)⟩
theorem core_M {w w' : Wd} {now : Nat → Int64} {u : Nat} {past : Nat → Nat → Int64} {kb : Nat → Bool} {shelf : Nat → Nat → Int64} (hc : core w now u past kb shelf) (h : fr [(30, 17), (30, 18), (30, 19)] [] [] w w') : core w' now u past kb shelf :=
  core_kp hc (kpkc_M h).1 (cache_kc (kpkc_M h).2 (core_cache hc))
theorem sp_restart {w : Wd} {P : Wd → Prop} (h : ∀ w', fr [(28, 1)] [29] [] w w' → isL w' [] → P w') : cf_Letters_restart w P := by
  unfold cf_Letters_restart
  rintro _ rfl
  exact h _ (fr_wI _ (fr_refl _ _ _ _) (by simp)) ⟨by rw [wI_1, if_pos ⟨rfl, rfl⟩]; rfl, fun j hj => absurd hj (by simp)⟩
theorem op_letter {w : Wd} (hI : Inv w) (a0 : Int32) (a1 : Int32) : same1 (cf_T_letter a0 a1 w) (cf_M_letter a0 a1) := by
  intro G h
  obtain ⟨now, u, past, kb, shelf, hc⟩ := hI
  have hI := core_Inv hc
  unfold cf_T_letter
  rw [k_le (-1) (n := -1) (by decide)]
  refine sp_isPlace (fun ha => ⟨fun z => absurd z one_ne', fun _ => ⟨fun c1 => ?_, fun c1 => both_stay hI h (fun F hF => ?_)⟩⟩) (fun hno => ⟨fun _ => both_stay hI h (fun F hF => ?_), fun z => absurd rfl z⟩)
  · obtain ⟨k, hk, rfl⟩ := ha
    obtain ⟨a, ha, e0, e1, e2⟩ := core_poly hc hk
    have htl := (txtPoly_len ha).1
    refine sp_restart (fun w1 f1 l1 => sp_polyAt hk ?_)
    have hc1 := core_L hc f1
    rw [(core_poly' hc1 hk e0).1]
    refine sp_wrPoly l1 ha (by show 0 + _ ≤ 400; omega) (fun w2 f2 l2 => sp_letterAt l2 c1 (by show (txtPoly a).length ≤ 400; omega) (fun r hr => h _ _ (fun F hF => ?_)))
    have hc2 := core_L hc1 f2
    unfold cf_M_letter
    rw [k_le (-1) (n := -1) (by decide)]
    refine mp_isPlace (fun _ => ⟨fun z => absurd z one_ne', fun _ => ⟨fun _ => mp_begins (fun w3 f3 m3 => ⟨vp_in_nI (by omega) (by omega), ?_⟩), fun z => absurd c1 z⟩⟩) (fun z => absurd ⟨k, hk, rfl⟩ z)
    have hc3 := core_M hc2 f3
    rw [nI_clamp (by omega), (core_poly' hc3 hk e0).2]
    refine mp_sPoly m3 ha (by show 0 + 1000 < _; omega) (fun w4 f4 m4 => mp_told m4 (by show (txtPoly a).length < _; omega) (fun r' hr' => ?_))
    rw [tell_eq hr' hr]
    exact hF w4 (core_Inv (core_M hc3 f4))
  · unfold cf_M_letter
    rw [k_le (-1) (n := -1) (by decide)]
    exact mp_isPlace (fun _ => ⟨fun z => absurd z one_ne', fun _ => ⟨fun z => absurd z c1, fun _ => hF⟩⟩) (fun z => absurd ha z)
  · unfold cf_M_letter
    exact mp_isPlace (fun z => absurd z hno) (fun _ => ⟨fun _ => hF, fun z => absurd rfl z⟩)
