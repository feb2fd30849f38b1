-- divisor: the class's row
def isR (w : Wd) (L : List Nat) : Prop := w.1 26 1 = nI L.length ∧ ∀ j, j < L.length → w.2 27 j = lN (L.getD j 0)
theorem sp_append {w : Wd} {L : List Nat} {c : Nat} {P : Wd → Prop} (hR : isR w L) (hl : L.length < 2880) (h : ∀ w', fr [(26, 1)] [] [27] w w' → isR w' (L ++ [c]) → P w') : cf_Rows_append (lN c) w P := by
  unfold cf_Rows_append
  rw [hR.1, show (2880 : Int32) = nI 2880 from rfl, nI_leI (by omega) (by omega)]
  refine ⟨fun z => absurd z (by omega), fun _ => ⟨vp_in_nI (by omega) (by omega), ?_⟩⟩
  rw [nI_clamp (by omega)]
  rintro _ rfl _ rfl
  rw [wL_1, hR.1, nI_1]
  refine h _ (fr_wI _ (fr_wL _ (fr_refl _ _ _ _) (by simp)) (by simp)) ⟨?_, fun j hj => ?_⟩
  · rw [wI_1, if_pos ⟨rfl, rfl⟩, List.length_append]; rfl
  · rw [List.length_append] at hj
    have hj : j < L.length + 1 := hj
    rw [wI_2, wL_2]
    by_cases e : j = L.length
    · subst e
      rw [if_pos ⟨rfl, rfl⟩, getD_append_last]
    · rw [if_neg (fun z => e z.2), getD_append_left' (by omega)]
      exact hR.2 j (by omega)
theorem take_get' {l : List Nat} {m j : Nat} (h : j < m) : (l.take m).getD j 0 = l.getD j 0 := by
  rw [List.getD_eq_getElem?_getD, List.getD_eq_getElem?_getD, List.getElem?_take_of_lt h]
theorem S_take (f : Nat → Nat) {l : List Nat} {j : Nat} (h : j < l.length) : S f (l.take (j + 1)) = S f (l.take j) + f (l.getD j 0) := by
  rw [take_snoc h, S_append, S_one]
theorem sp_gather {w0 : Wd} {bs : List (Nat × Nat)} {a : Nat} {P : Int32 → Wd → Prop} (ha : a < 2 ^ 32) (hB : okB a bs) (hA : isA 10 w0 bs) (h : ∀ w', fr [(26, 1)] [] [27] w0 w' → isR w' (cl bs [1]) → P (nI (cl bs [1]).length) w') : cf_Rows_gatherDivisors 10 w0 P := by
  obtain ⟨hl1, hl2⟩ := okB_len ha hB
  have hnd := ndv_le ha hB
  have key : ∀ m i D w, bs.length ≤ i + m → i ≤ bs.length → fr [(26, 1)] [] [27] w0 w → isR w D → 1 ≤ D.length → D.length * ndv (bs.drop i) ≤ 2880 → cl (bs.drop i) D = cl bs [1] → ∀ n, m < n → cf_Rows_gatherDivisors_L12 10 P n (nI i) w := by
    intro m
    have stop : ∀ D w, fr [(26, 1)] [] [27] w0 w → isR w D → cl (bs.drop bs.length) D = cl bs [1] → ∀ n, 0 < n → cf_Rows_gatherDivisors_L12 10 P n (nI bs.length) w := by
      intro D w hf hR he n hn
      obtain ⟨n, rfl⟩ : ∃ m, n = m + 1 := ⟨n - 1, by omega⟩
      show cf_Rows_gatherDivisors_B12 10 _ _ _ _
      unfold cf_Rows_gatherDivisors_B12 cf_Factors_unlike
      have hAw := isA_fr hA hf (by simp) (by simp) (by simp)
      show (w.1 10 3 ≤ nI bs.length → _) ∧ (¬ w.1 10 3 ≤ nI bs.length → _)
      rw [hAw.1, nI_leI (by omega) (by omega)]
      rw [List.drop_eq_nil_of_le (Nat.le_refl _)] at he
      have he : D = cl bs [1] := he
      refine ⟨fun _ => ?_, fun z => absurd (Nat.le_refl _) z⟩
      subst he
      rw [hR.1]
      exact h w hf hR
    induction m with
    | zero =>
      intro i D w hi hil hf hR _ _ he n hn
      have : i = bs.length := by omega
      subst this
      exact stop D w hf hR he n (by omega)
    | succ m ih =>
      intro i D w hi hil hf hR hD1 hD2 he n hn
      by_cases hie : i = bs.length
      · subst hie; exact stop D w hf hR he n (by omega)
      obtain ⟨n, rfl⟩ : ∃ m, n = m + 1 := ⟨n - 1, by omega⟩
      show cf_Rows_gatherDivisors_B12 10 _ _ _ _
      unfold cf_Rows_gatherDivisors_B12 cf_Factors_unlike
      have hil2 : i < bs.length := by omega
      have hAw := isA_fr hA hf (by simp) (by simp) (by simp)
      have hb := okB_mem ha hB (getDp_mem hil2)
      have hdrop : bs.drop i = bs.getD i (0, 0) :: bs.drop (i + 1) := by rw [getDp_lt hil2, List.drop_eq_getElem_cons hil2]
      rw [hdrop] at he hD2
      generalize hbb : bs.getD i (0, 0) = b at he hb hD2
      have he : cl (bs.drop (i + 1)) (rpt D b.1 b.2) = cl bs [1] := he
      have hD2 : D.length * ((b.2 + 1) * ndv (bs.drop (i + 1))) ≤ 2880 := hD2
      rw [← Nat.mul_assoc] at hD2
      have hn1 := ndv_pos (bs.drop (i + 1))
      have hD3 : D.length * (b.2 + 1) ≤ 2880 := Nat.le_trans (Nat.le_mul_of_pos_right _ hn1) hD2
      have hD4 : D.length * (b.2 + 1) = D.length * b.2 + D.length := Nat.mul_succ _ _
      have hrl := rpt_len D b.1 b.2
      show (w.1 10 3 ≤ nI i → _) ∧ (¬ w.1 10 3 ≤ nI i → _)
      rw [hAw.1, nI_leI (by omega) (by omega)]
      refine ⟨fun z => absurd z (by omega), fun _ => ?_⟩
      rw [hR.1]
      rintro _ rfl
      have inn : ∀ m j w', D.length * b.2 ≤ j + m → j ≤ D.length * b.2 → fr [(26, 1)] [] [27] w0 w' → isR w' ((rpt D b.1 b.2).take (D.length + j)) → ∀ n', m < n' → cf_Rows_gatherDivisors_L28 10 (cf_Rows_gatherDivisors_L12 10 P n) P n' (nI i) (nI D.length) (nI j) w' := by
        intro m'
        induction m' with
        | zero =>
          intro j w' hj hj2 hf' hR' n' hn'
          obtain ⟨n', rfl⟩ : ∃ m, n' = m + 1 := ⟨n' - 1, by omega⟩
          show cf_Rows_gatherDivisors_B28 10 _ _ P _ _ _ _
          unfold cf_Rows_gatherDivisors_B28
          have hA' := isA_fr hA hf' (by simp) (by simp) (by simp)
          refine sp_often hA' (by omega) hil2 ?_
          rw [hbb, nI_mul, nI_leI (by omega) (by omega)]
          refine ⟨fun _ => ?_, fun z => absurd (by omega) z⟩
          rintro _ rfl
          rw [nI_1]
          rw [List.take_of_length_le (by omega)] at hR'
          exact ih (i + 1) _ w' (by omega) (by omega) hf' hR' (by omega) (by rw [hrl]; exact hD2) he n (by omega)
        | succ m' ihm =>
          intro j w' hj hj2 hf' hR' n' hn'
          by_cases hje : j = D.length * b.2
          · exact ihm j w' (by omega) hj2 hf' hR' n' (by omega)
          obtain ⟨n', rfl⟩ : ∃ m, n' = m + 1 := ⟨n' - 1, by omega⟩
          show cf_Rows_gatherDivisors_B28 10 _ _ P _ _ _ _
          unfold cf_Rows_gatherDivisors_B28
          have hA' := isA_fr hA hf' (by simp) (by simp) (by simp)
          refine sp_often hA' (by omega) hil2 ?_
          rw [hbb, nI_mul, nI_leI (by omega) (by omega), show (2880 : Int32) = nI 2880 from rfl, nI_leI (by omega) (by omega)]
          refine ⟨fun z => absurd z (by omega), fun _ => ⟨fun z => absurd z (by omega), fun _ => ⟨vp_in_nI (by omega) (by omega), sp_base hA' (by omega) hil2 ?_⟩⟩⟩
          have htl : ((rpt D b.1 b.2).take (D.length + j)).length = D.length + j := by rw [List.length_take]; omega
          rw [hbb, nI_clamp (by omega), hR'.2 j (by omega), take_get' (by omega)]
          refine sp_product (by omega) (sp_append hR' (by omega) (fun w2 f2 R2 => ?_))
          rintro _ rfl
          rw [nI_1]
          have hnx := rpt_next (D := D) (p := b.1) (t := b.2) (j := j) (by omega)
          refine ihm (j + 1) w2 (by omega) (by omega) (fr_trans hf' f2) ?_ n' (by omega)
          rw [← hnx, ← take_snoc (by omega)] at R2
          exact R2
      refine ⟨_, inn (D.length * b.2) 0 w (by omega) (by omega) hf ?_ (D.length * b.2 + 1) (by omega)⟩
      rw [Nat.add_zero, rpt_take]
      exact hR
  unfold cf_Rows_gatherDivisors
  rintro _ rfl
  have R0 : isR (wI w0 26 1 0) [] := ⟨by rw [wI_1, if_pos ⟨rfl, rfl⟩]; rfl, fun j hj => absurd hj (by simp)⟩
  refine sp_append (c := 1) R0 (by simp) (fun w1 f1 R1 => ⟨bs.length + 1, ?_⟩)
  refine key bs.length 0 [1] w1 (by omega) (by omega) (fr_trans (fr_wI _ (fr_refl _ _ _ _) (by simp)) f1) R1 (by simp) ?_ rfl _ (by omega)
  show 1 * ndv bs ≤ 2880
  omega
def shN (s v e : Nat) : Nat := if e >>> s = v then 1 else 0
theorem sp_countAlike {w : Wd} {L : List Nat} {v s : Nat} {P : Int32 → Prop} (hR : isR w L) (hl : L.length ≤ 2880) (hb : ∀ x, x ∈ L → x < 2 ^ 32) (hv : v < 2 ^ 63) (hs : s < 64) (h : P (nI (S (shN s v) L))) : cf_Rows_countAlike (lN v) (nI s) w P := by
  have hS : ∀ j, S (shN s v) (L.take j) ≤ j := by
    intro j
    have h1 : S (shN s v) (L.take j) ≤ S (fun _ => 1) (L.take j) := S_le (fun e _ => by unfold shN; split <;> omega)
    rw [S_len, List.length_take] at h1
    omega
  have key : ∀ m j, L.length ≤ j + m → j ≤ L.length → ∀ n, m < n → cf_Rows_countAlike_L6 w P n (lN v) (nI s) (nI (S (shN s v) (L.take j))) (nI j) := by
    intro m
    induction m with
    | zero =>
      intro j hj hj2 n hn
      obtain ⟨n, rfl⟩ : ∃ m, n = m + 1 := ⟨n - 1, by omega⟩
      show cf_Rows_countAlike_B6 _ _ _ _ _ _ _
      unfold cf_Rows_countAlike_B6
      rw [hR.1, nI_leI (by omega) (by omega), List.take_of_length_le (by omega)]
      exact ⟨fun _ => h, fun z => absurd (by omega) z⟩
    | succ m ih =>
      intro j hj hj2 n hn
      by_cases hje : j = L.length
      · exact ih j (by omega) hj2 n (by omega)
      obtain ⟨n, rfl⟩ : ∃ m, n = m + 1 := ⟨n - 1, by omega⟩
      show cf_Rows_countAlike_B6 _ _ _ _ _ _ _
      unfold cf_Rows_countAlike_B6
      have hjl : j < L.length := by omega
      have hx := hb _ (getD_mem hjl)
      have ih := ih (j + 1) (by omega) (by omega) n (by omega)
      rw [S_take _ hjl] at ih
      have hsh : L.getD j 0 >>> s < 2 ^ 63 := by
        rw [Nat.shiftRight_eq_div_pow]
        exact Nat.lt_of_le_of_lt (Nat.div_le_self _ _) (by omega)
      rw [hR.1, nI_leI (by omega) (by omega), show (2880 : Int32) = nI 2880 from rfl, nI_leI (by omega) (by omega)]
      refine ⟨fun z => absurd z (by omega), fun _ => ⟨fun z => absurd z (by omega), fun _ => ⟨vp_in_nI (by omega) (by omega), ?_⟩⟩⟩
      rw [nI_clamp (by omega), hR.2 j hjl, lshr_lN (by omega) hs, lN_eqI hsh hv]
      refine ⟨fun z => ?_, fun z => ?_⟩
      · rintro _ rfl
        rw [nI_1]
        have e : shN s v (L.getD j 0) = 0 := if_neg z
        rw [e] at ih
        exact ih
      · rintro _ rfl _ rfl
        rw [nI_1, nI_1]
        have e : shN s v (L.getD j 0) = 1 := if_pos z
        rw [e] at ih
        exact ih
  unfold cf_Rows_countAlike
  exact ⟨_, key L.length 0 (by omega) (by omega) (L.length + 1) (by omega)⟩
theorem S_nul (l : List Nat) : S (fun _ => 0) l = 0 := by
  induction l with
  | nil => rfl
  | cons a l ih => show 0 + _ = 0; rw [ih]
def lsN (s v e : Nat) : Nat := if e >>> s < v then 1 else 0
theorem or_one (v : Nat) : v <<< 1 ||| 1 = 2 * v + 1 := by
  have := Nat.two_pow_add_eq_or_of_lt (i := 1) (b := 1) (by decide) v
  rw [Nat.shiftLeft_eq, Nat.mul_comm]
  exact this.symm
theorem sh_succ (e s : Nat) : e >>> (s + 1) = (e >>> s) / 2 := Nat.shiftRight_succ e s
theorem sp_rising {w : Wd} {L : List Nat} {k : Nat} {P : Int64 → Prop} (hR : isR w L) (hl : L.length ≤ 2880) (hb : ∀ x, x ∈ L → x < 2 ^ 32) (hk : k < L.length) (h : ∀ v, S (ltN v) L ≤ k → k < S (leN v) L → P (lN v)) : cf_Rows_risingDivisor (nI k) w P := by
  have key : ∀ j v k', j ≤ 32 → (v + 1) * 2 ^ j ≤ 2 ^ 32 → S (lsN j v) L + k' = k → k' < S (shN j v) L → ∀ n, j < n → cf_Rows_risingDivisor_L8 w P n (nI k') (lN v) (nI j - 1) := by
    intro j
    induction j with
    | zero =>
      intro v k' _ _ h1 h2 n hn
      obtain ⟨n, rfl⟩ : ∃ m, n = m + 1 := ⟨n - 1, by omega⟩
      show cf_Rows_risingDivisor_B8 _ _ _ _ _ _
      unfold cf_Rows_risingDivisor_B8
      refine ⟨fun _ => h v ?_ ?_, fun y => absurd nIm_neg y⟩
      · have : S (ltN v) L = S (lsN 0 v) L := rfl
        omega
      · have : S (leN v) L = S (lsN 0 v) L + S (shN 0 v) L := by
          rw [← S_add]
          refine S_congr (fun e _ => ?_)
          unfold leN lsN shN
          rw [Nat.shiftRight_zero]
          split <;> split <;> split <;> omega
        omega
    | succ j ih =>
      intro v k' hj hv h1 h2 n hn
      obtain ⟨n, rfl⟩ : ∃ m, n = m + 1 := ⟨n - 1, by omega⟩
      show cf_Rows_risingDivisor_B8 _ _ _ _ _ _
      unfold cf_Rows_risingDivisor_B8
      refine ⟨fun y => absurd y (nIm_nn (by omega)), fun _ => ?_⟩
      rintro _ rfl
      have e1 : lshl (lN v) (1 : Int32) = lN (v <<< 1) := lshl_lN v (k := 1) (by omega)
      have e2 : v <<< 1 = 2 * v := by rw [Nat.shiftLeft_eq]; omega
      have hv2 : (v + 1) * 2 ^ (j + 1) = (2 * v + 2) * 2 ^ j := by rw [Nat.pow_succ, Nat.mul_comm (2 ^ j) 2, ← Nat.mul_assoc]; congr 1; omega
      have hv3 : v + 1 ≤ (v + 1) * 2 ^ (j + 1) := Nat.le_mul_of_pos_right _ (Nat.two_pow_pos _)
      have hle : S (shN j (2 * v)) L ≤ L.length := by
        rw [← S_len]
        exact S_le (fun e _ => by unfold shN; split <;> omega)
      have s1 : S (lsN j (2 * v)) L = S (lsN (j + 1) v) L := S_congr (fun e _ => by
        unfold lsN
        rw [sh_succ]
        split <;> split <;> omega)
      have s2 : S (lsN j (2 * v + 1)) L = S (lsN (j + 1) v) L + S (shN j (2 * v)) L := by
        rw [← S_add]
        refine S_congr (fun e _ => ?_)
        unfold lsN shN
        rw [sh_succ]
        split <;> split <;> split <;> omega
      have s3 : S (shN (j + 1) v) L = S (shN j (2 * v)) L + S (shN j (2 * v + 1)) L := by
        rw [← S_add]
        refine S_congr (fun e _ => ?_)
        unfold shN
        rw [sh_succ]
        split <;> split <;> split <;> omega
      rw [nI_pred, e1, e2]
      refine sp_countAlike hR hl hb (by omega) (by omega) ?_
      rw [nI_ltI (by omega) (by omega)]
      refine ⟨fun z => ?_, fun z => ?_⟩
      · rintro _ rfl
        rw [m1_eq]
        refine ih (2 * v) k' (by omega) ?_ (by omega) z n (by omega)
        exact Nat.le_trans (Nat.mul_le_mul_right _ (by omega)) (hv2 ▸ hv)
      · rintro _ rfl _ rfl _ rfl
        rw [m1_eq, pk_sub (by omega), show (1 : Int64) = lN 1 from rfl, lN_or]
        have e3 := or_one v
        rw [e2] at e3
        rw [e3]
        refine ih (2 * v + 1) (k' - S (shN j (2 * v)) L) (by omega) ?_ (by omega) (by omega) n (by omega)
        exact Nat.le_trans (Nat.mul_le_mul_right _ (by omega)) (hv2 ▸ hv)
  unfold cf_Rows_risingDivisor
  have := key 32 0 k (by omega) (by decide) ?_ ?_ 33 (by omega)
  · rw [nI_pred] at this
    exact ⟨_, this⟩
  · have : S (lsN 32 0) L = 0 := by
      have e : S (lsN 32 0) L = S (fun _ => 0) L := S_congr (fun e _ => by unfold lsN; rw [if_neg (by omega)])
      rw [e, S_nul]
    omega
  · have e : S (shN 32 0) L = S (fun _ => 1) L := S_congr (fun e he => by
      unfold shN
      have := hb e he
      rw [if_pos]
      rw [Nat.shiftRight_eq_div_pow]
      exact Nat.div_eq_of_lt this)
    rw [e, S_len]
    exact hk
-- the model's row
def isS (w : Wd) (L : List Nat) : Prop := w.1 30 34 = nI L.length ∧ ∀ j, j < L.length → w.2 46 j = lN (L.getD j 0)
theorem mp_comes {w0 : Wd} {L : List Nat} {x : Nat} {P : Wd → Prop} (hS : isS w0 L) (hs : L.Pairwise (· ≤ ·)) (hl : L.length < 8192) (hx : x < 2 ^ 32) (hb : ∀ y, y ∈ L → y < 2 ^ 32)
    (h : ∀ w' L', fr [(30, 34)] [] [46] w0 w' → isS w' L' → L'.Pairwise (· ≤ ·) → (∀ y, y ∈ L' → y < 2 ^ 32) → (∀ f, S f L' = S f L + f x) → P w') : cf_M_comes (lN x) w0 P := by
  have key : ∀ m A C w, A.length = m → A ++ C = L → (∀ y, y ∈ C → x < y) → fr [(30, 34)] [] [46] w0 w → w.1 30 34 = nI L.length → (∀ j, j < A.length → w.2 46 j = lN (A.getD j 0)) → (∀ j, j < C.length → w.2 46 (A.length + 1 + j) = lN (C.getD j 0)) → ∀ n, m < n → cf_M_comes_L5 P n (lN x) (nI A.length) w := by
    intro m
    induction m with
    | zero =>
      intro A C w hm he hC hf hw hA1 hC1 n hn
      obtain ⟨n, rfl⟩ : ∃ m, n = m + 1 := ⟨n - 1, by omega⟩
      show cf_M_comes_B5 _ _ _ _ _
      unfold cf_M_comes_B5
      have : A = [] := List.length_eq_zero_iff.mp hm
      subst this
      have he : C = L := he
      subst he
      refine ⟨fun _ => ⟨vp_in_nI (by show 0 < 8192; omega) (by omega), ?_⟩, fun z => absurd (show nI ([] : List Nat).length ≤ (0 : Int32) by decide) z⟩
      rw [nI_clamp (by show 0 < _; omega)]
      rintro _ rfl _ rfl
      rw [wL_1, hw, nI_1]
      refine h _ (x :: C) (fr_wI _ (fr_wL _ hf (by simp)) (by simp)) ⟨?_, fun j hj => ?_⟩ (List.pairwise_cons.mpr ⟨fun y hy => Nat.le_of_lt (hC y hy), hs⟩) (fun y hy => ?_) (fun f => ?_)
      · rw [wI_1, if_pos ⟨rfl, rfl⟩, List.length_cons]
      · rw [wI_2, wL_2]
        cases j with
        | zero => rw [if_pos ⟨rfl, rfl⟩]; rfl
        | succ j =>
          rw [if_neg (fun z => absurd z.2 (by show j + 1 ≠ 0; omega))]
          have := hC1 j (by rw [List.length_cons] at hj; omega)
          rw [show ([] : List Nat).length + 1 + j = j + 1 by show 0 + 1 + j = _; omega] at this
          exact this
      · rcases List.mem_cons.mp hy with q | q
        · rw [q]; exact hx
        · exact hb y q
      · show f x + S f C = _
        omega
    | succ m ih =>
      intro A C w hm he hC hf hw hA1 hC1 n hn
      obtain ⟨n, rfl⟩ : ∃ m, n = m + 1 := ⟨n - 1, by omega⟩
      show cf_M_comes_B5 _ _ _ _ _
      unfold cf_M_comes_B5
      obtain ⟨A', y, rfl⟩ : ∃ A' y, A = A' ++ [y] := by
        rcases List.eq_nil_or_concat A with q | ⟨A', y, q⟩
        · rw [q] at hm; exact absurd hm (by simp)
        · exact ⟨A', y, by rw [q, List.concat_eq_append]⟩
      have hm' : A'.length = m := by rw [List.length_append] at hm; exact Nat.succ.inj hm
      have hAl : (A' ++ [y]).length = A'.length + 1 := by rw [List.length_append]; rfl
      have hLl : (A' ++ [y]).length + C.length = L.length := by rw [← he]; exact List.length_append.symm
      have hy : y < 2 ^ 32 := hb y (by rw [← he]; simp)
      rw [hAl] at hA1 hC1 ⊢
      rw [show nI (A'.length + 1) ≤ (0 : Int32) ↔ A'.length + 1 ≤ 0 from nI_leI (b := 0) (by omega) (by omega)]
      refine ⟨fun z => absurd z (by omega), fun _ => ?_⟩
      have es : nI (A'.length + 1) - (1 : Int32) = nI A'.length := pk_sub (b := 1) (by omega)
      rw [es]
      refine ⟨vp_in_nI (by omega) (by omega), ?_⟩
      rw [nI_clamp (by omega), nI_clamp (by omega), hA1 A'.length (by omega), getD_append_last, lN_leI (by omega) (by omega)]
      refine ⟨fun z => ⟨vp_in_nI (by omega) (by omega), ?_⟩, fun z => ⟨vp_in_nI (by omega) (by omega), vp_in_nI (by omega) (by omega), ?_⟩⟩
      · rintro _ rfl _ rfl
        rw [wL_1, hw, nI_1]
        have hsp := List.pairwise_append.mp (show ((A' ++ [y]) ++ C).Pairwise (· ≤ ·) by rw [he]; exact hs)
        have hsa := List.pairwise_append.mp hsp.1
        refine h _ ((A' ++ [y]) ++ x :: C) (fr_wI _ (fr_wL _ hf (by simp)) (by simp)) ⟨?_, fun j hj => ?_⟩ (List.pairwise_append.mpr ⟨hsp.1, List.pairwise_cons.mpr ⟨fun y hy => Nat.le_of_lt (hC y hy), hsp.2.1⟩, fun u hu v hv => ?_⟩) (fun u hu => ?_) (fun f => ?_)
        · rw [wI_1, if_pos ⟨rfl, rfl⟩, List.length_append, List.length_cons]
          rw [← hLl]; rfl
        · rw [List.length_append, List.length_cons, hAl] at hj
          rw [wI_2, wL_2]
          by_cases c : j < A'.length + 1
          · rw [if_neg (fun q => by have := q.2; omega), getD_append_left' (by omega)]
            exact hA1 j c
          · rw [getD_append_right' (by omega), hAl]
            obtain ⟨i, rfl⟩ : ∃ i, j = A'.length + 1 + i := ⟨j - (A'.length + 1), by omega⟩
            rw [Nat.add_sub_cancel_left]
            cases i with
            | zero => rw [if_pos ⟨rfl, rfl⟩]; rfl
            | succ i =>
              rw [if_neg (fun q => by have := q.2; omega)]
              have := hC1 i (by omega)
              rw [show A'.length + 1 + 1 + i = A'.length + 1 + (i + 1) by omega] at this
              exact this
        · have hux : u ≤ x := by
            rcases List.mem_append.mp hu with q | q
            · exact Nat.le_trans (hsa.2.2 u q y (by simp)) z
            · rw [List.mem_singleton.mp q]; exact z
          rcases List.mem_cons.mp hv with q | q
          · rw [q]; exact hux
          · exact Nat.le_trans hux (Nat.le_of_lt (hC v q))
        · rcases List.mem_append.mp hu with q | q
          · exact hb u (by rw [← he]; exact List.mem_append_left _ q)
          · rcases List.mem_cons.mp q with r | r
            · rw [r]; exact hx
            · exact hb u (by rw [← he]; exact List.mem_append_right _ r)
        · rw [S_append, ← he, S_append f (A' ++ [y]) C]
          show _ + (f x + _) = _
          omega
      · rintro _ rfl _ rfl
        rw [m1_eq, es]
        have hxy : x < y := by omega
        refine ih A' (y :: C) _ hm' (by rw [← he]; simp) (fun u hu => ?_) (fr_wL _ hf (by simp)) (by rw [wL_1]; exact hw) (fun j hj => ?_) (fun j hj => ?_) n (by omega)
        · rcases List.mem_cons.mp hu with q | q
          · rw [q]; exact hxy
          · exact hC u q
        · rw [wL_2, if_neg (fun q => by have := q.2; omega)]
          have := hA1 j (by omega)
          rw [getD_append_left' hj] at this
          exact this
        · rw [wL_2]
          cases j with
          | zero => rw [if_pos ⟨rfl, by omega⟩]; rfl
          | succ j =>
            rw [if_neg (fun q => by have := q.2; omega)]
            have := hC1 j (by rw [List.length_cons] at hj; omega)
            rw [show A'.length + 1 + 1 + j = A'.length + 1 + (j + 1) by omega] at this
            exact this
  unfold cf_M_comes
  rintro _ rfl
  rw [hS.1]
  have := key L.length L [] w0 rfl (List.append_nil L) (fun y hy => absurd hy (by simp)) (fr_refl _ _ _ _) hS.1 hS.2 (fun j hj => absurd hj (by simp)) (L.length + 1) (by omega)
  exact ⟨_, this⟩
