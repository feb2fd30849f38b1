-- what both ask of the factors
theorem take_snoc {l : List Nat} {k : Nat} (h : k < l.length) : l.take (k + 1) = l.take k ++ [l.getD k 0] := by
  rw [getD_lt h, List.take_append_getElem]
theorem getDp_lt {l : List (Nat × Nat)} {j : Nat} (h : j < l.length) : l.getD j (0, 0) = l[j] := by
  rw [List.getD_eq_getElem?_getD, List.getElem?_eq_getElem h]
  rfl
theorem getDp_mem {l : List (Nat × Nat)} {j : Nat} (h : j < l.length) : l.getD j (0, 0) ∈ l := by
  rw [getDp_lt h]
  exact List.getElem_mem h
theorem take_snocp {l : List (Nat × Nat)} {k : Nat} (h : k < l.length) : l.take (k + 1) = l.take k ++ [l.getD k (0, 0)] := by
  rw [getDp_lt h, List.take_append_getElem]
theorem split_at {l : List (Nat × Nat)} {k : Nat} (h : k < l.length) : l = l.take k ++ l.getD k (0, 0) :: l.drop (k + 1) := by
  rw [getDp_lt h, ← List.drop_eq_getElem_cons h, List.take_append_drop]
/-- where the i-th base begins in the list of all -/
def pos (bs : List (Nat × Nat)) (i : Nat) : Nat := (rep (bs.take i)).length
theorem pos_zero (bs : List (Nat × Nat)) : pos bs 0 = 0 := rfl
theorem pos_succ {bs : List (Nat × Nat)} {i : Nat} (h : i < bs.length) : pos bs (i + 1) = pos bs i + (bs.getD i (0, 0)).2 := by
  unfold pos
  rw [take_snocp h, rep_append, rep_one, List.length_append, List.length_replicate]
theorem pos_all (bs : List (Nat × Nat)) : pos bs bs.length = (rep bs).length := by
  unfold pos
  rw [List.take_of_length_le (Nat.le_refl _)]
theorem rep_at {bs : List (Nat × Nat)} {i : Nat} (h : i < bs.length) : rep bs = rep (bs.take i) ++ (List.replicate (bs.getD i (0, 0)).2 (bs.getD i (0, 0)).1 ++ rep (bs.drop (i + 1))) := by
  have e := split_at h
  have : rep bs = rep (bs.take i ++ bs.getD i (0, 0) :: bs.drop (i + 1)) := by rw [← e]
  rw [this, rep_append]
  rfl
theorem run_in {bs : List (Nat × Nat)} {i s : Nat} (h : i < bs.length) (hs : s < (bs.getD i (0, 0)).2) : (rep bs).getD (pos bs i + s) 0 = (bs.getD i (0, 0)).1 ∧ pos bs i + s < (rep bs).length := by
  rw [rep_at h]
  constructor
  · unfold pos
    rw [List.getD_eq_getElem?_getD, List.getElem?_append_right (by omega), Nat.add_sub_cancel_left, List.getElem?_append_left (by rw [List.length_replicate]; exact hs), List.getElem?_replicate, if_pos hs]
    rfl
  · unfold pos
    rw [List.length_append, List.length_append, List.length_replicate]
    omega
theorem run_before {a : Nat} {bs : List (Nat × Nat)} {i : Nat} (hB : okB a bs) (h : i < bs.length) (h0 : 0 < pos bs i) : (rep bs).getD (pos bs i - 1) 0 < (bs.getD i (0, 0)).1 := by
  have e : (rep bs).getD (pos bs i - 1) 0 = (rep (bs.take i)).getD (pos bs i - 1) 0 := by
    rw [rep_at h]
    exact getD_append_left' (by unfold pos at *; omega)
  rw [e]
  have hm := getD_mem (l := rep (bs.take i)) (j := pos bs i - 1) (by unfold pos at *; omega)
  obtain ⟨b, hb, e2⟩ := mem_rep hm
  rw [← e2]
  have hp := hB.2.1
  rw [split_at h, List.map_append] at hp
  exact (List.pairwise_append.mp hp).2.2 _ (List.mem_map.mpr ⟨b, hb, rfl⟩) _ (by simp)
theorem mem_times {bs : List (Nat × Nat)} {b : Nat × Nat} (h : b ∈ bs) : b.2 ≤ (rep bs).length := by
  induction bs with
  | nil => exact absurd h (by simp)
  | cons x l ih =>
    have e : (rep (x :: l)).length = x.2 + (rep l).length := by
      show (List.replicate x.2 x.1 ++ rep l).length = _
      rw [List.length_append, List.length_replicate]
    rw [e]
    rcases List.mem_cons.mp h with q | q
    · rw [q]; omega
    · have := ih q; omega
theorem okB_len {a : Nat} {bs : List (Nat × Nat)} (ha : a < 2 ^ 32) (h : okB a bs) : (rep bs).length ≤ 31 ∧ bs.length ≤ (rep bs).length := by
  refine ⟨?_, rep_len (fun b hb => (h.2.2 b hb).2)⟩
  by_cases z : a = 0
  · rw [h.1.2.2.1 (by omega)]; exact Nat.zero_le _
  · have h1 := len_dg h.1.1
    rw [h.1.2.2.2 z] at h1
    have := (dg_lt z).mpr ha
    omega
theorem okB_mem {a : Nat} {bs : List (Nat × Nat)} (ha : a < 2 ^ 32) (h : okB a bs) {b : Nat × Nat} (hb : b ∈ bs) : b.1 < 2 ^ 32 ∧ irr b.1 ∧ 1 ≤ b.2 ∧ b.2 ≤ 31 := by
  obtain ⟨h1, h2⟩ := h.2.2 b hb
  have h3 := mem_times hb
  have h4 := (okB_len ha h).1
  refine ⟨?_, h1, h2, by omega⟩
  have z : a ≠ 0 := by
    intro z
    have := h.1.2.2.1 (by omega)
    rw [this] at h3
    simp at h3
    omega
  have hm : b.1 ∈ rep bs := by
    clear h h1 h3 h4
    induction bs with
    | nil => exact absurd hb (by simp)
    | cons x l ih =>
      rcases List.mem_cons.mp hb with q | q
      · subst q
        exact List.mem_append.mpr (Or.inl (List.mem_replicate.mpr ⟨by omega, rfl⟩))
      · exact List.mem_append.mpr (Or.inr (ih q))
  have h5 := mem_dvd_pprod hm
  rw [h.1.2.2.2 z] at h5
  have h6 := pdvd_dg z h5
  have h7 := (dg_lt z).mpr ha
  exact (dg_lt (irr_ne h1)).mp (by omega)
theorem sp_base {c : Nat} {w : Wd} {bs : List (Nat × Nat)} {j : Nat} {P : Int64 → Prop} (hA : isA c w bs) (hl : bs.length ≤ 31) (hj : j < bs.length) (h : P (lN (bs.getD j (0, 0)).1)) : cf_Factors_base c (nI j) w P := by
  unfold cf_Factors_base
  rw [hA.1, nI_leI (by omega) (by omega), show (31 : Int32) = nI 31 from rfl, nI_leI (by omega) (by omega)]
  refine ⟨fun z => absurd z (nI_pos (by omega)), fun _ => ⟨fun z => absurd z (by omega), fun _ => ⟨fun z => absurd z (by omega), fun _ => ⟨vp_in_nI (by omega) (by omega), ?_⟩⟩⟩⟩
  rw [nI_clamp (by omega), (hA.2.2 j hj).1]
  exact h
theorem sp_often {c : Nat} {w : Wd} {bs : List (Nat × Nat)} {j : Nat} {P : Int32 → Prop} (hA : isA c w bs) (hl : bs.length ≤ 31) (hj : j < bs.length) (h : P (nI (bs.getD j (0, 0)).2)) : cf_Factors_often c (nI j) w P := by
  unfold cf_Factors_often
  rw [hA.1, nI_leI (by omega) (by omega), show (31 : Int32) = nI 31 from rfl, nI_leI (by omega) (by omega)]
  refine ⟨fun z => absurd z (nI_pos (by omega)), fun _ => ⟨fun z => absurd z (by omega), fun _ => ⟨fun z => absurd z (by omega), fun _ => ⟨vp_in_nI (by omega) (by omega), ?_⟩⟩⟩⟩
  rw [nI_clamp (by omega), (hA.2.2 j hj).2]
  exact h
/-- how many of a list have a degree -/
def cdg (d : Nat) : List Nat → Nat
  | [] => 0
  | p :: l => (if dg p = d then 1 else 0) + cdg d l
theorem cdg_append (d : Nat) (l m : List Nat) : cdg d (l ++ m) = cdg d l + cdg d m := by
  induction l with
  | nil => exact (Nat.zero_add _).symm
  | cons p l ih => show _ + cdg d (l ++ m) = _ + cdg d l + cdg d m; rw [ih, Nat.add_assoc]
theorem cdg_replicate (d t p : Nat) : cdg d (List.replicate t p) = if dg p = d then t else 0 := by
  induction t with
  | zero => show 0 = _; split <;> rfl
  | succ t ih =>
    rw [List.replicate_succ]
    show _ + cdg d (List.replicate t p) = _
    rw [ih]
    split <;> omega
theorem cdg_le (d : Nat) (l : List Nat) : cdg d l ≤ l.length := by
  induction l with
  | nil => exact Nat.le_refl _
  | cons p l ih =>
    show (if dg p = d then 1 else 0) + cdg d l ≤ l.length + 1
    split <;> omega
theorem sp_ofOneDegree {c a d : Nat} {w : Wd} {bs : List (Nat × Nat)} {P : Int32 → Prop} (ha : a < 2 ^ 32) (hA : isA c w bs) (hB : okB a bs) (hd : d < 2 ^ 31) (h : P (nI (cdg d (rep bs)))) : cf_Factors_ofOneDegree c (nI d) w P := by
  obtain ⟨hl1, hl2⟩ := okB_len ha hB
  have key : ∀ m i, bs.length ≤ i + m → i ≤ bs.length → ∀ n, m < n → cf_Factors_ofOneDegree_L4 c w P n (nI d) (nI (cdg d (rep (bs.take i)))) (nI i) := by
    intro m
    induction m with
    | zero =>
      intro i hi hil n hn
      obtain ⟨n, rfl⟩ : ∃ m, n = m + 1 := ⟨n - 1, by omega⟩
      show cf_Factors_ofOneDegree_B4 _ _ _ _ _ _ _
      unfold cf_Factors_ofOneDegree_B4
      rw [hA.1, nI_leI (by omega) (by omega)]
      refine ⟨fun _ => ?_, fun z => absurd (by omega) z⟩
      rw [List.take_of_length_le (by omega)]
      exact h
    | succ m ih =>
      intro i hi hil n hn
      by_cases hie : i = bs.length
      · exact ih i (by omega) hil n (by omega)
      obtain ⟨n, rfl⟩ : ∃ m, n = m + 1 := ⟨n - 1, by omega⟩
      show cf_Factors_ofOneDegree_B4 _ _ _ _ _ _ _
      unfold cf_Factors_ofOneDegree_B4
      rw [hA.1, nI_leI (by omega) (by omega)]
      have hib : i < bs.length := by omega
      refine ⟨fun z => absurd z (by omega), fun _ => ?_⟩
      refine sp_base hA (by omega) hib ?_
      have hm := okB_mem ha hB (getDp_mem hib)
      refine sp_degree (by omega) ?_
      have hdd := (dg_lt (irr_ne hm.2.1)).mpr hm.1
      rw [dI_pos (irr_ne hm.2.1), nI_eq (by omega) hd]
      have ih := ih (i + 1) (by omega) (by omega) n (by omega)
      rw [take_snocp hib, rep_append, rep_one, cdg_append, cdg_replicate] at ih
      refine ⟨fun z => ?_, fun z => ?_⟩
      · rintro _ rfl
        rw [nI_1]
        rw [if_neg z] at ih
        exact ih
      · refine sp_often hA (by omega) hib ?_
        rintro _ rfl _ rfl
        rw [nI_1, nI_add]
        rw [if_pos z] at ih
        exact ih
  unfold cf_Factors_ofOneDegree
  exact ⟨bs.length + 1, key bs.length 0 (by omega) (by omega) _ (by omega)⟩
theorem sp_inOrder {c a k : Nat} {w : Wd} {bs : List (Nat × Nat)} {P : Int64 → Prop} (ha : a < 2 ^ 32) (hA : isA c w bs) (hB : okB a bs) (hk : k < 2 ^ 31) (h1 : k < (rep bs).length → P (lN ((rep bs).getD k 0))) (h0 : (rep bs).length ≤ k → P 0) : cf_Factors_inOrder c (nI k) w P := by
  obtain ⟨hl1, hl2⟩ := okB_len ha hB
  have key : ∀ m i, bs.length ≤ i + m → i ≤ bs.length → pos bs i ≤ k → ∀ n, m < n → cf_Factors_inOrder_L4 c w P n (nI (k - pos bs i)) (nI i) := by
    intro m
    induction m with
    | zero =>
      intro i hi hil hp n hn
      obtain ⟨n, rfl⟩ : ∃ m, n = m + 1 := ⟨n - 1, by omega⟩
      show cf_Factors_inOrder_B4 _ _ _ _ _ _
      unfold cf_Factors_inOrder_B4
      rw [hA.1, nI_leI (by omega) (by omega)]
      refine ⟨fun _ => h0 ?_, fun z => absurd (by omega) z⟩
      rw [← pos_all, show bs.length = i by omega]
      exact hp
    | succ m ih =>
      intro i hi hil hp n hn
      by_cases hie : i = bs.length
      · exact ih i (by omega) hil hp n (by omega)
      obtain ⟨n, rfl⟩ : ∃ m, n = m + 1 := ⟨n - 1, by omega⟩
      show cf_Factors_inOrder_B4 _ _ _ _ _ _
      unfold cf_Factors_inOrder_B4
      rw [hA.1, nI_leI (by omega) (by omega)]
      have hib : i < bs.length := by omega
      have hm := okB_mem ha hB (getDp_mem hib)
      refine ⟨fun z => absurd z (by omega), fun _ => sp_often hA (by omega) hib ?_⟩
      rw [nI_leI (by omega) (by omega)]
      refine ⟨fun z => sp_often hA (by omega) hib ?_, fun z => sp_base hA (by omega) hib ?_⟩
      · rintro _ rfl _ rfl
        rw [pk_sub z, nI_1]
        have := ih (i + 1) (by omega) (by omega) (by rw [pos_succ hib]; omega) n (by omega)
        rw [pos_succ hib] at this
        rw [show k - pos bs i - (bs.getD i (0, 0)).2 = k - (pos bs i + (bs.getD i (0, 0)).2) by omega]
        exact this
      · have hr := run_in (bs := bs) (s := k - pos bs i) hib (by omega)
        rw [show pos bs i + (k - pos bs i) = k by omega] at hr
        rw [← hr.1]
        exact h1 hr.2
  unfold cf_Factors_inOrder
  have := key bs.length 0 (by omega) (by omega) (Nat.zero_le _) (bs.length + 1) (by omega)
  rw [pos_zero, Nat.sub_zero] at this
  exact ⟨_, this⟩
theorem sp_greatest {c a : Nat} {w : Wd} {bs : List (Nat × Nat)} {P : Int32 → Prop} (ha : a < 2 ^ 32) (hA : isA c w bs) (hB : okB a bs) (h : P (nI (dg ((rep bs).getD ((rep bs).length - 1) 0)))) : cf_Factors_greatestDegree c w P := by
  obtain ⟨hl1, hl2⟩ := okB_len ha hB
  unfold cf_Factors_greatestDegree
  rw [hA.1, nI_eq0 (by omega)]
  refine ⟨fun z => ?_, fun z => ?_⟩
  · obtain ⟨i, hi⟩ : ∃ i, bs.length = i + 1 := ⟨bs.length - 1, by omega⟩
    rw [hi, nI_pred]
    have hib : i < bs.length := by omega
    have hm := okB_mem ha hB (getDp_mem hib)
    refine sp_base hA (by omega) hib (sp_degree (by omega) ?_)
    rw [dI_pos (irr_ne hm.2.1)]
    have hr := run_in (bs := bs) (s := (bs.getD i (0, 0)).2 - 1) hib (by omega)
    have e : (rep bs).length = pos bs i + (bs.getD i (0, 0)).2 := by rw [← pos_all, hi, pos_succ hib]
    rw [show pos bs i + ((bs.getD i (0, 0)).2 - 1) = (rep bs).length - 1 by omega] at hr
    rw [← hr.1]
    exact h
  · have : bs = [] := List.length_eq_zero_iff.mp z
    subst this
    exact h
/-- how many unlike ones stand in the first k of a list -/
def un (l : List Nat) : Nat → Nat
  | 0 => 0
  | k + 1 => un l k + (if k = 0 ∨ l.getD k 0 ≠ l.getD (k - 1) 0 then 1 else 0)
theorem new_run {a : Nat} {bs : List (Nat × Nat)} (hB : okB a bs) {i s : Nat} (h : i < bs.length) (hs : s < (bs.getD i (0, 0)).2) : (pos bs i + s = 0 ∨ (rep bs).getD (pos bs i + s) 0 ≠ (rep bs).getD (pos bs i + s - 1) 0) ↔ s = 0 := by
  constructor
  · intro hor
    refine Classical.byContradiction (fun hne => ?_)
    rcases hor with q | q
    · omega
    · have h1 := (run_in (bs := bs) (s := s - 1) h (by omega)).1
      rw [show pos bs i + (s - 1) = pos bs i + s - 1 by omega] at h1
      exact q ((run_in h hs).1.trans h1.symm)
  · intro e
    subst e
    by_cases h0 : pos bs i = 0
    · exact Or.inl h0
    · have h1 := run_before hB h (by omega)
      have h2 := (run_in h hs).1
      rw [Nat.add_zero] at h2 ⊢
      exact Or.inr (by omega)
theorem un_run {a : Nat} {bs : List (Nat × Nat)} (hB : okB a bs) {i : Nat} (h : i < bs.length) (h0 : un (rep bs) (pos bs i) = i) : ∀ s, s ≤ (bs.getD i (0, 0)).2 → un (rep bs) (pos bs i + s) = i + (if s = 0 then 0 else 1)
  | 0, _ => h0
  | s + 1, hs => by
    have ih := un_run hB h h0 s (by omega)
    have hn := new_run hB h (s := s) (by omega)
    have e0 : un (rep bs) (pos bs i + (s + 1)) = un (rep bs) (pos bs i + s) + (if pos bs i + s = 0 ∨ (rep bs).getD (pos bs i + s) 0 ≠ (rep bs).getD (pos bs i + s - 1) 0 then 1 else 0) := rfl
    rw [e0, ih]
    by_cases e : s = 0
    · rw [if_pos (hn.mpr e), if_pos e, if_neg (by omega)]
    · rw [if_neg (fun z => e (hn.mp z)), if_neg e, if_neg (by omega)]
theorem un_pos {a : Nat} {bs : List (Nat × Nat)} (hB : okB a bs) : ∀ i, i ≤ bs.length → un (rep bs) (pos bs i) = i
  | 0, _ => rfl
  | i + 1, h => by
    have ih := un_pos hB i (by omega)
    have h1 := un_run hB (i := i) (by omega) ih _ (Nat.le_refl _)
    have h2 := (hB.2.2 _ (getDp_mem (show i < bs.length by omega))).2
    rw [pos_succ (by omega), h1, if_neg (by omega)]
theorem un_all {a : Nat} {bs : List (Nat × Nat)} (hB : okB a bs) : un (rep bs) (rep bs).length = bs.length := by
  rw [← pos_all]
  exact un_pos hB _ (Nat.le_refl _)
theorem un_le (l : List Nat) : ∀ k, un l k ≤ k
  | 0 => Nat.le_refl _
  | k + 1 => by
    have := un_le l k
    show un l k + _ ≤ k + 1
    split <;> omega
theorem isC_lt {a : Nat} {w : Wd} {ps : List Nat} (ha : a < 2 ^ 32) (h : isC w a ps) : ps.length ≤ 31 ∧ ∀ p, p ∈ ps → p < 2 ^ 32 ∧ irr p := by
  obtain ⟨-, hF, -, -⟩ := h
  by_cases z : a = 0
  · have := hF.2.2.1 (by omega)
    subst this
    exact ⟨by simp, fun p hp => absurd hp (by simp)⟩
  · have h1 := len_dg hF.1
    rw [hF.2.2.2 z] at h1
    have h2 := (dg_lt z).mpr ha
    refine ⟨by omega, fun p hp => ⟨?_, hF.1 p hp⟩⟩
    have h5 := mem_dvd_pprod hp
    rw [hF.2.2.2 z] at h5
    have h6 := pdvd_dg z h5
    exact (dg_lt (irr_ne (hF.1 p hp))).mp (by omega)
theorem mp_unlike {a : Nat} {w : Wd} {ps : List Nat} {P : Int32 → Prop} (ha : a < 2 ^ 32) (hC : isC w a ps) (h : P (nI (un ps ps.length))) : cf_M_unlikeFactors w P := by
  obtain ⟨hl, hlt⟩ := isC_lt ha hC
  have key : ∀ m k, ps.length ≤ k + m → k ≤ ps.length → ∀ n, m < n → cf_M_unlikeFactors_L4 w P n (nI (un ps k)) (nI k) := by
    intro m
    induction m with
    | zero =>
      intro k hk hkl n hn
      obtain ⟨n, rfl⟩ : ∃ m, n = m + 1 := ⟨n - 1, by omega⟩
      show cf_M_unlikeFactors_B4 _ _ _ _ _
      unfold cf_M_unlikeFactors_B4
      rw [hC.2.2.1, nI_leI (by omega) (by omega)]
      have : k = ps.length := by omega
      subst this
      exact ⟨fun _ => h, fun z => absurd (Nat.le_refl _) z⟩
    | succ m ih =>
      intro k hk hkl n hn
      by_cases hke : k = ps.length
      · exact ih k (by omega) hkl n (by omega)
      obtain ⟨n, rfl⟩ : ∃ m, n = m + 1 := ⟨n - 1, by omega⟩
      show cf_M_unlikeFactors_B4 _ _ _ _ _
      unfold cf_M_unlikeFactors_B4
      have hkl2 : k < ps.length := by omega
      have ih := ih (k + 1) (by omega) (by omega) n (by omega)
      have e : un ps (k + 1) = un ps k + (if k = 0 ∨ ps.getD k 0 ≠ ps.getD (k - 1) 0 then 1 else 0) := rfl
      rw [e] at ih
      rw [hC.2.2.1, nI_leI (by omega) (by omega), nI_eq0 (by omega)]
      refine ⟨fun z => absurd z (by omega), fun _ => ⟨fun z => ?_, fun z => ?_⟩⟩
      · rintro _ rfl _ rfl
        rw [nI_1, nI_1]
        rw [if_pos (Or.inl z)] at ih
        exact ih
      · rw [show nI k - (1 : Int32) = nI (k - 1) from pk_sub (b := 1) (by omega)]
        refine ⟨vp_in_nI (by omega) (by omega), vp_in_nI (by omega) (by omega), ?_⟩
        rw [nI_clamp (by omega), nI_clamp (by omega), hC.2.2.2 k hkl2, hC.2.2.2 (k - 1) (by omega)]
        have b1 := (hlt _ (getD_mem hkl2)).1
        have b2 := (hlt _ (getD_mem (show k - 1 < ps.length by omega))).1
        rw [lN_eqI (by omega) (by omega)]
        refine ⟨fun q => ?_, fun q => ?_⟩
        · rintro _ rfl _ rfl
          rw [nI_1, show (0 : Int32) = nI 0 from rfl, nI_add]
          rw [if_neg (fun y => y.elim z (fun y => y q))] at ih
          exact ih
        · rintro _ rfl _ rfl
          rw [nI_1, nI_1]
          rw [if_pos (Or.inr q)] at ih
          exact ih
  unfold cf_M_unlikeFactors
  exact ⟨ps.length + 1, key ps.length 0 (by omega) (by omega) _ (by omega)⟩
/-- the greatest of how often they are there -/
def mxt : List (Nat × Nat) → Nat
  | [] => 0
  | b :: l => max b.2 (mxt l)
theorem mxt_append (l m : List (Nat × Nat)) : mxt (l ++ m) = max (mxt l) (mxt m) := by
  induction l with
  | nil => exact (Nat.zero_max _).symm
  | cons b l ih => show max b.2 (mxt (l ++ m)) = max (max b.2 (mxt l)) (mxt m); rw [ih, Nat.max_assoc]
theorem mxt_succ {bs : List (Nat × Nat)} {i : Nat} (h : i < bs.length) : mxt (bs.take (i + 1)) = max (mxt (bs.take i)) (bs.getD i (0, 0)).2 := by
  rw [take_snocp h, mxt_append]
  show max _ (max _ 0) = _
  rw [Nat.max_zero]
theorem mxt_le {bs : List (Nat × Nat)} {t : Nat} (h : ∀ b, b ∈ bs → b.2 ≤ t) : mxt bs ≤ t := by
  induction bs with
  | nil => exact Nat.zero_le _
  | cons b l ih => exact Nat.max_le.mpr ⟨h b List.mem_cons_self, ih (fun x hx => h x (List.mem_cons_of_mem _ hx))⟩
theorem mp_oftenest {a : Nat} {w : Wd} {bs : List (Nat × Nat)} {P : Int32 → Prop} (ha : a < 2 ^ 32) (hB : okB a bs) (hC : isC w a (rep bs)) (h : P (nI (mxt bs))) : cf_M_oftenest w P := by
  obtain ⟨hl, hlt⟩ := isC_lt ha hC
  have hl2 := (okB_len ha hB).2
  have hmx : ∀ i, mxt (bs.take i) ≤ 31 := fun i => mxt_le (fun b hb => (okB_mem ha hB (List.mem_of_mem_take hb)).2.2.2)
  have key : ∀ m i s x2, (rep bs).length ≤ pos bs i + s + m → i < bs.length → s < (bs.getD i (0, 0)).2 → (0 < s → x2 = nI s) → ∀ n, m < n → cf_M_oftenest_L6 w P n (nI (max (mxt (bs.take i)) s)) x2 (nI (pos bs i + s)) := by
    intro m
    induction m with
    | zero =>
      intro i s x2 hm hi hs _ n hn
      have := (run_in hi hs).2
      omega
    | succ m ih =>
      intro i s x2 hm hi hs hx n hn
      obtain ⟨n, rfl⟩ : ∃ m, n = m + 1 := ⟨n - 1, by omega⟩
      show cf_M_oftenest_B6 _ _ _ _ _ _
      unfold cf_M_oftenest_B6
      have hr := run_in hi hs
      have hnew := new_run hB hi hs
      have hbt := (okB_mem ha hB (getDp_mem hi)).2.2.2
      have hmxi := hmx i
      rw [hC.2.2.1, nI_leI (by omega) (by omega)]
      refine ⟨fun z => absurd z (by omega), fun _ => ?_⟩
      -- the end of a round with a row of s + 1
      have fin : cf_M_oftenest_B43 w (cf_M_oftenest_L6 w P n) P (nI (max (mxt (bs.take i)) s)) (nI (pos bs i + s)) (nI (s + 1)) := by
        have go : cf_M_oftenest_L6 w P n (nI (max (mxt (bs.take i)) (s + 1))) (nI (s + 1)) (nI (pos bs i + s + 1)) := by
          by_cases hs1 : s + 1 < (bs.getD i (0, 0)).2
          · exact ih i (s + 1) _ (by omega) hi hs1 (fun _ => rfl) n (by omega)
          · have hse : s + 1 = (bs.getD i (0, 0)).2 := by omega
            have hp : pos bs i + s + 1 = pos bs (i + 1) := by rw [pos_succ hi]; omega
            rw [hse, ← mxt_succ hi, hp]
            by_cases hi1 : i + 1 < bs.length
            · have := ih (i + 1) 0 (nI (bs.getD i (0, 0)).2) (by omega) hi1 (by have := (okB_mem ha hB (getDp_mem hi1)).2.2.1; omega) (fun z => absurd z (by omega)) n (by omega)
              rw [Nat.max_zero, Nat.add_zero] at this
              exact this
            · have hie : i + 1 = bs.length := by omega
              rw [hie, pos_all, List.take_of_length_le (Nat.le_refl _)]
              obtain ⟨n, rfl⟩ : ∃ m, n = m + 1 := ⟨n - 1, by have := hr.2; omega⟩
              show cf_M_oftenest_B6 _ _ _ _ _ _
              unfold cf_M_oftenest_B6
              rw [hC.2.2.1]
              exact ⟨fun _ => h, fun z => absurd ((nI_leI (by omega) (by omega)).mpr (Nat.le_refl _)) z⟩
        unfold cf_M_oftenest_B43
        rw [nI_leI (by omega) (by omega)]
        refine ⟨fun z => ?_, fun z => ?_⟩
        · rintro _ rfl
          rw [nI_1]
          have e : max (mxt (bs.take i)) (s + 1) = max (mxt (bs.take i)) s := by omega
          rw [e] at go
          exact go
        · rintro _ rfl
          rw [nI_1]
          have e : max (mxt (bs.take i)) (s + 1) = s + 1 := by omega
          rw [e] at go
          exact go
      have le0 : nI (pos bs i + s) ≤ (0 : Int32) ↔ pos bs i + s ≤ 0 := nI_leI (b := 0) (by omega) (by omega)
      rw [le0]
      refine ⟨fun z => ?_, fun z => ?_⟩
      · have : s = 0 := by omega
        subst this
        exact fin
      · rw [show nI (pos bs i + s) - (1 : Int32) = nI (pos bs i + s - 1) from pk_sub (b := 1) (by omega)]
        refine ⟨vp_in_nI (by omega) (by omega), vp_in_nI (by omega) (by omega), ?_⟩
        rw [nI_clamp (by omega), nI_clamp (by omega), hC.2.2.2 _ hr.2, hC.2.2.2 (pos bs i + s - 1) (by omega)]
        have b1 := (hlt _ (getD_mem hr.2)).1
        have b2 := (hlt _ (getD_mem (show pos bs i + s - 1 < (rep bs).length by omega))).1
        rw [lN_eqI (by omega) (by omega)]
        refine ⟨fun q => ?_, fun q => ?_⟩
        · have : s = 0 := hnew.mp (Or.inr q)
          subst this
          exact fin
        · have : s ≠ 0 := fun e => (hnew.mpr e).elim (fun y => z (by omega)) (fun y => y q)
          rw [hx (by omega), nI_1]
          exact fin
  unfold cf_M_oftenest
  by_cases h0 : bs.length = 0
  · have : bs = [] := List.length_eq_zero_iff.mp h0
    subst this
    refine ⟨1, ?_⟩
    show cf_M_oftenest_B6 _ _ _ _ _ _
    unfold cf_M_oftenest_B6
    rw [hC.2.2.1]
    exact ⟨fun _ => h, fun z => absurd (show nI ([] : List Nat).length ≤ (0 : Int32) by decide) z⟩
  · have := key (rep bs).length 0 0 (0 : Int32) (by omega) (by omega) (by have := (okB_mem ha hB (getDp_mem (show 0 < bs.length by omega))).2.2.1; omega) (fun z => absurd z (by omega)) ((rep bs).length + 1) (by omega)
    exact ⟨_, this⟩
