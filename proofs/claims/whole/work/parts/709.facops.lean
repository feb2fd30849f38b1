-- calls that ask the factors alone
theorem le_toInt {a b : Int32} : a ≤ b ↔ a.toInt ≤ b.toInt := Int32.le_iff_toInt_le
theorem lt_toInt {a b : Int32} : a < b ↔ a.toInt < b.toInt := Int32.lt_iff_toInt_lt
theorem toInt_c : (0 : Int32).toInt = 0 ∧ (1 : Int32).toInt = 1 ∧ (2 : Int32).toInt = 2 ∧ (8 : Int32).toInt = 8 ∧ (31 : Int32).toInt = 31 ∧ (-1 : Int32).toInt = -1 ∧ (24 : Int32).toInt = 24 ∧ (20 : Int32).toInt = 20 ∧ (60 : Int32).toInt = 60 ∧ (1000 : Int32).toInt = 1000 ∧ (1000000000 : Int32).toInt = 1000000000 ∧ (3 : Int32).toInt = 3 := by decide
theorem nat_of {a : Int32} (h : 0 ≤ a.toInt) : ∃ k, k < 2 ^ 31 ∧ a = nI k ∧ a.toInt = (k : Int) := by
  have h2 : a.toInt < 2 ^ 31 := Int32.toInt_lt a
  exact ⟨a.toInt.toNat, by omega, nI_ofI h, by omega⟩
theorem T_split {w : Wd} {now : Nat → Int64} {u : Nat} {past : Nat → Nat → Int64} {kb : Nat → Bool} {shelf : Nat → Nat → Int64} (hc : core w now u past kb shelf) {c : Nat} (hcc : c = 10 ∨ c = 14) {a : Nat} (ha : a < 2 ^ 32) {P : Wd → Prop}
    (h : ∀ w' bs, fr [(c, 3), (c, 4)] [c + 2] [c + 1, c + 3] w w' → core w' now u past kb shelf → isA c w' bs → okB a bs → P w') : cf_Factors_split c (lN a) w P := by
  refine sp_split ha (fun w' bs k1 k2 k3 => h w' bs k1 (core_kp hc (kp_fr k1 ?_ ?_ ?_) (cache_kc (kc_fr k1 ?_ ?_ ?_) (core_cache hc))) k2 k3)
  · rcases hcc with e | e <;> subst e <;> decide
  · intro k hk i
    rw [List.mem_singleton] at hk
    subst hk
    rcases hcc with e | e <;> subst e <;> rfl
  · rcases hcc with e | e <;> subst e <;> decide
  · rcases hcc with e | e <;> subst e <;> decide
  · rcases hcc with e | e <;> subst e <;> decide
  · rcases hcc with e | e <;> subst e <;> decide
theorem M_lays {w : Wd} {now : Nat → Int64} {u : Nat} {past : Nat → Nat → Int64} {kb : Nat → Bool} {shelf : Nat → Nat → Int64} (hc : core w now u past kb shelf) {a : Nat} (ha : a < 2 ^ 32) {bs : List (Nat × Nat)} (hB : okB a bs) {P : Wd → Prop}
    (h : ∀ w', kp w w' → core w' now u past kb shelf → isC w' a (rep bs) → P w') : cf_M_laysFactors (lN a) w P := by
  refine mp_laysFactors (core_cache hc) ha (fun w' ps k1 k2 => ?_)
  have e := isF_unique k2.2.1 hB.1
  subst e
  exact h w' k1 (core_kp hc k1 (isC_ok (by omega) k2)) k2
theorem core_Inv {w : Wd} {now : Nat → Int64} {u : Nat} {past : Nat → Nat → Int64} {kb : Nat → Bool} {shelf : Nat → Nat → Int64} (hc : core w now u past kb shelf) : Inv w := ⟨now, u, past, kb, shelf, hc⟩
theorem core_poly {w : Wd} {now : Nat → Int64} {u : Nat} {past : Nat → Nat → Int64} {kb : Nat → Bool} {shelf : Nat → Nat → Int64} (hc : core w now u past kb shelf) {k : Nat} (hk : k < 10) : ∃ a, a < 2 ^ 32 ∧ now k = lN a ∧ w.2 7 k = lN a ∧ w.2 31 k = lN a := by
  obtain ⟨a, ha, e⟩ := hc.2.2.1.1 k hk
  exact ⟨a, ha, e, (hc.1.1 k (by omega)).trans e, (im_now hc.2.1 hk).trans e⟩
theorem core_poly' {w : Wd} {now : Nat → Int64} {u : Nat} {past : Nat → Nat → Int64} {kb : Nat → Bool} {shelf : Nat → Nat → Int64} (hc : core w now u past kb shelf) {k a : Nat} (hk : k < 10) (e : now k = lN a) : w.2 7 k = lN a ∧ w.2 31 k = lN a :=
  ⟨(hc.1.1 k (by omega)).trans e, (im_now hc.2.1 hk).trans e⟩
theorem op_factor {w : Wd} (hI : Inv w) (a0 : Int32) (a1 : Int32) : same1 (cf_T_factor a0 a1 w) (cf_M_factor a0 a1) := by
  intro G h
  obtain ⟨now, u, past, kb, shelf, hc⟩ := hI
  have hI := core_Inv hc
  unfold cf_T_factor
  refine sp_isPlace (fun ha => ⟨fun z => absurd z one_ne', fun _ => ⟨fun c1 => ?_, fun c1 => both_stay hI h (fun F hF => ?_)⟩⟩) (fun hno => ⟨fun _ => both_stay hI h (fun F hF => ?_), fun z => absurd rfl z⟩)
  · obtain ⟨k, hk, rfl⟩ := ha
    obtain ⟨j, hj, rfl, -⟩ := nat_of (a := a1) (by have := le_toInt.mp c1; rw [toInt_c.1] at this; exact this)
    obtain ⟨a, ha, e0, e1, e2⟩ := core_poly hc hk
    refine sp_polyAt hk ?_
    rw [e1]
    refine T_split hc (Or.inl rfl) ha (fun w1 bs k1 k2 k3 k4 => ?_)
    obtain ⟨hl1, hl2⟩ := okB_len ha k4
    have mo : ∀ F : Int64 → Wd → Prop, (∀ w2, Inv w2 → (rep bs).length ≤ j → F (-2) w2) → (∀ w2, Inv w2 → j < (rep bs).length → F (lN ((rep bs).getD j 0)) w2) → cf_M_factor (nI k) (nI j) w1 F := by
      intro F f1 f2
      unfold cf_M_factor
      refine mp_isPlace (fun _ => ⟨fun z => absurd z one_ne', fun _ => ⟨fun _ => ⟨vp_in_nI (by omega) (by omega), ?_⟩, fun z => absurd c1 z⟩⟩) (fun z => absurd ⟨k, hk, rfl⟩ z)
      rw [nI_clamp (by omega), (core_poly' k2 hk e0).2]
      refine M_lays k2 ha k4 (fun w2 j1 j2 j3 => ?_)
      rw [j3.2.2.1, nI_leI (by omega) (by omega)]
      refine ⟨fun z => f1 w2 (core_Inv j2) z, fun z => ⟨vp_in_nI (by omega) (by omega), ?_⟩⟩
      rw [nI_clamp (by omega), j3.2.2.2 j (by omega)]
      exact f2 w2 (core_Inv j2) (by omega)
    refine sp_inOrder ha k3 k4 hj (fun q => ⟨fun _ => h _ _ (fun F hF => mo F (fun w2 _ z => absurd z (by omega)) (fun w2 i _ => hF w2 i)), fun z => ?_⟩) (fun q => ⟨fun z => absurd rfl z, fun _ => h _ _ (fun F hF => mo F (fun w2 i _ => hF w2 i) (fun w2 _ z => absurd z (by omega)))⟩)
    exfalso
    have hm := getD_mem q
    obtain ⟨b, hb, eb⟩ := mem_rep hm
    have h2 := okB_mem ha k4 hb
    rw [← eb] at z
    have := (lN_eq0 (a := b.1) (by omega)).mp z
    have := h2.2.1.1
    omega
  · unfold cf_M_factor
    exact mp_isPlace (fun _ => ⟨fun z => absurd z one_ne', fun _ => ⟨fun z => absurd z c1, fun _ => hF⟩⟩) (fun z => absurd ha z)
  · unfold cf_M_factor
    exact mp_isPlace (fun z => absurd z hno) (fun _ => ⟨fun _ => hF, fun z => absurd rfl z⟩)
theorem cdg_snoc (d : Nat) {l : List Nat} {k : Nat} (h : k < l.length) : cdg d (l.take (k + 1)) = cdg d (l.take k) + (if dg (l.getD k 0) = d then 1 else 0) := by
  rw [take_snoc h, cdg_append]
  rfl
theorem op_ofDegree {w : Wd} (hI : Inv w) (a0 : Int32) (a1 : Int32) : same1 (cf_T_ofDegree a0 a1 w) (cf_M_ofDegree a0 a1) := by
  intro G h
  obtain ⟨now, u, past, kb, shelf, hc⟩ := hI
  have hI := core_Inv hc
  have mno : isPl a0 → ¬ (1 ≤ a1.toInt ∧ a1.toInt ≤ 31) → ∀ F : Int32 → Wd → Prop, F (-1) w → cf_M_ofDegree a0 a1 w F := by
    intro ha hn F hF
    unfold cf_M_ofDegree
    exact mp_isPlace (fun _ => ⟨fun z => absurd z one_ne', fun _ => mp_inI (lo := 1) (hi := 31) (by decide) (by decide) (fun q => absurd q hn) (fun _ => ⟨fun z => absurd rfl z, fun _ => hF⟩)⟩) (fun z => absurd ha z)
  unfold cf_T_ofDegree
  refine sp_isPlace (fun ha => ⟨fun z => absurd z one_ne', fun _ => ⟨fun c1 => both_stay hI h (fun F hF => mno ha (fun z => ?_) F hF), fun c1 => ⟨fun c2 => ?_, fun c2 => both_stay hI h (fun F hF => mno ha (fun z => ?_) F hF)⟩⟩⟩) (fun hno => ⟨fun _ => both_stay hI h (fun F hF => ?_), fun z => absurd rfl z⟩)
  · have := lt_toInt.mp c1
    rw [toInt_c.2.1] at this
    omega
  · have d1 : 1 ≤ a1.toInt := by
      have : ¬ a1.toInt < 1 := fun z => c1 (lt_toInt.mpr (by rw [toInt_c.2.1]; exact z))
      omega
    have d2 : a1.toInt ≤ 31 := by
      have := le_toInt.mp c2
      rw [toInt_c.2.2.2.2.1] at this
      exact this
    obtain ⟨k, hk, rfl⟩ := ha
    obtain ⟨j, hj, rfl, ej⟩ := nat_of (a := a1) (by omega)
    obtain ⟨a, ha, e0, e1, e2⟩ := core_poly hc hk
    refine sp_polyAt hk ?_
    rw [e1]
    refine T_split hc (Or.inl rfl) ha (fun w1 bs k1 k2 k3 k4 => ?_)
    obtain ⟨hl1, hl2⟩ := okB_len ha k4
    refine sp_ofOneDegree ha k3 k4 hj (h _ _ (fun F hF => ?_))
    unfold cf_M_ofDegree
    refine mp_isPlace (fun _ => ⟨fun z => absurd z one_ne', fun _ => mp_inI (lo := 1) (hi := 31) (by decide) (by decide) (fun _ => ⟨fun _ => ⟨vp_in_nI (by omega) (by omega), ?_⟩, fun z => absurd z one_ne'⟩) (fun q => absurd ⟨d1, d2⟩ q)⟩) (fun z => absurd ⟨k, hk, rfl⟩ z)
    rw [nI_clamp (by omega), (core_poly' k2 hk e0).2]
    refine M_lays k2 ha k4 (fun w2 j1 j2 j3 => ?_)
    obtain ⟨-, hlt⟩ := isC_lt ha j3
    have key : ∀ m i, (rep bs).length ≤ i + m → i ≤ (rep bs).length → ∀ n, m < n → cf_M_ofDegree_L36 F n (nI j) (nI (cdg j ((rep bs).take i))) (nI i) w2 := by
      intro m
      induction m with
      | zero =>
        intro i hi hil n hn
        obtain ⟨n, rfl⟩ : ∃ m, n = m + 1 := ⟨n - 1, by omega⟩
        show cf_M_ofDegree_B36 _ _ _ _ _ _
        unfold cf_M_ofDegree_B36
        rw [j3.2.2.1, nI_leI (by omega) (by omega)]
        refine ⟨fun _ => ?_, fun z => absurd (by omega) z⟩
        rw [List.take_of_length_le (by omega)]
        exact hF w2 (core_Inv j2)
      | succ m ih =>
        intro i hi hil n hn
        by_cases hie : i = (rep bs).length
        · exact ih i (by omega) hil n (by omega)
        obtain ⟨n, rfl⟩ : ∃ m, n = m + 1 := ⟨n - 1, by omega⟩
        show cf_M_ofDegree_B36 _ _ _ _ _ _
        unfold cf_M_ofDegree_B36
        have hil2 : i < (rep bs).length := by omega
        have ih := ih (i + 1) (by omega) (by omega) n (by omega)
        rw [cdg_snoc j hil2] at ih
        rw [j3.2.2.1, nI_leI (by omega) (by omega)]
        refine ⟨fun z => absurd z (by omega), fun _ => ⟨vp_in_nI (by omega) (by omega), ?_⟩⟩
        rw [nI_clamp (by omega), j3.2.2.2 i hil2]
        have hb := hlt _ (getD_mem hil2)
        refine mp_degree (by omega) ?_
        have hdd := (dg_lt (irr_ne hb.2)).mpr hb.1
        rw [dI_pos (irr_ne hb.2), nI_eq (by omega) hj]
        refine ⟨fun z => ?_, fun z => ?_⟩
        · rintro _ rfl _ rfl
          rw [nI_1, show (0 : Int32) = nI 0 from rfl, nI_add]
          rw [if_neg z] at ih
          exact ih
        · rintro _ rfl _ rfl
          rw [nI_1, nI_1]
          rw [if_pos z] at ih
          exact ih
    exact ⟨_, key (rep bs).length 0 (by omega) (by omega) ((rep bs).length + 1) (by omega)⟩
  · have := mt le_toInt.mpr c2
    rw [toInt_c.2.2.2.2.1] at this
    omega
  · unfold cf_M_ofDegree
    exact mp_isPlace (fun z => absurd z hno) (fun _ => ⟨fun _ => hF, fun z => absurd rfl z⟩)
theorem op_couples {w : Wd} (hI : Inv w) (a0 : Int32) : same1 (cf_T_couples a0 w) (cf_M_couples a0) := by
  intro G h
  obtain ⟨now, u, past, kb, shelf, hc⟩ := hI
  have hI := core_Inv hc
  unfold cf_T_couples
  refine sp_isPlace (fun ha => ⟨fun _ => ?_, fun z => absurd z one_ne'⟩) (fun hno => ⟨fun z => absurd rfl z, fun _ => both_stay hI h (fun F hF => ?_)⟩)
  · obtain ⟨k, hk, rfl⟩ := ha
    obtain ⟨a, ha, e0, e1, e2⟩ := core_poly hc hk
    refine sp_polyAt hk ?_
    rw [e1]
    refine ⟨fun c1 => ?_, fun c1 => both_stay hI h (fun F hF => ?_)⟩
    · refine sp_polyAt hk ?_
      rw [e1]
      refine T_split hc (Or.inl rfl) ha (fun w1 bs k1 k2 k3 k4 => ?_)
      obtain ⟨hl1, hl2⟩ := okB_len ha k4
      have mo : ∀ F : Int32 → Wd → Prop, (∀ w2, Inv w2 → (2 ≤ bs.length → F (ishl 1 (nI bs.length - 1)) w2) ∧ (¬ 2 ≤ bs.length → F 1 w2)) → cf_M_couples (nI k) w1 F := by
        intro F hF
        unfold cf_M_couples
        refine mp_isPlace (fun _ => ⟨fun _ => ⟨vp_in_nI (by omega) (by omega), ?_⟩, fun z => absurd z one_ne'⟩) (fun z => absurd ⟨k, hk, rfl⟩ z)
        rw [nI_clamp (by omega), (core_poly' k2 hk e0).2]
        refine ⟨fun _ => ⟨vp_in_nI (by omega) (by omega), ?_⟩, fun z => absurd z c1⟩
        refine M_lays k2 ha k4 (fun w2 j1 j2 j3 => mp_unlike ha j3 ?_)
        rw [un_all k4, show (2 : Int32) = nI 2 from rfl, nI_leI (by omega) (by omega)]
        exact hF w2 (core_Inv j2)
      show (¬ w1.1 10 3 = 0 → G (ishl (1 : Int32) (w1.1 10 3 - (1 : Int32))) w1) ∧ (w1.1 10 3 = 0 → G (1 : Int32) w1)
      rw [k3.1, nI_eq0 (by omega)]
      refine ⟨fun q => h _ _ (fun F hF => mo F (fun w2 i => ⟨fun _ => hF w2 i, fun z => ?_⟩)), fun q => h _ _ (fun F hF => mo F (fun w2 i => ⟨fun z => absurd z (by omega), fun _ => hF w2 i⟩))⟩
      have e : bs.length = 1 := by omega
      have := hF w2 i
      rw [e] at this
      exact this
    · unfold cf_M_couples
      refine mp_isPlace (fun _ => ⟨fun _ => ⟨vp_in_nI (by omega) (by omega), ?_⟩, fun z => absurd z one_ne'⟩) (fun z => absurd ⟨k, hk, rfl⟩ z)
      rw [nI_clamp (by omega), e2]
      exact ⟨fun z => absurd c1 z, fun _ => hF⟩
  · unfold cf_M_couples
    exact mp_isPlace (fun z => absurd z hno) (fun _ => ⟨fun z => absurd rfl z, fun _ => hF⟩)
theorem map_getD {bs : List (Nat × Nat)} {i : Nat} (h : i < bs.length) : (bs.map Prod.fst).getD i 0 = (bs.getD i (0, 0)).1 := by
  rw [getDp_lt h, getD_lt (by rw [List.length_map]; exact h), List.getElem_map]
theorem map_take_succ {bs : List (Nat × Nat)} {i : Nat} (h : i < bs.length) : (bs.take (i + 1)).map Prod.fst = (bs.take i).map Prod.fst ++ [(bs.getD i (0, 0)).1] := by
  rw [take_snocp h, List.map_append]
  rfl
theorem list_ext {l m : List Nat} (h1 : l.length = m.length) (h2 : ∀ i, i < l.length → l.getD i 0 = m.getD i 0) : l = m := by
  refine List.ext_getElem h1 (fun i a b => ?_)
  have := h2 i a
  rw [getD_lt a, getD_lt b] at this
  exact this
theorem sp_hasSame {c c0 a b : Nat} {w : Wd} {bs cs : List (Nat × Nat)} {P : Int32 → Prop} (ha : a < 2 ^ 32) (hb : b < 2 ^ 32) (hA : isA c w bs) (hB : okB a bs) (hA' : isA c0 w cs) (hB' : okB b cs) (h1 : bs.map Prod.fst = cs.map Prod.fst → P 1) (h0 : bs.map Prod.fst ≠ cs.map Prod.fst → P 0) : cf_Factors_hasSameAs c c0 w P := by
  obtain ⟨hl1, hl2⟩ := okB_len ha hB
  obtain ⟨hl3, hl4⟩ := okB_len hb hB'
  unfold cf_Factors_hasSameAs
  rw [hA.1, hA'.1, nI_eq (by omega) (by omega)]
  refine ⟨fun el => ?_, fun z => h0 (fun e => z (by have := congrArg List.length e; rw [List.length_map, List.length_map] at this; exact this))⟩
  have key : ∀ m i, bs.length ≤ i + m → i ≤ bs.length → (∀ j, j < i → (bs.map Prod.fst).getD j 0 = (cs.map Prod.fst).getD j 0) → ∀ n, m < n → cf_Factors_hasSameAs_L19 c c0 w P n (nI i) := by
    intro m
    induction m with
    | zero =>
      intro i hi hil hj n hn
      obtain ⟨n, rfl⟩ : ∃ m, n = m + 1 := ⟨n - 1, by omega⟩
      show cf_Factors_hasSameAs_B19 _ _ _ _ _ _
      unfold cf_Factors_hasSameAs_B19
      rw [hA.1, nI_leI (by omega) (by omega)]
      refine ⟨fun _ => h1 (list_ext (by rw [List.length_map, List.length_map]; exact el) (fun j hj2 => hj j (by rw [List.length_map] at hj2; omega))), fun z => absurd (by omega) z⟩
    | succ m ih =>
      intro i hi hil hj n hn
      by_cases hie : i = bs.length
      · exact ih i (by omega) hil hj n (by omega)
      obtain ⟨n, rfl⟩ : ∃ m, n = m + 1 := ⟨n - 1, by omega⟩
      show cf_Factors_hasSameAs_B19 _ _ _ _ _ _
      unfold cf_Factors_hasSameAs_B19
      have hil2 : i < bs.length := by omega
      rw [hA.1, nI_leI (by omega) (by omega)]
      refine ⟨fun z => absurd z (by omega), fun _ => sp_base hA (by omega) hil2 (sp_base hA' (by omega) (by omega) ?_)⟩
      have b1 := (okB_mem ha hB (getDp_mem hil2)).1
      have b2 := (okB_mem hb hB' (getDp_mem (show i < cs.length by omega))).1
      rw [lN_eqI (by omega) (by omega), ← map_getD hil2, ← map_getD (show i < cs.length by omega)]
      refine ⟨fun q => ?_, fun q => h0 (fun e => q (by rw [e]))⟩
      rintro _ rfl
      rw [nI_1]
      refine ih (i + 1) (by omega) (by omega) (fun j hji => ?_) n (by omega)
      by_cases e : j = i
      · rw [e]; exact q
      · exact hj j (by omega)
  exact ⟨_, key bs.length 0 (by omega) (by omega) (fun j hj => absurd hj (by omega)) (bs.length + 1) (by omega)⟩
theorem mp_radical {w : Wd} {now : Nat → Int64} {u : Nat} {past : Nat → Nat → Int64} {kb : Nat → Bool} {shelf : Nat → Nat → Int64} (hc : core w now u past kb shelf) {a : Nat} (ha : a < 2 ^ 32) {bs : List (Nat × Nat)} (hB : okB a bs) {P : Int64 → Wd → Prop}
    (h : ∀ w', core w' now u past kb shelf → P (lN (pprod (bs.map Prod.fst))) w') : cf_M_radical (lN a) w P := by
  unfold cf_M_radical
  refine M_lays hc ha hB (fun w2 j1 j2 j3 => ?_)
  obtain ⟨hl, hlt⟩ := isC_lt ha j3
  have hl2 := (okB_len ha hB).2
  have key : ∀ m i s, (rep bs).length ≤ pos bs i + s + m → i < bs.length → s < (bs.getD i (0, 0)).2 → ∀ n, m < n → cf_M_radical_L10 P n (lN (pprod ((bs.take (if s = 0 then i else i + 1)).map Prod.fst))) (nI (pos bs i + s)) w2 := by
    intro m
    induction m with
    | zero =>
      intro i s hm hi hs n hn
      have := (run_in hi hs).2
      omega
    | succ m ih =>
      intro i s hm hi hs n hn
      obtain ⟨n, rfl⟩ : ∃ m, n = m + 1 := ⟨n - 1, by omega⟩
      show cf_M_radical_B10 _ _ _ _ _
      unfold cf_M_radical_B10
      have hr := run_in hi hs
      have hnew := new_run hB hi hs
      have hbb := okB_mem ha hB (getDp_mem hi)
      rw [j3.2.2.1, nI_leI (by omega) (by omega)]
      refine ⟨fun z => absurd z (by omega), fun _ => ?_⟩
      have go : cf_M_radical_L10 P n (lN (pprod ((bs.take (i + 1)).map Prod.fst))) (nI (pos bs i + s + 1)) w2 := by
        by_cases hs1 : s + 1 < (bs.getD i (0, 0)).2
        · have := ih i (s + 1) (by omega) hi hs1 n (by omega)
          rw [if_neg (by omega)] at this
          exact this
        · have hp : pos bs i + s + 1 = pos bs (i + 1) := by rw [pos_succ hi]; omega
          rw [hp]
          by_cases hi1 : i + 1 < bs.length
          · have := ih (i + 1) 0 (by omega) hi1 (by have := (okB_mem ha hB (getDp_mem hi1)).2.2.1; omega) n (by omega)
            rw [if_pos rfl, Nat.add_zero] at this
            exact this
          · have hie : i + 1 = bs.length := by omega
            rw [hie, pos_all, List.take_of_length_le (Nat.le_refl _)]
            obtain ⟨n, rfl⟩ : ∃ m, n = m + 1 := ⟨n - 1, by have := hr.2; omega⟩
            show cf_M_radical_B10 _ _ _ _ _
            unfold cf_M_radical_B10
            rw [j3.2.2.1]
            exact ⟨fun _ => h w2 j2, fun z => absurd ((nI_leI (by omega) (by omega)).mpr (Nat.le_refl _)) z⟩
      have new : s = 0 → cf_M_product (lN (pprod ((bs.take (if s = 0 then i else i + 1)).map Prod.fst))) (w2.2 35 (pos bs i + s)) (fun r2 => ∀ v3, v3 = nI (pos bs i + s) + (1 : Int32) → cf_M_radical_L10 P n r2 v3 w2) := by
        intro hs0
        rw [j3.2.2.2 _ hr.2, hr.1, if_pos hs0]
        refine mp_product (by omega) ?_
        rintro _ rfl
        rw [nI_1]
        rw [map_take_succ hi, pprod_append] at go
        have e : pprod [(bs.getD i (0, 0)).1] = (bs.getD i (0, 0)).1 := cm_one _
        rw [e] at go
        exact go
      have le0 : nI (pos bs i + s) ≤ (0 : Int32) ↔ pos bs i + s ≤ 0 := nI_leI (b := 0) (by omega) (by omega)
      rw [le0]
      refine ⟨fun z => ⟨vp_in_nI (by omega) (by omega), ?_⟩, fun z => ⟨vp_in_nI (by omega) (by omega), ?_⟩⟩
      · rw [nI_clamp (by omega)]
        exact new (by omega)
      · rw [show nI (pos bs i + s) - (1 : Int32) = nI (pos bs i + s - 1) from pk_sub (b := 1) (by omega)]
        refine ⟨vp_in_nI (by omega) (by omega), ?_⟩
        rw [nI_clamp (by omega), nI_clamp (by omega)]
        have b1 := (hlt _ (getD_mem hr.2)).1
        have b2 := (hlt _ (getD_mem (show pos bs i + s - 1 < (rep bs).length by omega))).1
        have eqv : (w2.2 35 (pos bs i + s) = w2.2 35 (pos bs i + s - 1)) ↔ (rep bs).getD (pos bs i + s) 0 = (rep bs).getD (pos bs i + s - 1) 0 := by
          rw [j3.2.2.2 _ hr.2, j3.2.2.2 (pos bs i + s - 1) (by omega), lN_eqI (by omega) (by omega)]
        rw [eqv]
        refine ⟨fun q => ⟨vp_in_nI (by omega) (by omega), new (hnew.mp (Or.inr q))⟩, fun q => ?_⟩
        have : s ≠ 0 := fun e => (hnew.mpr e).elim (fun y => z (by omega)) (fun y => y q)
        rintro _ rfl
        rw [nI_1, if_neg this]
        exact go
  by_cases h0 : bs.length = 0
  · have : bs = [] := List.length_eq_zero_iff.mp h0
    subst this
    refine ⟨1, ?_⟩
    show cf_M_radical_B10 _ _ _ _ _
    unfold cf_M_radical_B10
    rw [j3.2.2.1]
    exact ⟨fun _ => h w2 j2, fun z => absurd (show nI (rep []).length ≤ (0 : Int32) by decide) z⟩
  · have := key (rep bs).length 0 0 (by omega) (by omega) (by have := (okB_mem ha hB (getDp_mem (show 0 < bs.length by omega))).2.2.1; omega) ((rep bs).length + 1) (by omega)
    exact ⟨_, this⟩
theorem strict_le {l : List Nat} (h : l.Pairwise (· < ·)) : l.Pairwise (· ≤ ·) := h.imp (fun h => Nat.le_of_lt h)
theorem rad_dvd {a : Nat} {bs : List (Nat × Nat)} (hB : okB a bs) : pdvd (pprod (bs.map Prod.fst)) (pprod (rep bs)) := by
  obtain ⟨-, -, h3⟩ := hB
  induction bs with
  | nil => exact pdvd_refl _
  | cons b l ih =>
    have h1 := ih (fun x hx => h3 x (List.mem_cons_of_mem _ hx))
    have h2 := (h3 b List.mem_cons_self).2
    show pdvd (cm b.1 (pprod (l.map Prod.fst))) (pprod (List.replicate b.2 b.1 ++ rep l))
    rw [pprod_append]
    obtain ⟨t, ht⟩ : ∃ t, b.2 = t + 1 := ⟨b.2 - 1, by omega⟩
    rw [ht, List.replicate_succ]
    show pdvd _ (cm (cm b.1 (pprod (List.replicate t b.1))) (pprod (rep l)))
    obtain ⟨q, e⟩ := h1
    refine ⟨cm (pprod (List.replicate t b.1)) q, ?_⟩
    rw [e, cm_assoc, cm_assoc, cm_left_comm b.1, cm_left_comm b.1 q]
theorem rad_lt {a : Nat} {bs : List (Nat × Nat)} (ha : a < 2 ^ 32) (hB : okB a bs) : pprod (bs.map Prod.fst) < 2 ^ 32 := by
  have h1 := rad_dvd hB
  by_cases z : a ≤ 1
  · have e := hB.1.2.2.1 z
    have hl := (okB_len ha hB).2
    rw [e] at hl
    have : bs = [] := List.length_eq_zero_iff.mp (by simpa using hl)
    subst this
    decide
  · rw [hB.1.2.2.2 (by omega)] at h1
    have h2 := pdvd_dg (show a ≠ 0 by omega) h1
    have h3 := (dg_lt (show a ≠ 0 by omega)).mpr ha
    have h4 : pprod (bs.map Prod.fst) ≠ 0 := pprod_ne (fun p hp => by
      obtain ⟨b, hb, rfl⟩ := List.mem_map.mp hp
      exact (hB.2.2 b hb).1)
    exact (dg_lt h4).mp (by omega)
theorem rad_eq {a b : Nat} {bs cs : List (Nat × Nat)} (hB : okB a bs) (hB' : okB b cs) : pprod (bs.map Prod.fst) = pprod (cs.map Prod.fst) ↔ bs.map Prod.fst = cs.map Prod.fst := by
  constructor
  · intro e
    refine factors_unique (fun p hp => ?_) (fun p hp => ?_) (strict_le hB.2.1) (strict_le hB'.2.1) e
    · obtain ⟨b, hb, rfl⟩ := List.mem_map.mp hp
      exact (hB.2.2 b hb).1
    · obtain ⟨b, hb, rfl⟩ := List.mem_map.mp hp
      exact (hB'.2.2 b hb).1
  · intro e; rw [e]
theorem op_akin {w : Wd} (hI : Inv w) (a0 : Int32) (a1 : Int32) : same1 (cf_T_akin a0 a1 w) (cf_M_akin a0 a1) := by
  intro G h
  obtain ⟨now, u, past, kb, shelf, hc⟩ := hI
  have hI := core_Inv hc
  unfold cf_T_akin
  refine sp_arePlaces (fun ha hb _ => ⟨fun _ => ?_, fun z => absurd z one_ne'⟩) (fun hno => ⟨fun z => absurd rfl z, fun _ => both_stay hI h (fun F hF => ?_)⟩)
  · obtain ⟨k, hk, rfl⟩ := ha
    obtain ⟨k', hk', rfl⟩ := hb
    obtain ⟨a, ha, e0, e1, e2⟩ := core_poly hc hk
    obtain ⟨b, hb, g0, g1, g2⟩ := core_poly hc hk'
    refine sp_polyAt hk ?_
    rw [e1]
    refine T_split hc (Or.inl rfl) ha (fun w1 bs k1 k2 k3 k4 => sp_polyAt hk' ?_)
    rw [(core_poly' k2 hk' g0).1]
    refine T_split k2 (Or.inr rfl) hb (fun w2 cs j1 j2 j3 j4 => ?_)
    have hA : isA 10 w2 bs := by
      obtain ⟨a1, a2, a3⟩ := k3
      refine ⟨(j1.1 10 3 (by decide) (by decide)).trans a1, (j1.1 10 4 (by decide) (by decide)).trans a2, fun j hj => ⟨?_, ?_⟩⟩
      · rw [j1.2 11 (by decide)]; exact (a3 j hj).1
      · rw [j1.1 12 j (by simp) (by decide)]; exact (a3 j hj).2
    have mo : ∀ F : Int32 → Wd → Prop, (∀ w3, Inv w3 → (bs.map Prod.fst = cs.map Prod.fst → F 1 w3) ∧ (bs.map Prod.fst ≠ cs.map Prod.fst → F 0 w3)) → cf_M_akin (nI k) (nI k') w2 F := by
      intro F hF
      unfold cf_M_akin
      refine mp_isPlace (fun _ => ⟨fun z => absurd z one_ne', fun _ => mp_isPlace (fun _ => ⟨fun _ => ⟨vp_in_nI (by omega) (by omega), ?_⟩, fun z => absurd z one_ne'⟩) (fun z => absurd ⟨k', hk', rfl⟩ z)⟩) (fun z => absurd ⟨k, hk, rfl⟩ z)
      rw [nI_clamp (by omega), (core_poly' j2 hk e0).2]
      refine mp_radical j2 ha k4 (fun w3 q1 => ⟨vp_in_nI (by omega) (by omega), ?_⟩)
      rw [nI_clamp (by omega), (core_poly' q1 hk' g0).2]
      refine mp_radical q1 hb j4 (fun w4 q2 => ?_)
      have l1 := rad_lt ha k4
      have l2 := rad_lt hb j4
      rw [lN_eqI (by omega) (by omega), rad_eq k4 j4]
      have := hF w4 (core_Inv q2)
      exact ⟨this.2, this.1⟩
    refine sp_hasSame ha hb hA k4 j3 j4 (fun e => ⟨fun z => absurd z one_ne', fun _ => h _ _ (fun F hF => mo F (fun w3 i => ⟨fun _ => hF w3 i, fun z => absurd e z⟩))⟩) (fun e => ⟨fun _ => h _ _ (fun F hF => mo F (fun w3 i => ⟨fun z => absurd z e, fun _ => hF w3 i⟩)), fun z => absurd rfl z⟩)
  · unfold cf_M_akin
    refine mp_isPlace (fun z => ⟨fun q => absurd q one_ne', fun _ => mp_isPlace (fun z2 => absurd ⟨z, z2, z2⟩ hno) (fun _ => ⟨fun q => absurd rfl q, fun _ => hF⟩)⟩) (fun _ => ⟨fun _ => hF, fun q => absurd rfl q⟩)
