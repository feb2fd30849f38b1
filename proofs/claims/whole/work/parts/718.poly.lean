-- poly, stays, count
theorem rep_tight {bs : List (Nat × Nat)} (h : ∀ b, b ∈ bs → 1 ≤ b.2) : (rep bs).length = bs.length ↔ ∀ b, b ∈ bs → b.2 = 1 := by
  induction bs with
  | nil => exact ⟨fun _ b hb => absurd hb (by simp), fun _ => rfl⟩
  | cons x l ih =>
    have hl : ∀ b, b ∈ l → 1 ≤ b.2 := fun b hb => h b (List.mem_cons_of_mem _ hb)
    have hx := h x List.mem_cons_self
    have h1 := rep_len hl
    have e : (rep (x :: l)).length = x.2 + (rep l).length := by
      show (List.replicate x.2 x.1 ++ rep l).length = _
      rw [List.length_append, List.length_replicate]
    rw [e, List.length_cons]
    constructor
    · intro q b hb
      rcases List.mem_cons.mp hb with r | r
      · rw [r]; omega
      · exact (ih hl).mp (by omega) b r
    · intro q
      have h2 := q x List.mem_cons_self
      have h3 := (ih hl).mpr (fun b hb => q b (List.mem_cons_of_mem _ hb))
      omega
theorem mxt_one {bs : List (Nat × Nat)} (h : ∀ b, b ∈ bs → 1 ≤ b.2) (hne : bs ≠ []) : mxt bs = 1 ↔ ∀ b, b ∈ bs → b.2 = 1 := by
  constructor
  · intro e b hb
    have := le_mxt hb
    have := h b hb
    omega
  · intro q
    obtain ⟨b, hb, e⟩ := mxt_mem hne
    rw [← e]
    exact q b hb
theorem mp_polyB {a : Nat} {w : Wd} {j : Nat} {F : Int32 → Wd → Prop} (hj : j < 9) (ha : a < 2 ^ 32) (h0 : j = 0 → F (dI a) w) (h1 : j = 1 → F (nI (wt a)) w) (h2 : j = 2 → F (nI (wt a % 2)) w)
    (h3 : j = 3 → (w.1 30 6 ≤ 0 → F 0 w) ∧ (¬ w.1 30 6 ≤ 0 → cf_M_oftenest w (fun r7 => (¬ r7 = (1 : Int32) → F 0 w) ∧ (r7 = (1 : Int32) → F 1 w))))
    (h4 : j = 4 → (¬ w.1 30 6 = (1 : Int32) → F 0 w) ∧ (w.1 30 6 = (1 : Int32) → F 1 w))
    (h5 : j = 5 → cf_M_isPrimitive (lN a) w (fun r8 w9 => (r8 = 0 → F 0 w9) ∧ (¬ r8 = 0 → F 1 w9)))
    (h6 : j = 6 → F (w.1 30 6) w) (h7 : j = 7 → cf_M_unlikeFactors w (fun r10 => F r10 w))
    (h8 : j = 8 → (¬ w.1 30 6 = 0 → vp_in (w.1 30 6 - (1 : Int32)) 32 ∧ cf_M_degree (w.2 35 (w.1 30 6 - (1 : Int32)).toNatClampNeg) (fun r11 => F r11 w)) ∧ (w.1 30 6 = 0 → F 0 w)) : cf_M_poly_B36 F (nI j) (lN a) w := by
  have e : ∀ i, i < 9 → (nI j = nI i ↔ j = i) := fun i hi => nI_eq (by omega) (by omega)
  unfold cf_M_poly_B36
  refine ⟨fun z => mp_degree (by omega) (h0 ((e 0 (by omega)).mp z)), fun z => mp_weight (by omega) (h1 ((e 1 (by omega)).mp z)), fun z => mp_weight (by omega) ?_, fun z => h3 ((e 3 (by omega)).mp z), fun z => h4 ((e 4 (by omega)).mp z), fun z => h5 ((e 5 (by omega)).mp z), fun z => h6 ((e 6 (by omega)).mp z), fun z => h7 ((e 7 (by omega)).mp z), fun z => h8 ((e 8 (by omega)).mp z), fun z => ?_⟩
  · have hw : wt a ≤ 64 := wtF_le 64 a
    rw [show (2 : Int32) = nI 2 from rfl, nI_rem (by omega) (by omega) (by omega)]
    exact h2 ((e 2 (by omega)).mp z)
  · have en : (nI j).toInt = (j : Int) := nI_toInt (by omega)
    omega
theorem op_poly {w : Wd} (hI : Inv w) (a0 : Int32) (a1 : Int32) : same1 (cf_T_poly a0 a1 w) (cf_M_poly a0 a1) := by
  intro G h
  obtain ⟨now, u, past, kb, shelf, hc⟩ := hI
  have hI := core_Inv hc
  unfold cf_T_poly
  have mno : isPl a0 → ¬ (0 ≤ a1.toInt ∧ a1.toInt ≤ 8) → ∀ F : Int32 → Wd → Prop, F (-5) w → cf_M_poly a0 a1 w F := by
    intro ha hn F hF
    unfold cf_M_poly
    obtain ⟨k, hk, rfl⟩ := ha
    obtain ⟨a, ha, e0, e1, e2⟩ := core_poly hc hk
    refine mp_isPlace (fun _ => ⟨fun _ => ⟨vp_in_nI (by omega) (by omega), ?_⟩, fun z => absurd z one_ne'⟩) (fun z => absurd ⟨k, hk, rfl⟩ z)
    rintro _ rfl
    refine mp_inI (lo := 3) (hi := 8) (by decide) (by decide) (fun q => absurd ⟨by omega, q.2⟩ hn) (fun _ => ⟨fun _ => ?_, fun z => absurd rfl z⟩)
    have no : ∀ i : Int32, 0 ≤ i.toInt → i.toInt ≤ 8 → ¬ a1 = i := fun i h1 h2 e => hn (by rw [e]; exact ⟨h1, h2⟩)
    unfold cf_M_poly_B36
    exact ⟨fun z => absurd z (no 0 (by decide) (by decide)), fun z => absurd z (no 1 (by decide) (by decide)), fun z => absurd z (no 2 (by decide) (by decide)), fun z => absurd z (no 3 (by decide) (by decide)), fun z => absurd z (no 4 (by decide) (by decide)), fun z => absurd z (no 5 (by decide) (by decide)), fun z => absurd z (no 6 (by decide) (by decide)), fun z => absurd z (no 7 (by decide) (by decide)), fun z => absurd z (no 8 (by decide) (by decide)), fun _ => hF⟩
  rw [lt_k 0 (n := 0) (by decide), le_k 8 (n := 8) (by decide)]
  refine sp_isPlace (fun ha => ⟨fun z => absurd z one_ne', fun _ => ⟨fun c1 => both_stay hI h (fun F hF => mno ha (by omega) F hF), fun c1 => ⟨fun c2 => ?_, fun c2 => both_stay hI h (fun F hF => mno ha (by omega) F hF)⟩⟩⟩) (fun hno => ⟨fun _ => both_stay hI h (fun F hF => ?_), fun z => absurd rfl z⟩)
  · obtain ⟨k, hk, rfl⟩ := ha
    obtain ⟨j, hj, rfl, ej⟩ := nat_of (a := a1) (by omega)
    have hj9 : j < 9 := by omega
    obtain ⟨a, ha, e0, e1, e2⟩ := core_poly hc hk
    have e : ∀ i, i < 9 → (nI j = nI i ↔ j = i) := fun i hi => nI_eq (by omega) (by omega)
    refine sp_polyAt hk ?_
    rw [e1]
    have low : ∀ (F : Int32 → Wd → Prop), j < 3 → cf_M_poly_B36 F (nI j) (lN a) w → cf_M_poly (nI k) (nI j) w F := by
      intro F hj3 hF
      unfold cf_M_poly
      refine mp_isPlace (fun _ => ⟨fun _ => ⟨vp_in_nI (by omega) (by omega), ?_⟩, fun z => absurd z one_ne'⟩) (fun z => absurd ⟨k, hk, rfl⟩ z)
      rw [nI_clamp (by omega), e2]
      rintro _ rfl
      exact mp_inI (lo := 3) (hi := 8) (by decide) (by decide) (fun q => absurd q.1 (by omega)) (fun _ => ⟨fun _ => hF, fun z => absurd rfl z⟩)
    have high : ∀ (F : Int32 → Wd → Prop) (w1 : Wd) (bs : List (Nat × Nat)), okB a bs → core w1 now u past kb shelf → 3 ≤ j → (∀ w2, core w2 now u past kb shelf → isC w2 a (rep bs) → cf_M_poly_B36 F (nI j) (lN a) w2) → cf_M_poly (nI k) (nI j) w1 F := by
      intro F w1 bs hB hc1 hj3 hF
      unfold cf_M_poly
      refine mp_isPlace (fun _ => ⟨fun _ => ⟨vp_in_nI (by omega) (by omega), ?_⟩, fun z => absurd z one_ne'⟩) (fun z => absurd ⟨k, hk, rfl⟩ z)
      rw [nI_clamp (by omega), (core_poly' hc1 hk e0).2]
      rintro _ rfl
      exact mp_inI (lo := 3) (hi := 8) (by decide) (by decide) (fun q => ⟨fun z => absurd z one_ne', fun _ => M_lays hc1 ha hB (fun w2 j1 j2 j3 => hF w2 j2 j3)⟩) (fun q => absurd ⟨by omega, by omega⟩ q)
    refine ⟨fun z => ?_, fun z => ?_, fun z => ?_, fun z => ?_, fun z => ?_, fun z => ?_, fun z => ?_⟩
    · have z := (e 0 (by omega)).mp z
      refine sp_degree (by omega) (both_stay hI h (fun F hF => low F (by omega) (mp_polyB hj9 ha (fun _ => hF) (fun y => absurd y (by omega)) (fun y => absurd y (by omega)) (fun y => absurd y (by omega)) (fun y => absurd y (by omega)) (fun y => absurd y (by omega)) (fun y => absurd y (by omega)) (fun y => absurd y (by omega)) (fun y => absurd y (by omega)))))
    · have z := (e 1 (by omega)).mp z
      refine sp_bitCount (by omega) (both_stay hI h (fun F hF => low F (by omega) (mp_polyB hj9 ha (fun y => absurd y (by omega)) (fun _ => hF) (fun y => absurd y (by omega)) (fun y => absurd y (by omega)) (fun y => absurd y (by omega)) (fun y => absurd y (by omega)) (fun y => absurd y (by omega)) (fun y => absurd y (by omega)) (fun y => absurd y (by omega)))))
    · have z := (e 2 (by omega)).mp z
      refine sp_bitCount (by omega) ?_
      rw [show (1 : Int32) = nI 1 from rfl, nI_and, Nat.and_one_is_mod]
      exact both_stay hI h (fun F hF => low F (by omega) (mp_polyB hj9 ha (fun y => absurd y (by omega)) (fun y => absurd y (by omega)) (fun _ => hF) (fun y => absurd y (by omega)) (fun y => absurd y (by omega)) (fun y => absurd y (by omega)) (fun y => absurd y (by omega)) (fun y => absurd y (by omega)) (fun y => absurd y (by omega))))
    · have z := (e 3 (by omega)).mp z
      refine T_split hc (Or.inl rfl) ha (fun w1 bs k1 k2 k3 k4 => ?_)
      obtain ⟨hl1, hl2⟩ := okB_len ha k4
      have ht : ∀ b, b ∈ bs → 1 ≤ b.2 := fun b hb => (k4.2.2 b hb).2
      have mo : ∀ F : Int32 → Wd → Prop, (∀ w2, Inv w2 → (bs ≠ [] ∧ (∀ b, b ∈ bs → b.2 = 1) → F 1 w2) ∧ (¬ (bs ≠ [] ∧ (∀ b, b ∈ bs → b.2 = 1)) → F 0 w2)) → cf_M_poly (nI k) (nI j) w1 F := by
        intro F hF
        refine high F w1 bs k4 k2 (by omega) (fun w2 j1 j2 => mp_polyB hj9 ha (fun y => absurd y (by omega)) (fun y => absurd y (by omega)) (fun y => absurd y (by omega)) (fun _ => ?_) (fun y => absurd y (by omega)) (fun y => absurd y (by omega)) (fun y => absurd y (by omega)) (fun y => absurd y (by omega)) (fun y => absurd y (by omega)))
        have hF := hF w2 (core_Inv j1)
        have le0 : nI (rep bs).length ≤ (0 : Int32) ↔ (rep bs).length ≤ 0 := nI_leI (b := 0) (by omega) (by omega)
        rw [j2.2.2.1, le0]
        refine ⟨fun y => hF.2 (fun q => q.1 (List.length_eq_zero_iff.mp (by omega))), fun y => mp_oftenest ha k4 j2 ?_⟩
        have hne : bs ≠ [] := fun q => y (by rw [q]; exact Nat.le_refl _)
        have hmx : mxt bs ≤ 31 := mxt_le (fun b hb => (okB_mem ha k4 hb).2.2.2)
        rw [nI_eq1 (by omega), mxt_one ht hne]
        exact ⟨fun q => hF.2 (fun r => q r.2), fun q => hF.1 ⟨hne, q⟩⟩
      unfold cf_T_howSplit
      refine ⟨fun _ => ?_, fun y => absurd ((e 4 (by omega)).mp y) (by omega), fun y => absurd ((e 5 (by omega)).mp y) (by omega), fun y => absurd ((e 6 (by omega)).mp y) (by omega), fun y => absurd ((e 7 (by omega)).mp y) (by omega), fun y => absurd y (by omega)⟩
      show (w1.1 10 4 ≤ 0 → G 0 w1) ∧ (¬ w1.1 10 4 ≤ 0 → (¬ w1.1 10 4 = w1.1 10 3 → G 0 w1) ∧ (w1.1 10 4 = w1.1 10 3 → G 1 w1))
      have le0 : nI (rep bs).length ≤ (0 : Int32) ↔ (rep bs).length ≤ 0 := nI_leI (b := 0) (by omega) (by omega)
      rw [k3.1, k3.2.1, le0, nI_eq (by omega) (by omega), rep_tight ht]
      refine ⟨fun y => h _ _ (fun F hF => mo F (fun w2 i => ⟨fun q => absurd (List.length_eq_zero_iff.mp (by omega)) q.1, fun _ => hF w2 i⟩)), fun y => ⟨fun q => h _ _ (fun F hF => mo F (fun w2 i => ⟨fun r => absurd r.2 q, fun _ => hF w2 i⟩)), fun q => h _ _ (fun F hF => mo F (fun w2 i => ⟨fun _ => hF w2 i, fun r => absurd ⟨fun s => y (by rw [s]; exact Nat.le_refl _), q⟩ r⟩))⟩⟩
    · have z := (e 4 (by omega)).mp z
      have mo : ∀ F : Int32 → Wd → Prop, (∀ w2, Inv w2 → (irr a → F 1 w2) ∧ (¬ irr a → F 0 w2)) → cf_M_poly (nI k) (nI j) w F := by
        intro F hF
        by_cases ha0 : a = 0
        · -- 0 has no factors
          have hB : okB a [] := by
            rw [ha0]
            exact ⟨⟨fun p hp => absurd hp (by simp [rep]), List.Pairwise.nil, fun _ => rfl, fun z => absurd rfl z⟩, List.Pairwise.nil, fun b hb => absurd hb (by simp)⟩
          refine high F w [] hB hc (by omega) (fun w2 j1 j2 => mp_polyB hj9 ha (fun y => absurd y (by omega)) (fun y => absurd y (by omega)) (fun y => absurd y (by omega)) (fun y => absurd y (by omega)) (fun _ => ?_) (fun y => absurd y (by omega)) (fun y => absurd y (by omega)) (fun y => absurd y (by omega)) (fun y => absurd y (by omega)))
          rw [j2.2.2.1]
          refine ⟨fun _ => (hF w2 (core_Inv j1)).2 (fun q => by have := q.1; omega), fun y => absurd y (by decide)⟩
        · obtain ⟨bs, hB⟩ := okB_exists ha0
          obtain ⟨hl1, hl2⟩ := okB_len ha hB
          refine high F w bs hB hc (by omega) (fun w2 j1 j2 => mp_polyB hj9 ha (fun y => absurd y (by omega)) (fun y => absurd y (by omega)) (fun y => absurd y (by omega)) (fun y => absurd y (by omega)) (fun _ => ?_) (fun y => absurd y (by omega)) (fun y => absurd y (by omega)) (fun y => absurd y (by omega)) (fun y => absurd y (by omega)))
          rw [j2.2.2.1, nI_eq1 (by omega), ← isF_irr hB.1]
          exact ⟨(hF w2 (core_Inv j1)).2, (hF w2 (core_Inv j1)).1⟩
      refine sp_isIrr ha (fun hi => ⟨fun y => absurd y one_ne', fun _ => h _ _ (fun F hF => mo F (fun w2 i => ⟨fun _ => hF w2 i, fun q => absurd hi q⟩))⟩) (fun hi => ⟨fun _ => h _ _ (fun F hF => mo F (fun w2 i => ⟨fun q => absurd q hi, fun _ => hF w2 i⟩)), fun y => absurd rfl y⟩)
    · have z := (e 5 (by omega)).mp z
      have mo : ∀ (F : Int32 → Wd → Prop) (w1 : Wd), core w1 now u past kb shelf → (∀ w2, Inv w2 → (good True a → F 1 w2) ∧ (¬ good True a → F 0 w2)) → cf_M_poly (nI k) (nI j) w1 F := by
        intro F w1 hc1 hF
        have fin : ∀ bs, okB a bs → cf_M_poly (nI k) (nI j) w1 F := by
          intro bs hB
          refine high F w1 bs hB hc1 (by omega) (fun w2 j1 j2 => mp_polyB hj9 ha (fun y => absurd y (by omega)) (fun y => absurd y (by omega)) (fun y => absurd y (by omega)) (fun y => absurd y (by omega)) (fun y => absurd y (by omega)) (fun _ => ?_) (fun y => absurd y (by omega)) (fun y => absurd y (by omega)) (fun y => absurd y (by omega)))
          exact mp_isPrimitive j1 ha (fun w3 q1 q2 g => ⟨fun y => absurd y one_ne', fun _ => (hF w3 (core_Inv q2)).1 g⟩) (fun w3 q1 q2 g => ⟨fun _ => (hF w3 (core_Inv q2)).2 g, fun y => absurd rfl y⟩)
        by_cases ha0 : a = 0
        · refine fin [] ?_
          rw [ha0]
          exact ⟨⟨fun p hp => absurd hp (by simp [rep]), List.Pairwise.nil, fun _ => rfl, fun z => absurd rfl z⟩, List.Pairwise.nil, fun b hb => absurd hb (by simp)⟩
        · obtain ⟨bs, hB⟩ := okB_exists ha0
          exact fin bs hB
      have tg : good (¬ (1 : Int32) = 0) a ↔ good True a := ⟨fun g => ⟨g.1, fun _ => g.2 one_ne'⟩, fun g => ⟨g.1, fun _ => g.2 trivial⟩⟩
      refine sp_isSought ha (fun w1 k1 g => ⟨fun y => absurd y one_ne', fun _ => h _ _ (fun F hF => mo F w1 (core_cls hc (Or.inl rfl) k1) (fun w2 i => ⟨fun _ => hF w2 i, fun q => absurd (tg.mp g) q⟩))⟩) (fun w1 k1 g => ⟨fun _ => h _ _ (fun F hF => mo F w1 (core_cls hc (Or.inl rfl) k1) (fun w2 i => ⟨fun q => absurd (tg.mpr q) g, fun _ => hF w2 i⟩)), fun y => absurd rfl y⟩)
    · have hz : 6 ≤ j := by omega
      refine T_split hc (Or.inl rfl) ha (fun w1 bs k1 k2 k3 k4 => ?_)
      obtain ⟨hl1, hl2⟩ := okB_len ha k4
      unfold cf_T_howSplit
      refine ⟨fun y => absurd ((e 3 (by omega)).mp y) (by omega), fun y => absurd ((e 4 (by omega)).mp y) (by omega), fun y => absurd ((e 5 (by omega)).mp y) (by omega), fun y => ?_, fun y => ?_, fun y => ?_⟩
      · have y := (e 6 (by omega)).mp y
        show G (w1.1 10 4) w1
        rw [k3.2.1]
        refine h _ _ (fun F hF => high F w1 bs k4 k2 (by omega) (fun w2 j1 j2 => mp_polyB hj9 ha (fun y => absurd y (by omega)) (fun y => absurd y (by omega)) (fun y => absurd y (by omega)) (fun y => absurd y (by omega)) (fun y => absurd y (by omega)) (fun y => absurd y (by omega)) (fun _ => ?_) (fun y => absurd y (by omega)) (fun y => absurd y (by omega))))
        rw [j2.2.2.1]
        exact hF w2 (core_Inv j1)
      · have y := (e 7 (by omega)).mp y
        show G (w1.1 10 3) w1
        rw [k3.1]
        refine h _ _ (fun F hF => high F w1 bs k4 k2 (by omega) (fun w2 j1 j2 => mp_polyB hj9 ha (fun y => absurd y (by omega)) (fun y => absurd y (by omega)) (fun y => absurd y (by omega)) (fun y => absurd y (by omega)) (fun y => absurd y (by omega)) (fun y => absurd y (by omega)) (fun y => absurd y (by omega)) (fun _ => mp_unlike ha j2 ?_) (fun y => absurd y (by omega))))
        rw [un_all k4]
        exact hF w2 (core_Inv j1)
      · have en : (nI j).toInt = (j : Int) := nI_toInt (by omega)
        have y : j = 8 := by omega
        refine sp_greatest ha k3 k4 (h _ _ (fun F hF => high F w1 bs k4 k2 (by omega) (fun w2 j1 j2 => mp_polyB hj9 ha (fun y => absurd y (by omega)) (fun y => absurd y (by omega)) (fun y => absurd y (by omega)) (fun y => absurd y (by omega)) (fun y => absurd y (by omega)) (fun y => absurd y (by omega)) (fun y => absurd y (by omega)) (fun y => absurd y (by omega)) (fun _ => ?_))))
        have hF := hF w2 (core_Inv j1)
        rw [j2.2.2.1, nI_eq0 (by omega)]
        refine ⟨fun q => ?_, fun q => ?_⟩
        · rw [show nI (rep bs).length - (1 : Int32) = nI ((rep bs).length - 1) from pk_sub (b := 1) (by omega)]
          refine ⟨vp_in_nI (by omega) (by omega), ?_⟩
          have hx := (isC_lt ha j2).2 _ (getD_mem (show (rep bs).length - 1 < (rep bs).length by omega))
          rw [nI_clamp (by omega), j2.2.2.2 _ (by omega)]
          refine mp_degree (by omega) ?_
          rw [dI_pos (irr_ne hx.2)]
          exact hF
        · have : rep bs = [] := List.length_eq_zero_iff.mp q
          rw [this] at hF
          exact hF
  · unfold cf_M_poly
    exact mp_isPlace (fun z => absurd z hno) (fun _ => ⟨fun z => absurd rfl z, fun _ => hF⟩)
