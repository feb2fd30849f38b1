-- the class's parts: a joint of factors of one degree cut by traces
def sqf (J : Nat) : Prop := ∀ p, irr p → ¬ pdvd (cm p p) J
def unif (b e : Nat) : Prop := (∀ p, irr p → pdvd p e → pdvd p b) ∨ (∀ p, irr p → pdvd p e → ¬ pdvd p b)
theorem getD_lt {l : List Nat} {j : Nat} (h : j < l.length) : l.getD j 0 = l[j] := by
  rw [List.getD_eq_getElem?_getD, List.getElem?_eq_getElem h]
  rfl
theorem getD_mem {l : List Nat} {j : Nat} (h : j < l.length) : l.getD j 0 ∈ l := by
  rw [getD_lt h]
  exact List.getElem_mem h
theorem mem_getD {l : List Nat} {e : Nat} (h : e ∈ l) : ∃ j, j < l.length ∧ l.getD j 0 = e := by
  obtain ⟨j, hj, rfl⟩ := List.mem_iff_getElem.mp h
  exact ⟨j, hj, getD_lt hj⟩
theorem getD_set {l : List Nat} {i j x : Nat} (hi : i < l.length) : (l.set i x).getD j 0 = if j = i then x else l.getD j 0 := by
  rw [List.getD_eq_getElem?_getD, List.getD_eq_getElem?_getD, List.getElem?_set]
  by_cases h : i = j
  · subst h
    rw [if_pos rfl, if_pos rfl, if_pos hi]
    rfl
  · rw [if_neg h, if_neg (fun z => h z.symm)]
theorem pprod_set : ∀ (l : List Nat) (i g : Nat), i < l.length → cm (pprod (l.set i g)) (l.getD i 0) = cm (pprod l) g
  | [], i, _, h => absurd h (by simp)
  | a :: l, 0, g, _ => by
    show cm (cm g (pprod l)) a = cm (cm a (pprod l)) g
    rw [cm_comm (cm g _) a, cm_left_comm, cm_comm g]
  | a :: l, i + 1, g, h => by
    have ih := pprod_set l i g (by simpa using h)
    show cm (cm a (pprod (l.set i g))) (l.getD i 0) = cm (cm a (pprod l)) g
    rw [cm_assoc, ih, cm_assoc]
theorem pprod_ne2 {l : List Nat} (h : ∀ e, e ∈ l → 2 ≤ e) : pprod l ≠ 0 := by
  induction l with
  | nil => decide
  | cons a l ih =>
    exact cm_ne (by have := h a List.mem_cons_self; omega) (ih (fun e he => h e (List.mem_cons_of_mem _ he)))
theorem len_deg {d : Nat} {l : List Nat} (h : ∀ e, e ∈ l → 2 ≤ e ∧ d ≤ dg e) : l.length * d ≤ dg (pprod l) := by
  induction l with
  | nil => rw [List.length_nil, Nat.zero_mul]; exact Nat.zero_le _
  | cons a l ih =>
    have h1 := ih (fun e he => h e (List.mem_cons_of_mem _ he))
    have ha := h a List.mem_cons_self
    show (l.length + 1) * d ≤ dg (cm a (pprod l))
    rw [dg_cm (by omega) (pprod_ne2 (fun e he => (h e (List.mem_cons_of_mem _ he)).1)), Nat.succ_mul]
    omega
theorem deg_tight {d : Nat} {l : List Nat} (h : ∀ e, e ∈ l → 2 ≤ e ∧ d ≤ dg e) (ht : dg (pprod l) ≤ l.length * d) : ∀ e, e ∈ l → dg e = d := by
  induction l with
  | nil => exact fun e he => absurd he (by simp)
  | cons a l ih =>
    have h' : ∀ e, e ∈ l → 2 ≤ e ∧ d ≤ dg e := fun e he => h e (List.mem_cons_of_mem _ he)
    have h1 := len_deg h'
    have ha := h a List.mem_cons_self
    have e1 : dg (pprod (a :: l)) = dg a + dg (pprod l) := dg_cm (by omega) (pprod_ne2 (fun e he => (h' e he).1))
    have e2 : (a :: l).length * d = l.length * d + d := Nat.succ_mul _ _
    rw [e1, e2] at ht
    intro e he
    rcases List.mem_cons.mp he with q | q
    · rw [q]; omega
    · exact ih h' (by omega) e q
theorem len_dg2 {l : List Nat} (h : ∀ e, e ∈ l → 2 ≤ e) : l.length ≤ dg (pprod l) := by
  have := len_deg (d := 1) (l := l) (fun e he => ⟨h e he, dg_pos (h e he)⟩)
  omega
theorem sp_cutParts {c J b many : Nat} {Q : Nat → Prop} {w0 : Wd} {ls0 : List Nat} {P : Int32 → Wd → Prop} (hJ0 : J ≠ 0) (hJ : J < 2 ^ 32) (hs : sqf J) (hb : b < 2 ^ 32) (hQ : ∀ e e', Q e → pdvd e' e → Q e') (hm : ls0.length = many) (g0 : pprod ls0 = J) (g1 : ∀ e, e ∈ ls0 → 2 ≤ e ∧ Q e) (hc : isP c w0 ls0)
    (h : ∀ w' ls, fr [] [] [c + 3] w0 w' → pprod ls = J → (∀ e, e ∈ ls → (2 ≤ e ∧ Q e) ∧ unif b e) → isP c w' ls → P (nI ls.length) w') : cf_Factors_cutParts c (nI many) (lN b) w0 P := by
  have dJ : dg J ≤ 31 := by have := (dg_lt hJ0).mpr hJ; omega
  have key : ∀ m i ls w, many ≤ i + m → i ≤ many → many ≤ ls.length → fr [] [] [c + 3] w0 w → pprod ls = J → (∀ e, e ∈ ls → 2 ≤ e ∧ Q e) → isP c w ls → (∀ j, j < ls.length → (j < i ∨ many ≤ j) → unif b (ls.getD j 0)) → ∀ n, m < n → cf_Factors_cutParts_L6 c P n (nI many) (lN b) (nI ls.length) (nI i) w := by
    intro m
    induction m with
    | zero =>
      intro i ls w hi him hml hf e1 e2 hp hu n hn
      obtain ⟨n, rfl⟩ : ∃ m, n = m + 1 := ⟨n - 1, by omega⟩
      show cf_Factors_cutParts_B6 _ _ _ _ _ _ _ _
      unfold cf_Factors_cutParts_B6
      have hl := len_dg2 (fun e he => (e2 e he).1)
      rw [e1] at hl
      refine ⟨fun _ => h w ls hf e1 (fun e he => ⟨e2 e he, ?_⟩) hp, fun z => absurd ((nI_leI (by omega) (by omega)).mpr (by omega)) z⟩
      obtain ⟨j, hj, rfl⟩ := mem_getD he
      exact hu j hj (by omega)
    | succ m ih =>
      intro i ls w hi him hml hf e1 e2 hp hu n hn
      obtain ⟨n, rfl⟩ : ∃ m, n = m + 1 := ⟨n - 1, by omega⟩
      have hl := len_dg2 (fun e he => (e2 e he).1)
      rw [e1] at hl
      by_cases him2 : i = many
      · exact ih i ls w (by omega) him hml hf e1 e2 hp hu (n + 1) (by omega)
      show cf_Factors_cutParts_B6 _ _ _ _ _ _ _ _
      unfold cf_Factors_cutParts_B6
      refine ⟨fun z => ?_, fun _ => ⟨fun z => ?_, fun _ => ⟨vp_in_nI (by omega) (by omega), ?_⟩⟩⟩
      · have := (nI_leI (show many < 2 ^ 31 by omega) (show i < 2 ^ 31 by omega)).mp z
        omega
      · have := (nI_leI (show 31 < 2 ^ 31 by decide) (show i < 2 ^ 31 by omega)).mp z
        omega
      have hil : i < ls.length := by omega
      have hmem := getD_mem hil
      have hpi := hp i hil
      have hall : ∀ e, e ∈ ls → e < 2 ^ 32 := by
        intro e he
        have h1 := mem_dvd_pprod he
        rw [e1] at h1
        have h2 := pdvd_dg hJ0 h1
        have h3 := e2 e he
        exact (dg_lt (by omega)).mp (by omega)
      have hei := hall _ hmem
      have hei2 := e2 _ hmem
      have heJ : pdvd (ls.getD i 0) J := by
        have := mem_dvd_pprod hmem
        rw [e1] at this
        exact this
      rw [nI_clamp (show i < 2 ^ 31 by omega), hpi]
      -- going on with the list as it is
      have stay : unif b (ls.getD i 0) → ∀ v, v = nI i + 1 → cf_Factors_cutParts_L6 c P n (nI many) (lN b) (nI ls.length) v w := by
        rintro hun _ rfl
        rw [nI_1]
        refine ih (i + 1) ls w (by omega) (by omega) hml hf e1 e2 hp (fun j hj hjj => ?_) n (by omega)
        by_cases hji : j = i
        · rw [hji]; exact hun
        · exact hu j hj (by omega)
      refine sp_gcd (by omega) (by omega) ?_
      have hg1 := pgcd_dvd_left (ls.getD i 0) b
      have hg2 := pgcd_dvd_right (ls.getD i 0) b
      have hglt : pgcd (ls.getD i 0) b < 2 ^ 32 := pgcd_bd hei hb
      have hg0 : pgcd (ls.getD i 0) b ≠ 0 := pgcd_ne (by omega)
      rw [lN_eq1 (by omega)]
      refine ⟨fun cc => stay (Or.inr (fun p hp1 hp2 hp3 => ?_)), fun cc => ⟨vp_in_nI (by omega) (by omega), ?_⟩⟩
      · have := pdvd_pgcd hp2 hp3
        rw [cc] at this
        exact irr_not_one hp1 this
      rw [lN_eqI (by omega) (by omega)]
      refine ⟨fun cc2 => stay (Or.inl (fun p hp1 hp2 => ?_)), fun cc2 => ⟨fun z => ?_, fun _ => ⟨vp_in_nI (by omega) (by omega), ?_⟩⟩⟩
      · rw [← cc2] at hp2
        exact pdvd_trans hp2 hg2
      · -- no room: there is always some
        exfalso
        have h31 := (nI_leI (show 31 < 2 ^ 31 by decide) (show ls.length < 2 ^ 31 by omega)).mp z
        have hq0 := pdiv_ne hg0 (show ls.getD i 0 ≠ 0 by omega) hg1
        have hqm := pdiv_mul hg0 hg1
        have hq1 : pdiv (ls.getD i 0) (pgcd (ls.getD i 0) b) ≠ 1 := by
          intro z
          rw [z, one_cm] at hqm
          exact cc2 hqm
        have h3 : ∀ e, e ∈ ls.set i (pgcd (ls.getD i 0) b) ++ [pdiv (ls.getD i 0) (pgcd (ls.getD i 0) b)] → 2 ≤ e := by
          intro e he
          rcases List.mem_append.mp he with q | q
          · rcases List.mem_or_eq_of_mem_set q with q | q
            · exact (e2 e q).1
            · omega
          · rw [List.mem_singleton.mp q]; omega
        have h4 := len_dg2 h3
        have h5 := pprod_set ls i (pgcd (ls.getD i 0) b) hil
        have h6 : pprod (ls.set i (pgcd (ls.getD i 0) b) ++ [pdiv (ls.getD i 0) (pgcd (ls.getD i 0) b)]) = J := by
          rw [pprod_append]
          show cm _ (cm _ 1) = J
          rw [cm_one, ← e1]
          refine cm_cancel hg0 ?_
          rw [cm_comm _ (pprod ls), ← h5, cm_left_comm, cm_comm (pgcd _ _), hqm]
        rw [h6] at h4
        simp at h4
        omega
      · refine sp_quotient (by omega) (by omega) hg0 ?_
        have hq0 := pdiv_ne hg0 (show ls.getD i 0 ≠ 0 by omega) hg1
        have hqm := pdiv_mul hg0 hg1
        have hq1 : pdiv (ls.getD i 0) (pgcd (ls.getD i 0) b) ≠ 1 := by
          intro z
          rw [z, one_cm] at hqm
          exact cc2 hqm
        have hqd := pdiv_dvd hg0 hg1
        generalize hgg : pgcd (ls.getD i 0) b = g at *
        generalize hqq : pdiv (ls.getD i 0) g = q at *
        have h3 : ∀ e, e ∈ ls.set i g ++ [q] → 2 ≤ e ∧ Q e := by
          intro e he
          rcases List.mem_append.mp he with r | r
          · rcases List.mem_or_eq_of_mem_set r with r | r
            · exact e2 e r
            · rw [r]; exact ⟨by omega, hQ _ _ hei2.2 hg1⟩
          · rw [List.mem_singleton.mp r]; exact ⟨by omega, hQ _ _ hei2.2 hqd⟩
        have h4 := len_dg2 (fun e he => (h3 e he).1)
        have h5 := pprod_set ls i g hil
        have h6 : pprod (ls.set i g ++ [q]) = J := by
          rw [pprod_append]
          show cm _ (cm _ 1) = J
          rw [cm_one, ← e1]
          refine cm_cancel hg0 ?_
          rw [cm_comm _ (pprod ls), ← h5, cm_left_comm, cm_comm g, hqm]
        rw [h6] at h4
        have hll : (ls.set i g ++ [q]).length = ls.length + 1 := by simp
        rw [hll] at h4
        refine ⟨vp_in_nI (by omega) (by omega), ?_⟩
        rw [nI_clamp (by omega)]
        rintro _ rfl
        refine ⟨vp_in_nI (by omega) (by omega), ?_⟩
        rintro _ rfl _ rfl _ rfl
        rw [nI_1, nI_1]
        have := ih (i + 1) (ls.set i g ++ [q]) (wL (wL w (c + 3) ls.length (lN q)) (c + 3) i (lN g)) (by omega) (by omega) (by omega) (fr_wL _ (fr_wL _ hf (by simp)) (by simp)) h6 h3 (fun j hj => ?_) (fun j hj hjj => ?_) n (by omega)
        · rw [hll] at this
          exact this
        · rw [hll] at hj
          rw [wL_2, wL_2]
          by_cases ej : j = ls.length
          · subst ej
            rw [if_neg (by omega), if_pos ⟨rfl, rfl⟩]
            have e9 : (ls.set i g).length = ls.length := by simp
            have := getD_append_last (l := ls.set i g) (x := q)
            rw [e9] at this
            rw [this]
          · have e9 : (ls.set i g).length = ls.length := by simp
            rw [getD_append_left' (by omega), getD_set hil]
            by_cases ei : j = i
            · rw [if_pos ⟨rfl, ei⟩, if_pos ei]
            · rw [if_neg (fun z => ei z.2), if_neg (fun z => ej z.2), if_neg ei]
              exact hp j (by omega)
        · rw [hll] at hj
          have e9 : (ls.set i g).length = ls.length := by simp
          by_cases ej : j = ls.length
          · have := getD_append_last (l := ls.set i g) (x := q)
            rw [e9] at this
            rw [ej, this]
            refine Or.inr (fun p hp1 hp2 hp3 => hs p hp1 ?_)
            have h7 : pdvd p g := by
              rw [← hgg]
              exact pdvd_pgcd (pdvd_trans hp2 hqd) hp3
            refine pdvd_trans ?_ heJ
            rw [← hqm]
            obtain ⟨s, es⟩ := hp2
            obtain ⟨t, et⟩ := h7
            refine ⟨cm s t, ?_⟩
            rw [es, et, cm_assoc, cm_left_comm p t, ← cm_assoc]
          · rw [getD_append_left' (by omega), getD_set hil]
            by_cases ei : j = i
            · rw [if_pos ei]
              exact Or.inl (fun p hp1 hp2 => pdvd_trans hp2 hg2)
            · rw [if_neg ei]
              exact hu j (by omega) (by omega)
  unfold cf_Factors_cutParts
  have := key many 0 ls0 w0 (by omega) (by omega) (by omega) (fr_refl _ _ _ _) g0 g1 hc (fun j hj hjj => by omega) (many + 1) (by omega)
  rw [hm] at this
  exact ⟨_, this⟩
/-- no trace of an odd power below i tells two factors of e apart -/
def told (d i e : Nat) : Prop := ∀ k, k < i → k % 2 = 1 → ∀ p q, irr p → irr q → pdvd p e → pdvd q e → (pdvd p (tr d (ppow 2 k)) ↔ pdvd q (tr d (ppow 2 k)))
theorem told_dvd {d i e e' : Nat} (h : told d i e) (hd : pdvd e' e) : told d i e' := fun k hk ho p q hp hq h1 h2 => h k hk ho p q hp hq (pdvd_trans h1 hd) (pdvd_trans h2 hd)
theorem sqf_dvd {a b : Nat} (h : sqf a) (hd : pdvd b a) : sqf b := fun p hp z => h p hp (pdvd_trans z hd)
theorem told_all {J d e : Nat} (hJ0 : J ≠ 0) (hs : sqf J) (hd : ∀ p, irr p → pdvd p J → dg p = d) (he : 2 ≤ e) (heJ : pdvd e J) (ht : told d (dg J) e) : irr e := by
  obtain ⟨p, hp, hpe⟩ := exists_irr e he
  obtain ⟨r, er⟩ := hpe
  by_cases h1 : r = 1
  · rw [h1, one_cm] at er
    rw [er]; exact hp
  · have hr0 : r ≠ 0 := by
      intro z
      rw [z, zero_cm] at er
      omega
    obtain ⟨q, hq, hqr⟩ := exists_irr r (by omega)
    exfalso
    have hqe : pdvd q e := by rw [er]; exact pdvd_mul_right _ hqr
    have hpe : pdvd p e := ⟨r, er⟩
    have dp := hd p hp (pdvd_trans hpe heJ)
    have dq := hd q hq (pdvd_trans hqe heJ)
    have hdd := pdvd_dg hJ0 heJ
    have hde : dg e = dg r + dg p := by rw [er, dg_cm hr0 (irr_ne hp)]
    have hdr := pdvd_dg hr0 hqr
    have : p = q := tr_same hp hq dp dq (n := dg J) (by omega) (fun i hi ho => ht i hi ho p q hp hq hpe hqe)
    subst this
    obtain ⟨s, es⟩ := hqr
    refine hs p hp (pdvd_trans ⟨s, ?_⟩ heJ)
    rw [er, es, cm_assoc]
theorem cg_pow_add {f a b m n : Nat} (h1 : cg f a (ppow 2 m)) (h2 : cg f b (ppow 2 n)) : cg f (cm a b) (ppow 2 (m + n)) := by
  rw [ppow_add]
  exact cg_cm h1 h2
theorem sp_partInto {c d J : Nat} {w0 : Wd} {P : Int32 → Wd → Prop} (hd1 : 1 ≤ d) (hd2 : d ≤ 31) (hJ0 : J ≠ 0) (hJ : J < 2 ^ 32) (hs : sqf J) (hd : ∀ p, irr p → pdvd p J → dg p = d)
    (h : ∀ w' ls, fr [] [] [c + 3] w0 w' → pprod ls = J → (∀ e, e ∈ ls → irr e) → isP c w' ls → P (nI ls.length) w') : cf_Factors_partInto c (lN J) (nI d) w0 P := by
  have dJ : dg J ≤ 31 := by have := (dg_lt hJ0).mpr hJ; omega
  have fin : ∀ w ls, fr [] [] [c + 3] w0 w → pprod ls = J → (∀ e, e ∈ ls → 2 ≤ e) → isP c w ls → ((∀ e, e ∈ ls → told d (dg J) e) ∨ dg J ≤ ls.length * d) → P (nI ls.length) w := by
    intro w ls hf e1 e2 hp hor
    have hdv : ∀ e, e ∈ ls → pdvd e J := fun e he => by rw [← e1]; exact mem_dvd_pprod he
    refine h w ls hf e1 (fun e he => ?_) hp
    rcases hor with q | q
    · exact told_all hJ0 hs hd (e2 e he) (hdv e he) (q e he)
    · have hge : ∀ e, e ∈ ls → 2 ≤ e ∧ d ≤ dg e := by
        intro e he
        have h2 := e2 e he
        obtain ⟨p, hp, hpe⟩ := exists_irr e h2
        have h3 := hd p hp (pdvd_trans hpe (hdv e he))
        have h4 := pdvd_dg (show e ≠ 0 by omega) hpe
        exact ⟨h2, by omega⟩
      have h5 := deg_tight hge (by rw [e1]; exact q) e he
      obtain ⟨p, hp, hpe⟩ := exists_irr e (e2 e he)
      have h3 := hd p hp (pdvd_trans hpe (hdv e he))
      obtain ⟨r, er⟩ := hpe
      have he0 := e2 e he
      have hr0 : r ≠ 0 := by
        intro z
        rw [z, zero_cm] at er
        omega
      have h6 : dg e = dg r + dg p := by rw [er, dg_cm hr0 (irr_ne hp)]
      have h7 := (dg_self hr0).2
      have h8 : dg r = 0 := by omega
      rw [h8] at h7
      have : r = 1 := by omega
      rw [this, one_cm] at er
      rw [er]
      exact hp
  have key : ∀ m i ls w, dg J ≤ i + m → i % 2 = 1 → fr [] [] [c + 3] w0 w → pprod ls = J → (∀ e, e ∈ ls → 2 ≤ e ∧ told d i e) → isP c w ls → i < 100 → ∀ n, m < n → cf_Factors_partInto_L32 c P n (lN J) (nI d) (nI (dg J)) (nI ls.length) (nI i) w := by
    intro m
    induction m with
    | zero =>
      intro i ls w hi ho hf e1 e2 hp hib n hn
      obtain ⟨n, rfl⟩ : ∃ m, n = m + 1 := ⟨n - 1, by omega⟩
      show cf_Factors_partInto_B32 _ _ _ _ _ _ _ _ _
      unfold cf_Factors_partInto_B32
      refine ⟨fun _ => fin w ls hf e1 (fun e he => (e2 e he).1) hp (Or.inl (fun e he k hk => (e2 e he).2 k (by omega))), fun z => absurd ((nI_leI (by omega) (by omega)).mpr (by omega)) z⟩
    | succ m ih =>
      intro i ls w hi ho hf e1 e2 hp hib n hn
      obtain ⟨n, rfl⟩ : ∃ m, n = m + 1 := ⟨n - 1, by omega⟩
      show cf_Factors_partInto_B32 _ _ _ _ _ _ _ _ _
      unfold cf_Factors_partInto_B32
      rw [nI_leI (by omega) (by omega)]
      refine ⟨fun cc => fin w ls hf e1 (fun e he => (e2 e he).1) hp (Or.inl (fun e he k hk => (e2 e he).2 k (by omega))), fun cc => ?_⟩
      have hl := len_dg2 (fun e he => (e2 e he).1)
      rw [e1] at hl
      have hmul : ls.length * d ≤ 31 * 31 := Nat.mul_le_mul (by omega) hd2
      rw [nI_mul, nI_leI (by omega) (by omega)]
      refine ⟨fun cc2 => fin w ls hf e1 (fun e he => (e2 e he).1) hp (Or.inr cc2), fun _ => ?_⟩
      rw [nI_l (by omega)]
      refine sp_powerBy (a := 2) (by omega) (by omega) hJ hJ0 ?_
      have inner : ∀ m2 j cj sm, j + m2 = d → 1 ≤ j → cg J cj (ppow (ppow 2 i) (2 ^ (j - 1))) → cj < 2 ^ 32 → cg J sm (tr j (ppow 2 i)) → sm < 2 ^ 32 → ∀ n2, m2 < n2 → cf_Factors_partInto_L67 c (cf_Factors_partInto_L32 c P n) P n2 (lN J) (nI d) (nI (dg J)) (nI ls.length) (nI i) (lN cj) (lN sm) (nI j) w := by
        intro m2
        induction m2 with
        | zero =>
          intro j cj sm hj hj1 hcj hcl hsm hsl n2 hn2
          obtain ⟨n2, rfl⟩ : ∃ m, n2 = m + 1 := ⟨n2 - 1, by omega⟩
          show cf_Factors_partInto_B67 c _ _ P _ _ _ _ _ _ _ _ _
          unfold cf_Factors_partInto_B67
          have : j = d := by omega
          subst this
          refine ⟨fun _ => ?_, fun z => absurd ((nI_leI (show j < 2 ^ 31 by omega) (show j < 2 ^ 31 by omega)).mpr (Nat.le_refl _)) z⟩
          refine sp_cutParts (Q := told j i) hJ0 hJ hs hsl (fun e e' h1 h2 => told_dvd h1 h2) rfl e1 e2 hp (fun w' ls' k1 k2 k3 k4 => ?_)
          rintro _ rfl
          have e3 : nI i + (2 : Int32) = nI (i + 2) := nI_add i 2
          rw [e3]
          refine ih (i + 2) ls' w' (by omega) (by omega) (fr_trans hf k1) k2 (fun e he => ⟨(k3 e he).1.1, ?_⟩) k4 (by omega) n (by omega)
          intro k hk hko p q hp1 hq1 hpe hqe
          by_cases hki : k < i
          · exact (k3 e he).1.2 k hki hko p q hp1 hq1 hpe hqe
          · have hki2 : k = i := by omega
            subst hki2
            have heJ : pdvd e J := by rw [← k2]; exact mem_dvd_pprod he
            have hpJ := pdvd_trans hpe heJ
            have hqJ := pdvd_trans hqe heJ
            rw [← cg_dvd_iff hsm hpJ, ← cg_dvd_iff hsm hqJ]
            rcases (k3 e he).2 with r | r
            · exact ⟨fun _ => r q hq1 hqe, fun _ => r p hp1 hpe⟩
            · exact ⟨fun z => absurd z (r p hp1 hpe), fun z => absurd z (r q hq1 hqe)⟩
        | succ m2 ih2 =>
          intro j cj sm hj hj1 hcj hcl hsm hsl n2 hn2
          obtain ⟨n2, rfl⟩ : ∃ m, n2 = m + 1 := ⟨n2 - 1, by omega⟩
          show cf_Factors_partInto_B67 c _ _ P _ _ _ _ _ _ _ _ _
          unfold cf_Factors_partInto_B67
          rw [nI_leI (by omega) (by omega)]
          refine ⟨fun z => absurd z (by omega), fun _ => ?_⟩
          refine sp_squareBy hcl (by omega) ?_
          rintro _ rfl _ rfl
          rw [lN_xor, nI_1]
          have hr := pmod_lt31 hJ0 hJ (cm cj cj)
          have hcg : cg J (pmod (cm cj cj) J) (ppow (ppow 2 i) (2 ^ j)) := by
            refine cg_trans (cg_pmod hJ0 _) ?_
            have e4 : j = (j - 1) + 1 := by omega
            rw [e4, fro_succ]
            exact cg_cm hcj hcj
          exact ih2 (j + 1) _ _ (by omega) (by omega) hcg (by omega) (cg_xor hsm hcg) (Nat.xor_lt_two_pow hsl (by omega)) n2 (by omega)
      have hb := pmod_lt31 hJ0 hJ (ppow 2 i)
      have hc1 : cg J (pmod (ppow 2 i) J) (ppow 2 i) := cg_pmod hJ0 _
      refine ⟨d, inner (d - 1) 1 _ _ (by omega) (Nat.le_refl _) ?_ (by omega) ?_ (by omega) d (by omega)⟩
      · rw [Nat.sub_self, fro_zero]; exact hc1
      · show cg J _ (tr 0 (ppow 2 i) ^^^ ppow (ppow 2 i) (2 ^ 0))
        rw [fro_zero]
        show cg J _ (0 ^^^ ppow 2 i)
        rw [Nat.zero_xor]
        exact hc1
  unfold cf_Factors_partInto
  refine sp_degree (by omega) ⟨fun cc => ?_, fun cc => ⟨fun _ => ⟨vp_in_nI (n := 0) (by omega) (by omega), ?_⟩, fun z => absurd ((nI_leI (show 1 < 2 ^ 31 by decide) (show d < 2 ^ 31 by omega)).mpr hd1) z⟩⟩
  · have := (dI_lt1 (m := J) (by omega)).mp cc
    have : J = 1 := by omega
    exact h w0 [] (fr_refl _ _ _ _) this.symm (fun e he => absurd he (by simp)) (fun j hj => absurd hj (by simp))
  · have hJ2 : 2 ≤ J := by
      have : ¬ J < 2 := fun z => cc ((dI_lt1 (m := J) (by omega)).mpr z)
      omega
    rintro _ rfl
    rw [dI_pos hJ0]
    refine ⟨dg J + 1, key (dg J) 1 [J] _ (by omega) rfl (fr_wL _ (fr_refl _ _ _ _) (by simp)) (cm_one J) (fun e he => ?_) (fun j hj => ?_) (by omega) _ (by omega)⟩
    · rw [List.mem_singleton.mp he]
      exact ⟨hJ2, fun k hk ho => by omega⟩
    · have : j = 0 := by simpa using hj
      subst this
      rw [wL_2, if_pos ⟨rfl, rfl⟩]
      rfl
