-- divisor: the model's factors leave its count alone
def kv (w w' : Wd) : Prop := kp w w' ∧ ∀ i, (i == 34) = true → w'.1 30 i = w.1 30 i
theorem kv_refl (w : Wd) : kv w w := ⟨kp_refl w, fun _ _ => rfl⟩
theorem kv_wI {w w' : Wd} {j : Nat} (x : Int32) (h : kv w w') (hn : (rI 30 j || (j == 34)) = false) : kv w (wI w' 30 j x) := by
  have h2 := Bool.or_eq_false_iff.mp hn
  refine ⟨kp_wI x h.1 h2.1, fun i hi => ?_⟩
  rw [wI_1, if_neg]
  · exact h.2 i hi
  · rintro ⟨-, rfl⟩
    rw [h2.2] at hi
    exact absurd hi (by decide)
theorem kv_wL {w w' : Wd} {c j : Nat} (x : Int64) (h : kv w w') (hn : rL c = false) : kv w (wL w' c j x) :=
  ⟨kp_wL x h.1 hn, fun i hi => by rw [wL_1]; exact h.2 i hi⟩
theorem mv_inner {w0 : Wd} {a : Nat} (ha : a < 2 ^ 32) {K : Int64 → Int64 → Wd → Prop} {P : Wd → Prop} {d : Nat} (hd : 2 ≤ d) (hd2 : d < 2 ^ 32)
    (h : ∀ w left acc, kv w0 w → trial w a left (d + 1) acc → left < 2 ^ 32 → K (lN left) (lN (d + 1)) w) :
    ∀ m w left acc, kv w0 w → trial w a left d acc → left < 2 ^ 32 → sz left ≤ m → ∀ n, m < n → cf_M_laysFactors_L52 K P n (lN left) (lN d) w := by
  intro m
  induction m with
  | zero =>
    intro w left acc _ ht _ hm
    have := sz_pos ht.2.2.2.1
    omega
  | succ m ih =>
    intro w left acc hk ht hl hm n hn
    obtain ⟨n, rfl⟩ : ∃ m, n = m + 1 := ⟨n - 1, by omega⟩
    show cf_M_laysFactors_B52 K _ P _ _ _
    unfold cf_M_laysFactors_B52
    have hdg := trial_dg ht
    obtain ⟨t1, t2, t3, t4, t5, t6, t7, t8, t9⟩ := ht
    have up : ¬ pdvd d left → K (lN left) (lN (d + 1)) w := by
      intro hnd
      refine h w left acc hk ⟨t1, t2, t3, t4, t5, t6, t7, fun p hp => by have := t8 p hp; omega, fun e he hel => ?_⟩ hl
      have := t9 e he hel
      have : e ≠ d := fun z => hnd (z ▸ hel)
      omega
    have hl63 : left < 2 ^ 63 := by omega
    have hd63 : d < 2 ^ 63 := by omega
    refine mp_degree (by omega) (mp_degree (by omega) ⟨fun c => ?_, fun c => ?_⟩)
    · rintro _ rfl
      rw [lN_succ]
      refine up (fun hdv => ?_)
      have h1 := pdvd_dg t4 hdv
      have h2 := (dI_lt_dI hl63 hd63 (by omega)).mp c
      rw [sz_pos t4, sz_pos (by omega)] at h2
      omega
    · refine mp_restOf hl63 hd63 (by omega) ⟨fun c2 => ?_, fun c2 => ?_⟩
      · rintro _ rfl
        rw [lN_succ]
        refine up (fun hdv => c2 ?_)
        rw [(pdvd_iff (by omega) _).mp hdv]
        rfl
      · have hdv : pdvd d left := (pdvd_iff (by omega) _).mpr ((lN_eq0 (Nat.lt_of_lt_of_le (pmod_bd hl) (by decide))).mp c2)
        have hirr : irr d := by
          refine ⟨hd, fun e he => ?_⟩
          by_cases e1 : e = 1
          · exact Or.inl e1
          · right
            have he0 : e ≠ 0 := by
              intro z
              rw [z] at he
              have := zero_pdvd he
              omega
            have h1 := t9 e (by omega) (pdvd_trans he hdv)
            obtain ⟨q, hq⟩ := he
            have hq0 : q ≠ 0 := by
              intro z
              rw [z, zero_cm] at hq
              omega
            have h2 := dg_cm hq0 he0
            rw [← hq] at h2
            have h3 := dg_le he0 h1
            have h4 : dg q = 0 := by omega
            have h5 := (dg_self hq0).2
            rw [h4] at h5
            have : q = 1 := by omega
            rw [this, one_cm] at hq
            exact hq.symm
        have hdd := irr_dg hirr
        have hdl := pdvd_dg t4 hdv
        have hda : dg a ≤ 31 := by
          by_cases z : a = 0
          · rw [z]; decide
          · have := (dg_lt z).mpr ha; omega
        rw [t2]
        refine ⟨vp_in_nI (by omega) (by omega), ?_⟩
        rw [nI_clamp (by omega)]
        rintro _ rfl _ rfl
        rw [wL_1, t2, nI_1]
        refine mp_quotient hl63 hd63 (by omega) ?_
        have hq0 := pdiv_ne (show d ≠ 0 by omega) t4 hdv
        have hqm := pdiv_mul (show d ≠ 0 by omega) hdv
        have hqd : dg left = dg (pdiv left d) + dg d := by rw [← dg_cm hq0 (by omega), hqm]
        refine ih _ (pdiv left d) (acc ++ [d]) ?_ ⟨?_, ?_, ?_, hq0, ?_, ?_, ?_, ?_, ?_⟩ ?_ ?_ n (by omega)
        · exact kv_wI _ (kv_wL _ hk rfl) rfl
        · rw [wI_2, wL_2, if_neg (by omega)]; exact t1
        · rw [wI_1, if_pos ⟨rfl, rfl⟩, List.length_append]
          rfl
        · intro j hj
          rw [List.length_append] at hj
          have hj : j < acc.length + 1 := hj
          rw [wI_2, wL_2]
          by_cases e : j = acc.length
          · subst e
            rw [if_pos ⟨rfl, rfl⟩, getD_append_last]
          · rw [if_neg (fun z => e z.2), getD_append_left' (by omega)]
            exact t3 j (by omega)
        · rw [pprod_append]
          show cm (cm (pprod acc) (cm d 1)) (pdiv left d) = a
          rw [cm_one, cm_assoc, cm_comm d, hqm]
          exact t5
        · intro p hp
          rcases List.mem_append.mp hp with q | q
          · exact t6 p q
          · rw [List.mem_singleton.mp q]; exact hirr
        · exact pairwise_snoc t7 t8
        · intro p hp
          rcases List.mem_append.mp hp with q | q
          · exact t8 p q
          · rw [List.mem_singleton.mp q]; exact Nat.le_refl _
        · intro e he hel
          exact t9 e he (pdvd_trans hel (pdiv_dvd (by omega) hdv))
        · have h1 := (dg_lt (n := 32) t4).mpr hl
          exact (dg_lt hq0).mp (by omega)
        · rw [sz_pos hq0]
          rw [sz_pos t4] at hm
          omega
theorem mv_outer {w0 : Wd} {a : Nat} (ha : a < 2 ^ 32) {P : Wd → Prop} (h : ∀ w ps, kv w0 w → isC w a ps → P w) :
    ∀ m w left d acc, kv w0 w → trial w a left d acc → left < 2 ^ 32 → 2 ≤ d → d ≤ 2 ^ 32 → 2 ^ 32 + 1 ≤ d + m → ∀ n, m < n → cf_M_laysFactors_L27 P n (lN left) (lN d) w := by
  intro m
  induction m with
  | zero => intro w left d acc _ _ _ _ h1 h2; omega
  | succ m ih =>
    intro w left d acc hk ht hl hd2 hd hm n hn
    obtain ⟨n, rfl⟩ : ∃ m, n = m + 1 := ⟨n - 1, by omega⟩
    show cf_M_laysFactors_B27 _ _ _ _ _
    unfold cf_M_laysFactors_B27
    have ht' := ht
    obtain ⟨t1, t2, t3, t4, t5, t6, t7, t8, t9⟩ := ht
    refine mp_degree (by omega) ⟨fun c => ?_, fun c => ?_⟩
    · have : left = 1 := by
        have := (dI_lt1 (m := left) (by omega)).mp c
        omega
      rw [this, cm_one] at t5
      refine h w acc hk ⟨t1, ⟨t6, t7, fun c2 => ?_, fun _ => t5⟩, t2, t3⟩
      have := len_dg t6
      rw [t5] at this
      refine List.length_eq_zero_iff.mp ?_
      have h0 : dg a = 0 := by
        rcases (show a = 0 ∨ a = 1 by omega) with e | e <;> rw [e] <;> decide
      omega
    · have hl2 : 2 ≤ left := by
        have : ¬ left < 2 := fun z => c ((dI_lt1 (m := left) (by omega)).mpr z)
        omega
      have fin : ∀ d', d ≤ d' → d' < 2 ^ 32 → (∀ p, p ∈ acc → p ≤ d') → (∀ e, 2 ≤ e → pdvd e left → d' ≤ e) → ∃ n_1, cf_M_laysFactors_L52 (cf_M_laysFactors_L27 P n) P n_1 (lN left) (lN d') w := by
        intro d' h1 h2 h3 h4
        refine ⟨sz left + 1, mv_inner ha (by omega) h2 (fun w' left' acc' k1 k2 k3 => ih w' left' (d' + 1) acc' k1 k2 k3 (by omega) (by omega) (by omega) n (by omega)) (sz left) w left acc hk ⟨t1, t2, t3, t4, t5, t6, t7, h3, h4⟩ hl (Nat.le_refl _) _ (Nat.lt_succ_self _)⟩
      have hlt : left < 2 ^ 63 := by omega
      have hdt : d < 2 ^ 63 := by omega
      refine mp_degree (by omega) (mp_degree (by omega) ?_)
      rw [dI_pos (by omega), dI_pos t4]
      have hb1 := (dg_lt (n := 32) t4).mpr hl
      have hb2 := (dg_lt (a := d) (n := 33) (by omega)).mpr (by omega)
      have e2 : (2 : Int32) * nI (dg d) = nI (2 * dg d) := nI_mul 2 _
      rw [e2, nI_leI (by omega) (by omega)]
      refine ⟨fun c2 => ?_, fun c2 => ?_⟩
      · refine fin d (Nat.le_refl _) ?_ t8 t9
        exact (dg_lt (by omega)).mp (by omega)
      · have hirr : irr left := by
          refine ⟨hl2, fun e he => ?_⟩
          by_cases c3 : e = 1
          · exact Or.inl c3
          by_cases c4 : e = left
          · exact Or.inr c4
          obtain ⟨e', h1, h3, h4⟩ := half_div hl2 he c3 c4
          have h5 := t9 e' h1 h3
          have := dg_le (by omega) h5
          omega
        have hdl := t9 left hl2 (pdvd_refl left)
        refine fin left hdl hl (fun p hp => Nat.le_trans (t8 p hp) hdl) (fun e he hel => ?_)
        rcases hirr.2 e hel with q | q
        · omega
        · omega
theorem md_lays {w : Wd} {a : Nat} {P : Wd → Prop} (hc : cacheOk w) (ha : a < 2 ^ 32) (h : ∀ w' ps, kv w w' → isC w' a ps → P w') : cf_M_laysFactors (lN a) w P := by
  unfold cf_M_laysFactors
  refine ⟨fun c => ?_, fun c => ?_⟩
  · rintro _ rfl _ rfl
    have k0 : kv w (wI (wL w 30 7 (lN a)) 30 6 0) := kv_wI _ (kv_wL _ (kv_refl w) rfl) rfl
    have z1 : (wI (wL w 30 7 (lN a)) 30 6 0).2 30 7 = lN a := by rw [wI_2, wL_2, if_pos ⟨rfl, rfl⟩]
    have z2 : (wI (wL w 30 7 (lN a)) 30 6 0).1 30 6 = nI 0 := by rw [wI_1, if_pos ⟨rfl, rfl⟩]; rfl
    by_cases h0 : a = 0
    · subst h0
      refine ⟨1, ?_⟩
      show cf_M_laysFactors_B27 _ _ _ _ _
      unfold cf_M_laysFactors_B27
      refine mp_degree (by omega) ⟨fun _ => ?_, fun c2 => absurd ((dI_lt1 (m := 0) (by omega)).mpr (by omega)) c2⟩
      exact h _ [] k0 ⟨z1, ⟨fun p hp => absurd hp (by simp), List.Pairwise.nil, fun _ => rfl, fun z => absurd rfl z⟩, z2, fun j hj => absurd hj (by simp)⟩
    · refine ⟨2 ^ 32, mv_outer ha h (2 ^ 32 - 1) _ a 2 [] k0 ⟨z1, z2, fun j hj => absurd hj (by simp), h0, one_cm a, fun p hp => absurd hp (by simp), List.Pairwise.nil, fun p hp => absurd hp (by simp), fun e he _ => he⟩ ha (by omega) (by omega) (by omega) _ (by omega)⟩
  · rcases hc with e | ⟨b, ps, hb, e1, e2, e3, e4⟩
    · exfalso
      rw [e] at c
      have h1 : (lN a).toInt = (a : Int) := lN_toInt' (by omega)
      rw [← c] at h1
      have h2 : (-1 : Int64).toInt = -1 := by decide
      omega
    · rw [e1] at c
      have : b = a := (lN_eqI hb (by omega)).mp c
      subst this
      exact h w ps (kv_refl w) ⟨e1, e2, e3, e4⟩
theorem core_D {w w' : Wd} {now : Nat → Int64} {u : Nat} {past : Nat → Nat → Int64} {kb : Nat → Bool} {shelf : Nat → Nat → Int64} (hc : core w now u past kb shelf) (h : fr [(30, 34)] [] [46] w w') : core w' now u past kb shelf :=
  core_kp hc (kp_fr h (by decide) (fun k hk => absurd hk (by simp)) (fun k hk => by rw [List.mem_singleton] at hk; subst hk; rfl)) (cache_kc (kc_fr h (by decide) (by decide) (by decide)) (core_cache hc))
theorem core_R {w w' : Wd} {now : Nat → Int64} {u : Nat} {past : Nat → Nat → Int64} {kb : Nat → Bool} {shelf : Nat → Nat → Int64} (hc : core w now u past kb shelf) (h : fr [(26, 1)] [] [27] w w') : core w' now u past kb shelf :=
  core_kp hc (kp_fr h (by decide) (fun k hk => absurd hk (by simp)) (fun k hk => by rw [List.mem_singleton] at hk; subst hk; rfl)) (cache_kc (kc_fr h (by decide) (by decide) (by decide)) (core_cache hc))
theorem mp_goes {a : Nat} {bs : List (Nat × Nat)} (ha : a < 2 ^ 32) (hB : okB a bs) : ∀ m i, bs.length ≤ i + m → i ≤ bs.length → ∀ a' L w (P : Wd → Prop), isC w a (rep bs) → isS w L → L.Pairwise (· ≤ ·) → (∀ y, y ∈ L → y < 2 ^ 32) → (∀ y, y ∈ md (bs.drop i) a' → y < 2 ^ 32) → L.length + (md (bs.drop i) a').length ≤ 2880 →
    (∀ w' L', fr [(30, 34)] [] [46] w w' → isS w' L' → L'.Pairwise (· ≤ ·) → (∀ y, y ∈ L' → y < 2 ^ 32) → (∀ f, S f L' = S f L + S f (md (bs.drop i) a')) → P w') → ∀ n, m < n → cf_M_goesOn n (nI (pos bs i)) (lN a') w P := by
  obtain ⟨hl1, hl2⟩ := okB_len ha hB
  intro m
  have last : ∀ a' L w (P : Wd → Prop), isC w a (rep bs) → isS w L → L.Pairwise (· ≤ ·) → (∀ y, y ∈ L → y < 2 ^ 32) → (∀ y, y ∈ md (bs.drop bs.length) a' → y < 2 ^ 32) → L.length + (md (bs.drop bs.length) a').length ≤ 2880 →
      (∀ w' L', fr [(30, 34)] [] [46] w w' → isS w' L' → L'.Pairwise (· ≤ ·) → (∀ y, y ∈ L' → y < 2 ^ 32) → (∀ f, S f L' = S f L + S f (md (bs.drop bs.length) a')) → P w') → ∀ n, 0 < n → cf_M_goesOn n (nI (pos bs bs.length)) (lN a') w P := by
    intro a' L w P hC hS hs hb hx hlen h n hn
    obtain ⟨n, rfl⟩ : ∃ m, n = m + 1 := ⟨n - 1, by omega⟩
    show cf_M_goesOn_E _ _ _ _ _
    unfold cf_M_goesOn_E
    rw [List.drop_eq_nil_of_le (Nat.le_refl _)] at hx hlen h
    have hx := hx a' (by show a' ∈ [a']; simp)
    have hlen : L.length + 1 ≤ 2880 := hlen
    rw [pos_all, hC.2.2.1]
    refine ⟨fun z => absurd rfl z, fun _ => mp_comes hS hs (by omega) hx hb (fun w' L' h1 h2 h3 h4 h5 => h w' L' h1 h2 h3 h4 (fun f => ?_))⟩
    rw [h5 f]
    show _ = _ + S f [a']
    rw [S_one]
  induction m with
  | zero =>
    intro i hi hil
    have : i = bs.length := by omega
    subst this
    exact last
  | succ m ih =>
    intro i hi hil a' L w P hC hS hs hb hx hlen h n hn
    by_cases hie : i = bs.length
    · subst hie
      exact last a' L w P hC hS hs hb hx hlen h n (by omega)
    obtain ⟨n, rfl⟩ : ∃ m, n = m + 1 := ⟨n - 1, by omega⟩
    show cf_M_goesOn_E _ _ _ _ _
    unfold cf_M_goesOn_E
    have hil2 : i < bs.length := by omega
    have hbm := okB_mem ha hB (getDp_mem hil2)
    have hps := pos_succ hil2
    have hdrop : bs.drop i = bs.getD i (0, 0) :: bs.drop (i + 1) := by rw [getDp_lt hil2, List.drop_eq_getElem_cons hil2]
    have hrun := fun s hs => run_in (s := s) hil2 hs
    have hpl := (hrun ((bs.getD i (0, 0)).2 - 1) (by omega)).2
    have hnxt : pos bs (i + 1) = (rep bs).length ∨ (pos bs (i + 1) < (rep bs).length ∧ (rep bs).getD (pos bs (i + 1)) 0 ≠ (bs.getD i (0, 0)).1) := by
      by_cases c : i + 1 = bs.length
      · left; rw [c, pos_all]
      · right
        have hi1 : i + 1 < bs.length := by omega
        have hb1 := okB_mem ha hB (getDp_mem hi1)
        have r1 := run_in (s := 0) hi1 (by omega)
        refine ⟨r1.2, ?_⟩
        have hnew := (new_run hB hi1 (s := 0) (by omega)).mpr rfl
        rcases hnew with q | q
        · omega
        · rw [Nat.add_zero] at q
          have e : pos bs (i + 1) - 1 = pos bs i + ((bs.getD i (0, 0)).2 - 1) := by omega
          rw [e, (hrun _ (by omega)).1] at q
          exact q
    rw [hdrop] at hx hlen h
    generalize hbb : bs.getD i (0, 0) = b at hbm hps hrun hpl hnxt hx hlen h
    have emd : md (b :: bs.drop (i + 1)) a' = md (bs.drop (i + 1)) a' ++ tl (md (bs.drop (i + 1))) b.1 b.2 a' := rfl
    rw [emd] at hx hlen h
    rw [List.length_append] at hlen
    rw [hC.2.2.1, nI_eq (by omega) (by omega)]
    refine ⟨fun _ => ?_, fun z => absurd z (by omega)⟩
    have main : cf_M_goesOn n (nI (pos bs (i + 1))) (lN a') w (fun w1 => ∃ n_1, cf_M_goesOn_L63 (cf_M_goesOn n) P n_1 (nI (pos bs (i + 1))) (lN a') (nI (pos bs i)) w1) := by
      refine ih (i + 1) (by omega) (by omega) a' L w _ hC hS hs hb (fun y hy => hx y (List.mem_append_left _ hy)) (by omega) (fun w1 L1 f1 S1 s1 b1 c1 => ?_) n (by omega)
      have len1 := c1 (fun _ => 1)
      rw [S_len, S_len, S_len] at len1
      have loop : ∀ r, r ≤ b.2 → ∀ a'' L2 w2, fr [(30, 34)] [] [46] w w2 → isS w2 L2 → L2.Pairwise (· ≤ ·) → (∀ y, y ∈ L2 → y < 2 ^ 32) → (∀ y, y ∈ tl (md (bs.drop (i + 1))) b.1 r a'' → y < 2 ^ 32) → L2.length + (tl (md (bs.drop (i + 1))) b.1 r a'').length ≤ 2880 → (∀ f, S f L2 + S f (tl (md (bs.drop (i + 1))) b.1 r a'') = S f L + S f (md (bs.drop (i + 1)) a' ++ tl (md (bs.drop (i + 1))) b.1 b.2 a')) → ∀ n', r < n' → cf_M_goesOn_L63 (cf_M_goesOn n) P n' (nI (pos bs (i + 1))) (lN a'') (nI (pos bs (i + 1) - r)) w2 := by
        intro r
        induction r with
        | zero =>
          intro hr a'' L2 w2 f2 S2 s2 b2 x2 hl2 c2 n' hn'
          obtain ⟨n', rfl⟩ : ∃ m, n' = m + 1 := ⟨n' - 1, by omega⟩
          show cf_M_goesOn_B63 _ _ P _ _ _ _
          unfold cf_M_goesOn_B63
          rw [nI_leI (by omega) (by omega)]
          refine ⟨fun _ => h w2 L2 f2 S2 s2 b2 (fun f => ?_), fun z => absurd (by omega) z⟩
          rw [← c2 f]
          exact (Nat.add_zero _).symm
        | succ r ihr =>
          intro hr a'' L2 w2 f2 S2 s2 b2 x2 hl2 c2 n' hn'
          obtain ⟨n', rfl⟩ : ∃ m, n' = m + 1 := ⟨n' - 1, by omega⟩
          show cf_M_goesOn_B63 _ _ P _ _ _ _
          unfold cf_M_goesOn_B63
          have C2 := isC_kc hC (kc_fr f2 (by decide) (by decide) (by decide))
          have etl : tl (md (bs.drop (i + 1))) b.1 (r + 1) a'' = md (bs.drop (i + 1)) (cm a'' b.1) ++ tl (md (bs.drop (i + 1))) b.1 r (cm a'' b.1) := rfl
          rw [etl] at x2 hl2 c2
          rw [List.length_append] at hl2
          have ex : pos bs (i + 1) - (r + 1) = pos bs i + (b.2 - (r + 1)) := by omega
          have hr1 := hrun (b.2 - (r + 1)) (by omega)
          rw [nI_leI (by omega) (by omega)]
          refine ⟨fun z => absurd z (by omega), fun _ => ⟨vp_in_nI (by omega) (by omega), ?_⟩⟩
          rw [nI_clamp (by omega), C2.2.2.2 _ (by omega), ex, hr1.1]
          refine mp_product (by omega) (ih (i + 1) (by omega) (by omega) (cm a'' b.1) L2 w2 _ C2 S2 s2 b2 (fun y hy => x2 y (List.mem_append_left _ hy)) (by omega) (fun w3 L3 f3 S3 s3 b3 c3 => ?_) n (by omega))
          rintro _ rfl
          have len3 := c3 (fun _ => 1)
          rw [S_len, S_len, S_len] at len3
          rw [nI_1, show pos bs i + (b.2 - (r + 1)) + 1 = pos bs (i + 1) - r by omega]
          refine ihr (by omega) (cm a'' b.1) L3 w3 (fr_trans f2 f3) S3 s3 b3 (fun y hy => x2 y (List.mem_append_right _ hy)) (by omega) (fun f => ?_) n' (by omega)
          rw [← c2 f, c3 f, S_append]
          omega
      refine ⟨b.2 + 1, ?_⟩
      have := loop b.2 (Nat.le_refl _) a' L1 w1 f1 S1 s1 b1 (fun y hy => hx y (List.mem_append_right _ hy)) (by omega) (fun f => ?_) (b.2 + 1) (by omega)
      · rw [show pos bs (i + 1) - b.2 = pos bs i by omega] at this
        exact this
      · rw [c1 f, S_append]
        omega
    have key : ∀ r s, b.2 ≤ s + r → s ≤ b.2 → ∀ n', r < n' → cf_M_goesOn_L17 (cf_M_goesOn n) P n' (nI (pos bs i)) (lN a') (nI (pos bs i + s)) w := by
      intro r
      have stop : ∀ n', 0 < n' → cf_M_goesOn_L17 (cf_M_goesOn n) P n' (nI (pos bs i)) (lN a') (nI (pos bs i + b.2)) w := by
        intro n' hn'
        obtain ⟨n', rfl⟩ : ∃ m, n' = m + 1 := ⟨n' - 1, by omega⟩
        show cf_M_goesOn_B17 _ _ P _ _ _ _
        unfold cf_M_goesOn_B17
        rw [← hps, hC.2.2.1, nI_leI (by omega) (by omega)]
        refine ⟨fun _ => main, fun z => ⟨vp_in_nI (by omega) (by omega), vp_in_nI (by omega) (by omega), ?_⟩⟩
        rcases hnxt with q | q
        · exact absurd (by omega) z
        · have hr0 := hrun 0 (by omega)
          rw [nI_clamp (by omega), nI_clamp (by omega), hC.2.2.2 _ q.1, hC.2.2.2 _ (by omega)]
          rw [Nat.add_zero] at hr0
          have b1 := ((isC_lt ha hC).2 _ (getD_mem q.1)).1
          rw [hr0.1, lN_eqI (by omega) (by omega)]
          exact ⟨fun _ => main, fun y => absurd y q.2⟩
      induction r with
      | zero =>
        intro s h1 h2 n' hn'
        have : s = b.2 := by omega
        subst this
        exact stop n' (by omega)
      | succ r ihr =>
        intro s h1 h2 n' hn'
        by_cases hse : s = b.2
        · subst hse
          exact stop n' (by omega)
        obtain ⟨n', rfl⟩ : ∃ m, n' = m + 1 := ⟨n' - 1, by omega⟩
        show cf_M_goesOn_B17 _ _ P _ _ _ _
        unfold cf_M_goesOn_B17
        have hr0 := hrun 0 (by omega)
        have hr1 := hrun s (by omega)
        rw [Nat.add_zero] at hr0
        rw [hC.2.2.1, nI_leI (by omega) (by omega)]
        refine ⟨fun z => absurd z (by omega), fun _ => ⟨vp_in_nI (by omega) (by omega), vp_in_nI (by omega) (by omega), ?_⟩⟩
        rw [nI_clamp (by omega), nI_clamp (by omega), hC.2.2.2 _ hr1.2, hC.2.2.2 _ hr0.2, hr0.1, hr1.1]
        refine ⟨fun z => absurd rfl z, fun _ => ?_⟩
        rintro _ rfl
        rw [nI_1]
        exact ihr (s + 1) (by omega) (by omega) n' (by omega)
    have := key b.2 0 (by omega) (by omega) (b.2 + 1) (by omega)
    exact ⟨_, this⟩
theorem op_divisor {w : Wd} (hI : Inv w) (a0 : Int32) (a1 : Int32) : same1 (cf_T_divisor a0 a1 w) (cf_M_divisor a0 a1) := by
  intro G h
  obtain ⟨now, u, past, kb, shelf, hc⟩ := hI
  have hI := core_Inv hc
  unfold cf_T_divisor
  rw [k_le (-1) (n := -1) (by decide)]
  refine sp_isPlace (fun ha => ⟨fun z => absurd z one_ne', fun _ => ⟨fun c1 => ?_, fun c1 => both_stay hI h (fun F hF => ?_)⟩⟩) (fun hno => ⟨fun _ => both_stay hI h (fun F hF => ?_), fun z => absurd rfl z⟩)
  · obtain ⟨k, hk, rfl⟩ := ha
    obtain ⟨a, ha, e0, e1, e2⟩ := core_poly hc hk
    obtain ⟨bs, hB⟩ := okB_any a
    obtain ⟨hl1, hl2⟩ := okB_len ha hB
    -- what is told of a row
    have told : ∀ (D : List Nat) (w1 : Wd), D.length ≤ 2880 → (∀ y, y ∈ D → y < 2 ^ 32) → isR w1 D ∨ D = [] → (∀ r, (∀ L w2 (F : Int64 → Wd → Prop), isS w2 L → L.Pairwise (· ≤ ·) → (∀ f, S f L = S f D) → F r w2 → cf_M_divisor_B48 F a1 w2) → G r w1) → cf_T_divisor_B58 G a1 (nI D.length) w1 := by
      intro D w1 hD hDb hR hG
      unfold cf_T_divisor_B58
      have len : ∀ {L : List Nat}, (∀ f, S f L = S f D) → L.length = D.length := fun e => by rw [← S_len, e, S_len]
      refine ⟨fun z => ?_, fun z => hG _ (fun L w2 F S2 s2 c2 hF => ?_)⟩
      · have hne : a1.toInt ≠ -1 := fun y => z (Int32.toInt_inj.mp (by rw [y]; decide))
        obtain ⟨j, hj, rfl, ej⟩ := nat_of (a := a1) (by omega)
        rw [nI_leI (by omega) hj]
        refine ⟨fun y => hG _ (fun L w2 F S2 s2 c2 hF => ?_), fun y => ?_⟩
        · unfold cf_M_divisor_B48
          refine ⟨fun _ => ?_, fun q => absurd q z⟩
          rw [S2.1, len c2, nI_leI (by omega) hj]
          exact ⟨fun _ => hF, fun q => absurd y q⟩
        · have hR : isR w1 D := by
            rcases hR with q | q
            · exact q
            · rw [q] at y; exact absurd (Nat.zero_le _) y
          refine sp_rising hR hD hDb (by omega) (fun v v1 v2 => hG _ (fun L w2 F S2 s2 c2 hF => ?_))
          unfold cf_M_divisor_B48
          refine ⟨fun _ => ?_, fun q => absurd q z⟩
          have hl := len c2
          rw [S2.1, hl, nI_leI (by omega) hj]
          refine ⟨fun q => absurd q y, fun _ => ⟨vp_in_nI (by omega) (by omega), ?_⟩⟩
          rw [nI_clamp hj, S2.2 j (by omega)]
          obtain ⟨u1, u2⟩ := kth_sorted s2 (show j < L.length by omega)
          rw [c2] at u1 u2
          rw [kth_unique u1 u2 v1 v2]
          exact hF
      · unfold cf_M_divisor_B48
        refine ⟨fun q => absurd z q, fun _ => ?_⟩
        rw [S2.1, len c2]
        exact hF
    have eP : ∀ F : Int64 → Wd → Prop, ∀ w1, core w1 now u past kb shelf → (∀ w3, core w3 now u past kb shelf → isC w3 a (rep bs) → isS w3 [] → (a = 0 → cf_M_divisor_B48 F a1 w3) ∧ (a ≠ 0 → cf_M_goesOn_W (0 : Int32) (1 : Int64) w3 (fun w4 => cf_M_divisor_B48 F a1 w4))) → cf_M_divisor (nI k) a1 w1 F := by
      intro F w1 hc1 hF
      unfold cf_M_divisor
      rw [k_le (-1) (n := -1) (by decide)]
      refine mp_isPlace (fun _ => ⟨fun z => absurd z one_ne', fun _ => ⟨fun _ => ?_, fun z => absurd c1 z⟩⟩) (fun z => absurd ⟨k, hk, rfl⟩ z)
      rintro _ rfl
      have f2 : fr [(30, 34)] [] [46] w1 (wI w1 30 34 0) := fr_wI _ (fr_refl _ _ _ _) (by simp)
      have hc2 := core_D hc1 f2
      refine ⟨vp_in_nI (by omega) (by omega), ?_⟩
      rw [nI_clamp (by omega), (core_poly' hc2 hk e0).2]
      refine md_lays (core_cache hc2) ha (fun w3 ps k3 C3 => ⟨vp_in_nI (by omega) (by omega), ?_⟩)
      have eps := isF_unique C3.2.1 hB.1
      subst eps
      have hc3 := core_kp hc2 k3.1 (isC_ok (by omega) C3)
      rw [(core_poly' hc3 hk e0).2, lN_eq0 (by omega)]
      exact hF w3 hc3 C3 ⟨by rw [k3.2 34 (by decide), wI_1, if_pos ⟨rfl, rfl⟩]; rfl, fun j hj => absurd hj (by simp)⟩
    refine sp_polyAt hk ?_
    rw [e1, lN_eq0 (by omega)]
    refine ⟨fun z => ?_, fun z => sp_polyAt hk ?_⟩
    · refine told [] w (by simp) (fun y hy => absurd hy (by simp)) (Or.inr rfl) (fun r hr => h _ _ (fun F hF => eP F w hc (fun w3 hc3 C3 S3 => ⟨fun _ => ?_, fun y => absurd z y⟩)))
      exact hr [] w3 F S3 List.Pairwise.nil (fun _ => rfl) (hF w3 (core_Inv hc3))
    · rw [e1]
      refine T_split hc (Or.inl rfl) ha (fun w1 cs k1 k2 k3 k4 => ?_)
      have := okB_unique hB k4
      subst this
      refine sp_gather ha hB k3 (fun w2 f2 R2 => ?_)
      have hlen : (cl bs [1]).length ≤ 2880 := by
        rw [cl_len]
        have := ndv_le ha hB
        show 1 * ndv bs ≤ _
        omega
      have hbd : ∀ y, y ∈ cl bs [1] → y < 2 ^ 32 := by
        intro y hy
        have h1 := cl_dvd bs [1] 1 (fun x hx => by rw [List.mem_singleton.mp hx]; exact pdvd_refl 1) y hy
        rw [one_cm] at h1
        by_cases c : a ≤ 1
        · rw [hB.1.2.2.1 c] at h1
          have h1 : pdvd y 1 := h1
          have h2 := pdvd_dg (by decide) h1
          have h3 : dg 1 = 0 := by decide
          by_cases q : y = 0
          · omega
          · exact (dg_lt q).mp (by omega)
        · rw [hB.1.2.2.2 z] at h1
          have h2 := pdvd_dg z h1
          have h3 := (dg_lt z).mpr ha
          by_cases q : y = 0
          · omega
          · exact (dg_lt q).mp (by omega)
      have hS : ∀ f, S f (cl bs [1]) = S f (md bs 1) := fun f => by rw [S_cl, S_one]
      have hlen2 : (md bs 1).length ≤ 2880 := by rw [← S_len, ← hS, S_len]; exact hlen
      have hbd2 : ∀ y, y ∈ md bs 1 → y < 2 ^ 32 := by
        have : S (fun e => if e < 2 ^ 32 then 0 else 1) (md bs 1) = 0 := by
          rw [← hS]
          exact (S_congr (g := fun _ => 0) (fun e he => if_pos (hbd e he))).trans (S_nul _)
        intro y hy
        have := S_zero this y hy
        refine Classical.byContradiction (fun q => ?_)
        rw [if_neg q] at this
        exact absurd this (by decide)
      have hc2 := core_R k2 f2
      refine told _ w2 hlen hbd (Or.inl R2) (fun r hr => h _ _ (fun F hF => eP F w2 hc2 (fun w3 hc3 C3 S3 => ⟨fun y => absurd y z, fun _ => ?_⟩)))
      refine ⟨bs.length + 1, by omega, ?_⟩
      refine mp_goes ha hB bs.length 0 (by omega) (by omega) 1 [] w3 _ C3 S3 List.Pairwise.nil (fun y hy => absurd hy (by simp)) hbd2 (by show 0 + (md bs 1).length ≤ _; omega) (fun w4 L f4 S4 s4 b4 c4 => ?_) _ (by omega)
      refine hr L w4 F S4 s4 (fun f => ?_) (hF w4 (core_Inv (core_D hc3 f4)))
      rw [c4 f, hS f]
      exact Nat.zero_add _
  · unfold cf_M_divisor
    rw [k_le (-1) (n := -1) (by decide)]
    exact mp_isPlace (fun _ => ⟨fun z => absurd z one_ne', fun _ => ⟨fun z => absurd z c1, fun _ => hF⟩⟩) (fun z => absurd ha z)
  · unfold cf_M_divisor
    exact mp_isPlace (fun z => absurd z hno) (fun _ => ⟨fun _ => hF, fun z => absurd rfl z⟩)
