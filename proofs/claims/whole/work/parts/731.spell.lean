-- spell: the model's factors leave its bytes alone
def kq (w w' : Wd) : Prop := kp w w' ∧ ∀ i, (i == 17 || i == 18 || i == 19) = true → w'.1 30 i = w.1 30 i
theorem kq_refl (w : Wd) : kq w w := ⟨kp_refl w, fun _ _ => rfl⟩
theorem kq_wI {w w' : Wd} {j : Nat} (x : Int32) (h : kq w w') (hn : (rI 30 j || (j == 17 || j == 18 || j == 19)) = false) : kq w (wI w' 30 j x) := by
  have h2 := Bool.or_eq_false_iff.mp hn
  refine ⟨kp_wI x h.1 h2.1, fun i hi => ?_⟩
  rw [wI_1, if_neg]
  · exact h.2 i hi
  · rintro ⟨-, rfl⟩
    rw [h2.2] at hi
    exact absurd hi (by decide)
theorem kq_wL {w w' : Wd} {c j : Nat} (x : Int64) (h : kq w w') (hn : rL c = false) : kq w (wL w' c j x) :=
  ⟨kp_wL x h.1 hn, fun i hi => by rw [wL_1]; exact h.2 i hi⟩
theorem mq_inner {w0 : Wd} {a : Nat} (ha : a < 2 ^ 32) {K : Int64 → Int64 → Wd → Prop} {P : Wd → Prop} {d : Nat} (hd : 2 ≤ d) (hd2 : d < 2 ^ 32)
    (h : ∀ w left acc, kq w0 w → trial w a left (d + 1) acc → left < 2 ^ 32 → K (lN left) (lN (d + 1)) w) :
    ∀ m w left acc, kq w0 w → trial w a left d acc → left < 2 ^ 32 → sz left ≤ m → ∀ n, m < n → cf_M_laysFactors_L52 K P n (lN left) (lN d) w := by
  intro m
  induction m with
  | zero =>
    intro w left acc _ ht _ hm
    have := sz_pos ht.2.2.2.1
    omega
  | succ m ih =>
    intro w left acc hk ht hl hm n hn
    obtain ⟨n, rfl⟩ : ∃ m, n = m + 1 := ⟨n - 1, by omega⟩
    show cf_M_laysFactors_B52 K _ P _ _ _
    unfold cf_M_laysFactors_B52
    have hdg := trial_dg ht
    obtain ⟨t1, t2, t3, t4, t5, t6, t7, t8, t9⟩ := ht
    have up : ¬ pdvd d left → K (lN left) (lN (d + 1)) w := by
      intro hnd
      refine h w left acc hk ⟨t1, t2, t3, t4, t5, t6, t7, fun p hp => by have := t8 p hp; omega, fun e he hel => ?_⟩ hl
      have := t9 e he hel
      have : e ≠ d := fun z => hnd (z ▸ hel)
      omega
    have hl63 : left < 2 ^ 63 := by omega
    have hd63 : d < 2 ^ 63 := by omega
    refine mp_degree (by omega) (mp_degree (by omega) ⟨fun c => ?_, fun c => ?_⟩)
    · rintro _ rfl
      rw [lN_succ]
      refine up (fun hdv => ?_)
      have h1 := pdvd_dg t4 hdv
      have h2 := (dI_lt_dI hl63 hd63 (by omega)).mp c
      rw [sz_pos t4, sz_pos (by omega)] at h2
      omega
    · refine mp_restOf hl63 hd63 (by omega) ⟨fun c2 => ?_, fun c2 => ?_⟩
      · rintro _ rfl
        rw [lN_succ]
        refine up (fun hdv => c2 ?_)
        rw [(pdvd_iff (by omega) _).mp hdv]
        rfl
      · have hdv : pdvd d left := (pdvd_iff (by omega) _).mpr ((lN_eq0 (Nat.lt_of_lt_of_le (pmod_bd hl) (by decide))).mp c2)
        have hirr : irr d := by
          refine ⟨hd, fun e he => ?_⟩
          by_cases e1 : e = 1
          · exact Or.inl e1
          · right
            have he0 : e ≠ 0 := by
              intro z
              rw [z] at he
              have := zero_pdvd he
              omega
            have h1 := t9 e (by omega) (pdvd_trans he hdv)
            obtain ⟨q, hq⟩ := he
            have hq0 : q ≠ 0 := by
              intro z
              rw [z, zero_cm] at hq
              omega
            have h2 := dg_cm hq0 he0
            rw [← hq] at h2
            have h3 := dg_le he0 h1
            have h4 : dg q = 0 := by omega
            have h5 := (dg_self hq0).2
            rw [h4] at h5
            have : q = 1 := by omega
            rw [this, one_cm] at hq
            exact hq.symm
        have hdd := irr_dg hirr
        have hdl := pdvd_dg t4 hdv
        have hda : dg a ≤ 31 := by
          by_cases z : a = 0
          · rw [z]; decide
          · have := (dg_lt z).mpr ha; omega
        rw [t2]
        refine ⟨vp_in_nI (by omega) (by omega), ?_⟩
        rw [nI_clamp (by omega)]
        rintro _ rfl _ rfl
        rw [wL_1, t2, nI_1]
        refine mp_quotient hl63 hd63 (by omega) ?_
        have hq0 := pdiv_ne (show d ≠ 0 by omega) t4 hdv
        have hqm := pdiv_mul (show d ≠ 0 by omega) hdv
        have hqd : dg left = dg (pdiv left d) + dg d := by rw [← dg_cm hq0 (by omega), hqm]
        refine ih _ (pdiv left d) (acc ++ [d]) ?_ ⟨?_, ?_, ?_, hq0, ?_, ?_, ?_, ?_, ?_⟩ ?_ ?_ n (by omega)
        · exact kq_wI _ (kq_wL _ hk rfl) rfl
        · rw [wI_2, wL_2, if_neg (by omega)]; exact t1
        · rw [wI_1, if_pos ⟨rfl, rfl⟩, List.length_append]
          rfl
        · intro j hj
          rw [List.length_append] at hj
          have hj : j < acc.length + 1 := hj
          rw [wI_2, wL_2]
          by_cases e : j = acc.length
          · subst e
            rw [if_pos ⟨rfl, rfl⟩, getD_append_last]
          · rw [if_neg (fun z => e z.2), getD_append_left' (by omega)]
            exact t3 j (by omega)
        · rw [pprod_append]
          show cm (cm (pprod acc) (cm d 1)) (pdiv left d) = a
          rw [cm_one, cm_assoc, cm_comm d, hqm]
          exact t5
        · intro p hp
          rcases List.mem_append.mp hp with q | q
          · exact t6 p q
          · rw [List.mem_singleton.mp q]; exact hirr
        · exact pairwise_snoc t7 t8
        · intro p hp
          rcases List.mem_append.mp hp with q | q
          · exact t8 p q
          · rw [List.mem_singleton.mp q]; exact Nat.le_refl _
        · intro e he hel
          exact t9 e he (pdvd_trans hel (pdiv_dvd (by omega) hdv))
        · have h1 := (dg_lt (n := 32) t4).mpr hl
          exact (dg_lt hq0).mp (by omega)
        · rw [sz_pos hq0]
          rw [sz_pos t4] at hm
          omega
theorem mq_outer {w0 : Wd} {a : Nat} (ha : a < 2 ^ 32) {P : Wd → Prop} (h : ∀ w ps, kq w0 w → isC w a ps → P w) :
    ∀ m w left d acc, kq w0 w → trial w a left d acc → left < 2 ^ 32 → 2 ≤ d → d ≤ 2 ^ 32 → 2 ^ 32 + 1 ≤ d + m → ∀ n, m < n → cf_M_laysFactors_L27 P n (lN left) (lN d) w := by
  intro m
  induction m with
  | zero => intro w left d acc _ _ _ _ h1 h2; omega
  | succ m ih =>
    intro w left d acc hk ht hl hd2 hd hm n hn
    obtain ⟨n, rfl⟩ : ∃ m, n = m + 1 := ⟨n - 1, by omega⟩
    show cf_M_laysFactors_B27 _ _ _ _ _
    unfold cf_M_laysFactors_B27
    have ht' := ht
    obtain ⟨t1, t2, t3, t4, t5, t6, t7, t8, t9⟩ := ht
    refine mp_degree (by omega) ⟨fun c => ?_, fun c => ?_⟩
    · have : left = 1 := by
        have := (dI_lt1 (m := left) (by omega)).mp c
        omega
      rw [this, cm_one] at t5
      refine h w acc hk ⟨t1, ⟨t6, t7, fun c2 => ?_, fun _ => t5⟩, t2, t3⟩
      have := len_dg t6
      rw [t5] at this
      refine List.length_eq_zero_iff.mp ?_
      have h0 : dg a = 0 := by
        rcases (show a = 0 ∨ a = 1 by omega) with e | e <;> rw [e] <;> decide
      omega
    · have hl2 : 2 ≤ left := by
        have : ¬ left < 2 := fun z => c ((dI_lt1 (m := left) (by omega)).mpr z)
        omega
      have fin : ∀ d', d ≤ d' → d' < 2 ^ 32 → (∀ p, p ∈ acc → p ≤ d') → (∀ e, 2 ≤ e → pdvd e left → d' ≤ e) → ∃ n_1, cf_M_laysFactors_L52 (cf_M_laysFactors_L27 P n) P n_1 (lN left) (lN d') w := by
        intro d' h1 h2 h3 h4
        refine ⟨sz left + 1, mq_inner ha (by omega) h2 (fun w' left' acc' k1 k2 k3 => ih w' left' (d' + 1) acc' k1 k2 k3 (by omega) (by omega) (by omega) n (by omega)) (sz left) w left acc hk ⟨t1, t2, t3, t4, t5, t6, t7, h3, h4⟩ hl (Nat.le_refl _) _ (Nat.lt_succ_self _)⟩
      have hlt : left < 2 ^ 63 := by omega
      have hdt : d < 2 ^ 63 := by omega
      refine mp_degree (by omega) (mp_degree (by omega) ?_)
      rw [dI_pos (by omega), dI_pos t4]
      have hb1 := (dg_lt (n := 32) t4).mpr hl
      have hb2 := (dg_lt (a := d) (n := 33) (by omega)).mpr (by omega)
      have e2 : (2 : Int32) * nI (dg d) = nI (2 * dg d) := nI_mul 2 _
      rw [e2, nI_leI (by omega) (by omega)]
      refine ⟨fun c2 => ?_, fun c2 => ?_⟩
      · refine fin d (Nat.le_refl _) ?_ t8 t9
        exact (dg_lt (by omega)).mp (by omega)
      · have hirr : irr left := by
          refine ⟨hl2, fun e he => ?_⟩
          by_cases c3 : e = 1
          · exact Or.inl c3
          by_cases c4 : e = left
          · exact Or.inr c4
          obtain ⟨e', h1, h3, h4⟩ := half_div hl2 he c3 c4
          have h5 := t9 e' h1 h3
          have := dg_le (by omega) h5
          omega
        have hdl := t9 left hl2 (pdvd_refl left)
        refine fin left hdl hl (fun p hp => Nat.le_trans (t8 p hp) hdl) (fun e he hel => ?_)
        rcases hirr.2 e hel with q | q
        · omega
        · omega
theorem mq_laysFactors {w : Wd} {a : Nat} {P : Wd → Prop} (hc : cacheOk w) (ha : a < 2 ^ 32) (h : ∀ w' ps, kq w w' → isC w' a ps → P w') : cf_M_laysFactors (lN a) w P := by
  unfold cf_M_laysFactors
  refine ⟨fun c => ?_, fun c => ?_⟩
  · rintro _ rfl _ rfl
    have k0 : kq w (wI (wL w 30 7 (lN a)) 30 6 0) := kq_wI _ (kq_wL _ (kq_refl w) rfl) rfl
    have z1 : (wI (wL w 30 7 (lN a)) 30 6 0).2 30 7 = lN a := by rw [wI_2, wL_2, if_pos ⟨rfl, rfl⟩]
    have z2 : (wI (wL w 30 7 (lN a)) 30 6 0).1 30 6 = nI 0 := by rw [wI_1, if_pos ⟨rfl, rfl⟩]; rfl
    by_cases h0 : a = 0
    · subst h0
      refine ⟨1, ?_⟩
      show cf_M_laysFactors_B27 _ _ _ _ _
      unfold cf_M_laysFactors_B27
      refine mp_degree (by omega) ⟨fun _ => ?_, fun c2 => absurd ((dI_lt1 (m := 0) (by omega)).mpr (by omega)) c2⟩
      exact h _ [] k0 ⟨z1, ⟨fun p hp => absurd hp (by simp), List.Pairwise.nil, fun _ => rfl, fun z => absurd rfl z⟩, z2, fun j hj => absurd hj (by simp)⟩
    · refine ⟨2 ^ 32, mq_outer ha h (2 ^ 32 - 1) _ a 2 [] k0 ⟨z1, z2, fun j hj => absurd hj (by simp), h0, one_cm a, fun p hp => absurd hp (by simp), List.Pairwise.nil, fun p hp => absurd hp (by simp), fun e he _ => he⟩ ha (by omega) (by omega) (by omega) _ (by omega)⟩
  · rcases hc with e | ⟨b, ps, hb, e1, e2, e3, e4⟩
    · exfalso
      rw [e] at c
      have h1 : (lN a).toInt = (a : Int) := lN_toInt' (by omega)
      rw [← c] at h1
      have h2 : (-1 : Int64).toInt = -1 := by decide
      omega
    · rw [e1] at c
      have : b = a := (lN_eqI hb (by omega)).mp c
      subst this
      exact h w ps (kq_refl w) ⟨e1, e2, e3, e4⟩
theorem rep_inj : ∀ {bs cs : List (Nat × Nat)}, (bs.map Prod.fst).Pairwise (· < ·) → (cs.map Prod.fst).Pairwise (· < ·) → (∀ b, b ∈ bs → 1 ≤ b.2) → (∀ b, b ∈ cs → 1 ≤ b.2) → rep bs = rep cs → bs = cs
  | [], [], _, _, _, _, _ => rfl
  | [], c :: m, _, _, _, h, e => by
    have := h c List.mem_cons_self
    have e2 := congrArg List.length e
    have e3 : (rep (c :: m)).length = c.2 + (rep m).length := by
      show (List.replicate c.2 c.1 ++ rep m).length = _
      rw [List.length_append, List.length_replicate]
    rw [e3] at e2
    have e4 : (rep []).length = 0 := rfl
    omega
  | b :: l, [], _, _, h, _, e => by
    have := h b List.mem_cons_self
    have e2 := congrArg List.length e
    have e3 : (rep (b :: l)).length = b.2 + (rep l).length := by
      show (List.replicate b.2 b.1 ++ rep l).length = _
      rw [List.length_append, List.length_replicate]
    rw [e3] at e2
    have e4 : (rep []).length = 0 := rfl
    omega
  | b :: l, c :: m, h1, h2, h3, h4, e => by
    obtain ⟨p, t⟩ := b
    obtain ⟨q, s⟩ := c
    have e : List.replicate t p ++ rep l = List.replicate s q ++ rep m := e
    have ht : 1 ≤ t := h3 _ List.mem_cons_self
    have hs : 1 ≤ s := h4 _ List.mem_cons_self
    have hpq : p = q := by
      obtain ⟨t', rfl⟩ : ∃ x, t = x + 1 := ⟨t - 1, by omega⟩
      obtain ⟨s', rfl⟩ : ∃ x, s = x + 1 := ⟨s - 1, by omega⟩
      rw [List.replicate_succ, List.replicate_succ] at e
      exact (List.cons.inj e).1
    subst hpq
    have no : ∀ {l : List (Nat × Nat)} {s t : Nat} {x : List Nat}, ((p :: l.map Prod.fst).Pairwise (· < ·)) → t < s → List.replicate t p ++ rep l = List.replicate s p ++ x → False := by
      intro l s t x h hts e
      have e1 : List.replicate s p = List.replicate t p ++ List.replicate (s - t) p := by
        rw [List.replicate_append_replicate, show t + (s - t) = s by omega]
      rw [e1, List.append_assoc] at e
      have e2 := List.append_cancel_left e
      have hm : p ∈ rep l := by
        rw [e2]
        exact List.mem_append_left _ (List.mem_replicate.mpr ⟨by omega, rfl⟩)
      obtain ⟨b, hb, eb⟩ := mem_rep hm
      have := (List.pairwise_cons.mp h).1 b.1 (List.mem_map.mpr ⟨b, hb, rfl⟩)
      omega
    have hts : t = s := by
      rcases Nat.lt_trichotomy t s with c | c | c
      · exact (no h1 c e).elim
      · exact c
      · exact (no h2 c e.symm).elim
    subst hts
    have e3 := List.append_cancel_left e
    rw [rep_inj (List.pairwise_cons.mp h1).2 (List.pairwise_cons.mp h2).2 (fun b hb => h3 b (List.mem_cons_of_mem _ hb)) (fun b hb => h4 b (List.mem_cons_of_mem _ hb)) e3]
theorem okB_unique {a : Nat} {bs cs : List (Nat × Nat)} (h1 : okB a bs) (h2 : okB a cs) : bs = cs :=
  rep_inj h1.2.1 h2.2.1 (fun b hb => (h1.2.2 b hb).2) (fun b hb => (h2.2.2 b hb).2) (isF_unique h1.1 h2.1)
theorem isM_fr {w w' : Wd} {k : Int32} {l : List Nat} (h : isM w k l) (h1 : w'.1 30 17 = w.1 30 17) (h2 : w'.1 30 18 = w.1 30 18) (h3 : w'.1 30 19 = w.1 30 19) : isM w' k l := by
  obtain ⟨a, b, c, d⟩ := h
  exact ⟨h1.trans a, h2.trans b, fun j hj e => h3.trans (c j hj e), fun z => h3.trans (d z)⟩
theorem okB_any (a : Nat) : ∃ bs, okB a bs := by
  by_cases z : a = 0
  · exact ⟨[], ⟨fun p hp => absurd hp (by simp [rep]), List.Pairwise.nil, fun _ => rfl, fun y => absurd z y⟩, List.Pairwise.nil, fun b hb => absurd hb (by simp)⟩
  · exact okB_exists z
theorem mp_spellLoop {now : Nat → Int64} {u : Nat} {past : Nat → Nat → Int64} {kb : Nat → Bool} {shelf : Nat → Nat → Int64} {k : Int32} {a : Nat} {bs : List (Nat × Nat)} {F : Int32 → Wd → Prop} (ha : a < 2 ^ 32) (hB : okB a bs)
    (h : ∀ r w, tell k (txtFac bs) r → core w now u past kb shelf → F r w) :
    ∀ m i l w, bs.length ≤ i + m → i ≤ bs.length → core w now u past kb shelf → isC w a (rep bs) → isM w k l → l ++ txtFac (bs.drop i) = txtFac bs → ∀ n, m < n → cf_M_spell_L48 F n k (nI (pos bs i)) w := by
  obtain ⟨hl1, hl2⟩ := okB_len ha hB
  have hlen := txtFac_len ha hB
  intro m
  induction m with
  | zero =>
    intro i l w hi hil hc hC hM he n hn
    obtain ⟨n, rfl⟩ : ∃ m, n = m + 1 := ⟨n - 1, by omega⟩
    show cf_M_spell_B48 _ _ _ _ _
    unfold cf_M_spell_B48
    have : i = bs.length := by omega
    subst this
    rw [List.drop_eq_nil_of_le (Nat.le_refl _)] at he
    have he : l = txtFac bs := by rw [← he]; exact (List.append_nil l).symm
    rw [pos_all, hC.2.2.1, nI_leI (by omega) (by omega)]
    refine ⟨fun _ => mp_told hM (by rw [he]; omega) (fun r hr => h r w (he ▸ hr) hc), fun z => absurd (Nat.le_refl _) z⟩
  | succ m ih =>
    intro i l w hi hil hc hC hM he n hn
    by_cases hie : i = bs.length
    · exact ih i l w (by omega) hil hc hC hM he n (by omega)
    obtain ⟨n, rfl⟩ : ∃ m, n = m + 1 := ⟨n - 1, by omega⟩
    show cf_M_spell_B48 _ _ _ _ _
    unfold cf_M_spell_B48
    have hil2 : i < bs.length := by omega
    have hb := okB_mem ha hB (getDp_mem hil2)
    have hps := pos_succ hil2
    have hp0 := (run_in hil2 (show 0 < (bs.getD i (0, 0)).2 by omega)).2
    have hpl := (run_in hil2 (show (bs.getD i (0, 0)).2 - 1 < (bs.getD i (0, 0)).2 by omega)).2
    rw [hC.2.2.1, nI_leI (by omega) (by omega)]
    refine ⟨fun z => absurd z (by omega), fun _ => ?_⟩
    have fin : cf_M_spell_B96 (cf_M_spell_L48 F n) F k (nI (pos bs i + ((bs.getD i (0, 0)).2 - 1))) (nI ((bs.getD i (0, 0)).2 - 1 + 1)) w := by
      have hps2 : pos bs i + ((bs.getD i (0, 0)).2 - 1) + 1 = pos bs (i + 1) := by omega
      have hdrop : bs.drop i = bs.getD i (0, 0) :: bs.drop (i + 1) := by rw [getDp_lt hil2, List.drop_eq_getElem_cons hil2]
      rw [hdrop] at he
      have hrun := (run_in hil2 (show (bs.getD i (0, 0)).2 - 1 < (bs.getD i (0, 0)).2 by omega)).1
      generalize hbb : bs.getD i (0, 0) = b at he hb hps hps2 hpl hp0 hrun ⊢
      have het : txtFac (b :: bs.drop (i + 1)) = (40 :: txtPoly b.1 ++ 41 :: (if 1 < b.2 then 94 :: txtNum b.2 else [])) ++ txtFac (bs.drop (i + 1)) := rfl
      rw [het] at he
      have htot := congrArg List.length he
      rw [List.length_append, List.length_append, List.length_append, List.length_cons, List.length_cons] at htot
      unfold cf_M_spell_B96
      refine mp_sb (c := 40) hM (by omega) (fun w1 f1 m1 => ⟨vp_in_nI (by omega) (by omega), ?_⟩)
      have hc1 := core_M hc f1
      have hC1 := isC_kc hC (kpkc_M f1).2
      rw [nI_clamp (by omega), hC1.2.2.2 _ hpl, hrun]
      refine mp_sPoly m1 hb.1 (by rw [List.length_append]; show l.length + 1 + _ < _; omega) (fun w2 f2 m2 => mp_sb (c := 41) m2 (by rw [List.length_append, List.length_append]; show l.length + 1 + _ < _; omega) (fun w3 f3 m3 => ?_))
      have hc3 := core_M (core_M hc1 f2) f3
      have hC3 := isC_kc (isC_kc hC1 (kpkc_M f2).2) (kpkc_M f3).2
      rw [show b.2 - 1 + 1 = b.2 by omega, nI_eq1 (by omega)]
      refine ⟨fun y => ?_, fun y => ?_⟩
      · rw [if_pos (by omega)] at he htot
        rw [List.length_cons] at htot
        refine mp_sb (c := 94) m3 (by rw [List.length_append, List.length_append, List.length_append]; show l.length + 1 + _ + 1 < _; omega) (fun w4 f4 m4 => mp_sNum m4 (by omega) (by rw [List.length_append, List.length_append, List.length_append, List.length_append]; show l.length + 1 + _ + 1 + 1 + _ < _; omega) (fun w5 f5 m5 => ?_))
        rintro _ rfl
        rw [nI_1, hps2]
        refine ih (i + 1) _ w5 (by omega) (by omega) (core_M (core_M hc3 f4) f5) (isC_kc (isC_kc hC3 (kpkc_M f4).2) (kpkc_M f5).2) m5 ?_ n (by omega)
        rw [← he]
        simp
      · rw [if_neg (by omega)] at he
        rintro _ rfl
        rw [nI_1, hps2]
        refine ih (i + 1) _ w3 (by omega) (by omega) hc3 hC3 m3 ?_ n (by omega)
        rw [← he]
        simp
    have key : ∀ m s, (bs.getD i (0, 0)).2 ≤ s + 1 + m → s < (bs.getD i (0, 0)).2 → ∀ n', m < n' → cf_M_spell_L59 (cf_M_spell_L48 F n) F n' k (nI (pos bs i + s)) (nI (s + 1)) w := by
      intro m
      induction m with
      | zero =>
        intro s hs1 hs2 n' hn'
        obtain ⟨n', rfl⟩ : ∃ m, n' = m + 1 := ⟨n' - 1, by omega⟩
        show cf_M_spell_B59 _ _ _ _ _ _ _
        unfold cf_M_spell_B59
        have es : s = (bs.getD i (0, 0)).2 - 1 := by omega
        rw [← es] at fin
        rw [hC.2.2.1, nI_1, nI_leI (by omega) (by omega)]
        refine ⟨fun _ => fin, fun z => ⟨vp_in_nI (by omega) (by omega), vp_in_nI (by omega) (by omega), ?_⟩⟩
        rw [nI_clamp (by omega), nI_clamp (by omega), hC.2.2.2 _ (by omega), hC.2.2.2 _ (by omega)]
        have e1 : pos bs i + s + 1 = pos bs (i + 1) := by omega
        have hi1 : i + 1 < bs.length := by
          have : i + 1 ≠ bs.length := by
            intro e
            rw [e, pos_all] at e1
            omega
          omega
        have hb1 := okB_mem ha hB (getDp_mem hi1)
        have hnew := (new_run hB hi1 (s := 0) (by omega)).mpr rfl
        have hne : (rep bs).getD (pos bs i + s + 1) 0 ≠ (rep bs).getD (pos bs i + s) 0 := by
          rcases hnew with q | q
          · omega
          · rw [Nat.add_zero, ← e1, Nat.add_sub_cancel] at q
            exact q
        obtain ⟨-, hlt⟩ := isC_lt ha hC
        have b1 := (hlt _ (getD_mem (show pos bs i + s + 1 < (rep bs).length by omega))).1
        have b2 := (hlt _ (getD_mem (show pos bs i + s < (rep bs).length by omega))).1
        rw [lN_eqI (by omega) (by omega)]
        exact ⟨fun _ => fin, fun z => absurd z hne⟩
      | succ m ihm =>
        intro s hs1 hs2 n' hn'
        by_cases hse : s + 1 = (bs.getD i (0, 0)).2
        · exact ihm s (by omega) hs2 n' (by omega)
        obtain ⟨n', rfl⟩ : ∃ m, n' = m + 1 := ⟨n' - 1, by omega⟩
        show cf_M_spell_B59 _ _ _ _ _ _ _
        unfold cf_M_spell_B59
        have hr1 := run_in hil2 (show s < (bs.getD i (0, 0)).2 by omega)
        have hr2 := run_in hil2 (show s + 1 < (bs.getD i (0, 0)).2 by omega)
        rw [hC.2.2.1, nI_1, nI_leI (by omega) (by omega)]
        refine ⟨fun z => absurd z (by omega), fun _ => ⟨vp_in_nI (by omega) (by omega), vp_in_nI (by omega) (by omega), ?_⟩⟩
        rw [nI_clamp (by omega), nI_clamp (by omega), hC.2.2.2 _ (by omega), hC.2.2.2 _ (by omega), hr1.1, show pos bs i + s + 1 = pos bs i + (s + 1) from rfl, hr2.1]
        refine ⟨fun z => absurd rfl z, fun _ => ?_⟩
        rintro _ rfl _ rfl
        rw [nI_1]
        exact ihm (s + 1) (by omega) (by omega) n' (by omega)
    exact ⟨_, key (bs.getD i (0, 0)).2 0 (by omega) (by omega) ((bs.getD i (0, 0)).2 + 1) (by omega)⟩
theorem op_spell {w : Wd} (hI : Inv w) (a0 : Int32) (a1 : Int32) : same1 (cf_T_spell a0 a1 w) (cf_M_spell a0 a1) := by
  intro G h
  obtain ⟨now, u, past, kb, shelf, hc⟩ := hI
  have hI := core_Inv hc
  unfold cf_T_spell
  rw [k_le (-1) (n := -1) (by decide)]
  refine sp_isPlace (fun ha => ⟨fun z => absurd z one_ne', fun _ => ⟨fun c1 => ?_, fun c1 => both_stay hI h (fun F hF => ?_)⟩⟩) (fun hno => ⟨fun _ => both_stay hI h (fun F hF => ?_), fun z => absurd rfl z⟩)
  · obtain ⟨k, hk, rfl⟩ := ha
    obtain ⟨a, ha, e0, e1, e2⟩ := core_poly hc hk
    have htl := (txtPoly_len ha).1
    obtain ⟨bs, hB⟩ := okB_any a
    obtain ⟨hl1, hl2⟩ := okB_len ha hB
    have hlen := txtFac_len ha hB
    have hz : a ≤ 1 → bs = [] := by
      intro z
      have := hB.1.2.2.1 z
      rw [this] at hl2
      exact List.length_eq_zero_iff.mp (by simpa using hl2)
    have hnz : 2 ≤ a → (rep bs).length ≠ 0 := by
      intro z y
      have e := hB.1.2.2.2 (by omega)
      rw [List.length_eq_zero_iff.mp y] at e
      have : (1 : Nat) = a := e
      omega
    have mo : ∀ w1 r, core w1 now u past kb shelf → tell a1 (if 2 ≤ a then txtFac bs else txtPoly a) r → ∀ F : Int32 → Wd → Prop, (∀ w2, Inv w2 → F r w2) → cf_M_spell (nI k) a1 w1 F := by
      intro w1 r hc1 ht F hF
      unfold cf_M_spell
      rw [k_le (-1) (n := -1) (by decide)]
      refine mp_isPlace (fun _ => ⟨fun z => absurd z one_ne', fun _ => ⟨fun _ => mp_begins (fun w3 f3 m3 => ⟨vp_in_nI (by omega) (by omega), ?_⟩), fun z => absurd c1 z⟩⟩) (fun z => absurd ⟨k, hk, rfl⟩ z)
      have hc3 := core_M hc1 f3
      rw [nI_clamp (by omega), (core_poly' hc3 hk e0).2]
      refine mq_laysFactors (core_cache hc3) ha (fun w4 ps k4 C4 => ?_)
      have eps := isF_unique C4.2.1 hB.1
      subst eps
      have hc4 := core_kp hc3 k4.1 (isC_ok (by omega) C4)
      have M4 : isM w4 a1 [] := isM_fr m3 (k4.2 17 (by decide)) (k4.2 18 (by decide)) (k4.2 19 (by decide))
      have ez : (w4.1 30 6 = 0) ↔ (rep bs).length = 0 := by rw [C4.2.2.1]; exact nI_eq0 (by omega)
      rw [ez]
      refine ⟨fun z => ?_, fun z => ⟨vp_in_nI (by omega) (by omega), ?_⟩⟩
      · have ha2 : 2 ≤ a := by
          refine Classical.byContradiction (fun y => z ?_)
          rw [hz (by omega)]; rfl
        rw [if_pos ha2] at ht
        exact ⟨_, mp_spellLoop ha hB (fun r' w' hr' hc' => by rw [tell_eq hr' ht]; exact hF w' (core_Inv hc')) bs.length 0 [] w4 (by omega) (by omega) hc4 C4 M4 rfl (bs.length + 1) (by omega)⟩
      · have ha2 : ¬ 2 ≤ a := fun y => hnz y z
        rw [if_neg ha2] at ht
        show cf_M_spellPoly (w4.2 31 k) w4 _
        rw [(core_poly' hc4 hk e0).2]
        refine mp_sPoly M4 ha (by show 0 + 1000 < _; omega) (fun w5 f5 m5 => ⟨1, ?_⟩)
        show cf_M_spell_B48 _ _ _ _ _
        unfold cf_M_spell_B48
        have C5 := isC_kc C4 (kpkc_M f5).2
        have hc5 := core_M hc4 f5
        rw [C5.2.2.1, z]
        refine ⟨fun _ => mp_told m5 (by show (txtPoly a).length < _; omega) (fun r' hr' => ?_), fun y => absurd (Int32.le_refl _) y⟩
        rw [tell_eq hr' ht]
        exact hF w5 (core_Inv hc5)
    refine sp_polyAt hk (sp_restart (fun w1 f1 l1 => ?_))
    have hc1 := core_L hc f1
    rw [e1, show (2 : Int64) = lN 2 from rfl, lN_leI (by omega) (by omega)]
    refine ⟨fun z => T_split hc1 (Or.inl rfl) ha (fun w2 cs k1 k2 k3 k4 => ?_), fun z => sp_wrPoly l1 ha (by show 0 + _ ≤ 400; omega) (fun w2 f2 l2 => sp_letterAt l2 c1 (by show (txtPoly a).length ≤ 400; omega) (fun r hr => h _ _ (fun F hF => mo w2 r (core_L hc1 f2) (by rw [if_neg z]; exact hr) F hF)))⟩
    have l2 : isL w2 [] := ⟨(k1.1 28 1 (by decide) (by decide)).trans l1.1, fun j hj => absurd hj (by simp)⟩
    refine sp_wrFactors l2 ha k4 k3 (fun w3 f3 l3 => sp_letterAt l3 c1 (by have := txtFac_len ha k4; omega) (fun r hr => h _ _ (fun F hF => mo w3 r (core_L k2 f3) ?_ F hF)))
    rw [if_pos z, okB_unique hB k4]
    exact hr
  · unfold cf_M_spell
    rw [k_le (-1) (n := -1) (by decide)]
    exact mp_isPlace (fun _ => ⟨fun z => absurd z one_ne', fun _ => ⟨fun z => absurd z c1, fun _ => hF⟩⟩) (fun z => absurd ha z)
  · unfold cf_M_spell
    exact mp_isPlace (fun z => absurd z hno) (fun _ => ⟨fun _ => hF, fun z => absurd rfl z⟩)
