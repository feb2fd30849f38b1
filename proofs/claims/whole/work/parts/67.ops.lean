-- the register told; the tape fed
theorem vi10_13 : vp_in (10 : Int32) 13 := vp_in_nI (n := 10) (N := 13) (by omega) (by omega)
theorem vi11_13 : vp_in (11 : Int32) 13 := vp_in_nI (n := 11) (N := 13) (by omega) (by omega)
theorem vi12_13 : vp_in (12 : Int32) 13 := vp_in_nI (n := 12) (N := 13) (by omega) (by omega)
theorem vi10_14 : vp_in (10 : Int32) 14 := vp_in_nI (n := 10) (N := 14) (by omega) (by omega)
theorem vi11_14 : vp_in (11 : Int32) 14 := vp_in_nI (n := 11) (N := 14) (by omega) (by omega)
theorem vi12_14 : vp_in (12 : Int32) 14 := vp_in_nI (n := 12) (N := 14) (by omega) (by omega)
theorem vi13_14 : vp_in (13 : Int32) 14 := vp_in_nI (n := 13) (N := 14) (by omega) (by omega)
theorem lN_pred (n : Nat) : lN (n + 1) - 1 = lN n := by
  apply L_inj
  show BitVec.ofNat 64 (n + 1) - 1#64 = BitVec.ofNat 64 n
  rw [show BitVec.ofNat 64 (n + 1) = BitVec.ofNat 64 n + 1#64 from (BitVec.ofNat_add n 1)]
  exact BitVec.add_sub_cancel _ _
theorem mp_allOnes {d : Nat} {P : Int64 → Prop} (hd : d < 64) (h : P (lN (2 ^ d - 1))) : cf_M_allOnes (nI d) P := by
  unfold cf_M_allOnes
  rw [show (1 : Int64) = lN 1 from rfl, lshl_lN _ hd, Nat.shiftLeft_eq, Nat.one_mul]
  obtain ⟨k, hk⟩ : ∃ k, 2 ^ d = k + 1 := ⟨2 ^ d - 1, by have := Nat.pow_pos (n := d) (show 0 < 2 by omega); omega⟩
  rw [hk] at h ⊢
  show P (lN (k + 1) - 1)
  rw [lN_pred]
  exact h
theorem lN_and1 {g : Nat} : lN g &&& (1 : Int64) = 0 ↔ ¬ g % 2 = 1 := by
  rw [L1, lN_and, Nat.and_one_is_mod]
  have h : g % 2 = 0 ∨ g % 2 = 1 := by omega
  rcases h with h | h <;> rw [h] <;> decide
theorem mp_hasOrder {g : Nat} {P : Int32 → Prop} (hg : g < 2 ^ 63) (h1 : 2 ≤ g → g % 2 = 1 → P 1) (h0 : ¬ (2 ≤ g ∧ g % 2 = 1) → P 0) : cf_M_hasOrder (lN g) P := by
  unfold cf_M_hasOrder
  refine mp_degree (by omega) ⟨fun c => h0 (fun z => ?_), fun c => ?_⟩
  · have := (dI_lt1 hg).mp c
    omega
  · have c : ¬ g < 2 := fun z => c ((dI_lt1 hg).mpr z)
    refine mp_hasB (k := 0) (by omega) (by omega) (fun ht => ⟨fun z => absurd z one_ne, fun _ => h1 (by omega) ?_⟩) (fun ht => ⟨fun _ => h0 (fun z => ?_), fun z => absurd rfl z⟩)
    · rw [Nat.testBit_zero] at ht
      exact of_decide_eq_true ht
    · rw [Nat.testBit_zero] at ht
      exact of_decide_eq_false ht z.2
theorem op_register {w : Wd} (hI : Inv w) (a : Int32) (st : Int64) : same1 (cf_T_register a st w) (cf_M_register a st) := by
  intro G h
  obtain ⟨now, u, past, kb, shelf, hc⟩ := hI
  have hI : Inv w := ⟨now, u, past, kb, shelf, hc⟩
  have hcc := hc
  obtain ⟨hic, him, hn, hp, hs, hr⟩ := hc
  unfold cf_T_register
  refine sp_isPlace (fun ha => ⟨fun z => absurd z one_ne', fun _ => ⟨fun c => both_stay hI h (fun F hF => ?_), fun c => ⟨fun c2 => ?_, fun c2 => both_stay hI h (fun F hF => ?_)⟩⟩⟩) (fun hno => ⟨fun _ => both_stay hI h (fun F hF => ?_), fun z => absurd rfl z⟩)
  · unfold cf_M_register cf_M_in
    exact mp_isPlace (fun _ => ⟨fun z => absurd z one_ne', fun _ => ⟨fun _ => ⟨fun z => absurd rfl z, fun _ => hF⟩, fun z => absurd c z⟩⟩) (fun z => absurd ha z)
  · obtain ⟨a, ha', rfl⟩ := ha
    obtain ⟨st, hst, rfl⟩ := lN_ofI (x := st) (by rw [Int64.lt_iff_toInt_lt] at c; exact Int.not_lt.mp c)
    have c3 : st < 2 ^ 31 := by
      have := (lN_leI (b := 2147483647) hst (by decide)).mp c2
      omega
    obtain ⟨g, hg, eg⟩ := hn.1 a ha'
    -- the model's way up to the rule's test
    have mo : ∀ (w1 : Wd) (F : Int32 → Wd → Prop), im w1 now u past kb shelf → (2 ≤ g ∧ g % 2 = 1 →
        (cf_M_degree (lN g) (fun r4 => cf_M_allOnes r4 (fun r5 => ((lN st ≤ r5 → cf_M_keepsAct w1 (fun w6 => vp_in (nI a) 14 ∧ vp_in (10 : Int32) 14 ∧ ∀ w7, w7 = wL w6 31 (10 : Int32).toNatClampNeg (w6.2 31 (nI a).toNatClampNeg) → vp_in (nI a) 14 ∧ cf_M_degree (w7.2 31 (nI a).toNatClampNeg) (fun r8 => vp_in (11 : Int32) 14 ∧ ∀ w9, w9 = wL w7 31 (11 : Int32).toNatClampNeg r8.toInt64 → vp_in (12 : Int32) 14 ∧ ∀ w10, w10 = wL w9 31 (12 : Int32).toNatClampNeg (lN st) → vp_in (13 : Int32) 14 ∧ ∀ w11, w11 = wL w10 31 (13 : Int32).toNatClampNeg (0 : Int64) → vp_in (11 : Int32) 14 ∧ F ((w11.2 31 (11 : Int32).toNatClampNeg).toInt32) w11))) ∧ (¬ lN st ≤ r5 → F (-1 : Int32) w1)))))) →
        (¬ (2 ≤ g ∧ g % 2 = 1) → F (-2) w1) → cf_M_register (nI a) (lN st) w1 F := by
      intro w1 F i1 k1 k0
      unfold cf_M_register cf_M_in
      refine mp_isPlace (fun _ => ⟨fun z => absurd z one_ne', fun _ => ⟨fun z => absurd z c, fun _ => ⟨fun z => ?_, fun _ => ⟨fun _ => ⟨vp_in_nI (by omega) (by omega), ?_⟩, fun z => absurd z one_ne'⟩⟩⟩⟩) (fun hno => absurd ⟨a, ha', rfl⟩ hno)
      · exfalso
        have := (lN_ltI (a := 2147483647) (by decide) hst).mp z
        omega
      · rw [nI_clamp (show a < 2 ^ 31 by omega), im_now i1 ha', eg]
        rw [nI_clamp (show a < 2 ^ 31 by omega)] at k1
        refine mp_hasOrder (by omega) (fun q1 q2 => ⟨fun _ => ⟨vp_in_nI (by omega) (by omega), k1 ⟨q1, q2⟩⟩, fun z => absurd z one_ne'⟩) (fun q => ⟨fun z => absurd rfl z, fun _ => k0 q⟩)
    refine sp_polyAt ha' ?_
    rw [hic.1 a (by omega), eg]
    refine sp_degree (by omega) ⟨fun c4 => both_stay hI h (fun F hF => ?_), fun c4 => ⟨fun c5 => ?_, fun c5 => both_stay hI h (fun F hF => ?_)⟩⟩
    · have := (dI_lt1 (show g < 2 ^ 63 by omega)).mp c4
      exact mo w F him (fun z => absurd z.1 (by omega)) (fun _ => hF)
    · have g2 : 2 ≤ g := by
        have : ¬ g < 2 := fun z => c4 ((dI_lt1 (show g < 2 ^ 63 by omega)).mpr z)
        omega
      have godd : g % 2 = 1 := by
        have : ¬ ¬ g % 2 = 1 := fun z => c5 (lN_and1.mpr z)
        omega
      have hd := (dg_lt (show g ≠ 0 by omega)).mpr hg
      have hd1 := dg_pos g2
      rw [dI_pos (show g ≠ 0 by omega), lshr_lN (by omega) (by omega)]
      have est : lN (st >>> dg g) = 0 ↔ st < 2 ^ dg g := by
        rw [lN_eq0 (Nat.lt_of_le_of_lt (Nat.shiftRight_le _ _) hst), Nat.shiftRight_eq_div_pow, Nat.div_eq_zero_iff_lt (Nat.pow_pos (by omega))]
      rw [est]
      have hpp := Nat.pow_pos (n := dg g) (show 0 < 2 by omega)
      have h2d : 2 ^ dg g < 2 ^ 63 := Nat.pow_lt_pow_right (by omega) (by omega)
      refine ⟨fun c6 => ?_, fun c6 => both_stay hI h (fun F hF => ?_)⟩
      · refine sp_remember hic (fun w1 g1 fr1 => ?_)
        unfold cf_Store_tellRegister
        refine ⟨vi10_13, ?_⟩
        rintro _ rfl
        refine ⟨vi11_13, ?_⟩
        rintro _ rfl
        refine ⟨vi12_13, ?_⟩
        rintro _ rfl
        have ic1 := ic_set (ic_set (ic_set g1 10 (lN g)) 11 (lN st)) 12 (0 : Int64)
        have fr2 : fr [(6, 3), (6, 4)] [] [7, 8] w (wL (wL (wL w1 7 10 (lN g)) 7 11 (lN st)) 7 12 (0 : Int64)) :=
          fr_wL _ (fr_wL _ (fr_wL _ (fr_mono fr1 (fun _ z => z) (fun _ z => z) (by decide)) (by decide)) (by decide)) (by decide)
        have im1 := im_fr him fr2 (by decide) (by decide) (by decide)
        refine h _ _ (fun F hF => ?_)
        refine mo _ F im1 (fun _ => ?_) (fun z => absurd ⟨g2, godd⟩ z)
        refine mp_degree (by omega) ?_
        rw [dI_pos (show g ≠ 0 by omega)]
        refine mp_allOnes (by omega) ⟨fun _ => ?_, fun z => ?_⟩
        · refine mp_keepsAct im1 (fun w2 k1 k2 => ⟨vp_in_nI (by omega) (by omega), vi10_14, ?_⟩)
          rintro _ rfl
          rw [nI_clamp (show a < 2 ^ 31 by omega), im_now k1 ha', eg]
          refine ⟨vp_in_nI (by omega) (by omega), ?_⟩
          have e10 : (wL w2 31 (10 : Int32).toNatClampNeg (lN g)).2 31 a = lN g := by
            rw [wL_2, if_neg (fun z => absurd z.2 (by show ¬ a = 10; omega)), im_now k1 ha', eg]
          rw [e10]
          refine mp_degree (by omega) ⟨vi11_14, ?_⟩
          rw [dI_pos (show g ≠ 0 by omega), nI_l (by omega)]
          rintro _ rfl
          refine ⟨vi12_14, ?_⟩
          rintro _ rfl
          refine ⟨vi13_14, ?_⟩
          rintro _ rfl
          refine ⟨vi11_14, ?_⟩
          have e11 : (wL (wL (wL (wL w2 31 10 (lN g)) 31 11 (lN (dg g))) 31 12 (lN st)) 31 13 (0 : Int64)).2 31 11 = lN (dg g) := by
            rw [wL_2, if_neg (by decide), wL_2, if_neg (by decide), wL_2, if_pos ⟨rfl, rfl⟩]
          show F ((wL (wL (wL (wL w2 31 10 (lN g)) 31 11 (lN (dg g))) 31 12 (lN st)) 31 13 (0 : Int64)).2 31 11).toInt32 (wL (wL (wL (wL w2 31 10 (lN g)) 31 11 (lN (dg g))) 31 12 (lN st)) 31 13 (0 : Int64))
          rw [e11, lN_i32]
          refine hF _ ?_
          have fr3 : fr [(30, 2)] [] [31, 32] (wL (wL (wL w1 7 10 (lN g)) 7 11 (lN st)) 7 12 (0 : Int64)) (wL (wL (wL (wL w2 31 10 (lN g)) 31 11 (lN (dg g))) 31 12 (lN st)) 31 13 (0 : Int64)) :=
            fr_wL _ (fr_wL _ (fr_wL _ (fr_wL _ (fr_mono k2 (fun _ z => z) (fun _ z => z) (by decide)) (by decide)) (by decide)) (by decide)) (by decide)
          obtain ⟨n1, n2, n3, n4, n5, n6⟩ := k1
          refine ⟨_, _, _, _, _, ic_fr ic1 fr3 (by decide) (by decide) (by decide), ⟨?_, n2, n3, ?_, n5, ?_⟩, ?_, okRow_push hn hp, hs, rest_fr (rest_fr hr fr2 (by simp) rfl (by simp)) fr3 (by simp) rfl (by simp)⟩
          · intro i hi
            have n1 := n1 i hi
            unfold mrow setR
            unfold mrow at n1
            rw [wL_2, wL_2, wL_2, wL_2]
            by_cases i13 : i = 13
            · subst i13; rfl
            · rw [if_neg (fun z => i13 z.2)]
              by_cases i12 : i = 12
              · subst i12; rfl
              · rw [if_neg (fun z => i12 z.2)]
                by_cases i11 : i = 11
                · subst i11
                  rw [if_pos ⟨rfl, rfl⟩]
                  show lN (dg g) = lN (dg (lN g).toNatClampNeg)
                  have : (lN g).toNatClampNeg = g := by
                    show (lN g).toInt.toNat = g
                    rw [lN_toInt' (by omega)]
                    rfl
                  rw [this]
                · rw [if_neg (fun z => i11 z.2)]
                  by_cases i10 : i = 10
                  · subst i10; rfl
                  · rw [if_neg (fun z => i10 z.2), if_pos (by omega), if_neg (by omega), if_neg (by omega), if_neg i10, n1, if_pos (by omega)]
          · intro j hj i hi
            rw [wL_2, if_neg (fun z => absurd z.1 (by decide)), wL_2, if_neg (fun z => absurd z.1 (by decide)), wL_2, if_neg (fun z => absurd z.1 (by decide)), wL_2, if_neg (fun z => absurd z.1 (by decide))]
            exact n4 j hj i hi
          · intro j hj hkb i hi
            rw [wL_2, if_neg (fun z => absurd z.1 (by decide)), wL_2, if_neg (fun z => absurd z.1 (by decide)), wL_2, if_neg (fun z => absurd z.1 (by decide)), wL_2, if_neg (fun z => absurd z.1 (by decide))]
            exact n6 j hj hkb i hi
          · refine ⟨?_, g, st, hg, rfl, c3, rfl, fun _ => ⟨godd, hd1, c6⟩⟩
            intro i hi
            obtain ⟨n, hn2, e⟩ := hn.1 i hi
            refine ⟨n, hn2, ?_⟩
            unfold setR
            rw [if_neg (by omega), if_neg (by omega), if_neg (by omega)]
            exact e
        · exfalso
          exact z ((lN_leI hst (by omega)).mpr (by omega))
      · refine mo w F him (fun _ => ?_) (fun z => absurd ⟨g2, godd⟩ z)
        refine mp_degree (by omega) ?_
        rw [dI_pos (show g ≠ 0 by omega)]
        refine mp_allOnes (by omega) ⟨fun z => ?_, fun z => hF⟩
        exfalso
        have := (lN_leI hst (by omega)).mp z
        omega
    · have godd : ¬ g % 2 = 1 := lN_and1.mp c5
      exact mo w F him (fun z => absurd z.2 godd) (fun _ => hF)
  · obtain ⟨st, hst, rfl⟩ := lN_ofI (x := st) (by rw [Int64.lt_iff_toInt_lt] at c; exact Int.not_lt.mp c)
    unfold cf_M_register cf_M_in
    refine mp_isPlace (fun _ => ⟨fun z => absurd z one_ne', fun _ => ⟨fun z => absurd z c, fun _ => ⟨fun _ => ⟨fun z => absurd rfl z, fun _ => hF⟩, fun z => ?_⟩⟩⟩) (fun z => absurd ha z)
    exfalso
    have h1 : ¬ st ≤ 2147483647 := fun q => c2 ((lN_leI (b := 2147483647) hst (by decide)).mpr q)
    exact z ((lN_ltI (a := 2147483647) (by decide) hst).mpr (by omega))
  · unfold cf_M_register cf_M_in
    exact mp_isPlace (fun z => absurd z hno) (fun _ => ⟨fun _ => hF, fun z => absurd rfl z⟩)
