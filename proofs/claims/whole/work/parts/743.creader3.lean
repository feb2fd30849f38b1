-- the class's reader: powers, products, sums, brackets
theorem neg_mul_le : ∀ k, k ≤ 31 → (-1 : Int32) * nI k ≤ 31 := by decide
theorem dI_mul_le {v k : Nat} (hv : v < 2 ^ 32) (hk : k ≤ 31) : dI v * nI k ≤ (31 : Int32) ↔ (v = 0 ∨ dg v * k ≤ 31) := by
  by_cases h : v = 0
  · subst h
    rw [dI_zero]
    exact ⟨fun _ => Or.inl rfl, fun _ => neg_mul_le k hk⟩
  · have h1 := (dg_lt h).mpr hv
    have h2 : dg v * k ≤ 31 * 31 := Nat.mul_le_mul (by omega) hk
    rw [dI_pos h, nI_mul, show (31 : Int32) = nI 31 from rfl, nI_leI (by omega) (by omega)]
    exact ⟨fun z => Or.inr z, fun z => z.resolve_left h⟩
theorem c_pow {t : Nat} {β : Nat → Nat} {q : Nat → Nat} {B : Wd} {d : Nat} {op : Nat → Int32} {nr : NRt} {NR : Wd → (Int64 → Wd → Prop) → Prop} (hN : cN t β q B d op nr NR) {w0 : Wd} {p0 : Nat} {P : Int64 → Wd → Prop} (hS0 : cS t β q B w0 p0 d op)
    (hok : ∀ v e w', pPow t β nr q p0 d op = .inl (v, e) → cS t β q B w' e d op → P (lN v) w') (hbad : ∀ f w' v, pPow t β nr q p0 d op = .inr f → cBad B w' f → v < 2 ^ 32 → P (lN v) w') : cf_Reader_readPower NR w0 P := by
  unfold cf_Reader_readPower
  refine c_peek hS0 (fun w1 S1 => ?_)
  rintro _ rfl
  rw [S1.2.1]
  have hp := S1.1.2.2.1
  have ht := S1.1.1.1
  have h1 := pOne_ok (β := β) hN.2.2.1 hN.2.2.2 (d := d) (op := op) hp
  refine c_one hN S1 (fun v e w2 e2 S2 => ?_) (fun f w2 v e2 hb hv => ?_)
  · rw [e2] at h1
    have hv : v < 2 ^ 32 := h1.1
    have E : pPow t β nr q p0 d op = (if isc t β (sk t β e) 94 then bnd (pNum t β 0 31 (sk t β e + 1) d op) (fun k e2 => if v = 0 ∨ dg v * k ≤ 31 then .inl ((ppow v k), e2) else fl 3 (sk t β p0) d op) else .inl (v, (sk t β e))) := by
      unfold pPow
      rw [e2]
      rfl
    refine ⟨fun z => absurd S2.2.2.2.2.2.1 z, fun _ => c_peek S2 (fun w3 S3 => ?_)⟩
    rw [show (94 : Int32) = nI 94 from rfl, bv_eq S3.1.1.2.1 (by omega)]
    refine ⟨fun h94 => ?_, fun h94 => hok v _ w3 (by rw [E, if_neg h94]) S3⟩
    rintro _ rfl
    rw [S3.2.1, nI_1]
    have S4 := cS_pos S3 (p' := sk t β e + 1) h94.1
    refine c_num (lo := 0) (hi := 31) S4 (by omega) (by omega) (fun k e3 w5 e4 S5 => ⟨fun _ => ?_, fun z => absurd S5.2.2.2.2.2.1 z⟩) (fun f w5 e4 hb => ⟨fun z => absurd z (cBad_no hb), fun _ => ?_⟩)
    · have hk := pNum_le S4.1.2.2.1 e4
      refine sp_degree (by omega) ?_
      rw [dI_mul_le hv hk.2.1]
      refine ⟨fun c => ?_, fun c => ?_⟩
      · have hP : P (lN (ppow v k)) w5 := hok _ e3 w5 (by rw [E, if_pos h94, e4]; show (if v = 0 ∨ dg v * k ≤ 31 then _ else _) = _; rw [if_pos c]) S5
        have key : ∀ m i, i + m = k → ∀ n, m < n → cf_Reader_readPower_L88 NR P n (lN v) (nI k) (lN (ppow v i)) (nI i) w5 := by
          intro m
          induction m with
          | zero =>
            intro i hi n hn
            obtain ⟨n, rfl⟩ : ∃ m, n = m + 1 := ⟨n - 1, by omega⟩
            show cf_Reader_readPower_B88 NR _ _ _ _ _ _ _
            unfold cf_Reader_readPower_B88
            have : i = k := by omega
            subst this
            exact ⟨fun _ => hP, fun z => absurd (Int32.le_refl _) z⟩
          | succ m ih =>
            intro i hi n hn
            obtain ⟨n, rfl⟩ : ∃ m, n = m + 1 := ⟨n - 1, by omega⟩
            show cf_Reader_readPower_B88 NR _ _ _ _ _ _ _
            unfold cf_Reader_readPower_B88
            rw [nI_leI (by omega) (by omega)]
            refine ⟨fun z => absurd z (by omega), fun _ => sp_product (by omega) ?_⟩
            rintro _ rfl
            rw [nI_1, cm_comm]
            exact ih (i + 1) (by omega) n (by omega)
        exact ⟨_, key k 0 (by omega) (k + 1) (by omega)⟩
      · refine c_fail (c := 3) S5 (by omega) (by omega) (fun w6 f ef hb => hbad f w6 0 ?_ hb (by decide))
        rw [E, if_pos h94, e4]
        show (if v = 0 ∨ dg v * k ≤ 31 then _ else _) = _
        rw [if_neg c]
        exact ef
    · exact hbad f w5 0 (by rw [E, if_pos h94, e4]; rfl) hb (by decide)
  · refine ⟨fun _ => hbad f w2 v ?_ hb hv, fun z => absurd z (cBad_no hb)⟩
    unfold pPow
    rw [e2]
    rfl
theorem c_ahead {t : Nat} {β : Nat → Nat} {q : Nat → Nat} {B : Wd} {d : Nat} {op : Nat → Int32} {w0 : Wd} {p0 : Nat} {P : Int32 → Wd → Prop} (hS0 : cS t β q B w0 p0 d op)
    (h1 : ∀ w', cS t β q B w' (if isc t β (sk t β p0) 42 then sk t β p0 + 1 else sk t β p0) d op → (isc t β (sk t β p0) 42 ∨ ahead t β (sk t β p0)) → P 1 w') (h0 : ∀ w', cS t β q B w' (sk t β p0) d op → ¬ (isc t β (sk t β p0) 42 ∨ ahead t β (sk t β p0)) → P 0 w') : cf_Reader_isPowerAhead w0 P := by
  unfold cf_Reader_isPowerAhead
  refine c_peek hS0 (fun w1 S1 => ?_)
  have hβ := S1.1.1.2.1
  rw [show (42 : Int32) = nI 42 from rfl, bv_eq hβ (by omega), show (40 : Int32) = nI 40 from rfl, bv_eq hβ (by omega)]
  refine ⟨fun n42 => ?_, fun y42 => ?_⟩
  · rw [if_neg n42] at h1
    refine ⟨fun y40 => h1 w1 S1 (Or.inr (Or.inl y40)), fun n40 => c_isd hβ (fun yd => ⟨fun _ => h1 w1 S1 (Or.inr (Or.inr (Or.inl yd))), fun z => absurd z one_ne'⟩) (fun nd => ⟨fun z => absurd rfl z, fun _ => c_isl hβ (fun yl => ⟨fun z => absurd z one_ne', fun _ => h1 w1 S1 (Or.inr (Or.inr (Or.inr yl)))⟩) (fun nl => ⟨fun _ => h0 w1 S1 ?_, fun z => absurd rfl z⟩)⟩)⟩
    rintro (z | z | z | z)
    · exact n42 z
    · exact n40 z
    · exact nd z
    · exact nl z
  · rw [if_pos y42] at h1
    rintro _ rfl
    rw [S1.2.1, nI_1]
    exact h1 _ (cS_pos S1 y42.1) (Or.inl y42)
theorem c_prd {t : Nat} {β : Nat → Nat} {q : Nat → Nat} {B : Wd} {d : Nat} {op : Nat → Int32} {nr : NRt} {NR : Wd → (Int64 → Wd → Prop) → Prop} (hN : cN t β q B d op nr NR) {w0 : Wd} {p0 : Nat} {P : Int64 → Wd → Prop} (hS0 : cS t β q B w0 p0 d op)
    (hok : ∀ v e w', pPrd t β nr q p0 d op = .inl (v, e) → cS t β q B w' e d op → P (lN v) w') (hbad : ∀ f w' v, pPrd t β nr q p0 d op = .inr f → cBad B w' f → v < 2 ^ 32 → P (lN v) w') : cf_Reader_readProduct NR w0 P := by
  unfold cf_Reader_readProduct
  refine c_peek hS0 (fun w1 S1 => ?_)
  rintro _ rfl
  rw [S1.2.1]
  have hp := S1.1.2.2.1
  have ht := S1.1.1.1
  have h1 := pPow_ok (β := β) hN.2.2.1 hN.2.2.2 (d := d) (op := op) hp
  -- with a fault the loop only ends
  have out : ∀ f v w i n, v < 2 ^ 32 → pPrd t β nr q p0 d op = .inr f → cBad B w f → i < 2 ^ 31 → cf_Reader_readProduct_L18 NR P (n + 1) (nI (sk t β p0)) (lN v) (nI i) w := by
    intro f v w i n hv ef hb hi
    show cf_Reader_readProduct_B18 _ _ _ _ _ _ _
    unfold cf_Reader_readProduct_B18
    exact ⟨fun _ => hbad f w v ef hb hv, fun _ => ⟨fun _ => hbad f w v ef hb hv, fun z => absurd z (cBad_no hb)⟩⟩
  have key : ∀ g acc p i w, t < p + g → cS t β q B w p d op → i < p → acc < 2 ^ 32 → pPrd t β nr q p0 d op = pPrdL t β nr q (sk t β p0) d op g acc p → ∀ n, g < n → cf_Reader_readProduct_L18 NR P n (nI (sk t β p0)) (lN acc) (nI i) w := by
    intro g
    induction g with
    | zero =>
      intro acc p i w hg hS
      have := hS.1.2.2.1
      omega
    | succ g ih =>
      intro acc p i w hg hS hi ha he n hn
      obtain ⟨n, rfl⟩ : ∃ m, n = m + 1 := ⟨n - 1, by omega⟩
      show cf_Reader_readProduct_B18 _ _ _ _ _ _ _
      unfold cf_Reader_readProduct_B18
      have hpt := hS.1.2.2.1
      rw [show (300 : Int32) = nI 300 from rfl, nI_leI (by omega) (by omega)]
      refine ⟨fun z => absurd z (by omega), fun _ => ⟨fun z => absurd hS.2.2.2.2.2.1 z, fun _ => c_ahead hS (fun w2 S2 hy => ⟨fun z => absurd z one_ne', fun _ => ?_⟩) (fun w2 S2 hno => ⟨fun _ => hok acc _ w2 ?_ S2, fun z => absurd rfl z⟩)⟩⟩
      · have he : pPrd t β nr q p0 d op = bnd (pPow t β nr q (if isc t β (sk t β p) 42 then sk t β p + 1 else sk t β p) d op) (fun v e => if cm acc v < 2 ^ 32 then pPrdL t β nr q (sk t β p0) d op g (cm acc v) e else fl 3 (sk t β p0) d op) := by
          rw [he]
          show (if isc t β (sk t β p) 42 ∨ ahead t β (sk t β p) then _ else _) = _
          rw [if_pos hy]
        have hge : p ≤ (if isc t β (sk t β p) 42 then sk t β p + 1 else sk t β p) := by
          have := sk_ge t β p
          split <;> omega
        have h2 := pPow_ok (β := β) hN.2.2.1 hN.2.2.2 (d := d) (op := op) S2.1.2.2.1
        generalize hx : (if isc t β (sk t β p) 42 then sk t β p + 1 else sk t β p) = x at he hge h2 S2
        refine c_pow hN S2 (fun v e w3 e3 S3 => ⟨fun z => absurd S3.2.2.2.2.2.1 z, fun _ => ?_⟩) (fun f w3 v e3 hb hv => ⟨fun _ => ?_, fun z => absurd z (cBad_no hb)⟩)
        · rw [e3] at h2 he
          have hv : v < 2 ^ 32 := h2.1
          have h22 := h2.2.1
          refine sp_product (by omega) ?_
          rw [lN_le32 (cm_bd ha hv)]
          refine ⟨fun c => ?_, fun c => ?_⟩
          · rintro _ rfl
            rw [nI_1]
            refine ih (cm acc v) e (i + 1) w3 (by omega) S3 (by omega) c ?_ n (by omega)
            rw [he]
            show (if cm acc v < 2 ^ 32 then _ else _) = _
            rw [if_pos c]
          · refine c_fail (c := 3) S3 (by omega) (by omega) (fun w6 f ef hb => hbad f w6 0 ?_ hb (by decide))
            rw [he]
            show (if cm acc v < 2 ^ 32 then _ else _) = _
            rw [if_neg c]
            exact ef
        · rintro _ rfl
          rw [nI_1]
          rw [e3] at he
          obtain ⟨n, rfl⟩ : ∃ m, n = m + 1 := ⟨n - 1, by omega⟩
          exact out f acc w3 (i + 1) n ha he hb (by omega)
      · rw [he]
        show (if isc t β (sk t β p) 42 ∨ ahead t β (sk t β p) then _ else _) = _
        rw [if_neg hno]
  refine c_pow hN S1 (fun v e w2 e2 S2 => ?_) (fun f w2 v e2 hb hv => ?_)
  · rw [e2] at h1
    have h12 := h1.2.1
    refine ⟨t + 2, key (t + 1 - e) v e 0 w2 (by have := h1.2.2; omega) S2 (by omega) h1.1 ?_ (t + 2) (by omega)⟩
    unfold pPrd
    rw [e2]
    rfl
  · refine ⟨1, out f v w2 0 0 hv ?_ hb (by omega)⟩
    unfold pPrd
    rw [e2]
    rfl
theorem c_sum {t : Nat} {β : Nat → Nat} {q : Nat → Nat} {B : Wd} {d : Nat} {op : Nat → Int32} {nr : NRt} {NR : Wd → (Int64 → Wd → Prop) → Prop} (hN : cN t β q B d op nr NR) {w0 : Wd} {p0 : Nat} {P : Int64 → Wd → Prop} (hS0 : cS t β q B w0 p0 d op)
    (hok : ∀ v e w', pSum t β nr q p0 d op = .inl (v, e) → cS t β q B w' e d op → P (lN v) w') (hbad : ∀ f w' v, pSum t β nr q p0 d op = .inr f → cBad B w' f → v < 2 ^ 32 → P (lN v) w') : cf_Reader_readSum NR w0 P := by
  unfold cf_Reader_readSum
  have hp := hS0.1.2.2.1
  have ht := hS0.1.1.1
  have h1 := pPrd_ok (β := β) hN.2.2.1 hN.2.2.2 (d := d) (op := op) hp
  have out : ∀ f v w i n, v < 2 ^ 32 → pSum t β nr q p0 d op = .inr f → cBad B w f → i < 2 ^ 31 → cf_Reader_readSum_L7 NR P (n + 1) (lN v) (nI i) w := by
    intro f v w i n hv ef hb hi
    show cf_Reader_readSum_B7 _ _ _ _ _ _
    unfold cf_Reader_readSum_B7
    exact ⟨fun _ => hbad f w v ef hb hv, fun _ => ⟨fun _ => hbad f w v ef hb hv, fun z => absurd z (cBad_no hb)⟩⟩
  have key : ∀ g acc p i w, t < p + g → cS t β q B w p d op → i < p → acc < 2 ^ 32 → pSum t β nr q p0 d op = pSumL t β nr q d op g acc p → ∀ n, g < n → cf_Reader_readSum_L7 NR P n (lN acc) (nI i) w := by
    intro g
    induction g with
    | zero =>
      intro acc p i w hg hS
      have := hS.1.2.2.1
      omega
    | succ g ih =>
      intro acc p i w hg hS hi ha he n hn
      obtain ⟨n, rfl⟩ : ∃ m, n = m + 1 := ⟨n - 1, by omega⟩
      show cf_Reader_readSum_B7 _ _ _ _ _ _
      unfold cf_Reader_readSum_B7
      have hpt := hS.1.2.2.1
      rw [show (300 : Int32) = nI 300 from rfl, nI_leI (by omega) (by omega)]
      refine ⟨fun z => absurd z (by omega), fun _ => ⟨fun z => absurd hS.2.2.2.2.2.1 z, fun _ => c_peek hS (fun w2 S2 => ?_)⟩⟩
      rw [show (43 : Int32) = nI 43 from rfl, bv_eq S2.1.1.2.1 (by omega)]
      refine ⟨fun hno => hok acc _ w2 ?_ S2, fun hy => ?_⟩
      · rw [he]
        show (if isc t β (sk t β p) 43 then _ else _) = _
        rw [if_neg hno]
      · have he : pSum t β nr q p0 d op = bnd (pPrd t β nr q (sk t β p + 1) d op) (fun v e => pSumL t β nr q d op g (acc ^^^ v) e) := by
          rw [he]
          show (if isc t β (sk t β p) 43 then _ else _) = _
          rw [if_pos hy]
        have hge := sk_ge t β p
        rintro _ rfl
        rw [S2.2.1, nI_1]
        have S3 := cS_pos S2 (p' := sk t β p + 1) hy.1
        have h2 := pPrd_ok (β := β) hN.2.2.1 hN.2.2.2 (d := d) (op := op) S3.1.2.2.1
        refine c_prd hN S3 (fun v e w3 e3 S4 => ?_) (fun f w3 v e3 hb hv => ?_)
        · rw [e3] at h2 he
          have hv : v < 2 ^ 32 := h2.1
          have h22 := h2.2.1
          rintro _ rfl _ rfl
          rw [nI_1, lN_xor]
          exact ih (acc ^^^ v) e (i + 1) w3 (by omega) S4 (by omega) (Nat.xor_lt_two_pow ha hv) he n (by omega)
        · rw [e3] at he
          rintro _ rfl _ rfl
          rw [nI_1, lN_xor]
          obtain ⟨n, rfl⟩ : ∃ m, n = m + 1 := ⟨n - 1, by omega⟩
          exact out f (acc ^^^ v) w3 (i + 1) n (Nat.xor_lt_two_pow ha hv) he hb (by omega)
  refine c_prd hN hS0 (fun v e w2 e2 S2 => ?_) (fun f w2 v e2 hb hv => ?_)
  · rw [e2] at h1
    have h12 := h1.2.1
    refine ⟨t + 2, key (t + 1 - e) v e 0 w2 (by have := h1.2.2; omega) S2 (by omega) h1.1 ?_ (t + 2) (by omega)⟩
    unfold pSum
    rw [e2]
    rfl
  · refine ⟨1, out f v w2 0 0 hv ?_ hb (by omega)⟩
    unfold pSum
    rw [e2]
    rfl
theorem c_sign {t : Nat} {β : Nat → Nat} {q : Nat → Nat} {B : Wd} {d : Nat} {op : Nat → Int32} {w0 : Wd} {p0 c : Nat} {P : Int32 → Wd → Prop} (hS0 : cS t β q B w0 p0 d op) (hc : c < 256)
    (h1 : ∀ w', isc t β (sk t β p0) c → cS t β q B w' (sk t β p0 + 1) d op → P 1 w') (h0 : ∀ f w', ¬ isc t β (sk t β p0) c → fl 1 (sk t β p0) d op = .inr f → cBad B w' f → P 0 w') : cf_Reader_readSign (nI c) w0 P := by
  unfold cf_Reader_readSign
  refine c_peek hS0 (fun w1 S1 => ?_)
  have hp := S1.1.2.2.1
  have ht := S1.1.1.1
  rw [bv_eq S1.1.1.2.1 hc, S1.2.1, nI_1]
  refine ⟨fun hy => ?_, fun hn => c_fail (c := 1) S1 (by omega) (by omega) (fun w2 f ef hb => h0 f w2 hn ef hb)⟩
  rintro _ rfl
  exact h1 _ hy (cS_pos S1 hy.1)
theorem cS_open {t : Nat} {β : Nat → Nat} {q : Nat → Nat} {B w : Wd} {p d : Nat} {op : Nat → Int32} (h : cS t β q B w p d op) (hd : d < 6) (hp : p < t) : cS t β q B (wI (wI (wI w 5 d (nI p)) 1 4 (nI (d + 1))) 1 3 (nI (p + 1))) (p + 1) (d + 1) (updO op d p) := by
  obtain ⟨⟨⟨h1, h2, h3, h4⟩, h5, h6, h7, hq⟩, h8, h9, h10, h11, h12, h13, h14⟩ := h
  have g : ∀ c i, (c, i) ≠ (1, 4) → (c, i) ≠ (1, 3) → c ≠ 5 → (wI (wI (wI w 5 d (nI p)) 1 4 (nI (d + 1))) 1 3 (nI (p + 1))).1 c i = w.1 c i := by
    intro c i n1 n2 n3
    rw [wI_1, if_neg (fun z => n2 (by rw [z.1, z.2])), wI_1, if_neg (fun z => n1 (by rw [z.1, z.2])), wI_1, if_neg (fun z => n3 z.1)]
  refine ⟨⟨⟨h1, h2, ?_, fun i hi => ?_⟩, ckc_wI _ (ckc_wI _ (ckc_wI _ h5 rfl) rfl) rfl, hp, by omega, hq⟩, ?_, ?_, fun i hi => ?_, fun i hi => ?_, ?_, ?_, ?_⟩
  · rw [g 2 1 (by decide) (by decide) (by decide)]; exact h3
  · rw [g 3 i (by simp) (by simp) (by decide)]; exact h4 i hi
  · rw [wI_1, if_pos ⟨rfl, rfl⟩]
  · rw [wI_1, if_neg (by decide), wI_1, if_pos ⟨rfl, rfl⟩]
  · rw [wI_1, if_neg (fun z => absurd z.1 (by decide)), wI_1, if_neg (fun z => absurd z.1 (by decide)), wI_1]
    unfold updO
    by_cases e : i = d
    · rw [if_pos ⟨rfl, e⟩, if_pos e]
    · rw [if_neg (fun z => e z.2), if_neg e]
      exact h10 i (by omega)
  · rw [wI_2, wI_2, wI_2]; exact h11 i hi
  · rw [g 1 5 (by decide) (by decide) (by decide)]; exact h12
  · rw [g 1 6 (by decide) (by decide) (by decide)]; exact h13
  · rw [g 1 7 (by decide) (by decide) (by decide)]; exact h14
theorem cS_close {t : Nat} {β : Nat → Nat} {q : Nat → Nat} {B w : Wd} {p d s : Nat} {op : Nat → Int32} (h : cS t β q B w p (d + 1) (updO op d s)) : cS t β q B (wI w 1 4 (nI d)) p d op := by
  obtain ⟨⟨⟨h1, h2, h3, h4⟩, h5, h6, h7, hq⟩, h8, h9, h10, h11, h12, h13, h14⟩ := h
  have g : ∀ c i, (c, i) ≠ (1, 4) → (wI w 1 4 (nI d)).1 c i = w.1 c i := by
    intro c i n1
    rw [wI_1, if_neg (fun z => n1 (by rw [z.1, z.2]))]
  refine ⟨⟨⟨h1, h2, ?_, fun i hi => ?_⟩, ckc_wI _ h5 rfl, h6, by omega, hq⟩, ?_, ?_, fun i hi => ?_, fun i hi => ?_, ?_, ?_, ?_⟩
  · rw [g 2 1 (by decide)]; exact h3
  · rw [g 3 i (by simp)]; exact h4 i hi
  · rw [g 1 3 (by decide)]; exact h8
  · rw [wI_1, if_pos ⟨rfl, rfl⟩]
  · rw [g 5 i (by simp), h10 i (by omega)]
    unfold updO
    rw [if_neg (by omega)]
  · rw [wI_2]; exact h11 i hi
  · rw [g 1 5 (by decide)]; exact h12
  · rw [g 1 6 (by decide)]; exact h13
  · rw [g 1 7 (by decide)]; exact h14
theorem c_nest {t : Nat} {β : Nat → Nat} {q : Nat → Nat} {B : Wd} (hq : ∀ k, k < 10 → q k < 2 ^ 32) : ∀ n d op, 7 ≤ n + d → d ≤ 6 → cN t β q B d op (pNest t β q n) (cf_Reader_readNested n) := by
  intro n
  induction n with
  | zero => intro d op h1 h2; omega
  | succ n ih =>
    intro d op h1 h2
    refine ⟨fun w0 p0 P hS0 hok hbad => ?_, fun p hp => ?_, pNest_ok (β := β) hq _, hq⟩
    · show cf_Reader_readNested_E _ _ _
      unfold cf_Reader_readNested_E
      refine c_peek hS0 (fun w1 S1 => ?_)
      have hp := S1.1.2.2.1
      have ht := S1.1.1.1
      have E : pNest t β q (n + 1) p0 d op = pNestE t β (pNest t β q n) q p0 d op := rfl
      rw [E] at hok hbad
      unfold pNestE at hok hbad
      rw [show (40 : Int32) = nI 40 from rfl, bv_eq S1.1.1.2.1 (by omega), S1.2.1, S1.2.2.1]
      refine ⟨fun y40 => ⟨fun z => absurd z (nI_pos (by omega)), fun _ => ?_⟩, fun n40 => ?_⟩
      · rw [if_pos y40] at hok hbad
        rw [show (6 : Int32) = nI 6 from rfl, nI_ltI (by omega) (by omega)]
        refine ⟨fun c => ⟨vp_in_nI (by omega) (by omega), ?_⟩, fun c => ?_⟩
        · rw [if_pos c] at hok hbad
          rw [nI_clamp (by omega)]
          rintro _ rfl
          rw [show (wI w1 5 d (nI (sk t β p0))).1 1 4 = nI d by rw [wI_1, if_neg (by simp)]; exact S1.2.2.1, nI_1]
          rintro _ rfl
          rw [show (wI (wI w1 5 d (nI (sk t β p0))) 1 4 (nI (d + 1))).1 1 3 = nI (sk t β p0) by rw [wI_1, if_neg (by decide), wI_1, if_neg (by simp)]; exact S1.2.1, nI_1]
          rintro _ rfl
          have S2 := cS_open S1 c y40.1
          refine c_sum (ih (d + 1) (updO op d (sk t β p0)) (by omega) (by omega)) S2 (fun v e w3 e3 S3 => ⟨fun z => absurd S3.2.2.2.2.2.1 z, fun _ => ?_⟩) (fun f w3 v e3 hb hv => ⟨fun _ => ?_, fun z => absurd z (cBad_no hb)⟩)
          · have h3 := pSum_ok (β := β) (q := q) (pNest_ok (β := β) hq n) hq (d := d + 1) (op := updO op d (sk t β p0)) S2.1.2.2.1
            rw [e3] at hok hbad h3
            have hv : v < 2 ^ 32 := h3.1
            refine c_sign (c := 41) S3 (by omega) (fun w4 y41 S4 => ⟨fun z => absurd z one_ne', fun _ => ?_⟩) (fun f w4 n41 ef hb => ⟨fun _ => hbad f w4 v ?_ hb hv, fun z => absurd rfl z⟩)
            · rw [S4.2.2.1, show nI (d + 1) - (1 : Int32) = nI d from nI_pred d]
              rintro _ rfl
              refine hok v _ _ ?_ (cS_close S4)
              show (if isc t β (sk t β e) 41 then _ else _) = _
              rw [if_pos y41]
            · show (if isc t β (sk t β e) 41 then _ else _) = _
              rw [if_neg n41]
              exact ef
          · rw [e3] at hbad
            exact hbad f w3 v rfl hb hv
        · rw [if_neg c] at hok hbad
          exact c_fail (c := 4) S1 (by omega) (by omega) (fun w6 f ef hb => hbad f w6 0 ef hb (by decide))
      · rw [if_neg n40] at hok hbad
        exact c_fail (c := 1) S1 (by omega) (by omega) (fun w6 f ef hb => hbad f w6 0 ef hb (by decide))
    · show pNestE t β (pNest t β q n) q p d op = _
      unfold pNestE
      rw [if_neg hp]
