-- the model's reader: powers, products, sums, brackets
def mOk (t : Nat) (β : Nat → Nat) (q : Nat → Nat) (B : Wd) (d : Nat) (op : Nat → Int32) (o : Out) (P : Int32 → Wd → Prop) : Prop :=
  (∀ v e w', o = .inl (v, e) → mS t β q B (lN v) w' e d op → P 1 w') ∧ (∀ f w', o = .inr f → mBad B w' f → P 0 w')
theorem m_tri {t : Nat} {β : Nat → Nat} {q : Nat → Nat} {B : Wd} {V : Int64} {d : Nat} {op : Nat → Int32} {w0 : Wd} {p0 : Nat} {P : Int32 → Wd → Prop} (hS0 : mS t β q B V w0 p0 d op) (hP : mOk t β q B d op (pTri t β p0 d op) P) : cf_M_readsTri w0 P := by
  obtain ⟨hok, hbad⟩ := hP
  unfold cf_M_readsTri
  refine m_num (lo := 2) (hi := 31) hS0 (by omega) (by omega) (fun a e w1 e1 S1 n1 => ⟨fun _ => ?_, fun z => absurd z one_ne'⟩) (fun f w1 e1 hb => ⟨fun z => absurd rfl z, fun _ => hbad f w1 ?_ hb⟩)
  · have h1 := pNum_le hS0.1.2.2.1 e1
    have E : pTri t β p0 d op = bnd (pNum t β 1 (a - 1) e d op) (fun b e2 => .inl (((2 ^ a ||| 2 ^ b) ||| 1), e2)) := by
      unfold pTri
      rw [e1]
      rfl
    rw [n1]
    rintro _ rfl
    rw [show nI a - (1 : Int32) = nI (a - 1) from pk_sub (b := 1) (by omega)]
    refine m_num (lo := 1) (hi := a - 1) S1 (by omega) (by omega) (fun b e2 w2 e3 S2 n2 => ⟨fun _ => ?_, fun z => absurd z one_ne'⟩) (fun f w2 e3 hb => ⟨fun z => absurd rfl z, fun _ => hbad f w2 ?_ hb⟩)
    · have h2 := pNum_le S1.1.2.2.1 e3
      rw [n2]
      refine mp_tri (by omega) (by omega) ?_
      rintro _ rfl
      exact hok _ e2 _ (by rw [E, e3]; rfl) (mS_val S2 _)
    · rw [E, e3]; rfl
  · unfold pTri
    rw [e1]
    rfl
def mN (t : Nat) (β : Nat → Nat) (q : Nat → Nat) (B : Wd) (d : Nat) (op : Nat → Int32) (nr : NRt) (NR : Wd → (Int32 → Wd → Prop) → Prop) : Prop :=
  (∀ w p V (P : Int32 → Wd → Prop), mS t β q B V w p d op → mOk t β q B d op (nr p d op) P → NR w P) ∧ (∀ p, nr (sk t β p) d op = nr p d op) ∧ nrOk t nr ∧ ∀ k, k < 10 → q k < 2 ^ 32
theorem b01 {P : Int32 → Wd → Prop} {t : Nat} {β : Nat → Nat} {q : Nat → Nat} {B : Wd} {d : Nat} {op : Nat → Int32} {o : Out} (h : mOk t β q B d op o P) : mOk t β q B d op o (fun r w => (r = 0 ∨ r = 1) ∧ P r w) :=
  ⟨fun v e w' h1 h2 => ⟨Or.inr rfl, h.1 v e w' h1 h2⟩, fun f w' h1 h2 => ⟨Or.inl rfl, h.2 f w' h1 h2⟩⟩
theorem m_rev {t : Nat} {β : Nat → Nat} {q : Nat → Nat} {B : Wd} {V : Int64} {d : Nat} {op : Nat → Int32} {nr : NRt} {NR : Wd → (Int32 → Wd → Prop) → Prop} (hN : mN t β q B d op nr NR) {w0 : Wd} {p0 : Nat} {P : Int32 → Wd → Prop} (hS0 : mS t β q B V w0 p0 d op)
    (hP : mOk t β q B d op (bnd (nr p0 d op) (fun v e => .inl ((prev v), e))) P) : cf_M_readsRev NR w0 P := by
  unfold cf_M_readsRev
  have h1 := hN.2.2.1 p0 d op hS0.1.2.2.1
  refine hN.1 w0 p0 V _ hS0 ⟨fun v e w1 e1 S1 => ⟨fun _ => ?_, fun z => absurd z one_ne'⟩, fun f w1 e1 hb => ⟨fun z => absurd rfl z, fun _ => hP.2 f w1 (by rw [e1]; rfl) hb⟩⟩
  rw [e1] at h1
  rw [S1.2.2.2.2.2]
  refine mp_reversed (by have := h1.1; omega) ?_
  rintro _ rfl
  exact hP.1 _ e _ (by rw [e1]; rfl) (mS_val S1 _)
theorem m_der {t : Nat} {β : Nat → Nat} {q : Nat → Nat} {B : Wd} {V : Int64} {d : Nat} {op : Nat → Int32} {nr : NRt} {NR : Wd → (Int32 → Wd → Prop) → Prop} (hN : mN t β q B d op nr NR) {w0 : Wd} {p0 : Nat} {P : Int32 → Wd → Prop} (hS0 : mS t β q B V w0 p0 d op)
    (hP : mOk t β q B d op (bnd (nr p0 d op) (fun v e => .inl ((pder v), e))) P) : cf_M_readsDer NR w0 P := by
  unfold cf_M_readsDer
  have h1 := hN.2.2.1 p0 d op hS0.1.2.2.1
  refine hN.1 w0 p0 V _ hS0 ⟨fun v e w1 e1 S1 => ⟨fun _ => ?_, fun z => absurd z one_ne'⟩, fun f w1 e1 hb => ⟨fun z => absurd rfl z, fun _ => hP.2 f w1 (by rw [e1]; rfl) hb⟩⟩
  rw [e1] at h1
  rw [S1.2.2.2.2.2]
  refine mp_derived (by have := h1.1; omega) ?_
  rintro _ rfl
  exact hP.1 _ e _ (by rw [e1]; rfl) (mS_val S1 _)
theorem m_one {t : Nat} {β : Nat → Nat} {q : Nat → Nat} {B : Wd} {V : Int64} {d : Nat} {op : Nat → Int32} {nr : NRt} {NR : Wd → (Int32 → Wd → Prop) → Prop} (hN : mN t β q B d op nr NR) {w0 : Wd} {p0 : Nat} {P : Int32 → Wd → Prop} (hS0 : mS t β q B V w0 p0 d op)
    (hP : mOk t β q B d op (pOne t β nr q p0 d op) P) : cf_M_readsOne NR w0 P := by
  unfold pOne at hP
  unfold cf_M_readsOne
  refine m_digit hS0 (fun w1 S1 hd => ⟨fun z => absurd z one_ne', fun _ => ?_⟩) (fun w1 S1 hd => ⟨fun _ => ?_, fun z => absurd rfl z⟩)
  · rw [if_pos hd] at hP
    refine m_num (lo := 0) (hi := 1) S1 (by omega) (by omega) (fun v e w2 e2 S2 n2 => ?_) (fun f w2 e2 hb => ?_)
    · have := pNum_le S1.1.2.2.1 e2
      rw [n2, nI_l (by omega)]
      rintro _ rfl
      exact ⟨Or.inr rfl, hP.1 v e _ e2 (mS_val S2 _)⟩
    · rintro _ rfl
      exact ⟨Or.inl rfl, hP.2 f _ e2 (mBad_val hb _)⟩
  rw [if_neg hd] at hP
  refine m_word S1 (by decide) (fun w2 S2 i0 => ⟨fun z => absurd z one_ne', fun _ => ?_⟩) (fun w2 S2 i0 => ⟨fun _ => ?_, fun z => absurd rfl z⟩)
  · rw [sk_sk] at i0 S2
    rw [if_pos i0] at hP
    rintro _ rfl
    exact hP.1 2 _ _ rfl (mS_val S2 _)
  rw [sk_sk] at i0 S2
  rw [if_neg i0] at hP
  refine m_word S2 (by decide) (fun w3 S3 i1 => ⟨fun z => absurd z one_ne', fun _ => ?_⟩) (fun w3 S3 i1 => ⟨fun _ => ?_, fun z => absurd rfl z⟩)
  · rw [sk_sk] at i1 S3
    rw [if_pos i1] at hP
    refine m_num (lo := 0) (hi := 9) S3 (by omega) (by omega) (fun v e w4 e4 S4 n4 => ⟨fun z => absurd z one_ne', fun _ => ?_⟩) (fun f w4 e4 hb => ⟨fun _ => ?_, fun z => absurd rfl z⟩)
    · have e4 : pNum t β 0 9 (sk t β p0 + 1) d op = .inl (v, e) := e4
      have := pNum_le (S3.1.2.2.1 : sk t β p0 + 1 ≤ t) e4
      rw [n4, nI_clamp (by omega)]
      refine ⟨vp_in_nI (by omega) (by omega), ?_⟩
      rw [S4.2.2.2.2.1 v (by omega)]
      rintro _ rfl
      exact ⟨Or.inr rfl, hP.1 _ e _ (by rw [e4]; rfl) (mS_val S4 _)⟩
    · have e4 : pNum t β 0 9 (sk t β p0 + 1) d op = .inr f := e4
      rintro _ rfl
      exact ⟨Or.inl rfl, hP.2 f _ (by rw [e4]; rfl) (mBad_val hb _)⟩
  rw [sk_sk] at i1 S3
  rw [if_neg i1] at hP
  refine m_word S3 (by decide) (fun w4 S4 i2 => ⟨fun z => absurd z one_ne', fun _ => ?_⟩) (fun w4 S4 i2 => ⟨fun _ => ?_, fun z => absurd rfl z⟩)
  · rw [sk_sk] at i2 S4
    rw [if_pos i2] at hP
    exact m_tri S4 (b01 hP)
  rw [sk_sk] at i2 S4
  rw [if_neg i2] at hP
  refine m_word S4 (by decide) (fun w5 S5 i3 => ⟨fun z => absurd z one_ne', fun _ => ?_⟩) (fun w5 S5 i3 => ⟨fun _ => ?_, fun z => absurd rfl z⟩)
  · rw [sk_sk] at i3 S5
    rw [if_pos i3] at hP
    exact m_rev hN S5 (b01 hP)
  rw [sk_sk] at i3 S5
  rw [if_neg i3] at hP
  refine m_word S5 (by decide) (fun w6 S6 i4 => ⟨fun z => absurd z one_ne', fun _ => ?_⟩) (fun w6 S6 i4 => ⟨fun _ => ?_, fun z => absurd rfl z⟩)
  · rw [sk_sk] at i4 S6
    rw [if_pos i4] at hP
    exact m_der hN S6 (b01 hP)
  rw [sk_sk] at i4 S6
  rw [if_neg i4] at hP
  exact hN.1 w6 _ V _ S6 (b01 hP)
theorem dI_sum {a b : Nat} (ha : a < 2 ^ 32) (hb : b < 2 ^ 32) (ha0 : a ≠ 0) (hb0 : b ≠ 0) : dI a + dI b ≤ (31 : Int32) ↔ dg a + dg b ≤ 31 := by
  have h1 := (dg_lt ha0).mpr ha
  have h2 := (dg_lt hb0).mpr hb
  rw [dI_pos ha0, dI_pos hb0, nI_add, show (31 : Int32) = nI 31 from rfl, nI_leI (by omega) (by omega)]
theorem ppow_le {v i k : Nat} (h : v = 0 ∨ dg v * k ≤ 31) (hi : i ≤ k) : v = 0 ∨ dg v * i ≤ 31 := by
  rcases h with h | h
  · exact Or.inl h
  · have := Nat.mul_le_mul_left (dg v) hi
    exact Or.inr (by omega)
theorem m_pow {t : Nat} {β : Nat → Nat} {q : Nat → Nat} {B : Wd} {V : Int64} {d : Nat} {op : Nat → Int32} {nr : NRt} {NR : Wd → (Int32 → Wd → Prop) → Prop} (hN : mN t β q B d op nr NR) {w0 : Wd} {p0 : Nat} {P : Int32 → Wd → Prop} (hS0 : mS t β q B V w0 p0 d op)
    (hP : mOk t β q B d op (pPow t β nr q p0 d op) P) : cf_M_readsPower NR w0 P := by
  unfold cf_M_readsPower
  refine m_next hS0 (fun w1 S1 => ?_)
  rintro _ rfl
  rw [S1.2.1]
  have hp := S1.1.2.2.1
  have ht := S1.1.1.1
  have h1 := pOne_ok (β := β) hN.2.2.1 hN.2.2.2 (d := d) (op := op) hp
  refine m_one hN S1 ⟨fun v e w2 e2 S2 => ⟨fun _ => ?_, fun z => absurd z one_ne'⟩, fun f w2 e2 hb => ⟨fun z => absurd rfl z, fun _ => hP.2 f w2 ?_ hb⟩⟩
  · rw [e2] at h1
    have hv : v < 2 ^ 32 := h1.1
    have E : pPow t β nr q p0 d op = (if isc t β (sk t β e) 94 then bnd (pNum t β 0 31 (sk t β e + 1) d op) (fun k e2 => if v = 0 ∨ dg v * k ≤ 31 then .inl ((ppow v k), e2) else fl 3 (sk t β p0) d op) else .inl (v, (sk t β e))) := by
      unfold pPow
      rw [e2]
      rfl
    rw [E] at hP
    refine m_sign (c := 94) S2 (by omega) (fun w3 y S3 => ⟨fun _ => ?_, fun z => absurd z one_ne'⟩) (fun w3 n S3 => ⟨fun z => absurd rfl z, fun _ => ?_⟩)
    · rw [if_pos y] at hP
      rw [S3.2.2.2.2.2]
      rintro _ rfl
      refine m_num (lo := 0) (hi := 31) S3 (by omega) (by omega) (fun k e3 w5 e4 S5 n5 => ⟨fun _ => ?_, fun z => absurd z one_ne'⟩) (fun f w5 e4 hb => ⟨fun z => absurd rfl z, fun _ => ?_⟩)
      · have hk := pNum_le S3.1.2.2.1 e4
        rw [e4] at hP
        have hP : mOk t β q B d op (if v = 0 ∨ dg v * k ≤ 31 then .inl (ppow v k, e3) else fl 3 (sk t β p0) d op) P := hP
        have key : ∀ m i w, i + m = k → mS t β q B (lN (ppow v i)) w e3 d op → w.1 30 26 = nI k → (v = 0 ∨ dg v * i ≤ 31) → ∀ n, m < n → cf_M_readsPower_L55 NR P n (nI (sk t β p0)) (lN v) (nI i) w := by
          intro m
          induction m with
          | zero =>
            intro i w hi hS hk26 hb n hn
            obtain ⟨n, rfl⟩ : ∃ m, n = m + 1 := ⟨n - 1, by omega⟩
            show cf_M_readsPower_B55 NR _ _ _ _ _ _
            unfold cf_M_readsPower_B55
            have : i = k := by omega
            subst this
            rw [hk26]
            rw [if_pos hb] at hP
            exact ⟨fun _ => hP.1 _ e3 w rfl hS, fun z => absurd (Int32.le_refl _) z⟩
          | succ m ih =>
            intro i w hi hS hk26 hb n hn
            obtain ⟨n, rfl⟩ : ∃ m, n = m + 1 := ⟨n - 1, by omega⟩
            show cf_M_readsPower_B55 NR _ _ _ _ _ _
            unfold cf_M_readsPower_B55
            have hu := ppow_bd hb
            have go : (v = 0 ∨ dg v * (i + 1) ≤ 31) → cf_M_product (lN (ppow v i)) (lN v) (fun r14 => ∀ w15, w15 = wL w 30 30 r14 → ∀ v16, v16 = nI i + (1 : Int32) → cf_M_readsPower_L55 NR P n (nI (sk t β p0)) (lN v) v16 w15) := by
              intro hb2
              refine mp_product (by omega) ?_
              rintro _ rfl _ rfl
              rw [nI_1, cm_comm]
              exact ih (i + 1) _ (by omega) (mS_val hS _) hk26 hb2 n (by omega)
            rw [hk26, hS.2.2.2.2.2, nI_leI (by omega) (by omega), lN_eq0 (by omega), lN_eq0 (by omega)]
            refine ⟨fun z => absurd z (by omega), fun _ => mp_degree (by omega) (mp_degree (by omega) ?_)⟩
            by_cases hv0 : v = 0
            · have g := go (Or.inl hv0)
              exact ⟨fun _ => g, fun _ => ⟨fun _ => g, fun _ => ⟨fun _ => g, fun z => absurd hv0 z⟩⟩⟩
            · have hu0 := ppow_ne hv0 i
              rw [dI_sum hu hv hu0 hv0, dg_ppow hv0]
              have e5 : i * dg v + dg v = dg v * (i + 1) := by rw [Nat.mul_succ, Nat.mul_comm]
              rw [e5]
              refine ⟨fun z => go (Or.inr z), fun z => ⟨fun y => absurd y hu0, fun _ => ⟨fun y => absurd y hv0, fun _ => ?_⟩⟩⟩
              refine m_fails (c := 3) hS (by omega) (by omega) (fun w6 f ef hbd => ⟨Or.inl rfl, hP.2 f w6 ?_ hbd⟩)
              rw [if_neg]
              · exact ef
              · intro y
                rcases ppow_le (i := i + 1) y (by omega) with y | y
                · exact hv0 y
                · exact z y
        rintro _ rfl
        refine ⟨k + 1, key k 0 _ (by omega) (mS_val S5 _) ?_ (Or.inr (by omega)) (k + 1) (by omega)⟩
        rw [wL_1]
        exact n5
      · rw [e4] at hP
        exact hP.2 f w5 rfl hb
    · rw [if_neg n] at hP
      exact hP.1 v _ w3 rfl S3
  · unfold pPow
    rw [e2]
    rfl
theorem m_oneNext {t : Nat} {β : Nat → Nat} {q : Nat → Nat} {B : Wd} {V : Int64} {d : Nat} {op : Nat → Int32} {w0 : Wd} {p0 : Nat} {P : Int32 → Wd → Prop} (hS0 : mS t β q B V w0 p0 d op)
    (h1 : ∀ w', mS t β q B V w' (sk t β p0) d op → ahead t β (sk t β p0) → P 1 w') (h0 : ∀ w', mS t β q B V w' (sk t β p0) d op → ¬ ahead t β (sk t β p0) → P 0 w') : cf_M_isOneNext w0 P := by
  unfold cf_M_isOneNext
  refine m_next hS0 (fun w1 S1 => ?_)
  have hβ := S1.1.1.2.1
  rw [show (40 : Int32) = nI 40 from rfl, bv_eq hβ (by omega)]
  refine ⟨fun y40 => h1 w1 S1 (Or.inl y40), fun n40 => m_isd hβ (fun yd => ⟨fun _ => h1 w1 S1 (Or.inr (Or.inl yd)), fun z => absurd z one_ne'⟩) (fun nd => ⟨fun z => absurd rfl z, fun _ => m_isl hβ (fun yl => ⟨fun z => absurd z one_ne', fun _ => h1 w1 S1 (Or.inr (Or.inr yl))⟩) (fun nl => ⟨fun _ => h0 w1 S1 ?_, fun z => absurd rfl z⟩)⟩)⟩
  rintro (z | z | z)
  · exact n40 z
  · exact nd z
  · exact nl z
theorem cm32 {a v : Nat} (ha : a ≠ 0) (hv : v ≠ 0) : cm a v < 2 ^ 32 ↔ dg a + dg v ≤ 31 := by
  rw [← dg_lt (cm_ne ha hv), dg_cm ha hv]
  omega
theorem m_prd {t : Nat} {β : Nat → Nat} {q : Nat → Nat} {B : Wd} {V : Int64} {d : Nat} {op : Nat → Int32} {nr : NRt} {NR : Wd → (Int32 → Wd → Prop) → Prop} (hN : mN t β q B d op nr NR) {w0 : Wd} {p0 : Nat} {P : Int32 → Wd → Prop} (hS0 : mS t β q B V w0 p0 d op)
    (hP : mOk t β q B d op (pPrd t β nr q p0 d op) P) : cf_M_readsProduct NR w0 P := by
  unfold cf_M_readsProduct
  refine m_next hS0 (fun w1 S1 => ?_)
  rintro _ rfl
  rw [S1.2.1]
  have hp := S1.1.2.2.1
  have ht := S1.1.1.1
  have h1 := pPow_ok (β := β) hN.2.2.1 hN.2.2.2 (d := d) (op := op) hp
  have key : ∀ g acc p w V, t < p + g → mS t β q B V w p d op → acc < 2 ^ 32 → pPrd t β nr q p0 d op = pPrdL t β nr q (sk t β p0) d op g acc p → ∀ n, g < n → cf_M_readsProduct_L24 NR P n (nI (sk t β p0)) (lN acc) w := by
    intro g
    induction g with
    | zero =>
      intro acc p w V hg hS
      have := hS.1.2.2.1
      omega
    | succ g ih =>
      intro acc p w V hg hS ha he n hn
      obtain ⟨n, rfl⟩ : ∃ m, n = m + 1 := ⟨n - 1, by omega⟩
      show cf_M_readsProduct_B24 _ _ _ _ _ _
      unfold cf_M_readsProduct_B24
      have hge := sk_ge t β p
      have more : ∀ x w' , (isc t β (sk t β p) 42 ∨ ahead t β (sk t β p)) → x = (if isc t β (sk t β p) 42 then sk t β p + 1 else sk t β p) → mS t β q B V w' x d op → cf_M_readsProduct_B40 NR (cf_M_readsProduct_L24 NR P n) P (nI (sk t β p0)) (lN acc) w' := by
        intro x w' hy hx S2
        have he : pPrd t β nr q p0 d op = bnd (pPow t β nr q x d op) (fun v e => if cm acc v < 2 ^ 32 then pPrdL t β nr q (sk t β p0) d op g (cm acc v) e else fl 3 (sk t β p0) d op) := by
          rw [he, hx]
          show (if isc t β (sk t β p) 42 ∨ ahead t β (sk t β p) then _ else _) = _
          rw [if_pos hy]
        have hpx : p ≤ x := by rw [hx]; split <;> omega
        have h2 := pPow_ok (β := β) hN.2.2.1 hN.2.2.2 (d := d) (op := op) S2.1.2.2.1
        unfold cf_M_readsProduct_B40
        refine m_pow hN S2 ⟨fun v e w3 e3 S3 => ⟨fun _ => ?_, fun z => absurd z one_ne'⟩, fun f w3 e3 hb => ⟨fun z => absurd rfl z, fun _ => hP.2 f w3 (by rw [he, e3]; rfl) hb⟩⟩
        rw [e3] at h2 he
        have hv : v < 2 ^ 32 := h2.1
        have h22 := h2.2.1
        have he : pPrd t β nr q p0 d op = (if cm acc v < 2 ^ 32 then pPrdL t β nr q (sk t β p0) d op g (cm acc v) e else fl 3 (sk t β p0) d op) := he
        have go : cm acc v < 2 ^ 32 → cf_M_product (lN acc) (lN v) (fun r11 => cf_M_readsProduct_L24 NR P n (nI (sk t β p0)) r11 w3) := by
          intro c
          refine mp_product (by omega) ?_
          rw [if_pos c] at he
          exact ih (cm acc v) e w3 _ (by omega) S3 c he n (by omega)
        rw [S3.2.2.2.2.2, lN_eq0 (by omega), lN_eq0 (by omega)]
        refine ⟨fun z => go ?_, fun a0 => ⟨fun z => go ?_, fun v0 => mp_degree (by omega) (mp_degree (by omega) ?_)⟩⟩
        · rw [z, zero_cm]; decide
        · rw [z, cm_zero]; decide
        · rw [dI_sum ha hv a0 v0, ← cm32 a0 v0]
          refine ⟨go, fun c => m_fails (c := 3) S3 (by omega) (by omega) (fun w6 f ef hbd => ⟨Or.inl rfl, hP.2 f w6 ?_ hbd⟩)⟩
          rw [he, if_neg c]
          exact ef
      refine m_sign (c := 42) hS (by omega) (fun w2 y S2 => ⟨fun _ => more _ w2 (Or.inl y) (by rw [if_pos y]) S2, fun z => absurd z one_ne'⟩) (fun w2 no S2 => ⟨fun z => absurd rfl z, fun _ => ?_⟩)
      refine m_oneNext S2 (fun w3 S3 y => ⟨fun z => absurd z one_ne', fun _ => ?_⟩) (fun w3 S3 n3 => ⟨fun _ => ?_, fun z => absurd rfl z⟩)
      · rw [sk_sk] at S3 y
        exact more _ w3 (Or.inr y) (by rw [if_neg no]) S3
      · rw [sk_sk] at S3 n3
        rintro _ rfl
        refine hP.1 acc _ _ ?_ (mS_val S3 _)
        rw [he]
        show (if isc t β (sk t β p) 42 ∨ ahead t β (sk t β p) then _ else _) = _
        rw [if_neg (fun z => z.elim no n3)]
  refine m_pow hN S1 ⟨fun v e w2 e2 S2 => ⟨fun _ => ?_, fun z => absurd z one_ne'⟩, fun f w2 e2 hb => ⟨fun z => absurd rfl z, fun _ => hP.2 f w2 ?_ hb⟩⟩
  · rw [e2] at h1
    rw [S2.2.2.2.2.2]
    rintro _ rfl
    refine ⟨t + 2, key (t + 1 - e) v e w2 _ (by have := h1.2.2; omega) S2 h1.1 ?_ (t + 2) (by omega)⟩
    unfold pPrd
    rw [e2]
    rfl
  · unfold pPrd
    rw [e2]
    rfl
theorem m_sum {t : Nat} {β : Nat → Nat} {q : Nat → Nat} {B : Wd} {V : Int64} {d : Nat} {op : Nat → Int32} {nr : NRt} {NR : Wd → (Int32 → Wd → Prop) → Prop} (hN : mN t β q B d op nr NR) {w0 : Wd} {p0 : Nat} {P : Int32 → Wd → Prop} (hS0 : mS t β q B V w0 p0 d op)
    (hP : mOk t β q B d op (pSum t β nr q p0 d op) P) : cf_M_readsSum NR w0 P := by
  unfold cf_M_readsSum
  have hp := hS0.1.2.2.1
  have ht := hS0.1.1.1
  have h1 := pPrd_ok (β := β) hN.2.2.1 hN.2.2.2 (d := d) (op := op) hp
  have key : ∀ g acc p w V, t < p + g → mS t β q B V w p d op → acc < 2 ^ 32 → pSum t β nr q p0 d op = pSumL t β nr q d op g acc p → ∀ n, g < n → cf_M_readsSum_L14 NR P n (lN acc) w := by
    intro g
    induction g with
    | zero =>
      intro acc p w V hg hS
      have := hS.1.2.2.1
      omega
    | succ g ih =>
      intro acc p w V hg hS ha he n hn
      obtain ⟨n, rfl⟩ : ∃ m, n = m + 1 := ⟨n - 1, by omega⟩
      show cf_M_readsSum_B14 _ _ _ _ _
      unfold cf_M_readsSum_B14
      have hge := sk_ge t β p
      refine m_sign (c := 43) hS (by omega) (fun w2 hy S2 => ⟨fun z => absurd z one_ne', fun _ => ?_⟩) (fun w2 hno S2 => ⟨fun _ => ?_, fun z => absurd rfl z⟩)
      · have he : pSum t β nr q p0 d op = bnd (pPrd t β nr q (sk t β p + 1) d op) (fun v e => pSumL t β nr q d op g (acc ^^^ v) e) := by
          rw [he]
          show (if isc t β (sk t β p) 43 then _ else _) = _
          rw [if_pos hy]
        have h2 := pPrd_ok (β := β) hN.2.2.1 hN.2.2.2 (d := d) (op := op) S2.1.2.2.1
        refine m_prd hN S2 ⟨fun v e w3 e3 S3 => ⟨fun _ => ?_, fun z => absurd z one_ne'⟩, fun f w3 e3 hb => ⟨fun z => absurd rfl z, fun _ => hP.2 f w3 (by rw [he, e3]; rfl) hb⟩⟩
        rw [e3] at h2 he
        have hv : v < 2 ^ 32 := h2.1
        have h22 := h2.2.1
        rw [S3.2.2.2.2.2, lN_xor]
        rintro _ rfl
        exact ih (acc ^^^ v) e w3 _ (by omega) S3 (Nat.xor_lt_two_pow ha hv) he n (by omega)
      · rintro _ rfl
        refine hP.1 acc _ _ ?_ (mS_val S2 _)
        rw [he]
        show (if isc t β (sk t β p) 43 then _ else _) = _
        rw [if_neg hno]
  refine m_prd hN hS0 ⟨fun v e w2 e2 S2 => ⟨fun _ => ?_, fun z => absurd z one_ne'⟩, fun f w2 e2 hb => ⟨fun z => absurd rfl z, fun _ => hP.2 f w2 ?_ hb⟩⟩
  · rw [e2] at h1
    rw [S2.2.2.2.2.2]
    rintro _ rfl
    refine ⟨t + 2, key (t + 1 - e) v e w2 _ (by have := h1.2.2; omega) S2 h1.1 ?_ (t + 2) (by omega)⟩
    unfold pSum
    rw [e2]
    rfl
  · unfold pSum
    rw [e2]
    rfl
theorem mS_open {t : Nat} {β : Nat → Nat} {q : Nat → Nat} {B : Wd} {V : Int64} {w : Wd} {p d : Nat} {op : Nat → Int32} (h : mS t β q B V w p d op) (hd : d < 6) (hp : p < t) : mS t β q B V (wI (wI (wI w 44 d (nI p)) 30 28 (nI (d + 1))) 30 22 (nI (p + 1))) (p + 1) (d + 1) (updO op d p) := by
  obtain ⟨⟨⟨h1, h2, h3, h4⟩, h5, h6, h7, hq⟩, h8, h9, h10, h11, h12⟩ := h
  have g : ∀ c i, (c, i) ≠ (30, 28) → (c, i) ≠ (30, 22) → c ≠ 44 → (wI (wI (wI w 44 d (nI p)) 30 28 (nI (d + 1))) 30 22 (nI (p + 1))).1 c i = w.1 c i := by
    intro c i n1 n2 n3
    rw [wI_1, if_neg (fun z => n2 (by rw [z.1, z.2])), wI_1, if_neg (fun z => n1 (by rw [z.1, z.2])), wI_1, if_neg (fun z => n3 z.1)]
  refine ⟨⟨⟨h1, h2, ?_, fun i hi => ?_⟩, mkc_wI _ (mkc_wI _ (mkc_wI _ h5 rfl) rfl) rfl, hp, by omega, hq⟩, ?_, ?_, fun i hi => ?_, fun i hi => ?_, ?_⟩
  · rw [g 30 21 (by decide) (by decide) (by decide)]; exact h3
  · rw [g 43 i (by simp) (by simp) (by decide)]; exact h4 i hi
  · rw [wI_1, if_pos ⟨rfl, rfl⟩]
  · rw [wI_1, if_neg (by decide), wI_1, if_pos ⟨rfl, rfl⟩]
  · rw [wI_1, if_neg (fun z => absurd z.1 (by decide)), wI_1, if_neg (fun z => absurd z.1 (by decide)), wI_1]
    unfold updO
    by_cases e : i = d
    · rw [if_pos ⟨rfl, e⟩, if_pos e]
    · rw [if_neg (fun z => e z.2), if_neg e]
      exact h10 i (by omega)
  · rw [wI_2, wI_2, wI_2]; exact h11 i hi
  · rw [wI_2, wI_2, wI_2]; exact h12
theorem mS_close {t : Nat} {β : Nat → Nat} {q : Nat → Nat} {B : Wd} {V : Int64} {w : Wd} {p d s : Nat} {op : Nat → Int32} (h : mS t β q B V w p (d + 1) (updO op d s)) : mS t β q B V (wI w 30 28 (nI d)) p d op := by
  obtain ⟨⟨⟨h1, h2, h3, h4⟩, h5, h6, h7, hq⟩, h8, h9, h10, h11, h12⟩ := h
  have g : ∀ c i, (c, i) ≠ (30, 28) → (wI w 30 28 (nI d)).1 c i = w.1 c i := by
    intro c i n1
    rw [wI_1, if_neg (fun z => n1 (by rw [z.1, z.2]))]
  refine ⟨⟨⟨h1, h2, ?_, fun i hi => ?_⟩, mkc_wI _ h5 rfl, h6, by omega, hq⟩, ?_, ?_, fun i hi => ?_, fun i hi => ?_, ?_⟩
  · rw [g 30 21 (by decide)]; exact h3
  · rw [g 43 i (by simp)]; exact h4 i hi
  · rw [g 30 22 (by decide)]; exact h8
  · rw [wI_1, if_pos ⟨rfl, rfl⟩]
  · rw [g 44 i (by simp), h10 i (by omega)]
    unfold updO
    rw [if_neg (by omega)]
  · rw [wI_2]; exact h11 i hi
  · rw [wI_2]; exact h12
theorem pNestE_sk {t : Nat} {β : Nat → Nat} {nr : NRt} {q : Nat → Nat} {p d : Nat} {op : Nat → Int32} : pNestE t β nr q (sk t β p) d op = pNestE t β nr q p d op := by
  unfold pNestE
  rw [sk_sk]
theorem m_nest {t : Nat} {β : Nat → Nat} {q : Nat → Nat} {B : Wd} (hq : ∀ k, k < 10 → q k < 2 ^ 32) : ∀ n d op, 7 ≤ n + d → d ≤ 6 → mN t β q B d op (pNest t β q n) (cf_M_readsWithin n) := by
  intro n
  induction n with
  | zero => intro d op h1 h2; omega
  | succ n ih =>
    intro d op h1 h2
    refine ⟨fun w0 p0 V P hS0 hP => ?_, fun p => pNestE_sk, pNest_ok (β := β) hq _, hq⟩
    show cf_M_readsWithin_E _ _ _
    unfold cf_M_readsWithin_E
    refine m_next hS0 (fun w1 S1 => ?_)
    have hp := S1.1.2.2.1
    have ht := S1.1.1.1
    have hP : mOk t β q B d op (pNestE t β (pNest t β q n) q p0 d op) P := hP
    unfold pNestE at hP
    rw [show (40 : Int32) = nI 40 from rfl, bv_eq S1.1.1.2.1 (by omega), S1.2.1, S1.2.2.1, show (6 : Int32) = nI 6 from rfl, nI_eq (by omega) (by omega)]
    refine ⟨fun y40 => ⟨fun c => ⟨vp_in_nI (by omega) (by omega), ?_⟩, fun c => ?_⟩, fun n40 => ?_⟩
    · rw [if_pos y40, if_pos (by omega)] at hP
      rw [nI_clamp (by omega)]
      rintro _ rfl
      rw [show (wI w1 44 d (nI (sk t β p0))).1 30 28 = nI d by rw [wI_1, if_neg (by simp)]; exact S1.2.2.1, nI_1]
      rintro _ rfl
      rw [show (wI (wI w1 44 d (nI (sk t β p0))) 30 28 (nI (d + 1))).1 30 22 = nI (sk t β p0) by rw [wI_1, if_neg (by decide), wI_1, if_neg (by simp)]; exact S1.2.1, nI_1]
      rintro _ rfl
      have S2 := mS_open S1 (by omega) y40.1
      refine m_sum (ih (d + 1) (updO op d (sk t β p0)) (by omega) (by omega)) S2 ⟨fun v e w3 e3 S3 => ⟨fun z => absurd z one_ne', fun _ => ?_⟩, fun f w3 e3 hb => ⟨fun _ => hP.2 f w3 (by rw [e3]; rfl) hb, fun z => absurd rfl z⟩⟩
      rw [e3] at hP
      have hP : mOk t β q B d op (if isc t β (sk t β e) 41 then .inl (v, sk t β e + 1) else fl 1 (sk t β e) (d + 1) (updO op d (sk t β p0))) P := hP
      refine m_must (c := 41) S3 (by omega) (fun w4 y41 S4 => ⟨fun _ => ?_, fun z => absurd z one_ne'⟩) (fun f w4 n41 ef hb => ⟨fun z => absurd rfl z, fun _ => hP.2 f w4 (by rw [if_neg n41]; exact ef) hb⟩)
      rw [S4.2.2.1, show nI (d + 1) - (1 : Int32) = nI d from nI_pred d]
      rintro _ rfl
      exact hP.1 v _ _ (by rw [if_pos y41]) (mS_close S4)
    · rw [if_pos y40, if_neg (by omega)] at hP
      exact m_fails (c := 4) S1 (by omega) (by omega) (fun w6 f ef hb => ⟨Or.inl rfl, hP.2 f w6 ef hb⟩)
    · rw [if_neg n40] at hP
      exact m_fails (c := 1) S1 (by omega) (by omega) (fun w6 f ef hb => ⟨Or.inl rfl, hP.2 f w6 ef hb⟩)
