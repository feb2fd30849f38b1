-- the model's texts; run
theorem m_stm {t : Nat} {β : Nat → Nat} {q : Nat → Nat} {B : Wd} {V : Int64} {w0 : Wd} {p0 : Nat} {P : Int32 → Wd → Prop} (hS0 : mS t β q B V w0 p0 0 op0)
    (hok : ∀ q2 e w' V2, pStm t β q p0 = .inl (q2, e) → mS t β q2 B V2 w' e 0 op0 → P 1 w') (hbad : ∀ f w', pStm t β q p0 = .inr f → mBad B w' f → P 0 w') : cf_M_readsStatement w0 P := by
  unfold cf_M_readsStatement
  unfold pStm at hok hbad
  have hq := hS0.1.2.2.2.2
  refine m_num (lo := 0) (hi := 9) hS0 (by omega) (by omega) (fun k e w1 e1 S1 n1 => ⟨fun _ => ?_, fun z => absurd z one_ne'⟩) (fun f w1 e1 hb => ⟨fun z => absurd rfl z, fun _ => hbad f w1 (by rw [e1]; rfl) hb⟩)
  have hk := pNum_le hS0.1.2.2.1 e1
  rw [e1] at hok hbad
  rw [n1]
  rintro _ rfl
  refine m_must (c := 61) S1 (by omega) (fun w2 y S2 => ⟨fun z => absurd z one_ne', fun _ => ?_⟩) (fun f w2 n ef hb => ⟨fun _ => hbad f w2 ?_ hb, fun z => absurd rfl z⟩)
  · have E : bndT (.inl (k, e)) (fun k e => if isc t β (sk t β e) 61 then bndT (pSum t β (pNest t β q 7) q (sk t β e + 1) 0 op0) (fun v e2 => .inl (setQ q k v, e2)) else flT 1 (sk t β e)) = bndT (pSum t β (pNest t β q 7) q (sk t β e + 1) 0 op0) (fun v e2 => .inl (setQ q k v, e2)) := by
      show (if isc t β (sk t β e) 61 then _ else _) = _
      rw [if_pos y]
    rw [E] at hok hbad
    have h3 := pSum_ok (β := β) (q := q) (pNest_ok (β := β) hq 7) hq (d := 0) (op := op0) S2.1.2.2.1
    refine ⟨7, by omega, m_sum (m_nest hq 7 0 op0 (by omega) (by omega)) S2 ⟨fun v e2 w3 e3 S3 => ⟨fun _ => ⟨vp_in_nI (by omega) (by omega), ?_⟩, fun z => absurd z one_ne'⟩, fun f w3 e3 hb => ⟨fun z => absurd rfl z, fun _ => hbad f w3 (by rw [e3]; rfl) hb⟩⟩⟩
    rw [e3] at hok h3
    rw [nI_clamp (by omega), S3.2.2.2.2.2]
    rintro _ rfl
    obtain ⟨⟨g1, g2, g3, g4, g5⟩, g6, g7, g8, g9, g10⟩ := S3
    refine hok _ e2 _ (lN v) rfl ⟨⟨g1, mkc_wL _ g2 rfl, g3, g4, setQ_lt hq h3.1⟩, g6, g7, g8, fun i hi => ?_, ?_⟩
    · rw [wL_2]
      unfold setQ
      by_cases e : i = k
      · rw [if_pos ⟨rfl, e⟩, if_pos e]
      · rw [if_neg (fun z => e z.2), if_neg e]
        exact g9 i hi
    · rw [wL_2, if_neg (fun z => absurd z.1 (by decide))]; exact g10
  · show (if isc t β (sk t β e) 61 then _ else _) = _
    rw [if_neg n]
    exact fl_T ef
theorem mS_cnt {t : Nat} {β : Nat → Nat} {q : Nat → Nat} {B : Wd} {x y : Int32} {V : Int64} {w : Wd} {p d : Nat} {op : Nat → Int32} (h : mS t β q (wI B 30 32 x) V w p d op) : mS t β q (wI B 30 32 y) V (wI w 30 32 y) p d op := by
  obtain ⟨⟨⟨h1, h2, h3, h4⟩, h5, h6, h7⟩, h8, h9, h10, h11, h12⟩ := h
  refine ⟨⟨⟨h1, h2, ?_, fun i hi => ?_⟩, ⟨fun c i hc => ?_, fun c i hc => ?_⟩, h6, h7⟩, ?_, ?_, fun i hi => ?_, fun i hi => ?_, ?_⟩
  · rw [wI_1, if_neg (by decide)]; exact h3
  · rw [wI_1, if_neg (fun z => absurd z.1 (by decide))]; exact h4 i hi
  · have := h5.1 c i hc
    rw [wI_1] at this
    rw [wI_1, wI_1]
    by_cases e : c = 30 ∧ i = 32
    · rw [if_pos e, if_pos e]
    · rw [if_neg e] at this
      rw [if_neg e, if_neg e]
      exact this
  · have := h5.2 c i hc
    rw [wI_2] at this
    rw [wI_2, wI_2]
    exact this
  · rw [wI_1, if_neg (by decide)]; exact h8
  · rw [wI_1, if_neg (by decide)]; exact h9
  · rw [wI_1, if_neg (fun z => absurd z.1 (by decide))]; exact h10 i hi
  · rw [wI_2]; exact h11 i hi
  · rw [wI_2]; exact h12
theorem m_text {t : Nat} {β : Nat → Nat} {q0 : Nat → Nat} {w : Wd} {P : Int32 → Wd → Prop} (hT : mT t β w) (hq : ∀ k, k < 10 → q0 k < 2 ^ 32) (h7 : ∀ i, i < 10 → w.2 31 i = lN (q0 i))
    (hok : ∀ q2 c w' V p, pTxt t β (t + 1) q0 0 0 = .inl (q2, c) → mS t β q2 (wI w 30 32 (nI c)) V w' p 0 op0 → P 1 w') (hbad : ∀ f c w', pTxt t β (t + 1) q0 0 0 = .inr f → mBad (wI w 30 32 (nI c)) w' f → P 0 w') : cf_M_readsAll w P := by
  have ht := hT.1
  have key2 : ∀ g q p c V wc, t < p + g → mS t β q (wI w 30 32 (nI c)) V wc p 0 op0 → pTxt t β (t + 1) q0 0 0 = pTxt t β g q p c → ∀ n, g < n → cf_M_readsAll_L43 P n 1 wc := by
    intro g
    induction g with
    | zero =>
      intro q p c V wc hg hS
      have := hS.1.2.2.1
      omega
    | succ g ih =>
      intro q p c V wc hg hS he n hn
      obtain ⟨n, rfl⟩ : ∃ m, n = m + 1 := ⟨n - 1, by omega⟩
      show cf_M_readsAll_B43 _ _ _ _
      unfold cf_M_readsAll_B43
      have hp := hS.1.2.2.1
      refine ⟨fun z => absurd z one_ne', fun _ => m_stm hS (fun q2 e w2 V2 e2 S2 => ⟨fun _ => ?_, fun z => absurd z one_ne'⟩) (fun f w2 e2 hb => ⟨fun z => absurd rfl z, fun _ => hbad f c w2 ?_ hb⟩)⟩
      · have h2 := pStm_ok hS.1.2.2.2.2 hp e2
        have he : pTxt t β (t + 1) q0 0 0 = (if t ≤ sk t β e then .inl (q2, c + 1) else if isc t β (sk t β e) 59 then pTxt t β g q2 (sk t β e + 1) (c + 1) else flT 1 (sk t β e)) := by
          rw [he]
          show bndS (pStm t β q p) _ = _
          rw [e2]
          rfl
        have h3 := sk_ge t β e
        have e32 : w2.1 30 32 = nI c := by
          have := S2.1.2.1.1 30 32 rfl
          rw [this, wI_1, if_pos ⟨rfl, rfl⟩]
        rw [e32, nI_1]
        rintro _ rfl
        have S3 := mS_cnt (y := nI (c + 1)) S2
        refine m_sign (c := 59) S3 (by omega) (fun w4 y S4 => ?_) (fun w4 n4 S4 => ?_)
        · rw [if_neg (by have := y.1; omega), if_pos y] at he
          exact ih q2 _ (c + 1) V2 w4 (by omega) S4 he n (by omega)
        · rw [if_neg n4] at he
          obtain ⟨n, rfl⟩ : ∃ m, n = m + 1 := ⟨n - 1, by omega⟩
          show cf_M_readsAll_B43 _ _ _ _
          unfold cf_M_readsAll_B43
          refine ⟨fun _ => m_next S4 (fun w5 S5 => ?_), fun z => absurd rfl z⟩
          have ht5 := S5.1.2.2.1
          rw [bv_end S5.1.1.2.1, S5.2.1, sk_sk]
          rw [sk_sk] at S5 ht5
          refine ⟨fun y => hok q2 (c + 1) w5 V2 _ (by rw [he, if_pos y]) S5, fun y => m_fails (c := 1) S5 (by omega) (by omega) (fun w6 f ef hb => ⟨fun _ => hbad f (c + 1) w6 ?_ hb, fun z => absurd rfl z⟩)⟩
          rw [he, if_neg y]
          exact fl_T ef
      · rw [he]
        show bndS (pStm t β q p) _ = _
        rw [e2]
        rfl
  have key : ∀ m i wc, i + m = 10 → mkc w wc → (∀ j, j < i → wc.2 45 j = lN (q0 j)) → ∀ n, m < n → cf_M_readsAll_L2 P n (nI i) wc := by
    intro m
    induction m with
    | zero =>
      intro i wc hi hk hw n hn
      obtain ⟨n, rfl⟩ : ∃ m, n = m + 1 := ⟨n - 1, by omega⟩
      show cf_M_readsAll_B2 _ _ _ _
      unfold cf_M_readsAll_B2
      have hi : i = 10 := by omega
      subst hi
      refine ⟨fun _ => ?_, fun z => absurd (Int32.le_refl _) z⟩
      rintro _ rfl _ rfl _ rfl
      have S0 : mS t β q0 (wI w 30 32 (wc.1 30 32)) (wc.2 30 30) (wI (wI wc 30 22 0) 30 28 0) 0 0 op0 := by
        have hk2 : mkc (wI w 30 32 (wc.1 30 32)) wc := by
          refine ⟨fun c i hc => ?_, fun c i hc => ?_⟩
          · rw [wI_1]
            by_cases e : c = 30 ∧ i = 32
            · rw [if_pos e, e.1, e.2]
            · rw [if_neg e]
              exact hk.1 c i hc
          · rw [wI_2]
            exact hk.2 c i hc
        refine ⟨⟨⟨ht, hT.2.1, ?_, fun i hi => ?_⟩, mkc_wI _ (mkc_wI _ hk2 rfl) rfl, by omega, by omega, hq⟩, ?_, ?_, fun i hi => absurd hi (by omega), fun i hi => ?_, ?_⟩
        · rw [wI_1, if_neg (by decide), wI_1, if_neg (by decide), hk.1 30 21 rfl]; exact hT.2.2.1
        · rw [wI_1, if_neg (fun z => absurd z.1 (by decide)), wI_1, if_neg (fun z => absurd z.1 (by decide)), hk.1 43 i (by unfold mI; simp)]; exact hT.2.2.2 i hi
        · rw [wI_1, if_neg (by decide), wI_1, if_pos ⟨rfl, rfl⟩]; rfl
        · rw [wI_1, if_pos ⟨rfl, rfl⟩]; rfl
        · rw [wI_2, wI_2]; exact hw i hi
        · rw [wI_2, wI_2]
      exact ⟨t + 2, key2 (t + 1) q0 0 0 _ _ (by omega) (mS_cnt (y := nI 0) S0) rfl (t + 2) (by omega)⟩
    | succ m ih =>
      intro i wc hi hk hw n hn
      obtain ⟨n, rfl⟩ : ∃ m, n = m + 1 := ⟨n - 1, by omega⟩
      show cf_M_readsAll_B2 _ _ _ _
      unfold cf_M_readsAll_B2
      rw [show (10 : Int32) = nI 10 from rfl, nI_leI (by omega) (by omega)]
      refine ⟨fun z => absurd z (by omega), fun _ => ⟨vp_in_nI (by omega) (by omega), vp_in_nI (by omega) (by omega), ?_⟩⟩
      rw [nI_clamp (by omega), nI_1, hk.2 31 i (by unfold mL; simp), h7 i (by omega)]
      rintro _ rfl _ rfl
      refine ih (i + 1) _ (by omega) (mkc_wL _ hk rfl) (fun j hj => ?_) n (by omega)
      rw [wL_2]
      by_cases e : j = i
      · rw [if_pos ⟨rfl, e⟩, e]
      · rw [if_neg (fun z => e z.2)]
        exact hw j (by omega)
  exact ⟨_, key 10 0 w (by omega) ⟨fun _ _ _ => rfl, fun _ _ _ => rfl⟩ (fun j hj => absurd hj (by omega)) 11 (by omega)⟩
def sCl (w w' : Wd) : Prop := ∀ c, c < 30 → w'.1 c = w.1 c ∧ w'.2 c = w.2 c
def sMd (w w' : Wd) : Prop := ∀ c, 30 ≤ c → w'.1 c = w.1 c ∧ w'.2 c = w.2 c
theorem sCl_trans {a b c : Wd} (h1 : sCl a b) (h2 : sCl b c) : sCl a c := fun k hk => ⟨(h2 k hk).1.trans (h1 k hk).1, (h2 k hk).2.trans (h1 k hk).2⟩
theorem sMd_trans {a b c : Wd} (h1 : sMd a b) (h2 : sMd b c) : sMd a c := fun k hk => ⟨(h2 k hk).1.trans (h1 k hk).1, (h2 k hk).2.trans (h1 k hk).2⟩
theorem sCl_mkc {w w' : Wd} (h : mkc w w') : sCl w w' := by
  intro c hc
  refine ⟨funext (fun i => h.1 c i ?_), funext (fun i => h.2 c i ?_)⟩
  · unfold mI
    rw [show (c == 30) = false from beq_eq_false_iff_ne.mpr (by omega), show (c == 44) = false from beq_eq_false_iff_ne.mpr (by omega)]
    rfl
  · unfold mL
    rw [show (c == 30) = false from beq_eq_false_iff_ne.mpr (by omega), show (c == 45) = false from beq_eq_false_iff_ne.mpr (by omega)]
    rfl
theorem sMd_ckc {w w' : Wd} (h : ckc w w') : sMd w w' := by
  intro c hc
  refine ⟨funext (fun i => h.1 c i ?_), funext (fun i => h.2 c i ?_)⟩
  · unfold cI
    rw [show (c == 1) = false from beq_eq_false_iff_ne.mpr (by omega), show (c == 5) = false from beq_eq_false_iff_ne.mpr (by omega)]
    rfl
  · unfold cL
    exact beq_eq_false_iff_ne.mpr (by omega)
theorem sCl_wI (w : Wd) {c : Nat} (j : Nat) (x : Int32) (h : 30 ≤ c) : sCl w (wI w c j x) := by
  intro k hk
  refine ⟨funext (fun i => ?_), funext (fun i => ?_)⟩
  · rw [wI_1, if_neg (fun z => by have := z.1; omega)]
  · rw [wI_2]
theorem sCl_wL (w : Wd) {c : Nat} (j : Nat) (x : Int64) (h : 30 ≤ c) : sCl w (wL w c j x) := by
  intro k hk
  refine ⟨funext (fun i => ?_), funext (fun i => ?_)⟩
  · rw [wL_1]
  · rw [wL_2, if_neg (fun z => by have := z.1; omega)]
theorem sMd_wI (w : Wd) {c : Nat} (j : Nat) (x : Int32) (h : c < 30) : sMd w (wI w c j x) := by
  intro k hk
  refine ⟨funext (fun i => ?_), funext (fun i => ?_)⟩
  · rw [wI_1, if_neg (fun z => by have := z.1; omega)]
  · rw [wI_2]
theorem sMd_wL (w : Wd) {c : Nat} (j : Nat) (x : Int64) (h : c < 30) : sMd w (wL w c j x) := by
  intro k hk
  refine ⟨funext (fun i => ?_), funext (fun i => ?_)⟩
  · rw [wL_1]
  · rw [wL_2, if_neg (fun z => by have := z.1; omega)]
theorem ic_sCl {w w' : Wd} {now : Nat → Int64} {u : Nat} {past : Nat → Nat → Int64} {kb : Nat → Bool} {shelf : Nat → Nat → Int64} (hi : ic w now u past kb shelf) (h : sCl w w') : ic w' now u past kb shelf := by
  unfold ic
  rw [(h 6 (by decide)).1, (h 7 (by decide)).2, (h 8 (by decide)).2, (h 9 (by decide)).2]
  exact hi
theorem im_sMd {w w' : Wd} {now : Nat → Int64} {u : Nat} {past : Nat → Nat → Int64} {kb : Nat → Bool} {shelf : Nat → Nat → Int64} (hi : im w now u past kb shelf) (h : sMd w w') : im w' now u past kb shelf := by
  unfold im
  rw [(h 30 (by decide)).1, (h 31 (by decide)).2, (h 32 (by decide)).2, (h 33 (by decide)).2, (h 34 (by decide)).1]
  exact hi
theorem ic_ckc {w w' : Wd} {now : Nat → Int64} {u : Nat} {past : Nat → Nat → Int64} {kb : Nat → Bool} {shelf : Nat → Nat → Int64} (hi : ic w now u past kb shelf) (h : ckc w w') : ic w' now u past kb shelf := by
  have e6 : w'.1 6 = w.1 6 := funext (fun i => h.1 6 i rfl)
  have e7 : w'.2 7 = w.2 7 := funext (fun i => h.2 7 i rfl)
  have e8 : w'.2 8 = w.2 8 := funext (fun i => h.2 8 i rfl)
  have e9 : w'.2 9 = w.2 9 := funext (fun i => h.2 9 i rfl)
  unfold ic
  rw [e6, e7, e8, e9]
  exact hi
theorem im_mkc {w w' : Wd} {x : Int32} {now : Nat → Int64} {u : Nat} {past : Nat → Nat → Int64} {kb : Nat → Bool} {shelf : Nat → Nat → Int64} (hi : im w now u past kb shelf) (h : mkc (wI w 30 32 x) w') : im w' now u past kb shelf := by
  have e2 : w'.1 30 2 = w.1 30 2 := (h.1 30 2 rfl).trans (by rw [wI_1, if_neg (by decide)])
  have e34 : w'.1 34 = w.1 34 := funext (fun i => (h.1 34 i rfl).trans (by rw [wI_1, if_neg (fun z => absurd z.1 (by decide))]))
  have e31 : w'.2 31 = w.2 31 := funext (fun i => (h.2 31 i rfl).trans (by rw [wI_2]))
  have e32 : w'.2 32 = w.2 32 := funext (fun i => (h.2 32 i rfl).trans (by rw [wI_2]))
  have e33 : w'.2 33 = w.2 33 := funext (fun i => (h.2 33 i rfl).trans (by rw [wI_2]))
  unfold im
  rw [e2, e34, e31, e32, e33]
  exact hi
def sameC (w w' : Wd) : Prop := w'.2 30 7 = w.2 30 7 ∧ w'.1 30 6 = w.1 30 6 ∧ w'.2 35 = w.2 35
theorem cache_same {w w' : Wd} (hc : cacheOk w) (h : sameC w w') : cacheOk w' := by
  unfold cacheOk
  rw [h.1, h.2.1, h.2.2]
  exact hc
theorem sameC_sMd {w w' : Wd} (h : sMd w w') : sameC w w' := ⟨by rw [(h 30 (by decide)).2], by rw [(h 30 (by decide)).1], (h 35 (by decide)).2⟩
theorem sameC_mkc {w w' : Wd} {x : Int32} (h : mkc (wI w 30 32 x) w') : sameC w w' :=
  ⟨(h.2 30 7 rfl).trans (by rw [wI_2]), (h.1 30 6 rfl).trans (by rw [wI_1, if_neg (by decide)]), funext (fun i => (h.2 35 i rfl).trans (by rw [wI_2]))⟩
theorem sameC_trans {a b c : Wd} (h1 : sameC a b) (h2 : sameC b c) : sameC a c := ⟨h2.1.trans h1.1, h2.2.1.trans h1.2.1, h2.2.2.trans h1.2.2⟩
theorem and255 (x : Int32) : (x &&& (255 : Int32)).toBitVec.toNat < 256 ∧ x &&& (255 : Int32) = nI (x &&& (255 : Int32)).toBitVec.toNat := by
  refine ⟨?_, ?_⟩
  · show (x.toBitVec &&& 255#32).toNat < 256
    rw [BitVec.toNat_and]
    exact Nat.lt_of_le_of_lt Nat.and_le_right (by decide)
  · apply I_inj
    rw [nI_bv, BitVec.ofNat_toNat, BitVec.setWidth_eq]
theorem sp_handOver {w : Wd} {q : Nat → Nat} {P : Wd → Prop} (h4 : ∀ i, i < 10 → w.2 4 i = lN (q i)) (h : ∀ w', w'.1 = w.1 → (∀ c, c ≠ 7 → w'.2 c = w.2 c) → (∀ i, w'.2 7 i = if i < 10 then lN (q i) else w.2 7 i) → P w') : cf_Reader_handOver w P := by
  have key : ∀ m i wc, i + m = 10 → wc.1 = w.1 → (∀ c, c ≠ 7 → wc.2 c = w.2 c) → (∀ j, wc.2 7 j = if j < i then lN (q j) else w.2 7 j) → ∀ n, m < n → cf_Reader_handOver_L2 P n (nI i) wc := by
    intro m
    induction m with
    | zero =>
      intro i wc hi e1 e2 e3 n hn
      obtain ⟨n, rfl⟩ : ∃ m, n = m + 1 := ⟨n - 1, by omega⟩
      show cf_Reader_handOver_B2 _ _ _ _
      unfold cf_Reader_handOver_B2
      have hi : i = 10 := by omega
      subst hi
      exact ⟨fun _ => h wc e1 e2 e3, fun z => absurd (Int32.le_refl _) z⟩
    | succ m ih =>
      intro i wc hi e1 e2 e3 n hn
      obtain ⟨n, rfl⟩ : ∃ m, n = m + 1 := ⟨n - 1, by omega⟩
      show cf_Reader_handOver_B2 _ _ _ _
      unfold cf_Reader_handOver_B2
      rw [show (10 : Int32) = nI 10 from rfl, nI_leI (by omega) (by omega)]
      refine ⟨fun z => absurd z (by omega), fun _ => ⟨vp_in_nI (by omega) (by omega), sp_write (by omega) ?_⟩⟩
      rintro _ rfl
      rw [nI_1, nI_clamp (by omega), e2 4 (by decide), h4 i (by omega)]
      refine ih (i + 1) _ (by omega) ?_ (fun c hc => ?_) (fun j => ?_) n (by omega)
      · funext c j; rw [wL_1, e1]
      · funext j; rw [wL_2, if_neg (fun z => hc z.1), e2 c hc]
      · rw [wL_2, e3]
        by_cases ej : j = i
        · rw [if_pos ⟨rfl, ej⟩, if_pos (by omega), ej]
        · rw [if_neg (fun z => ej z.2)]
          by_cases hj : j < i
          · rw [if_pos hj, if_pos (by omega)]
          · rw [if_neg hj, if_neg (by omega)]
  exact ⟨_, key 10 0 w (by omega) rfl (fun _ _ => rfl) (fun j => by rw [if_neg (by omega)]) 11 (by omega)⟩
theorem mp_toldR {w : Wd} {q : Nat → Nat} {P : Int32 → Wd → Prop} (h4 : ∀ i, i < 10 → w.2 45 i = lN (q i)) (h : ∀ w', w'.1 = w.1 → (∀ c, c ≠ 31 → w'.2 c = w.2 c) → (∀ i, w'.2 31 i = if i < 10 then lN (q i) else w.2 31 i) → P (w.1 30 32) w') : ∀ n, 11 ≤ n → cf_M_run_L43 P n 0 w := by
  have key : ∀ m i wc, i + m = 10 → wc.1 = w.1 → (∀ c, c ≠ 31 → wc.2 c = w.2 c) → (∀ j, wc.2 31 j = if j < i then lN (q j) else w.2 31 j) → ∀ n, m < n → cf_M_run_L43 P n (nI i) wc := by
    intro m
    induction m with
    | zero =>
      intro i wc hi e1 e2 e3 n hn
      obtain ⟨n, rfl⟩ : ∃ m, n = m + 1 := ⟨n - 1, by omega⟩
      show cf_M_run_B43 _ _ _ _
      unfold cf_M_run_B43
      have hi : i = 10 := by omega
      subst hi
      rw [e1]
      exact ⟨fun _ => h wc e1 e2 e3, fun z => absurd (Int32.le_refl _) z⟩
    | succ m ih =>
      intro i wc hi e1 e2 e3 n hn
      obtain ⟨n, rfl⟩ : ∃ m, n = m + 1 := ⟨n - 1, by omega⟩
      show cf_M_run_B43 _ _ _ _
      unfold cf_M_run_B43
      rw [show (10 : Int32) = nI 10 from rfl, nI_leI (by omega) (by omega)]
      refine ⟨fun z => absurd z (by omega), fun _ => ⟨vp_in_nI (by omega) (by omega), vp_in_nI (by omega) (by omega), ?_⟩⟩
      rw [nI_1, nI_clamp (by omega), e2 45 (by decide), h4 i (by omega)]
      rintro _ rfl _ rfl
      refine ih (i + 1) _ (by omega) ?_ (fun c hc => ?_) (fun j => ?_) n (by omega)
      · funext c j; rw [wL_1, e1]
      · funext j; rw [wL_2, if_neg (fun z => hc z.1), e2 c hc]
      · rw [wL_2, e3]
        by_cases ej : j = i
        · rw [if_pos ⟨rfl, ej⟩, if_pos (by omega), ej]
        · rw [if_neg (fun z => ej z.2)]
          by_cases hj : j < i
          · rw [if_pos hj, if_pos (by omega)]
          · rw [if_neg hj, if_neg (by omega)]
  intro n hn
  exact key 10 0 w (by omega) rfl (fun _ _ => rfl) (fun j => by rw [if_neg (by omega)]) n (by omega)
/-- the row behind a text -/
def toldR (now : Nat → Int64) (q : Nat → Nat) : Nat → Int64 := fun i => if i < 10 then lN (q i) else now i
theorem toldR_ok {now : Nat → Int64} {q : Nat → Nat} (h : okRow now) (hq : ∀ k, k < 10 → q k < 2 ^ 32) : okRow (toldR now q) := by
  obtain ⟨h1, g, st, hg, e1, hst, e2, h3⟩ := h
  refine ⟨fun i hi => ⟨q i, hq i hi, if_pos hi⟩, g, st, hg, ?_, hst, ?_, h3⟩
  · unfold toldR; rw [if_neg (by omega)]; exact e1
  · unfold toldR; rw [if_neg (by omega)]; exact e2
theorem ic_toldR {w w' : Wd} {q : Nat → Nat} {now : Nat → Int64} {u : Nat} {past : Nat → Nat → Int64} {kb : Nat → Bool} {shelf : Nat → Nat → Int64} (hi : ic w now u past kb shelf)
    (e1 : w'.1 = w.1) (e2 : ∀ c, c ≠ 7 → w'.2 c = w.2 c) (e3 : ∀ i, w'.2 7 i = if i < 10 then lN (q i) else w.2 7 i) : ic w' (toldR now q) u past kb shelf := by
  obtain ⟨h1, h2, h3, ⟨s, hs, h4, h5⟩, h6, h7⟩ := hi
  refine ⟨fun i hi => ?_, h2, ?_, ⟨s, hs, ?_, ?_⟩, ?_, ?_⟩
  · rw [e3, h1 i hi]; rfl
  · rw [e1]; exact h3
  · rw [e1]; exact h4
  · rw [e2 8 (by decide)]; exact h5
  · rw [e1]; exact h6
  · rw [e2 9 (by decide)]; exact h7
theorem im_toldR {w w' : Wd} {q : Nat → Nat} {now : Nat → Int64} {u : Nat} {past : Nat → Nat → Int64} {kb : Nat → Bool} {shelf : Nat → Nat → Int64} (hi : im w now u past kb shelf)
    (e1 : w'.1 = w.1) (e2 : ∀ c, c ≠ 31 → w'.2 c = w.2 c) (e3 : ∀ i, w'.2 31 i = if i < 10 then lN (q i) else w.2 31 i) : im w' (toldR now q) u past kb shelf := by
  obtain ⟨h1, h2, h3, h4, h5, h6⟩ := hi
  refine ⟨fun i hi => ?_, h2, ?_, ?_, ?_, ?_⟩
  · rw [e3, h1 i hi]
    unfold mrow toldR
    by_cases c : i < 10
    · rw [if_pos c, if_pos (by omega), if_pos c]
    · rw [if_neg c]
      by_cases c2 : i ≤ 10
      · rw [if_pos c2, if_pos c2, if_neg c]
      · rw [if_neg c2, if_neg c2]
        by_cases c3 : i = 11
        · rw [if_pos c3, if_pos c3, if_neg (by decide)]
        · rw [if_neg c3, if_neg c3, if_neg (by omega)]
  · rw [e1]; exact h3
  · rw [e2 32 (by decide)]; exact h4
  · rw [e1]; exact h5
  · rw [e2 33 (by decide)]; exact h6
theorem op_run {w : Wd} (hI : Inv w) : same1 (cf_T_run w) (cf_M_run) := by
  intro G h
  obtain ⟨now, u, past, kb, shelf, hc⟩ := hI
  obtain ⟨hic, him, hn, hp, hs, ⟨t, ht, t1, t2, t3⟩, hf, hca⟩ := hc
  generalize hβ : (fun i => (w.1 3 i &&& (255 : Int32)).toBitVec.toNat) = β
  have b1 : ∀ i, β i < 256 := fun i => by rw [← hβ]; exact (and255 _).1
  have b2 : ∀ i, w.1 3 i &&& (255 : Int32) = nI (β i) := fun i => by rw [← hβ]; exact (and255 _).2
  generalize hq0 : (fun i => (now i).toInt.toNat) = q0
  have hq : ∀ k, k < 10 → q0 k < 2 ^ 32 ∧ now k = lN (q0 k) := by
    intro k hk
    obtain ⟨n, hn1, hn2⟩ := hn.1 k hk
    rw [← hq0]
    show (now k).toInt.toNat < _ ∧ _ = lN (now k).toInt.toNat
    have e : (now k).toInt.toNat = n := by rw [hn2, lN_toInt' (by omega)]; rfl
    rw [e]
    exact ⟨hn1, hn2⟩
  have cT0 : cT t β w := ⟨ht, b1, t1, fun i _ => b2 i⟩
  have mT0 : ∀ w', sMd w w' → mT t β w' := by
    intro w' g
    refine ⟨ht, b1, ?_, fun i hi => ?_⟩
    · rw [(g 30 (by decide)).1]; exact t2
    · rw [(g 43 (by decide)).1, ← t3 i hi]; exact b2 i
  have now0 : ∀ w', sMd w w' → ∀ i, i < 10 → w'.2 31 i = lN (q0 i) := by
    intro w' g i hi
    rw [(g 31 (by decide)).2, im_now him hi]
    exact (hq i hi).2
  unfold cf_T_run cf_Reader_tape cf_Tape_cut cf_Reader_latestFault
  refine c_text cT0 (fun k hk => (hq k hk).1) (fun i hi => by rw [hic.1 i (by omega)]; exact (hq i hi).2) (fun q2 c w1 p e hc S => ?_) (fun f w1 r e hb => ?_)
  · refine ⟨fun z => absurd z (by decide), fun _ => ⟨fun _ => ?_, fun z => ?_⟩⟩
    · rintro _ rfl
      have e15 : (wI w1 2 1 0).1 1 5 = -1 := by rw [wI_1, if_neg (by decide)]; exact S.2.2.2.2.2.1
      refine ⟨fun _ => ?_, fun z => absurd e15 z⟩
      have i1 : ic (wI w1 2 1 0) now u past kb shelf := by
        have i0 := ic_ckc hic S.1.2.1
        exact ic_fr i0 (L := [(2, 1)]) (C := []) (M := []) (fr_wI _ (fr_refl _ _ _ _) (by decide)) (by decide) (by decide) (by decide)
      refine sp_remember i1 (fun w2 i2 f2 => ?_)
      refine sp_handOver (q := q2) (fun i hi => ?_) (fun w3 g1 g2 g3 => ?_)
      · rw [f2.2 4 (by decide), wI_2]; exact S.2.2.2.2.1 i hi
      have i3 := ic_toldR i2 g1 g2 g3
      have m3 : sMd w w3 := by
        refine sMd_trans (sMd_ckc S.1.2.1) (sMd_trans (sMd_wI w1 1 0 (by decide : 2 < 30)) ?_)
        intro k hk
        refine ⟨?_, ?_⟩
        · rw [g1]
          funext i
          exact f2.1 k i (by simp; omega) (by simp)
        · rw [g2 k (by omega)]
          exact f2.2 k (by simp; omega)
      refine h _ w3 (fun F hF => ?_)
      unfold cf_M_run
      refine m_text (mT0 w3 m3) (fun k hk => (hq k hk).1) (now0 w3 m3) (fun q3 c3 w4 V4 p4 e4 S4 => ?_) (fun f c3 w4 e4 hb => ?_)
      · rw [e] at e4
        obtain ⟨eq, ec⟩ := Prod.mk.inj (Sum.inl.inj e4)
        subst eq
        subst ec
        have im4 := im_mkc (im_sMd him m3) S4.1.2.1
        have c4 : sCl w3 w4 := sCl_trans (sCl_wI w3 32 _ (by decide : 30 ≤ 30)) (sCl_mkc S4.1.2.1)
        have k4 : sameC w w4 := sameC_trans (sameC_sMd m3) (sameC_mkc S4.1.2.1)
        have e32 : w4.1 30 32 = nI c := by
          rw [S4.1.2.1.1 30 32 rfl, wI_1, if_pos ⟨rfl, rfl⟩]
        rintro _ rfl
        refine ⟨fun _ => ?_, fun z => absurd z one_ne'⟩
        rintro _ rfl _ rfl _ rfl
        have fr5 : fr [(30, 21), (30, 23), (30, 24), (30, 25)] [] [] w4 (wI (wI (wI (wI w4 30 21 0) 30 23 (-1)) 30 24 0) 30 25 (-1)) := fr_wI _ (fr_wI _ (fr_wI _ (fr_wI _ (fr_refl _ _ _ _) (by decide)) (by decide)) (by decide)) (by decide)
        have c5 : sCl w4 (wI (wI (wI (wI w4 30 21 0) 30 23 (-1)) 30 24 0) 30 25 (-1)) := sCl_trans (sCl_trans (sCl_trans (sCl_wI _ _ _ (by decide : 30 ≤ 30)) (sCl_wI _ _ _ (by decide : 30 ≤ 30))) (sCl_wI _ _ _ (by decide : 30 ≤ 30))) (sCl_wI _ _ _ (by decide : 30 ≤ 30))
        have v21 : (wI (wI (wI (wI w4 30 21 0) 30 23 (-1)) 30 24 0) 30 25 (-1)).1 30 21 = 0 := by rw [wI_1, if_neg (by decide), wI_1, if_neg (by decide), wI_1, if_neg (by decide), wI_1, if_pos ⟨rfl, rfl⟩]
        have v23 : (wI (wI (wI (wI w4 30 21 0) 30 23 (-1)) 30 24 0) 30 25 (-1)).1 30 23 = -1 := by rw [wI_1, if_neg (by decide), wI_1, if_neg (by decide), wI_1, if_pos ⟨rfl, rfl⟩]
        have v24 : (wI (wI (wI (wI w4 30 21 0) 30 23 (-1)) 30 24 0) 30 25 (-1)).1 30 24 = 0 := by rw [wI_1, if_neg (by decide), wI_1, if_pos ⟨rfl, rfl⟩]
        have v25 : (wI (wI (wI (wI w4 30 21 0) 30 23 (-1)) 30 24 0) 30 25 (-1)).1 30 25 = -1 := by rw [wI_1, if_pos ⟨rfl, rfl⟩]
        generalize (wI (wI (wI (wI w4 30 21 0) 30 23 (-1)) 30 24 0) 30 25 (-1)) = w5 at fr5 c5 v21 v23 v24 v25 ⊢
        have im5 := im_fr im4 fr5 (by decide) (by decide) (by decide)
        refine mp_keepsAct im5 (fun w6 im6 f6 => ⟨11, mp_toldR (q := q2) (fun i hi => ?_) (fun w7 a1 a2 a3 => ?_) 11 (by omega)⟩)
        · rw [f6.2 45 (by decide), fr5.2 45 (by decide)]; exact S4.2.2.2.2.1 i hi
        have e32' : w6.1 30 32 = nI c := by rw [f6.1 30 32 (by decide) (by decide), fr5.1 30 32 (by decide) (by decide)]; exact e32
        rw [e32']
        refine hF w7 ?_
        have c7 : sCl w3 w7 := by
          refine sCl_trans c4 (sCl_trans c5 ?_)
          intro k hk
          refine ⟨?_, ?_⟩
          · rw [a1]
            funext i
            exact f6.1 k i (by simp; omega) (by simp)
          · rw [a2 k (by omega)]
            exact f6.2 k (by simp; omega)
        have g31 : ∀ i, (wI w1 2 1 0).1 1 i = w1.1 1 i := fun i => by rw [wI_1, if_neg (fun z => absurd z.1 (by decide))]
        have cls : ∀ i, w7.1 1 i = w1.1 1 i := by
          intro i
          rw [(c7 1 (by decide)).1, g1, f2.1 1 i (by simp) (by simp)]
          exact g31 i
        refine ⟨toldR now q2, up u, push now past, kb, shelf, ic_sCl i3 c7, im_toldR im6 a1 a2 a3, toldR_ok hn S.1.2.2.2.2, okRow_push hn hp, hs, ⟨0, by omega, ?_, ?_, fun i hi => absurd hi (by omega)⟩, ⟨?_, ?_, ?_⟩, ?_⟩
        · rw [(c7 2 (by decide)).1, g1, f2.1 2 1 (by decide) (by decide), wI_1, if_pos ⟨rfl, rfl⟩]; rfl
        · rw [a1, f6.1 30 21 (by decide) (by decide), v21]; rfl
        · rw [cls, a1, f6.1 30 23 (by decide) (by decide), v23]; exact S.2.2.2.2.2.1
        · rw [cls, a1, f6.1 30 24 (by decide) (by decide), v24]; exact S.2.2.2.2.2.2.1
        · rw [cls, a1, f6.1 30 25 (by decide) (by decide), v25]; exact S.2.2.2.2.2.2.2
        · refine cache_same hca (sameC_trans k4 ⟨?_, ?_, ?_⟩)
          · rw [a2 30 (by decide), f6.2 30 (by decide), fr5.2 30 (by decide)]
          · rw [a1, f6.1 30 6 (by decide) (by decide), fr5.1 30 6 (by decide) (by decide)]
          · rw [a2 35 (by decide), f6.2 35 (by decide), fr5.2 35 (by decide)]
      · rw [e] at e4
        exact absurd e4 (fun z => nomatch z)
    · rw [S.1.1.2.2.1] at z
      exact absurd ((nI_leI (a := 0) (by decide) (by omega)).mpr (Nat.zero_le _)) z
  · have e21 : w1.1 2 1 = nI t := by rw [hb.1.1 2 1 rfl]; exact t1
    refine ⟨fun z => absurd z (by decide), fun _ => ⟨fun _ => ?_, fun z => ?_⟩⟩
    · rintro _ rfl
      have e15 : (wI w1 2 1 0).1 1 5 = f.1 := by rw [wI_1, if_neg (by decide)]; exact hb.2.1
      rw [e15]
      refine ⟨fun z => absurd z hb.2.2.2.2.1, fun _ => ?_⟩
      have i1 : ic (wI w1 2 1 0) now u past kb shelf := by
        have i0 := ic_ckc hic hb.1
        exact ic_fr i0 (L := [(2, 1)]) (C := []) (M := []) (fr_wI _ (fr_refl _ _ _ _) (by decide)) (by decide) (by decide) (by decide)
      have m3 : sMd w (wI w1 2 1 0) := sMd_trans (sMd_ckc hb.1) (sMd_wI w1 1 0 (by decide : 2 < 30))
      refine h _ (wI w1 2 1 0) (fun F hF => ?_)
      unfold cf_M_run
      refine m_text (mT0 _ m3) (fun k hk => (hq k hk).1) (now0 _ m3) (fun q3 c3 w4 V4 p4 e4 S4 => ?_) (fun f3 c3 w4 e4 hb4 => ?_)
      · rw [e] at e4
        exact absurd e4 (fun z => nomatch z)
      · rw [e] at e4
        have ef := Sum.inr.inj e4
        subst ef
        rintro _ rfl
        refine ⟨fun z => absurd rfl z, fun _ => ?_⟩
        rw [show (wI w4 30 21 0).1 30 23 = f.1 by rw [wI_1, if_neg (by decide)]; exact hb4.2.1]
        refine hF _ ?_
        have c7 : sCl (wI w1 2 1 0) (wI w4 30 21 0) := sCl_trans (sCl_wI _ 32 (nI c3) (by decide : 30 ≤ 30)) (sCl_trans (sCl_mkc hb4.1) (sCl_wI _ _ _ (by decide : 30 ≤ 30)))
        have im4 := im_mkc (im_sMd him m3) hb4.1
        have im5 : im (wI w4 30 21 0) now u past kb shelf := im_fr im4 (L := [(30, 21)]) (C := []) (M := []) (fr_wI _ (fr_refl _ _ _ _) (by decide)) (by decide) (by decide) (by decide)
        have cls : ∀ i, (wI w4 30 21 0).1 1 i = w1.1 1 i := by
          intro i
          rw [(c7 1 (by decide)).1, wI_1, if_neg (fun z => absurd z.1 (by decide))]
        have g30 : ∀ i, i ≠ 21 → (wI w4 30 21 0).1 30 i = w4.1 30 i := fun i hi => by rw [wI_1, if_neg (fun z => hi z.2)]
        refine ⟨now, u, past, kb, shelf, ic_sCl i1 c7, im5, hn, hp, hs, ⟨0, by omega, ?_, ?_, fun i hi => absurd hi (by omega)⟩, ⟨?_, ?_, ?_⟩, ?_⟩
        · rw [(c7 2 (by decide)).1, wI_1, if_pos ⟨rfl, rfl⟩]; rfl
        · rw [wI_1, if_pos ⟨rfl, rfl⟩]; rfl
        · rw [cls, g30 23 (by decide), hb.2.1, hb4.2.1]
        · rw [cls, g30 24 (by decide), hb.2.2.1, hb4.2.2.1]
        · rw [cls, g30 25 (by decide), hb.2.2.2.1, hb4.2.2.2]
        · refine cache_same hca (sameC_trans (sameC_trans (sameC_sMd m3) (sameC_mkc hb4.1)) ⟨?_, ?_, ?_⟩)
          · rw [wI_2]
          · rw [wI_1, if_neg (by decide)]
          · funext i; rw [wI_2]
    · rw [e21] at z
      exact absurd ((nI_leI (a := 0) (by decide) (by omega)).mpr (Nat.zero_le _)) z
