-- statements and texts: the functions, and the class's reader
abbrev TO : Type := ((Nat → Nat) × Nat) ⊕ (Int32 × Int32 × Int32)
def op0 : Nat → Int32 := fun _ => 0
def flT (c s : Nat) : TO := .inr (nI (8 * s + c), nI 0, -1)
def bndT (o : Out) (f : Nat → Nat → TO) : TO :=
  match o with
  | .inl (v, p) => f v p
  | .inr x => .inr x
def bndS (o : TO) (f : (Nat → Nat) → Nat → TO) : TO :=
  match o with
  | .inl (v, p) => f v p
  | .inr x => .inr x
def setQ (q : Nat → Nat) (k v : Nat) : Nat → Nat := fun i => if i = k then v else q i
def pStm (t : Nat) (β : Nat → Nat) (q : Nat → Nat) (p : Nat) : TO :=
  bndT (pNum t β 0 9 p 0 op0) (fun k e => if isc t β (sk t β e) 61 then bndT (pSum t β (pNest t β q 7) q (sk t β e + 1) 0 op0) (fun v e2 => .inl (setQ q k v, e2)) else flT 1 (sk t β e))
def pTxt (t : Nat) (β : Nat → Nat) : Nat → (Nat → Nat) → Nat → Nat → TO
  | 0, q, _, c => .inl (q, c)
  | n + 1, q, p, c => bndS (pStm t β q p) (fun q2 e => if t ≤ sk t β e then .inl (q2, c + 1) else if isc t β (sk t β e) 59 then pTxt t β n q2 (sk t β e + 1) (c + 1) else flT 1 (sk t β e))
theorem pNum_fl {t : Nat} {β : Nat → Nat} {lo hi p : Nat} {f : Int32 × Int32 × Int32} (h : pNum t β lo hi p 0 op0 = .inr f) : pNum t β lo hi p 0 op0 = .inr f := h
theorem fl_T {c s : Nat} {f : Int32 × Int32 × Int32} (h : fl c s 0 op0 = .inr f) : flT c s = .inr f := by
  have h2 := Sum.inr.inj h
  unfold flT
  rw [← h2]
  rfl
theorem setQ_lt {q : Nat → Nat} {k v : Nat} (hq : ∀ k, k < 10 → q k < 2 ^ 32) (hv : v < 2 ^ 32) : ∀ j, j < 10 → setQ q k v j < 2 ^ 32 := by
  intro j hj
  unfold setQ
  split
  · exact hv
  · exact hq j hj
theorem pStm_ok {t : Nat} {β : Nat → Nat} {q : Nat → Nat} {p : Nat} (hq : ∀ k, k < 10 → q k < 2 ^ 32) (hp : p ≤ t) {q2 : Nat → Nat} {e : Nat} (h : pStm t β q p = .inl (q2, e)) : p < e ∧ e ≤ t ∧ ∀ k, k < 10 → q2 k < 2 ^ 32 := by
  unfold pStm at h
  cases h1 : pNum t β 0 9 p 0 op0 with
  | inr f => rw [h1] at h; exact absurd h (fun z => nomatch z)
  | inl ve =>
    obtain ⟨k, e1⟩ := ve
    have h2 := pNum_le hp h1
    rw [h1] at h
    change (if isc t β (sk t β e1) 61 then bndT (pSum t β (pNest t β q 7) q (sk t β e1 + 1) 0 op0) (fun v e2 => .inl (setQ q k v, e2)) else flT 1 (sk t β e1)) = _ at h
    split at h
    · rename_i c
      have h3 := pSum_ok (β := β) (q := q) (pNest_ok (β := β) hq 7) hq (d := 0) (op := op0) (p := sk t β e1 + 1) c.1
      cases h4 : pSum t β (pNest t β q 7) q (sk t β e1 + 1) 0 op0 with
      | inr f => rw [h4] at h; exact absurd h (fun z => nomatch z)
      | inl ve2 =>
        obtain ⟨v, e2⟩ := ve2
        rw [h4] at h h3
        have h5 := Prod.mk.inj (Sum.inl.inj h)
        have h6 := sk_ge t β e1
        have h7 : v < 2 ^ 32 ∧ sk t β e1 + 1 < e2 ∧ e2 ≤ t := h3
        rw [← h5.1, ← h5.2]
        exact ⟨by omega, h7.2.2, setQ_lt hq h7.1⟩
    · exact absurd h (fun z => nomatch z)
theorem cS_set {t : Nat} {β : Nat → Nat} {q : Nat → Nat} {B w : Wd} {p d k v : Nat} {op : Nat → Int32} (h : cS t β q B w p d op) (hv : v < 2 ^ 32) : cS t β (setQ q k v) B (wL w 4 k (lN v)) p d op := by
  obtain ⟨⟨⟨h1, h2, h3, h4⟩, h5, h6, h7, hq⟩, h8, h9, h10, h11, h12, h13, h14⟩ := h
  refine ⟨⟨⟨h1, h2, h3, h4⟩, ckc_wL _ h5 rfl, h6, h7, setQ_lt hq hv⟩, h8, h9, h10, fun i hi => ?_, h12, h13, h14⟩
  rw [wL_2]
  unfold setQ
  by_cases e : i = k
  · rw [if_pos ⟨rfl, e⟩, if_pos e]
  · rw [if_neg (fun z => e z.2), if_neg e]
    exact h11 i hi
theorem c_stm {t : Nat} {β : Nat → Nat} {q : Nat → Nat} {B : Wd} {w0 : Wd} {p0 : Nat} {P : Wd → Prop} (hS0 : cS t β q B w0 p0 0 op0)
    (hok : ∀ q2 e w', pStm t β q p0 = .inl (q2, e) → cS t β q2 B w' e 0 op0 → P w') (hbad : ∀ f w', pStm t β q p0 = .inr f → cBad B w' f → P w') : cf_Reader_readStatement w0 P := by
  unfold cf_Reader_readStatement
  unfold pStm at hok hbad
  have hq := hS0.1.2.2.2.2
  refine c_num (lo := 0) (hi := 9) hS0 (by omega) (by omega) (fun k e w1 e1 S1 => ⟨fun z => absurd S1.2.2.2.2.2.1 z, fun _ => ?_⟩) (fun f w1 e1 hb => ⟨fun _ => hbad f w1 (by rw [e1]; rfl) hb, fun z => absurd z (cBad_no hb)⟩)
  have hk := pNum_le hS0.1.2.2.1 e1
  rw [e1] at hok hbad
  refine c_sign (c := 61) S1 (by omega) (fun w2 y S2 => ⟨fun _ => ?_, fun z => absurd z one_ne'⟩) (fun f w2 n ef hb => ⟨fun z => absurd rfl z, fun _ => hbad f w2 ?_ hb⟩)
  · have E : bndT (.inl (k, e)) (fun k e => if isc t β (sk t β e) 61 then bndT (pSum t β (pNest t β q 7) q (sk t β e + 1) 0 op0) (fun v e2 => .inl (setQ q k v, e2)) else flT 1 (sk t β e)) = bndT (pSum t β (pNest t β q 7) q (sk t β e + 1) 0 op0) (fun v e2 => .inl (setQ q k v, e2)) := by
      show (if isc t β (sk t β e) 61 then _ else _) = _
      rw [if_pos y]
    rw [E] at hok hbad
    have h3 := pSum_ok (β := β) (q := q) (pNest_ok (β := β) hq 7) hq (d := 0) (op := op0) S2.1.2.2.1
    refine ⟨7, by omega, c_sum (c_nest hq 7 0 op0 (by omega) (by omega)) S2 (fun v e2 w3 e3 S3 => ⟨fun z => absurd S3.2.2.2.2.2.1 z, fun _ => ⟨fun z => absurd z (nI_pos (by omega)), fun _ => ?_⟩⟩) (fun f w3 v e3 hb hv => ⟨fun _ => hbad f w3 (by rw [e3]; rfl) hb, fun z => absurd z (cBad_no hb)⟩)⟩
    rw [e3] at hok h3
    rw [show (10 : Int32) = nI 10 from rfl, nI_leI (by omega) (by omega)]
    refine ⟨fun z => absurd z (by omega), fun _ => ⟨vp_in_nI (by omega) (by omega), ?_⟩⟩
    rintro _ rfl
    rw [nI_clamp (by omega)]
    exact hok _ e2 _ rfl (cS_set S3 h3.1)
  · show (if isc t β (sk t β e) 61 then _ else _) = _
    rw [if_neg n]
    exact fl_T ef
theorem c_text {t : Nat} {β : Nat → Nat} {q0 : Nat → Nat} {w : Wd} {P : Int32 → Wd → Prop} (hT : cT t β w) (hq : ∀ k, k < 10 → q0 k < 2 ^ 32) (h7 : ∀ i, i < 10 → w.2 7 i = lN (q0 i))
    (hok : ∀ q2 c w' p, pTxt t β (t + 1) q0 0 0 = .inl (q2, c) → c ≤ 300 → cS t β q2 w w' p 0 op0 → P (nI c) w') (hbad : ∀ f w' r, pTxt t β (t + 1) q0 0 0 = .inr f → cBad w w' f → P r w') : cf_Reader_readText w P := by
  have ht := hT.1
  have key2 : ∀ g q p c wc, t < p + g → cS t β q w wc p 0 op0 → 2 * c ≤ p → pTxt t β (t + 1) q0 0 0 = pTxt t β g q p c → ∀ n, g < n → cf_Reader_readText_L57 P n (nI c) (nI c) wc := by
    intro g
    induction g with
    | zero =>
      intro q p c wc hg hS
      have := hS.1.2.2.1
      omega
    | succ g ih =>
      intro q p c wc hg hS hc he n hn
      obtain ⟨n, rfl⟩ : ∃ m, n = m + 1 := ⟨n - 1, by omega⟩
      show cf_Reader_readText_B57 _ _ _ _ _
      unfold cf_Reader_readText_B57
      have hp := hS.1.2.2.1
      rw [show (300 : Int32) = nI 300 from rfl, nI_leI (by omega) (by omega), nI_1]
      refine ⟨fun z => absurd z (by omega), fun _ => c_stm hS (fun q2 e w2 e2 S2 => ?_) (fun f w2 e2 hb => ?_)⟩
      · have h2 := pStm_ok hS.1.2.2.2.2 hp e2
        have he : pTxt t β (t + 1) q0 0 0 = (if t ≤ sk t β e then .inl (q2, c + 1) else if isc t β (sk t β e) 59 then pTxt t β g q2 (sk t β e + 1) (c + 1) else flT 1 (sk t β e)) := by
          rw [he]
          show bndS (pStm t β q p) _ = _
          rw [e2]
          rfl
        have h3 := sk_ge t β e
        rintro _ rfl
        refine ⟨fun z => absurd S2.2.2.2.2.2.1 z, fun _ => c_peek S2 (fun w3 S3 => ?_)⟩
        rw [bv_end S3.1.1.2.1]
        refine ⟨fun y => hok q2 (c + 1) w3 _ (by rw [he, if_pos y]) (by omega) S3, fun y => ?_⟩
        rw [if_neg y] at he
        refine c_sign (c := 59) S3 (by omega) (fun w4 y2 S4 => ⟨fun _ => ?_, fun z => absurd z one_ne'⟩) (fun f w4 n2 ef hb => ⟨fun z => absurd rfl z, fun _ => hbad f w4 _ ?_ hb⟩)
        · rw [sk_sk] at y2 S4
          rw [if_pos y2] at he
          rintro _ rfl
          exact ih q2 _ (c + 1) w4 (by omega) S4 (by omega) he n (by omega)
        · rw [sk_sk] at n2 ef
          rw [he, if_neg n2]
          exact fl_T ef
      · rintro _ rfl
        refine ⟨fun _ => hbad f w2 _ ?_ hb, fun z => absurd z (cBad_no hb)⟩
        rw [he]
        show bndS (pStm t β q p) _ = _
        rw [e2]
        rfl
  have key : ∀ m i wc, i + m = 10 → ckc w wc → (∀ j, j < i → wc.2 4 j = lN (q0 j)) → ∀ n, m < n → cf_Reader_readText_L2 P n (nI i) wc := by
    intro m
    induction m with
    | zero =>
      intro i wc hi hk hw n hn
      obtain ⟨n, rfl⟩ : ∃ m, n = m + 1 := ⟨n - 1, by omega⟩
      show cf_Reader_readText_B2 _ _ _ _
      unfold cf_Reader_readText_B2
      have hi : i = 10 := by omega
      subst hi
      refine ⟨fun _ => ?_, fun z => absurd (Int32.le_refl _) z⟩
      rintro _ rfl _ rfl _ rfl _ rfl _ rfl
      refine ⟨t + 2, key2 (t + 1) q0 0 0 _ (by omega) ⟨⟨⟨ht, hT.2.1, ?_, fun i hi => ?_⟩, ckc_wI _ (ckc_wI _ (ckc_wI _ (ckc_wI _ (ckc_wI _ hk rfl) rfl) rfl) rfl) rfl, by omega, by omega, hq⟩, ?_, ?_, fun i hi => absurd hi (by omega), fun i hi => ?_, ?_, ?_, ?_⟩ (by omega) rfl (t + 2) (by omega)⟩
      · rw [wI_1, if_neg (by decide), wI_1, if_neg (by decide), wI_1, if_neg (by decide), wI_1, if_neg (by decide), wI_1, if_neg (by decide), hk.1 2 1 rfl]; exact hT.2.2.1
      · rw [wI_1, if_neg (fun z => absurd z.1 (by decide)), wI_1, if_neg (fun z => absurd z.1 (by decide)), wI_1, if_neg (fun z => absurd z.1 (by decide)), wI_1, if_neg (fun z => absurd z.1 (by decide)), wI_1, if_neg (fun z => absurd z.1 (by decide)), hk.1 3 i (by unfold cI; simp)]; exact hT.2.2.2 i hi
      · rw [wI_1, if_neg (by decide), wI_1, if_neg (by decide), wI_1, if_neg (by decide), wI_1, if_neg (by decide), wI_1, if_pos ⟨rfl, rfl⟩]; rfl
      · rw [wI_1, if_neg (by decide), wI_1, if_neg (by decide), wI_1, if_neg (by decide), wI_1, if_pos ⟨rfl, rfl⟩]; rfl
      · rw [wI_2, wI_2, wI_2, wI_2, wI_2]; exact hw i hi
      · rw [wI_1, if_neg (by decide), wI_1, if_neg (by decide), wI_1, if_pos ⟨rfl, rfl⟩]
      · rw [wI_1, if_neg (by decide), wI_1, if_pos ⟨rfl, rfl⟩]
      · rw [wI_1, if_pos ⟨rfl, rfl⟩]
    | succ m ih =>
      intro i wc hi hk hw n hn
      obtain ⟨n, rfl⟩ : ∃ m, n = m + 1 := ⟨n - 1, by omega⟩
      show cf_Reader_readText_B2 _ _ _ _
      unfold cf_Reader_readText_B2
      rw [show (10 : Int32) = nI 10 from rfl, nI_leI (by omega) (by omega)]
      refine ⟨fun z => absurd z (by omega), fun _ => sp_polyAt (by omega) ⟨vp_in_nI (by omega) (by omega), ?_⟩⟩
      rw [nI_clamp (by omega), nI_1, hk.2 7 i rfl, h7 i (by omega)]
      rintro _ rfl _ rfl
      refine ih (i + 1) _ (by omega) (ckc_wL _ hk rfl) (fun j hj => ?_) n (by omega)
      rw [wL_2]
      by_cases e : j = i
      · rw [if_pos ⟨rfl, e⟩, e]
      · rw [if_neg (fun z => e z.2)]
        exact hw j (by omega)
  exact ⟨_, key 10 0 w (by omega) ⟨fun _ _ _ => rfl, fun _ _ _ => rfl⟩ (fun j hj => absurd hj (by omega)) 11 (by omega)⟩
