theorem slen : ∀ i, i < 5 → Int32.ofNat (ay_slen.getD i 0) = nI (wds i).length ∧ ay_slen.getD i 0 = (wds i).length ∧ (wds i).length ≤ 3 ∧ 1 ≤ (wds i).length := by decide
theorem schr : ∀ i, i < 5 → ∀ j, j < (wds i).length → ck_chr i (nI j) = nI ((wds i).getD j 0) ∧ 97 ≤ (wds i).getD j 0 ∧ (wds i).getD j 0 ≤ 122 := by decide +kernel
theorem c_len {i : Nat} (hi : i < 5) {P : Int32 → Prop} (h : P (nI (wds i).length)) : cf_String_length i P := by
  unfold cf_String_length
  rw [(slen i hi).1]
  exact h
theorem c_chr {i j : Nat} (hi : i < 5) (hj : j < (wds i).length) {P : Int32 → Prop} (h : P (nI ((wds i).getD j 0))) : cf_String_charAt i (nI j) P := by
  have h3 := (slen i hi).2.2.1
  unfold cf_String_charAt
  rw [(schr i hi j hj).1, (slen i hi).2.1]
  exact ⟨vp_in_nI (by omega) (by omega), h⟩
theorem c_letters {t : Nat} {β : Nat → Nat} {q : Nat → Nat} {B : Wd} {d : Nat} {op : Nat → Int32} {w0 : Wd} {p0 : Nat} {P : Wd → Prop} (hS0 : cS t β q B w0 p0 d op) (h : ∀ w' e, cS t β q B w' e d op → p0 ≤ e → (∀ i, p0 ≤ i → i < e → isl t β i) → ¬ isl t β e → P w') : cf_Reader_readLetters w0 P := by
  have key : ∀ m p w, t ≤ p + m → cS t β q B w p d op → p0 ≤ p → (∀ i, p0 ≤ i → i < p → isl t β i) → ∀ n, m < n → cf_Reader_readLetters_L5 P n (nI p) w := by
    intro m
    induction m with
    | zero =>
      intro p w hm hS hp hi n hn
      obtain ⟨n, rfl⟩ : ∃ m, n = m + 1 := ⟨n - 1, by omega⟩
      show cf_Reader_readLetters_B5 _ _ _ _
      unfold cf_Reader_readLetters_B5 cf_Tape_size
      have h1 := hS.1.1.1
      have h2 := hS.1.2.2.1
      show (w.1 2 1 ≤ nI p → _) ∧ (¬ w.1 2 1 ≤ nI p → _)
      rw [hS.1.1.2.2.1, nI_leI (by omega) (by omega)]
      exact ⟨fun _ => h w p hS hp hi (fun z => by have := z.1; omega), fun z => absurd (by omega) z⟩
    | succ m ih =>
      intro p w hm hS hp hi n hn
      obtain ⟨n, rfl⟩ : ∃ m, n = m + 1 := ⟨n - 1, by omega⟩
      show cf_Reader_readLetters_B5 _ _ _ _
      unfold cf_Reader_readLetters_B5 cf_Tape_size
      have h1 := hS.1.1.1
      have h2 := hS.1.2.2.1
      show (w.1 2 1 ≤ nI p → _) ∧ (¬ w.1 2 1 ≤ nI p → _)
      rw [hS.1.1.2.2.1, nI_leI (by omega) (by omega)]
      refine ⟨fun _ => h w p hS hp hi (fun z => by have := z.1; omega), fun z => c_at hS.1.1 (by omega) (c_isl hS.1.1.2.1 (fun hy => ⟨fun y => absurd y one_ne', fun _ => ?_⟩) (fun hy => ⟨fun _ => h w p hS hp hi hy, fun y => absurd rfl y⟩))⟩
      rintro _ rfl _ rfl
      rw [nI_1]
      refine ih (p + 1) _ (by omega) (cS_pos hS (by omega)) (by omega) (fun i h1 h2 => ?_) n (by omega)
      by_cases e : i = p
      · rw [e]; exact hy
      · exact hi i h1 (by omega)
  unfold cf_Reader_readLetters
  rintro _ rfl
  rw [hS0.2.1]
  exact ⟨_, key t p0 w0 (by omega) hS0 (Nat.le_refl _) (fun i h1 h2 => by omega) (t + 1) (by omega)⟩
theorem c_isWord {t : Nat} {β : Nat → Nat} {q : Nat → Nat} {B : Wd} {d : Nat} {op : Nat → Int32} {w : Wd} {i p e : Nat} {P : Int32 → Prop} (hS : cS t β q B w e d op) (hi : i < 5) (hp : p ≤ e) (hl : ∀ i, p ≤ i → i < e → isl t β i) (he : ¬ isl t β e)
    (h1 : isw t β i p → e = p + (wds i).length → P 1) (h0 : ¬ isw t β i p → P 0) : cf_Reader_isWord i (nI p) w P := by
  obtain ⟨l1, l2, l3, l4⟩ := slen i hi
  have ht := hS.1.1.1
  have het := hS.1.2.2.1
  unfold cf_Reader_isWord cf_String_length
  show (w.1 1 3 - nI p = Int32.ofNat (ay_slen.getD i 0) → _) ∧ (¬ w.1 1 3 - nI p = Int32.ofNat (ay_slen.getD i 0) → _)
  rw [l1, hS.2.1, pk_sub (by omega), nI_eq (by omega) (by omega)]
  refine ⟨fun z => ?_, fun z => h0 (fun y => ?_)⟩
  · have key : ∀ m j, (wds i).length ≤ j + m → j ≤ (wds i).length → (∀ k, k < j → isc t β (p + k) ((wds i).getD k 0)) → ∀ n, m < n → cf_Reader_isWord_L17 i w P n (nI p) (nI j) := by
      intro m
      have stop : (∀ k, k < (wds i).length → isc t β (p + k) ((wds i).getD k 0)) → P 1 := fun hk => h1 ⟨hk, by rw [show p + (wds i).length = e by omega]; exact he⟩ (by omega)
      induction m with
      | zero =>
        intro j hj hj2 hk n hn
        obtain ⟨n, rfl⟩ : ∃ m, n = m + 1 := ⟨n - 1, by omega⟩
        show cf_Reader_isWord_B17 _ _ _ _ _ _
        unfold cf_Reader_isWord_B17
        have : j = (wds i).length := by omega
        subst this
        refine c_len hi ?_
        exact ⟨fun _ => stop hk, fun y => absurd (Int32.le_refl _) y⟩
      | succ m ih =>
        intro j hj hj2 hk n hn
        by_cases hje : j = (wds i).length
        · exact ih j (by omega) hj2 hk n (by omega)
        obtain ⟨n, rfl⟩ : ∃ m, n = m + 1 := ⟨n - 1, by omega⟩
        show cf_Reader_isWord_B17 _ _ _ _ _ _
        unfold cf_Reader_isWord_B17
        have hc := schr i hi j (by omega)
        refine c_len hi ?_
        rw [nI_leI (by omega) (by omega), nI_add]
        refine ⟨fun y => absurd y (by omega), fun _ => c_at hS.1.1 (by omega) (c_chr hi (by omega) ?_)⟩
        · rw [bv_eq hS.1.1.2.1 (by omega)]
          refine ⟨fun y => ?_, fun y => h0 (fun x => y (x.1 j (by omega)))⟩
          rintro _ rfl
          rw [nI_1]
          refine ih (j + 1) (by omega) (by omega) (fun k hk2 => ?_) n (by omega)
          by_cases e : k = j
          · rw [e]; exact y
          · exact hk k (by omega)
    exact ⟨_, key (wds i).length 0 (by omega) (by omega) (fun k hk => by omega) ((wds i).length + 1) (by omega)⟩
  · -- the word is there: then its end is the letters' end
    have a1 : ¬ e < p + (wds i).length := by
      intro c
      have c1 := y.1 (e - p) (by omega)
      have c2 := schr i hi (e - p) (by omega)
      rw [show p + (e - p) = e by omega] at c1
      exact he ⟨c1.1, by rw [c1.2]; exact c2.2.1, by rw [c1.2]; exact c2.2.2⟩
    have a2 : ¬ p + (wds i).length < e := fun c => y.2 (hl _ (by omega) c)
    omega
theorem cBad_no {B w : Wd} {f : Int32 × Int32 × Int32} (h : cBad B w f) : ¬ w.1 1 5 = -1 := by
  rw [h.2.1]
  exact h.2.2.2.2.1
theorem c_tri {t : Nat} {β : Nat → Nat} {q : Nat → Nat} {B : Wd} {d : Nat} {op : Nat → Int32} {w0 : Wd} {p0 : Nat} {P : Int64 → Wd → Prop} (hS0 : cS t β q B w0 p0 d op)
    (hok : ∀ v e w', pTri t β p0 d op = .inl (v, e) → cS t β q B w' e d op → P (lN v) w') (hbad : ∀ f w' v, pTri t β p0 d op = .inr f → cBad B w' f → v < 2 ^ 32 → P (lN v) w') : cf_Reader_readTri w0 P := by
  unfold cf_Reader_readTri
  refine c_num (lo := 2) (hi := 31) hS0 (by omega) (by omega) (fun a e w1 e1 S1 => ⟨fun _ => ?_, fun z => absurd S1.2.2.2.2.2.1 z⟩) (fun f w1 e1 hb => ⟨fun z => absurd z (cBad_no hb), fun _ => hbad f w1 0 ?_ hb (by decide)⟩)
  · have h1 := pNum_le hS0.1.2.2.1 e1
    rw [show nI a - (1 : Int32) = nI (a - 1) from pk_sub (b := 1) (by omega)]
    refine c_num (lo := 1) (hi := a - 1) S1 (by omega) (by omega) (fun b e2 w2 e3 S2 => ⟨fun z => absurd S2.2.2.2.2.2.1 z, fun _ => ?_⟩) (fun f w2 e3 hb => ⟨fun _ => hbad f w2 0 ?_ hb (by decide), fun z => absurd z (cBad_no hb)⟩)
    · have h2 := pNum_le S1.1.2.2.1 e3
      refine sp_tri (by omega) (by omega) (hok _ e2 w2 ?_ S2)
      unfold pTri
      rw [e1]
      show bnd (pNum t β 1 (a - 1) e d op) _ = _
      rw [e3]
      rfl
    · unfold pTri
      rw [e1]
      show bnd (pNum t β 1 (a - 1) e d op) _ = _
      rw [e3]
      rfl
  · unfold pTri
    rw [e1]
    rfl
def cN (t : Nat) (β : Nat → Nat) (q : Nat → Nat) (B : Wd) (d : Nat) (op : Nat → Int32) (nr : NRt) (NR : Wd → (Int64 → Wd → Prop) → Prop) : Prop :=
  (∀ w p (P : Int64 → Wd → Prop), cS t β q B w p d op → (∀ v e w', nr p d op = .inl (v, e) → cS t β q B w' e d op → P (lN v) w') → (∀ f w' v, nr p d op = .inr f → cBad B w' f → v < 2 ^ 32 → P (lN v) w') → NR w P) ∧ (∀ p, ¬ isc t β (sk t β p) 40 → nr p d op = fl 1 (sk t β p) d op) ∧ nrOk t nr ∧ ∀ k, k < 10 → q k < 2 ^ 32
theorem c_one {t : Nat} {β : Nat → Nat} {q : Nat → Nat} {B : Wd} {d : Nat} {op : Nat → Int32} {nr : NRt} {NR : Wd → (Int64 → Wd → Prop) → Prop} (hN : cN t β q B d op nr NR) {w0 : Wd} {p0 : Nat} {P : Int64 → Wd → Prop} (hS0 : cS t β q B w0 p0 d op)
    (hok : ∀ v e w', pOne t β nr q p0 d op = .inl (v, e) → cS t β q B w' e d op → P (lN v) w') (hbad : ∀ f w' v, pOne t β nr q p0 d op = .inr f → cBad B w' f → v < 2 ^ 32 → P (lN v) w') : cf_Reader_readOne NR w0 P := by
  obtain ⟨hNR, hstop, hnr, hq⟩ := hN
  unfold pOne at hok hbad
  unfold cf_Reader_readOne
  refine c_peek hS0 (fun w1 S1 => c_isd S1.1.1.2.1 (fun hd => ⟨fun z => absurd z one_ne', fun _ => ?_⟩) (fun hd => ⟨fun _ => ?_, fun z => absurd rfl z⟩))
  · rw [if_pos hd] at hok hbad
    refine c_num (lo := 0) (hi := 1) S1 (by omega) (by omega) (fun v e w2 e2 S2 => ?_) (fun f w2 e2 hb => ?_)
    · have := pNum_le S1.1.2.2.1 e2
      rw [nI_l (by omega)]
      exact hok v e w2 e2 S2
    · exact hbad f w2 0 e2 hb (by decide)
  · rw [if_neg hd] at hok hbad
    have hst := S1.1.2.2.1
    have hβ := S1.1.1.2.1
    have ht := S1.1.1.1
    rw [show (40 : Int32) = nI 40 from rfl, bv_eq hβ (by omega)]
    refine ⟨fun h40 => ?_, fun h40 => ?_⟩
    · rintro _ rfl
      refine c_letters S1 (fun w2 e S2 g1 g2 g3 => ?_)
      rw [S1.2.1]
      refine c_isWord S2 (by decide) g1 g2 g3 (fun i0 e0 => ⟨fun z => absurd z one_ne', fun _ => ?_⟩) (fun i0 => ⟨fun _ => ?_, fun z => absurd rfl z⟩)
      · rw [if_pos i0] at hok hbad
        have e0 : e = sk t β p0 + 1 := e0
        rw [e0] at S2
        exact hok 2 _ w2 rfl S2
      rw [if_neg i0] at hok hbad
      refine c_isWord S2 (by decide) g1 g2 g3 (fun i1 e0 => ⟨fun z => absurd z one_ne', fun _ => ?_⟩) (fun i1 => ⟨fun _ => ?_, fun z => absurd rfl z⟩)
      · rw [if_pos i1] at hok hbad
        have e0 : e = sk t β p0 + 1 := e0
        rw [e0] at S2
        refine c_num (lo := 0) (hi := 9) S2 (by omega) (by omega) (fun v e w3 e3 S3 => ?_) (fun f w3 e3 hb => ?_)
        · have hv := pNum_le S2.1.2.2.1 e3
          rw [e3] at hok
          rw [show (10 : Int32) = nI 10 from rfl, nI_leI (by omega) (by omega)]
          refine ⟨fun z => absurd z (nI_pos (by omega)), fun _ => ⟨fun z => absurd z (by omega), fun _ => ⟨vp_in_nI (by omega) (by omega), ?_⟩⟩⟩
          rw [nI_clamp (by omega), S3.2.2.2.2.1 v (by omega)]
          exact hok _ _ w3 rfl S3
        · rw [e3] at hbad
          refine ⟨fun _ => hbad f w3 0 rfl hb (by decide), fun _ => ⟨fun _ => hbad f w3 0 rfl hb (by decide), fun _ => ⟨vp_in_nI (by decide) (by decide), ?_⟩⟩⟩
          obtain ⟨v, hv, e⟩ := hb.2.2.2.2.2 0 (by decide)
          rw [nI_clamp (by decide), e]
          exact hbad f w3 _ rfl hb hv
      rw [if_neg i1] at hok hbad
      refine c_isWord S2 (by decide) g1 g2 g3 (fun i2 e0 => ⟨fun z => absurd z one_ne', fun _ => ?_⟩) (fun i2 => ⟨fun _ => ?_, fun z => absurd rfl z⟩)
      · rw [if_pos i2] at hok hbad
        have e0 : e = sk t β p0 + 3 := e0
        rw [e0] at S2
        exact c_tri S2 hok hbad
      rw [if_neg i2] at hok hbad
      refine c_isWord S2 (by decide) g1 g2 g3 (fun i3 e0 => ⟨fun z => absurd z one_ne', fun _ => ?_⟩) (fun i3 => ⟨fun _ => ?_, fun z => absurd rfl z⟩)
      · rw [if_pos i3] at hok hbad
        have e0 : e = sk t β p0 + 3 := e0
        rw [e0] at S2
        refine hNR w2 _ _ S2 (fun v e w3 e3 S3 => ?_) (fun f w3 v e3 hb hv => ?_)
        · have hv := hnr _ d op S2.1.2.2.1
          rw [e3] at hv hok
          exact sp_reversed (by have := hv.1; omega) (hok _ _ w3 rfl S3)
        · rw [e3] at hbad
          exact sp_reversed (by omega) (hbad f w3 _ rfl hb (prev_lt hv))
      rw [if_neg i3] at hok hbad
      refine c_isWord S2 (by decide) g1 g2 g3 (fun i4 e0 => ⟨fun z => absurd z one_ne', fun _ => ?_⟩) (fun i4 => ⟨fun _ => ?_, fun z => absurd rfl z⟩)
      · rw [if_pos i4] at hok hbad
        have e0 : e = sk t β p0 + 3 := e0
        rw [e0] at S2
        refine hNR w2 _ _ S2 (fun v e w3 e3 S3 => ?_) (fun f w3 v e3 hb hv => ?_)
        · have hv := hnr _ d op S2.1.2.2.1
          rw [e3] at hv hok
          exact sp_derived (by have := hv.1; omega) (hok _ _ w3 rfl S3)
        · rw [e3] at hbad
          exact sp_derived (by omega) (hbad f w3 _ rfl hb (pder_lt hv))
      rw [if_neg i4, hstop (sk t β p0) (by rw [sk_sk]; exact h40), sk_sk] at hbad
      exact c_fail (c := 1) S2 (by omega) (by omega) (fun w3 f ef hb => hbad f w3 0 ef hb (by decide))
    · have no : ∀ i, i < 5 → ¬ isw t β i (sk t β p0) := by
        intro i hi hw
        have h1 := hw.1 0 (by have := (slen i hi).2.2.2; omega)
        have h2 := (schr i hi 0 (by have := (slen i hi).2.2.2; omega)).2.1
        rw [Nat.add_zero] at h1
        have := h1.2
        have := h40.2
        omega
      rw [if_neg (no 0 (by decide)), if_neg (no 1 (by decide)), if_neg (no 2 (by decide)), if_neg (no 3 (by decide)), if_neg (no 4 (by decide))] at hok hbad
      exact hNR w1 _ _ S1 hok hbad
