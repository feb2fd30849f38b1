-- the model's reader: bytes, signs, numbers, words
def mI (c i : Nat) : Bool := (c == 30 && (i == 22 || i == 23 || i == 24 || i == 25 || i == 26 || i == 27 || i == 28)) || c == 44
def mL (c i : Nat) : Bool := (c == 30 && i == 30) || c == 45
def mkc (B w : Wd) : Prop := (∀ c i, mI c i = false → w.1 c i = B.1 c i) ∧ (∀ c i, mL c i = false → w.2 c i = B.2 c i)
theorem mkc_wI {B w : Wd} {c j : Nat} (x : Int32) (h : mkc B w) (hn : mI c j = true) : mkc B (wI w c j x) := by
  refine ⟨fun k i hr => ?_, fun k i hr => ?_⟩
  · rw [wI_1, if_neg]
    · exact h.1 k i hr
    · rintro ⟨rfl, rfl⟩
      rw [hn] at hr
      exact absurd hr (by decide)
  · rw [wI_2]; exact h.2 k i hr
theorem mkc_wL {B w : Wd} {c j : Nat} (x : Int64) (h : mkc B w) (hn : mL c j = true) : mkc B (wL w c j x) := by
  refine ⟨fun k i hr => ?_, fun k i hr => ?_⟩
  · rw [wL_1]; exact h.1 k i hr
  · rw [wL_2, if_neg]
    · exact h.2 k i hr
    · rintro ⟨rfl, rfl⟩
      rw [hn] at hr
      exact absurd hr (by decide)
def mT (t : Nat) (β : Nat → Nat) (w : Wd) : Prop := t ≤ 300 ∧ (∀ i, β i < 256) ∧ w.1 30 21 = nI t ∧ ∀ i, i < t → w.1 43 i &&& (255 : Int32) = nI (β i)
def mS (t : Nat) (β : Nat → Nat) (q : Nat → Nat) (B : Wd) (V : Int64) (w : Wd) (p d : Nat) (op : Nat → Int32) : Prop :=
  (mT t β w ∧ mkc B w ∧ p ≤ t ∧ d ≤ 6 ∧ ∀ k, k < 10 → q k < 2 ^ 32) ∧ w.1 30 22 = nI p ∧ w.1 30 28 = nI d ∧ (∀ i, i < d → w.1 44 i = op i) ∧ (∀ i, i < 10 → w.2 45 i = lN (q i)) ∧ w.2 30 30 = V
def mBad (B w : Wd) (f : Int32 × Int32 × Int32) : Prop := mkc B w ∧ w.1 30 23 = f.1 ∧ w.1 30 24 = f.2.1 ∧ w.1 30 25 = f.2.2
theorem mS_wI {t : Nat} {β : Nat → Nat} {q : Nat → Nat} {B : Wd} {V : Int64} {w : Wd} {p d : Nat} {op : Nat → Int32} (h : mS t β q B V w p d op) {j : Nat} (x : Int32) (hj : j = 23 ∨ j = 24 ∨ j = 25 ∨ j = 26 ∨ j = 27) : mS t β q B V (wI w 30 j x) p d op := by
  obtain ⟨⟨⟨h1, h2, h3, h4⟩, h5, h6, h7⟩, h8, h9, h10, h11, h12⟩ := h
  have g : ∀ c i, c ≠ 30 ∨ i ≠ j → (wI w 30 j x).1 c i = w.1 c i := by
    intro c i n
    rw [wI_1, if_neg]
    rintro ⟨e1, e2⟩
    rcases n with n | n
    · exact n e1
    · exact n e2
  refine ⟨⟨⟨h1, h2, ?_, fun i hi => ?_⟩, mkc_wI _ h5 ?_, h6, h7⟩, ?_, ?_, fun i hi => ?_, fun i hi => ?_, ?_⟩
  · rw [g 30 21 (Or.inr (by omega))]; exact h3
  · rw [g 43 i (Or.inl (by decide))]; exact h4 i hi
  · rcases hj with e | e | e | e | e <;> subst e <;> rfl
  · rw [g 30 22 (Or.inr (by omega))]; exact h8
  · rw [g 30 28 (Or.inr (by omega))]; exact h9
  · rw [g 44 i (Or.inl (by decide))]; exact h10 i hi
  · rw [wI_2]; exact h11 i hi
  · rw [wI_2]; exact h12
theorem mS_pos {t : Nat} {β : Nat → Nat} {q : Nat → Nat} {B : Wd} {V : Int64} {w : Wd} {p d : Nat} {op : Nat → Int32} (h : mS t β q B V w p d op) {p' : Nat} (hp : p' ≤ t) : mS t β q B V (wI w 30 22 (nI p')) p' d op := by
  obtain ⟨⟨⟨h1, h2, h3, h4⟩, h5, h6, h7⟩, h8, h9, h10, h11, h12⟩ := h
  refine ⟨⟨⟨h1, h2, ?_, fun i hi => ?_⟩, mkc_wI _ h5 rfl, hp, h7⟩, ?_, ?_, fun i hi => ?_, fun i hi => ?_, ?_⟩
  · rw [wI_1, if_neg (by decide)]; exact h3
  · rw [wI_1, if_neg (fun z => absurd z.1 (by decide))]; exact h4 i hi
  · rw [wI_1, if_pos ⟨rfl, rfl⟩]
  · rw [wI_1, if_neg (by decide)]; exact h9
  · rw [wI_1, if_neg (fun z => absurd z.1 (by decide))]; exact h10 i hi
  · rw [wI_2]; exact h11 i hi
  · rw [wI_2]; exact h12
theorem mS_val {t : Nat} {β : Nat → Nat} {q : Nat → Nat} {B : Wd} {V : Int64} {w : Wd} {p d : Nat} {op : Nat → Int32} (h : mS t β q B V w p d op) (x : Int64) : mS t β q B x (wL w 30 30 x) p d op := by
  obtain ⟨⟨⟨h1, h2, h3, h4⟩, h5, h6, h7⟩, h8, h9, h10, h11, h12⟩ := h
  refine ⟨⟨⟨h1, h2, h3, h4⟩, mkc_wL _ h5 rfl, h6, h7⟩, h8, h9, h10, fun i hi => ?_, ?_⟩
  · rw [wL_2, if_neg (fun z => absurd z.1 (by decide))]; exact h11 i hi
  · rw [wL_2, if_pos ⟨rfl, rfl⟩]
theorem mBad_val {B w : Wd} {f : Int32 × Int32 × Int32} (h : mBad B w f) (x : Int64) : mBad B (wL w 30 30 x) f := ⟨mkc_wL _ h.1 rfl, h.2⟩
theorem m_byte {t : Nat} {β : Nat → Nat} {w : Wd} {i : Nat} {P : Int32 → Prop} (h : mT t β w) (hi : i < 2 ^ 31) (hP : P (bv t β i)) : cf_M_byteAt (nI i) w P := by
  obtain ⟨h1, h2, h3, h4⟩ := h
  unfold cf_M_byteAt
  unfold bv at hP
  rw [h3, nI_leI (by omega) hi]
  refine ⟨fun z => ?_, fun z => ⟨vp_in_nI (by omega) (by omega), ?_⟩⟩
  · rw [if_neg (by omega)] at hP; exact hP
  · rw [nI_clamp hi, h4 i (by omega)]
    rw [if_pos (by omega)] at hP
    exact hP
theorem m_isd {t : Nat} {β : Nat → Nat} (hβ : ∀ i, β i < 256) {i : Nat} {P : Int32 → Prop} (h1 : isd t β i → P 1) (h0 : ¬ isd t β i → P 0) : cf_M_in (bv t β i).toInt64 (48 : Int64) (57 : Int64) P := by
  have h := bv_toInt (t := t) hβ i
  refine mp_inI (lo := 48) (hi := 57) (by decide) (by decide) (fun z => h1 ?_) (fun z => h0 (fun y => z ?_))
  · rw [h] at z
    split at z
    · rename_i c
      exact ⟨c, by omega, by omega⟩
    · omega
  · rw [h, if_pos y.1]
    have := y.2
    omega
theorem m_isl {t : Nat} {β : Nat → Nat} (hβ : ∀ i, β i < 256) {i : Nat} {P : Int32 → Prop} (h1 : isl t β i → P 1) (h0 : ¬ isl t β i → P 0) : cf_M_in (bv t β i).toInt64 (97 : Int64) (122 : Int64) P := by
  have h := bv_toInt (t := t) hβ i
  refine mp_inI (lo := 97) (hi := 122) (by decide) (by decide) (fun z => h1 ?_) (fun z => h0 (fun y => z ?_))
  · rw [h] at z
    split at z
    · rename_i c
      exact ⟨c, by omega, by omega⟩
    · omega
  · rw [h, if_pos y.1]
    have := y.2
    omega
theorem m_next {t : Nat} {β : Nat → Nat} {q : Nat → Nat} {B : Wd} {V : Int64} {d : Nat} {op : Nat → Int32} {w0 : Wd} {p0 : Nat} {P : Int32 → Wd → Prop} (hS : mS t β q B V w0 p0 d op) (h : ∀ w', mS t β q B V w' (sk t β p0) d op → P (bv t β (sk t β p0)) w') : cf_M_nextByte w0 P := by
  have key : ∀ m p w, t < p + m → mS t β q B V w p d op → sk t β p = sk t β p0 → ∀ n, m ≤ n → cf_M_nextByte_L0 P n w := by
    intro m
    induction m with
    | zero =>
      intro p w hm hS
      have := hS.1.2.2.1
      omega
    | succ m ih =>
      intro p w hm hS he n hn
      obtain ⟨n, rfl⟩ : ∃ m, n = m + 1 := ⟨n - 1, by omega⟩
      show cf_M_nextByte_B0 _ _ _
      unfold cf_M_nextByte_B0
      have h1 := hS.1.1.1
      have h2 := hS.1.2.2.1
      have h3 := hS.1.1.2.1
      rw [hS.2.1]
      refine m_byte hS.1.1 (by omega) ?_
      rw [show (32 : Int32) = nI 32 from rfl, bv_eq h3 (by omega), nI_1]
      refine ⟨fun y => m_byte hS.1.1 (by omega) ?_, fun y => ?_⟩
      · have e : sk t β p = p := sk_no y
        rw [← he, e] at h
        exact h w hS
      · rintro _ rfl
        exact ih (p + 1) _ (by omega) (mS_pos hS y.1) (by rw [← he, sk_yes y]) n (by omega)
  have := hS.1.2.2.1
  exact ⟨_, key (t + 1) p0 w0 (by omega) hS rfl (t + 1) (by omega)⟩
theorem m_digit {t : Nat} {β : Nat → Nat} {q : Nat → Nat} {B : Wd} {V : Int64} {d : Nat} {op : Nat → Int32} {w0 : Wd} {p0 : Nat} {P : Int32 → Wd → Prop} (hS : mS t β q B V w0 p0 d op) (h1 : ∀ w', mS t β q B V w' (sk t β p0) d op → isd t β (sk t β p0) → P 1 w') (h0 : ∀ w', mS t β q B V w' (sk t β p0) d op → ¬ isd t β (sk t β p0) → P 0 w') : cf_M_isDigitNext w0 P := by
  unfold cf_M_isDigitNext
  exact m_next hS (fun w1 S1 => m_isd S1.1.1.2.1 (fun y => ⟨Or.inr rfl, h1 w1 S1 y⟩) (fun n => ⟨Or.inl rfl, h0 w1 S1 n⟩))
theorem m_fails {t : Nat} {β : Nat → Nat} {q : Nat → Nat} {B : Wd} {V : Int64} {d : Nat} {op : Nat → Int32} {w : Wd} {p c s : Nat} {P : Int32 → Wd → Prop} (hS : mS t β q B V w p d op) (hs : s ≤ 300) (hc : c < 8)
    (h : ∀ w' f, fl c s d op = .inr f → mBad B w' f → P 0 w') : cf_M_fails (nI c) (nI s) w P := by
  obtain ⟨⟨⟨h1, h2, h3, h4⟩, h5, h6, h7⟩, h8, h9, h10, h11, h12⟩ := hS
  obtain ⟨h7, hq⟩ := h7
  unfold cf_M_fails
  rintro _ rfl _ rfl
  have e1 : (8 : Int32) * nI s + nI c = nI (8 * s + c) := by rw [show (8 : Int32) = nI 8 from rfl, nI_mul, nI_add]
  have a1 : (wI w 30 23 ((8 : Int32) * nI s + nI c)).1 30 28 = nI d := by rw [wI_1, if_neg (by decide)]; exact h9
  rw [a1]
  have a2 : (wI (wI w 30 23 ((8 : Int32) * nI s + nI c)) 30 24 (nI d)).1 30 28 = nI d := by rw [wI_1, if_neg (by decide)]; exact a1
  rw [a2, e1, nI_eq0 (by omega)]
  have fin : ∀ x, x = (if d = 0 then -1 else op (d - 1)) → P 0 (wI (wI (wI w 30 23 (nI (8 * s + c))) 30 24 (nI d)) 30 25 x) := by
    intro x hx
    refine h _ _ rfl ⟨mkc_wI _ (mkc_wI _ (mkc_wI _ h5 rfl) rfl) rfl, ?_, ?_, ?_⟩
    · rw [wI_1, if_neg (by decide), wI_1, if_neg (by decide), wI_1, if_pos ⟨rfl, rfl⟩]
    · rw [wI_1, if_neg (by decide), wI_1, if_pos ⟨rfl, rfl⟩]
    · rw [wI_1, if_pos ⟨rfl, rfl⟩]; exact hx
  refine ⟨fun z => ?_, fun z => ?_⟩
  · rw [show nI d - (1 : Int32) = nI (d - 1) from pk_sub (b := 1) (by omega)]
    refine ⟨vp_in_nI (by omega) (by omega), ?_⟩
    rintro _ rfl
    refine fin _ ?_
    rw [if_neg (by omega), nI_clamp (by omega), wI_1, if_neg (fun z => absurd z.1 (by decide)), wI_1, if_neg (fun z => absurd z.1 (by decide))]
    exact h10 (d - 1) (by omega)
  · rintro _ rfl
    exact fin _ (by rw [if_pos z])
theorem m_num {t : Nat} {β : Nat → Nat} {q : Nat → Nat} {B : Wd} {V : Int64} {d : Nat} {op : Nat → Int32} {w0 : Wd} {p0 lo hi : Nat} {P : Int32 → Wd → Prop} (hS0 : mS t β q B V w0 p0 d op) (hlo : lo ≤ 100) (hhi : hi ≤ 100)
    (hok : ∀ v e w', pNum t β lo hi p0 d op = .inl (v, e) → mS t β q B V w' e d op → w'.1 30 26 = nI v → P 1 w') (hbad : ∀ f w', pNum t β lo hi p0 d op = .inr f → mBad B w' f → P 0 w') : cf_M_readsNumber (nI lo) (nI hi) w0 P := by
  unfold cf_M_readsNumber
  refine m_digit hS0 (fun w1 S1 hd => ⟨fun _ => ?_, fun z => absurd z one_ne'⟩) (fun w1 S1 hd => ⟨fun z => absurd rfl z, fun _ => ?_⟩)
  · have hsl := hd.1
    have ht := S1.1.1.1
    rintro _ rfl _ rfl
    rw [S1.2.1]
    have key : ∀ m p a x w, t < p + m → mS t β q B V w p d op → w.1 30 26 = nI x → w.1 30 27 = nI (sk t β p0) → (x = a ∨ 10000 ≤ x ∧ 10000 ≤ a) → x < 100100 → dgF t β (t - p) p a = dgF t β (t - sk t β p0) (sk t β p0) 0 → ∀ n, m ≤ n → cf_M_readsNumber_L30 P n (nI lo) (nI hi) w := by
      intro m
      induction m with
      | zero =>
        intro p a x w hm hS
        have := hS.1.2.2.1
        omega
      | succ m ih =>
        intro p a x w hm hS hx hat hxa hxl he n hn
        obtain ⟨n, rfl⟩ : ∃ m, n = m + 1 := ⟨n - 1, by omega⟩
        show cf_M_readsNumber_B30 _ _ _ _ _
        unfold cf_M_readsNumber_B30
        have h2 := hS.1.2.2.1
        have h3 := hS.1.1.2.1
        rw [hS.2.1, hx, hat]
        refine m_byte hS.1.1 (by omega) (m_isd h3 (fun hy => ⟨fun z => absurd z one_ne', fun _ => ?_⟩) (fun hy => ⟨fun _ => ?_, fun z => absurd rfl z⟩))
        · have hb : bv t β p = nI (β p) := if_pos hy.1
          have hb2 := h3 p
          have hy2 := hy.2.1
          have hy3 := hy.2.2
          have E : dgF t β (t - (p + 1)) (p + 1) (10 * a + β p - 48) = dgF t β (t - sk t β p0) (sk t β p0) 0 := by
            rw [← he, show t - p = (t - (p + 1)) + 1 by have := hy.1; omega]
            show _ = (if isd t β p then dgF t β (t - (p + 1)) (p + 1) (10 * a + β p - 48) else (a, p))
            rw [if_pos hy]
          rw [show (10000 : Int32) = nI 10000 from rfl, nI_leI (by omega) (by omega), nI_1]
          refine ⟨fun c => ?_, fun c => m_byte hS.1.1 (by omega) ?_⟩
          · rintro _ rfl
            refine ih (p + 1) (10 * a + β p - 48) x _ (by omega) (mS_pos hS hy.1) ?_ ?_ (Or.inr ⟨c, by omega⟩) hxl E n (by omega)
            · rw [wI_1, if_neg (by decide)]; exact hx
            · rw [wI_1, if_neg (by decide)]; exact hat
          · have hxa : x = a := by omega
            subst hxa
            rw [hb, show (10 : Int32) = nI 10 from rfl, nI_mul, nI_add, show (48 : Int32) = nI 48 from rfl, pk_sub (by omega)]
            rintro _ rfl _ rfl
            rw [show (wI w 30 26 (nI (10 * x + β p - 48))).1 30 22 = nI p by rw [wI_1, if_neg (by decide)]; exact hS.2.1, nI_1]
            refine ih (p + 1) (10 * x + β p - 48) (10 * x + β p - 48) _ (by omega) (mS_pos (mS_wI hS (j := 26) _ (by omega)) hy.1) ?_ ?_ (Or.inl rfl) (by omega) E n (by omega)
            · rw [wI_1, if_neg (by decide), wI_1, if_pos ⟨rfl, rfl⟩]
            · rw [wI_1, if_neg (by decide), wI_1, if_neg (by decide)]; exact hat
        · have hend : (a, p) = dgF t β (t - sk t β p0) (sk t β p0) 0 := by
            rw [← he]
            cases hc : t - p with
            | zero => rfl
            | succ k =>
              show _ = (if isd t β p then dgF t β k (p + 1) (10 * a + β p - 48) else (a, p))
              rw [if_neg hy]
          refine mp_inI (lo := (lo : Int)) (hi := (hi : Int)) (by rw [Int32.toInt_toInt64, nI_toInt (by omega)]) (by rw [Int32.toInt_toInt64, nI_toInt (by omega)]) (fun z => ⟨fun _ => ?_, fun z => absurd z one_ne'⟩) (fun z => ⟨fun z => absurd rfl z, fun _ => m_fails (c := 2) hS (by omega) (by omega) (fun w2 f ef hb => ⟨fun _ => hbad f w2 ?_ hb, fun z => absurd rfl z⟩)⟩)
          · rw [nI_toInt (by omega)] at z
            have hxa : x = a := by omega
            subst hxa
            refine hok x p w ?_ hS hx
            unfold pNum
            rw [if_pos hd, ← hend, if_pos (by omega)]
          · rw [nI_toInt (by omega)] at z
            unfold pNum
            rw [if_pos hd, ← hend, if_neg (by show ¬ (lo ≤ a ∧ a ≤ hi); omega)]
            exact ef
    refine ⟨_, key (t + 1) (sk t β p0) 0 0 _ (by omega) (mS_wI (mS_wI S1 (j := 27) _ (by omega)) (j := 26) _ (by omega)) ?_ ?_ (Or.inl rfl) (by omega) rfl (t + 1) (by omega)⟩
    · rw [wI_1, if_pos ⟨rfl, rfl⟩]; rfl
    · rw [wI_1, if_neg (by decide), wI_1, if_pos ⟨rfl, rfl⟩]
  · rw [S1.2.1]
    refine m_fails (c := 1) S1 (by have := S1.1.1.1; have := S1.1.2.2.1; omega) (by omega) (fun w2 f ef hb => ⟨Or.inl rfl, hbad f w2 ?_ hb⟩)
    unfold pNum
    rw [if_neg hd]
    exact ef
theorem m_isWord {t : Nat} {β : Nat → Nat} {q : Nat → Nat} {B : Wd} {V : Int64} {d : Nat} {op : Nat → Int32} {w0 : Wd} {p0 i : Nat} {P : Int32 → Wd → Prop} (hS0 : mS t β q B V w0 p0 d op) (hi : i < 5)
    (h1 : ∀ w', mS t β q B V w' (sk t β p0) d op → isw t β i (sk t β p0) → P 1 w') (h0 : ∀ w', mS t β q B V w' (sk t β p0) d op → ¬ isw t β i (sk t β p0) → P 0 w') : cf_M_isWord i w0 P := by
  unfold cf_M_isWord
  refine m_next hS0 (fun w1 S1 => ?_)
  have hβ := S1.1.1.2.1
  have ht := S1.1.1.1
  have hp := S1.1.2.2.1
  obtain ⟨l1, l2, l3, l4⟩ := slen i hi
  generalize hs : sk t β p0 = s at *
  have stop : ∀ k, k ≤ (wds i).length → (∀ j, j < k → isc t β (s + j) ((wds i).getD j 0)) → (k < (wds i).length → ¬ isc t β (s + k) ((wds i).getD k 0)) → cf_M_isWord_B51 i P (nI s) (nI k) w1 := by
    intro k hk hy hn
    unfold cf_M_isWord_B51
    refine c_len hi ?_
    rw [nI_eq (by omega) (by omega), nI_add]
    refine ⟨fun z => h0 w1 S1 (fun y => hn (by omega) (y.1 k (by omega))), fun z => m_byte S1.1.1 (by omega) (m_isl hβ (fun y => ⟨fun _ => h0 w1 S1 (fun x => x.2 ?_), fun z => absurd z one_ne'⟩) (fun y => ⟨fun z => absurd rfl z, fun _ => h1 w1 S1 ⟨fun j hj => hy j (by omega), ?_⟩⟩))⟩
    · rw [← z]; exact y
    · rw [← z]; exact y
  have key : ∀ m k, (wds i).length ≤ k + m → k ≤ (wds i).length → (∀ j, j < k → isc t β (s + j) ((wds i).getD j 0)) → ∀ n, m < n → cf_M_isWord_L22 i P n (nI s) (nI k) w1 := by
    intro m
    induction m with
    | zero =>
      intro k hk hk2 hy n hn
      obtain ⟨n, rfl⟩ : ∃ m, n = m + 1 := ⟨n - 1, by omega⟩
      show cf_M_isWord_B22 _ _ _ _ _ _
      unfold cf_M_isWord_B22
      refine c_len hi ?_
      rw [nI_leI (by omega) (by omega)]
      exact ⟨fun _ => stop k hk2 hy (fun z => absurd z (by omega)), fun z => absurd (by omega) z⟩
    | succ m ih =>
      intro k hk hk2 hy n hn
      obtain ⟨n, rfl⟩ : ∃ m, n = m + 1 := ⟨n - 1, by omega⟩
      show cf_M_isWord_B22 _ _ _ _ _ _
      unfold cf_M_isWord_B22
      refine c_len hi ?_
      rw [nI_leI (by omega) (by omega), nI_add]
      refine ⟨fun z => stop k hk2 hy (fun y => absurd y (by omega)), fun z => m_byte S1.1.1 (by omega) (c_chr hi (by omega) ?_)⟩
      have hc := schr i hi k (by omega)
      rw [bv_eq hβ (by omega), nI_1]
      refine ⟨fun y => stop k hk2 hy (fun _ => y), fun y => ?_⟩
      rintro _ rfl
      refine ih (k + 1) (by omega) (by omega) (fun j hj => ?_) n (by omega)
      by_cases e : j = k
      · rw [e]; exact y
      · exact hy j (by omega)
  refine ⟨fun _ => ?_, fun z => ?_⟩
  · rintro _ rfl
    rw [S1.2.1]
    exact ⟨_, key (wds i).length 0 (by omega) (by omega) (fun j hj => absurd hj (by omega)) ((wds i).length + 1) (by omega)⟩
  · rintro _ rfl
    rw [bv_end hβ] at z
    have e : t = s := by omega
    rw [S1.1.1.2.2.1, e]
    exact ⟨_, key (wds i).length 0 (by omega) (by omega) (fun j hj => absurd hj (by omega)) ((wds i).length + 1) (by omega)⟩
theorem m_word {t : Nat} {β : Nat → Nat} {q : Nat → Nat} {B : Wd} {V : Int64} {d : Nat} {op : Nat → Int32} {w0 : Wd} {p0 i : Nat} {P : Int32 → Wd → Prop} (hS0 : mS t β q B V w0 p0 d op) (hi : i < 5)
    (h1 : ∀ w', mS t β q B V w' (sk t β p0 + (wds i).length) d op → isw t β i (sk t β p0) → P 1 w') (h0 : ∀ w', mS t β q B V w' (sk t β p0) d op → ¬ isw t β i (sk t β p0) → P 0 w') : cf_M_takesWord i w0 P := by
  unfold cf_M_takesWord
  refine m_isWord hS0 hi (fun w1 S1 y => ⟨fun z => absurd z one_ne', fun _ => c_len hi ?_⟩) (fun w1 S1 n => ⟨fun _ => ⟨Or.inl rfl, h0 w1 S1 n⟩, fun z => absurd rfl z⟩)
  rw [S1.2.1, nI_add]
  rintro _ rfl
  exact ⟨Or.inr rfl, h1 _ (mS_pos S1 (isw_at y hi)) y⟩
theorem m_sign {t : Nat} {β : Nat → Nat} {q : Nat → Nat} {B : Wd} {V : Int64} {d : Nat} {op : Nat → Int32} {w0 : Wd} {p0 c : Nat} {P : Int32 → Wd → Prop} (hS0 : mS t β q B V w0 p0 d op) (hc : c < 256)
    (h1 : ∀ w', isc t β (sk t β p0) c → mS t β q B V w' (sk t β p0 + 1) d op → P 1 w') (h0 : ∀ w', ¬ isc t β (sk t β p0) c → mS t β q B V w' (sk t β p0) d op → P 0 w') : cf_M_takesSign (nI c) w0 P := by
  unfold cf_M_takesSign
  refine m_next hS0 (fun w1 S1 => ?_)
  rw [bv_eq S1.1.1.2.1 hc, S1.2.1, nI_1]
  refine ⟨fun n => ⟨fun _ => h0 w1 n S1, fun z => absurd rfl z⟩, fun y => ⟨fun z => absurd z one_ne', fun _ => ?_⟩⟩
  rintro _ rfl
  exact h1 _ y (mS_pos S1 y.1)
theorem m_must {t : Nat} {β : Nat → Nat} {q : Nat → Nat} {B : Wd} {V : Int64} {d : Nat} {op : Nat → Int32} {w0 : Wd} {p0 c : Nat} {P : Int32 → Wd → Prop} (hS0 : mS t β q B V w0 p0 d op) (hc : c < 256)
    (h1 : ∀ w', isc t β (sk t β p0) c → mS t β q B V w' (sk t β p0 + 1) d op → P 1 w') (h0 : ∀ f w', ¬ isc t β (sk t β p0) c → fl 1 (sk t β p0) d op = .inr f → mBad B w' f → P 0 w') : cf_M_mustSign (nI c) w0 P := by
  unfold cf_M_mustSign
  refine m_sign hS0 hc (fun w1 y S1 => ⟨fun _ => h1 w1 y S1, fun z => absurd z one_ne'⟩) (fun w1 n S1 => ⟨fun z => absurd rfl z, fun _ => ?_⟩)
  have hp := S1.1.2.2.1
  have ht := S1.1.1.1
  rw [S1.2.1]
  exact m_fails (c := 1) S1 (by omega) (by omega) (fun w2 f ef hb => ⟨fun _ => h0 f w2 n ef hb, fun z => absurd rfl z⟩)
