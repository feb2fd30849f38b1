-- the class's reader
def bv (t : Nat) (β : Nat → Nat) (i : Nat) : Int32 := if i < t then nI (β i) else -1
def cI (c i : Nat) : Bool := (c == 1 && (i == 3 || i == 4 || i == 5 || i == 6 || i == 7)) || c == 5
def cL (c : Nat) : Bool := c == 4
def ckc (B w : Wd) : Prop := (∀ c i, cI c i = false → w.1 c i = B.1 c i) ∧ (∀ c i, cL c = false → w.2 c i = B.2 c i)
theorem ckc_wI {B w : Wd} {c j : Nat} (x : Int32) (h : ckc B w) (hn : cI c j = true) : ckc B (wI w c j x) := by
  refine ⟨fun k i hr => ?_, fun k i hr => ?_⟩
  · rw [wI_1, if_neg]
    · exact h.1 k i hr
    · rintro ⟨rfl, rfl⟩
      rw [hn] at hr
      exact absurd hr (by decide)
  · rw [wI_2]; exact h.2 k i hr
theorem ckc_wL {B w : Wd} {c j : Nat} (x : Int64) (h : ckc B w) (hn : cL c = true) : ckc B (wL w c j x) := by
  refine ⟨fun k i hr => ?_, fun k i hr => ?_⟩
  · rw [wL_1]; exact h.1 k i hr
  · rw [wL_2, if_neg]
    · exact h.2 k i hr
    · rintro ⟨rfl, -⟩
      rw [hn] at hr
      exact absurd hr (by decide)
def cT (t : Nat) (β : Nat → Nat) (w : Wd) : Prop := t ≤ 300 ∧ (∀ i, β i < 256) ∧ w.1 2 1 = nI t ∧ ∀ i, i < t → w.1 3 i &&& (255 : Int32) = nI (β i)
def cS (t : Nat) (β : Nat → Nat) (q : Nat → Nat) (B w : Wd) (p d : Nat) (op : Nat → Int32) : Prop :=
  (cT t β w ∧ ckc B w ∧ p ≤ t ∧ d ≤ 6 ∧ ∀ k, k < 10 → q k < 2 ^ 32) ∧ w.1 1 3 = nI p ∧ w.1 1 4 = nI d ∧ (∀ i, i < d → w.1 5 i = op i) ∧ (∀ i, i < 10 → w.2 4 i = lN (q i)) ∧ w.1 1 5 = -1 ∧ w.1 1 6 = 0 ∧ w.1 1 7 = -1
def cBad (B w : Wd) (f : Int32 × Int32 × Int32) : Prop := ckc B w ∧ w.1 1 5 = f.1 ∧ w.1 1 6 = f.2.1 ∧ w.1 1 7 = f.2.2 ∧ f.1 ≠ -1 ∧ ∀ i, i < 10 → ∃ v, v < 2 ^ 32 ∧ w.2 4 i = lN v
theorem cS_pos {t : Nat} {β : Nat → Nat} {q : Nat → Nat} {B w : Wd} {p d : Nat} {op : Nat → Int32} (h : cS t β q B w p d op) {p' : Nat} (hp : p' ≤ t) : cS t β q B (wI w 1 3 (nI p')) p' d op := by
  obtain ⟨⟨⟨h1, h2, h3, h4⟩, h5, h6, h7⟩, h8, h9, h10, h11, h12, h13, h14⟩ := h
  refine ⟨⟨⟨h1, h2, ?_, fun i hi => ?_⟩, ckc_wI _ h5 rfl, hp, h7⟩, ?_, ?_, fun i hi => ?_, fun i hi => ?_, ?_, ?_, ?_⟩
  · rw [wI_1, if_neg (by decide)]; exact h3
  · rw [wI_1, if_neg (fun z => absurd z.1 (by decide))]; exact h4 i hi
  · rw [wI_1, if_pos ⟨rfl, rfl⟩]
  · rw [wI_1, if_neg (by decide)]; exact h9
  · rw [wI_1, if_neg (fun z => absurd z.1 (by decide))]; exact h10 i hi
  · rw [wI_2]; exact h11 i hi
  · rw [wI_1, if_neg (by decide)]; exact h12
  · rw [wI_1, if_neg (by decide)]; exact h13
  · rw [wI_1, if_neg (by decide)]; exact h14
theorem c_at {t : Nat} {β : Nat → Nat} {w : Wd} {i : Nat} {P : Int32 → Prop} (h : cT t β w) (hi : i < 2 ^ 31) (hP : P (bv t β i)) : cf_Tape_at (nI i) w P := by
  obtain ⟨h1, h2, h3, h4⟩ := h
  unfold cf_Tape_at
  unfold bv at hP
  rw [h3, nI_leI (by omega) hi, show (300 : Int32) = nI 300 from rfl, nI_leI (by omega) hi]
  refine ⟨fun z => absurd z (nI_pos hi), fun _ => ⟨fun z => ?_, fun z => ⟨fun y => absurd y (by omega), fun _ => ⟨vp_in_nI (by omega) (by omega), ?_⟩⟩⟩⟩
  · rw [if_neg (by omega)] at hP; exact hP
  · rw [nI_clamp hi, h4 i (by omega)]
    rw [if_pos (by omega)] at hP
    exact hP
theorem bv_toInt {t : Nat} {β : Nat → Nat} (hβ : ∀ i, β i < 256) (i : Nat) : (bv t β i).toInt = if i < t then (β i : Int) else -1 := by
  unfold bv
  split
  · exact nI_toInt (by have := hβ i; omega)
  · decide
theorem bv_eq {t : Nat} {β : Nat → Nat} (hβ : ∀ i, β i < 256) {i c : Nat} (hc : c < 256) : bv t β i = nI c ↔ isc t β i c := by
  have h1 := bv_toInt (t := t) hβ i
  have h2 : (nI c).toInt = (c : Int) := nI_toInt (by omega)
  rw [← Int32.toInt_inj, h1, h2]
  constructor
  · intro h
    split at h
    · rename_i z
      exact ⟨z, by omega⟩
    · omega
  · intro h
    rw [if_pos h.1, h.2]
theorem bv_end {t : Nat} {β : Nat → Nat} (hβ : ∀ i, β i < 256) {i : Nat} : bv t β i = -1 ↔ t ≤ i := by
  have h1 := bv_toInt (t := t) hβ i
  rw [← Int32.toInt_inj, h1, toInt_c.2.2.2.2.2.1]
  constructor
  · intro h
    split at h
    · omega
    · omega
  · intro h
    rw [if_neg (by omega)]
theorem c_isd {t : Nat} {β : Nat → Nat} (hβ : ∀ i, β i < 256) {i : Nat} {P : Int32 → Prop} (h1 : isd t β i → P 1) (h0 : ¬ isd t β i → P 0) : cf_Reader_isDigit (bv t β i) P := by
  unfold cf_Reader_isDigit
  have h := bv_toInt (t := t) hβ i
  rw [lt_k 48 (n := 48) (by decide), k_lt 57 (n := 57) (by decide), h]
  refine ⟨fun z => h0 (fun y => ?_), fun z => ⟨fun x => h0 (fun y => ?_), fun x => h1 ?_⟩⟩
  · rw [if_pos y.1] at z; have := y.2.1; omega
  · rw [if_pos y.1] at x; have := y.2.2; omega
  · split at z
    · rename_i c
      rw [if_pos c] at x
      exact ⟨c, by omega, by omega⟩
    · omega
theorem c_isl {t : Nat} {β : Nat → Nat} (hβ : ∀ i, β i < 256) {i : Nat} {P : Int32 → Prop} (h1 : isl t β i → P 1) (h0 : ¬ isl t β i → P 0) : cf_Reader_isSmallLetter (bv t β i) P := by
  unfold cf_Reader_isSmallLetter
  have h := bv_toInt (t := t) hβ i
  rw [lt_k 97 (n := 97) (by decide), k_lt 122 (n := 122) (by decide), h]
  refine ⟨fun z => h0 (fun y => ?_), fun z => ⟨fun x => h0 (fun y => ?_), fun x => h1 ?_⟩⟩
  · rw [if_pos y.1] at z; have := y.2.1; omega
  · rw [if_pos y.1] at x; have := y.2.2; omega
  · split at z
    · rename_i c
      rw [if_pos c] at x
      exact ⟨c, by omega, by omega⟩
    · omega
theorem c_peek {t : Nat} {β : Nat → Nat} {q : Nat → Nat} {B : Wd} {d : Nat} {op : Nat → Int32} {w0 : Wd} {p0 : Nat} {P : Int32 → Wd → Prop} (hS : cS t β q B w0 p0 d op) (h : ∀ w', cS t β q B w' (sk t β p0) d op → P (bv t β (sk t β p0)) w') : cf_Reader_peek w0 P := by
  have key : ∀ m p w, t ≤ p + m → cS t β q B w p d op → sk t β p = sk t β p0 → ∀ n, m < n → cf_Reader_peek_L5 P n (nI p) w := by
    intro m
    induction m with
    | zero =>
      intro p w hm hS he n hn
      obtain ⟨n, rfl⟩ : ∃ m, n = m + 1 := ⟨n - 1, by omega⟩
      show cf_Reader_peek_B5 _ _ _ _
      unfold cf_Reader_peek_B5 cf_Tape_size
      have h1 := hS.1.1.1
      have h2 := hS.1.2.2.1
      have e : sk t β p = p := sk_no (fun z => by have := z.1; omega)
      show (w.1 2 1 ≤ nI p → _) ∧ (¬ w.1 2 1 ≤ nI p → _)
      rw [hS.1.1.2.2.1, nI_leI (by omega) (by omega), hS.2.1]
      refine ⟨fun _ => c_at hS.1.1 (by omega) ?_, fun z => absurd (by omega) z⟩
      rw [← he, e] at h
      exact h w hS
    | succ m ih =>
      intro p w hm hS he n hn
      obtain ⟨n, rfl⟩ : ∃ m, n = m + 1 := ⟨n - 1, by omega⟩
      show cf_Reader_peek_B5 _ _ _ _
      unfold cf_Reader_peek_B5 cf_Tape_size
      have h1 := hS.1.1.1
      have h2 := hS.1.2.2.1
      have h3 := hS.1.1.2.1
      show (w.1 2 1 ≤ nI p → _) ∧ (¬ w.1 2 1 ≤ nI p → _)
      rw [hS.1.1.2.2.1, nI_leI (by omega) (by omega), hS.2.1]
      refine ⟨fun z => c_at hS.1.1 (by omega) ?_, fun z => c_at hS.1.1 (by omega) ?_⟩
      · have e : sk t β p = p := sk_no (fun y => by have := y.1; omega)
        rw [← he, e] at h
        exact h w hS
      · rw [show (32 : Int32) = nI 32 from rfl, bv_eq h3 (by omega)]
        refine ⟨fun y => c_at hS.1.1 (by omega) ?_, fun y => ?_⟩
        · have e : sk t β p = p := sk_no y
          rw [← he, e] at h
          exact h w hS
        · rintro _ rfl _ rfl
          rw [nI_1]
          exact ih (p + 1) _ (by omega) (cS_pos hS (by omega)) (by rw [← he, sk_yes y]) n (by omega)
  unfold cf_Reader_peek
  rintro _ rfl
  rw [hS.2.1]
  exact ⟨_, key t p0 w0 (by omega) hS rfl (t + 1) (by omega)⟩
theorem c_fail {t : Nat} {β : Nat → Nat} {q : Nat → Nat} {B : Wd} {d : Nat} {op : Nat → Int32} {w : Wd} {p c s : Nat} {P : Int64 → Wd → Prop} (hS : cS t β q B w p d op) (hs : s ≤ 300) (hc : c < 8)
    (h : ∀ w' f, fl c s d op = .inr f → cBad B w' f → P 0 w') : cf_Reader_fail (nI c) (nI s) w P := by
  obtain ⟨⟨⟨h1, h2, h3, h4⟩, h5, h6, h7⟩, h8, h9, h10, h11, h12, h13, h14⟩ := hS
  obtain ⟨h7, hq⟩ := h7
  have ne : nI (8 * s + c) ≠ (-1 : Int32) := fun z => neg_not (show 8 * s + c < 2 ^ 31 by omega) z.symm
  unfold cf_Reader_fail
  rintro _ rfl _ rfl
  have e1 : (8 : Int32) * nI s + nI c = nI (8 * s + c) := by rw [show (8 : Int32) = nI 8 from rfl, nI_mul, nI_add]
  have a1 : (wI w 1 5 ((8 : Int32) * nI s + nI c)).1 1 4 = nI d := by rw [wI_1, if_neg (by decide)]; exact h9
  rw [a1]
  have a2 : (wI (wI w 1 5 ((8 : Int32) * nI s + nI c)) 1 6 (nI d)).1 1 4 = nI d := by rw [wI_1, if_neg (by decide)]; exact a1
  rw [a2, e1, show nI d ≤ (0 : Int32) ↔ d ≤ 0 from nI_leI (b := 0) (by omega) (by omega), show (6 : Int32) = nI 6 from rfl, nI_ltI (by omega) (by omega)]
  have fin : ∀ x, x = (if d = 0 then -1 else op (d - 1)) → P 0 (wI (wI (wI w 1 5 (nI (8 * s + c))) 1 6 (nI d)) 1 7 x) := by
    intro x hx
    refine h _ _ rfl ⟨ckc_wI _ (ckc_wI _ (ckc_wI _ h5 rfl) rfl) rfl, ?_, ?_, ?_, ne, fun i hi => ⟨q i, hq i hi, by rw [wI_2, wI_2, wI_2]; exact h11 i hi⟩⟩
    · rw [wI_1, if_neg (by decide), wI_1, if_neg (by decide), wI_1, if_pos ⟨rfl, rfl⟩]
    · rw [wI_1, if_neg (by decide), wI_1, if_pos ⟨rfl, rfl⟩]
    · rw [wI_1, if_pos ⟨rfl, rfl⟩]; exact hx
  refine ⟨fun z => ?_, fun z => ⟨fun y => absurd y (by omega), fun _ => ?_⟩⟩
  · rintro _ rfl
    exact fin _ (by rw [if_pos (by omega)])
  · rw [show nI d - (1 : Int32) = nI (d - 1) from pk_sub (b := 1) (by omega)]
    refine ⟨vp_in_nI (by omega) (by omega), ?_⟩
    rintro _ rfl
    refine fin _ ?_
    rw [if_neg (by omega), nI_clamp (by omega), wI_1, if_neg (fun z => absurd z.1 (by decide)), wI_1, if_neg (fun z => absurd z.1 (by decide))]
    exact h10 (d - 1) (by omega)
theorem imin_nI2 {a b : Nat} (ha : a < 2 ^ 31) (hb : b < 2 ^ 31) : imin (nI a) (nI b) = nI (min a b) := by
  unfold imin
  split
  · rename_i c
    rw [nI_ltI hb ha] at c
    rw [Nat.min_eq_right (by omega)]
  · rename_i c
    rw [nI_ltI hb ha] at c
    rw [Nat.min_eq_left (by omega)]
theorem c_num {t : Nat} {β : Nat → Nat} {q : Nat → Nat} {B : Wd} {d : Nat} {op : Nat → Int32} {w0 : Wd} {p0 lo hi : Nat} {P : Int32 → Wd → Prop} (hS0 : cS t β q B w0 p0 d op) (hlo : lo ≤ 100) (hhi : hi ≤ 100)
    (hok : ∀ v e w', pNum t β lo hi p0 d op = .inl (v, e) → cS t β q B w' e d op → P (nI v) w') (hbad : ∀ f w', pNum t β lo hi p0 d op = .inr f → cBad B w' f → P (nI lo) w') : cf_Reader_readNumber (nI lo) (nI hi) w0 P := by
  unfold cf_Reader_readNumber
  refine c_peek hS0 (fun w1 S1 => c_isd S1.1.1.2.1 (fun hd => ⟨fun _ => ?_, fun z => absurd z one_ne'⟩) (fun hd => ⟨fun z => absurd rfl z, fun _ => ?_⟩))
  · have hsl := hd.1
    have ht := S1.1.1.1
    rintro _ rfl _ rfl
    rw [S1.2.1]
    have key : ∀ m p a w, t ≤ p + m → cS t β q B w p d op → dgF t β (t - p) p a = dgF t β (t - sk t β p0) (sk t β p0) 0 → ∀ n, m < n → cf_Reader_readNumber_L36 P n (nI lo) (nI hi) (nI (sk t β p0)) (nI (min a 1000)) (nI p) w := by
      intro m
      -- the end of the digits
      have stop : ∀ p a w, cS t β q B w p d op → (a, p) = dgF t β (t - sk t β p0) (sk t β p0) 0 → cf_Reader_readNumber_B103 P (nI lo) (nI hi) (nI (sk t β p0)) (nI (min a 1000)) w := by
        intro p a w hS he
        unfold cf_Reader_readNumber_B103
        rw [nI_ltI (by omega) (by omega), nI_leI (by omega) (by omega)]
        have bad : ¬ (lo ≤ a ∧ a ≤ hi) → cf_Reader_fail (2 : Int32) (nI (sk t β p0)) w (fun _ w8 => P (nI lo) w8) := by
          intro hn
          refine c_fail (c := 2) hS (by omega) (by omega) (fun w2 f ef hb => hbad f w2 ?_ hb)
          unfold pNum
          rw [if_pos hd, ← he, if_neg hn]
          exact ef
        refine ⟨fun z => bad (by omega), fun z => ⟨fun y => ?_, fun y => bad (by omega)⟩⟩
        have : min a 1000 = a := by omega
        rw [this]
        refine hok a p w ?_ hS
        unfold pNum
        rw [if_pos hd, ← he, if_pos (by omega)]
      induction m with
      | zero =>
        intro p a w hm hS he n hn
        obtain ⟨n, rfl⟩ : ∃ m, n = m + 1 := ⟨n - 1, by omega⟩
        show cf_Reader_readNumber_B36 _ _ _ _ _ _ _ _
        unfold cf_Reader_readNumber_B36 cf_Tape_size
        have h2 := hS.1.2.2.1
        show (w.1 2 1 ≤ nI p → _) ∧ (¬ w.1 2 1 ≤ nI p → _)
        rw [hS.1.1.2.2.1, nI_leI (by omega) (by omega)]
        rw [show t - p = 0 by omega] at he
        exact ⟨fun _ => stop p a w hS he, fun z => absurd (by omega) z⟩
      | succ m ih =>
        intro p a w hm hS he n hn
        obtain ⟨n, rfl⟩ : ∃ m, n = m + 1 := ⟨n - 1, by omega⟩
        show cf_Reader_readNumber_B36 _ _ _ _ _ _ _ _
        unfold cf_Reader_readNumber_B36 cf_Tape_size
        have h2 := hS.1.2.2.1
        have h3 := hS.1.1.2.1
        show (w.1 2 1 ≤ nI p → _) ∧ (¬ w.1 2 1 ≤ nI p → _)
        rw [hS.1.1.2.2.1, nI_leI (by omega) (by omega)]
        refine ⟨fun z => ?_, fun z => c_at hS.1.1 (by omega) (c_isd h3 (fun hy => ⟨fun y => absurd y one_ne', fun _ => c_at hS.1.1 (by omega) ?_⟩) (fun hy => ⟨fun _ => ?_, fun y => absurd rfl y⟩))⟩
        · rw [show t - p = 0 by omega] at he
          exact stop p a w hS he
        · have hb : bv t β p = nI (β p) := if_pos hy.1
          have hb2 := h3 p
          rw [hb, show (10 : Int32) = nI 10 from rfl, nI_mul, nI_add, show (48 : Int32) = nI 48 from rfl, pk_sub (by have := hy.2.1; omega), show (1000 : Int32) = nI 1000 from rfl, imin_nI2 (by omega) (by omega)]
          rintro _ rfl _ rfl _ rfl
          rw [nI_1]
          have e : min (10 * min a 1000 + β p - 48) 1000 = min (10 * a + β p - 48) 1000 := by have := hy.2.1; omega
          rw [e]
          refine ih (p + 1) _ _ (by omega) (cS_pos hS (by have := hy.1; omega)) ?_ n (by omega)
          rw [← he, show t - p = (t - (p + 1)) + 1 by have := hy.1; omega]
          show _ = (if isd t β p then dgF t β (t - (p + 1)) (p + 1) (10 * a + β p - 48) else (a, p))
          rw [if_pos hy]
        · refine stop p a w hS ?_
          rw [← he]
          cases hc : t - p with
          | zero => rfl
          | succ k =>
            show _ = (if isd t β p then dgF t β k (p + 1) (10 * a + β p - 48) else (a, p))
            rw [if_neg hy]
    have := key t (sk t β p0) 0 w1 (by omega) S1 rfl (t + 1) (by omega)
    exact ⟨_, this⟩
  · rw [S1.2.1]
    refine c_fail (c := 1) S1 (by have := S1.1.1.1; have := S1.1.2.2.1; omega) (by omega) (fun w2 f ef hb => hbad f w2 ?_ hb)
    unfold pNum
    rw [if_neg hd]
    exact ef
