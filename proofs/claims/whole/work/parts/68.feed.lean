-- the tape fed
def up1 (g : Nat → Int32) (t : Nat) (b : Int32) : Nat → Int32 := fun i => if i = t then b else g i
def putB (g : Nat → Int32) (t : Nat) : List Int32 → Nat → Int32
  | [] => g
  | b :: bs => putB (up1 g t b) (t + 1) bs
theorem putB_agree {g g' : Nat → Int32} {t : Nat} (bs : List Int32) : ∀ {g g' : Nat → Int32} {t : Nat}, (∀ i, i < t → g i = g' i) → ∀ i, i < t + bs.length → putB g t bs i = putB g' t bs i := by
  induction bs with
  | nil => intro g g' t h i hi; exact h i hi
  | cons b bs ih =>
    intro g g' t h i hi
    refine ih (t := t + 1) (fun j hj => ?_) i (by rw [List.length_cons] at hi; omega)
    unfold up1
    by_cases hjt : j = t
    · rw [if_pos hjt, if_pos hjt]
    · rw [if_neg hjt, if_neg hjt]
      exact h j (by omega)
theorem byte_same (x : Int32) : ∀ k, k = 0 ∨ k = 8 ∨ k = 16 ∨ k = 24 → (iushr x (nI k)).toInt8 = (ishr x (nI k)).toInt8 := by
  intro k hk
  have hk32 : k < 32 := by omega
  apply Int8.toBitVec_inj.mp
  have e1 : (iushr x (nI k)).toBitVec = x.toBitVec >>> k := by
    unfold iushr
    show x.toBitVec >>> (((nI k).toUInt32 &&& Int32.toUInt32 31).toBitVec % 32#32) = _
    rw [BitVec.ushiftRight_eq', ish_amu k hk32]
  have e2 : (ishr x (nI k)).toBitVec = x.toBitVec.sshiftRight k := by
    unfold ishr
    show x.toBitVec.sshiftRight' ((nI k &&& 31).toBitVec.smod 32) = _
    rw [BitVec.sshiftRight_eq', ish_am k hk32]
  show BitVec.signExtend 8 (iushr x (nI k)).toBitVec = BitVec.signExtend 8 (ishr x (nI k)).toBitVec
  rw [e1, e2]
  apply BitVec.eq_of_getLsbD_eq
  intro i hi
  rw [BitVec.getLsbD_signExtend, BitVec.getLsbD_signExtend, BitVec.getLsbD_ushiftRight, BitVec.getLsbD_sshiftRight]
  have h1 : ¬ 32 ≤ i := by omega
  have h2 : k + i < 32 := by omega
  simp [h1, h2, hi, show i < 32 by omega]
def byt (x : Int32) (k : Nat) : Int32 := ((iushr x (nI k)).toInt8.toInt32).toInt8.toInt32
def byt4 (x : Int32) : List Int32 := [byt x 24, byt x 16, byt x 8, byt x 0]
theorem step8 : nI 24 + (-8 : Int32) = nI 16 ∧ nI 16 + (-8 : Int32) = nI 8 ∧ nI 8 + (-8 : Int32) = nI 0 ∧ nI 0 + (-8 : Int32) = -8 := by decide
theorem wI_row (w : Wd) (c t : Nat) (b : Int32) : (wI w c t b).1 c = up1 (w.1 c) t b := by
  funext i
  rw [wI_1]
  unfold up1
  by_cases h : i = t
  · rw [if_pos ⟨rfl, h⟩, if_pos h]
  · rw [if_neg (fun z => h z.2), if_neg h]
theorem wI_oth (w : Wd) {c k : Nat} (t : Nat) (b : Int32) (h : k ≠ c) : (wI w c t b).1 k = w.1 k := by
  funext i
  rw [wI_1, if_neg (fun z => h z.1)]
theorem sp_wb {K : Int32 → Int32 → Wd → Prop} {P : Wd → Prop} {x : Int32} {k t : Nat} {w : Wd} (hk : k < 32) (h2 : w.1 2 1 = nI t) (ht : t < 300)
    (h : ∀ w' : Wd, w'.1 3 = up1 (w.1 3) t (byt x k) → w'.1 2 1 = nI (t + 1) → fr [(2, 1)] [3] [] w w' → K x (nI k + (-8)) w') : cf_Tape_write_B3 K P x (nI k) w := by
  unfold cf_Tape_write_B3
  rw [h2]
  refine ⟨fun c => absurd c (nI_pos (by omega)), fun _ => ⟨fun c => absurd c (nI_pos (by omega)), fun _ => ⟨fun c => ?_, fun _ => ⟨vp_in_nI ht (by omega), ?_⟩⟩⟩⟩
  · have := (nI_leI (show 300 < 2 ^ 31 by decide) (by omega)).mp c
    omega
  · rw [nI_clamp (by omega)]
    rintro _ rfl
    have e : (wI w 3 t ((iushr x (nI k)).toInt8.toInt32).toInt8.toInt32).1 2 1 = nI t := by rw [wI_oth _ _ _ (by decide)]; exact h2
    rw [e, nI_1]
    rintro _ rfl _ rfl
    refine h _ ?_ ?_ ?_
    · rw [wI_oth _ _ _ (by decide), wI_row]; rfl
    · rw [wI_1, if_pos ⟨rfl, rfl⟩]
    · exact fr_wI _ (fr_wI _ (fr_refl _ _ _ _) (Or.inr (by decide))) (by decide)
theorem sp_tw {x : Int32} {t : Nat} {w : Wd} {P : Wd → Prop} (h2 : w.1 2 1 = nI t) (ht : t + 4 ≤ 300)
    (h : ∀ w' : Wd, w'.1 3 = putB (w.1 3) t (byt4 x) → w'.1 2 1 = nI (t + 4) → fr [(2, 1)] [3] [] w w' → P w') : cf_Tape_write x w P := by
  unfold cf_Tape_write
  refine ⟨5, ?_⟩
  show cf_Tape_write_B3 _ _ _ (nI 24) _
  refine sp_wb (by omega) h2 (by omega) (fun w1 a1 b1 c1 => ?_)
  rw [step8.1]
  show cf_Tape_write_B3 _ _ _ (nI 16) _
  refine sp_wb (by omega) b1 (by omega) (fun w2 a2 b2 c2 => ?_)
  rw [step8.2.1]
  show cf_Tape_write_B3 _ _ _ (nI 8) _
  refine sp_wb (by omega) b2 (by omega) (fun w3 a3 b3 c3 => ?_)
  rw [step8.2.2.1]
  show cf_Tape_write_B3 _ _ _ (nI 0) _
  refine sp_wb (by omega) b3 (by omega) (fun w4 a4 b4 c4 => ?_)
  rw [step8.2.2.2]
  show cf_Tape_write_B3 _ _ _ (-8) _
  unfold cf_Tape_write_B3
  refine ⟨fun _ => h w4 ?_ b4 (fr_trans (fr_trans (fr_trans c1 c2) c3) c4), fun c => absurd (by decide) c⟩
  rw [a4, a3, a2, a1]
  rfl
theorem mp_wb {K : Int32 → Int32 → Wd → Prop} {P : Wd → Prop} {x : Int32} {k t : Nat} {w : Wd} (hk : k = 0 ∨ k = 8 ∨ k = 16 ∨ k = 24) (h2 : w.1 30 21 = nI t) (ht : t < 300)
    (h : ∀ w' : Wd, w'.1 43 = up1 (w.1 43) t (byt x k) → w'.1 30 21 = nI (t + 1) → fr [(30, 21)] [43] [] w w' → K x (nI k + (-8)) w') : cf_M_lays_B3 K P x (nI k) w := by
  unfold cf_M_lays_B3
  rw [h2]
  refine ⟨fun c => absurd c (nI_pos (by omega)), fun _ => ⟨vp_in_nI ht (by omega), ?_⟩⟩
  rw [nI_clamp (by omega), ← byte_same x k hk]
  rintro _ rfl
  have e : (wI w 43 t ((iushr x (nI k)).toInt8.toInt32).toInt8.toInt32).1 30 21 = nI t := by rw [wI_oth _ _ _ (by decide)]; exact h2
  rw [e, nI_1]
  rintro _ rfl _ rfl
  refine h _ ?_ ?_ ?_
  · rw [wI_oth _ _ _ (by decide), wI_row]; rfl
  · rw [wI_1, if_pos ⟨rfl, rfl⟩]
  · exact fr_wI _ (fr_wI _ (fr_refl _ _ _ _) (Or.inr (by decide))) (by decide)
theorem mp_tw {x : Int32} {t : Nat} {w : Wd} {P : Wd → Prop} (h2 : w.1 30 21 = nI t) (ht : t + 4 ≤ 300)
    (h : ∀ w' : Wd, w'.1 43 = putB (w.1 43) t (byt4 x) → w'.1 30 21 = nI (t + 4) → fr [(30, 21)] [43] [] w w' → P w') : cf_M_lays x w P := by
  unfold cf_M_lays
  refine ⟨5, ?_⟩
  show cf_M_lays_B3 _ _ _ (nI 24) _
  refine mp_wb (by omega) h2 (by omega) (fun w1 a1 b1 c1 => ?_)
  rw [step8.1]
  show cf_M_lays_B3 _ _ _ (nI 16) _
  refine mp_wb (by omega) b1 (by omega) (fun w2 a2 b2 c2 => ?_)
  rw [step8.2.1]
  show cf_M_lays_B3 _ _ _ (nI 8) _
  refine mp_wb (by omega) b2 (by omega) (fun w3 a3 b3 c3 => ?_)
  rw [step8.2.2.1]
  show cf_M_lays_B3 _ _ _ (nI 0) _
  refine mp_wb (by omega) b3 (by omega) (fun w4 a4 b4 c4 => ?_)
  rw [step8.2.2.2]
  show cf_M_lays_B3 _ _ _ (-8) _
  unfold cf_M_lays_B3
  refine ⟨fun _ => h w4 ?_ b4 (fr_trans (fr_trans (fr_trans c1 c2) c3) c4), fun c => absurd (by decide) c⟩
  rw [a4, a3, a2, a1]
  rfl
theorem op_feed {w : Wd} (hI : Inv w) (a b c d e : Int32) : same1 (cf_T_feed a b c d e w) (cf_M_feed a b c d e) := by
  intro G h
  obtain ⟨now, u, past, kb, shelf, hc⟩ := hI
  have hI : Inv w := ⟨now, u, past, kb, shelf, hc⟩
  obtain ⟨hic, him, hn, hp, hs, ⟨t, ht, t1, t2, t3⟩, hf, hca⟩ := hc
  unfold cf_T_feed cf_Reader_tape cf_Tape_hasRoom
  have e20 : nI t + (20 : Int32) = nI (t + 20) := nI_add t 20
  rw [t1, e20]
  refine ⟨fun c1 => ⟨fun z => absurd rfl z, fun _ => both_stay hI h (fun F hF => ?_)⟩, fun c1 => ⟨fun _ => ?_, fun z => absurd z one_ne'⟩⟩
  · have c1 := (nI_ltI (a := 300) (b := t + 20) (by decide) (by omega)).mp c1
    unfold cf_M_feed
    rw [t2]
    refine ⟨fun z => ?_, fun _ => hF⟩
    have := (nI_leI (a := t) (b := 280) (by omega) (by decide)).mp z
    omega
  · have c1 : ¬ 300 < t + 20 := fun z => c1 ((nI_ltI (a := 300) (b := t + 20) (by decide) (by omega)).mpr z)
    refine sp_tw t1 (by omega) (fun w1 p1 q1 r1 => sp_tw q1 (by omega) (fun w2 p2 q2 r2 => sp_tw q2 (by omega) (fun w3 p3 q3 r3 => sp_tw q3 (by omega) (fun w4 p4 q4 r4 => sp_tw q4 (by omega) (fun w5 p5 q5 r5 => ?_)))))
    have R := fr_trans (fr_trans (fr_trans (fr_trans r1 r2) r3) r4) r5
    unfold cf_Tape_size
    rw [q5]
    refine h _ w5 (fun F hF => ?_)
    have m2 : w5.1 30 21 = nI t := by rw [R.1 30 21 (by decide) (by decide)]; exact t2
    unfold cf_M_feed
    rw [m2]
    refine ⟨fun _ => ?_, fun z => absurd ((nI_leI (a := t) (b := 280) (by omega) (by decide)).mpr (by omega)) z⟩
    refine mp_tw m2 (by omega) (fun v1 x1 y1 z1 => mp_tw y1 (by omega) (fun v2 x2 y2 z2 => mp_tw y2 (by omega) (fun v3 x3 y3 z3 => mp_tw y3 (by omega) (fun v4 x4 y4 z4 => mp_tw y4 (by omega) (fun v5 x5 y5 z5 => ?_)))))
    have Z := fr_trans (fr_trans (fr_trans (fr_trans z1 z2) z3) z4) z5
    rw [y5]
    refine hF v5 ?_
    have A : ∀ c i, (c, i) ∉ [(2, 1)] → c ∉ [3] → (c, i) ∉ [(30, 21)] → c ∉ [43] → v5.1 c i = w.1 c i := fun c i g1 g2 g3 g4 => (Z.1 c i g3 g4).trans (R.1 c i g1 g2)
    have B : ∀ c, v5.2 c = w.2 c := fun c => (Z.2 c (by simp)).trans (R.2 c (by simp))
    have FR : fr [(2, 1), (30, 21)] [3, 43] [] w v5 := by
      refine ⟨fun c i g1 g2 => A c i (fun z => g1 ?_) (fun z => g2 ?_) (fun z => g1 ?_) (fun z => g2 ?_), fun c _ => B c⟩
      · rw [List.mem_singleton] at z; rw [z]; decide
      · rw [List.mem_singleton] at z; rw [z]; decide
      · rw [List.mem_singleton] at z; rw [z]; decide
      · rw [List.mem_singleton] at z; rw [z]; decide
    refine ⟨now, u, past, kb, shelf, ic_fr hic FR (by decide) (by decide) (by decide), im_fr him FR (by decide) (by decide) (by decide), hn, hp, hs, ⟨t + 4 + 4 + 4 + 4 + 4, by omega, ?_, y5, ?_⟩, ?_, ?_⟩
    · rw [Z.1 2 1 (by decide) (by decide)]; exact q5
    · intro i hi
      have e3 : v5.1 3 i = w5.1 3 i := Z.1 3 i (by simp) (by decide)
      have e43 : w5.1 43 = w.1 43 := by
        funext j
        exact R.1 43 j (by simp) (by decide)
      rw [e3, p5, p4, p3, p2, p1, x5, x4, x3, x2, x1, e43]
      refine putB_agree _ (g := w.1 3) (g' := w.1 3) (t := 0) (putB_agree _ (g := w.1 3) (g' := w.1 3) (t := 0) (putB_agree _ (g := w.1 3) (g' := w.1 3) (t := 0) (putB_agree _ (g := w.1 3) (g' := w.1 3) (t := 0) (putB_agree _ (g := w.1 3) (g' := w.1 3) (t := 0) t3)))) i hi
    · obtain ⟨f1, f2, f3⟩ := hf
      refine ⟨?_, ?_, ?_⟩
      · rw [FR.1 1 5 (by decide) (by decide), FR.1 30 23 (by decide) (by decide)]; exact f1
      · rw [FR.1 1 6 (by decide) (by decide), FR.1 30 24 (by decide) (by decide)]; exact f2
      · rw [FR.1 1 7 (by decide) (by decide), FR.1 30 25 (by decide) (by decide)]; exact f3
    · unfold cacheOk
      rw [B 30, B 35, FR.1 30 6 (by decide) (by decide)]
      exact hca
