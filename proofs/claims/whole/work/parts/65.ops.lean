-- undone, kept, brought back; the register; the tape's end
theorem prev_slot : ∀ s, s < 10 → irem ((nI s + 10) - 1) 10 = nI ((s + 9) % 10) := by decide +kernel
theorem mp_undoL {w : Wd} {v : Nat} {P : Int32 → Wd → Prop} (hv : v < 10) (h3 : w.1 30 2 = nI v)
    (h : ∀ w' : Wd, (∀ i, i < 14 → w'.2 31 i = w.2 32 (v * 14 + i)) → w'.1 = w.1 → (∀ c, c ≠ 31 → w'.2 c = w.2 c) → P (nI v) w') :
    ∀ n, 15 ≤ n → cf_M_undo_L21 P n 0 w := by
  have key : ∀ m i (wc : Wd), i + m = 14 → wc.1 = w.1 → (∀ c, c ≠ 31 → wc.2 c = w.2 c) → (∀ k, k < i → wc.2 31 k = w.2 32 (v * 14 + k)) → ∀ n, m < n → cf_M_undo_L21 P n (nI i) wc := by
    intro m
    induction m with
    | zero =>
      intro i wc hi e1 e2 e3 n hn
      obtain ⟨n, rfl⟩ : ∃ m, n = m + 1 := ⟨n - 1, by omega⟩
      show cf_M_undo_B21 _ _ _ _
      unfold cf_M_undo_B21
      have hi : i = 14 := by omega
      subst hi
      refine ⟨fun _ => ?_, fun c => absurd ((nI_leI (show 14 < 2 ^ 31 by decide) (by decide)).mpr (Nat.le_refl _)) c⟩
      rw [e1, h3]
      exact h _ e3 e1 e2
    | succ m ih =>
      intro i wc hi e1 e2 e3 n hn
      obtain ⟨n, rfl⟩ : ∃ m, n = m + 1 := ⟨n - 1, by omega⟩
      show cf_M_undo_B21 _ _ _ _
      unfold cf_M_undo_B21
      refine ⟨fun c => ?_, fun _ => ?_⟩
      · have := (nI_leI (show 14 < 2 ^ 31 by decide) (show i < 2 ^ 31 by omega)).mp c
        omega
      · have e4 : (14 : Int32) * nI v = nI (14 * v) := nI_mul 14 v
        rw [e1, h3, e4, nI_add, nI_clamp (by omega), nI_clamp (by omega), nI_1]
        refine ⟨vp_in_nI (by omega) (by omega), vp_in_nI (by omega) (by omega), ?_⟩
        rintro _ rfl _ rfl
        refine ih (i + 1) _ (by omega) ?_ ?_ ?_ n (by omega)
        · rw [wL_1]; exact e1
        · intro c hc
          rw [← e2 c hc]
          funext j
          rw [wL_2, if_neg (fun z => hc z.1)]
        · intro k hk
          rw [wL_2]
          by_cases hki : k = i
          · subst hki
            rw [if_pos ⟨rfl, rfl⟩, e2 32 (by decide), Nat.mul_comm 14]
          · rw [if_neg (fun z => hki z.2)]
            exact e3 k (by omega)
  intro n hn
  exact key 14 0 w (by omega) rfl (fun _ _ => rfl) (fun k hk => absurd hk (by omega)) n (by omega)
theorem op_undo {w : Wd} (hI : Inv w) : same1 (cf_T_undo w) cf_M_undo := by
  intro G h
  obtain ⟨now, u, past, kb, shelf, hc⟩ := hI
  have hI : Inv w := ⟨now, u, past, kb, shelf, hc⟩
  obtain ⟨hic, him, hn, hp, hs, hr⟩ := hc
  obtain ⟨h1, h2, h3, ⟨s, hs10, h4, h5⟩, h6, h7⟩ := hic
  obtain ⟨m1, m2, m3, m4, m5, m6⟩ := him
  unfold cf_T_undo cf_Store_goBack
  rw [h3]
  refine ⟨fun c => ?_, fun c => ⟨fun _ => both_stay hI h (fun F hF => ?_), fun z => absurd rfl z⟩⟩
  · have hu : 0 < u := (nI_ltI (a := 0) (by decide) (by omega)).mp c
    rw [h4, prev_slot s hs10]
    rintro _ rfl _ rfl
    have e3 : (wI w 6 4 (nI ((s + 9) % 10))).1 6 3 = nI u := by rw [wI_1, if_neg (by decide)]; exact h3
    have eu : nI u - (1 : Int32) = nI (u - 1) := by
      obtain ⟨v, rfl⟩ : ∃ v, u = v + 1 := ⟨u - 1, by omega⟩
      exact nI_pred v
    rw [e3, eu]
    have e4 : (wI (wI w 6 4 (nI ((s + 9) % 10))) 6 3 (nI (u - 1))).1 6 4 = nI ((s + 9) % 10) := by rw [wI_1, if_neg (by decide), wI_1, if_pos ⟨rfl, rfl⟩]
    rw [e4]
    refine sp_copyRow (x := (s + 9) % 10) (y := 0) (by omega) (by omega) (by omega) (by omega) ⟨fun z => absurd z one_ne', fun _ => ?_⟩
    unfold cf_Store_undoable
    rw [wR_1, wI_1, if_pos ⟨rfl, rfl⟩]
    generalize hw1 : wR _ 7 _ = w1
    have fr1 : fr [(6, 3), (6, 4)] [] [7] w w1 := by
      rw [← hw1]
      exact fr_wR _ (fr_wI _ (fr_wI _ (fr_refl _ _ _ _) (by decide)) (by decide)) (by decide)
    have ic1 : ic w1 (past 0) (u - 1) (fun j => past (j + 1)) kb shelf := by
      rw [← hw1]
      refine ⟨?_, by omega, ?_, ⟨(s + 9) % 10, by omega, ?_, ?_⟩, ?_, ?_⟩
      · intro i hi
        rw [wR_2, if_pos rfl]
        unfold va_cpy
        rw [if_pos (by omega), wI_2, wI_2]
        have e5 : (s + 9) % 10 * 13 + (i - 0 * 13) = ((s + 9 - 0) % 10) * 13 + i := by omega
        rw [e5]
        exact h5 0 hu i hi
      · rw [wR_1, wI_1, if_pos ⟨rfl, rfl⟩]
      · rw [wR_1, wI_1, if_neg (by decide), wI_1, if_pos ⟨rfl, rfl⟩]
      · intro j hj i hi
        rw [wR_2, if_neg (by decide), wI_2, wI_2]
        have e5 : ((s + 9) % 10 + 9 - j) % 10 = (s + 9 - (j + 1)) % 10 := by omega
        rw [e5]
        exact h5 (j + 1) (by omega) i hi
      · rw [wR_1, wI_1, if_neg (by decide), wI_1, if_neg (by decide)]; exact h6
      · intro k hk hkb i hi
        rw [wR_2, if_neg (by decide), wI_2, wI_2]
        exact h7 k hk hkb i hi
    have im1 := im_fr ⟨m1, m2, m3, m4, m5, m6⟩ fr1 (by decide) (by decide) (by decide)
    refine h _ w1 (fun F hF => ?_)
    obtain ⟨n1, n2, n3, n4, n5, n6⟩ := im1
    unfold cf_M_undo
    rw [n3]
    refine ⟨fun _ => ?_, fun z => absurd ((nI_eq0 (by omega)).mp z) (by omega)⟩
    rw [eu]
    rintro _ rfl
    refine ⟨15, mp_undoL (v := u - 1) (by omega) (by rw [wI_1, if_pos ⟨rfl, rfl⟩]) (fun w2 g1 g2 g3 => hF w2 ?_) 15 (by omega)⟩
    have fr2 : fr [(30, 2)] [] [31] w1 w2 := by
      refine ⟨fun c i hci _ => ?_, fun c hc => ?_⟩
      · rw [g2, wI_1, if_neg (fun z => hci (by rw [z.1, z.2]; decide))]
      · rw [g3 c (fun z => hc (by rw [z]; decide)), wI_2]
    refine ⟨past 0, u - 1, fun j => past (j + 1), kb, shelf, ic_fr ic1 fr2 (by decide) (by decide) (by decide), ⟨?_, by omega, ?_, ?_, ?_, ?_⟩, hp 0, fun j => hp (j + 1), hs, rest_fr (rest_fr hr fr1 (by simp) rfl (by simp)) fr2 (by simp) rfl (by simp)⟩
    · intro i hi
      rw [g1 i hi, wI_2, ← n4 0 hu i hi, Nat.sub_zero]
    · rw [g2, wI_1, if_pos ⟨rfl, rfl⟩]
    · intro j hj i hi
      rw [g3 32 (by decide), wI_2]
      have e5 : u - 1 - 1 - j = u - 1 - (j + 1) := by omega
      rw [e5]
      exact n4 (j + 1) (by omega) i hi
    · intro k hk
      rw [g2, wI_1, if_neg (fun z => absurd z.1 (by decide))]
      exact n5 k hk
    · intro k hk hkb i hi
      rw [g3 33 (by decide), wI_2]
      exact n6 k hk hkb i hi
  · have hu : u = 0 := by
      have : ¬ 0 < u := fun z => c ((nI_ltI (a := 0) (by decide) (by omega)).mpr z)
      omega
    unfold cf_M_undo
    rw [m3, hu]
    exact ⟨fun z => absurd rfl z, fun _ => hF⟩
theorem mp_inI {a : Int32} {lo hi : Int} {l g : Int64} {P : Int32 → Prop} (hl : l.toInt = lo) (hg : g.toInt = hi) (h1 : lo ≤ a.toInt ∧ a.toInt ≤ hi → P 1) (h0 : ¬ (lo ≤ a.toInt ∧ a.toInt ≤ hi) → P 0) : cf_M_in a.toInt64 l g P := by
  unfold cf_M_in
  rw [Int64.lt_iff_toInt_lt, Int64.lt_iff_toInt_lt, Int32.toInt_toInt64, hl, hg]
  exact ⟨fun _ => h0 (by omega), fun _ => ⟨fun _ => h0 (by omega), fun _ => h1 (by omega)⟩⟩
theorem op_end {w : Wd} (hI : Inv w) (a : Int32) : same1 (cf_T_end a w) (cf_M_end a) := by
  intro G h
  obtain ⟨now, u, past, kb, shelf, hc⟩ := hI
  have hI : Inv w := ⟨now, u, past, kb, shelf, hc⟩
  obtain ⟨hic, him, hn, hp, hs, ⟨t, ht, t1, t2, t3⟩, hf, hca⟩ := hc
  unfold cf_T_end cf_Reader_tape cf_Tape_cut
  rw [t1, Int32.lt_iff_toInt_lt, Int32.le_iff_toInt_le, nI_toInt (by omega)]
  have refuse : (¬ (0 ≤ a.toInt ∧ a.toInt ≤ (t : Int))) → G (-1) w := by
    intro hno
    refine both_stay hI h (fun F hF => ?_)
    unfold cf_M_end
    rw [t2, nI_l (by omega)]
    exact mp_inI rfl (lN_toInt' (by omega)) (fun z => absurd z hno) (fun _ => ⟨fun z => absurd rfl z, fun _ => hF⟩)
  refine ⟨fun c => ⟨fun _ => refuse (fun z => ?_), fun z => absurd rfl z⟩, fun c => ⟨fun c2 => ?_, fun c2 => ⟨fun _ => refuse (fun z => c2 z.2), fun z => absurd rfl z⟩⟩⟩
  · have : ¬ a.toInt < 0 := by omega
    exact this c
  · have hok : 0 ≤ a.toInt ∧ a.toInt ≤ (t : Int) := ⟨Int.not_lt.mp c, c2⟩
    rintro _ rfl
    refine ⟨fun z => absurd z one_ne', fun _ => h _ _ (fun F hF => ?_)⟩
    unfold cf_M_end
    have e30 : (wI w 2 1 a).1 30 21 = nI t := by rw [wI_1, if_neg (by decide)]; exact t2
    rw [e30, nI_l (by omega)]
    refine mp_inI rfl (lN_toInt' (by omega)) (fun _ => ⟨fun _ => ?_, fun z => absurd z one_ne'⟩) (fun z => absurd hok z)
    rintro _ rfl
    refine hF _ ?_
    have fr1 : fr [(2, 1), (30, 21)] [] [] w (wI (wI w 2 1 a) 30 21 a) := fr_wI _ (fr_wI _ (fr_refl _ _ _ _) (by decide)) (by decide)
    obtain ⟨k, hk, rfl⟩ : ∃ k : Nat, k ≤ t ∧ a = nI k := ⟨a.toInt.toNat, by omega, nI_ofI hok.1⟩
    refine ⟨now, u, past, kb, shelf, ic_fr hic fr1 (by decide) (by decide) (by decide), im_fr him fr1 (by decide) (by decide) (by decide), hn, hp, hs, ⟨k, by omega, ?_, ?_, ?_⟩, ?_, hca⟩
    · rw [wI_1, if_neg (by decide), wI_1, if_pos ⟨rfl, rfl⟩]
    · rw [wI_1, if_pos ⟨rfl, rfl⟩]
    · intro i hi
      rw [fr1.1 3 i (by simp) (by simp), fr1.1 43 i (by simp) (by simp)]
      exact t3 i (by omega)
    · exact hf
