-- the class's split of a polynomial
def okB (a : Nat) (bs : List (Nat × Nat)) : Prop := isF a (rep bs) ∧ (bs.map Prod.fst).Pairwise (· < ·) ∧ ∀ b, b ∈ bs → irr b.1 ∧ 1 ≤ b.2
theorem rep_sorted : ∀ {bs : List (Nat × Nat)}, (bs.map Prod.fst).Pairwise (· < ·) → (rep bs).Pairwise (· ≤ ·)
  | [], _ => List.Pairwise.nil
  | b :: l, h => by
    obtain ⟨h1, h2⟩ := List.pairwise_cons.mp h
    refine List.pairwise_append.mpr ⟨List.pairwise_replicate.mpr (Or.inr (Nat.le_refl _)), rep_sorted h2, fun x hx y hy => ?_⟩
    rw [List.eq_of_mem_replicate hx]
    obtain ⟨b', hb', rfl⟩ := mem_rep hy
    exact Nat.le_of_lt (h1 b'.1 (List.mem_map.mpr ⟨b', hb', rfl⟩))
theorem rep_len : ∀ {bs : List (Nat × Nat)}, (∀ b, b ∈ bs → 1 ≤ b.2) → bs.length ≤ (rep bs).length
  | [], _ => Nat.le_refl _
  | b :: l, h => by
    have h1 := h b List.mem_cons_self
    have h2 := rep_len (bs := l) (fun x hx => h x (List.mem_cons_of_mem _ hx))
    show l.length + 1 ≤ (List.replicate b.2 b.1 ++ rep l).length
    rw [List.length_append, List.length_replicate]
    omega
theorem rep_irr {bs : List (Nat × Nat)} (h : ∀ b, b ∈ bs → irr b.1) : ∀ p, p ∈ rep bs → irr p := by
  intro p hp
  obtain ⟨b, hb, rfl⟩ := mem_rep hp
  exact h b hb
theorem sqf_nodup : ∀ {l : List Nat}, (∀ e, e ∈ l → irr e) → sqf (pprod l) → l.Nodup
  | [], _, _ => List.nodup_nil
  | a :: l, h, hs => by
    refine List.nodup_cons.mpr ⟨fun hm => hs a (h a List.mem_cons_self) ?_, sqf_nodup (fun e he => h e (List.mem_cons_of_mem _ he)) (sqf_dvd hs (pdvd_cm_right a (pprod l)))⟩
    obtain ⟨q, e⟩ := mem_dvd_pprod hm
    refine ⟨q, ?_⟩
    show cm a (pprod l) = _
    rw [e, cm_left_comm]
theorem strict_of {l : List Nat} (h1 : l.Pairwise (· ≤ ·)) (h2 : l.Nodup) : l.Pairwise (· < ·) := by
  have := List.Pairwise.and h1 h2
  exact this.imp (fun ⟨a, b⟩ => by omega)
theorem irr_replicate {q p t : Nat} (hq : irr q) (hp : irr p) (h : pdvd q (pprod (List.replicate t p))) : q = p := by
  have := irr_mem (fun x hx => by rw [List.eq_of_mem_replicate hx]; exact hp) hq h
  exact List.eq_of_mem_replicate this
/-- where the split stands: what is out, what is left -/
def spl (a left : Nat) (acc : List (Nat × Nat)) : Prop :=
  left ≠ 0 ∧ left < 2 ^ 32 ∧ cm (pprod (rep acc)) left = a ∧ (acc.map Prod.fst).Pairwise (· < ·) ∧ (∀ b, b ∈ acc → irr b.1 ∧ 1 ≤ b.2)
theorem spl_len {a left : Nat} {acc : List (Nat × Nat)} (ha : a < 2 ^ 32) (h : spl a left acc) : acc.length + dg left ≤ 31 := by
  obtain ⟨h1, h2, h3, h4, h5⟩ := h
  have hi := rep_irr (fun b hb => (h5 b hb).1)
  have e := dg_cm (pprod_ne hi) h1
  rw [h3] at e
  have l1 := len_dg hi
  have l2 := rep_len (fun b hb => (h5 b hb).2)
  have ha0 : a ≠ 0 := by rw [← h3]; exact cm_ne (pprod_ne hi) h1
  have := (dg_lt ha0).mpr ha
  omega
theorem okB_end {a : Nat} {acc : List (Nat × Nat)} (ha0 : a ≠ 0) (h : spl a 1 acc) : okB a acc := by
  obtain ⟨h1, h2, h3, h4, h5⟩ := h
  have hi := rep_irr (fun b hb => (h5 b hb).1)
  rw [cm_one] at h3
  refine ⟨⟨hi, rep_sorted h4, fun c => ?_, fun _ => h3⟩, h4, h5⟩
  have := len_dg hi
  rw [h3] at this
  have e : a = 1 := by omega
  rw [e] at this
  exact List.length_eq_zero_iff.mp (Nat.le_zero.mp this)
theorem spl_snoc {a left left' p t : Nat} {acc : List (Nat × Nat)} (h : spl a left acc) (hp : irr p) (ht : 1 ≤ t) (e : cm (pprod (List.replicate t p)) left' = left) (h0 : left' ≠ 0) (hlt : ∀ b, b ∈ acc → b.1 < p) : spl a left' (acc ++ [(p, t)]) := by
  obtain ⟨h1, h2, h3, h4, h5⟩ := h
  have hd : pdvd left' left := ⟨_, e.symm⟩
  refine ⟨h0, ?_, ?_, ?_, ?_⟩
  · have := pdvd_dg h1 hd
    have := (dg_lt h1).mpr h2
    exact (dg_lt h0).mp (by omega)
  · rw [rep_append, rep_one, pprod_append, cm_assoc, e]; exact h3
  · rw [List.map_append]
    refine List.pairwise_append.mpr ⟨h4, List.pairwise_singleton _ _, fun x hx y hy => ?_⟩
    obtain ⟨b, hb, rfl⟩ := List.mem_map.mp hx
    have : y = p := by simpa using hy
    rw [this]
    exact hlt b hb
  · intro b hb
    rcases List.mem_append.mp hb with q | q
    · exact h5 b q
    · rw [List.mem_singleton.mp q]; exact ⟨hp, ht⟩
theorem fr_sub {w w' : Wd} {L L' : List (Nat × Nat)} {C C' M M' : List Nat} (h : fr L C M w w') (h1 : ∀ x, x ∈ L → x ∈ L') (h2 : ∀ x, x ∈ C → x ∈ C') (h3 : ∀ x, x ∈ M → x ∈ M') : fr L' C' M' w w' := fr_mono h h1 h2 h3
theorem sp_split {c a : Nat} {w0 : Wd} {P : Wd → Prop} (ha : a < 2 ^ 32)
    (h : ∀ w' bs, fr [(c, 3), (c, 4)] [c + 2] [c + 1, c + 3] w0 w' → isA c w' bs → okB a bs → P w') : cf_Factors_split c (lN a) w0 P := by
  have sub1 : ∀ w w', fr [(c, 3), (c, 4)] [c + 2] [c + 1] w w' → fr [(c, 3), (c, 4)] [c + 2] [c + 1, c + 3] w w' := fun w w' hf => fr_sub hf (fun _ z => z) (fun _ z => z) (fun x z => by simp at z ⊢; exact Or.inl z)
  have sub2 : ∀ w w', fr [] [] [c + 3] w w' → fr [(c, 3), (c, 4)] [c + 2] [c + 1, c + 3] w w' := fun w w' hf => fr_sub hf (fun x z => absurd z (by simp)) (fun x z => absurd z (by simp)) (fun x z => by simp at z ⊢; exact Or.inr z)
  have fin : ∀ w left acc d, a ≠ 0 → fr [(c, 3), (c, 4)] [c + 2] [c + 1, c + 3] w0 w → isA c w acc → spl a left acc → ns left d → (∀ b, b ∈ acc → dg b.1 < d) → dg left < 2 * d →
      ((lN left ≤ (1 : Int64) → P w) ∧ (¬ lN left ≤ (1 : Int64) → cf_Factors_note c (lN left) (1 : Int32) w (fun w3 => P w3))) := by
    intro w left acc d ha0 hf hA hs hns hdg hd
    have hs' := hs
    obtain ⟨h1, h2, h3, h4, h5⟩ := hs'
    have hlen := spl_len ha hs
    have e := lN_leI (a := left) (b := 1) (by omega) (by decide)
    refine ⟨fun cc => ?_, fun cc => ?_⟩
    · have : left = 1 := by
        have := e.mp cc
        omega
      subst this
      exact h w acc hf hA (okB_end ha0 hs)
    · have hl2 : 2 ≤ left := by
        have : ¬ left ≤ 1 := fun z => cc (e.mpr z)
        omega
      have hirr := last_irr hns hl2 hd
      have hd1 := irr_dg hirr
      refine sp_note (t := 1) hA (by omega) (fun w' k1 k2 => h w' _ (fr_trans hf (sub1 _ _ k1)) k2 (okB_end ha0 (spl_snoc hs hirr (Nat.le_refl _) ?_ (by omega) (fun b hb => ?_))))
      · show cm (cm left 1) 1 = left
        rw [cm_one, cm_one]
      · exact irr_lt_dg (by omega) (Nat.lt_of_lt_of_le (hdg b hb) (hns left hirr (pdvd_refl left)))
  have key : ∀ m d left fq acc w, 32 ≤ d + m → 1 ≤ d → d ≤ 40 → a ≠ 0 → fr [(c, 3), (c, 4)] [c + 2] [c + 1, c + 3] w0 w → isA c w acc → spl a left acc → ns left d → (∀ b, b ∈ acc → dg b.1 < d) → cg left fq (fx (d - 1)) → fq < 2 ^ 32 → ∀ n, m < n → cf_Factors_split_L20 c P n (lN left) (lN fq) (nI d) w := by
    intro m
    induction m with
    | zero =>
      intro d left fq acc w hd hd1 hd4 ha0 hf hA hs hns hdg hc hfl n hn
      obtain ⟨n, rfl⟩ : ∃ m, n = m + 1 := ⟨n - 1, by omega⟩
      show cf_Factors_split_B20 _ _ _ _ _ _ _
      unfold cf_Factors_split_B20
      have hdl := (dg_lt hs.1).mpr hs.2.1
      refine ⟨fun _ => fin w left acc d ha0 hf hA hs hns hdg (by omega), fun z => absurd ((nI_ltI (show 31 < 2 ^ 31 by decide) (by omega)).mpr (by omega)) z⟩
    | succ m ih =>
      intro d left fq acc w hd hd1 hd4 ha0 hf hA hs hns hdg hc hfl n hn
      obtain ⟨n, rfl⟩ : ∃ m, n = m + 1 := ⟨n - 1, by omega⟩
      show cf_Factors_split_B20 _ _ _ _ _ _ _
      unfold cf_Factors_split_B20
      have hdl := (dg_lt hs.1).mpr hs.2.1
      have h31 := nI_ltI (show 31 < 2 ^ 31 by decide) (show d < 2 ^ 31 by omega)
      refine ⟨fun z => fin w left acc d ha0 hf hA hs hns hdg (by have := h31.mp z; omega), fun z => ?_⟩
      have hd31 : d ≤ 31 := by
        have : ¬ 31 < d := fun q => z (h31.mpr q)
        omega
      have hs' := hs
      obtain ⟨h1, h2, h3, h4, h5⟩ := hs'
      refine sp_degree (by omega) ?_
      rw [dI_pos h1, show (2 : Int32) = nI 2 from rfl, nI_mul, nI_leI (by omega) (by omega)]
      refine ⟨fun cc => ?_, fun cc => fin w left acc d ha0 hf hA hs hns hdg (by omega)⟩
      refine sp_squareBy hfl (by omega) ?_
      have hr := pmod_lt31 h1 h2 (cm fq fq)
      have hcg : cg left (pmod (cm fq fq) left) (fx d) := by
        refine cg_trans (cg_pmod h1 _) ?_
        have e3 : fx d = cm (fx (d - 1)) (fx (d - 1)) := by rw [← fx_succ]; congr 1; omega
        rw [e3]
        exact cg_cm hc hc
      generalize pmod (cm fq fq) left = fr' at hr hcg
      rw [show (2 : Int64) = lN 2 from rfl, lN_xor]
      refine sp_gcd (by omega) (Nat.lt_of_lt_of_le (Nat.xor_lt_two_pow (n := 32) (by omega) (by omega)) (by decide)) ?_
      have e4 : pgcd left (fr' ^^^ 2) = pgcd left (fx d ^^^ 2) := pgcd_cg (cg_xor hcg (cg_refl left 2))
      have hJlt : pgcd left (fr' ^^^ 2) < 2 ^ 32 := pgcd_bd h2 (Nat.xor_lt_two_pow (by omega) (by omega))
      rw [e4] at hJlt ⊢
      have hJ0 : pgcd left (fx d ^^^ 2) ≠ 0 := pgcd_ne h1
      have hJs : sqf (pgcd left (fx d ^^^ 2)) := fun p hp => joint_sqfree hd1 hp
      refine sp_partInto hd1 hd31 hJ0 hJlt hJs (fun p hp hpd => ((joint_iff hns hd1 hp).mp hpd).2) (fun w1 ls k1 k2 k3 k4 => ?_)
      have hlsd : ls.length ≤ 31 := by
        have q1 := len_dg k3
        rw [k2] at q1
        have q2 := (dg_lt hJ0).mpr hJlt
        omega
      have hlt : ∀ y, y ∈ ls → y < 2 ^ 32 := by
        intro y hy
        have q1 := mem_dvd_pprod hy
        rw [k2] at q1
        have q2 := pdvd_dg hJ0 q1
        have q3 := (dg_lt hJ0).mpr hJlt
        exact (dg_lt (irr_ne (k3 y hy))).mp (by omega)
      refine sp_sortParts hlsd (fun y hy => Nat.lt_of_lt_of_le (hlt y hy) (by decide)) k4 (fun w2 ls' j1 j2 j3 j4 => ?_)
      have e5 : ls.length = ls'.length := j2.length_eq.symm
      have i3 : ∀ e, e ∈ ls' → irr e := fun e he => k3 e (j2.subset he)
      have i2 : pprod ls' = pgcd left (fx d ^^^ 2) := (pprod_perm j2).trans k2
      have hnd : ls'.Nodup := sqf_nodup i3 (by rw [i2]; exact hJs)
      have hst := strict_of j3 hnd
      have hmem : ∀ p, irr p → ((pdvd p left ∧ dg p = d) ↔ p ∈ ls') := by
        intro p hp
        rw [← joint_iff hns hd1 hp, ← i2]
        exact ⟨fun z => irr_mem i3 hp z, fun z => mem_dvd_pprod z⟩
      have hfw2 : fr [(c, 3), (c, 4)] [c + 2] [c + 1, c + 3] w0 w2 := fr_trans (fr_trans hf (sub2 _ _ k1)) (sub2 _ _ j1)
      have hA2 : isA c w2 acc := by
        obtain ⟨a1, a2, a3⟩ := hA
        have g := fr_trans k1 j1
        refine ⟨(g.1 c 3 (by simp) (by simp)).trans a1, (g.1 c 4 (by simp) (by simp)).trans a2, fun j hj => ⟨?_, ?_⟩⟩
        · rw [g.2 (c + 1) (by simp)]; exact (a3 j hj).1
        · rw [g.1 (c + 2) j (by simp) (by simp)]; exact (a3 j hj).2
      rw [e5]
      have hlsd' : ls'.length ≤ 31 := by omega
      have hlt' : ∀ y, y ∈ ls' → y < 2 ^ 32 := fun y hy => hlt y (j2.subset hy)
      have loop : ∀ m2 i left' acc' w', ls'.length ≤ i + m2 → i ≤ ls'.length → fr [(c, 3), (c, 4)] [c + 2] [c + 1, c + 3] w0 w' → isA c w' acc' → isP c w' ls' → spl a left' acc' → ns left' d → (∀ b, b ∈ acc' → dg b.1 ≤ d) → pdvd left' left → (∀ p, irr p → ((pdvd p left' ∧ dg p = d) ↔ p ∈ ls'.drop i)) → (∀ b, b ∈ acc' → ∀ p, p ∈ ls'.drop i → b.1 < p) →
          ∀ n2, m2 < n2 → cf_Factors_split_L76 c (cf_Factors_split_L20 c P n) P n2 (lN left') (lN fr') (nI d) (nI ls'.length) (nI i) w' := by
        intro m2
        induction m2 with
        | zero =>
          intro i left' acc' w' hi hil hf' hA' hP' hs1 hns' hdg' hld hmm hlt1 n2 hn2
          obtain ⟨n2, rfl⟩ : ∃ m, n2 = m + 1 := ⟨n2 - 1, by omega⟩
          show cf_Factors_split_B76 c _ _ P _ _ _ _ _ _
          unfold cf_Factors_split_B76
          refine ⟨fun _ => ?_, fun z => absurd ((nI_leI (by omega) (by omega)).mpr (by omega)) z⟩
          have hl2 := hs1.2.1
          refine sp_remainder (by omega) (by omega) ?_
          rintro _ rfl
          rw [nI_1]
          refine ih (d + 1) left' (pmod fr' left') acc' w' (by omega) (by omega) (by omega) ha0 hf' hA' hs1 (fun p hp hpd => ?_) (fun b hb => by have := hdg' b hb; omega) ?_ (pmod_bd (by omega)) n (by omega)
          · have q1 := hns' p hp hpd
            by_cases q2 : dg p = d
            · have := (hmm p hp).mp ⟨hpd, q2⟩
              rw [List.drop_eq_nil_of_le (by omega)] at this
              exact absurd this (by simp)
            · omega
          · rw [Nat.add_sub_cancel]
            exact cg_trans (cg_pmod hs1.1 _) (cg_dvd hld hcg)
        | succ m2 ih2 =>
          intro i left' acc' w' hi hil hf' hA' hP' hs1 hns' hdg' hld hmm hlt1 n2 hn2
          by_cases hie : i = ls'.length
          · exact ih2 i left' acc' w' (by omega) hil hf' hA' hP' hs1 hns' hdg' hld hmm hlt1 n2 (by omega)
          obtain ⟨n2, rfl⟩ : ∃ m, n2 = m + 1 := ⟨n2 - 1, by omega⟩
          show cf_Factors_split_B76 c _ _ P _ _ _ _ _ _
          unfold cf_Factors_split_B76
          have hil2 : i < ls'.length := by omega
          refine ⟨fun z => ?_, fun _ => ⟨fun z => ?_, fun _ => ⟨vp_in_nI (by omega) (by omega), ?_⟩⟩⟩
          · have := (nI_leI (show ls'.length < 2 ^ 31 by omega) (show i < 2 ^ 31 by omega)).mp z
            omega
          · have := (nI_leI (show 31 < 2 ^ 31 by decide) (show i < 2 ^ 31 by omega)).mp z
            omega
          rw [nI_clamp (by omega), hP' i hil2]
          have hp := getD_mem hil2
          have hdrop : ls'.drop i = ls'.getD i 0 :: ls'.drop (i + 1) := by
            rw [List.drop_eq_getElem_cons hil2, getD_lt hil2]
          generalize ls'.getD i 0 = p at hp hdrop
          have hpi := i3 p hp
          have hpd := (hmm p hpi).mpr (by rw [hdrop]; exact List.mem_cons_self)
          have hlen := spl_len ha hs1
          have hpdg := irr_dg hpi
          have hpl := pdvd_dg hs1.1 hpd.1
          have hnot : p ∉ ls'.drop (i + 1) := by
            have : (ls'.drop i).Nodup := List.Nodup.sublist (List.drop_sublist i ls') hnd
            rw [hdrop] at this
            exact (List.nodup_cons.mp this).1
          refine sp_takeOut hA' (by omega) hpi (hlt' p hp) hs1.1 hs1.2.1 hpd.1 (fun w3 left2 t q1 q2 q3 q4 q5 q6 => ?_)
          rintro _ rfl
          rw [nI_1]
          have hl2d : pdvd left2 left' := ⟨_, q3.symm⟩
          refine ih2 (i + 1) left2 (acc' ++ [(p, t)]) w3 (by omega) (by omega) (fr_trans hf' (sub1 _ _ q1)) q6 (fun j hj => ?_) (spl_snoc hs1 hpi q2 q3 q5 (fun b hb => hlt1 b hb p (by rw [hdrop]; exact List.mem_cons_self))) (fun q hq hqd => hns' q hq (pdvd_trans hqd hl2d)) (fun b hb => ?_) (pdvd_trans hl2d hld) (fun q hq => ?_) (fun b hb q hq => ?_) n2 (by omega)
          · rw [q1.2 (c + 3) (by simp)]
            exact hP' j hj
          · rcases List.mem_append.mp hb with r | r
            · exact hdg' b r
            · rw [List.mem_singleton.mp r]; exact Nat.le_of_eq hpd.2
          · constructor
            · rintro ⟨r1, r2⟩
              have r3 := (hmm q hq).mp ⟨pdvd_trans r1 hl2d, r2⟩
              rw [hdrop] at r3
              rcases List.mem_cons.mp r3 with r4 | r4
              · rw [r4] at r1
                exact absurd r1 q4
              · exact r4
            · intro r
              have r3 := (hmm q hq).mpr (by rw [hdrop]; exact List.mem_cons_of_mem _ r)
              refine ⟨?_, r3.2⟩
              have r4 := r3.1
              rw [← q3] at r4
              rcases irr_euclid hq r4 with r5 | r5
              · have := irr_replicate hq hpi r5
                rw [this] at r
                exact absurd r hnot
              · exact r5
          · rcases List.mem_append.mp hb with r | r
            · exact hlt1 b r q (by rw [hdrop]; exact List.mem_cons_of_mem _ hq)
            · rw [List.mem_singleton.mp r]
              have h9 : (ls'.drop i).Pairwise (· < ·) := List.Pairwise.sublist (List.drop_sublist i ls') hst
              rw [hdrop] at h9
              exact (List.pairwise_cons.mp h9).1 q hq
      refine ⟨ls'.length + 1, loop ls'.length 0 left acc w2 (by omega) (by omega) hfw2 hA2 j4 hs hns (fun b hb => Nat.le_of_lt (hdg b hb)) (pdvd_refl left) (fun p hp => hmem p hp) (fun b hb p hp => ?_) _ (by omega)⟩
      have hp' : p ∈ ls' := hp
      have := (hmem p (i3 p hp')).mpr hp'
      exact irr_lt_dg (irr_ne (i3 p hp')) (by have := hdg b hb; omega)
  unfold cf_Factors_split
  rintro _ rfl _ rfl
  have hf0 : fr [(c, 3), (c, 4)] [c + 2] [c + 1, c + 3] w0 (wI (wI w0 c 3 0) c 4 0) := fr_wI _ (fr_wI _ (fr_refl _ _ _ _) (by simp)) (by simp)
  have hA0 : isA c (wI (wI w0 c 3 0) c 4 0) [] := by
    refine ⟨?_, ?_, fun j hj => absurd hj (by simp)⟩
    · rw [wI_1, if_neg (by omega), wI_1, if_pos ⟨rfl, rfl⟩]; rfl
    · rw [wI_1, if_pos ⟨rfl, rfl⟩]; rfl
  by_cases ha0 : a = 0
  · subst ha0
    refine ⟨1, ?_⟩
    show cf_Factors_split_B20 _ _ _ _ _ _ _
    unfold cf_Factors_split_B20
    have hB : okB 0 [] := ⟨⟨fun p hp => absurd hp (by simp [rep]), List.Pairwise.nil, fun _ => rfl, fun z => absurd rfl z⟩, List.Pairwise.nil, fun b hb => absurd hb (by simp)⟩
    refine ⟨fun z => absurd z (by decide), fun _ => sp_degree (by omega) ⟨fun z => absurd z (by decide), fun _ => ⟨fun _ => h _ [] hf0 hA0 hB, fun z => absurd (show lN 0 ≤ (1 : Int64) by decide) z⟩⟩⟩
  · refine ⟨32, key 31 1 a 2 [] _ (by omega) (by omega) (by omega) ha0 hf0 hA0 ⟨ha0, ha, one_cm a, List.Pairwise.nil, fun b hb => absurd hb (by simp)⟩ (fun p hp _ => irr_dg hp) (fun b hb => absurd hb (by simp)) ?_ (by omega) 32 (by omega)⟩
    rw [Nat.sub_self, fx_zero]
    exact cg_refl _ _
