-- how many are irreducible, how many primitive
theorem nprod_dvd {n : Nat} : ∀ {ps : List Nat}, (∀ p, p ∈ ps → prm p ∧ p ∣ n) → ps.Pairwise (· < ·) → nprod ps ∣ n
  | [], _, _ => Nat.one_dvd n
  | p :: l, h, hs => by
    obtain ⟨s1, s2⟩ := List.pairwise_cons.mp hs
    have hp := h p List.mem_cons_self
    have ih := nprod_dvd (fun q hq => h q (List.mem_cons_of_mem _ hq)) s2
    refine Nat.Coprime.mul_dvd_of_dvd_of_dvd (prm_coprime hp.1 (fun hd => ?_)) hp.2 ih
    have : ∀ m : List Nat, (∀ q, q ∈ m → prm q) → p ∣ nprod m → p ∈ m := by
      intro m
      induction m with
      | nil =>
        intro _ hd
        have := Nat.le_of_dvd (by decide) hd
        have := hp.1.1
        have e : nprod [] = 1 := rfl
        omega
      | cons a m ih =>
        intro hm hd
        rcases prm_dvd_mul hp.1 hd with q | q
        · rw [prm_dvd_prm hp.1 (hm a List.mem_cons_self) q]
          exact List.mem_cons_self
        · exact List.mem_cons_of_mem _ (ih (fun q hq => hm q (List.mem_cons_of_mem _ hq)) q)
    have := s1 p (this l (fun q hq => (h q (List.mem_cons_of_mem _ hq)).1) hd)
    omega
def phiM (v : Nat) : List Nat → Nat
  | [] => v
  | p :: l => phiM (v / p * (p - 1)) l
theorem phi_step {p v : Nat} (hp : 2 ≤ p) (h : p ∣ v) : v - v / p = v / p * (p - 1) := by
  obtain ⟨t, rfl⟩ := h
  rw [Nat.mul_div_cancel_left _ (by omega), Nat.mul_sub_one, Nat.mul_comm]
theorem phi_dvd {p v r : Nat} (hp : 2 ≤ p) (h : p * r ∣ v) : p ∣ v ∧ r ∣ v / p * (p - 1) := by
  obtain ⟨t, rfl⟩ := h
  refine ⟨⟨r * t, by rw [Nat.mul_assoc]⟩, ?_⟩
  rw [Nat.mul_assoc, Nat.mul_div_cancel_left _ (by omega), Nat.mul_assoc]
  exact ⟨_, rfl⟩
theorem phi_le {p v : Nat} (hp : 2 ≤ p) (h : p ∣ v) : v / p * (p - 1) ≤ v := by
  rw [← phi_step hp h]
  exact Nat.sub_le _ _
theorem take_drop_cons {l : List Nat} {i : Nat} (h : i < l.length) : l.drop i = l.getD i 0 :: l.drop (i + 1) := by
  rw [getD_lt h, List.drop_eq_getElem_cons h]
theorem sp_countPrimitive {d : Nat} {w0 : Wd} {P : Int64 → Wd → Prop} (hd1 : 1 ≤ d) (hd2 : d ≤ 31) (h : ∀ w' ps, fr [(18, 1)] [] [19] w0 w' → isPL (2 ^ d - 1) ps → P (lN (phiM (2 ^ d - 1) ps / d)) w') : cf_Orders_countPrimitive 18 (nI d) w0 P := by
  have hpw : 2 ^ d ≤ 2 ^ 31 := Nat.pow_le_pow_right (by omega) (by omega)
  have hodd := ones_odd hd1
  unfold cf_Orders_countPrimitive
  rw [ones_lN (by omega)]
  rintro _ rfl
  refine sp_findPrimes (by omega) (by omega) (fun w ps k1 k2 k3 k4 => ?_)
  have h := h w ps k1 k2
  have key : ∀ m i v, ps.length ≤ i + m → i ≤ ps.length → v < 2 ^ 32 → nprod (ps.drop i) ∣ v → phiM v (ps.drop i) = phiM (2 ^ d - 1) ps → ∀ n, m < n → cf_Orders_countPrimitive_L17 18 P n (nI d) (lN v) (nI i) w := by
    intro m
    have stop : ∀ v, v < 2 ^ 32 → phiM v (ps.drop ps.length) = phiM (2 ^ d - 1) ps → ∀ n, 0 < n → cf_Orders_countPrimitive_L17 18 P n (nI d) (lN v) (nI ps.length) w := by
      intro v hv he n hn
      obtain ⟨n, rfl⟩ : ∃ m, n = m + 1 := ⟨n - 1, by omega⟩
      show cf_Orders_countPrimitive_B17 _ _ _ _ _ _ _
      unfold cf_Orders_countPrimitive_B17
      rw [k3.1, nI_leI (by omega) (by omega)]
      rw [List.drop_eq_nil_of_le (Nat.le_refl _)] at he
      have he : v = phiM (2 ^ d - 1) ps := he
      refine ⟨fun _ => ⟨fun z => absurd ((nI_leI (a := d) (b := 0) (by omega) (by decide)).mp z) (by omega), fun _ => ?_⟩, fun z => absurd (Nat.le_refl _) z⟩
      rw [nI_l (by omega), ldiv_lN (by omega) (by omega) (by omega), he]
      exact ⟨lN_ne (b := 0) (by omega) (by decide) (by omega), h⟩
    induction m with
    | zero =>
      intro i v hi hil hv hdv he n hn
      have : i = ps.length := by omega
      subst this
      exact stop v hv he n (by omega)
    | succ m ih =>
      intro i v hi hil hv hdv he n hn
      by_cases hie : i = ps.length
      · subst hie; exact stop v hv he n (by omega)
      obtain ⟨n, rfl⟩ : ∃ m, n = m + 1 := ⟨n - 1, by omega⟩
      show cf_Orders_countPrimitive_B17 _ _ _ _ _ _ _
      unfold cf_Orders_countPrimitive_B17
      have hil2 : i < ps.length := by omega
      have hq := (k2.1 _).mp (getD_mem hil2)
      have hql := Nat.le_of_dvd (by omega) hq.2
      rw [take_drop_cons hil2] at hdv he
      rw [k3.1, nI_leI (by omega) (by omega)]
      refine ⟨fun z => absurd z (by omega), fun _ => ⟨fun z => absurd ((nI_leI (show 16 < 2 ^ 31 by decide) (by omega)).mp z) (by omega), fun _ => ⟨vp_in_nI (by omega) (by omega), ?_⟩⟩⟩
      rw [nI_clamp (by omega), k3.2 i hil2]
      generalize ps.getD i 0 = q at hq hql hdv he
      have hq2 := hq.1.1
      obtain ⟨d1, d2⟩ := phi_dvd hq2 hdv
      have hle := phi_le hq2 d1
      refine ⟨fun z => absurd ((lN_leI (b := 1) (by omega) (by decide)).mp z) (by omega), fun _ => ⟨vp_in_nI (by omega) (by omega), lN_ne (b := 0) (by omega) (by decide) (by omega), ?_⟩⟩
      rw [ldiv_lN (by omega) (by omega) (by omega), lN_sub (Nat.div_le_self _ _), phi_step hq2 d1]
      rintro _ rfl _ rfl
      rw [nI_1]
      exact ih (i + 1) _ (by omega) (by omega) (by omega) d2 he n (by omega)
  exact ⟨ps.length + 1, key ps.length 0 (2 ^ d - 1) (by omega) (by omega) (by omega) (nprod_dvd (fun p hp => (k2.1 p).mp hp) k2.2) rfl _ (by omega)⟩
theorem core_primes {w w' : Wd} {now : Nat → Int64} {u : Nat} {past : Nat → Nat → Int64} {kb : Nat → Bool} {shelf : Nat → Nat → Int64} (hc : core w now u past kb shelf) (h : fr [(30, 9)] [] [36] w w') : core w' now u past kb shelf :=
  core_kp hc (kp_fr h (by decide) (fun k hk => absurd hk (by simp)) (by decide)) (cache_kc (kc_fr h (by decide) (by decide) (by decide)) (core_cache hc))
theorem mp_coprimes {d : Nat} {w0 : Wd} {P : Int64 → Wd → Prop} (hd1 : 1 ≤ d) (hd2 : d ≤ 31) (h : ∀ w' ps, fr [(30, 9)] [] [36] w0 w' → isPL (2 ^ d - 1) ps → P (lN (phiM (2 ^ d - 1) ps)) w') (hlt : ∀ ps, isPL (2 ^ d - 1) ps → phiM (2 ^ d - 1) ps < 2 ^ 32 ∨ True) : cf_M_coprimes (lN (2 ^ d - 1)) w0 P := by
  have hpw : 2 ^ d ≤ 2 ^ 31 := Nat.pow_le_pow_right (by omega) (by omega)
  have hodd := ones_odd hd1
  unfold cf_M_coprimes
  refine mp_laysPrimes (by omega) (by omega) (fun w ps k1 k2 k3 k4 => ?_)
  have h := h w ps k1 k2
  have key : ∀ m i v, ps.length ≤ i + m → i ≤ ps.length → v < 2 ^ 32 → nprod (ps.drop i) ∣ v → phiM v (ps.drop i) = phiM (2 ^ d - 1) ps → ∀ n, m < n → cf_M_coprimes_L10 P n (lN v) (nI i) w := by
    intro m
    have stop : ∀ v, phiM v (ps.drop ps.length) = phiM (2 ^ d - 1) ps → ∀ n, 0 < n → cf_M_coprimes_L10 P n (lN v) (nI ps.length) w := by
      intro v he n hn
      obtain ⟨n, rfl⟩ : ∃ m, n = m + 1 := ⟨n - 1, by omega⟩
      show cf_M_coprimes_B10 _ _ _ _ _
      unfold cf_M_coprimes_B10
      rw [k3.1, nI_leI (by omega) (by omega)]
      rw [List.drop_eq_nil_of_le (Nat.le_refl _)] at he
      have he : v = phiM (2 ^ d - 1) ps := he
      rw [he]
      exact ⟨fun _ => h, fun z => absurd (Nat.le_refl _) z⟩
    induction m with
    | zero =>
      intro i v hi hil hv hdv he n hn
      have : i = ps.length := by omega
      subst this
      exact stop v he n (by omega)
    | succ m ih =>
      intro i v hi hil hv hdv he n hn
      by_cases hie : i = ps.length
      · subst hie; exact stop v he n (by omega)
      obtain ⟨n, rfl⟩ : ∃ m, n = m + 1 := ⟨n - 1, by omega⟩
      show cf_M_coprimes_B10 _ _ _ _ _
      unfold cf_M_coprimes_B10
      have hil2 : i < ps.length := by omega
      have hq := (k2.1 _).mp (getD_mem hil2)
      have hql := Nat.le_of_dvd (by omega) hq.2
      rw [take_drop_cons hil2] at hdv he
      rw [k3.1, nI_leI (by omega) (by omega)]
      refine ⟨fun z => absurd z (by omega), fun _ => ⟨vp_in_nI (by omega) (by omega), ?_⟩⟩
      rw [nI_clamp (by omega), k3.2 i hil2]
      generalize ps.getD i 0 = q at hq hql hdv he
      have hq2 := hq.1.1
      obtain ⟨d1, d2⟩ := phi_dvd hq2 hdv
      have hle := phi_le hq2 d1
      refine ⟨lN_ne (b := 0) (by omega) (by decide) (by omega), vp_in_nI (by omega) (by omega), ?_⟩
      rw [ldiv_lN (by omega) (by omega) (by omega), show (1 : Int64) = lN 1 from rfl, lN_sub (by omega), lN_mul]
      rintro _ rfl _ rfl
      rw [nI_1]
      exact ih (i + 1) _ (by omega) (by omega) (by omega) d2 he n (by omega)
  exact ⟨ps.length + 1, key ps.length 0 (2 ^ d - 1) (by omega) (by omega) (by omega) (nprod_dvd (fun p hp => (k2.1 p).mp hp) k2.2) rfl _ (by omega)⟩
theorem phiM_le : ∀ {ps : List Nat} {v : Nat}, (∀ p, p ∈ ps → 2 ≤ p) → nprod ps ∣ v → phiM v ps ≤ v
  | [], _, _, _ => Nat.le_refl _
  | p :: l, v, h, hd => by
    have hp := h p List.mem_cons_self
    obtain ⟨d1, d2⟩ := phi_dvd hp hd
    show phiM (v / p * (p - 1)) l ≤ v
    exact Nat.le_trans (phiM_le (fun q hq => h q (List.mem_cons_of_mem _ hq)) d2) (phi_le hp d1)
-- the sign of Moebius, twice
def sgF (num : Nat) : Nat → Nat → Int32 → Nat → Int32
  | 0, _, s, _ => s
  | m + 1, left, s, p => if num < p then s else if left % p ≠ 0 then (if s ≠ 0 then sgF num m left s (p + 1) else 0) else (if left / p % p = 0 then 0 else if -s ≠ 0 then sgF num m (left / p) (-s) (p + 1) else 0)
theorem sp_signOf {num : Nat} {P : Int32 → Prop} (hn : num ≤ 31) (h : P (sgF num 32 num 1 2)) : cf_Families_signOf (nI num) P := by
  have key : ∀ m left s p, num + 1 ≤ p + m → 2 ≤ p → p ≤ 40 → left ≤ 31 → P (sgF num m left s p) → ∀ n, m < n → cf_Families_signOf_L6 P n (nI num) (nI left) s (nI p) := by
    intro m
    have stop : ∀ left s p, num < p → p ≤ 40 → P s → ∀ n, 0 < n → cf_Families_signOf_L6 P n (nI num) (nI left) s (nI p) := by
      intro left s p hp hp4 hP n hn
      obtain ⟨n, rfl⟩ : ∃ m, n = m + 1 := ⟨n - 1, by omega⟩
      show cf_Families_signOf_B6 _ _ _ _ _ _
      unfold cf_Families_signOf_B6
      exact ⟨fun _ => hP, fun z => absurd ((nI_ltI (by omega) (by omega)).mpr hp) z⟩
    induction m with
    | zero => intro left s p hp hp2 hp4 hl hP n hn'; exact stop left s p (by omega) hp4 hP n (by omega)
    | succ m ih =>
      intro left s p hp hp2 hp4 hl hP n hn'
      have e : sgF num (m + 1) left s p = if num < p then s else if left % p ≠ 0 then (if s ≠ 0 then sgF num m left s (p + 1) else 0) else (if left / p % p = 0 then 0 else if -s ≠ 0 then sgF num m (left / p) (-s) (p + 1) else 0) := rfl
      rw [e] at hP
      by_cases hnp : num < p
      · rw [if_pos hnp] at hP
        exact stop left s p hnp hp4 hP n (by omega)
      rw [if_neg hnp] at hP
      obtain ⟨n, rfl⟩ : ∃ m, n = m + 1 := ⟨n - 1, by omega⟩
      show cf_Families_signOf_B6 _ _ _ _ _ _
      unfold cf_Families_signOf_B6
      have hp0 : ¬ nI p = 0 := fun z => absurd ((nI_eq0 (by omega)).mp z) (by omega)
      have hdl := Nat.div_le_self left p
      have hm1 := Nat.mod_lt left (show p > 0 by omega)
      have hm2 := Nat.mod_lt (left / p) (show p > 0 by omega)
      refine ⟨fun z => absurd ((nI_ltI (by omega) (by omega)).mp z) hnp, fun _ => ⟨hp0, ?_⟩⟩
      rw [nI_rem (by omega) (by omega) (by omega), nI_eq0 (by omega)]
      refine ⟨fun z => ?_, fun z => ⟨hp0, ?_⟩⟩
      · rw [if_pos z] at hP
        refine ⟨fun y => ?_, fun y => ?_⟩
        · rw [if_pos y] at hP
          rintro _ rfl
          rw [nI_1]
          exact ih left s (p + 1) (by omega) (by omega) (by omega) hl hP n (by omega)
        · rw [if_neg (fun q => q y)] at hP
          exact hP
      · rw [if_neg (fun q => q z)] at hP
        rw [pk_div (by omega) (by omega) (by omega)]
        rintro _ rfl
        refine ⟨hp0, ?_⟩
        rw [nI_rem (by omega) (by omega) (by omega), nI_eq0 (by omega)]
        refine ⟨fun y => ?_, fun y => ?_⟩
        · rw [if_neg y] at hP
          rintro _ rfl
          refine ⟨fun x => ?_, fun x => ?_⟩
          · rw [if_pos x] at hP
            rintro _ rfl
            rw [nI_1]
            exact ih (left / p) (-s) (p + 1) (by omega) (by omega) (by omega) (by omega) hP n (by omega)
          · rw [if_neg (fun q => q x)] at hP
            exact hP
        · rw [if_pos y] at hP
          exact ⟨fun x => absurd rfl x, fun _ => hP⟩
  unfold cf_Families_signOf
  exact ⟨33, key 32 num 1 2 (by omega) (by omega) (by omega) hn h 33 (by omega)⟩
def p31 : List Nat := [2, 3, 5, 7, 11, 13, 17, 19, 23, 29, 31]
def pls (n : Nat) : List Nat := p31.filter (fun p => n % p == 0)
theorem prm31 : ∀ p, p < 32 → ((2 ≤ p ∧ ∀ d, d < 32 → d ∣ p → d = 1 ∨ d = p) ↔ p ∈ p31) := by decide +kernel
theorem pls_isPL {n : Nat} (h1 : 1 ≤ n) (hn : n ≤ 31) : isPL n (pls n) := by
  refine ⟨fun p => ?_, ?_⟩
  · unfold pls
    rw [List.mem_filter]
    constructor
    · rintro ⟨m1, m2⟩
      have h31 : p < 32 := by
        have : ∀ q, q ∈ p31 → q < 32 := by decide
        exact this p m1
      have h2 := (prm31 p h31).mpr m1
      have hd : p ∣ n := Nat.dvd_of_mod_eq_zero (by simpa using m2)
      refine ⟨⟨h2.1, fun d hd2 => h2.2 d ?_ hd2⟩, hd⟩
      have := Nat.le_of_dvd (by omega) hd2
      omega
    · rintro ⟨m1, m2⟩
      have := Nat.le_of_dvd (by omega) m2
      refine ⟨(prm31 p (by omega)).mp ⟨m1.1, fun d _ hd2 => m1.2 d hd2⟩, ?_⟩
      have := Nat.mod_eq_zero_of_dvd m2
      simpa using this
  · have : p31.Pairwise (· < ·) := by decide
    exact List.Pairwise.filter _ this
def muF (n : Nat) : List Nat → Int32 → Int32
  | [], v => v
  | q :: l, v => if n / q % q = 0 then 0 else muF n l (-v)
theorem mu_sg : ∀ n, n < 32 → 1 ≤ n → muF n (pls n) 1 = sgF n 32 n 1 2 := by decide +kernel
theorem sg_val : ∀ n, n < 32 → 1 ≤ n → sgF n 32 n 1 2 = 0 ∨ sgF n 32 n 1 2 = 1 ∨ sgF n 32 n 1 2 = -1 := by decide +kernel
theorem mp_moebius {num : Nat} {w0 : Wd} {P : Int32 → Wd → Prop} (h1 : 1 ≤ num) (hn : num ≤ 31) (h : ∀ w', fr [(30, 9)] [] [36] w0 w' → P (sgF num 32 num 1 2) w') : cf_M_moebius (nI num) w0 P := by
  unfold cf_M_moebius
  rw [nI_l (by omega)]
  refine mp_laysPrimes h1 (by omega) (fun w ps k1 k2 k3 k4 => ?_)
  have := isPL_unique k2 (pls_isPL h1 hn)
  subst this
  have h := h w k1
  rw [← mu_sg num (by omega) h1] at h
  have key : ∀ m i v, (pls num).length ≤ i + m → i ≤ (pls num).length → P (muF num ((pls num).drop i) v) w → ∀ n, m < n → cf_M_moebius_L10 P n (nI num) v (nI i) w := by
    intro m
    have stop : ∀ v, P (muF num ((pls num).drop (pls num).length) v) w → ∀ n, 0 < n → cf_M_moebius_L10 P n (nI num) v (nI (pls num).length) w := by
      intro v hP n hn
      obtain ⟨n, rfl⟩ : ∃ m, n = m + 1 := ⟨n - 1, by omega⟩
      show cf_M_moebius_B10 _ _ _ _ _ _
      unfold cf_M_moebius_B10
      rw [k3.1, nI_leI (by omega) (by omega)]
      rw [List.drop_eq_nil_of_le (Nat.le_refl _)] at hP
      exact ⟨fun _ => hP, fun z => absurd (Nat.le_refl _) z⟩
    induction m with
    | zero =>
      intro i v hi hil hP n hn'
      have : i = (pls num).length := by omega
      subst this
      exact stop v hP n (by omega)
    | succ m ih =>
      intro i v hi hil hP n hn'
      by_cases hie : i = (pls num).length
      · subst hie; exact stop v hP n (by omega)
      obtain ⟨n, rfl⟩ : ∃ m, n = m + 1 := ⟨n - 1, by omega⟩
      show cf_M_moebius_B10 _ _ _ _ _ _
      unfold cf_M_moebius_B10
      have hil2 : i < (pls num).length := by omega
      have hq := (k2.1 _).mp (getD_mem hil2)
      have hql := Nat.le_of_dvd (by omega) hq.2
      have hcell := k3.2 i hil2
      rw [take_drop_cons hil2] at hP
      generalize (pls num).getD i 0 = q at hq hql hcell hP
      have hq2 := hq.1.1
      have hq0 : ¬ lN q = (0 : Int64) := lN_ne (b := 0) (by omega) (by decide) (by omega)
      have hdl := Nat.div_le_self num q
      rw [k3.1, nI_leI (by omega) (by omega), nI_clamp (by omega), hcell, nI_l (by omega), ldiv_lN (by omega) (by omega) (by omega), lrem0 (by omega) (by omega) (by omega)]
      have hP : P (if num / q % q = 0 then 0 else muF num ((pls num).drop (i + 1)) (-v)) w := hP
      refine ⟨fun z => absurd z (by omega), fun _ => ⟨vp_in_nI (by omega) (by omega), hq0, vp_in_nI (by omega) (by omega), hq0, fun z => ?_, fun z => ?_⟩⟩
      · rw [if_neg (fun y => z (Nat.dvd_of_mod_eq_zero y))] at hP
        rintro _ rfl _ rfl
        rw [nI_1]
        exact ih (i + 1) (-v) (by omega) (by omega) hP n (by omega)
      · rw [if_pos (Nat.mod_eq_zero_of_dvd z)] at hP
        exact hP
  exact ⟨(pls num).length + 1, key (pls num).length 0 1 (by omega) (by omega) h _ (by omega)⟩
theorem lshl_sign : ∀ d, d < 32 → lshl (0 : Int32).toInt64 (nI d) = (0 : Int32).toInt64 * lshl 1 (nI d) ∧ lshl (1 : Int32).toInt64 (nI d) = (1 : Int32).toInt64 * lshl 1 (nI d) ∧ lshl (-1 : Int32).toInt64 (nI d) = (-1 : Int32).toInt64 * lshl 1 (nI d) := by decide +kernel
/-- the sum over the divisors to d -/
def gsum (n : Nat) : Nat → Int64
  | 0 => 0
  | d + 1 => if n % (d + 1) = 0 then gsum n d + (sgF (n / (d + 1)) 32 (n / (d + 1)) 1 2).toInt64 * lshl 1 (nI (d + 1)) else gsum n d
theorem sp_countIrreducible {n : Nat} {P : Int64 → Prop} (h1 : 1 ≤ n) (hn : n ≤ 31) (h : P (gsum n n / lN n)) : cf_Families_countIrreducible (nI n) P := by
  have key : ∀ m d, d + m = n → ∀ n', m < n' → cf_Families_countIrreducible_L4 P n' (nI n) (gsum n d) (nI (d + 1)) := by
    intro m
    induction m with
    | zero =>
      intro d hd n' hn'
      obtain ⟨n', rfl⟩ : ∃ m, n' = m + 1 := ⟨n' - 1, by omega⟩
      show cf_Families_countIrreducible_B4 _ _ _ _ _
      unfold cf_Families_countIrreducible_B4
      have : d = n := by omega
      subst this
      refine ⟨fun _ => ⟨fun z => absurd ((nI_leI (a := d) (b := 0) (by omega) (by decide)).mp z) (by omega), fun _ => ?_⟩, fun z => absurd ((nI_ltI (by omega) (by omega)).mpr (by omega)) z⟩
      rw [nI_l (by omega)]
      exact ⟨lN_ne (b := 0) (by omega) (by decide) (by omega), h⟩
    | succ m ih =>
      intro d hd n' hn'
      obtain ⟨n', rfl⟩ : ∃ m, n' = m + 1 := ⟨n' - 1, by omega⟩
      show cf_Families_countIrreducible_B4 _ _ _ _ _
      unfold cf_Families_countIrreducible_B4
      have ih := ih (d + 1) (by omega) n' (by omega)
      have e : gsum n (d + 1) = if n % (d + 1) = 0 then gsum n d + (sgF (n / (d + 1)) 32 (n / (d + 1)) 1 2).toInt64 * lshl 1 (nI (d + 1)) else gsum n d := rfl
      rw [e] at ih
      have hd0 : ¬ nI (d + 1) = 0 := fun z => absurd ((nI_eq0 (by omega)).mp z) (by omega)
      have hm := Nat.mod_lt n (show d + 1 > 0 by omega)
      refine ⟨fun z => absurd ((nI_ltI (by omega) (by omega)).mp z) (by omega), fun _ => ⟨hd0, ?_⟩⟩
      rw [nI_rem (by omega) (by omega) (by omega), nI_eq0 (by omega)]
      refine ⟨fun z => ?_, fun z => ⟨hd0, ?_⟩⟩
      · rintro _ rfl
        rw [nI_1]
        rw [if_neg z] at ih
        exact ih
      · have hdl := Nat.div_le_self n (d + 1)
        have hdp : 1 ≤ n / (d + 1) := Nat.div_pos (by omega) (by omega)
        rw [pk_div (by omega) (by omega) (by omega)]
        refine sp_signOf (by omega) ?_
        rw [if_pos z] at ih
        have el : lshl (sgF (n / (d + 1)) 32 (n / (d + 1)) 1 2).toInt64 (nI (d + 1)) = (sgF (n / (d + 1)) 32 (n / (d + 1)) 1 2).toInt64 * lshl 1 (nI (d + 1)) := by
          have hl := lshl_sign (d + 1) (by omega)
          rcases sg_val (n / (d + 1)) (by omega) hdp with q | q | q <;> rw [q]
          · exact hl.1
          · exact hl.2.1
          · exact hl.2.2
        rintro _ rfl _ rfl
        rw [el, nI_1]
        exact ih
  unfold cf_Families_countIrreducible
  exact ⟨_, key n 0 (by omega) (n + 1) (by omega)⟩
theorem mp_manyLoop {w0 : Wd} {now : Nat → Int64} {u : Nat} {past : Nat → Nat → Int64} {kb : Nat → Bool} {shelf : Nat → Nat → Int64} (hc : core w0 now u past kb shelf) {n : Nat} {P : Int64 → Wd → Prop} (h1 : 1 ≤ n) (hn : n ≤ 31) (h : ∀ w', core w' now u past kb shelf → P (gsum n n / lN n) w') : ∃ n', cf_M_many_L37 P n' (nI n) (0 : Int64) (1 : Int32) w0 := by
  have key : ∀ m d w, d + m = n → core w now u past kb shelf → ∀ n', m < n' → cf_M_many_L37 P n' (nI n) (gsum n d) (nI (d + 1)) w := by
    intro m
    induction m with
    | zero =>
      intro d w hd hcw n' hn'
      obtain ⟨n', rfl⟩ : ∃ m, n' = m + 1 := ⟨n' - 1, by omega⟩
      show cf_M_many_B37 _ _ _ _ _ _
      unfold cf_M_many_B37
      have : d = n := by omega
      subst this
      refine ⟨fun _ => ?_, fun z => absurd ((nI_ltI (by omega) (by omega)).mpr (by omega)) z⟩
      rw [nI_l (by omega)]
      exact ⟨lN_ne (b := 0) (by omega) (by decide) (by omega), h w hcw⟩
    | succ m ih =>
      intro d w hd hcw n' hn'
      obtain ⟨n', rfl⟩ : ∃ m, n' = m + 1 := ⟨n' - 1, by omega⟩
      show cf_M_many_B37 _ _ _ _ _ _
      unfold cf_M_many_B37
      have e : gsum n (d + 1) = if n % (d + 1) = 0 then gsum n d + (sgF (n / (d + 1)) 32 (n / (d + 1)) 1 2).toInt64 * lshl 1 (nI (d + 1)) else gsum n d := rfl
      have hd0 : ¬ nI (d + 1) = 0 := fun z => absurd ((nI_eq0 (by omega)).mp z) (by omega)
      have hm := Nat.mod_lt n (show d + 1 > 0 by omega)
      refine ⟨fun z => absurd ((nI_ltI (by omega) (by omega)).mp z) (by omega), fun _ => ⟨hd0, ?_⟩⟩
      rw [nI_rem (by omega) (by omega) (by omega), nI_eq0 (by omega)]
      refine ⟨fun z => ?_, fun z => ⟨hd0, ?_⟩⟩
      · rintro _ rfl
        rw [nI_1]
        have ih := ih (d + 1) w (by omega) hcw n' (by omega)
        rw [e, if_neg z] at ih
        exact ih
      · have hdl := Nat.div_le_self n (d + 1)
        have hdp : 1 ≤ n / (d + 1) := Nat.div_pos (by omega) (by omega)
        rw [pk_div (by omega) (by omega) (by omega)]
        refine mp_moebius hdp (by omega) (fun w2 k1 => ?_)
        have ih := ih (d + 1) w2 (by omega) (core_primes hcw k1) n' (by omega)
        rw [e, if_pos z] at ih
        rintro _ rfl _ rfl
        rw [nI_1]
        exact ih
  exact ⟨_, key n 0 w0 (by omega) hc (n + 1) (by omega)⟩
theorem op_many {w : Wd} (hI : Inv w) (a0 : Int32) (a1 : Int32) : same1 (cf_T_many a0 a1 w) (cf_M_many a0 a1) := by
  intro G h
  obtain ⟨now, u, past, kb, shelf, hc⟩ := hI
  have hI := core_Inv hc
  unfold cf_T_many
  rw [lt_k 1 (n := 1) (by decide), le_k 31 (n := 31) (by decide)]
  have no : ¬ (1 ≤ a0.toInt ∧ a0.toInt ≤ 31) → G (-1) w := fun hn => both_stay hI h (fun F hF => by
    unfold cf_M_many
    exact mp_inI (lo := 1) (hi := 31) (by decide) (by decide) (fun q => absurd q hn) (fun _ => ⟨fun z => absurd rfl z, fun _ => hF⟩))
  refine ⟨fun z => no (by omega), fun c1 => ⟨fun c2 => ?_, fun z => no (by omega)⟩⟩
  obtain ⟨n, hn, rfl, en⟩ := nat_of (a := a0) (by omega)
  refine ⟨fun z => ?_, fun z => ?_⟩
  · refine sp_countIrreducible (by omega) (by omega) (h _ _ (fun F hF => ?_))
    unfold cf_M_many
    exact mp_inI (lo := 1) (hi := 31) (by decide) (by decide) (fun _ => ⟨fun _ => ⟨fun _ => mp_manyLoop hc (by omega) (by omega) (fun w2 k1 => hF w2 (core_Inv k1)), fun y => absurd z y⟩, fun y => absurd y one_ne'⟩) (fun q => absurd ⟨by omega, c2⟩ q)
  · refine sp_countPrimitive (by omega) (by omega) (fun w1 ps k1 k2 => h _ _ (fun F hF => ?_))
    have hc1 := core_cls hc (Or.inl rfl) k1
    have hpw : 2 ^ n ≤ 2 ^ 31 := Nat.pow_le_pow_right (by omega) (by omega)
    unfold cf_M_many
    refine mp_inI (lo := 1) (hi := 31) (by decide) (by decide) (fun _ => ⟨fun _ => ⟨fun y => absurd y z, fun _ => mp_allOnes (by omega) ?_⟩, fun y => absurd y one_ne'⟩) (fun q => absurd ⟨by omega, c2⟩ q)
    refine mp_coprimes (by omega) (by omega) (fun w2 ps' j1 j2 => ?_) (fun _ _ => Or.inr trivial)
    have := isPL_unique j2 k2
    subst this
    have hle := phiM_le (fun p hp => ((j2.1 p).mp hp).1.1) (nprod_dvd (fun p hp => (j2.1 p).mp hp) j2.2)
    rw [nI_l (by omega), ldiv_lN (by omega) (by omega) (by omega)]
    exact ⟨lN_ne (b := 0) (by omega) (by decide) (by omega), hF w2 (core_Inv (core_primes hc1 j1))⟩
