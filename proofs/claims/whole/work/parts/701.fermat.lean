-- polynomials by a modulus: congruence, Fermat, roots
def cg (f a b : Nat) : Prop := pdvd f (a ^^^ b)
theorem cg_refl (f a : Nat) : cg f a a := by unfold cg; rw [Nat.xor_self]; exact pdvd_zero f
theorem cg_of_eq {f a b : Nat} (h : a = b) : cg f a b := h ▸ cg_refl f a
theorem cg_symm {f a b : Nat} (h : cg f a b) : cg f b a := by unfold cg at *; rw [Nat.xor_comm]; exact h
theorem xor_mid (a b c : Nat) : (a ^^^ b) ^^^ (b ^^^ c) = a ^^^ c := by rw [Nat.xor_assoc, ← Nat.xor_assoc b, Nat.xor_self, Nat.zero_xor]
theorem cg_trans {f a b c : Nat} (h1 : cg f a b) (h2 : cg f b c) : cg f a c := by
  unfold cg at *
  rw [← xor_mid a b c]
  exact pdvd_xor h1 h2
theorem xor_swap4 (a b c d : Nat) : (a ^^^ c) ^^^ (b ^^^ d) = (a ^^^ b) ^^^ (c ^^^ d) := by ac_rfl
theorem cg_xor {f a b c d : Nat} (h1 : cg f a b) (h2 : cg f c d) : cg f (a ^^^ c) (b ^^^ d) := by
  unfold cg at *
  rw [xor_swap4]
  exact pdvd_xor h1 h2
theorem cg_cm {f a b c d : Nat} (h1 : cg f a b) (h2 : cg f c d) : cg f (cm a c) (cm b d) := by
  have e : cm a c ^^^ cm b d = cm (a ^^^ b) c ^^^ cm b (c ^^^ d) := by
    rw [cm_xor_left, cm_xor_right, xor_mid]
  unfold cg at *
  rw [e]
  exact pdvd_xor (pdvd_mul_right _ h1) (pdvd_mul_left _ h2)
theorem cg_pow {f a b : Nat} (h : cg f a b) (n : Nat) : cg f (ppow a n) (ppow b n) := by
  induction n with
  | zero => exact cg_refl _ _
  | succ n ih => exact cg_cm h ih
theorem cg_pmod {f : Nat} (hf : f ≠ 0) (a : Nat) : cg f (pmod a f) a := by
  have e := pdm_eq hf a
  refine ⟨pdiv a f, ?_⟩
  have e2 : pmod a f ^^^ a = pmod a f ^^^ (cm (pdiv a f) f ^^^ pmod a f) := by rw [e]
  rw [e2, Nat.xor_comm (cm _ _), ← Nat.xor_assoc, Nat.xor_self, Nat.zero_xor]
theorem cg_iff {f : Nat} (hf : f ≠ 0) (a b : Nat) : cg f a b ↔ pmod a f = pmod b f := by
  unfold cg
  rw [pdvd_iff hf, pmod_xor hf, xor_eq_zero']
theorem cg_small {f a b : Nat} (hf : f ≠ 0) (h : cg f a b) (ha : a < 2 ^ dg f) (hb : b < 2 ^ dg f) : a = b := by
  have := (cg_iff hf a b).mp h
  rw [pmod_small ha, pmod_small hb] at this
  exact this
theorem cg_zero {f a : Nat} : cg f a 0 ↔ pdvd f a := by unfold cg; rw [Nat.xor_zero]
theorem cg_dvd {f g a b : Nat} (h : pdvd g f) (hc : cg f a b) : cg g a b := pdvd_trans h hc
theorem small_dvd {f a : Nat} (hf : f ≠ 0) (h : pdvd f a) (ha : a < 2 ^ dg f) : a = 0 := by
  have := (pdvd_iff hf a).mp h
  rw [pmod_small ha] at this
  exact this
theorem pmod_of_cg {f a b : Nat} (hf : f ≠ 0) (h : cg f a b) (hb : b < 2 ^ dg f) : pmod a f = b := by
  rw [(cg_iff hf a b).mp h, pmod_small hb]
theorem irr_dvd_pprod {p : Nat} (hp : irr p) : ∀ {l : List Nat}, pdvd p (pprod l) → ∃ b, b ∈ l ∧ pdvd p b
  | [], h => absurd h (irr_not_one hp)
  | a :: l, h => by
    rcases irr_euclid hp h with h1 | h1
    · exact ⟨a, List.mem_cons_self, h1⟩
    · obtain ⟨b, h2, h3⟩ := irr_dvd_pprod hp h1
      exact ⟨b, List.mem_cons_of_mem _ h2, h3⟩
theorem pprod_map {p a : Nat} (hp : p ≠ 0) : ∀ l : List Nat, cg p (pprod (l.map (fun b => pmod (cm a b) p))) (cm (ppow a l.length) (pprod l))
  | [] => cg_of_eq (one_cm 1).symm
  | b :: l => by
    have h := cg_cm (cg_pmod hp (cm a b)) (pprod_map (a := a) hp l)
    have e : cm (cm a b) (cm (ppow a l.length) (pprod l)) = cm (ppow a (b :: l).length) (pprod (b :: l)) := by
      simp only [List.length_cons, ppow, pprod]
      rw [cm_assoc, cm_left_comm b, cm_assoc]
    exact e ▸ h
theorem irr_inv {p a : Nat} (hp : irr p) (h : ¬ pdvd p a) : ∃ u, u < 2 ^ dg p ∧ cg p (cm u a) 1 := by
  obtain ⟨h1, h2, u, v, e⟩ := pgcd_spec p a
  rw [irr_coprime hp h] at e
  have hv : cg p (cm v a) 1 := by
    rw [e]
    refine cg_symm ?_
    unfold cg
    rw [Nat.xor_assoc, Nat.xor_self, Nat.xor_zero]
    exact pdvd_cm_right u p
  exact ⟨pmod v p, pmod_lt (irr_ne hp) v, cg_trans (cg_cm (cg_pmod (irr_ne hp) v) (cg_refl p a)) hv⟩
theorem irr_cancel {p a b c : Nat} (hp : irr p) (h : ¬ pdvd p a) (hc : cg p (cm a b) (cm a c)) : cg p b c := by
  unfold cg at *
  rw [← cm_xor_right] at hc
  exact (irr_euclid hp hc).resolve_left h
theorem fermat1 {p a : Nat} (hp : irr p) (h : ¬ pdvd p a) : cg p (ppow a (2 ^ dg p - 1)) 1 := by
  have hp0 := irr_ne hp
  have hpow : 0 < 2 ^ dg p := Nat.pow_pos (by omega)
  have hm : ∀ b, b ∈ List.range' 1 (2 ^ dg p - 1) ↔ 1 ≤ b ∧ b < 2 ^ dg p := by
    intro b
    rw [List.mem_range'_1]
    omega
  have nd : (List.range' 1 (2 ^ dg p - 1)).Nodup := List.nodup_range'
  have nz : ∀ b, b ∈ List.range' 1 (2 ^ dg p - 1) → ¬ pdvd p b := by
    intro b hb hd
    have := small_dvd hp0 hd ((hm b).mp hb).2
    have := ((hm b).mp hb).1
    omega
  have inj : ((List.range' 1 (2 ^ dg p - 1)).map (fun b => pmod (cm a b) p)).Nodup := by
    unfold List.Nodup
    rw [List.pairwise_map]
    refine List.Pairwise.imp_of_mem ?_ nd
    intro x y hx hy hne he
    refine hne (cg_small hp0 (irr_cancel hp h ((cg_iff hp0 _ _).mpr he)) ((hm x).mp hx).2 ((hm y).mp hy).2)
  have perm : ((List.range' 1 (2 ^ dg p - 1)).map (fun b => pmod (cm a b) p)).Perm (List.range' 1 (2 ^ dg p - 1)) := by
    refine (List.perm_ext_iff_of_nodup inj nd).mpr (fun b => ⟨fun hb => ?_, fun hb => ?_⟩)
    · obtain ⟨x, hx, rfl⟩ := List.mem_map.mp hb
      refine (hm _).mpr ⟨?_, pmod_lt hp0 _⟩
      refine Nat.pos_of_ne_zero (fun z => ?_)
      rcases irr_euclid hp ((pdvd_iff hp0 _).mpr z) with q | q
      · exact h q
      · exact nz x hx q
    · obtain ⟨u, hu, hc⟩ := irr_inv hp h
      have e : pmod (cm a (pmod (cm u b) p)) p = b := by
        refine pmod_of_cg hp0 ?_ ((hm b).mp hb).2
        refine cg_trans (cg_cm (cg_refl p a) (cg_pmod hp0 _)) ?_
        have e2 : cm a (cm u b) = cm (cm u a) b := by rw [cm_assoc, cm_left_comm]
        rw [e2]
        have := cg_cm hc (cg_refl p b)
        rw [one_cm] at this
        exact this
      refine List.mem_map.mpr ⟨pmod (cm u b) p, (hm _).mpr ⟨?_, pmod_lt hp0 _⟩, e⟩
      refine Nat.pos_of_ne_zero (fun z => ?_)
      rw [z, cm_zero, pmod_zero] at e
      have := ((hm b).mp hb).1
      omega
  have h1 := pprod_map (a := a) hp0 (List.range' 1 (2 ^ dg p - 1))
  rw [pprod_perm perm, List.length_range'] at h1
  have h2 : pdvd p (cm (1 ^^^ ppow a (2 ^ dg p - 1)) (pprod (List.range' 1 (2 ^ dg p - 1)))) := by
    rw [cm_xor_left, one_cm]
    exact h1
  rcases irr_euclid hp h2 with q | q
  · exact cg_symm q
  · obtain ⟨b, h3, h4⟩ := irr_dvd_pprod hp q
    exact absurd h4 (nz b h3)
theorem ppow_zero' (n : Nat) (h : 1 ≤ n) : ppow 0 n = 0 := by
  obtain ⟨m, rfl⟩ : ∃ m, n = m + 1 := ⟨n - 1, by omega⟩
  exact zero_cm _
theorem fermat {p : Nat} (hp : irr p) (a : Nat) : cg p (ppow a (2 ^ dg p)) a := by
  have hpow : 0 < 2 ^ dg p := Nat.pow_pos (by omega)
  by_cases h : pdvd p a
  · have h0 : cg p a 0 := cg_zero.mpr h
    refine cg_trans (cg_pow h0 _) ?_
    rw [ppow_zero' _ hpow]
    exact cg_symm h0
  · have e : 2 ^ dg p = (2 ^ dg p - 1) + 1 := by omega
    rw [e]
    show cg p (cm a (ppow a (2 ^ dg p - 1))) a
    have := cg_cm (cg_refl p a) (fermat1 hp h)
    rw [cm_one] at this
    exact this
-- Frobenius
theorem fro_succ (a k : Nat) : ppow a (2 ^ (k + 1)) = cm (ppow a (2 ^ k)) (ppow a (2 ^ k)) := by
  rw [Nat.pow_succ, Nat.mul_two, ppow_add]
theorem fro_zero (a : Nat) : ppow a (2 ^ 0) = a := ppow_one a
theorem sq_xor (a b : Nat) : cm (a ^^^ b) (a ^^^ b) = cm a a ^^^ cm b b := by
  rw [cm_xor_left, cm_xor_right, cm_xor_right, cm_comm b a, xor_mid]
theorem fro_xor (a b k : Nat) : ppow (a ^^^ b) (2 ^ k) = ppow a (2 ^ k) ^^^ ppow b (2 ^ k) := by
  induction k with
  | zero => rw [fro_zero, fro_zero, fro_zero]
  | succ k ih => rw [fro_succ, fro_succ, fro_succ, ih, sq_xor]
theorem fro_add (a j k : Nat) : ppow a (2 ^ (j + k)) = ppow (ppow a (2 ^ j)) (2 ^ k) := by rw [Nat.pow_add, ppow_mul]
theorem ppow_one_left (n : Nat) : ppow 1 n = 1 := by
  induction n with
  | zero => rfl
  | succ n ih => show cm 1 (ppow 1 n) = 1; rw [ih, one_cm]
theorem fro_pcomp (a g k : Nat) : ppow (pcomp a g) (2 ^ k) = pcomp a (ppow g (2 ^ k)) := by
  induction a using Nat.strongRecOn with
  | _ a ih =>
    by_cases h : a = 0
    · subst h
      rw [pcomp_zero, pcomp_zero, ppow_zero' _ (Nat.pow_pos (by omega))]
    · rw [pcomp_step a g, pcomp_step a (ppow g _), fro_xor, ppow_cm, ih (a / 2) (by omega)]
      have : a % 2 = 0 ∨ a % 2 = 1 := by omega
      rcases this with q | q <;> rw [q]
      · rw [ppow_zero' _ (Nat.pow_pos (by omega))]
      · rw [ppow_one_left]
theorem cg_pcomp {f g h : Nat} (a : Nat) (hc : cg f g h) : cg f (pcomp a g) (pcomp a h) := by
  induction a using Nat.strongRecOn with
  | _ a ih =>
    by_cases h : a = 0
    · subst h
      rw [pcomp_zero, pcomp_zero]
      exact cg_refl _ _
    · rw [pcomp_step a g, pcomp_step a]
      exact cg_xor (cg_cm (ih (a / 2) (by omega)) hc) (cg_refl _ _)
theorem pcomp_id (a : Nat) : pcomp a 2 = a := by
  induction a using Nat.strongRecOn with
  | _ a ih =>
    by_cases h : a = 0
    · subst h; exact pcomp_zero 2
    · rw [pcomp_step, ih (a / 2) (by omega), show (2 : Nat) = 2 ^ 1 from rfl, cm_pow_two]
      have := nat_split a
      rw [Nat.xor_comm] at this
      rw [Nat.mul_comm] at this
      exact this.symm
/-- x to the 2 to the k -/
def fx (k : Nat) : Nat := ppow 2 (2 ^ k)
theorem fx_zero : fx 0 = 2 := ppow_one 2
theorem fx_succ (k : Nat) : fx (k + 1) = cm (fx k) (fx k) := fro_succ 2 k
theorem fx_mul {p : Nat} (hp : irr p) (j : Nat) : cg p (fx (dg p * j)) 2 := by
  induction j with
  | zero => exact cg_of_eq fx_zero
  | succ j ih =>
    have e : fx (dg p * (j + 1)) = ppow (fx (dg p * j)) (2 ^ dg p) := by
      show ppow 2 _ = _
      rw [Nat.mul_succ, fro_add]
      rfl
    rw [e]
    exact cg_trans (cg_pow ih _) (fermat hp 2)
theorem fx_self {p : Nat} (hp : irr p) : cg p (fx (dg p)) 2 := fermat hp 2
-- polynomials over a field: lists of coefficients, the lowest first
def ev : List Nat → Nat → Nat
  | [], _ => 0
  | a :: l, v => a ^^^ cm v (ev l v)
def syn : List Nat → Nat → List Nat
  | [], _ => []
  | [_], _ => []
  | _ :: b :: l, v => ev (b :: l) v :: syn (b :: l) v
theorem syn_length (v : Nat) : ∀ l : List Nat, (syn l v).length = l.length - 1
  | [] => rfl
  | [_] => rfl
  | _ :: b :: l => by
    show (syn (b :: l) v).length + 1 = _
    rw [syn_length v (b :: l)]
    simp
theorem syn_ev (v w : Nat) : ∀ l : List Nat, ev l w ^^^ ev l v = cm (w ^^^ v) (ev (syn l v) w)
  | [] => by
    show (0 : Nat) ^^^ 0 = cm _ 0
    rw [cm_zero]
    rfl
  | [a] => by
    show (a ^^^ cm w 0) ^^^ (a ^^^ cm v 0) = cm _ 0
    rw [cm_zero, cm_zero, cm_zero, Nat.xor_zero, Nat.xor_self]
  | a :: b :: l => by
    have ih := syn_ev v w (b :: l)
    show (a ^^^ cm w (ev (b :: l) w)) ^^^ (a ^^^ cm v (ev (b :: l) v)) = cm (w ^^^ v) (ev (b :: l) v ^^^ cm w (ev (syn (b :: l) v) w))
    rw [cm_xor_right, cm_left_comm, ← ih, cm_xor_left w v, cm_xor_right w, xor_swap4, Nat.xor_self, Nat.zero_xor]
    rw [Nat.xor_comm (cm w (ev (b :: l) v)) (cm v _), Nat.xor_comm (cm w (ev (b :: l) w)) (cm w (ev (b :: l) v)), xor_mid, Nat.xor_comm]
theorem syn_zero {p v : Nat} : ∀ l : List Nat, pdvd p (ev l v) → (∀ c, c ∈ syn l v → pdvd p c) → ∀ c, c ∈ l → pdvd p c
  | [], _, _, c, hc => absurd hc (by simp)
  | [a], h, _, c, hc => by
    have e : ev [a] v = a := by show a ^^^ cm v 0 = a; rw [cm_zero, Nat.xor_zero]
    rw [List.mem_singleton] at hc
    rw [hc, ← e]
    exact h
  | a :: b :: l, h, hs, c, hc => by
    have h1 : pdvd p (ev (b :: l) v) := hs _ List.mem_cons_self
    have h2 := syn_zero (b :: l) h1 (fun c hc => hs c (List.mem_cons_of_mem _ hc))
    rcases List.mem_cons.mp hc with q | q
    · rw [q]
      have h3 : pdvd p (cm v (ev (b :: l) v)) := pdvd_mul_left _ h1
      have h4 : pdvd p (cm v (ev (b :: l) v) ^^^ a) := by rw [Nat.xor_comm]; exact h
      exact pdvd_xor_cancel h3 h4
    · exact h2 c q
/-- as many roots as coefficients: all are 0 -/
theorem roots_zero {p : Nat} (hp : irr p) : ∀ (vs l : List Nat), l.length ≤ vs.length → vs.Pairwise (fun v w => ¬ cg p v w) → (∀ v, v ∈ vs → pdvd p (ev l v)) → ∀ c, c ∈ l → pdvd p c
  | [], l, hl, _, _, c, hc => by
    have : l = [] := List.length_eq_zero_iff.mp (by simpa using hl)
    subst this
    exact absurd hc (by simp)
  | v :: vs, l, hl, hw, hr, c, hc => by
    refine syn_zero l (hr v List.mem_cons_self) ?_ c hc
    refine roots_zero hp vs (syn l v) ?_ (List.pairwise_cons.mp hw).2 ?_
    · rw [syn_length]
      simp at hl
      omega
    · intro w hm
      have h1 := pdvd_xor (hr w (List.mem_cons_of_mem _ hm)) (hr v List.mem_cons_self)
      rw [syn_ev] at h1
      refine (irr_euclid hp h1).resolve_left (fun q => ?_)
      exact (List.pairwise_cons.mp hw).1 w hm (cg_symm q)
def bl : Nat → Nat → List Nat
  | 0, _ => []
  | n + 1, a => (a % 2) :: bl n (a / 2)
theorem bl_length : ∀ n a, (bl n a).length = n
  | 0, _ => rfl
  | n + 1, a => by show (bl n (a / 2)).length + 1 = n + 1; rw [bl_length]
theorem ev_bl (v : Nat) : ∀ n a, a < 2 ^ n → ev (bl n a) v = pcomp a v
  | 0, a, h => by
    have : a = 0 := by simpa using h
    subst this
    exact (pcomp_zero v).symm
  | n + 1, a, h => by
    show a % 2 ^^^ cm v (ev (bl n (a / 2)) v) = _
    rw [ev_bl v n (a / 2) (by rw [Nat.pow_succ] at h; omega), pcomp_step a, cm_comm v, Nat.xor_comm]
theorem bl_mem : ∀ n a, a < 2 ^ n → (∀ c, c ∈ bl n a → c = 0) → a = 0
  | 0, a, h, _ => by simpa using h
  | n + 1, a, h, hc => by
    have h1 : a % 2 = 0 := hc _ List.mem_cons_self
    have h2 := bl_mem n (a / 2) (by rw [Nat.pow_succ] at h; omega) (fun c q => hc c (List.mem_cons_of_mem _ q))
    omega
theorem bl_two : ∀ n a c, c ∈ bl n a → c = 0 ∨ c = 1
  | 0, _, c, h => absurd h (by simp [bl])
  | n + 1, a, c, h => by
    rcases List.mem_cons.mp h with q | q
    · omega
    · exact bl_two n (a / 2) c q
/-- a polynomial has no more roots in a field than its degree -/
theorem roots_le {p s : Nat} (hp : irr p) (hs : s ≠ 0) {vs : List Nat} (hw : vs.Pairwise (fun v w => ¬ cg p v w)) (hr : ∀ v, v ∈ vs → pdvd p (pcomp s v)) : vs.length ≤ dg s := by
  refine Nat.le_of_not_lt (fun hlt => hs ?_)
  have hb := (dg_self hs).2
  refine bl_mem (dg s + 1) s hb (fun c hc => ?_)
  have := roots_zero hp vs (bl (dg s + 1) s) (by rw [bl_length]; omega) hw (fun v hv => by rw [ev_bl v _ _ hb]; exact hr v hv) c hc
  rcases bl_two _ _ _ hc with q | q
  · exact q
  · rw [q] at this
    exact absurd this (irr_not_one hp)
theorem all_inc {p : Nat} (hp : irr p) : (List.range (2 ^ dg p)).Pairwise (fun v w => ¬ cg p v w) := by
  refine List.Pairwise.imp_of_mem ?_ (List.nodup_range (n := 2 ^ dg p))
  intro a b ha hb hne hc
  exact hne (cg_small (irr_ne hp) hc (List.mem_range.mp ha) (List.mem_range.mp hb))
theorem pcomp_ppow2 (v : Nat) : ∀ n, pcomp (ppow 2 n) v = ppow v n
  | 0 => pcomp_one v
  | n + 1 => by
    show pcomp (cm 2 (ppow 2 n)) v = cm v (ppow v n)
    rw [pcomp_cm, pcomp_x, pcomp_ppow2 v n]
theorem pcomp_fx (k v : Nat) : pcomp (fx k) v = ppow v (2 ^ k) := pcomp_ppow2 v _
theorem ppow_2 (n : Nat) : ppow 2 n = 2 ^ n := by
  have := ppow_two 1 n
  rw [Nat.mul_one] at this
  exact this
theorem fx_eq (k : Nat) : fx k = 2 ^ (2 ^ k) := ppow_2 _
theorem dg_pow (k : Nat) : dg (2 ^ k) = k := Nat.log2_two_pow
theorem fxx_dg {m : Nat} (hm : 1 ≤ m) : fx m ^^^ 2 ≠ 0 ∧ dg (fx m ^^^ 2) = 2 ^ m := by
  have h1 : 2 ≤ 2 ^ m := by
    have := Nat.pow_le_pow_right (show 0 < 2 by omega) hm
    omega
  have h2 : (2 : Nat) < 2 ^ (2 ^ m) := Nat.lt_of_lt_of_le (show 2 < 2 ^ 2 by omega) (Nat.pow_le_pow_right (by omega) h1)
  have h3 := xor_top (x := fx m) (y := 2) (k := 2 ^ m) (by rw [fx_eq]; omega) (by rw [fx_eq]; exact Nat.pow_lt_pow_right (by omega) (by omega)) h2
  have h4 : fx m ^^^ 2 ≠ 0 := by
    have := Nat.pow_pos (n := 2 ^ m) (show 0 < 2 by omega)
    omega
  exact ⟨h4, (log2_iff h4).mpr h3⟩
/-- x to the 2 to the m is x by none of a greater degree -/
theorem fx_deg {p m : Nat} (hp : irr p) (hm : 1 ≤ m) (h : cg p (fx m) 2) : dg p ≤ m := by
  have h1 := fxx_dg hm
  have h2 := roots_le hp h1.1 (all_inc hp) (fun v _ => ?_)
  · rw [List.length_range, h1.2] at h2
    exact (Nat.pow_le_pow_iff_right (by omega)).mp h2
  · rw [pcomp_add, pcomp_x, pcomp_fx]
    have e := fro_pcomp v 2 m
    rw [pcomp_id] at e
    rw [e]
    have h3 := cg_pcomp v h
    rw [pcomp_id] at h3
    exact h3
