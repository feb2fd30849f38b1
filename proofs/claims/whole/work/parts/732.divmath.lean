-- how many divisors, and their lists
def cmf : Nat → Nat → Nat → Nat
  | 0, _, _ => 0
  | n + 1, a, b => (if b % 2 = 1 then a else 0) ^^^ (2 * cmf n a (b / 2))
theorem cm_cmf (a : Nat) : ∀ n b, b < 2 ^ n → cm a b = cmf n a b
  | 0, b, h => by
    have : b = 0 := by
      have : (2 : Nat) ^ 0 = 1 := rfl
      omega
    rw [this, cm_zero]; rfl
  | n + 1, b, h => by
    rw [cm_step, cm_cmf a n (b / 2) (by rw [Nat.pow_succ] at h; omega)]
    rfl
def smalls : List Nat := [2, 3, 7, 11, 13, 19, 25, 31, 37, 41, 47, 55, 59, 61]
theorem small_tab : ∀ b, b < 64 → 2 ≤ b → b ∉ smalls → ∃ e, e < 8 ∧ 2 ≤ e ∧ e < b ∧ ∃ q, q < 32 ∧ b = cmf 3 q e := by decide +kernel
theorem small_irr {b : Nat} (h : b < 64) (hb : irr b) : b ∈ smalls := by
  refine Classical.byContradiction (fun hn => ?_)
  obtain ⟨e, he, he2, heb, q, hq, e1⟩ := small_tab b h hb.1 hn
  rw [← cm_cmf q 3 e he] at e1
  rcases hb.2 e ⟨q, e1⟩ with z | z <;> omega
def ndv : List (Nat × Nat) → Nat
  | [] => 1
  | b :: l => (b.2 + 1) * ndv l
def tdeg : List (Nat × Nat) → Nat
  | [] => 0
  | b :: l => b.2 * dg b.1 + tdeg l
theorem tdeg_eq {bs : List (Nat × Nat)} (h : ∀ b, b ∈ bs → irr b.1 ∧ 1 ≤ b.2) : dg (pprod (rep bs)) = tdeg bs := by
  induction bs with
  | nil => decide
  | cons b l ih =>
    have hb := h b List.mem_cons_self
    have hl : ∀ x, x ∈ l → irr x.1 ∧ 1 ≤ x.2 := fun x hx => h x (List.mem_cons_of_mem _ hx)
    have e : pprod (rep (b :: l)) = cm (ppow b.1 b.2) (pprod (rep l)) := by
      show pprod (List.replicate b.2 b.1 ++ rep l) = _
      rw [pprod_append, pprod_replicate]
    rw [e, dg_cm (ppow_ne (irr_ne hb.1) _) (pprod_ne (rep_irr (fun x hx => (hl x hx).1))), dg_ppow (irr_ne hb.1), ih hl]
    rfl
theorem ndv_pos (bs : List (Nat × Nat)) : 1 ≤ ndv bs := by
  induction bs with
  | nil => exact Nat.le_refl _
  | cons b l ih => exact Nat.mul_pos (by omega) ih
def mxl : List Nat → Nat
  | [] => 0
  | a :: l => max a (mxl l)
theorem le_mxl {l : List Nat} {x : Nat} (h : x ∈ l) : x ≤ mxl l := by
  induction l with
  | nil => exact absurd h (by simp)
  | cons a l ih =>
    rcases List.mem_cons.mp h with e | e
    · rw [e]; exact Nat.le_max_left _ _
    · exact Nat.le_trans (ih e) (Nat.le_max_right _ _)
def dpStep (d : Nat) (B : List Nat) : List Nat := (List.range 32).map (fun n => mxl ((List.range 32).map (fun t => if t * d ≤ n then (t + 1) * B.getD (n - t * d) 0 else 0)))
theorem range_get (f : Nat → Nat) {n : Nat} (h : n < 32) : ((List.range 32).map f).getD n 0 = f n := by
  rw [List.getD_eq_getElem?_getD, List.getElem?_map, List.getElem?_range h]
  rfl
theorem dpStep_le {d n t : Nat} {B : List Nat} (hn : n < 32) (ht : t < 32) (h : t * d ≤ n) : (t + 1) * B.getD (n - t * d) 0 ≤ (dpStep d B).getD n 0 := by
  unfold dpStep
  rw [range_get _ hn]
  refine le_mxl (List.mem_map.mpr ⟨t, List.mem_range.mpr ht, ?_⟩)
  rw [if_pos h]
def bestOK (S B : List Nat) : Prop := ∀ bs : List (Nat × Nat), (bs.map Prod.fst).Pairwise (· < ·) → (∀ b, b ∈ bs → irr b.1 ∧ 1 ≤ b.2 ∧ (b.1 < 64 → b.1 ∈ S)) → ∀ n, n < 32 → tdeg bs ≤ n → ndv bs ≤ B.getD n 0
theorem best_nil : bestOK [] ((List.range 32).map (fun n => 2 ^ (n / 6))) := by
  intro bs _ h n hn hle
  rw [range_get _ hn]
  have key : ∀ l : List (Nat × Nat), (∀ b, b ∈ l → irr b.1 ∧ 1 ≤ b.2 ∧ (b.1 < 64 → b.1 ∈ ([] : List Nat))) → ∃ s, ndv l ≤ 2 ^ s ∧ 6 * s ≤ tdeg l := by
    intro l
    induction l with
    | nil => exact fun _ => ⟨0, Nat.le_refl _, Nat.zero_le _⟩
    | cons b l ih =>
      intro hl
      obtain ⟨s, h1, h2⟩ := ih (fun x hx => hl x (List.mem_cons_of_mem _ hx))
      have hb := hl b List.mem_cons_self
      have h64 : 64 ≤ b.1 := by
        refine Classical.byContradiction (fun z => ?_)
        exact absurd (hb.2.2 (by omega)) (by simp)
      have hd : 6 ≤ dg b.1 := (le_dg (irr_ne hb.1)).mpr h64
      refine ⟨b.2 + s, ?_, ?_⟩
      · show (b.2 + 1) * ndv l ≤ _
        rw [Nat.pow_add]
        exact Nat.mul_le_mul Nat.lt_two_pow_self h1
      · show _ ≤ b.2 * dg b.1 + tdeg l
        have := Nat.mul_le_mul_left b.2 hd
        omega
  obtain ⟨s, h1, h2⟩ := key bs h
  exact Nat.le_trans h1 (Nat.pow_le_pow_right (by decide) (by omega))
theorem best_cons {s : Nat} {S B : List Nat} (hs : s < 64) (hd : 1 ≤ dg s) (hS : ∀ x, x ∈ S → s < x) (h : bestOK S B) : bestOK (s :: S) (dpStep (dg s) B) := by
  intro bs hp hb n hn hle
  have notin : (∀ b, b ∈ bs → b.1 ≠ s) → ndv bs ≤ (dpStep (dg s) B).getD n 0 := by
    intro hne
    have h1 := h bs hp (fun b hbb => ⟨(hb b hbb).1, (hb b hbb).2.1, fun z => by
      rcases List.mem_cons.mp ((hb b hbb).2.2 z) with e | e
      · exact absurd e (hne b hbb)
      · exact e⟩) n hn hle
    have h2 := dpStep_le (d := dg s) (B := B) hn (show 0 < 32 by decide) (by omega)
    rw [Nat.zero_mul, Nat.sub_zero] at h2
    omega
  cases bs with
  | nil => exact notin (fun b hbb => absurd hbb (by simp))
  | cons b l =>
    have hp := List.pairwise_cons.mp hp
    have hb1 := hb b List.mem_cons_self
    have gt : ∀ x, x ∈ l → b.1 < x.1 := fun x hx => hp.1 x.1 (List.mem_map.mpr ⟨x, hx, rfl⟩)
    by_cases e : b.1 = s
    · have hle : b.2 * dg b.1 + tdeg l ≤ n := hle
      rw [e] at hle
      have ht : b.2 ≤ b.2 * dg s := Nat.le_mul_of_pos_right _ hd
      have h1 := h l hp.2 (fun x hx => ⟨(hb x (List.mem_cons_of_mem _ hx)).1, (hb x (List.mem_cons_of_mem _ hx)).2.1, fun z => by
        rcases List.mem_cons.mp ((hb x (List.mem_cons_of_mem _ hx)).2.2 z) with y | y
        · have := gt x hx; omega
        · exact y⟩) (n - b.2 * dg s) (by omega) (by omega)
      have h2 := dpStep_le (d := dg s) (B := B) hn (show b.2 < 32 by omega) (by omega)
      exact Nat.le_trans (Nat.mul_le_mul_left (b.2 + 1) h1) h2
    · have hlt : s < b.1 := by
        by_cases c : b.1 < 64
        · rcases List.mem_cons.mp (hb1.2.2 c) with y | y
          · exact absurd y e
          · exact hS _ y
        · omega
      refine notin (fun x hx => ?_)
      rcases List.mem_cons.mp hx with y | y
      · rw [y]; exact e
      · have := gt x y; omega
def best0 : List Nat := (List.range 32).map (fun n => 2 ^ (n / 6))
def bests : List Nat := dpStep 1 (dpStep 1 (dpStep 2 (dpStep 3 (dpStep 3 (dpStep 4 (dpStep 4 (dpStep 4 (dpStep 5 (dpStep 5 (dpStep 5 (dpStep 5 (dpStep 5 (dpStep 5 best0)))))))))))))
theorem bests_ok : bestOK smalls bests :=
  best_cons (s := 2) (by decide) (by decide) (by decide) (best_cons (s := 3) (by decide) (by decide) (by decide) (best_cons (s := 7) (by decide) (by decide) (by decide) (best_cons (s := 11) (by decide) (by decide) (by decide) (best_cons (s := 13) (by decide) (by decide) (by decide) (best_cons (s := 19) (by decide) (by decide) (by decide) (best_cons (s := 25) (by decide) (by decide) (by decide) (best_cons (s := 31) (by decide) (by decide) (by decide) (best_cons (s := 37) (by decide) (by decide) (by decide) (best_cons (s := 41) (by decide) (by decide) (by decide) (best_cons (s := 47) (by decide) (by decide) (by decide) (best_cons (s := 55) (by decide) (by decide) (by decide) (best_cons (s := 59) (by decide) (by decide) (by decide) (best_cons (s := 61) (by decide) (by decide) (by decide) best_nil)))))))))))))
def dp1 : List Nat := dpStep 5 (dpStep 5 (dpStep 5 (dpStep 5 (dpStep 5 (dpStep 5 best0)))))
theorem bests_val : bests.getD 31 0 = 2880 := by decide +kernel
theorem ndv_le {a : Nat} {bs : List (Nat × Nat)} (ha : a < 2 ^ 32) (hB : okB a bs) : ndv bs ≤ 2880 := by
  have h1 := bests_ok bs hB.2.1 (fun b hb => ⟨(hB.2.2 b hb).1, (hB.2.2 b hb).2, fun z => small_irr z (hB.2.2 b hb).1⟩) 31 (by decide) ?_
  · rw [bests_val] at h1; exact h1
  · rw [← tdeg_eq hB.2.2]
    by_cases z : a ≤ 1
    · rw [hB.1.2.2.1 z]; decide
    · rw [hB.1.2.2.2 (by omega)]
      have := (dg_lt (show a ≠ 0 by omega)).mpr ha
      omega
-- sums over lists
def S (f : Nat → Nat) : List Nat → Nat
  | [] => 0
  | a :: l => f a + S f l
theorem S_append (f : Nat → Nat) (l m : List Nat) : S f (l ++ m) = S f l + S f m := by
  induction l with
  | nil => exact (Nat.zero_add _).symm
  | cons a l ih => show f a + S f (l ++ m) = f a + S f l + S f m; rw [ih]; omega
theorem S_map (f g : Nat → Nat) (l : List Nat) : S f (l.map g) = S (fun a => f (g a)) l := by
  induction l with
  | nil => rfl
  | cons a l ih => show f (g a) + _ = f (g a) + _; rw [ih]
theorem S_add (f g : Nat → Nat) (l : List Nat) : S (fun a => f a + g a) l = S f l + S g l := by
  induction l with
  | nil => rfl
  | cons a l ih => show f a + g a + _ = f a + _ + (g a + _); rw [ih]; omega
theorem S_congr {f g : Nat → Nat} {l : List Nat} (h : ∀ a, a ∈ l → f a = g a) : S f l = S g l := by
  induction l with
  | nil => rfl
  | cons a l ih => show f a + _ = g a + _; rw [ih (fun x hx => h x (List.mem_cons_of_mem _ hx)), h a List.mem_cons_self]
theorem S_le {f g : Nat → Nat} {l : List Nat} (h : ∀ a, a ∈ l → f a ≤ g a) : S f l ≤ S g l := by
  induction l with
  | nil => exact Nat.le_refl _
  | cons a l ih =>
    have h1 := ih (fun x hx => h x (List.mem_cons_of_mem _ hx))
    have h2 := h a List.mem_cons_self
    show f a + S f l ≤ g a + S g l
    omega
theorem S_len (l : List Nat) : S (fun _ => 1) l = l.length := by
  induction l with
  | nil => rfl
  | cons a l ih => show 1 + _ = _; rw [ih, List.length_cons]; omega
theorem S_zero {f : Nat → Nat} {l : List Nat} (h : S f l = 0) : ∀ a, a ∈ l → f a = 0 := by
  induction l with
  | nil => intro a ha; exact absurd ha (by simp)
  | cons b l ih =>
    have h : f b + S f l = 0 := h
    intro a ha
    rcases List.mem_cons.mp ha with e | e
    · rw [e]; omega
    · exact ih (by omega) a e
-- the class's row
def rpt (D : List Nat) (p : Nat) : Nat → List Nat
  | 0 => D
  | t + 1 => D ++ (rpt D p t).map (fun a => cm a p)
def cl : List (Nat × Nat) → List Nat → List Nat
  | [], D => D
  | b :: l, D => cl l (rpt D b.1 b.2)
theorem rpt_len (D : List Nat) (p : Nat) : ∀ t, (rpt D p t).length = D.length * (t + 1)
  | 0 => by show D.length = _; omega
  | t + 1 => by
    show (D ++ (rpt D p t).map _).length = _
    rw [List.length_append, List.length_map, rpt_len D p t, Nat.mul_succ D.length (t + 1)]
    omega
theorem rpt_pre (D : List Nat) (p : Nat) : ∀ t, ∃ m, rpt D p (t + 1) = rpt D p t ++ m
  | 0 => ⟨_, rfl⟩
  | t + 1 => by
    obtain ⟨m, hm⟩ := rpt_pre D p t
    refine ⟨m.map (fun a => cm a p), ?_⟩
    show D ++ (rpt D p (t + 1)).map _ = (D ++ (rpt D p t).map _) ++ _
    rw [hm, List.map_append, List.append_assoc]
theorem map_getD0 {l : List Nat} {g : Nat → Nat} {j : Nat} (h : j < l.length) : (l.map g).getD j 0 = g (l.getD j 0) := by
  rw [List.getD_eq_getElem?_getD, List.getD_eq_getElem?_getD, List.getElem?_map, List.getElem?_eq_getElem h]
  rfl
theorem getD_append_right' {l m : List Nat} {j : Nat} (h : l.length ≤ j) : (l ++ m).getD j 0 = m.getD (j - l.length) 0 := by
  rw [List.getD_eq_getElem?_getD, List.getD_eq_getElem?_getD, List.getElem?_append_right h]
theorem rpt_next {D : List Nat} {p t j : Nat} (h : j < D.length * t) : (rpt D p t).getD (D.length + j) 0 = cm ((rpt D p t).getD j 0) p := by
  cases t with
  | zero => omega
  | succ t =>
    have hl : j < (rpt D p t).length := by rw [rpt_len]; exact h
    obtain ⟨m, hm⟩ := rpt_pre D p t
    have e : (rpt D p (t + 1)).getD j 0 = (rpt D p t).getD j 0 := by rw [hm]; exact getD_append_left' hl
    rw [e]
    show (D ++ (rpt D p t).map (fun a => cm a p)).getD (D.length + j) 0 = _
    rw [getD_append_right' (by omega), show D.length + j - D.length = j by omega, map_getD0 hl]
theorem rpt_take {D : List Nat} {p : Nat} : ∀ t, (rpt D p t).take D.length = D
  | 0 => List.take_length
  | t + 1 => by
    show (D ++ _).take D.length = D
    exact List.take_left
theorem cl_len : ∀ (bs : List (Nat × Nat)) (D : List Nat), (cl bs D).length = D.length * ndv bs
  | [], D => (Nat.mul_one _).symm
  | b :: l, D => by
    show (cl l (rpt D b.1 b.2)).length = D.length * ((b.2 + 1) * ndv l)
    rw [cl_len l, rpt_len, Nat.mul_assoc]
theorem rpt_dvd {D : List Nat} {A p : Nat} (h : ∀ x, x ∈ D → pdvd x A) : ∀ t x, x ∈ rpt D p t → pdvd x (cm A (ppow p t))
  | 0, x, hx => by
    show pdvd x (cm A 1)
    rw [cm_one]
    exact h x hx
  | t + 1, x, hx => by
    show pdvd x (cm A (cm p (ppow p t)))
    rw [cm_left_comm]
    rcases List.mem_append.mp hx with e | e
    · exact pdvd_trans (h x e) ⟨cm p (ppow p t), by rw [cm_comm (cm p (ppow p t)) A, cm_left_comm A p]⟩
    · obtain ⟨y, hy, rfl⟩ := List.mem_map.mp e
      obtain ⟨q, hq⟩ := rpt_dvd h t y hy
      exact ⟨q, by rw [hq, cm_left_comm, cm_comm p y]⟩
theorem cl_dvd : ∀ (bs : List (Nat × Nat)) (D : List Nat) (A : Nat), (∀ x, x ∈ D → pdvd x A) → ∀ x, x ∈ cl bs D → pdvd x (cm A (pprod (rep bs)))
  | [], D, A, h, x, hx => by
    show pdvd x (cm A 1)
    rw [cm_one]
    exact h x hx
  | b :: l, D, A, h, x, hx => by
    have h1 := cl_dvd l (rpt D b.1 b.2) (cm A (ppow b.1 b.2)) (rpt_dvd h b.2) x hx
    show pdvd x (cm A (pprod (List.replicate b.2 b.1 ++ rep l)))
    rw [pprod_append, pprod_replicate, ← cm_assoc]
    exact h1
-- the model's row
def tl (R : Nat → List Nat) (p : Nat) : Nat → Nat → List Nat
  | 0, _ => []
  | m + 1, a => R (cm a p) ++ tl R p m (cm a p)
def md : List (Nat × Nat) → Nat → List Nat
  | [], a => [a]
  | b :: l, a => md l a ++ tl (md l) b.1 b.2 a
def TL (g : Nat → Nat) (p : Nat) : Nat → Nat → Nat
  | 0, _ => 0
  | m + 1, a => g (cm a p) + TL g p m (cm a p)
theorem S_tl (f : Nat → Nat) (R : Nat → List Nat) (p : Nat) : ∀ m a, S f (tl R p m a) = TL (fun x => S f (R x)) p m a
  | 0, _ => rfl
  | m + 1, a => by
    show S f (R (cm a p) ++ tl R p m (cm a p)) = S f (R (cm a p)) + _
    rw [S_append, S_tl f R p m]
theorem rpt_map (D : List Nat) (p : Nat) : ∀ t, (rpt D p t).map (fun a => cm a p) = rpt (D.map (fun a => cm a p)) p t
  | 0 => rfl
  | t + 1 => by
    show (D ++ (rpt D p t).map _).map _ = _ ++ (rpt (D.map _) p t).map _
    rw [List.map_append, rpt_map D p t]
theorem S_rpt (g : Nat → Nat) (p : Nat) : ∀ t D, S g (rpt D p t) = S (fun a => g a + TL g p t a) D
  | 0, D => rfl
  | t + 1, D => by
    show S g (D ++ (rpt D p t).map _) = S (fun a => g a + (g (cm a p) + TL g p t (cm a p))) D
    rw [S_append, rpt_map, S_rpt g p t, S_map, S_add g (fun a => g (cm a p) + TL g p t (cm a p))]
theorem S_cl (f : Nat → Nat) : ∀ (bs : List (Nat × Nat)) (D : List Nat), S f (cl bs D) = S (fun a => S f (md bs a)) D
  | [], D => by
    show S f D = S (fun a => f a + 0) D
    rfl
  | b :: l, D => by
    show S f (cl l (rpt D b.1 b.2)) = S (fun a => S f (md l a ++ tl (md l) b.1 b.2 a)) D
    rw [S_cl f l, S_rpt]
    refine S_congr (fun a _ => ?_)
    rw [S_append, S_tl]
-- the k-th of a row
theorem S_one (f : Nat → Nat) (a : Nat) : S f [a] = f a := Nat.add_zero _
def ltN (v : Nat) (e : Nat) : Nat := if e < v then 1 else 0
def leN (v : Nat) (e : Nat) : Nat := if e ≤ v then 1 else 0
theorem kth_unique {L : List Nat} {k v u : Nat} (h1 : S (ltN v) L ≤ k) (h2 : k < S (leN v) L) (h3 : S (ltN u) L ≤ k) (h4 : k < S (leN u) L) : v = u := by
  have no : ∀ {v u : Nat}, k < S (leN v) L → S (ltN u) L ≤ k → ¬ v < u := by
    intro v u a b c
    have : S (leN v) L ≤ S (ltN u) L := S_le (fun e _ => by unfold leN ltN; split <;> split <;> omega)
    omega
  have := no h2 h3
  have := no h4 h1
  omega
theorem kth_sorted {L : List Nat} {k : Nat} (hs : L.Pairwise (· ≤ ·)) (hk : k < L.length) : S (ltN (L.getD k 0)) L ≤ k ∧ k < S (leN (L.getD k 0)) L := by
  have e : L = L.take k ++ L.getD k 0 :: L.drop (k + 1) := by
    rw [getD_lt hk]
    conv => lhs; rw [← List.take_append_drop k L, List.drop_eq_getElem_cons hk]
  have hlen : (L.take k).length = k := by rw [List.length_take]; omega
  generalize hv : L.getD k 0 = v at e ⊢
  generalize L.take k = A at e hlen
  generalize L.drop (k + 1) = C at e
  subst e
  have hp := List.pairwise_append.mp hs
  have hc := List.pairwise_cons.mp hp.2.1
  have eA : S (leN v) A = A.length := by
    rw [← S_len]
    exact S_congr (fun x hx => by unfold leN; rw [if_pos (hp.2.2 x hx v List.mem_cons_self)])
  have lA : S (ltN v) A ≤ A.length := by
    rw [← S_len]
    exact S_le (fun x hx => by unfold ltN; split <;> omega)
  have lC : S (ltN v) (v :: C) = 0 := by
    have : S (ltN v) (v :: C) = S (fun _ => 0) (v :: C) := S_congr (fun x hx => by
      unfold ltN
      rw [if_neg]
      rcases List.mem_cons.mp hx with q | q
      · omega
      · have := hc.1 x q; omega)
    rw [this]
    have : ∀ l : List Nat, S (fun _ => 0) l = 0 := by
      intro l
      induction l with
      | nil => rfl
      | cons a l ih => show 0 + _ = 0; rw [ih]
    exact this _
  rw [S_append, S_append, eA, lC]
  have : S (leN v) (v :: C) = leN v v + S (leN v) C := rfl
  rw [this]
  have : leN v v = 1 := if_pos (Nat.le_refl _)
  omega
