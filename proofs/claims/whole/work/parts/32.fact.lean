-- factors: a list of irreducible ones, rising, is the only one
def pprod : List Nat → Nat
  | [] => 1
  | a :: l => cm a (pprod l)
theorem pprod_append (l m : List Nat) : pprod (l ++ m) = cm (pprod l) (pprod m) := by
  induction l with
  | nil => simp [pprod, one_cm]
  | cons a l ih => simp only [List.cons_append, pprod, ih, cm_assoc]
theorem pprod_perm {l m : List Nat} (h : l.Perm m) : pprod l = pprod m := by
  induction h with
  | nil => rfl
  | cons a _ ih => simp only [pprod, ih]
  | swap a b l => simp only [pprod]; exact cm_left_comm b a (pprod l)
  | trans _ _ i1 i2 => exact i1.trans i2
theorem pprod_ne {l : List Nat} (h : ∀ p ∈ l, irr p) : pprod l ≠ 0 := by
  induction l with
  | nil => decide
  | cons a l ih =>
    exact cm_ne (irr_ne (h a List.mem_cons_self)) (ih (fun p hp => h p (List.mem_cons_of_mem _ hp)))
theorem mem_dvd_pprod {l : List Nat} {p : Nat} (h : p ∈ l) : pdvd p (pprod l) := by
  induction l with
  | nil => cases h
  | cons a l ih =>
    rcases List.mem_cons.mp h with rfl | h
    · exact pdvd_cm_left _ _
    · exact pdvd_mul_left _ (ih h)
theorem irr_mem {l : List Nat} {p : Nat} (hl : ∀ q ∈ l, irr q) (hp : irr p) (h : pdvd p (pprod l)) : p ∈ l := by
  induction l with
  | nil => exact absurd h (irr_not_one hp)
  | cons a l ih =>
    rcases irr_euclid hp h with h1 | h1
    · rw [irr_dvd_irr hp (hl a List.mem_cons_self) h1]
      exact List.mem_cons_self
    · exact List.mem_cons_of_mem _ (ih (fun q hq => hl q (List.mem_cons_of_mem _ hq)) h1)
/-- two rising lists of irreducible ones with the same product are one -/
theorem factors_unique : ∀ {l m : List Nat}, (∀ q ∈ l, irr q) → (∀ q ∈ m, irr q) → l.Pairwise (· ≤ ·) → m.Pairwise (· ≤ ·) → pprod l = pprod m → l = m
  | [], [], _, _, _, _, _ => rfl
  | [], b :: m, _, hm, _, _, h => by
    have : pdvd b 1 := by
      have h2 : pprod ([] : List Nat) = 1 := rfl
      rw [← h2, h]
      exact mem_dvd_pprod List.mem_cons_self
    exact absurd this (irr_not_one (hm b List.mem_cons_self))
  | a :: l, [], hl, _, _, _, h => by
    have : pdvd a 1 := by
      have h2 : pprod ([] : List Nat) = 1 := rfl
      rw [← h2, ← h]
      exact mem_dvd_pprod List.mem_cons_self
    exact absurd this (irr_not_one (hl a List.mem_cons_self))
  | a :: l, b :: m, hl, hm, sl, sm, h => by
    have ha := hl a List.mem_cons_self
    have hb := hm b List.mem_cons_self
    have m1 : a ∈ b :: m := irr_mem hm ha (h ▸ mem_dvd_pprod List.mem_cons_self)
    have m2 : b ∈ a :: l := irr_mem hl hb (h ▸ mem_dvd_pprod List.mem_cons_self)
    have e1 : b ≤ a := by
      rcases List.mem_cons.mp m1 with q | q
      · omega
      · exact (List.pairwise_cons.mp sm).1 a q
    have e2 : a ≤ b := by
      rcases List.mem_cons.mp m2 with q | q
      · omega
      · exact (List.pairwise_cons.mp sl).1 b q
    obtain rfl : a = b := by omega
    have h3 : pprod l = pprod m := cm_cancel (irr_ne ha) h
    rw [factors_unique (fun q hq => hl q (List.mem_cons_of_mem _ hq)) (fun q hq => hm q (List.mem_cons_of_mem _ hq)) (List.pairwise_cons.mp sl).2 (List.pairwise_cons.mp sm).2 h3]
