theorem mswan_no {a k : Int32} {F : Int32 → Prop} (hno : ¬ (2 ≤ a.toInt ∧ a.toInt ≤ 2000 ∧ 1 ≤ k.toInt ∧ k.toInt < a.toInt)) (hF : F (-1)) : cf_M_swan a k F := by
  unfold cf_M_swan
  refine mp_inI (lo := 2) (hi := 2000) (by decide) (by decide) (fun q => ⟨fun z => absurd z one_ne', fun _ => ?_⟩) (fun _ => ⟨fun _ => hF, fun z => absurd rfl z⟩)
  have e : a - 1 = nI (a.toInt.toNat - 1) := by
    have := nI_ofI (a := a) (by omega)
    obtain ⟨v, hv⟩ : ∃ v, a.toInt.toNat = v + 1 := ⟨a.toInt.toNat - 1, by omega⟩
    rw [this, hv, nI_pred, nI_toInt (by omega)]
    congr 1
  refine mp_inI (lo := 1) (hi := a.toInt - 1) (by decide) ?_ (fun q2 => absurd ⟨q.1, q.2, q2.1, by omega⟩ hno) (fun _ => ⟨fun _ => hF, fun z => absurd rfl z⟩)
  rw [e, nI_l (by omega), lN_toInt' (by omega)]
  omega
theorem nI_less {n : Nat} (h : 1 ≤ n) : nI n - (1 : Int32) = nI (n - 1) := pk_sub (b := 1) h
