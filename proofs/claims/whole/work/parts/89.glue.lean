-- the law out of the calls
theorem lg_B244 {b L : Nat} {xs : Nat → Int32} {K18 : Int32 → Wd → Prop} {P : Int32 → Wd → Prop} {x3 : Int32} {w : Wd} (hv1 : vp_in (x3 + 1) L) (hv2 : vp_in (x3 + 2) L) (hv3 : vp_in (x3 + 3) L) (hv4 : vp_in (x3 + 4) L) (hv5 : vp_in (x3 + 5) L) (hI : Inv w) (hK : ∀ w2, Inv w2 → K18 (x3 + 6) w2) : cf_L_law_B244 b L xs K18 P x3 w := by
  unfold cf_L_law_B244
  exact ⟨hv1, hv2, hv3, hv4, hv5, op_feed hI _ _ _ _ _ _ (fun r w1 hM => ⟨hv1, hv2, hv3, hv4, hv5,  hM _ (fun w2 hI2 => ⟨fun _ => by rintro _ rfl; exact hK _ hI2, fun z => absurd rfl z⟩) ⟩)⟩
theorem lg_B307 {b L : Nat} {xs : Nat → Int32} {K18 : Int32 → Wd → Prop} {P : Int32 → Wd → Prop} {x3 : Int32} {w : Wd} (hv1 : vp_in (x3 + 1) L) (hv2 : vp_in (x3 + 2) L) (hv3 : vp_in (x3 + 3) L) (hv4 : vp_in (x3 + 4) L) (hv5 : vp_in (x3 + 5) L) (hI : Inv w) (hK : ∀ w2, Inv w2 → K18 (x3 + 6) w2) : cf_L_law_B307 b L xs K18 P x3 w := by
  unfold cf_L_law_B307
  exact ⟨hv1, op_end hI _ _ (fun r w1 hM => ⟨hv1,  hM _ (fun w2 hI2 => ⟨fun _ => by rintro _ rfl; exact hK _ hI2, fun z => absurd rfl z⟩) ⟩)⟩
theorem lg_B330 {b L : Nat} {xs : Nat → Int32} {K18 : Int32 → Wd → Prop} {P : Int32 → Wd → Prop} {x3 : Int32} {w : Wd} (hv1 : vp_in (x3 + 1) L) (hv2 : vp_in (x3 + 2) L) (hv3 : vp_in (x3 + 3) L) (hv4 : vp_in (x3 + 4) L) (hv5 : vp_in (x3 + 5) L) (hI : Inv w) (hK : ∀ w2, Inv w2 → K18 (x3 + 6) w2) : cf_L_law_B330 b L xs K18 P x3 w := by
  unfold cf_L_law_B330
  exact op_run hI  _ (fun r w1 hM =>  hM _ (fun w2 hI2 => ⟨fun _ => by rintro _ rfl; exact hK _ hI2, fun z => absurd rfl z⟩) )
theorem lg_B343 {b L : Nat} {xs : Nat → Int32} {K18 : Int32 → Wd → Prop} {P : Int32 → Wd → Prop} {x3 : Int32} {w : Wd} (hv1 : vp_in (x3 + 1) L) (hv2 : vp_in (x3 + 2) L) (hv3 : vp_in (x3 + 3) L) (hv4 : vp_in (x3 + 4) L) (hv5 : vp_in (x3 + 5) L) (hI : Inv w) (hK : ∀ w2, Inv w2 → K18 (x3 + 6) w2) : cf_L_law_B343 b L xs K18 P x3 w := by
  unfold cf_L_law_B343
  exact ⟨hv1, op_fault hI _ _ (fun r hM => ⟨hv1,  hM _ ⟨fun _ => by rintro _ rfl; exact hK _ hI, fun z => absurd rfl z⟩ ⟩)⟩
theorem lg_B366 {b L : Nat} {xs : Nat → Int32} {K18 : Int32 → Wd → Prop} {P : Int32 → Wd → Prop} {x3 : Int32} {w : Wd} (hv1 : vp_in (x3 + 1) L) (hv2 : vp_in (x3 + 2) L) (hv3 : vp_in (x3 + 3) L) (hv4 : vp_in (x3 + 4) L) (hv5 : vp_in (x3 + 5) L) (hI : Inv w) (hK : ∀ w2, Inv w2 → K18 (x3 + 6) w2) : cf_L_law_B366 b L xs K18 P x3 w := by
  unfold cf_L_law_B366
  exact ⟨hv1, hv2, hv3, op_put hI _ _ _ (fun r w1 hM => ⟨hv1, hv2, hv3,  hM _ (fun w2 hI2 => ⟨fun _ => by rintro _ rfl; exact hK _ hI2, fun z => absurd rfl z⟩) ⟩)⟩
theorem lg_B429 {b L : Nat} {xs : Nat → Int32} {K18 : Int32 → Wd → Prop} {P : Int32 → Wd → Prop} {x3 : Int32} {w : Wd} (hv1 : vp_in (x3 + 1) L) (hv2 : vp_in (x3 + 2) L) (hv3 : vp_in (x3 + 3) L) (hv4 : vp_in (x3 + 4) L) (hv5 : vp_in (x3 + 5) L) (hI : Inv w) (hK : ∀ w2, Inv w2 → K18 (x3 + 6) w2) : cf_L_law_B429 b L xs K18 P x3 w := by
  unfold cf_L_law_B429
  exact ⟨hv1, hv2, hv3, op_add hI _ _ _ _ (fun r w1 hM => ⟨hv1, hv2, hv3,  hM _ (fun w2 hI2 => ⟨fun _ => by rintro _ rfl; exact hK _ hI2, fun z => absurd rfl z⟩) ⟩)⟩
theorem lg_B472 {b L : Nat} {xs : Nat → Int32} {K18 : Int32 → Wd → Prop} {P : Int32 → Wd → Prop} {x3 : Int32} {w : Wd} (hv1 : vp_in (x3 + 1) L) (hv2 : vp_in (x3 + 2) L) (hv3 : vp_in (x3 + 3) L) (hv4 : vp_in (x3 + 4) L) (hv5 : vp_in (x3 + 5) L) (hI : Inv w) (hK : ∀ w2, Inv w2 → K18 (x3 + 6) w2) : cf_L_law_B472 b L xs K18 P x3 w := by
  unfold cf_L_law_B472
  exact ⟨hv1, hv2, hv3, op_multiply hI _ _ _ _ (fun r w1 hM => ⟨hv1, hv2, hv3,  hM _ (fun w2 hI2 => ⟨fun _ => by rintro _ rfl; exact hK _ hI2, fun z => absurd rfl z⟩) ⟩)⟩
theorem lg_B515 {b L : Nat} {xs : Nat → Int32} {K18 : Int32 → Wd → Prop} {P : Int32 → Wd → Prop} {x3 : Int32} {w : Wd} (hv1 : vp_in (x3 + 1) L) (hv2 : vp_in (x3 + 2) L) (hv3 : vp_in (x3 + 3) L) (hv4 : vp_in (x3 + 4) L) (hv5 : vp_in (x3 + 5) L) (hI : Inv w) (hK : ∀ w2, Inv w2 → K18 (x3 + 6) w2) : cf_L_law_B515 b L xs K18 P x3 w := by
  unfold cf_L_law_B515
  exact ⟨hv1, hv2, hv3, op_divide hI _ _ _ _ (fun r w1 hM => ⟨hv1, hv2, hv3,  hM _ (fun w2 hI2 => ⟨fun _ => by rintro _ rfl; exact hK _ hI2, fun z => absurd rfl z⟩) ⟩)⟩
theorem lg_B558 {b L : Nat} {xs : Nat → Int32} {K18 : Int32 → Wd → Prop} {P : Int32 → Wd → Prop} {x3 : Int32} {w : Wd} (hv1 : vp_in (x3 + 1) L) (hv2 : vp_in (x3 + 2) L) (hv3 : vp_in (x3 + 3) L) (hv4 : vp_in (x3 + 4) L) (hv5 : vp_in (x3 + 5) L) (hI : Inv w) (hK : ∀ w2, Inv w2 → K18 (x3 + 6) w2) : cf_L_law_B558 b L xs K18 P x3 w := by
  unfold cf_L_law_B558
  exact ⟨hv1, hv2, hv3, op_rest hI _ _ _ _ (fun r w1 hM => ⟨hv1, hv2, hv3,  hM _ (fun w2 hI2 => ⟨fun _ => by rintro _ rfl; exact hK _ hI2, fun z => absurd rfl z⟩) ⟩)⟩
theorem lg_B601 {b L : Nat} {xs : Nat → Int32} {K18 : Int32 → Wd → Prop} {P : Int32 → Wd → Prop} {x3 : Int32} {w : Wd} (hv1 : vp_in (x3 + 1) L) (hv2 : vp_in (x3 + 2) L) (hv3 : vp_in (x3 + 3) L) (hv4 : vp_in (x3 + 4) L) (hv5 : vp_in (x3 + 5) L) (hI : Inv w) (hK : ∀ w2, Inv w2 → K18 (x3 + 6) w2) : cf_L_law_B601 b L xs K18 P x3 w := by
  unfold cf_L_law_B601
  exact ⟨hv1, hv2, hv3, op_common hI _ _ _ _ (fun r w1 hM => ⟨hv1, hv2, hv3,  hM _ (fun w2 hI2 => ⟨fun _ => by rintro _ rfl; exact hK _ hI2, fun z => absurd rfl z⟩) ⟩)⟩
theorem lg_B644 {b L : Nat} {xs : Nat → Int32} {K18 : Int32 → Wd → Prop} {P : Int32 → Wd → Prop} {x3 : Int32} {w : Wd} (hv1 : vp_in (x3 + 1) L) (hv2 : vp_in (x3 + 2) L) (hv3 : vp_in (x3 + 3) L) (hv4 : vp_in (x3 + 4) L) (hv5 : vp_in (x3 + 5) L) (hI : Inv w) (hK : ∀ w2, Inv w2 → K18 (x3 + 6) w2) : cf_L_law_B644 b L xs K18 P x3 w := by
  unfold cf_L_law_B644
  exact ⟨hv1, hv2, hv3, hv4, hv5, op_power hI _ _ _ _ _ (fun r w1 hM => ⟨hv1, hv2, hv3, hv4, hv5,  hM _ (fun w2 hI2 => ⟨fun _ => by rintro _ rfl; exact hK _ hI2, fun z => absurd rfl z⟩) ⟩)⟩
theorem lg_B727 {b L : Nat} {xs : Nat → Int32} {K18 : Int32 → Wd → Prop} {P : Int32 → Wd → Prop} {x3 : Int32} {w : Wd} (hv1 : vp_in (x3 + 1) L) (hv2 : vp_in (x3 + 2) L) (hv3 : vp_in (x3 + 3) L) (hv4 : vp_in (x3 + 4) L) (hv5 : vp_in (x3 + 5) L) (hI : Inv w) (hK : ∀ w2, Inv w2 → K18 (x3 + 6) w2) : cf_L_law_B727 b L xs K18 P x3 w := by
  unfold cf_L_law_B727
  exact ⟨hv1, hv2, op_moved hI _ _ _ (fun r w1 hM => ⟨hv1, hv2,  hM _ (fun w2 hI2 => ⟨fun _ => by rintro _ rfl; exact hK _ hI2, fun z => absurd rfl z⟩) ⟩)⟩
theorem lg_B760 {b L : Nat} {xs : Nat → Int32} {K18 : Int32 → Wd → Prop} {P : Int32 → Wd → Prop} {x3 : Int32} {w : Wd} (hv1 : vp_in (x3 + 1) L) (hv2 : vp_in (x3 + 2) L) (hv3 : vp_in (x3 + 3) L) (hv4 : vp_in (x3 + 4) L) (hv5 : vp_in (x3 + 5) L) (hI : Inv w) (hK : ∀ w2, Inv w2 → K18 (x3 + 6) w2) : cf_L_law_B760 b L xs K18 P x3 w := by
  unfold cf_L_law_B760
  exact ⟨hv1, hv2, hv3, hv4, op_inside hI _ _ _ _ _ (fun r w1 hM => ⟨hv1, hv2, hv3, hv4,  hM _ (fun w2 hI2 => ⟨fun _ => by rintro _ rfl; exact hK _ hI2, fun z => absurd rfl z⟩) ⟩)⟩
theorem lg_B813 {b L : Nat} {xs : Nat → Int32} {K18 : Int32 → Wd → Prop} {P : Int32 → Wd → Prop} {x3 : Int32} {w : Wd} (hv1 : vp_in (x3 + 1) L) (hv2 : vp_in (x3 + 2) L) (hv3 : vp_in (x3 + 3) L) (hv4 : vp_in (x3 + 4) L) (hv5 : vp_in (x3 + 5) L) (hI : Inv w) (hK : ∀ w2, Inv w2 → K18 (x3 + 6) w2) : cf_L_law_B813 b L xs K18 P x3 w := by
  unfold cf_L_law_B813
  exact ⟨hv1, hv2, hv3, op_inverse hI _ _ _ _ (fun r w1 hM => ⟨hv1, hv2, hv3,  hM _ (fun w2 hI2 => ⟨fun _ => by rintro _ rfl; exact hK _ hI2, fun z => absurd rfl z⟩) ⟩)⟩
theorem lg_B856 {b L : Nat} {xs : Nat → Int32} {K18 : Int32 → Wd → Prop} {P : Int32 → Wd → Prop} {x3 : Int32} {w : Wd} (hv1 : vp_in (x3 + 1) L) (hv2 : vp_in (x3 + 2) L) (hv3 : vp_in (x3 + 3) L) (hv4 : vp_in (x3 + 4) L) (hv5 : vp_in (x3 + 5) L) (hI : Inv w) (hK : ∀ w2, Inv w2 → K18 (x3 + 6) w2) : cf_L_law_B856 b L xs K18 P x3 w := by
  unfold cf_L_law_B856
  exact ⟨hv1, hv2, hv3, op_rise hI _ _ _ _ (fun r w1 hM => ⟨hv1, hv2, hv3,  hM _ (fun w2 hI2 => ⟨fun _ => by rintro _ rfl; exact hK _ hI2, fun z => absurd rfl z⟩) ⟩)⟩
theorem lg_B899 {b L : Nat} {xs : Nat → Int32} {K18 : Int32 → Wd → Prop} {P : Int32 → Wd → Prop} {x3 : Int32} {w : Wd} (hv1 : vp_in (x3 + 1) L) (hv2 : vp_in (x3 + 2) L) (hv3 : vp_in (x3 + 3) L) (hv4 : vp_in (x3 + 4) L) (hv5 : vp_in (x3 + 5) L) (hI : Inv w) (hK : ∀ w2, Inv w2 → K18 (x3 + 6) w2) : cf_L_law_B899 b L xs K18 P x3 w := by
  unfold cf_L_law_B899
  exact ⟨hv1, hv2, hv3, op_register hI _ _ _ (fun r w1 hM => ⟨hv1, hv2, hv3,  hM _ (fun w2 hI2 => ⟨fun _ => by rintro _ rfl; exact hK _ hI2, fun z => absurd rfl z⟩) ⟩)⟩
theorem lg_B962 {b L : Nat} {xs : Nat → Int32} {K18 : Int32 → Wd → Prop} {P : Int32 → Wd → Prop} {x3 : Int32} {w : Wd} (hv1 : vp_in (x3 + 1) L) (hv2 : vp_in (x3 + 2) L) (hv3 : vp_in (x3 + 3) L) (hv4 : vp_in (x3 + 4) L) (hv5 : vp_in (x3 + 5) L) (hI : Inv w) (hK : ∀ w2, Inv w2 → K18 (x3 + 6) w2) : cf_L_law_B962 b L xs K18 P x3 w := by
  unfold cf_L_law_B962
  exact ⟨hv1, op_step hI _ _ (fun r w1 hM => ⟨hv1,  hM _ (fun w2 hI2 => ⟨fun _ => by rintro _ rfl; exact hK _ hI2, fun z => absurd rfl z⟩) ⟩)⟩
theorem lg_B986 {b L : Nat} {xs : Nat → Int32} {K18 : Int32 → Wd → Prop} {P : Int32 → Wd → Prop} {x3 : Int32} {w : Wd} (hv1 : vp_in (x3 + 1) L) (hv2 : vp_in (x3 + 2) L) (hv3 : vp_in (x3 + 3) L) (hv4 : vp_in (x3 + 4) L) (hv5 : vp_in (x3 + 5) L) (hI : Inv w) (hK : ∀ w2, Inv w2 → K18 (x3 + 6) w2) : cf_L_law_B986 b L xs K18 P x3 w := by
  unfold cf_L_law_B986
  exact ⟨hv1, op_jump hI _ _ (fun r w1 hM => ⟨hv1,  hM _ (fun w2 hI2 => ⟨fun _ => by rintro _ rfl; exact hK _ hI2, fun z => absurd rfl z⟩) ⟩)⟩
theorem lg_B1010 {b L : Nat} {xs : Nat → Int32} {K18 : Int32 → Wd → Prop} {P : Int32 → Wd → Prop} {x3 : Int32} {w : Wd} (hv1 : vp_in (x3 + 1) L) (hv2 : vp_in (x3 + 2) L) (hv3 : vp_in (x3 + 3) L) (hv4 : vp_in (x3 + 4) L) (hv5 : vp_in (x3 + 5) L) (hI : Inv w) (hK : ∀ w2, Inv w2 → K18 (x3 + 6) w2) : cf_L_law_B1010 b L xs K18 P x3 w := by
  unfold cf_L_law_B1010
  exact op_undo hI  _ (fun r w1 hM =>  hM _ (fun w2 hI2 => ⟨fun _ => by rintro _ rfl; exact hK _ hI2, fun z => absurd rfl z⟩) )
theorem lg_B1023 {b L : Nat} {xs : Nat → Int32} {K18 : Int32 → Wd → Prop} {P : Int32 → Wd → Prop} {x3 : Int32} {w : Wd} (hv1 : vp_in (x3 + 1) L) (hv2 : vp_in (x3 + 2) L) (hv3 : vp_in (x3 + 3) L) (hv4 : vp_in (x3 + 4) L) (hv5 : vp_in (x3 + 5) L) (hI : Inv w) (hK : ∀ w2, Inv w2 → K18 (x3 + 6) w2) : cf_L_law_B1023 b L xs K18 P x3 w := by
  unfold cf_L_law_B1023
  exact ⟨hv1, op_keep hI _ _ (fun r w1 hM => ⟨hv1,  hM _ (fun w2 hI2 => ⟨fun _ => by rintro _ rfl; exact hK _ hI2, fun z => absurd rfl z⟩) ⟩)⟩
theorem lg_B1046 {b L : Nat} {xs : Nat → Int32} {K18 : Int32 → Wd → Prop} {P : Int32 → Wd → Prop} {x3 : Int32} {w : Wd} (hv1 : vp_in (x3 + 1) L) (hv2 : vp_in (x3 + 2) L) (hv3 : vp_in (x3 + 3) L) (hv4 : vp_in (x3 + 4) L) (hv5 : vp_in (x3 + 5) L) (hI : Inv w) (hK : ∀ w2, Inv w2 → K18 (x3 + 6) w2) : cf_L_law_B1046 b L xs K18 P x3 w := by
  unfold cf_L_law_B1046
  exact ⟨hv1, op_back hI _ _ (fun r w1 hM => ⟨hv1,  hM _ (fun w2 hI2 => ⟨fun _ => by rintro _ rfl; exact hK _ hI2, fun z => absurd rfl z⟩) ⟩)⟩
theorem lg_B1069 {b L : Nat} {xs : Nat → Int32} {K18 : Int32 → Wd → Prop} {P : Int32 → Wd → Prop} {x3 : Int32} {w : Wd} (hv1 : vp_in (x3 + 1) L) (hv2 : vp_in (x3 + 2) L) (hv3 : vp_in (x3 + 3) L) (hv4 : vp_in (x3 + 4) L) (hv5 : vp_in (x3 + 5) L) (hI : Inv w) (hK : ∀ w2, Inv w2 → K18 (x3 + 6) w2) : cf_L_law_B1069 b L xs K18 P x3 w := by
  unfold cf_L_law_B1069
  exact ⟨hv1, op_bits hI _ _ (fun r hM => ⟨hv1,  hM _ ⟨fun _ => by rintro _ rfl; exact hK _ hI, fun z => absurd rfl z⟩ ⟩)⟩
theorem lg_B1093 {b L : Nat} {xs : Nat → Int32} {K18 : Int32 → Wd → Prop} {P : Int32 → Wd → Prop} {x3 : Int32} {w : Wd} (hv1 : vp_in (x3 + 1) L) (hv2 : vp_in (x3 + 2) L) (hv3 : vp_in (x3 + 3) L) (hv4 : vp_in (x3 + 4) L) (hv5 : vp_in (x3 + 5) L) (hI : Inv w) (hK : ∀ w2, Inv w2 → K18 (x3 + 6) w2) : cf_L_law_B1093 b L xs K18 P x3 w := by
  unfold cf_L_law_B1093
  exact ⟨hv1, hv2, op_poly hI _ _ _ (fun r w1 hM => ⟨hv1, hv2,  hM _ (fun w2 hI2 => ⟨fun _ => by rintro _ rfl; exact hK _ hI2, fun z => absurd rfl z⟩) ⟩)⟩
theorem lg_B1126 {b L : Nat} {xs : Nat → Int32} {K18 : Int32 → Wd → Prop} {P : Int32 → Wd → Prop} {x3 : Int32} {w : Wd} (hv1 : vp_in (x3 + 1) L) (hv2 : vp_in (x3 + 2) L) (hv3 : vp_in (x3 + 3) L) (hv4 : vp_in (x3 + 4) L) (hv5 : vp_in (x3 + 5) L) (hI : Inv w) (hK : ∀ w2, Inv w2 → K18 (x3 + 6) w2) : cf_L_law_B1126 b L xs K18 P x3 w := by
  unfold cf_L_law_B1126
  exact ⟨hv1, hv2, op_factor hI _ _ _ (fun r w1 hM => ⟨hv1, hv2,  hM _ (fun w2 hI2 => ⟨fun _ => by rintro _ rfl; exact hK _ hI2, fun z => absurd rfl z⟩) ⟩)⟩
theorem lg_B1160 {b L : Nat} {xs : Nat → Int32} {K18 : Int32 → Wd → Prop} {P : Int32 → Wd → Prop} {x3 : Int32} {w : Wd} (hv1 : vp_in (x3 + 1) L) (hv2 : vp_in (x3 + 2) L) (hv3 : vp_in (x3 + 3) L) (hv4 : vp_in (x3 + 4) L) (hv5 : vp_in (x3 + 5) L) (hI : Inv w) (hK : ∀ w2, Inv w2 → K18 (x3 + 6) w2) : cf_L_law_B1160 b L xs K18 P x3 w := by
  unfold cf_L_law_B1160
  exact ⟨hv1, hv2, op_ofDegree hI _ _ _ (fun r w1 hM => ⟨hv1, hv2,  hM _ (fun w2 hI2 => ⟨fun _ => by rintro _ rfl; exact hK _ hI2, fun z => absurd rfl z⟩) ⟩)⟩
theorem lg_B1193 {b L : Nat} {xs : Nat → Int32} {K18 : Int32 → Wd → Prop} {P : Int32 → Wd → Prop} {x3 : Int32} {w : Wd} (hv1 : vp_in (x3 + 1) L) (hv2 : vp_in (x3 + 2) L) (hv3 : vp_in (x3 + 3) L) (hv4 : vp_in (x3 + 4) L) (hv5 : vp_in (x3 + 5) L) (hI : Inv w) (hK : ∀ w2, Inv w2 → K18 (x3 + 6) w2) : cf_L_law_B1193 b L xs K18 P x3 w := by
  unfold cf_L_law_B1193
  exact ⟨hv1, op_order hI _ _ (fun r w1 hM => ⟨hv1,  hM _ (fun w2 hI2 => ⟨fun _ => by rintro _ rfl; exact hK _ hI2, fun z => absurd rfl z⟩) ⟩)⟩
theorem lg_B1217 {b L : Nat} {xs : Nat → Int32} {K18 : Int32 → Wd → Prop} {P : Int32 → Wd → Prop} {x3 : Int32} {w : Wd} (hv1 : vp_in (x3 + 1) L) (hv2 : vp_in (x3 + 2) L) (hv3 : vp_in (x3 + 3) L) (hv4 : vp_in (x3 + 4) L) (hv5 : vp_in (x3 + 5) L) (hI : Inv w) (hK : ∀ w2, Inv w2 → K18 (x3 + 6) w2) : cf_L_law_B1217 b L xs K18 P x3 w := by
  unfold cf_L_law_B1217
  exact ⟨hv1, hv2, op_swan hI _ _ _ (fun r hM => ⟨hv1, hv2,  hM _ ⟨fun _ => by rintro _ rfl; exact hK _ hI, fun z => absurd rfl z⟩ ⟩)⟩
theorem lg_B1250 {b L : Nat} {xs : Nat → Int32} {K18 : Int32 → Wd → Prop} {P : Int32 → Wd → Prop} {x3 : Int32} {w : Wd} (hv1 : vp_in (x3 + 1) L) (hv2 : vp_in (x3 + 2) L) (hv3 : vp_in (x3 + 3) L) (hv4 : vp_in (x3 + 4) L) (hv5 : vp_in (x3 + 5) L) (hI : Inv w) (hK : ∀ w2, Inv w2 → K18 (x3 + 6) w2) : cf_L_law_B1250 b L xs K18 P x3 w := by
  unfold cf_L_law_B1250
  exact ⟨hv1, op_evens hI _ _ (fun r hM => ⟨hv1,  hM _ ⟨fun _ => by rintro _ rfl; exact hK _ hI, fun z => absurd rfl z⟩ ⟩)⟩
theorem lg_B1273 {b L : Nat} {xs : Nat → Int32} {K18 : Int32 → Wd → Prop} {P : Int32 → Wd → Prop} {x3 : Int32} {w : Wd} (hv1 : vp_in (x3 + 1) L) (hv2 : vp_in (x3 + 2) L) (hv3 : vp_in (x3 + 3) L) (hv4 : vp_in (x3 + 4) L) (hv5 : vp_in (x3 + 5) L) (hI : Inv w) (hK : ∀ w2, Inv w2 → K18 (x3 + 6) w2) : cf_L_law_B1273 b L xs K18 P x3 w := by
  unfold cf_L_law_B1273
  exact ⟨hv1, hv2, op_multiple hI _ _ _ (fun r w1 hM => ⟨hv1, hv2,  hM _ (fun w2 hI2 => ⟨fun _ => by rintro _ rfl; exact hK _ hI2, fun z => absurd rfl z⟩) ⟩)⟩
theorem lg_B1306 {b L : Nat} {xs : Nat → Int32} {K18 : Int32 → Wd → Prop} {P : Int32 → Wd → Prop} {x3 : Int32} {w : Wd} (hv1 : vp_in (x3 + 1) L) (hv2 : vp_in (x3 + 2) L) (hv3 : vp_in (x3 + 3) L) (hv4 : vp_in (x3 + 4) L) (hv5 : vp_in (x3 + 5) L) (hI : Inv w) (hK : ∀ w2, Inv w2 → K18 (x3 + 6) w2) : cf_L_law_B1306 b L xs K18 P x3 w := by
  unfold cf_L_law_B1306
  exact ⟨hv1, hv2, hv3, hv4, op_shortest hI _ _ _ _ (fun r hM => ⟨hv1, hv2, hv3, hv4,  hM _ (fun w2 hI2 => ⟨fun _ => by rintro _ rfl; exact hK _ hI2, fun z => absurd rfl z⟩) ⟩)⟩
theorem lg_B1380 {b L : Nat} {xs : Nat → Int32} {K18 : Int32 → Wd → Prop} {P : Int32 → Wd → Prop} {x3 : Int32} {w : Wd} (hv1 : vp_in (x3 + 1) L) (hv2 : vp_in (x3 + 2) L) (hv3 : vp_in (x3 + 3) L) (hv4 : vp_in (x3 + 4) L) (hv5 : vp_in (x3 + 5) L) (hI : Inv w) (hK : ∀ w2, Inv w2 → K18 (x3 + 6) w2) : cf_L_law_B1380 b L xs K18 P x3 w := by
  unfold cf_L_law_B1380
  refine ⟨hv1, hv2, fun c => ?_, fun c => ?_⟩
  · unfold cf_L_law_B1399
    exact ⟨hv3, op_trinomial hI _ _ _ _ (fun r w1 hM => ⟨hv1, hv2, fun _ => ⟨hv3,  hM _ (fun w2 hI2 => ⟨fun _ => by rintro _ rfl; exact hK _ hI2, fun z => absurd rfl z⟩) ⟩, fun z => absurd c z⟩)⟩
  · unfold cf_L_law_B1399
    exact ⟨hv3, op_trinomial hI _ _ _ _ (fun r w1 hM => ⟨hv1, hv2, fun z => absurd z c, fun _ => ⟨hv3,  hM _ (fun w2 hI2 => ⟨fun _ => by rintro _ rfl; exact hK _ hI2, fun z => absurd rfl z⟩) ⟩⟩)⟩
theorem lg_B1439 {b L : Nat} {xs : Nat → Int32} {K18 : Int32 → Wd → Prop} {P : Int32 → Wd → Prop} {x3 : Int32} {w : Wd} (hv1 : vp_in (x3 + 1) L) (hv2 : vp_in (x3 + 2) L) (hv3 : vp_in (x3 + 3) L) (hv4 : vp_in (x3 + 4) L) (hv5 : vp_in (x3 + 5) L) (hI : Inv w) (hK : ∀ w2, Inv w2 → K18 (x3 + 6) w2) : cf_L_law_B1439 b L xs K18 P x3 w := by
  unfold cf_L_law_B1439
  refine ⟨hv1, hv2, fun c => ?_, fun c => ?_⟩
  · unfold cf_L_law_B1458
    exact op_least hI _ _ _ (fun r w1 hM => ⟨hv1, hv2, fun _ =>  hM _ (fun w2 hI2 => ⟨fun _ => by rintro _ rfl; exact hK _ hI2, fun z => absurd rfl z⟩) , fun z => absurd c z⟩)
  · unfold cf_L_law_B1458
    exact op_least hI _ _ _ (fun r w1 hM => ⟨hv1, hv2, fun z => absurd z c, fun _ =>  hM _ (fun w2 hI2 => ⟨fun _ => by rintro _ rfl; exact hK _ hI2, fun z => absurd rfl z⟩) ⟩)
theorem lg_B1489 {b L : Nat} {xs : Nat → Int32} {K18 : Int32 → Wd → Prop} {P : Int32 → Wd → Prop} {x3 : Int32} {w : Wd} (hv1 : vp_in (x3 + 1) L) (hv2 : vp_in (x3 + 2) L) (hv3 : vp_in (x3 + 3) L) (hv4 : vp_in (x3 + 4) L) (hv5 : vp_in (x3 + 5) L) (hI : Inv w) (hK : ∀ w2, Inv w2 → K18 (x3 + 6) w2) : cf_L_law_B1489 b L xs K18 P x3 w := by
  unfold cf_L_law_B1489
  refine ⟨hv1, hv2, fun c => ?_, fun c => ?_⟩
  · unfold cf_L_law_B1508
    exact op_many hI _ _ _ (fun r w1 hM => ⟨hv1, hv2, fun _ =>  hM _ (fun w2 hI2 => ⟨fun _ => by rintro _ rfl; exact hK _ hI2, fun z => absurd rfl z⟩) , fun z => absurd c z⟩)
  · unfold cf_L_law_B1508
    exact op_many hI _ _ _ (fun r w1 hM => ⟨hv1, hv2, fun z => absurd z c, fun _ =>  hM _ (fun w2 hI2 => ⟨fun _ => by rintro _ rfl; exact hK _ hI2, fun z => absurd rfl z⟩) ⟩)
theorem lg_B1539 {b L : Nat} {xs : Nat → Int32} {K18 : Int32 → Wd → Prop} {P : Int32 → Wd → Prop} {x3 : Int32} {w : Wd} (hv1 : vp_in (x3 + 1) L) (hv2 : vp_in (x3 + 2) L) (hv3 : vp_in (x3 + 3) L) (hv4 : vp_in (x3 + 4) L) (hv5 : vp_in (x3 + 5) L) (hI : Inv w) (hK : ∀ w2, Inv w2 → K18 (x3 + 6) w2) : cf_L_law_B1539 b L xs K18 P x3 w := by
  unfold cf_L_law_B1539
  exact ⟨hv1, hv2, hv3, op_stays hI _ _ _ _ (fun r w1 hM => ⟨hv1, hv2, hv3,  hM _ (fun w2 hI2 => ⟨fun _ => by rintro _ rfl; exact hK _ hI2, fun z => absurd rfl z⟩) ⟩)⟩
theorem lg_B1582 {b L : Nat} {xs : Nat → Int32} {K18 : Int32 → Wd → Prop} {P : Int32 → Wd → Prop} {x3 : Int32} {w : Wd} (hv1 : vp_in (x3 + 1) L) (hv2 : vp_in (x3 + 2) L) (hv3 : vp_in (x3 + 3) L) (hv4 : vp_in (x3 + 4) L) (hv5 : vp_in (x3 + 5) L) (hI : Inv w) (hK : ∀ w2, Inv w2 → K18 (x3 + 6) w2) : cf_L_law_B1582 b L xs K18 P x3 w := by
  unfold cf_L_law_B1582
  exact ⟨hv1, op_bare hI _ _ (fun r w1 hM => ⟨hv1,  hM _ (fun w2 hI2 => ⟨fun _ => by rintro _ rfl; exact hK _ hI2, fun z => absurd rfl z⟩) ⟩)⟩
theorem lg_B1605 {b L : Nat} {xs : Nat → Int32} {K18 : Int32 → Wd → Prop} {P : Int32 → Wd → Prop} {x3 : Int32} {w : Wd} (hv1 : vp_in (x3 + 1) L) (hv2 : vp_in (x3 + 2) L) (hv3 : vp_in (x3 + 3) L) (hv4 : vp_in (x3 + 4) L) (hv5 : vp_in (x3 + 5) L) (hI : Inv w) (hK : ∀ w2, Inv w2 → K18 (x3 + 6) w2) : cf_L_law_B1605 b L xs K18 P x3 w := by
  unfold cf_L_law_B1605
  exact ⟨hv1, hv2, op_minimal hI _ _ _ (fun r w1 hM => ⟨hv1, hv2,  hM _ (fun w2 hI2 => ⟨fun _ => by rintro _ rfl; exact hK _ hI2, fun z => absurd rfl z⟩) ⟩)⟩
theorem lg_B1639 {b L : Nat} {xs : Nat → Int32} {K18 : Int32 → Wd → Prop} {P : Int32 → Wd → Prop} {x3 : Int32} {w : Wd} (hv1 : vp_in (x3 + 1) L) (hv2 : vp_in (x3 + 2) L) (hv3 : vp_in (x3 + 3) L) (hv4 : vp_in (x3 + 4) L) (hv5 : vp_in (x3 + 5) L) (hI : Inv w) (hK : ∀ w2, Inv w2 → K18 (x3 + 6) w2) : cf_L_law_B1639 b L xs K18 P x3 w := by
  unfold cf_L_law_B1639
  exact ⟨hv1, hv2, op_trace hI _ _ _ (fun r hM => ⟨hv1, hv2,  hM _ (fun w2 hI2 => ⟨fun _ => by rintro _ rfl; exact hK _ hI2, fun z => absurd rfl z⟩) ⟩)⟩
theorem lg_B1672 {b L : Nat} {xs : Nat → Int32} {K18 : Int32 → Wd → Prop} {P : Int32 → Wd → Prop} {x3 : Int32} {w : Wd} (hv1 : vp_in (x3 + 1) L) (hv2 : vp_in (x3 + 2) L) (hv3 : vp_in (x3 + 3) L) (hv4 : vp_in (x3 + 4) L) (hv5 : vp_in (x3 + 5) L) (hI : Inv w) (hK : ∀ w2, Inv w2 → K18 (x3 + 6) w2) : cf_L_law_B1672 b L xs K18 P x3 w := by
  unfold cf_L_law_B1672
  exact ⟨hv1, hv2, op_conjugates hI _ _ _ (fun r hM => ⟨hv1, hv2,  hM _ (fun w2 hI2 => ⟨fun _ => by rintro _ rfl; exact hK _ hI2, fun z => absurd rfl z⟩) ⟩)⟩
theorem lg_B1705 {b L : Nat} {xs : Nat → Int32} {K18 : Int32 → Wd → Prop} {P : Int32 → Wd → Prop} {x3 : Int32} {w : Wd} (hv1 : vp_in (x3 + 1) L) (hv2 : vp_in (x3 + 2) L) (hv3 : vp_in (x3 + 3) L) (hv4 : vp_in (x3 + 4) L) (hv5 : vp_in (x3 + 5) L) (hI : Inv w) (hK : ∀ w2, Inv w2 → K18 (x3 + 6) w2) : cf_L_law_B1705 b L xs K18 P x3 w := by
  unfold cf_L_law_B1705
  exact ⟨hv1, hv2, hv3, op_log hI _ _ _ _ (fun r w1 hM => ⟨hv1, hv2, hv3,  hM _ (fun w2 hI2 => ⟨fun _ => by rintro _ rfl; exact hK _ hI2, fun z => absurd rfl z⟩) ⟩)⟩
theorem lg_B1749 {b L : Nat} {xs : Nat → Int32} {K18 : Int32 → Wd → Prop} {P : Int32 → Wd → Prop} {x3 : Int32} {w : Wd} (hv1 : vp_in (x3 + 1) L) (hv2 : vp_in (x3 + 2) L) (hv3 : vp_in (x3 + 3) L) (hv4 : vp_in (x3 + 4) L) (hv5 : vp_in (x3 + 5) L) (hI : Inv w) (hK : ∀ w2, Inv w2 → K18 (x3 + 6) w2) : cf_L_law_B1749 b L xs K18 P x3 w := by
  unfold cf_L_law_B1749
  exact ⟨hv1, hv2, op_roots hI _ _ _ (fun r hM => ⟨hv1, hv2,  hM _ (fun w2 hI2 => ⟨fun _ => by rintro _ rfl; exact hK _ hI2, fun z => absurd rfl z⟩) ⟩)⟩
theorem lg_B1782 {b L : Nat} {xs : Nat → Int32} {K18 : Int32 → Wd → Prop} {P : Int32 → Wd → Prop} {x3 : Int32} {w : Wd} (hv1 : vp_in (x3 + 1) L) (hv2 : vp_in (x3 + 2) L) (hv3 : vp_in (x3 + 3) L) (hv4 : vp_in (x3 + 4) L) (hv5 : vp_in (x3 + 5) L) (hI : Inv w) (hK : ∀ w2, Inv w2 → K18 (x3 + 6) w2) : cf_L_law_B1782 b L xs K18 P x3 w := by
  unfold cf_L_law_B1782
  exact ⟨hv1, op_shift hI _ _ (fun r w1 hM => ⟨hv1,  hM _ (fun w2 hI2 => ⟨fun _ => by rintro _ rfl; exact hK _ hI2, fun z => absurd rfl z⟩) ⟩)⟩
theorem lg_B1806 {b L : Nat} {xs : Nat → Int32} {K18 : Int32 → Wd → Prop} {P : Int32 → Wd → Prop} {x3 : Int32} {w : Wd} (hv1 : vp_in (x3 + 1) L) (hv2 : vp_in (x3 + 2) L) (hv3 : vp_in (x3 + 3) L) (hv4 : vp_in (x3 + 4) L) (hv5 : vp_in (x3 + 5) L) (hI : Inv w) (hK : ∀ w2, Inv w2 → K18 (x3 + 6) w2) : cf_L_law_B1806 b L xs K18 P x3 w := by
  unfold cf_L_law_B1806
  exact ⟨hv1, hv2, op_letter hI _ _ _ (fun r w1 hM => ⟨hv1, hv2,  hM _ (fun w2 hI2 => ⟨fun _ => by rintro _ rfl; exact hK _ hI2, fun z => absurd rfl z⟩) ⟩)⟩
theorem lg_B1839 {b L : Nat} {xs : Nat → Int32} {K18 : Int32 → Wd → Prop} {P : Int32 → Wd → Prop} {x3 : Int32} {w : Wd} (hv1 : vp_in (x3 + 1) L) (hv2 : vp_in (x3 + 2) L) (hv3 : vp_in (x3 + 3) L) (hv4 : vp_in (x3 + 4) L) (hv5 : vp_in (x3 + 5) L) (hI : Inv w) (hK : ∀ w2, Inv w2 → K18 (x3 + 6) w2) : cf_L_law_B1839 b L xs K18 P x3 w := by
  unfold cf_L_law_B1839
  exact ⟨hv1, hv2, op_spell hI _ _ _ (fun r w1 hM => ⟨hv1, hv2,  hM _ (fun w2 hI2 => ⟨fun _ => by rintro _ rfl; exact hK _ hI2, fun z => absurd rfl z⟩) ⟩)⟩
theorem lg_B1872 {b L : Nat} {xs : Nat → Int32} {K18 : Int32 → Wd → Prop} {P : Int32 → Wd → Prop} {x3 : Int32} {w : Wd} (hv1 : vp_in (x3 + 1) L) (hv2 : vp_in (x3 + 2) L) (hv3 : vp_in (x3 + 3) L) (hv4 : vp_in (x3 + 4) L) (hv5 : vp_in (x3 + 5) L) (hI : Inv w) (hK : ∀ w2, Inv w2 → K18 (x3 + 6) w2) : cf_L_law_B1872 b L xs K18 P x3 w := by
  unfold cf_L_law_B1872
  refine ⟨hv1, hv2, fun c => ?_, fun c => ?_⟩
  · unfold cf_L_law_B1891
    exact op_next hI _ _ _ (fun r w1 hM => ⟨hv1, hv2, fun _ =>  hM _ (fun w2 hI2 => ⟨fun _ => by rintro _ rfl; exact hK _ hI2, fun z => absurd rfl z⟩) , fun z => absurd c z⟩)
  · unfold cf_L_law_B1891
    exact op_next hI _ _ _ (fun r w1 hM => ⟨hv1, hv2, fun z => absurd z c, fun _ =>  hM _ (fun w2 hI2 => ⟨fun _ => by rintro _ rfl; exact hK _ hI2, fun z => absurd rfl z⟩) ⟩)
theorem lg_B1922 {b L : Nat} {xs : Nat → Int32} {K18 : Int32 → Wd → Prop} {P : Int32 → Wd → Prop} {x3 : Int32} {w : Wd} (hv1 : vp_in (x3 + 1) L) (hv2 : vp_in (x3 + 2) L) (hv3 : vp_in (x3 + 3) L) (hv4 : vp_in (x3 + 4) L) (hv5 : vp_in (x3 + 5) L) (hI : Inv w) (hK : ∀ w2, Inv w2 → K18 (x3 + 6) w2) : cf_L_law_B1922 b L xs K18 P x3 w := by
  unfold cf_L_law_B1922
  exact ⟨hv1, hv2, op_divisor hI _ _ _ (fun r w1 hM => ⟨hv1, hv2,  hM _ (fun w2 hI2 => ⟨fun _ => by rintro _ rfl; exact hK _ hI2, fun z => absurd rfl z⟩) ⟩)⟩
theorem lg_B1956 {b L : Nat} {xs : Nat → Int32} {K18 : Int32 → Wd → Prop} {P : Int32 → Wd → Prop} {x3 : Int32} {w : Wd} (hv1 : vp_in (x3 + 1) L) (hv2 : vp_in (x3 + 2) L) (hv3 : vp_in (x3 + 3) L) (hv4 : vp_in (x3 + 4) L) (hv5 : vp_in (x3 + 5) L) (hI : Inv w) (hK : ∀ w2, Inv w2 → K18 (x3 + 6) w2) : cf_L_law_B1956 b L xs K18 P x3 w := by
  unfold cf_L_law_B1956
  exact ⟨hv1, op_couples hI _ _ (fun r w1 hM => ⟨hv1,  hM _ (fun w2 hI2 => ⟨fun _ => by rintro _ rfl; exact hK _ hI2, fun z => absurd rfl z⟩) ⟩)⟩
theorem lg_B1979 {b L : Nat} {xs : Nat → Int32} {K18 : Int32 → Wd → Prop} {P : Int32 → Wd → Prop} {x3 : Int32} {w : Wd} (hv1 : vp_in (x3 + 1) L) (hv2 : vp_in (x3 + 2) L) (hv3 : vp_in (x3 + 3) L) (hv4 : vp_in (x3 + 4) L) (hv5 : vp_in (x3 + 5) L) (hI : Inv w) (hK : ∀ w2, Inv w2 → K18 (x3 + 6) w2) : cf_L_law_B1979 b L xs K18 P x3 w := by
  unfold cf_L_law_B1979
  exact ⟨hv1, hv2, op_mirror hI _ _ _ (fun r hM => ⟨hv1, hv2,  hM _ ⟨fun _ => by rintro _ rfl; exact hK _ hI, fun z => absurd rfl z⟩ ⟩)⟩
theorem lg_B2012 {b L : Nat} {xs : Nat → Int32} {K18 : Int32 → Wd → Prop} {P : Int32 → Wd → Prop} {x3 : Int32} {w : Wd} (hv1 : vp_in (x3 + 1) L) (hv2 : vp_in (x3 + 2) L) (hv3 : vp_in (x3 + 3) L) (hv4 : vp_in (x3 + 4) L) (hv5 : vp_in (x3 + 5) L) (hI : Inv w) (hK : ∀ w2, Inv w2 → K18 (x3 + 6) w2) : cf_L_law_B2012 b L xs K18 P x3 w := by
  unfold cf_L_law_B2012
  exact ⟨hv1, hv2, op_akin hI _ _ _ (fun r w1 hM => ⟨hv1, hv2,  hM _ (fun w2 hI2 => ⟨fun _ => by rintro _ rfl; exact hK _ hI2, fun z => absurd rfl z⟩) ⟩)⟩
theorem lg_B2045 {b L : Nat} {xs : Nat → Int32} {K18 : Int32 → Wd → Prop} {P : Int32 → Wd → Prop} {x3 : Int32} {w : Wd} (hv1 : vp_in (x3 + 1) L) (hv2 : vp_in (x3 + 2) L) (hv3 : vp_in (x3 + 3) L) (hv4 : vp_in (x3 + 4) L) (hv5 : vp_in (x3 + 5) L) (hI : Inv w) (hK : ∀ w2, Inv w2 → K18 (x3 + 6) w2) : cf_L_law_B2045 b L xs K18 P x3 w := by
  unfold cf_L_law_B2045
  exact ⟨hv1, op_count hI _ _ (fun r hM => ⟨hv1,  hM _ (fun w2 hI2 => ⟨fun _ => by rintro _ rfl; exact hK _ hI2, fun z => absurd rfl z⟩) ⟩)⟩
theorem law_go {b L : Nat} {xs : Nat → Int32} (hL : L ≤ 3072) : ∀ m i w, L ≤ i + m → i ≤ L → Inv w → ∀ n, m < n → cf_L_law_L18 b L xs (fun x _ => x = 1) n (nI i) w := by
  intro m
  induction m with
  | zero =>
    intro i w h1 h2 hI n hn
    obtain ⟨n, rfl⟩ : ∃ m, n = m + 1 := ⟨n - 1, by omega⟩
    unfold cf_L_law_L18 cf_L_law_B18
    refine ⟨fun _ => rfl, fun c => ?_⟩
    exfalso
    apply c
    rw [Int32.lt_iff_toInt_lt, show Int32.ofNat L - 6 = nI L - nI 6 from rfl, pk_sub_toInt (by omega) (by omega), nI_toInt (by omega)]
    omega
  | succ m ih =>
    intro i w h1 h2 hI n hn
    obtain ⟨n, rfl⟩ : ∃ m, n = m + 1 := ⟨n - 1, by omega⟩
    unfold cf_L_law_L18 cf_L_law_B18
    refine ⟨fun _ => rfl, fun c => ?_⟩
    rw [Int32.lt_iff_toInt_lt, show Int32.ofNat L - 6 = nI L - nI 6 from rfl, pk_sub_toInt (by omega) (by omega), nI_toInt (by omega)] at c
    have c : i + 6 ≤ L := by omega
    have vi : ∀ j : Nat, j ≤ 5 → vp_in (nI i + nI j) L := fun j hj => by rw [nI_add]; exact vp_in_nI (by omega) (by omega)
    have hK : ∀ w2, Inv w2 → cf_L_law_L18 b L xs (fun x _ => x = 1) n (nI i + 6) w2 := by
      intro w2 hI2
      rw [show nI i + 6 = nI (i + 6) from nI_add i 6]
      exact ih (i + 6) w2 (by omega) (by omega) hI2 n (by omega)
    refine ⟨vp_in_nI (by omega) (by omega), fun _ => lg_B244 (vi 1 (by omega)) (vi 2 (by omega)) (vi 3 (by omega)) (vi 4 (by omega)) (vi 5 (by omega)) hI hK, fun _ => lg_B307 (vi 1 (by omega)) (vi 2 (by omega)) (vi 3 (by omega)) (vi 4 (by omega)) (vi 5 (by omega)) hI hK, fun _ => lg_B330 (vi 1 (by omega)) (vi 2 (by omega)) (vi 3 (by omega)) (vi 4 (by omega)) (vi 5 (by omega)) hI hK, fun _ => lg_B343 (vi 1 (by omega)) (vi 2 (by omega)) (vi 3 (by omega)) (vi 4 (by omega)) (vi 5 (by omega)) hI hK, fun _ => lg_B366 (vi 1 (by omega)) (vi 2 (by omega)) (vi 3 (by omega)) (vi 4 (by omega)) (vi 5 (by omega)) hI hK, fun _ => lg_B429 (vi 1 (by omega)) (vi 2 (by omega)) (vi 3 (by omega)) (vi 4 (by omega)) (vi 5 (by omega)) hI hK, fun _ => lg_B472 (vi 1 (by omega)) (vi 2 (by omega)) (vi 3 (by omega)) (vi 4 (by omega)) (vi 5 (by omega)) hI hK, fun _ => lg_B515 (vi 1 (by omega)) (vi 2 (by omega)) (vi 3 (by omega)) (vi 4 (by omega)) (vi 5 (by omega)) hI hK, fun _ => lg_B558 (vi 1 (by omega)) (vi 2 (by omega)) (vi 3 (by omega)) (vi 4 (by omega)) (vi 5 (by omega)) hI hK, fun _ => lg_B601 (vi 1 (by omega)) (vi 2 (by omega)) (vi 3 (by omega)) (vi 4 (by omega)) (vi 5 (by omega)) hI hK, fun _ => lg_B644 (vi 1 (by omega)) (vi 2 (by omega)) (vi 3 (by omega)) (vi 4 (by omega)) (vi 5 (by omega)) hI hK, fun _ => lg_B727 (vi 1 (by omega)) (vi 2 (by omega)) (vi 3 (by omega)) (vi 4 (by omega)) (vi 5 (by omega)) hI hK, fun _ => lg_B760 (vi 1 (by omega)) (vi 2 (by omega)) (vi 3 (by omega)) (vi 4 (by omega)) (vi 5 (by omega)) hI hK, fun _ => lg_B813 (vi 1 (by omega)) (vi 2 (by omega)) (vi 3 (by omega)) (vi 4 (by omega)) (vi 5 (by omega)) hI hK, fun _ => lg_B856 (vi 1 (by omega)) (vi 2 (by omega)) (vi 3 (by omega)) (vi 4 (by omega)) (vi 5 (by omega)) hI hK, fun _ => lg_B899 (vi 1 (by omega)) (vi 2 (by omega)) (vi 3 (by omega)) (vi 4 (by omega)) (vi 5 (by omega)) hI hK, fun _ => lg_B962 (vi 1 (by omega)) (vi 2 (by omega)) (vi 3 (by omega)) (vi 4 (by omega)) (vi 5 (by omega)) hI hK, fun _ => lg_B986 (vi 1 (by omega)) (vi 2 (by omega)) (vi 3 (by omega)) (vi 4 (by omega)) (vi 5 (by omega)) hI hK, fun _ => lg_B1010 (vi 1 (by omega)) (vi 2 (by omega)) (vi 3 (by omega)) (vi 4 (by omega)) (vi 5 (by omega)) hI hK, fun _ => lg_B1023 (vi 1 (by omega)) (vi 2 (by omega)) (vi 3 (by omega)) (vi 4 (by omega)) (vi 5 (by omega)) hI hK, fun _ => lg_B1046 (vi 1 (by omega)) (vi 2 (by omega)) (vi 3 (by omega)) (vi 4 (by omega)) (vi 5 (by omega)) hI hK, fun _ => lg_B1069 (vi 1 (by omega)) (vi 2 (by omega)) (vi 3 (by omega)) (vi 4 (by omega)) (vi 5 (by omega)) hI hK, fun _ => lg_B1093 (vi 1 (by omega)) (vi 2 (by omega)) (vi 3 (by omega)) (vi 4 (by omega)) (vi 5 (by omega)) hI hK, fun _ => lg_B1126 (vi 1 (by omega)) (vi 2 (by omega)) (vi 3 (by omega)) (vi 4 (by omega)) (vi 5 (by omega)) hI hK, fun _ => lg_B1160 (vi 1 (by omega)) (vi 2 (by omega)) (vi 3 (by omega)) (vi 4 (by omega)) (vi 5 (by omega)) hI hK, fun _ => lg_B1193 (vi 1 (by omega)) (vi 2 (by omega)) (vi 3 (by omega)) (vi 4 (by omega)) (vi 5 (by omega)) hI hK, fun _ => lg_B1217 (vi 1 (by omega)) (vi 2 (by omega)) (vi 3 (by omega)) (vi 4 (by omega)) (vi 5 (by omega)) hI hK, fun _ => lg_B1250 (vi 1 (by omega)) (vi 2 (by omega)) (vi 3 (by omega)) (vi 4 (by omega)) (vi 5 (by omega)) hI hK, fun _ => lg_B1273 (vi 1 (by omega)) (vi 2 (by omega)) (vi 3 (by omega)) (vi 4 (by omega)) (vi 5 (by omega)) hI hK, fun _ => lg_B1306 (vi 1 (by omega)) (vi 2 (by omega)) (vi 3 (by omega)) (vi 4 (by omega)) (vi 5 (by omega)) hI hK, fun _ => lg_B1380 (vi 1 (by omega)) (vi 2 (by omega)) (vi 3 (by omega)) (vi 4 (by omega)) (vi 5 (by omega)) hI hK, fun _ => lg_B1439 (vi 1 (by omega)) (vi 2 (by omega)) (vi 3 (by omega)) (vi 4 (by omega)) (vi 5 (by omega)) hI hK, fun _ => lg_B1489 (vi 1 (by omega)) (vi 2 (by omega)) (vi 3 (by omega)) (vi 4 (by omega)) (vi 5 (by omega)) hI hK, fun _ => lg_B1539 (vi 1 (by omega)) (vi 2 (by omega)) (vi 3 (by omega)) (vi 4 (by omega)) (vi 5 (by omega)) hI hK, fun _ => lg_B1582 (vi 1 (by omega)) (vi 2 (by omega)) (vi 3 (by omega)) (vi 4 (by omega)) (vi 5 (by omega)) hI hK, fun _ => lg_B1605 (vi 1 (by omega)) (vi 2 (by omega)) (vi 3 (by omega)) (vi 4 (by omega)) (vi 5 (by omega)) hI hK, fun _ => lg_B1639 (vi 1 (by omega)) (vi 2 (by omega)) (vi 3 (by omega)) (vi 4 (by omega)) (vi 5 (by omega)) hI hK, fun _ => lg_B1672 (vi 1 (by omega)) (vi 2 (by omega)) (vi 3 (by omega)) (vi 4 (by omega)) (vi 5 (by omega)) hI hK, fun _ => lg_B1705 (vi 1 (by omega)) (vi 2 (by omega)) (vi 3 (by omega)) (vi 4 (by omega)) (vi 5 (by omega)) hI hK, fun _ => lg_B1749 (vi 1 (by omega)) (vi 2 (by omega)) (vi 3 (by omega)) (vi 4 (by omega)) (vi 5 (by omega)) hI hK, fun _ => lg_B1782 (vi 1 (by omega)) (vi 2 (by omega)) (vi 3 (by omega)) (vi 4 (by omega)) (vi 5 (by omega)) hI hK, fun _ => lg_B1806 (vi 1 (by omega)) (vi 2 (by omega)) (vi 3 (by omega)) (vi 4 (by omega)) (vi 5 (by omega)) hI hK, fun _ => lg_B1839 (vi 1 (by omega)) (vi 2 (by omega)) (vi 3 (by omega)) (vi 4 (by omega)) (vi 5 (by omega)) hI hK, fun _ => lg_B1872 (vi 1 (by omega)) (vi 2 (by omega)) (vi 3 (by omega)) (vi 4 (by omega)) (vi 5 (by omega)) hI hK, fun _ => lg_B1922 (vi 1 (by omega)) (vi 2 (by omega)) (vi 3 (by omega)) (vi 4 (by omega)) (vi 5 (by omega)) hI hK, fun _ => lg_B1956 (vi 1 (by omega)) (vi 2 (by omega)) (vi 3 (by omega)) (vi 4 (by omega)) (vi 5 (by omega)) hI hK, fun _ => lg_B1979 (vi 1 (by omega)) (vi 2 (by omega)) (vi 3 (by omega)) (vi 4 (by omega)) (vi 5 (by omega)) hI hK, fun _ => lg_B2012 (vi 1 (by omega)) (vi 2 (by omega)) (vi 3 (by omega)) (vi 4 (by omega)) (vi 5 (by omega)) hI hK, fun _ => lg_B2045 (vi 1 (by omega)) (vi 2 (by omega)) (vi 3 (by omega)) (vi 4 (by omega)) (vi 5 (by omega)) hI hK, fun _ => ?_⟩
    rintro _ rfl
    exact hK w hI
theorem inv_start : Inv st_w0 := by
  have ok0 : okRow (fun _ => 0) := ⟨fun i _ => ⟨0, by decide, rfl⟩, 0, 0, by decide, rfl, by decide, rfl, fun z => absurd rfl z⟩
  refine ⟨fun _ => 0, 0, fun _ _ => 0, fun _ => false, fun _ _ => 0, ⟨?_, by omega, rfl, ⟨0, by omega, rfl, fun j hj => absurd hj (by omega)⟩, rfl, fun _ _ z => nomatch z⟩, ⟨?_, by omega, rfl, fun j hj => absurd hj (by omega), ?_, fun _ _ z => nomatch z⟩, ok0, fun _ => ok0, fun _ => ok0, ⟨0, by omega, rfl, rfl, fun i hi => absurd hi (by omega)⟩, ⟨rfl, rfl, rfl⟩, Or.inl rfl⟩
  · intro i hi
    show (if 7 = 30 ∧ i = 7 then (-1 : Int64) else 0) = 0
    rw [if_neg (by omega)]
  · intro i hi
    show (if 31 = 30 ∧ i = 7 then (-1 : Int64) else 0) = mrow (fun _ => 0) i
    rw [if_neg (by omega)]
    unfold mrow
    by_cases h1 : i ≤ 10
    · rw [if_pos h1]
    · rw [if_neg h1]
      by_cases h2 : i = 11
      · rw [if_pos h2]; rfl
      · rw [if_neg h2]
  · intro k hk
    show (if (34 = 1 ∧ (k = 5 ∨ k = 7)) ∨ (34 = 30 ∧ (k = 23 ∨ k = 25)) then (-1 : Int32) else 0) = 0
    rw [if_neg (by omega)]
theorem law_runs {b L : Nat} {xs : Nat → Int32} (hL : L ≤ 3072) : ∃ n, cf_L_law_L18 b L xs (fun x _ => x = 1) n 0 st_w0 :=
  ⟨L + 1, law_go hL L 0 st_w0 (by omega) (by omega) inv_start (L + 1) (by omega)⟩
