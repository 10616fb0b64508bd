abbrev wf_X2_copyFrom (cI cB cJ cZ : ClassId) (q_this : Nat) (q_people : Nat) (q_didWith : Nat) (q_didWithout : Nat) (q_conditions : Nat) (q_x1 : Nat) (q_x1_people : Nat) (q_x1_didWith : Nat) (q_x1_didWithout : Nat) (q_x1_conditions : Nat) (size : Int32) (people : Nat → Int32) (didWith : Nat → Int32) (didWithout : Nat → Int32) (conditions : Nat → Int32) (x1_size : Int32) (x1_people : Nat → Int32) (x1_didWith : Nat → Int32) (x1_didWithout : Nat → Int32) (x1_conditions : Nat → Int32) : Int32 × (Nat → Int32) × (Nat → Int32) × (Nat → Int32) × (Nat → Int32) → va_W := fun u => [(q_this, .inr (2, [.ref q_people, .ref q_didWith, .ref q_didWithout, .ref q_conditions, .int u.1])), (q_people, .inl (cI, 12, .inl u.2.1)), (q_didWith, .inl (cI, 12, .inl u.2.2.1)), (q_didWithout, .inl (cI, 12, .inl u.2.2.2.1)), (q_conditions, .inl (cI, 12, .inl u.2.2.2.2)), (q_x1, .inr (2, [.ref q_x1_people, .ref q_x1_didWith, .ref q_x1_didWithout, .ref q_x1_conditions, .int x1_size])), (q_x1_people, .inl (cI, 12, .inl x1_people)), (q_x1_didWith, .inl (cI, 12, .inl x1_didWith)), (q_x1_didWithout, .inl (cI, 12, .inl x1_didWithout)), (q_x1_conditions, .inl (cI, 12, .inl x1_conditions))]
set_option maxHeartbeats 4000000 in
set_option maxRecDepth 100000 in
theorem c_X2_copyFrom (l : Launch) (D : va_G) (cI cB cJ cZ : ClassId) (aK aV : Nat → Nat) (N : Nat) (q_this : Nat) (q_people : Nat) (q_didWith : Nat) (q_didWithout : Nat) (q_conditions : Nat) (q_x1 : Nat) (q_x1_people : Nat) (q_x1_didWith : Nat) (q_x1_didWithout : Nat) (q_x1_conditions : Nat) (size : Int32) (people : Nat → Int32) (didWith : Nat → Int32) (didWithout : Nat → Int32) (conditions : Nat → Int32) (x1_size : Int32) (x1_people : Nat → Int32) (x1_didWith : Nat → Int32) (x1_didWithout : Nat → Int32) (x1_conditions : Nat → Int32) (sz : Nat) {post : Int32 → (Nat → Int32) → (Nat → Int32) → (Nat → Int32) → (Nat → Int32) → Prop} (h : f_X2_copyFrom N people didWith didWithout conditions x1_size x1_people x1_didWith x1_didWithout x1_conditions post) : Met l yX2_copyFrom wsX2_copyFrom { frames := 1, cells := 0, slots := 0, locals := 40 } (PW D cI cB cJ cZ aK aV [.ref q_this, .ref q_x1] [(q_this, .inr (2, [.ref q_people, .ref q_didWith, .ref q_didWithout, .ref q_conditions, .int size])), (q_people, .inl (cI, 12, .inl people)), (q_didWith, .inl (cI, 12, .inl didWith)), (q_didWithout, .inl (cI, 12, .inl didWithout)), (q_conditions, .inl (cI, 12, .inl conditions)), (q_x1, .inr (2, [.ref q_x1_people, .ref q_x1_didWith, .ref q_x1_didWithout, .ref q_x1_conditions, .int x1_size])), (q_x1_people, .inl (cI, 12, .inl x1_people)), (q_x1_didWith, .inl (cI, 12, .inl x1_didWith)), (q_x1_didWithout, .inl (cI, 12, .inl x1_didWithout)), (q_x1_conditions, .inl (cI, 12, .inl x1_conditions))] sz) (va_Qv (fun (u : Int32 × (Nat → Int32) × (Nat → Int32) × (Nat → Int32) × (Nat → Int32)) => post u.1 u.2.1 u.2.2.1 u.2.2.2.1 u.2.2.2.2) (BW D (va_A [(q_this, .inr (2, [.ref q_people, .ref q_didWith, .ref q_didWithout, .ref q_conditions, .int size])), (q_people, .inl (cI, 12, .inl people)), (q_didWith, .inl (cI, 12, .inl didWith)), (q_didWithout, .inl (cI, 12, .inl didWithout)), (q_conditions, .inl (cI, 12, .inl conditions)), (q_x1, .inr (2, [.ref q_x1_people, .ref q_x1_didWith, .ref q_x1_didWithout, .ref q_x1_conditions, .int x1_size])), (q_x1_people, .inl (cI, 12, .inl x1_people)), (q_x1_didWith, .inl (cI, 12, .inl x1_didWith)), (q_x1_didWithout, .inl (cI, 12, .inl x1_didWithout)), (q_x1_conditions, .inl (cI, 12, .inl x1_conditions))] sz) (wf_X2_copyFrom cI cB cJ cZ q_this q_people q_didWith q_didWithout q_conditions q_x1 q_x1_people q_x1_didWith q_x1_didWithout q_x1_conditions size people didWith didWithout conditions x1_size x1_people x1_didWith x1_didWithout x1_conditions)) (va_A [(q_this, .inr (2, [.ref q_people, .ref q_didWith, .ref q_didWithout, .ref q_conditions, .int size])), (q_people, .inl (cI, 12, .inl people)), (q_didWith, .inl (cI, 12, .inl didWith)), (q_didWithout, .inl (cI, 12, .inl didWithout)), (q_conditions, .inl (cI, 12, .inl conditions)), (q_x1, .inr (2, [.ref q_x1_people, .ref q_x1_didWith, .ref q_x1_didWithout, .ref q_x1_conditions, .int x1_size])), (q_x1_people, .inl (cI, 12, .inl x1_people)), (q_x1_didWith, .inl (cI, 12, .inl x1_didWith)), (q_x1_didWithout, .inl (cI, 12, .inl x1_didWithout)), (q_x1_conditions, .inl (cI, 12, .inl x1_conditions))] sz)) 0 0 (va_A [(q_this, .inr (2, [.ref q_people, .ref q_didWith, .ref q_didWithout, .ref q_conditions, .int size])), (q_people, .inl (cI, 12, .inl people)), (q_didWith, .inl (cI, 12, .inl didWith)), (q_didWithout, .inl (cI, 12, .inl didWithout)), (q_conditions, .inl (cI, 12, .inl conditions)), (q_x1, .inr (2, [.ref q_x1_people, .ref q_x1_didWith, .ref q_x1_didWithout, .ref q_x1_conditions, .int x1_size])), (q_x1_people, .inl (cI, 12, .inl x1_people)), (q_x1_didWith, .inl (cI, 12, .inl x1_didWith)), (q_x1_didWithout, .inl (cI, 12, .inl x1_didWithout)), (q_x1_conditions, .inl (cI, 12, .inl x1_conditions))] sz) := by
  refine mu_enter (Qc := fun A => (va_Qv (fun (u : Int32 × (Nat → Int32) × (Nat → Int32) × (Nat → Int32) × (Nat → Int32)) => post u.1 u.2.1 u.2.2.1 u.2.2.2.1 u.2.2.2.2) (BW D A (wf_X2_copyFrom cI cB cJ cZ q_this q_people q_didWith q_didWithout q_conditions q_x1 q_x1_people q_x1_didWith q_x1_didWithout q_x1_conditions size people didWith didWithout conditions x1_size x1_people x1_didWith x1_didWithout x1_conditions)) A)) (cc := cX2_copyFrom) (maxL := 2) (ret := none) (by decide) rfl (Nat.le_of_ble_eq_true rfl) ?_
  intro p e s m below meth c A C0 hA H locs hP hD hS ls hl
  have hl : lv_has ls 2 [(0, .ref q_this), (1, .ref q_x1)] := hl
  unfold f_X2_copyFrom at h
  obtain ⟨hx, hb, hr, hml, hown, hts, hE, hlk, hnm⟩ := id C0
  have ik2 : ∀ w ∈ u_ws RX2 TX2 5, w ∈ wsX2_copyFrom := by decide +kernel
  refine lv_aload_n hx hb dX2_copyFrom_0 rfl (lv_at hl 1 rfl) ?_
  refine va_get (D := D) (ci := 2) (v := .ref q_x1_people) (C := RX2) (T := TX2) (N := 5) hx hb hts ik2 hown hE.1.1 hP 5 rfl rfl 0 (by decide) (hts (.fieldLink RX2 11 "FortyHouses$Houses" "people" "[I") (by decide +kernel)) (fun _ h9 => h9) rfl dX2_copyFrom_1 ?_
  refine lv_iconst (v := 0) hx hb dX2_copyFrom_4 (by decide) ?_
  refine lv_aload_n hx hb dX2_copyFrom_5 rfl (lv_at hl 0 rfl) ?_
  refine va_get (D := D) (ci := 2) (v := .ref q_people) (C := RX2) (T := TX2) (N := 5) hx hb hts ik2 hown hE.1.1 hP 0 rfl rfl 0 (by decide) (hts (.fieldLink RX2 11 "FortyHouses$Houses" "people" "[I") (by decide +kernel)) (fun _ h9 => h9) rfl dX2_copyFrom_6 ?_
  refine lv_iconst (v := 0) hx hb dX2_copyFrom_9 (by decide) ?_
  refine lv_bipush (v := 12) hx hb dX2_copyFrom_10 (by decide) ?_
  refine va_copyi hx hb (hml.trans hl.1.symm) hown (hts (.methodLink RX2 28 arraycopyName) (by decide +kernel)) (hts (.native arraycopyName) (by decide +kernel)) (hts (.static arraycopyName) (by decide +kernel)) (hts (.initialized "java/lang/System") (by decide +kernel)) hE.1.1 hP hD hS 6 1 0 0 rfl rfl rfl rfl rfl (by decide) (by decide) (by decide) (by decide +kernel) (by decide +kernel) (fun _ _ => rfl) (Nat.le_of_ble_eq_true rfl) (by decide +kernel) dX2_copyFrom_12 (fun H locs hP hD hS => ?_)
  have hP : va_P D vwCl [(q_this, .inr (2, [.ref q_people, .ref q_didWith, .ref q_didWithout, .ref q_conditions, .int size])), (q_people, .inl (cI, 12, .inl (va_cpy x1_people people (0 : Int32).toNatClampNeg (0 : Int32).toNatClampNeg (12 : Int32).toNatClampNeg))), (q_didWith, .inl (cI, 12, .inl didWith)), (q_didWithout, .inl (cI, 12, .inl didWithout)), (q_conditions, .inl (cI, 12, .inl conditions)), (q_x1, .inr (2, [.ref q_x1_people, .ref q_x1_didWith, .ref q_x1_didWithout, .ref q_x1_conditions, .int x1_size])), (q_x1_people, .inl (cI, 12, .inl x1_people)), (q_x1_didWith, .inl (cI, 12, .inl x1_didWith)), (q_x1_didWithout, .inl (cI, 12, .inl x1_didWithout)), (q_x1_conditions, .inl (cI, 12, .inl x1_conditions))] H := hP
  have hD : va_D A [(q_this, .inr (2, [.ref q_people, .ref q_didWith, .ref q_didWithout, .ref q_conditions, .int size])), (q_people, .inl (cI, 12, .inl (va_cpy x1_people people (0 : Int32).toNatClampNeg (0 : Int32).toNatClampNeg (12 : Int32).toNatClampNeg))), (q_didWith, .inl (cI, 12, .inl didWith)), (q_didWithout, .inl (cI, 12, .inl didWithout)), (q_conditions, .inl (cI, 12, .inl conditions)), (q_x1, .inr (2, [.ref q_x1_people, .ref q_x1_didWith, .ref q_x1_didWithout, .ref q_x1_conditions, .int x1_size])), (q_x1_people, .inl (cI, 12, .inl x1_people)), (q_x1_didWith, .inl (cI, 12, .inl x1_didWith)), (q_x1_didWithout, .inl (cI, 12, .inl x1_didWithout)), (q_x1_conditions, .inl (cI, 12, .inl x1_conditions))] := hD
  refine lv_aload_n hx hb dX2_copyFrom_15 rfl (lv_at hl 1 rfl) ?_
  refine va_get (D := D) (ci := 2) (v := .ref q_x1_didWith) (C := RX2) (T := TX2) (N := 5) hx hb hts ik2 hown hE.1.1 hP 5 rfl rfl 1 (by decide) (hts (.fieldLink RX2 15 "FortyHouses$Houses" "didWith" "[I") (by decide +kernel)) (fun _ h9 => h9) rfl dX2_copyFrom_16 ?_
  refine lv_iconst (v := 0) hx hb dX2_copyFrom_19 (by decide) ?_
  refine lv_aload_n hx hb dX2_copyFrom_20 rfl (lv_at hl 0 rfl) ?_
  refine va_get (D := D) (ci := 2) (v := .ref q_didWith) (C := RX2) (T := TX2) (N := 5) hx hb hts ik2 hown hE.1.1 hP 0 rfl rfl 1 (by decide) (hts (.fieldLink RX2 15 "FortyHouses$Houses" "didWith" "[I") (by decide +kernel)) (fun _ h9 => h9) rfl dX2_copyFrom_21 ?_
  refine lv_iconst (v := 0) hx hb dX2_copyFrom_24 (by decide) ?_
  refine lv_bipush (v := 12) hx hb dX2_copyFrom_25 (by decide) ?_
  refine va_copyi hx hb (hml.trans hl.1.symm) hown (hts (.methodLink RX2 28 arraycopyName) (by decide +kernel)) (hts (.native arraycopyName) (by decide +kernel)) (hts (.static arraycopyName) (by decide +kernel)) (hts (.initialized "java/lang/System") (by decide +kernel)) hE.1.1 hP hD hS 7 2 0 0 rfl rfl rfl rfl rfl (by decide) (by decide) (by decide) (by decide +kernel) (by decide +kernel) (fun _ _ => rfl) (Nat.le_of_ble_eq_true rfl) (by decide +kernel) dX2_copyFrom_27 (fun H locs hP hD hS => ?_)
  have hP : va_P D vwCl [(q_this, .inr (2, [.ref q_people, .ref q_didWith, .ref q_didWithout, .ref q_conditions, .int size])), (q_people, .inl (cI, 12, .inl (va_cpy x1_people people (0 : Int32).toNatClampNeg (0 : Int32).toNatClampNeg (12 : Int32).toNatClampNeg))), (q_didWith, .inl (cI, 12, .inl (va_cpy x1_didWith didWith (0 : Int32).toNatClampNeg (0 : Int32).toNatClampNeg (12 : Int32).toNatClampNeg))), (q_didWithout, .inl (cI, 12, .inl didWithout)), (q_conditions, .inl (cI, 12, .inl conditions)), (q_x1, .inr (2, [.ref q_x1_people, .ref q_x1_didWith, .ref q_x1_didWithout, .ref q_x1_conditions, .int x1_size])), (q_x1_people, .inl (cI, 12, .inl x1_people)), (q_x1_didWith, .inl (cI, 12, .inl x1_didWith)), (q_x1_didWithout, .inl (cI, 12, .inl x1_didWithout)), (q_x1_conditions, .inl (cI, 12, .inl x1_conditions))] H := hP
  have hD : va_D A [(q_this, .inr (2, [.ref q_people, .ref q_didWith, .ref q_didWithout, .ref q_conditions, .int size])), (q_people, .inl (cI, 12, .inl (va_cpy x1_people people (0 : Int32).toNatClampNeg (0 : Int32).toNatClampNeg (12 : Int32).toNatClampNeg))), (q_didWith, .inl (cI, 12, .inl (va_cpy x1_didWith didWith (0 : Int32).toNatClampNeg (0 : Int32).toNatClampNeg (12 : Int32).toNatClampNeg))), (q_didWithout, .inl (cI, 12, .inl didWithout)), (q_conditions, .inl (cI, 12, .inl conditions)), (q_x1, .inr (2, [.ref q_x1_people, .ref q_x1_didWith, .ref q_x1_didWithout, .ref q_x1_conditions, .int x1_size])), (q_x1_people, .inl (cI, 12, .inl x1_people)), (q_x1_didWith, .inl (cI, 12, .inl x1_didWith)), (q_x1_didWithout, .inl (cI, 12, .inl x1_didWithout)), (q_x1_conditions, .inl (cI, 12, .inl x1_conditions))] := hD
  refine lv_aload_n hx hb dX2_copyFrom_30 rfl (lv_at hl 1 rfl) ?_
  refine va_get (D := D) (ci := 2) (v := .ref q_x1_didWithout) (C := RX2) (T := TX2) (N := 5) hx hb hts ik2 hown hE.1.1 hP 5 rfl rfl 2 (by decide) (hts (.fieldLink RX2 18 "FortyHouses$Houses" "didWithout" "[I") (by decide +kernel)) (fun _ h9 => h9) rfl dX2_copyFrom_31 ?_
  refine lv_iconst (v := 0) hx hb dX2_copyFrom_34 (by decide) ?_
  refine lv_aload_n hx hb dX2_copyFrom_35 rfl (lv_at hl 0 rfl) ?_
  refine va_get (D := D) (ci := 2) (v := .ref q_didWithout) (C := RX2) (T := TX2) (N := 5) hx hb hts ik2 hown hE.1.1 hP 0 rfl rfl 2 (by decide) (hts (.fieldLink RX2 18 "FortyHouses$Houses" "didWithout" "[I") (by decide +kernel)) (fun _ h9 => h9) rfl dX2_copyFrom_36 ?_
  refine lv_iconst (v := 0) hx hb dX2_copyFrom_39 (by decide) ?_
  refine lv_bipush (v := 12) hx hb dX2_copyFrom_40 (by decide) ?_
  refine va_copyi hx hb (hml.trans hl.1.symm) hown (hts (.methodLink RX2 28 arraycopyName) (by decide +kernel)) (hts (.native arraycopyName) (by decide +kernel)) (hts (.static arraycopyName) (by decide +kernel)) (hts (.initialized "java/lang/System") (by decide +kernel)) hE.1.1 hP hD hS 8 3 0 0 rfl rfl rfl rfl rfl (by decide) (by decide) (by decide) (by decide +kernel) (by decide +kernel) (fun _ _ => rfl) (Nat.le_of_ble_eq_true rfl) (by decide +kernel) dX2_copyFrom_42 (fun H locs hP hD hS => ?_)
  have hP : va_P D vwCl [(q_this, .inr (2, [.ref q_people, .ref q_didWith, .ref q_didWithout, .ref q_conditions, .int size])), (q_people, .inl (cI, 12, .inl (va_cpy x1_people people (0 : Int32).toNatClampNeg (0 : Int32).toNatClampNeg (12 : Int32).toNatClampNeg))), (q_didWith, .inl (cI, 12, .inl (va_cpy x1_didWith didWith (0 : Int32).toNatClampNeg (0 : Int32).toNatClampNeg (12 : Int32).toNatClampNeg))), (q_didWithout, .inl (cI, 12, .inl (va_cpy x1_didWithout didWithout (0 : Int32).toNatClampNeg (0 : Int32).toNatClampNeg (12 : Int32).toNatClampNeg))), (q_conditions, .inl (cI, 12, .inl conditions)), (q_x1, .inr (2, [.ref q_x1_people, .ref q_x1_didWith, .ref q_x1_didWithout, .ref q_x1_conditions, .int x1_size])), (q_x1_people, .inl (cI, 12, .inl x1_people)), (q_x1_didWith, .inl (cI, 12, .inl x1_didWith)), (q_x1_didWithout, .inl (cI, 12, .inl x1_didWithout)), (q_x1_conditions, .inl (cI, 12, .inl x1_conditions))] H := hP
  have hD : va_D A [(q_this, .inr (2, [.ref q_people, .ref q_didWith, .ref q_didWithout, .ref q_conditions, .int size])), (q_people, .inl (cI, 12, .inl (va_cpy x1_people people (0 : Int32).toNatClampNeg (0 : Int32).toNatClampNeg (12 : Int32).toNatClampNeg))), (q_didWith, .inl (cI, 12, .inl (va_cpy x1_didWith didWith (0 : Int32).toNatClampNeg (0 : Int32).toNatClampNeg (12 : Int32).toNatClampNeg))), (q_didWithout, .inl (cI, 12, .inl (va_cpy x1_didWithout didWithout (0 : Int32).toNatClampNeg (0 : Int32).toNatClampNeg (12 : Int32).toNatClampNeg))), (q_conditions, .inl (cI, 12, .inl conditions)), (q_x1, .inr (2, [.ref q_x1_people, .ref q_x1_didWith, .ref q_x1_didWithout, .ref q_x1_conditions, .int x1_size])), (q_x1_people, .inl (cI, 12, .inl x1_people)), (q_x1_didWith, .inl (cI, 12, .inl x1_didWith)), (q_x1_didWithout, .inl (cI, 12, .inl x1_didWithout)), (q_x1_conditions, .inl (cI, 12, .inl x1_conditions))] := hD
  refine lv_aload_n hx hb dX2_copyFrom_45 rfl (lv_at hl 1 rfl) ?_
  refine va_get (D := D) (ci := 2) (v := .ref q_x1_conditions) (C := RX2) (T := TX2) (N := 5) hx hb hts ik2 hown hE.1.1 hP 5 rfl rfl 3 (by decide) (hts (.fieldLink RX2 21 "FortyHouses$Houses" "conditions" "[I") (by decide +kernel)) (fun _ h9 => h9) rfl dX2_copyFrom_46 ?_
  refine lv_iconst (v := 0) hx hb dX2_copyFrom_49 (by decide) ?_
  refine lv_aload_n hx hb dX2_copyFrom_50 rfl (lv_at hl 0 rfl) ?_
  refine va_get (D := D) (ci := 2) (v := .ref q_conditions) (C := RX2) (T := TX2) (N := 5) hx hb hts ik2 hown hE.1.1 hP 0 rfl rfl 3 (by decide) (hts (.fieldLink RX2 21 "FortyHouses$Houses" "conditions" "[I") (by decide +kernel)) (fun _ h9 => h9) rfl dX2_copyFrom_51 ?_
  refine lv_iconst (v := 0) hx hb dX2_copyFrom_54 (by decide) ?_
  refine lv_bipush (v := 12) hx hb dX2_copyFrom_55 (by decide) ?_
  refine va_copyi hx hb (hml.trans hl.1.symm) hown (hts (.methodLink RX2 28 arraycopyName) (by decide +kernel)) (hts (.native arraycopyName) (by decide +kernel)) (hts (.static arraycopyName) (by decide +kernel)) (hts (.initialized "java/lang/System") (by decide +kernel)) hE.1.1 hP hD hS 9 4 0 0 rfl rfl rfl rfl rfl (by decide) (by decide) (by decide) (by decide +kernel) (by decide +kernel) (fun _ _ => rfl) (Nat.le_of_ble_eq_true rfl) (by decide +kernel) dX2_copyFrom_57 (fun H locs hP hD hS => ?_)
  have hP : va_P D vwCl [(q_this, .inr (2, [.ref q_people, .ref q_didWith, .ref q_didWithout, .ref q_conditions, .int size])), (q_people, .inl (cI, 12, .inl (va_cpy x1_people people (0 : Int32).toNatClampNeg (0 : Int32).toNatClampNeg (12 : Int32).toNatClampNeg))), (q_didWith, .inl (cI, 12, .inl (va_cpy x1_didWith didWith (0 : Int32).toNatClampNeg (0 : Int32).toNatClampNeg (12 : Int32).toNatClampNeg))), (q_didWithout, .inl (cI, 12, .inl (va_cpy x1_didWithout didWithout (0 : Int32).toNatClampNeg (0 : Int32).toNatClampNeg (12 : Int32).toNatClampNeg))), (q_conditions, .inl (cI, 12, .inl (va_cpy x1_conditions conditions (0 : Int32).toNatClampNeg (0 : Int32).toNatClampNeg (12 : Int32).toNatClampNeg))), (q_x1, .inr (2, [.ref q_x1_people, .ref q_x1_didWith, .ref q_x1_didWithout, .ref q_x1_conditions, .int x1_size])), (q_x1_people, .inl (cI, 12, .inl x1_people)), (q_x1_didWith, .inl (cI, 12, .inl x1_didWith)), (q_x1_didWithout, .inl (cI, 12, .inl x1_didWithout)), (q_x1_conditions, .inl (cI, 12, .inl x1_conditions))] H := hP
  have hD : va_D A [(q_this, .inr (2, [.ref q_people, .ref q_didWith, .ref q_didWithout, .ref q_conditions, .int size])), (q_people, .inl (cI, 12, .inl (va_cpy x1_people people (0 : Int32).toNatClampNeg (0 : Int32).toNatClampNeg (12 : Int32).toNatClampNeg))), (q_didWith, .inl (cI, 12, .inl (va_cpy x1_didWith didWith (0 : Int32).toNatClampNeg (0 : Int32).toNatClampNeg (12 : Int32).toNatClampNeg))), (q_didWithout, .inl (cI, 12, .inl (va_cpy x1_didWithout didWithout (0 : Int32).toNatClampNeg (0 : Int32).toNatClampNeg (12 : Int32).toNatClampNeg))), (q_conditions, .inl (cI, 12, .inl (va_cpy x1_conditions conditions (0 : Int32).toNatClampNeg (0 : Int32).toNatClampNeg (12 : Int32).toNatClampNeg))), (q_x1, .inr (2, [.ref q_x1_people, .ref q_x1_didWith, .ref q_x1_didWithout, .ref q_x1_conditions, .int x1_size])), (q_x1_people, .inl (cI, 12, .inl x1_people)), (q_x1_didWith, .inl (cI, 12, .inl x1_didWith)), (q_x1_didWithout, .inl (cI, 12, .inl x1_didWithout)), (q_x1_conditions, .inl (cI, 12, .inl x1_conditions))] := hD
  refine lv_aload_n hx hb dX2_copyFrom_60 rfl (lv_at hl 0 rfl) ?_
  refine lv_aload_n hx hb dX2_copyFrom_61 rfl (lv_at hl 1 rfl) ?_
  refine va_get (D := D) (ci := 2) (v := .int x1_size) (C := RX2) (T := TX2) (N := 5) hx hb hts ik2 hown hE.1.1 hP 5 rfl rfl 4 (by decide) (hts (.fieldLink RX2 24 "FortyHouses$Houses" "size" "I") (by decide +kernel)) (fun _ h9 => h9) rfl dX2_copyFrom_62 ?_
  refine va_put (D := D) (ci := 2) (v := .int x1_size) (ty := .int) (C := RX2) (T := TX2) (N := 5) hx hb hts ik2 tyX2 tyX2_ok nmX2 hown hE.1.1 hP hD hS 0 rfl rfl 4 (by decide) (hts (.fieldLink RX2 24 "FortyHouses$Houses" "size" "I") (by decide +kernel)) (fun _ h9 => h9) rfl (by decide +kernel) rfl rfl (Nat.le_of_ble_eq_true rfl) dX2_copyFrom_65 (fun H locs hP hD hS => ?_)
  have hP : va_P D vwCl [(q_this, .inr (2, [.ref q_people, .ref q_didWith, .ref q_didWithout, .ref q_conditions, .int x1_size])), (q_people, .inl (cI, 12, .inl (va_cpy x1_people people (0 : Int32).toNatClampNeg (0 : Int32).toNatClampNeg (12 : Int32).toNatClampNeg))), (q_didWith, .inl (cI, 12, .inl (va_cpy x1_didWith didWith (0 : Int32).toNatClampNeg (0 : Int32).toNatClampNeg (12 : Int32).toNatClampNeg))), (q_didWithout, .inl (cI, 12, .inl (va_cpy x1_didWithout didWithout (0 : Int32).toNatClampNeg (0 : Int32).toNatClampNeg (12 : Int32).toNatClampNeg))), (q_conditions, .inl (cI, 12, .inl (va_cpy x1_conditions conditions (0 : Int32).toNatClampNeg (0 : Int32).toNatClampNeg (12 : Int32).toNatClampNeg))), (q_x1, .inr (2, [.ref q_x1_people, .ref q_x1_didWith, .ref q_x1_didWithout, .ref q_x1_conditions, .int x1_size])), (q_x1_people, .inl (cI, 12, .inl x1_people)), (q_x1_didWith, .inl (cI, 12, .inl x1_didWith)), (q_x1_didWithout, .inl (cI, 12, .inl x1_didWithout)), (q_x1_conditions, .inl (cI, 12, .inl x1_conditions))] H := hP
  have hD : va_D A [(q_this, .inr (2, [.ref q_people, .ref q_didWith, .ref q_didWithout, .ref q_conditions, .int x1_size])), (q_people, .inl (cI, 12, .inl (va_cpy x1_people people (0 : Int32).toNatClampNeg (0 : Int32).toNatClampNeg (12 : Int32).toNatClampNeg))), (q_didWith, .inl (cI, 12, .inl (va_cpy x1_didWith didWith (0 : Int32).toNatClampNeg (0 : Int32).toNatClampNeg (12 : Int32).toNatClampNeg))), (q_didWithout, .inl (cI, 12, .inl (va_cpy x1_didWithout didWithout (0 : Int32).toNatClampNeg (0 : Int32).toNatClampNeg (12 : Int32).toNatClampNeg))), (q_conditions, .inl (cI, 12, .inl (va_cpy x1_conditions conditions (0 : Int32).toNatClampNeg (0 : Int32).toNatClampNeg (12 : Int32).toNatClampNeg))), (q_x1, .inr (2, [.ref q_x1_people, .ref q_x1_didWith, .ref q_x1_didWithout, .ref q_x1_conditions, .int x1_size])), (q_x1_people, .inl (cI, 12, .inl x1_people)), (q_x1_didWith, .inl (cI, 12, .inl x1_didWith)), (q_x1_didWithout, .inl (cI, 12, .inl x1_didWithout)), (q_x1_conditions, .inl (cI, 12, .inl x1_conditions))] := hD
  exact mu_vret (wf := wf_X2_copyFrom cI cB cJ cZ q_this q_people q_didWith q_didWithout q_conditions q_x1 q_x1_people q_x1_didWith q_x1_didWithout q_x1_conditions size people didWith didWithout conditions x1_size x1_people x1_didWith x1_didWithout x1_conditions) (x1_size, (va_cpy x1_people people (0 : Int32).toNatClampNeg (0 : Int32).toNatClampNeg (12 : Int32).toNatClampNeg), (va_cpy x1_didWith didWith (0 : Int32).toNatClampNeg (0 : Int32).toNatClampNeg (12 : Int32).toNatClampNeg), (va_cpy x1_didWithout didWithout (0 : Int32).toNatClampNeg (0 : Int32).toNatClampNeg (12 : Int32).toNatClampNeg), (va_cpy x1_conditions conditions (0 : Int32).toNatClampNeg (0 : Int32).toNatClampNeg (12 : Int32).toNatClampNeg)) hx hb hr hlk hP hD hS h dX2_copyFrom_68
set_option maxHeartbeats 4000000 in
set_option maxRecDepth 100000 in
theorem c_J6_compare_7cf53 (l : Launch) (D : va_G) (cI cB cJ cZ : ClassId) (aK aV : Nat → Nat) (N : Nat) (x1 : Int32) (x2 : Int32) {post : Int32 → Prop} (h : f_J6_compare_7cf53 N x1 x2 post) : Met l yJ6_compare_7cf53 wsJ6_compare_7cf53 { frames := 0, cells := 0, slots := 0, locals := 0 } (PR D cI cB cJ cZ aK aV [.int x1, .int x2] []) (vp_Si post) 0 0 (fun _ => False) := by
  refine ro_enter (cc := cJ6_compare_7cf53) (maxL := 2) (ret := (some .int)) (by decide) rfl (Nat.le_of_ble_eq_true rfl) ?_
  intro p e s m below meth c C0 hP ls hl
  have hl : lv_has ls 2 [(0, .int x1), (1, .int x2)] := hl
  unfold f_J6_compare_7cf53 at h
  obtain ⟨hx, hb, hr, hml, hown, hts, hE, hlk, hnm⟩ := id C0
  refine lv_iload_n hx hb dJ6_compare_7cf53_0 rfl (lv_at hl 0 rfl) ?_
  refine lv_iload_n hx hb dJ6_compare_7cf53_1 rfl (lv_at hl 1 rfl) ?_
  refine lv_icmp_ge (tgt := 9) hx hb dJ6_compare_7cf53_2 (by decide) (fun c1 => ?_) (fun c1 => ?_)
  · have h := ite_t c1 h
    refine lv_iload_n hx hb dJ6_compare_7cf53_9 rfl (lv_at hl 0 rfl) ?_
    refine lv_iload_n hx hb dJ6_compare_7cf53_10 rfl (lv_at hl 1 rfl) ?_
    refine lv_icmp_ne (tgt := 18) hx hb dJ6_compare_7cf53_11 (by decide) (fun c1 => ?_) (fun c1 => ?_)
    · have h := ite_t c1 h
      refine lv_iconst (v := 1) hx hb dJ6_compare_7cf53_18 (by decide) ?_
      exact ro_iret hx hb hr hlk h dJ6_compare_7cf53_19
    · have h := ite_n c1 h
      refine lv_iconst (v := 0) hx hb dJ6_compare_7cf53_14 (by decide) ?_
      refine lv_goto (tgt := 19) hx hb dJ6_compare_7cf53_15 (by decide) ?_
      exact ro_iret hx hb hr hlk h dJ6_compare_7cf53_19
  · have h := ite_f c1 h
    refine lv_iconst (v := (-1)) hx hb dJ6_compare_7cf53_5 (by decide) ?_
    refine lv_goto (tgt := 19) hx hb dJ6_compare_7cf53_6 (by decide) ?_
    exact ro_iret hx hb hr hlk h dJ6_compare_7cf53_19
set_option maxHeartbeats 4000000 in
set_option maxRecDepth 100000 in
theorem c_J6_bitCount_0f7a4 (l : Launch) (D : va_G) (cI cB cJ cZ : ClassId) (aK aV : Nat → Nat) (N : Nat) (x1 : Int32) {post : Int32 → Prop} (h : f_J6_bitCount_0f7a4 N x1 post) : Met l yJ6_bitCount_0f7a4 wsJ6_bitCount_0f7a4 { frames := 0, cells := 0, slots := 0, locals := 0 } (PR D cI cB cJ cZ aK aV [.int x1] []) (vp_Si post) 0 0 (fun _ => False) := by
  refine ro_enter (cc := cJ6_bitCount_0f7a4) (maxL := 1) (ret := (some .int)) (by decide) rfl (Nat.le_of_ble_eq_true rfl) ?_
  intro p e s m below meth c C0 hP ls hl
  have hl : lv_has ls 1 [(0, .int x1)] := hl
  unfold f_J6_bitCount_0f7a4 at h
  obtain ⟨hx, hb, hr, hml, hown, hts, hE, hlk, hnm⟩ := id C0
  refine lv_iload_n hx hb dJ6_bitCount_0f7a4_0 rfl (lv_at hl 0 rfl) ?_
  refine lv_iload_n hx hb dJ6_bitCount_0f7a4_1 rfl (lv_at hl 0 rfl) ?_
  refine lv_iconst (v := 1) hx hb dJ6_bitCount_0f7a4_2 (by decide) ?_
  refine lv_iushr (v := (x1.toUInt32 >>> ((1 : Int32).toUInt32 &&& Int32.toUInt32 31)).toInt32) hx hb dJ6_bitCount_0f7a4_3 rfl ?_
  refine lv_ldcw hx hb hown (hts (.constant RJ6 265 (1431655765)) (by decide +kernel)) dJ6_bitCount_0f7a4_4 ?_
  refine lv_iand hx hb dJ6_bitCount_0f7a4_7 ?_
  refine lv_isub hx hb dJ6_bitCount_0f7a4_8 ?_
  refine lv_topi (fun v1 ex => ?_)
  have h := nm_of ex h
  refine lv_istore_n (lv' := [(0, .int v1)]) hx hb dJ6_bitCount_0f7a4_9 rfl hl (by decide) rfl (fun ls hl => ?_)
  refine lv_iload_n hx hb dJ6_bitCount_0f7a4_10 rfl (lv_at hl 0 rfl) ?_
  refine lv_ldcw hx hb hown (hts (.constant RJ6 266 (858993459)) (by decide +kernel)) dJ6_bitCount_0f7a4_11 ?_
  refine lv_iand hx hb dJ6_bitCount_0f7a4_14 ?_
  refine lv_iload_n hx hb dJ6_bitCount_0f7a4_15 rfl (lv_at hl 0 rfl) ?_
  refine lv_iconst (v := 2) hx hb dJ6_bitCount_0f7a4_16 (by decide) ?_
  refine lv_iushr (v := (v1.toUInt32 >>> ((2 : Int32).toUInt32 &&& Int32.toUInt32 31)).toInt32) hx hb dJ6_bitCount_0f7a4_17 rfl ?_
  refine lv_ldcw hx hb hown (hts (.constant RJ6 266 (858993459)) (by decide +kernel)) dJ6_bitCount_0f7a4_18 ?_
  refine lv_iand hx hb dJ6_bitCount_0f7a4_21 ?_
  refine lv_iadd hx hb dJ6_bitCount_0f7a4_22 ?_
  refine lv_topi (fun v2 ex => ?_)
  have h := nm_of ex h
  refine lv_istore_n (lv' := [(0, .int v2)]) hx hb dJ6_bitCount_0f7a4_23 rfl hl (by decide) rfl (fun ls hl => ?_)
  refine lv_iload_n hx hb dJ6_bitCount_0f7a4_24 rfl (lv_at hl 0 rfl) ?_
  refine lv_iload_n hx hb dJ6_bitCount_0f7a4_25 rfl (lv_at hl 0 rfl) ?_
  refine lv_iconst (v := 4) hx hb dJ6_bitCount_0f7a4_26 (by decide) ?_
  refine lv_iushr (v := (v2.toUInt32 >>> ((4 : Int32).toUInt32 &&& Int32.toUInt32 31)).toInt32) hx hb dJ6_bitCount_0f7a4_27 rfl ?_
  refine lv_iadd hx hb dJ6_bitCount_0f7a4_28 ?_
  refine lv_ldcw hx hb hown (hts (.constant RJ6 267 (252645135)) (by decide +kernel)) dJ6_bitCount_0f7a4_29 ?_
  refine lv_iand hx hb dJ6_bitCount_0f7a4_32 ?_
  refine lv_topi (fun v3 ex => ?_)
  have h := nm_of ex h
  refine lv_istore_n (lv' := [(0, .int v3)]) hx hb dJ6_bitCount_0f7a4_33 rfl hl (by decide) rfl (fun ls hl => ?_)
  refine lv_iload_n hx hb dJ6_bitCount_0f7a4_34 rfl (lv_at hl 0 rfl) ?_
  refine lv_iload_n hx hb dJ6_bitCount_0f7a4_35 rfl (lv_at hl 0 rfl) ?_
  refine lv_bipush (v := 8) hx hb dJ6_bitCount_0f7a4_36 (by decide) ?_
  refine lv_iushr (v := (v3.toUInt32 >>> ((8 : Int32).toUInt32 &&& Int32.toUInt32 31)).toInt32) hx hb dJ6_bitCount_0f7a4_38 rfl ?_
  refine lv_iadd hx hb dJ6_bitCount_0f7a4_39 ?_
  refine lv_topi (fun v4 ex => ?_)
  have h := nm_of ex h
  refine lv_istore_n (lv' := [(0, .int v4)]) hx hb dJ6_bitCount_0f7a4_40 rfl hl (by decide) rfl (fun ls hl => ?_)
  refine lv_iload_n hx hb dJ6_bitCount_0f7a4_41 rfl (lv_at hl 0 rfl) ?_
  refine lv_iload_n hx hb dJ6_bitCount_0f7a4_42 rfl (lv_at hl 0 rfl) ?_
  refine lv_bipush (v := 16) hx hb dJ6_bitCount_0f7a4_43 (by decide) ?_
  refine lv_iushr (v := (v4.toUInt32 >>> ((16 : Int32).toUInt32 &&& Int32.toUInt32 31)).toInt32) hx hb dJ6_bitCount_0f7a4_45 rfl ?_
  refine lv_iadd hx hb dJ6_bitCount_0f7a4_46 ?_
  refine lv_topi (fun v5 ex => ?_)
  have h := nm_of ex h
  refine lv_istore_n (lv' := [(0, .int v5)]) hx hb dJ6_bitCount_0f7a4_47 rfl hl (by decide) rfl (fun ls hl => ?_)
  refine lv_iload_n hx hb dJ6_bitCount_0f7a4_48 rfl (lv_at hl 0 rfl) ?_
  refine lv_bipush (v := 63) hx hb dJ6_bitCount_0f7a4_49 (by decide) ?_
  refine lv_iand hx hb dJ6_bitCount_0f7a4_51 ?_
  exact ro_iret hx hb hr hlk h dJ6_bitCount_0f7a4_52
set_option maxHeartbeats 4000000 in
set_option maxRecDepth 100000 in
theorem c_X2_isFull (l : Launch) (D : va_G) (cI cB cJ cZ : ClassId) (aK aV : Nat → Nat) (N : Nat) (q_this : Nat) (q_people : Nat) (q_didWith : Nat) (q_didWithout : Nat) (q_conditions : Nat) (size : Int32) {post : Int32 → Prop} (h : f_X2_isFull N size post) : Met l yX2_isFull wsX2_isFull { frames := 0, cells := 0, slots := 0, locals := 0 } (PR D cI cB cJ cZ aK aV [.ref q_this] [(q_this, .inr (2, [.ref q_people, .ref q_didWith, .ref q_didWithout, .ref q_conditions, .int size]))]) (vp_Si (fun r => post r ∧ narrow .boolean (.int r) = .int r)) 0 0 (fun _ => False) := by
  refine ro_enter (cc := cX2_isFull) (maxL := 1) (ret := (some .boolean)) (by decide) rfl (Nat.le_of_ble_eq_true rfl) ?_
  intro p e s m below meth c C0 hP ls hl
  have hl : lv_has ls 1 [(0, .ref q_this)] := hl
  unfold f_X2_isFull at h
  obtain ⟨hx, hb, hr, hml, hown, hts, hE, hlk, hnm⟩ := id C0
  have ik2 : ∀ w ∈ u_ws RX2 TX2 5, w ∈ wsX2_isFull := by decide +kernel
  refine lv_aload_n hx hb dX2_isFull_0 rfl (lv_at hl 0 rfl) ?_
  refine va_get (D := D) (ci := 2) (v := .int size) (C := RX2) (T := TX2) (N := 5) hx hb hts ik2 hown hE.1.1 hP 0 rfl rfl 4 (by decide) (hts (.fieldLink RX2 24 "FortyHouses$Houses" "size" "I") (by decide +kernel)) (fun _ h9 => h9) rfl dX2_isFull_1 ?_
  refine lv_bipush (v := 12) hx hb dX2_isFull_4 (by decide) ?_
  refine lv_icmp_lt (tgt := 13) hx hb dX2_isFull_6 (by decide) (fun c1 => ?_) (fun c1 => ?_)
  · have h := ite_t c1 h
    refine lv_iconst (v := 0) hx hb dX2_isFull_13 (by decide) ?_
    exact ro_zret (post := fun r => post r ∧ narrow .boolean (.int r) = .int r) hx hb hr rfl hlk ⟨h, rfl⟩ dX2_isFull_14
  · have h := ite_f c1 h
    refine lv_iconst (v := 1) hx hb dX2_isFull_9 (by decide) ?_
    refine lv_goto (tgt := 14) hx hb dX2_isFull_10 (by decide) ?_
    exact ro_zret (post := fun r => post r ∧ narrow .boolean (.int r) = .int r) hx hb hr rfl hlk ⟨h, rfl⟩ dX2_isFull_14
set_option maxHeartbeats 4000000 in
set_option maxRecDepth 100000 in
theorem c_X2_has (l : Launch) (D : va_G) (cI cB cJ cZ : ClassId) (aK aV : Nat → Nat) (N : Nat) (q_this : Nat) (q_people : Nat) (q_didWith : Nat) (q_didWithout : Nat) (q_conditions : Nat) (size : Int32) (x1 : Int32) {post : Int32 → Prop} (h : f_X2_has N size x1 post) : Met l yX2_has wsX2_has { frames := 0, cells := 0, slots := 0, locals := 0 } (PR D cI cB cJ cZ aK aV [.ref q_this, .int x1] [(q_this, .inr (2, [.ref q_people, .ref q_didWith, .ref q_didWithout, .ref q_conditions, .int size]))]) (vp_Si (fun r => post r ∧ narrow .boolean (.int r) = .int r)) 0 0 (fun _ => False) := by
  refine ro_enter (cc := cX2_has) (maxL := 2) (ret := (some .boolean)) (by decide) rfl (Nat.le_of_ble_eq_true rfl) ?_
  intro p e s m below meth c C0 hP ls hl
  have hl : lv_has ls 2 [(0, .ref q_this), (1, .int x1)] := hl
  unfold f_X2_has at h
  obtain ⟨hx, hb, hr, hml, hown, hts, hE, hlk, hnm⟩ := id C0
  have ik2 : ∀ w ∈ u_ws RX2 TX2 5, w ∈ wsX2_has := by decide +kernel
  refine lv_iload_n hx hb dX2_has_0 rfl (lv_at hl 1 rfl) ?_
  refine lv_if_lt (tgt := 16) hx hb dX2_has_1 (by decide) (fun c1 => ?_) (fun c1 => ?_)
  · have h := ite_t c1 h
    refine lv_iconst (v := 0) hx hb dX2_has_16 (by decide) ?_
    exact ro_zret (post := fun r => post r ∧ narrow .boolean (.int r) = .int r) hx hb hr rfl hlk ⟨h, rfl⟩ dX2_has_17
  · have h := ite_f c1 h
    refine lv_iload_n hx hb dX2_has_4 rfl (lv_at hl 1 rfl) ?_
    refine lv_aload_n hx hb dX2_has_5 rfl (lv_at hl 0 rfl) ?_
    refine va_get (D := D) (ci := 2) (v := .int size) (C := RX2) (T := TX2) (N := 5) hx hb hts ik2 hown hE.1.1 hP 0 rfl rfl 4 (by decide) (hts (.fieldLink RX2 24 "FortyHouses$Houses" "size" "I") (by decide +kernel)) (fun _ h9 => h9) rfl dX2_has_6 ?_
    refine lv_icmp_ge (tgt := 16) hx hb dX2_has_9 (by decide) (fun c1 => ?_) (fun c1 => ?_)
    · have h := ite_t c1 h
      refine lv_iconst (v := 0) hx hb dX2_has_16 (by decide) ?_
      exact ro_zret (post := fun r => post r ∧ narrow .boolean (.int r) = .int r) hx hb hr rfl hlk ⟨h, rfl⟩ dX2_has_17
    · have h := ite_f c1 h
      refine lv_iconst (v := 1) hx hb dX2_has_12 (by decide) ?_
      refine lv_goto (tgt := 17) hx hb dX2_has_13 (by decide) ?_
      exact ro_zret (post := fun r => post r ∧ narrow .boolean (.int r) = .int r) hx hb hr rfl hlk ⟨h, rfl⟩ dX2_has_17
abbrev wf_X2_add (cI cB cJ cZ : ClassId) (q_this : Nat) (q_people : Nat) (q_didWith : Nat) (q_didWithout : Nat) (q_conditions : Nat) (size : Int32) (people : Nat → Int32) (didWith : Nat → Int32) (didWithout : Nat → Int32) (conditions : Nat → Int32) : Int32 × (Nat → Int32) × (Nat → Int32) × (Nat → Int32) × (Nat → Int32) → va_W := fun u => [(q_this, .inr (2, [.ref q_people, .ref q_didWith, .ref q_didWithout, .ref q_conditions, .int u.1])), (q_people, .inl (cI, 12, .inl u.2.1)), (q_didWith, .inl (cI, 12, .inl u.2.2.1)), (q_didWithout, .inl (cI, 12, .inl u.2.2.2.1)), (q_conditions, .inl (cI, 12, .inl u.2.2.2.2))]
set_option maxHeartbeats 4000000 in
set_option maxRecDepth 100000 in
theorem c_X2_add (l : Launch) (D : va_G) (cI cB cJ cZ : ClassId) (aK aV : Nat → Nat) (N : Nat) (q_this : Nat) (q_people : Nat) (q_didWith : Nat) (q_didWithout : Nat) (q_conditions : Nat) (size : Int32) (people : Nat → Int32) (didWith : Nat → Int32) (didWithout : Nat → Int32) (conditions : Nat → Int32) (x1 : Int32) (x2 : Int32) (x3 : Int32) (x4 : Int32) (sz : Nat) {post : Int32 → Int32 → (Nat → Int32) → (Nat → Int32) → (Nat → Int32) → (Nat → Int32) → Prop} (h : f_X2_add N size people didWith didWithout conditions x1 x2 x3 x4 post) : Met l yX2_add wsX2_add { frames := 0, cells := 0, slots := 0, locals := 0 } (PW D cI cB cJ cZ aK aV [.ref q_this, .int x1, .int x2, .int x3, .int x4] [(q_this, .inr (2, [.ref q_people, .ref q_didWith, .ref q_didWithout, .ref q_conditions, .int size])), (q_people, .inl (cI, 12, .inl people)), (q_didWith, .inl (cI, 12, .inl didWith)), (q_didWithout, .inl (cI, 12, .inl didWithout)), (q_conditions, .inl (cI, 12, .inl conditions))] sz) (va_Qi (fun r (u : Int32 × (Nat → Int32) × (Nat → Int32) × (Nat → Int32) × (Nat → Int32)) => post r u.1 u.2.1 u.2.2.1 u.2.2.2.1 u.2.2.2.2) (BW D (va_A [(q_this, .inr (2, [.ref q_people, .ref q_didWith, .ref q_didWithout, .ref q_conditions, .int size])), (q_people, .inl (cI, 12, .inl people)), (q_didWith, .inl (cI, 12, .inl didWith)), (q_didWithout, .inl (cI, 12, .inl didWithout)), (q_conditions, .inl (cI, 12, .inl conditions))] sz) (wf_X2_add cI cB cJ cZ q_this q_people q_didWith q_didWithout q_conditions size people didWith didWithout conditions)) (va_A [(q_this, .inr (2, [.ref q_people, .ref q_didWith, .ref q_didWithout, .ref q_conditions, .int size])), (q_people, .inl (cI, 12, .inl people)), (q_didWith, .inl (cI, 12, .inl didWith)), (q_didWithout, .inl (cI, 12, .inl didWithout)), (q_conditions, .inl (cI, 12, .inl conditions))] sz)) 0 0 (va_A [(q_this, .inr (2, [.ref q_people, .ref q_didWith, .ref q_didWithout, .ref q_conditions, .int size])), (q_people, .inl (cI, 12, .inl people)), (q_didWith, .inl (cI, 12, .inl didWith)), (q_didWithout, .inl (cI, 12, .inl didWithout)), (q_conditions, .inl (cI, 12, .inl conditions))] sz) := by
  refine mu_enter (Qc := fun A => (va_Qi (fun r (u : Int32 × (Nat → Int32) × (Nat → Int32) × (Nat → Int32) × (Nat → Int32)) => post r u.1 u.2.1 u.2.2.1 u.2.2.2.1 u.2.2.2.2) (BW D A (wf_X2_add cI cB cJ cZ q_this q_people q_didWith q_didWithout q_conditions size people didWith didWithout conditions)) A)) (cc := cX2_add) (maxL := 5) (ret := (some .int)) (by decide) rfl (Nat.le_of_ble_eq_true rfl) ?_
  intro p e s m below meth c A C0 hA H locs hP hD hS ls hl
  have hl : lv_has ls 5 [(0, .ref q_this), (1, .int x1), (2, .int x2), (3, .int x3), (4, .int x4)] := hl
  unfold f_X2_add at h
  obtain ⟨hx, hb, hr, hml, hown, hts, hE, hlk, hnm⟩ := id C0
  have ik2 : ∀ w ∈ u_ws RX2 TX2 5, w ∈ wsX2_add := by decide +kernel
  refine lv_aload_n hx hb dX2_add_0 rfl (lv_at hl 0 rfl) ?_
  refine va_get (D := D) (ci := 2) (v := .ref q_people) (C := RX2) (T := TX2) (N := 5) hx hb hts ik2 hown hE.1.1 hP 0 rfl rfl 0 (by decide) (hts (.fieldLink RX2 11 "FortyHouses$Houses" "people" "[I") (by decide +kernel)) (fun _ h9 => h9) rfl dX2_add_1 ?_
  refine lv_aload_n hx hb dX2_add_4 rfl (lv_at hl 0 rfl) ?_
  refine va_get (D := D) (ci := 2) (v := .int size) (C := RX2) (T := TX2) (N := 5) hx hb hts ik2 hown hE.1.1 hP 0 rfl rfl 4 (by decide) (hts (.fieldLink RX2 24 "FortyHouses$Houses" "size" "I") (by decide +kernel)) (fun _ h9 => h9) rfl dX2_add_5 ?_
  refine lv_iload_n hx hb dX2_add_8 rfl (lv_at hl 1 rfl) ?_
  obtain ⟨hin, h⟩ := h
  refine va_iast hx hb hE.1.1 hP hD hS 1 0 rfl rfl hin dX2_add_9 (fun H locs hP hD hS => ?_)
  have hP : va_P D vwCl [(q_this, .inr (2, [.ref q_people, .ref q_didWith, .ref q_didWithout, .ref q_conditions, .int size])), (q_people, .inl (cI, 12, .inl (upd people size.toNatClampNeg x1))), (q_didWith, .inl (cI, 12, .inl didWith)), (q_didWithout, .inl (cI, 12, .inl didWithout)), (q_conditions, .inl (cI, 12, .inl conditions))] H := hP
  have hD : va_D A [(q_this, .inr (2, [.ref q_people, .ref q_didWith, .ref q_didWithout, .ref q_conditions, .int size])), (q_people, .inl (cI, 12, .inl (upd people size.toNatClampNeg x1))), (q_didWith, .inl (cI, 12, .inl didWith)), (q_didWithout, .inl (cI, 12, .inl didWithout)), (q_conditions, .inl (cI, 12, .inl conditions))] := hD
  refine lv_aload_n hx hb dX2_add_10 rfl (lv_at hl 0 rfl) ?_
  refine va_get (D := D) (ci := 2) (v := .ref q_didWith) (C := RX2) (T := TX2) (N := 5) hx hb hts ik2 hown hE.1.1 hP 0 rfl rfl 1 (by decide) (hts (.fieldLink RX2 15 "FortyHouses$Houses" "didWith" "[I") (by decide +kernel)) (fun _ h9 => h9) rfl dX2_add_11 ?_
  refine lv_aload_n hx hb dX2_add_14 rfl (lv_at hl 0 rfl) ?_
  refine va_get (D := D) (ci := 2) (v := .int size) (C := RX2) (T := TX2) (N := 5) hx hb hts ik2 hown hE.1.1 hP 0 rfl rfl 4 (by decide) (hts (.fieldLink RX2 24 "FortyHouses$Houses" "size" "I") (by decide +kernel)) (fun _ h9 => h9) rfl dX2_add_15 ?_
  refine lv_iload_n hx hb dX2_add_18 rfl (lv_at hl 2 rfl) ?_
  obtain ⟨hin, h⟩ := h
  refine va_iast hx hb hE.1.1 hP hD hS 2 0 rfl rfl hin dX2_add_19 (fun H locs hP hD hS => ?_)
  have hP : va_P D vwCl [(q_this, .inr (2, [.ref q_people, .ref q_didWith, .ref q_didWithout, .ref q_conditions, .int size])), (q_people, .inl (cI, 12, .inl (upd people size.toNatClampNeg x1))), (q_didWith, .inl (cI, 12, .inl (upd didWith size.toNatClampNeg x2))), (q_didWithout, .inl (cI, 12, .inl didWithout)), (q_conditions, .inl (cI, 12, .inl conditions))] H := hP
  have hD : va_D A [(q_this, .inr (2, [.ref q_people, .ref q_didWith, .ref q_didWithout, .ref q_conditions, .int size])), (q_people, .inl (cI, 12, .inl (upd people size.toNatClampNeg x1))), (q_didWith, .inl (cI, 12, .inl (upd didWith size.toNatClampNeg x2))), (q_didWithout, .inl (cI, 12, .inl didWithout)), (q_conditions, .inl (cI, 12, .inl conditions))] := hD
  refine lv_aload_n hx hb dX2_add_20 rfl (lv_at hl 0 rfl) ?_
  refine va_get (D := D) (ci := 2) (v := .ref q_didWithout) (C := RX2) (T := TX2) (N := 5) hx hb hts ik2 hown hE.1.1 hP 0 rfl rfl 2 (by decide) (hts (.fieldLink RX2 18 "FortyHouses$Houses" "didWithout" "[I") (by decide +kernel)) (fun _ h9 => h9) rfl dX2_add_21 ?_
  refine lv_aload_n hx hb dX2_add_24 rfl (lv_at hl 0 rfl) ?_
  refine va_get (D := D) (ci := 2) (v := .int size) (C := RX2) (T := TX2) (N := 5) hx hb hts ik2 hown hE.1.1 hP 0 rfl rfl 4 (by decide) (hts (.fieldLink RX2 24 "FortyHouses$Houses" "size" "I") (by decide +kernel)) (fun _ h9 => h9) rfl dX2_add_25 ?_
  refine lv_iload_n hx hb dX2_add_28 rfl (lv_at hl 3 rfl) ?_
  obtain ⟨hin, h⟩ := h
  refine va_iast hx hb hE.1.1 hP hD hS 3 0 rfl rfl hin dX2_add_29 (fun H locs hP hD hS => ?_)
  have hP : va_P D vwCl [(q_this, .inr (2, [.ref q_people, .ref q_didWith, .ref q_didWithout, .ref q_conditions, .int size])), (q_people, .inl (cI, 12, .inl (upd people size.toNatClampNeg x1))), (q_didWith, .inl (cI, 12, .inl (upd didWith size.toNatClampNeg x2))), (q_didWithout, .inl (cI, 12, .inl (upd didWithout size.toNatClampNeg x3))), (q_conditions, .inl (cI, 12, .inl conditions))] H := hP
  have hD : va_D A [(q_this, .inr (2, [.ref q_people, .ref q_didWith, .ref q_didWithout, .ref q_conditions, .int size])), (q_people, .inl (cI, 12, .inl (upd people size.toNatClampNeg x1))), (q_didWith, .inl (cI, 12, .inl (upd didWith size.toNatClampNeg x2))), (q_didWithout, .inl (cI, 12, .inl (upd didWithout size.toNatClampNeg x3))), (q_conditions, .inl (cI, 12, .inl conditions))] := hD
  refine lv_aload_n hx hb dX2_add_30 rfl (lv_at hl 0 rfl) ?_
  refine va_get (D := D) (ci := 2) (v := .ref q_conditions) (C := RX2) (T := TX2) (N := 5) hx hb hts ik2 hown hE.1.1 hP 0 rfl rfl 3 (by decide) (hts (.fieldLink RX2 21 "FortyHouses$Houses" "conditions" "[I") (by decide +kernel)) (fun _ h9 => h9) rfl dX2_add_31 ?_
  refine lv_aload_n hx hb dX2_add_34 rfl (lv_at hl 0 rfl) ?_
  refine va_get (D := D) (ci := 2) (v := .int size) (C := RX2) (T := TX2) (N := 5) hx hb hts ik2 hown hE.1.1 hP 0 rfl rfl 4 (by decide) (hts (.fieldLink RX2 24 "FortyHouses$Houses" "size" "I") (by decide +kernel)) (fun _ h9 => h9) rfl dX2_add_35 ?_
  refine lv_iload hx hb dX2_add_38 (lv_at hl 4 rfl) ?_
  obtain ⟨hin, h⟩ := h
  refine va_iast hx hb hE.1.1 hP hD hS 4 0 rfl rfl hin dX2_add_40 (fun H locs hP hD hS => ?_)
  have hP : va_P D vwCl [(q_this, .inr (2, [.ref q_people, .ref q_didWith, .ref q_didWithout, .ref q_conditions, .int size])), (q_people, .inl (cI, 12, .inl (upd people size.toNatClampNeg x1))), (q_didWith, .inl (cI, 12, .inl (upd didWith size.toNatClampNeg x2))), (q_didWithout, .inl (cI, 12, .inl (upd didWithout size.toNatClampNeg x3))), (q_conditions, .inl (cI, 12, .inl (upd conditions size.toNatClampNeg x4)))] H := hP
  have hD : va_D A [(q_this, .inr (2, [.ref q_people, .ref q_didWith, .ref q_didWithout, .ref q_conditions, .int size])), (q_people, .inl (cI, 12, .inl (upd people size.toNatClampNeg x1))), (q_didWith, .inl (cI, 12, .inl (upd didWith size.toNatClampNeg x2))), (q_didWithout, .inl (cI, 12, .inl (upd didWithout size.toNatClampNeg x3))), (q_conditions, .inl (cI, 12, .inl (upd conditions size.toNatClampNeg x4)))] := hD
  refine lv_aload_n hx hb dX2_add_41 rfl (lv_at hl 0 rfl) ?_
  refine lv_dup hx hb dX2_add_42 rfl ?_
  refine va_get (D := D) (ci := 2) (v := .int size) (C := RX2) (T := TX2) (N := 5) hx hb hts ik2 hown hE.1.1 hP 0 rfl rfl 4 (by decide) (hts (.fieldLink RX2 24 "FortyHouses$Houses" "size" "I") (by decide +kernel)) (fun _ h9 => h9) rfl dX2_add_43 ?_
  refine lv_iconst (v := 1) hx hb dX2_add_46 (by decide) ?_
  refine lv_iadd hx hb dX2_add_47 ?_
  refine lv_topi (fun v1 ex => ?_)
  have h := nm_of ex h
  refine va_put (D := D) (ci := 2) (v := .int v1) (ty := .int) (C := RX2) (T := TX2) (N := 5) hx hb hts ik2 tyX2 tyX2_ok nmX2 hown hE.1.1 hP hD hS 0 rfl rfl 4 (by decide) (hts (.fieldLink RX2 24 "FortyHouses$Houses" "size" "I") (by decide +kernel)) (fun _ h9 => h9) rfl (by decide +kernel) rfl rfl (Nat.le_of_ble_eq_true rfl) dX2_add_48 (fun H locs hP hD hS => ?_)
  have hP : va_P D vwCl [(q_this, .inr (2, [.ref q_people, .ref q_didWith, .ref q_didWithout, .ref q_conditions, .int v1])), (q_people, .inl (cI, 12, .inl (upd people size.toNatClampNeg x1))), (q_didWith, .inl (cI, 12, .inl (upd didWith size.toNatClampNeg x2))), (q_didWithout, .inl (cI, 12, .inl (upd didWithout size.toNatClampNeg x3))), (q_conditions, .inl (cI, 12, .inl (upd conditions size.toNatClampNeg x4)))] H := hP
  have hD : va_D A [(q_this, .inr (2, [.ref q_people, .ref q_didWith, .ref q_didWithout, .ref q_conditions, .int v1])), (q_people, .inl (cI, 12, .inl (upd people size.toNatClampNeg x1))), (q_didWith, .inl (cI, 12, .inl (upd didWith size.toNatClampNeg x2))), (q_didWithout, .inl (cI, 12, .inl (upd didWithout size.toNatClampNeg x3))), (q_conditions, .inl (cI, 12, .inl (upd conditions size.toNatClampNeg x4)))] := hD
  refine lv_aload_n hx hb dX2_add_51 rfl (lv_at hl 0 rfl) ?_
  refine va_get (D := D) (ci := 2) (v := .int v1) (C := RX2) (T := TX2) (N := 5) hx hb hts ik2 hown hE.1.1 hP 0 rfl rfl 4 (by decide) (hts (.fieldLink RX2 24 "FortyHouses$Houses" "size" "I") (by decide +kernel)) (fun _ h9 => h9) rfl dX2_add_52 ?_
  refine lv_iconst (v := 1) hx hb dX2_add_55 (by decide) ?_
  refine lv_isub hx hb dX2_add_56 ?_
  exact mu_iret (wf := wf_X2_add cI cB cJ cZ q_this q_people q_didWith q_didWithout q_conditions size people didWith didWithout conditions) (v1, (upd people size.toNatClampNeg x1), (upd didWith size.toNatClampNeg x2), (upd didWithout size.toNatClampNeg x3), (upd conditions size.toNatClampNeg x4)) hx hb hr hlk hP hD hS h dX2_add_57
set_option maxHeartbeats 4000000 in
set_option maxRecDepth 100000 in
theorem c_X2_all (l : Launch) (D : va_G) (cI cB cJ cZ : ClassId) (aK aV : Nat → Nat) (N : Nat) (q_this : Nat) (q_people : Nat) (q_didWith : Nat) (q_didWithout : Nat) (q_conditions : Nat) (size : Int32) {post : Int32 → Prop} (h : f_X2_all N size post) : Met l yX2_all wsX2_all { frames := 0, cells := 0, slots := 0, locals := 0 } (PR D cI cB cJ cZ aK aV [.ref q_this] [(q_this, .inr (2, [.ref q_people, .ref q_didWith, .ref q_didWithout, .ref q_conditions, .int size]))]) (vp_Si post) 0 0 (fun _ => False) := by
  refine ro_enter (cc := cX2_all) (maxL := 1) (ret := (some .int)) (by decide) rfl (Nat.le_of_ble_eq_true rfl) ?_
  intro p e s m below meth c C0 hP ls hl
  have hl : lv_has ls 1 [(0, .ref q_this)] := hl
  unfold f_X2_all at h
  obtain ⟨hx, hb, hr, hml, hown, hts, hE, hlk, hnm⟩ := id C0
  have ik2 : ∀ w ∈ u_ws RX2 TX2 5, w ∈ wsX2_all := by decide +kernel
  refine lv_iconst (v := 1) hx hb dX2_all_0 (by decide) ?_
  refine lv_aload_n hx hb dX2_all_1 rfl (lv_at hl 0 rfl) ?_
  refine va_get (D := D) (ci := 2) (v := .int size) (C := RX2) (T := TX2) (N := 5) hx hb hts ik2 hown hE.1.1 hP 0 rfl rfl 4 (by decide) (hts (.fieldLink RX2 24 "FortyHouses$Houses" "size" "I") (by decide +kernel)) (fun _ h9 => h9) rfl dX2_all_2 ?_
  refine lv_ishl hx hb dX2_all_5 ?_
  refine lv_iconst (v := 1) hx hb dX2_all_6 (by decide) ?_
  refine lv_isub hx hb dX2_all_7 ?_
  exact ro_iret hx hb hr hlk h dX2_all_8
set_option maxHeartbeats 4000000 in
set_option maxRecDepth 100000 in
theorem w_X2_having_B4 (l : Launch) (D : va_G) (cI cB cJ cZ : ClassId) (aK aV : Nat → Nat) (N : Nat) {p : Program} {e : Env} {s : State} {m : MethodId} {below : List Frame} {meth : Method} {c : Code} (q_this : Nat) (x1 : Int32) (post : Int32 → Prop) (C0 : Cx p s m meth c ([.ref q_this, .int x1] : List Value).toArray cX2_having 4 yX2_having.cls yX2_having.name (some .int) wsX2_having D cI cB cJ cZ aK aV (fun _ => False)) (q_people : Nat) (q_didWith : Nat) (q_didWithout : Nat) (q_conditions : Nat) (size : Int32) (conditions : Nat → Int32) (kb4 : Int32 → Int32 → Prop) (hkb4 : ∀ (i1_ : Int32) (i2_ : Int32), kb4 i1_ i2_ → ∀ ls : Array Slot, lv_has ls 4 [(0, .ref q_this), (1, .int x1), (2, .int i1_), (3, .int i2_)] → W p l e { frames := 0, cells := 0, slots := 0, locals := 0 } s m ([.ref q_this, .int x1] : List Value).toArray below meth c s.heap [] 0 0 (MQ below (vp_Si post) ([.ref q_this, .int x1] : List Value).toArray s 0 0 (fun _ => False)) (F0 m 4 ls [])) (ke4 : Int32 → Int32 → Prop) (hke4 : ∀ (i1_ : Int32) (i2_ : Int32), ke4 i1_ i2_ → ∀ ls : Array Slot, lv_has ls 4 [(2, .int i1_)] → W p l e { frames := 0, cells := 0, slots := 0, locals := 0 } s m ([.ref q_this, .int x1] : List Value).toArray below meth c s.heap [] 0 0 (MQ below (vp_Si post) ([.ref q_this, .int x1] : List Value).toArray s 0 0 (fun _ => False)) (F0 m 33 ls [])) (i1 : Int32) (i2 : Int32) (h : f_X2_having_B4 N size conditions x1 kb4 ke4 i1 i2) (hP : va_P D vwCl [(q_this, .inr (2, [.ref q_people, .ref q_didWith, .ref q_didWithout, .ref q_conditions, .int size])), (q_conditions, .inl (cI, 12, .inl conditions))] s.heap) (ls : Array Slot) (hl : lv_has ls 4 [(0, .ref q_this), (1, .int x1), (2, .int i1), (3, .int i2)]) : W p l e { frames := 0, cells := 0, slots := 0, locals := 0 } s m ([.ref q_this, .int x1] : List Value).toArray below meth c s.heap [] 0 0 (MQ below (vp_Si post) ([.ref q_this, .int x1] : List Value).toArray s 0 0 (fun _ => False)) (F0 m 4 ls []) := by
  obtain ⟨hx, hb, hr, hml, hown, hts, hE, hlk, hnm⟩ := id C0
  have ik2 : ∀ w ∈ u_ws RX2 TX2 5, w ∈ wsX2_having := by decide +kernel
  unfold f_X2_having_B4 at h
  refine lv_iload_n hx hb dX2_having_4 rfl (lv_at hl 3 rfl) ?_
  refine lv_aload_n hx hb dX2_having_5 rfl (lv_at hl 0 rfl) ?_
  refine va_get (D := D) (ci := 2) (v := .int size) (C := RX2) (T := TX2) (N := 5) hx hb hts ik2 hown hE.1.1 hP 0 rfl rfl 4 (by decide) (hts (.fieldLink RX2 24 "FortyHouses$Houses" "size" "I") (by decide +kernel)) (fun _ h9 => h9) rfl dX2_having_6 ?_
  refine lv_icmp_ge (tgt := 33) hx hb dX2_having_9 (by decide) (fun c1 => ?_) (fun c1 => ?_)
  · have h := ite_t c1 h
    exact hke4 i1 i2 h ls (lv_sub hl [2] rfl)
  · have h := ite_f c1 h
    refine lv_iload_n hx hb dX2_having_12 rfl (lv_at hl 2 rfl) ?_
    refine lv_aload_n hx hb dX2_having_13 rfl (lv_at hl 0 rfl) ?_
    refine va_get (D := D) (ci := 2) (v := .ref q_conditions) (C := RX2) (T := TX2) (N := 5) hx hb hts ik2 hown hE.1.1 hP 0 rfl rfl 3 (by decide) (hts (.fieldLink RX2 21 "FortyHouses$Houses" "conditions" "[I") (by decide +kernel)) (fun _ h9 => h9) rfl dX2_having_14 ?_
    refine lv_iload_n hx hb dX2_having_17 rfl (lv_at hl 3 rfl) ?_
    obtain ⟨hin, h⟩ := h
    refine va_iald hx hb hE.1.1 hP 1 0 rfl rfl hin dX2_having_18 ?_
    refine lv_iload_n hx hb dX2_having_19 rfl (lv_at hl 1 rfl) ?_
    refine lv_ishr hx hb dX2_having_20 ?_
    refine lv_iconst (v := 1) hx hb dX2_having_21 (by decide) ?_
    refine lv_iand hx hb dX2_having_22 ?_
    refine lv_iload_n hx hb dX2_having_23 rfl (lv_at hl 3 rfl) ?_
    refine lv_ishl hx hb dX2_having_24 ?_
    refine lv_ior hx hb dX2_having_25 ?_
    refine lv_topi (fun v3 ex => ?_)
    have h := nm_of ex h
    refine lv_istore_n (lv' := [(2, .int v3), (0, .ref q_this), (1, .int x1), (3, .int i2)]) hx hb dX2_having_26 rfl hl (by decide) rfl (fun ls hl => ?_)
    obtain ⟨v4, ex⟩ : ∃ y : Int32, y = (i2 + 1) := ⟨_, rfl⟩
    have h := nm_of ex h
    refine lv_iinc (v := v4) (lv' := [(3, .int v4), (2, .int v3), (0, .ref q_this), (1, .int x1)]) hx hb dX2_having_27 hl (k := 3) rfl (by rw [ex]; rfl) (by decide) rfl (fun ls hl => ?_)
    refine lv_goto (tgt := 4) hx hb dX2_having_30 (by decide) ?_
    exact hkb4 v3 v4 h ls (lv_sub hl [2, 3, 1, 0] rfl)
set_option maxHeartbeats 4000000 in
set_option maxRecDepth 100000 in
theorem w_X2_having_L4 (l : Launch) (D : va_G) (cI cB cJ cZ : ClassId) (aK aV : Nat → Nat) (N : Nat) {p : Program} {e : Env} {s : State} {m : MethodId} {below : List Frame} {meth : Method} {c : Code} (q_this : Nat) (x1 : Int32) (post : Int32 → Prop) (C0 : Cx p s m meth c ([.ref q_this, .int x1] : List Value).toArray cX2_having 4 yX2_having.cls yX2_having.name (some .int) wsX2_having D cI cB cJ cZ aK aV (fun _ => False)) (q_people : Nat) (q_didWith : Nat) (q_didWithout : Nat) (q_conditions : Nat) (size : Int32) (conditions : Nat → Int32) (ke4 : Int32 → Int32 → Prop) (hke4 : ∀ (i1_ : Int32) (i2_ : Int32), ke4 i1_ i2_ → ∀ ls : Array Slot, lv_has ls 4 [(2, .int i1_)] → W p l e { frames := 0, cells := 0, slots := 0, locals := 0 } s m ([.ref q_this, .int x1] : List Value).toArray below meth c s.heap [] 0 0 (MQ below (vp_Si post) ([.ref q_this, .int x1] : List Value).toArray s 0 0 (fun _ => False)) (F0 m 33 ls [])) (hP : va_P D vwCl [(q_this, .inr (2, [.ref q_people, .ref q_didWith, .ref q_didWithout, .ref q_conditions, .int size])), (q_conditions, .inl (cI, 12, .inl conditions))] s.heap) : ∀ (n_ : Nat) (i1 : Int32) (i2 : Int32), f_X2_having_L4 N size conditions x1 ke4 n_ i1 i2 → ∀ ls : Array Slot, lv_has ls 4 [(0, .ref q_this), (1, .int x1), (2, .int i1), (3, .int i2)] → W p l e { frames := 0, cells := 0, slots := 0, locals := 0 } s m ([.ref q_this, .int x1] : List Value).toArray below meth c s.heap [] 0 0 (MQ below (vp_Si post) ([.ref q_this, .int x1] : List Value).toArray s 0 0 (fun _ => False)) (F0 m 4 ls []) := by
  intro n_
  induction n_ with
  | zero => intro i1 i2 h; exact h.elim
  | succ n_ ih =>
    intro i1 i2 h ls hl
    exact w_X2_having_B4 l D cI cB cJ cZ aK aV N q_this x1 post C0 q_people q_didWith q_didWithout q_conditions size conditions (f_X2_having_L4 N size conditions x1 ke4 n_) ih ke4 hke4 i1 i2 h hP ls hl
set_option maxHeartbeats 4000000 in
set_option maxRecDepth 100000 in
theorem c_X2_having (l : Launch) (D : va_G) (cI cB cJ cZ : ClassId) (aK aV : Nat → Nat) (N : Nat) (q_this : Nat) (q_people : Nat) (q_didWith : Nat) (q_didWithout : Nat) (q_conditions : Nat) (size : Int32) (conditions : Nat → Int32) (x1 : Int32) {post : Int32 → Prop} (h : f_X2_having N size conditions x1 post) : Met l yX2_having wsX2_having { frames := 0, cells := 0, slots := 0, locals := 0 } (PR D cI cB cJ cZ aK aV [.ref q_this, .int x1] [(q_this, .inr (2, [.ref q_people, .ref q_didWith, .ref q_didWithout, .ref q_conditions, .int size])), (q_conditions, .inl (cI, 12, .inl conditions))]) (vp_Si post) 0 0 (fun _ => False) := by
  refine ro_enter (cc := cX2_having) (maxL := 4) (ret := (some .int)) (by decide) rfl (Nat.le_of_ble_eq_true rfl) ?_
  intro p e s m below meth c C0 hP ls hl
  have hl : lv_has ls 4 [(0, .ref q_this), (1, .int x1)] := hl
  unfold f_X2_having at h
  obtain ⟨hx, hb, hr, hml, hown, hts, hE, hlk, hnm⟩ := id C0
  have ik2 : ∀ w ∈ u_ws RX2 TX2 5, w ∈ wsX2_having := by decide +kernel
  refine lv_iconst (v := 0) hx hb dX2_having_0 (by decide) ?_
  refine lv_istore_n (lv' := [(2, .int 0), (0, .ref q_this), (1, .int x1)]) hx hb dX2_having_1 rfl hl (by decide) rfl (fun ls hl => ?_)
  refine lv_iconst (v := 0) hx hb dX2_having_2 (by decide) ?_
  refine lv_istore_n (lv' := [(3, .int 0), (2, .int 0), (0, .ref q_this), (1, .int x1)]) hx hb dX2_having_3 rfl hl (by decide) rfl (fun ls hl => ?_)
  refine w_X2_having_L4 l D cI cB cJ cZ aK aV N q_this x1 post C0 q_people q_didWith q_didWithout q_conditions size conditions _ (fun o5 o6 h ls hl => ?_) hP N 0 0 h ls (lv_sub hl [2, 3, 1, 0] rfl)
  refine lv_iload_n hx hb dX2_having_33 rfl (lv_at hl 0 rfl) ?_
  exact ro_iret hx hb hr hlk h dX2_having_34
set_option maxHeartbeats 4000000 in
set_option maxRecDepth 100000 in
theorem c_X2_isParted (l : Launch) (D : va_G) (cI cB cJ cZ : ClassId) (aK aV : Nat → Nat) (N : Nat) (q_this : Nat) (q_people : Nat) (q_didWith : Nat) (q_didWithout : Nat) (q_conditions : Nat) (size : Int32) (conditions : Nat → Int32) (x1 : Int32) {post : Int32 → Prop} (h : f_X2_isParted N size conditions x1 post) : Met l yX2_isParted wsX2_isParted { frames := 1, cells := 0, slots := 0, locals := 23 } (PR D cI cB cJ cZ aK aV [.ref q_this, .int x1] [(q_this, .inr (2, [.ref q_people, .ref q_didWith, .ref q_didWithout, .ref q_conditions, .int size])), (q_conditions, .inl (cI, 12, .inl conditions))]) (vp_Si (fun r => post r ∧ narrow .boolean (.int r) = .int r)) 0 0 (fun _ => False) := by
  refine ro_enter (cc := cX2_isParted) (maxL := 3) (ret := (some .boolean)) (by decide) rfl (Nat.le_of_ble_eq_true rfl) ?_
  intro p e s m below meth c C0 hP ls hl
  have hl : lv_has ls 3 [(0, .ref q_this), (1, .int x1)] := hl
  unfold f_X2_isParted at h
  obtain ⟨hx, hb, hr, hml, hown, hts, hE, hlk, hnm⟩ := id C0
  refine lv_aload_n hx hb dX2_isParted_0 rfl (lv_at hl 0 rfl) ?_
  refine lv_iload_n hx hb dX2_isParted_1 rfl (lv_at hl 1 rfl) ?_
  refine ro_Vi (C := RX2) (As := [.int x1]) (rest := []) ⟨hx, hb, hml, hown, hts⟩ hE va_S.rf hP [0, 1] (c_X2_having l D cI cB cJ cZ aK aV N q_this q_people q_didWith q_didWithout q_conditions size conditions x1 h) (cwV 1 hts gX2_isParted_X2_having rfl rfl rfl (by decide +kernel) ⟨(Nat.le_of_ble_eq_true rfl), (Nat.le_of_ble_eq_true rfl)⟩) rfl 0 rfl rfl rfl hl.1 rfl (Nat.le_of_ble_eq_true rfl) dX2_isParted_2 ⟨Nat.zero_le _, Nat.zero_le _⟩ (fun r1 h => ?_)
  refine lv_istore_n (lv' := [(2, .int r1), (0, .ref q_this), (1, .int x1)]) hx hb dX2_isParted_5 rfl hl (by decide) rfl (fun ls hl => ?_)
  refine lv_iload_n hx hb dX2_isParted_6 rfl (lv_at hl 0 rfl) ?_
  refine lv_if_eq (tgt := 22) hx hb dX2_isParted_7 (by decide) (fun c1 => ?_) (fun c1 => ?_)
  · have h := ite_t c1 h
    refine lv_iconst (v := 0) hx hb dX2_isParted_22 (by decide) ?_
    exact ro_zret (post := fun r => post r ∧ narrow .boolean (.int r) = .int r) hx hb hr rfl hlk ⟨h, rfl⟩ dX2_isParted_23
  · have h := ite_f c1 h
    refine lv_iload_n hx hb dX2_isParted_10 rfl (lv_at hl 0 rfl) ?_
    refine lv_aload_n hx hb dX2_isParted_11 rfl (lv_at hl 1 rfl) ?_
    refine ro_Vi (C := RX2) (As := []) (rest := [.int r1]) ⟨hx, hb, hml, hown, hts⟩ hE va_S.rf hP [0] (c_X2_all l D cI cB cJ cZ aK aV N q_this q_people q_didWith q_didWithout q_conditions size h) (cwV 0 hts gX2_isParted_X2_all rfl rfl rfl (by decide +kernel) ⟨(Nat.le_of_ble_eq_true rfl), (Nat.le_of_ble_eq_true rfl)⟩) rfl 0 rfl rfl rfl hl.1 rfl (Nat.le_of_ble_eq_true rfl) dX2_isParted_12 ⟨Nat.zero_le _, Nat.zero_le _⟩ (fun r2 h => ?_)
    refine lv_icmp_eq (tgt := 22) hx hb dX2_isParted_15 (by decide) (fun c1 => ?_) (fun c1 => ?_)
    · have h := ite_t c1 h
      refine lv_iconst (v := 0) hx hb dX2_isParted_22 (by decide) ?_
      exact ro_zret (post := fun r => post r ∧ narrow .boolean (.int r) = .int r) hx hb hr rfl hlk ⟨h, rfl⟩ dX2_isParted_23
    · have h := ite_f c1 h
      refine lv_iconst (v := 1) hx hb dX2_isParted_18 (by decide) ?_
      refine lv_goto (tgt := 23) hx hb dX2_isParted_19 (by decide) ?_
      exact ro_zret (post := fun r => post r ∧ narrow .boolean (.int r) = .int r) hx hb hr rfl hlk ⟨h, rfl⟩ dX2_isParted_23
set_option maxHeartbeats 4000000 in
set_option maxRecDepth 100000 in
theorem w_X2_peopleOf_J30 (l : Launch) (D : va_G) (cI cB cJ cZ : ClassId) (aK aV : Nat → Nat) (N : Nat) {p : Program} {e : Env} {s : State} {m : MethodId} {below : List Frame} {meth : Method} {c : Code} (q_this : Nat) (x1 : Int32) (post : Int32 → Prop) (C0 : Cx p s m meth c ([.ref q_this, .int x1] : List Value).toArray cX2_peopleOf 4 yX2_peopleOf.cls yX2_peopleOf.name (some .int) wsX2_peopleOf D cI cB cJ cZ aK aV (fun _ => False)) (q_people : Nat) (q_didWith : Nat) (q_didWithout : Nat) (q_conditions : Nat) (size : Int32) (people : Nat → Int32) (i2 : Int32) (kb4 : Int32 → Int32 → Prop) (hkb4 : ∀ (i1_ : Int32) (i2_ : Int32), kb4 i1_ i2_ → ∀ ls : Array Slot, lv_has ls 4 [(0, .ref q_this), (1, .int x1), (2, .int i1_), (3, .int i2_)] → W p l e { frames := 0, cells := 0, slots := 0, locals := 0 } s m ([.ref q_this, .int x1] : List Value).toArray below meth c s.heap [] 0 0 (MQ below (vp_Si post) ([.ref q_this, .int x1] : List Value).toArray s 0 0 (fun _ => False)) (F0 m 4 ls [])) (j3 : Int32) (h : f_X2_peopleOf_J30 N i2 kb4 j3) (hP : va_P D vwCl [(q_this, .inr (2, [.ref q_people, .ref q_didWith, .ref q_didWithout, .ref q_conditions, .int size])), (q_people, .inl (cI, 12, .inl people))] s.heap) (ls : Array Slot) (hl : lv_has ls 4 [(0, .ref q_this), (1, .int x1), (2, .int j3), (3, .int i2)]) : W p l e { frames := 0, cells := 0, slots := 0, locals := 0 } s m ([.ref q_this, .int x1] : List Value).toArray below meth c s.heap [] 0 0 (MQ below (vp_Si post) ([.ref q_this, .int x1] : List Value).toArray s 0 0 (fun _ => False)) (F0 m 30 ls []) := by
  obtain ⟨hx, hb, hr, hml, hown, hts, hE, hlk, hnm⟩ := id C0
  have ik2 : ∀ w ∈ u_ws RX2 TX2 5, w ∈ wsX2_peopleOf := by decide +kernel
  unfold f_X2_peopleOf_J30 at h
  obtain ⟨v4, ex⟩ : ∃ y : Int32, y = (i2 + 1) := ⟨_, rfl⟩
  have h := nm_of ex h
  refine lv_iinc (v := v4) (lv' := [(3, .int v4), (0, .ref q_this), (1, .int x1), (2, .int j3)]) hx hb dX2_peopleOf_30 hl (k := 3) rfl (by rw [ex]; rfl) (by decide) rfl (fun ls hl => ?_)
  refine lv_goto (tgt := 4) hx hb dX2_peopleOf_33 (by decide) ?_
  exact hkb4 j3 v4 h ls (lv_sub hl [1, 2, 3, 0] rfl)
set_option maxHeartbeats 4000000 in
set_option maxRecDepth 100000 in
theorem w_X2_peopleOf_B4 (l : Launch) (D : va_G) (cI cB cJ cZ : ClassId) (aK aV : Nat → Nat) (N : Nat) {p : Program} {e : Env} {s : State} {m : MethodId} {below : List Frame} {meth : Method} {c : Code} (q_this : Nat) (x1 : Int32) (post : Int32 → Prop) (C0 : Cx p s m meth c ([.ref q_this, .int x1] : List Value).toArray cX2_peopleOf 4 yX2_peopleOf.cls yX2_peopleOf.name (some .int) wsX2_peopleOf D cI cB cJ cZ aK aV (fun _ => False)) (q_people : Nat) (q_didWith : Nat) (q_didWithout : Nat) (q_conditions : Nat) (size : Int32) (people : Nat → Int32) (kb4 : Int32 → Int32 → Prop) (hkb4 : ∀ (i1_ : Int32) (i2_ : Int32), kb4 i1_ i2_ → ∀ ls : Array Slot, lv_has ls 4 [(0, .ref q_this), (1, .int x1), (2, .int i1_), (3, .int i2_)] → W p l e { frames := 0, cells := 0, slots := 0, locals := 0 } s m ([.ref q_this, .int x1] : List Value).toArray below meth c s.heap [] 0 0 (MQ below (vp_Si post) ([.ref q_this, .int x1] : List Value).toArray s 0 0 (fun _ => False)) (F0 m 4 ls [])) (ke4 : Int32 → Int32 → Prop) (hke4 : ∀ (i1_ : Int32) (i2_ : Int32), ke4 i1_ i2_ → ∀ ls : Array Slot, lv_has ls 4 [(2, .int i1_)] → W p l e { frames := 0, cells := 0, slots := 0, locals := 0 } s m ([.ref q_this, .int x1] : List Value).toArray below meth c s.heap [] 0 0 (MQ below (vp_Si post) ([.ref q_this, .int x1] : List Value).toArray s 0 0 (fun _ => False)) (F0 m 36 ls [])) (i1 : Int32) (i2 : Int32) (h : f_X2_peopleOf_B4 N size people x1 kb4 ke4 i1 i2) (hP : va_P D vwCl [(q_this, .inr (2, [.ref q_people, .ref q_didWith, .ref q_didWithout, .ref q_conditions, .int size])), (q_people, .inl (cI, 12, .inl people))] s.heap) (ls : Array Slot) (hl : lv_has ls 4 [(0, .ref q_this), (1, .int x1), (2, .int i1), (3, .int i2)]) : W p l e { frames := 0, cells := 0, slots := 0, locals := 0 } s m ([.ref q_this, .int x1] : List Value).toArray below meth c s.heap [] 0 0 (MQ below (vp_Si post) ([.ref q_this, .int x1] : List Value).toArray s 0 0 (fun _ => False)) (F0 m 4 ls []) := by
  obtain ⟨hx, hb, hr, hml, hown, hts, hE, hlk, hnm⟩ := id C0
  have ik2 : ∀ w ∈ u_ws RX2 TX2 5, w ∈ wsX2_peopleOf := by decide +kernel
  unfold f_X2_peopleOf_B4 at h
  refine lv_iload_n hx hb dX2_peopleOf_4 rfl (lv_at hl 3 rfl) ?_
  refine lv_aload_n hx hb dX2_peopleOf_5 rfl (lv_at hl 0 rfl) ?_
  refine va_get (D := D) (ci := 2) (v := .int size) (C := RX2) (T := TX2) (N := 5) hx hb hts ik2 hown hE.1.1 hP 0 rfl rfl 4 (by decide) (hts (.fieldLink RX2 24 "FortyHouses$Houses" "size" "I") (by decide +kernel)) (fun _ h9 => h9) rfl dX2_peopleOf_6 ?_
  refine lv_icmp_ge (tgt := 36) hx hb dX2_peopleOf_9 (by decide) (fun c1 => ?_) (fun c1 => ?_)
  · have h := ite_t c1 h
    exact hke4 i1 i2 h ls (lv_sub hl [2] rfl)
  · have h := ite_f c1 h
    refine lv_iload_n hx hb dX2_peopleOf_12 rfl (lv_at hl 1 rfl) ?_
    refine lv_iload_n hx hb dX2_peopleOf_13 rfl (lv_at hl 3 rfl) ?_
    refine lv_ishr hx hb dX2_peopleOf_14 ?_
    refine lv_iconst (v := 1) hx hb dX2_peopleOf_15 (by decide) ?_
    refine lv_iand hx hb dX2_peopleOf_16 ?_
    refine lv_iconst (v := 1) hx hb dX2_peopleOf_17 (by decide) ?_
    refine lv_icmp_ne (tgt := 30) hx hb dX2_peopleOf_18 (by decide) (fun c1 => ?_) (fun c1 => ?_)
    · have h := ite_t c1 h
      exact w_X2_peopleOf_J30 l D cI cB cJ cZ aK aV N q_this x1 post C0 q_people q_didWith q_didWithout q_conditions size people i2 kb4 hkb4 i1 h hP ls hl
    · have h := ite_n c1 h
      refine lv_iload_n hx hb dX2_peopleOf_21 rfl (lv_at hl 2 rfl) ?_
      refine lv_aload_n hx hb dX2_peopleOf_22 rfl (lv_at hl 0 rfl) ?_
      refine va_get (D := D) (ci := 2) (v := .ref q_people) (C := RX2) (T := TX2) (N := 5) hx hb hts ik2 hown hE.1.1 hP 0 rfl rfl 0 (by decide) (hts (.fieldLink RX2 11 "FortyHouses$Houses" "people" "[I") (by decide +kernel)) (fun _ h9 => h9) rfl dX2_peopleOf_23 ?_
      refine lv_iload_n hx hb dX2_peopleOf_26 rfl (lv_at hl 3 rfl) ?_
      obtain ⟨hin, h⟩ := h
      refine va_iald hx hb hE.1.1 hP 1 0 rfl rfl hin dX2_peopleOf_27 ?_
      refine lv_iadd hx hb dX2_peopleOf_28 ?_
      refine lv_topi (fun v5 ex => ?_)
      have h := nm_of ex h
      refine lv_istore_n (lv' := [(2, .int v5), (0, .ref q_this), (1, .int x1), (3, .int i2)]) hx hb dX2_peopleOf_29 rfl hl (by decide) rfl (fun ls hl => ?_)
      exact w_X2_peopleOf_J30 l D cI cB cJ cZ aK aV N q_this x1 post C0 q_people q_didWith q_didWithout q_conditions size people i2 kb4 hkb4 v5 h hP ls (lv_sub hl [1, 2, 0, 3] rfl)
set_option maxHeartbeats 4000000 in
set_option maxRecDepth 100000 in
theorem w_X2_peopleOf_L4 (l : Launch) (D : va_G) (cI cB cJ cZ : ClassId) (aK aV : Nat → Nat) (N : Nat) {p : Program} {e : Env} {s : State} {m : MethodId} {below : List Frame} {meth : Method} {c : Code} (q_this : Nat) (x1 : Int32) (post : Int32 → Prop) (C0 : Cx p s m meth c ([.ref q_this, .int x1] : List Value).toArray cX2_peopleOf 4 yX2_peopleOf.cls yX2_peopleOf.name (some .int) wsX2_peopleOf D cI cB cJ cZ aK aV (fun _ => False)) (q_people : Nat) (q_didWith : Nat) (q_didWithout : Nat) (q_conditions : Nat) (size : Int32) (people : Nat → Int32) (ke4 : Int32 → Int32 → Prop) (hke4 : ∀ (i1_ : Int32) (i2_ : Int32), ke4 i1_ i2_ → ∀ ls : Array Slot, lv_has ls 4 [(2, .int i1_)] → W p l e { frames := 0, cells := 0, slots := 0, locals := 0 } s m ([.ref q_this, .int x1] : List Value).toArray below meth c s.heap [] 0 0 (MQ below (vp_Si post) ([.ref q_this, .int x1] : List Value).toArray s 0 0 (fun _ => False)) (F0 m 36 ls [])) (hP : va_P D vwCl [(q_this, .inr (2, [.ref q_people, .ref q_didWith, .ref q_didWithout, .ref q_conditions, .int size])), (q_people, .inl (cI, 12, .inl people))] s.heap) : ∀ (n_ : Nat) (i1 : Int32) (i2 : Int32), f_X2_peopleOf_L4 N size people x1 ke4 n_ i1 i2 → ∀ ls : Array Slot, lv_has ls 4 [(0, .ref q_this), (1, .int x1), (2, .int i1), (3, .int i2)] → W p l e { frames := 0, cells := 0, slots := 0, locals := 0 } s m ([.ref q_this, .int x1] : List Value).toArray below meth c s.heap [] 0 0 (MQ below (vp_Si post) ([.ref q_this, .int x1] : List Value).toArray s 0 0 (fun _ => False)) (F0 m 4 ls []) := by
  intro n_
  induction n_ with
  | zero => intro i1 i2 h; exact h.elim
  | succ n_ ih =>
    intro i1 i2 h ls hl
    exact w_X2_peopleOf_B4 l D cI cB cJ cZ aK aV N q_this x1 post C0 q_people q_didWith q_didWithout q_conditions size people (f_X2_peopleOf_L4 N size people x1 ke4 n_) ih ke4 hke4 i1 i2 h hP ls hl
set_option maxHeartbeats 4000000 in
set_option maxRecDepth 100000 in
theorem c_X2_peopleOf (l : Launch) (D : va_G) (cI cB cJ cZ : ClassId) (aK aV : Nat → Nat) (N : Nat) (q_this : Nat) (q_people : Nat) (q_didWith : Nat) (q_didWithout : Nat) (q_conditions : Nat) (size : Int32) (people : Nat → Int32) (x1 : Int32) {post : Int32 → Prop} (h : f_X2_peopleOf N size people x1 post) : Met l yX2_peopleOf wsX2_peopleOf { frames := 0, cells := 0, slots := 0, locals := 0 } (PR D cI cB cJ cZ aK aV [.ref q_this, .int x1] [(q_this, .inr (2, [.ref q_people, .ref q_didWith, .ref q_didWithout, .ref q_conditions, .int size])), (q_people, .inl (cI, 12, .inl people))]) (vp_Si post) 0 0 (fun _ => False) := by
  refine ro_enter (cc := cX2_peopleOf) (maxL := 4) (ret := (some .int)) (by decide) rfl (Nat.le_of_ble_eq_true rfl) ?_
  intro p e s m below meth c C0 hP ls hl
  have hl : lv_has ls 4 [(0, .ref q_this), (1, .int x1)] := hl
  unfold f_X2_peopleOf at h
  obtain ⟨hx, hb, hr, hml, hown, hts, hE, hlk, hnm⟩ := id C0
  have ik2 : ∀ w ∈ u_ws RX2 TX2 5, w ∈ wsX2_peopleOf := by decide +kernel
  refine lv_iconst (v := 0) hx hb dX2_peopleOf_0 (by decide) ?_
  refine lv_istore_n (lv' := [(2, .int 0), (0, .ref q_this), (1, .int x1)]) hx hb dX2_peopleOf_1 rfl hl (by decide) rfl (fun ls hl => ?_)
  refine lv_iconst (v := 0) hx hb dX2_peopleOf_2 (by decide) ?_
  refine lv_istore_n (lv' := [(3, .int 0), (2, .int 0), (0, .ref q_this), (1, .int x1)]) hx hb dX2_peopleOf_3 rfl hl (by decide) rfl (fun ls hl => ?_)
  refine w_X2_peopleOf_L4 l D cI cB cJ cZ aK aV N q_this x1 post C0 q_people q_didWith q_didWithout q_conditions size people _ (fun o6 o7 h ls hl => ?_) hP N 0 0 h ls (lv_sub hl [2, 3, 1, 0] rfl)
  refine lv_iload_n hx hb dX2_peopleOf_36 rfl (lv_at hl 0 rfl) ?_
  exact ro_iret hx hb hr hlk h dX2_peopleOf_37
set_option maxHeartbeats 4000000 in
set_option maxRecDepth 100000 in
theorem w_X2_excessOf_J37 (l : Launch) (D : va_G) (cI cB cJ cZ : ClassId) (aK aV : Nat → Nat) (N : Nat) {p : Program} {e : Env} {s : State} {m : MethodId} {below : List Frame} {meth : Method} {c : Code} (q_this : Nat) (x1 : Int32) (post : Int32 → Prop) (C0 : Cx p s m meth c ([.ref q_this, .int x1] : List Value).toArray cX2_excessOf 4 yX2_excessOf.cls yX2_excessOf.name (some .int) wsX2_excessOf D cI cB cJ cZ aK aV (fun _ => False)) (q_people : Nat) (q_didWith : Nat) (q_didWithout : Nat) (q_conditions : Nat) (size : Int32) (didWith : Nat → Int32) (didWithout : Nat → Int32) (i2 : Int32) (kb4 : Int32 → Int32 → Prop) (hkb4 : ∀ (i1_ : Int32) (i2_ : Int32), kb4 i1_ i2_ → ∀ ls : Array Slot, lv_has ls 4 [(0, .ref q_this), (1, .int x1), (2, .int i1_), (3, .int i2_)] → W p l e { frames := 0, cells := 0, slots := 0, locals := 0 } s m ([.ref q_this, .int x1] : List Value).toArray below meth c s.heap [] 0 0 (MQ below (vp_Si post) ([.ref q_this, .int x1] : List Value).toArray s 0 0 (fun _ => False)) (F0 m 4 ls [])) (j3 : Int32) (h : f_X2_excessOf_J37 N i2 kb4 j3) (hP : va_P D vwCl [(q_this, .inr (2, [.ref q_people, .ref q_didWith, .ref q_didWithout, .ref q_conditions, .int size])), (q_didWith, .inl (cI, 12, .inl didWith)), (q_didWithout, .inl (cI, 12, .inl didWithout))] s.heap) (ls : Array Slot) (hl : lv_has ls 4 [(0, .ref q_this), (1, .int x1), (2, .int j3), (3, .int i2)]) : W p l e { frames := 0, cells := 0, slots := 0, locals := 0 } s m ([.ref q_this, .int x1] : List Value).toArray below meth c s.heap [] 0 0 (MQ below (vp_Si post) ([.ref q_this, .int x1] : List Value).toArray s 0 0 (fun _ => False)) (F0 m 37 ls []) := by
  obtain ⟨hx, hb, hr, hml, hown, hts, hE, hlk, hnm⟩ := id C0
  have ik2 : ∀ w ∈ u_ws RX2 TX2 5, w ∈ wsX2_excessOf := by decide +kernel
  unfold f_X2_excessOf_J37 at h
  obtain ⟨v4, ex⟩ : ∃ y : Int32, y = (i2 + 1) := ⟨_, rfl⟩
  have h := nm_of ex h
  refine lv_iinc (v := v4) (lv' := [(3, .int v4), (0, .ref q_this), (1, .int x1), (2, .int j3)]) hx hb dX2_excessOf_37 hl (k := 3) rfl (by rw [ex]; rfl) (by decide) rfl (fun ls hl => ?_)
  refine lv_goto (tgt := 4) hx hb dX2_excessOf_40 (by decide) ?_
  exact hkb4 j3 v4 h ls (lv_sub hl [1, 2, 3, 0] rfl)
set_option maxHeartbeats 4000000 in
set_option maxRecDepth 100000 in
theorem w_X2_excessOf_B4 (l : Launch) (D : va_G) (cI cB cJ cZ : ClassId) (aK aV : Nat → Nat) (N : Nat) {p : Program} {e : Env} {s : State} {m : MethodId} {below : List Frame} {meth : Method} {c : Code} (q_this : Nat) (x1 : Int32) (post : Int32 → Prop) (C0 : Cx p s m meth c ([.ref q_this, .int x1] : List Value).toArray cX2_excessOf 4 yX2_excessOf.cls yX2_excessOf.name (some .int) wsX2_excessOf D cI cB cJ cZ aK aV (fun _ => False)) (q_people : Nat) (q_didWith : Nat) (q_didWithout : Nat) (q_conditions : Nat) (size : Int32) (didWith : Nat → Int32) (didWithout : Nat → Int32) (kb4 : Int32 → Int32 → Prop) (hkb4 : ∀ (i1_ : Int32) (i2_ : Int32), kb4 i1_ i2_ → ∀ ls : Array Slot, lv_has ls 4 [(0, .ref q_this), (1, .int x1), (2, .int i1_), (3, .int i2_)] → W p l e { frames := 0, cells := 0, slots := 0, locals := 0 } s m ([.ref q_this, .int x1] : List Value).toArray below meth c s.heap [] 0 0 (MQ below (vp_Si post) ([.ref q_this, .int x1] : List Value).toArray s 0 0 (fun _ => False)) (F0 m 4 ls [])) (ke4 : Int32 → Int32 → Prop) (hke4 : ∀ (i1_ : Int32) (i2_ : Int32), ke4 i1_ i2_ → ∀ ls : Array Slot, lv_has ls 4 [(2, .int i1_)] → W p l e { frames := 0, cells := 0, slots := 0, locals := 0 } s m ([.ref q_this, .int x1] : List Value).toArray below meth c s.heap [] 0 0 (MQ below (vp_Si post) ([.ref q_this, .int x1] : List Value).toArray s 0 0 (fun _ => False)) (F0 m 43 ls [])) (i1 : Int32) (i2 : Int32) (h : f_X2_excessOf_B4 N size didWith didWithout x1 kb4 ke4 i1 i2) (hP : va_P D vwCl [(q_this, .inr (2, [.ref q_people, .ref q_didWith, .ref q_didWithout, .ref q_conditions, .int size])), (q_didWith, .inl (cI, 12, .inl didWith)), (q_didWithout, .inl (cI, 12, .inl didWithout))] s.heap) (ls : Array Slot) (hl : lv_has ls 4 [(0, .ref q_this), (1, .int x1), (2, .int i1), (3, .int i2)]) : W p l e { frames := 0, cells := 0, slots := 0, locals := 0 } s m ([.ref q_this, .int x1] : List Value).toArray below meth c s.heap [] 0 0 (MQ below (vp_Si post) ([.ref q_this, .int x1] : List Value).toArray s 0 0 (fun _ => False)) (F0 m 4 ls []) := by
  obtain ⟨hx, hb, hr, hml, hown, hts, hE, hlk, hnm⟩ := id C0
  have ik2 : ∀ w ∈ u_ws RX2 TX2 5, w ∈ wsX2_excessOf := by decide +kernel
  unfold f_X2_excessOf_B4 at h
  refine lv_iload_n hx hb dX2_excessOf_4 rfl (lv_at hl 3 rfl) ?_
  refine lv_aload_n hx hb dX2_excessOf_5 rfl (lv_at hl 0 rfl) ?_
  refine va_get (D := D) (ci := 2) (v := .int size) (C := RX2) (T := TX2) (N := 5) hx hb hts ik2 hown hE.1.1 hP 0 rfl rfl 4 (by decide) (hts (.fieldLink RX2 24 "FortyHouses$Houses" "size" "I") (by decide +kernel)) (fun _ h9 => h9) rfl dX2_excessOf_6 ?_
  refine lv_icmp_ge (tgt := 43) hx hb dX2_excessOf_9 (by decide) (fun c1 => ?_) (fun c1 => ?_)
  · have h := ite_t c1 h
    exact hke4 i1 i2 h ls (lv_sub hl [2] rfl)
  · have h := ite_f c1 h
    refine lv_iload_n hx hb dX2_excessOf_12 rfl (lv_at hl 1 rfl) ?_
    refine lv_iload_n hx hb dX2_excessOf_13 rfl (lv_at hl 3 rfl) ?_
    refine lv_ishr hx hb dX2_excessOf_14 ?_
    refine lv_iconst (v := 1) hx hb dX2_excessOf_15 (by decide) ?_
    refine lv_iand hx hb dX2_excessOf_16 ?_
    refine lv_iconst (v := 1) hx hb dX2_excessOf_17 (by decide) ?_
    refine lv_icmp_ne (tgt := 37) hx hb dX2_excessOf_18 (by decide) (fun c1 => ?_) (fun c1 => ?_)
    · have h := ite_t c1 h
      exact w_X2_excessOf_J37 l D cI cB cJ cZ aK aV N q_this x1 post C0 q_people q_didWith q_didWithout q_conditions size didWith didWithout i2 kb4 hkb4 i1 h hP ls hl
    · have h := ite_n c1 h
      refine lv_iload_n hx hb dX2_excessOf_21 rfl (lv_at hl 2 rfl) ?_
      refine lv_aload_n hx hb dX2_excessOf_22 rfl (lv_at hl 0 rfl) ?_
      refine va_get (D := D) (ci := 2) (v := .ref q_didWith) (C := RX2) (T := TX2) (N := 5) hx hb hts ik2 hown hE.1.1 hP 0 rfl rfl 1 (by decide) (hts (.fieldLink RX2 15 "FortyHouses$Houses" "didWith" "[I") (by decide +kernel)) (fun _ h9 => h9) rfl dX2_excessOf_23 ?_
      refine lv_iload_n hx hb dX2_excessOf_26 rfl (lv_at hl 3 rfl) ?_
      obtain ⟨hin, h⟩ := h
      refine va_iald hx hb hE.1.1 hP 1 0 rfl rfl hin dX2_excessOf_27 ?_
      refine lv_aload_n hx hb dX2_excessOf_28 rfl (lv_at hl 0 rfl) ?_
      refine va_get (D := D) (ci := 2) (v := .ref q_didWithout) (C := RX2) (T := TX2) (N := 5) hx hb hts ik2 hown hE.1.1 hP 0 rfl rfl 2 (by decide) (hts (.fieldLink RX2 18 "FortyHouses$Houses" "didWithout" "[I") (by decide +kernel)) (fun _ h9 => h9) rfl dX2_excessOf_29 ?_
      refine lv_iload_n hx hb dX2_excessOf_32 rfl (lv_at hl 3 rfl) ?_
      obtain ⟨hin, h⟩ := h
      refine va_iald hx hb hE.1.1 hP 2 0 rfl rfl hin dX2_excessOf_33 ?_
      refine lv_isub hx hb dX2_excessOf_34 ?_
      refine lv_iadd hx hb dX2_excessOf_35 ?_
      refine lv_topi (fun v5 ex => ?_)
      have h := nm_of ex h
      refine lv_istore_n (lv' := [(2, .int v5), (0, .ref q_this), (1, .int x1), (3, .int i2)]) hx hb dX2_excessOf_36 rfl hl (by decide) rfl (fun ls hl => ?_)
      exact w_X2_excessOf_J37 l D cI cB cJ cZ aK aV N q_this x1 post C0 q_people q_didWith q_didWithout q_conditions size didWith didWithout i2 kb4 hkb4 v5 h hP ls (lv_sub hl [1, 2, 0, 3] rfl)
set_option maxHeartbeats 4000000 in
set_option maxRecDepth 100000 in
theorem w_X2_excessOf_L4 (l : Launch) (D : va_G) (cI cB cJ cZ : ClassId) (aK aV : Nat → Nat) (N : Nat) {p : Program} {e : Env} {s : State} {m : MethodId} {below : List Frame} {meth : Method} {c : Code} (q_this : Nat) (x1 : Int32) (post : Int32 → Prop) (C0 : Cx p s m meth c ([.ref q_this, .int x1] : List Value).toArray cX2_excessOf 4 yX2_excessOf.cls yX2_excessOf.name (some .int) wsX2_excessOf D cI cB cJ cZ aK aV (fun _ => False)) (q_people : Nat) (q_didWith : Nat) (q_didWithout : Nat) (q_conditions : Nat) (size : Int32) (didWith : Nat → Int32) (didWithout : Nat → Int32) (ke4 : Int32 → Int32 → Prop) (hke4 : ∀ (i1_ : Int32) (i2_ : Int32), ke4 i1_ i2_ → ∀ ls : Array Slot, lv_has ls 4 [(2, .int i1_)] → W p l e { frames := 0, cells := 0, slots := 0, locals := 0 } s m ([.ref q_this, .int x1] : List Value).toArray below meth c s.heap [] 0 0 (MQ below (vp_Si post) ([.ref q_this, .int x1] : List Value).toArray s 0 0 (fun _ => False)) (F0 m 43 ls [])) (hP : va_P D vwCl [(q_this, .inr (2, [.ref q_people, .ref q_didWith, .ref q_didWithout, .ref q_conditions, .int size])), (q_didWith, .inl (cI, 12, .inl didWith)), (q_didWithout, .inl (cI, 12, .inl didWithout))] s.heap) : ∀ (n_ : Nat) (i1 : Int32) (i2 : Int32), f_X2_excessOf_L4 N size didWith didWithout x1 ke4 n_ i1 i2 → ∀ ls : Array Slot, lv_has ls 4 [(0, .ref q_this), (1, .int x1), (2, .int i1), (3, .int i2)] → W p l e { frames := 0, cells := 0, slots := 0, locals := 0 } s m ([.ref q_this, .int x1] : List Value).toArray below meth c s.heap [] 0 0 (MQ below (vp_Si post) ([.ref q_this, .int x1] : List Value).toArray s 0 0 (fun _ => False)) (F0 m 4 ls []) := by
  intro n_
  induction n_ with
  | zero => intro i1 i2 h; exact h.elim
  | succ n_ ih =>
    intro i1 i2 h ls hl
    exact w_X2_excessOf_B4 l D cI cB cJ cZ aK aV N q_this x1 post C0 q_people q_didWith q_didWithout q_conditions size didWith didWithout (f_X2_excessOf_L4 N size didWith didWithout x1 ke4 n_) ih ke4 hke4 i1 i2 h hP ls hl
set_option maxHeartbeats 4000000 in
set_option maxRecDepth 100000 in
theorem c_X2_excessOf (l : Launch) (D : va_G) (cI cB cJ cZ : ClassId) (aK aV : Nat → Nat) (N : Nat) (q_this : Nat) (q_people : Nat) (q_didWith : Nat) (q_didWithout : Nat) (q_conditions : Nat) (size : Int32) (didWith : Nat → Int32) (didWithout : Nat → Int32) (x1 : Int32) {post : Int32 → Prop} (h : f_X2_excessOf N size didWith didWithout x1 post) : Met l yX2_excessOf wsX2_excessOf { frames := 0, cells := 0, slots := 0, locals := 0 } (PR D cI cB cJ cZ aK aV [.ref q_this, .int x1] [(q_this, .inr (2, [.ref q_people, .ref q_didWith, .ref q_didWithout, .ref q_conditions, .int size])), (q_didWith, .inl (cI, 12, .inl didWith)), (q_didWithout, .inl (cI, 12, .inl didWithout))]) (vp_Si post) 0 0 (fun _ => False) := by
  refine ro_enter (cc := cX2_excessOf) (maxL := 4) (ret := (some .int)) (by decide) rfl (Nat.le_of_ble_eq_true rfl) ?_
  intro p e s m below meth c C0 hP ls hl
  have hl : lv_has ls 4 [(0, .ref q_this), (1, .int x1)] := hl
  unfold f_X2_excessOf at h
  obtain ⟨hx, hb, hr, hml, hown, hts, hE, hlk, hnm⟩ := id C0
  have ik2 : ∀ w ∈ u_ws RX2 TX2 5, w ∈ wsX2_excessOf := by decide +kernel
  refine lv_iconst (v := 0) hx hb dX2_excessOf_0 (by decide) ?_
  refine lv_istore_n (lv' := [(2, .int 0), (0, .ref q_this), (1, .int x1)]) hx hb dX2_excessOf_1 rfl hl (by decide) rfl (fun ls hl => ?_)
  refine lv_iconst (v := 0) hx hb dX2_excessOf_2 (by decide) ?_
  refine lv_istore_n (lv' := [(3, .int 0), (2, .int 0), (0, .ref q_this), (1, .int x1)]) hx hb dX2_excessOf_3 rfl hl (by decide) rfl (fun ls hl => ?_)
  refine w_X2_excessOf_L4 l D cI cB cJ cZ aK aV N q_this x1 post C0 q_people q_didWith q_didWithout q_conditions size didWith didWithout _ (fun o6 o7 h ls hl => ?_) hP N 0 0 h ls (lv_sub hl [2, 3, 1, 0] rfl)
  refine lv_iload_n hx hb dX2_excessOf_43 rfl (lv_at hl 0 rfl) ?_
  exact ro_iret hx hb hr hlk h dX2_excessOf_44
set_option maxHeartbeats 4000000 in
set_option maxRecDepth 100000 in
theorem c_X2_areAlike (l : Launch) (D : va_G) (cI cB cJ cZ : ClassId) (aK aV : Nat → Nat) (N : Nat) (q_this : Nat) (q_people : Nat) (q_didWith : Nat) (q_didWithout : Nat) (q_conditions : Nat) (size : Int32) (people : Nat → Int32) (didWith : Nat → Int32) (didWithout : Nat → Int32) (x1 : Int32) (x2 : Int32) {post : Int32 → Prop} (h : f_X2_areAlike N people didWith didWithout x1 x2 post) : Met l yX2_areAlike wsX2_areAlike { frames := 0, cells := 0, slots := 0, locals := 0 } (PR D cI cB cJ cZ aK aV [.ref q_this, .int x1, .int x2] [(q_this, .inr (2, [.ref q_people, .ref q_didWith, .ref q_didWithout, .ref q_conditions, .int size])), (q_people, .inl (cI, 12, .inl people)), (q_didWith, .inl (cI, 12, .inl didWith)), (q_didWithout, .inl (cI, 12, .inl didWithout))]) (vp_Si (fun r => post r ∧ narrow .boolean (.int r) = .int r)) 0 0 (fun _ => False) := by
  refine ro_enter (cc := cX2_areAlike) (maxL := 3) (ret := (some .boolean)) (by decide) rfl (Nat.le_of_ble_eq_true rfl) ?_
  intro p e s m below meth c C0 hP ls hl
  have hl : lv_has ls 3 [(0, .ref q_this), (1, .int x1), (2, .int x2)] := hl
  unfold f_X2_areAlike at h
  obtain ⟨hx, hb, hr, hml, hown, hts, hE, hlk, hnm⟩ := id C0
  have ik2 : ∀ w ∈ u_ws RX2 TX2 5, w ∈ wsX2_areAlike := by decide +kernel
  refine lv_aload_n hx hb dX2_areAlike_0 rfl (lv_at hl 0 rfl) ?_
  refine va_get (D := D) (ci := 2) (v := .ref q_people) (C := RX2) (T := TX2) (N := 5) hx hb hts ik2 hown hE.1.1 hP 0 rfl rfl 0 (by decide) (hts (.fieldLink RX2 11 "FortyHouses$Houses" "people" "[I") (by decide +kernel)) (fun _ h9 => h9) rfl dX2_areAlike_1 ?_
  refine lv_iload_n hx hb dX2_areAlike_4 rfl (lv_at hl 1 rfl) ?_
  obtain ⟨hin, h⟩ := h
  refine va_iald hx hb hE.1.1 hP 1 0 rfl rfl hin dX2_areAlike_5 ?_
  refine lv_aload_n hx hb dX2_areAlike_6 rfl (lv_at hl 0 rfl) ?_
  refine va_get (D := D) (ci := 2) (v := .ref q_people) (C := RX2) (T := TX2) (N := 5) hx hb hts ik2 hown hE.1.1 hP 0 rfl rfl 0 (by decide) (hts (.fieldLink RX2 11 "FortyHouses$Houses" "people" "[I") (by decide +kernel)) (fun _ h9 => h9) rfl dX2_areAlike_7 ?_
  refine lv_iload_n hx hb dX2_areAlike_10 rfl (lv_at hl 2 rfl) ?_
  obtain ⟨hin, h⟩ := h
  refine va_iald hx hb hE.1.1 hP 1 0 rfl rfl hin dX2_areAlike_11 ?_
  refine lv_icmp_ne (tgt := 49) hx hb dX2_areAlike_12 (by decide) (fun c1 => ?_) (fun c1 => ?_)
  · have h := ite_t c1 h
    refine lv_iconst (v := 0) hx hb dX2_areAlike_49 (by decide) ?_
    exact ro_zret (post := fun r => post r ∧ narrow .boolean (.int r) = .int r) hx hb hr rfl hlk ⟨h, rfl⟩ dX2_areAlike_50
  · have h := ite_n c1 h
    refine lv_aload_n hx hb dX2_areAlike_15 rfl (lv_at hl 0 rfl) ?_
    refine va_get (D := D) (ci := 2) (v := .ref q_didWith) (C := RX2) (T := TX2) (N := 5) hx hb hts ik2 hown hE.1.1 hP 0 rfl rfl 1 (by decide) (hts (.fieldLink RX2 15 "FortyHouses$Houses" "didWith" "[I") (by decide +kernel)) (fun _ h9 => h9) rfl dX2_areAlike_16 ?_
    refine lv_iload_n hx hb dX2_areAlike_19 rfl (lv_at hl 1 rfl) ?_
    obtain ⟨hin, h⟩ := h
    refine va_iald hx hb hE.1.1 hP 2 0 rfl rfl hin dX2_areAlike_20 ?_
    refine lv_aload_n hx hb dX2_areAlike_21 rfl (lv_at hl 0 rfl) ?_
    refine va_get (D := D) (ci := 2) (v := .ref q_didWith) (C := RX2) (T := TX2) (N := 5) hx hb hts ik2 hown hE.1.1 hP 0 rfl rfl 1 (by decide) (hts (.fieldLink RX2 15 "FortyHouses$Houses" "didWith" "[I") (by decide +kernel)) (fun _ h9 => h9) rfl dX2_areAlike_22 ?_
    refine lv_iload_n hx hb dX2_areAlike_25 rfl (lv_at hl 2 rfl) ?_
    obtain ⟨hin, h⟩ := h
    refine va_iald hx hb hE.1.1 hP 2 0 rfl rfl hin dX2_areAlike_26 ?_
    refine lv_icmp_ne (tgt := 49) hx hb dX2_areAlike_27 (by decide) (fun c1 => ?_) (fun c1 => ?_)
    · have h := ite_t c1 h
      refine lv_iconst (v := 0) hx hb dX2_areAlike_49 (by decide) ?_
      exact ro_zret (post := fun r => post r ∧ narrow .boolean (.int r) = .int r) hx hb hr rfl hlk ⟨h, rfl⟩ dX2_areAlike_50
    · have h := ite_n c1 h
      refine lv_aload_n hx hb dX2_areAlike_30 rfl (lv_at hl 0 rfl) ?_
      refine va_get (D := D) (ci := 2) (v := .ref q_didWithout) (C := RX2) (T := TX2) (N := 5) hx hb hts ik2 hown hE.1.1 hP 0 rfl rfl 2 (by decide) (hts (.fieldLink RX2 18 "FortyHouses$Houses" "didWithout" "[I") (by decide +kernel)) (fun _ h9 => h9) rfl dX2_areAlike_31 ?_
      refine lv_iload_n hx hb dX2_areAlike_34 rfl (lv_at hl 1 rfl) ?_
      obtain ⟨hin, h⟩ := h
      refine va_iald hx hb hE.1.1 hP 3 0 rfl rfl hin dX2_areAlike_35 ?_
      refine lv_aload_n hx hb dX2_areAlike_36 rfl (lv_at hl 0 rfl) ?_
      refine va_get (D := D) (ci := 2) (v := .ref q_didWithout) (C := RX2) (T := TX2) (N := 5) hx hb hts ik2 hown hE.1.1 hP 0 rfl rfl 2 (by decide) (hts (.fieldLink RX2 18 "FortyHouses$Houses" "didWithout" "[I") (by decide +kernel)) (fun _ h9 => h9) rfl dX2_areAlike_37 ?_
      refine lv_iload_n hx hb dX2_areAlike_40 rfl (lv_at hl 2 rfl) ?_
      obtain ⟨hin, h⟩ := h
      refine va_iald hx hb hE.1.1 hP 3 0 rfl rfl hin dX2_areAlike_41 ?_
      refine lv_icmp_ne (tgt := 49) hx hb dX2_areAlike_42 (by decide) (fun c1 => ?_) (fun c1 => ?_)
      · have h := ite_t c1 h
        refine lv_iconst (v := 0) hx hb dX2_areAlike_49 (by decide) ?_
        exact ro_zret (post := fun r => post r ∧ narrow .boolean (.int r) = .int r) hx hb hr rfl hlk ⟨h, rfl⟩ dX2_areAlike_50
      · have h := ite_n c1 h
        refine lv_iconst (v := 1) hx hb dX2_areAlike_45 (by decide) ?_
        refine lv_goto (tgt := 50) hx hb dX2_areAlike_46 (by decide) ?_
        exact ro_zret (post := fun r => post r ∧ narrow .boolean (.int r) = .int r) hx hb hr rfl hlk ⟨h, rfl⟩ dX2_areAlike_50
set_option maxHeartbeats 4000000 in
set_option maxRecDepth 100000 in
theorem w_X2_alikeTo_J27 (l : Launch) (D : va_G) (cI cB cJ cZ : ClassId) (aK aV : Nat → Nat) (N : Nat) {p : Program} {e : Env} {s : State} {m : MethodId} {below : List Frame} {meth : Method} {c : Code} (q_this : Nat) (x1 : Int32) (post : Int32 → Prop) (C0 : Cx p s m meth c ([.ref q_this, .int x1] : List Value).toArray cX2_alikeTo 4 yX2_alikeTo.cls yX2_alikeTo.name (some .int) wsX2_alikeTo D cI cB cJ cZ aK aV (fun _ => False)) (q_people : Nat) (q_didWith : Nat) (q_didWithout : Nat) (q_conditions : Nat) (size : Int32) (people : Nat → Int32) (didWith : Nat → Int32) (didWithout : Nat → Int32) (i1 : Int32) (i2 : Int32) (kb4 : Int32 → Int32 → Prop) (hkb4 : ∀ (i1_ : Int32) (i2_ : Int32), kb4 i1_ i2_ → ∀ ls : Array Slot, lv_has ls 4 [(0, .ref q_this), (1, .int x1), (2, .int i1_), (3, .int i2_)] → W p l e { frames := 1, cells := 0, slots := 0, locals := 22 } s m ([.ref q_this, .int x1] : List Value).toArray below meth c s.heap [] 0 0 (MQ below (vp_Si post) ([.ref q_this, .int x1] : List Value).toArray s 0 0 (fun _ => False)) (F0 m 4 ls [])) (j4 : Int32) (h : f_X2_alikeTo_J27 N i1 i2 kb4 j4) (hP : va_P D vwCl [(q_this, .inr (2, [.ref q_people, .ref q_didWith, .ref q_didWithout, .ref q_conditions, .int size])), (q_people, .inl (cI, 12, .inl people)), (q_didWith, .inl (cI, 12, .inl didWith)), (q_didWithout, .inl (cI, 12, .inl didWithout))] s.heap) (ls : Array Slot) (hl : lv_has ls 4 [(0, .ref q_this), (1, .int x1), (3, .int i2)]) : W p l e { frames := 1, cells := 0, slots := 0, locals := 22 } s m ([.ref q_this, .int x1] : List Value).toArray below meth c s.heap [] 0 0 (MQ below (vp_Si post) ([.ref q_this, .int x1] : List Value).toArray s 0 0 (fun _ => False)) (F0 m 27 ls [.int j4, .int i1]) := by
  obtain ⟨hx, hb, hr, hml, hown, hts, hE, hlk, hnm⟩ := id C0
  have ik2 : ∀ w ∈ u_ws RX2 TX2 5, w ∈ wsX2_alikeTo := by decide +kernel
  unfold f_X2_alikeTo_J27 at h
  refine lv_iadd hx hb dX2_alikeTo_27 ?_
  refine lv_topi (fun v5 ex => ?_)
  have h := nm_of ex h
  refine lv_istore_n (lv' := [(2, .int v5), (0, .ref q_this), (1, .int x1), (3, .int i2)]) hx hb dX2_alikeTo_28 rfl hl (by decide) rfl (fun ls hl => ?_)
  obtain ⟨v6, ex⟩ : ∃ y : Int32, y = (i2 + 1) := ⟨_, rfl⟩
  have h := nm_of ex h
  refine lv_iinc (v := v6) (lv' := [(3, .int v6), (2, .int v5), (0, .ref q_this), (1, .int x1)]) hx hb dX2_alikeTo_29 hl (k := 3) rfl (by rw [ex]; rfl) (by decide) rfl (fun ls hl => ?_)
  refine lv_goto (tgt := 4) hx hb dX2_alikeTo_32 (by decide) ?_
  exact hkb4 v5 v6 h ls (lv_sub hl [2, 3, 1, 0] rfl)
set_option maxHeartbeats 4000000 in
set_option maxRecDepth 100000 in
theorem w_X2_alikeTo_B4 (l : Launch) (D : va_G) (cI cB cJ cZ : ClassId) (aK aV : Nat → Nat) (N : Nat) {p : Program} {e : Env} {s : State} {m : MethodId} {below : List Frame} {meth : Method} {c : Code} (q_this : Nat) (x1 : Int32) (post : Int32 → Prop) (C0 : Cx p s m meth c ([.ref q_this, .int x1] : List Value).toArray cX2_alikeTo 4 yX2_alikeTo.cls yX2_alikeTo.name (some .int) wsX2_alikeTo D cI cB cJ cZ aK aV (fun _ => False)) (q_people : Nat) (q_didWith : Nat) (q_didWithout : Nat) (q_conditions : Nat) (size : Int32) (people : Nat → Int32) (didWith : Nat → Int32) (didWithout : Nat → Int32) (kb4 : Int32 → Int32 → Prop) (hkb4 : ∀ (i1_ : Int32) (i2_ : Int32), kb4 i1_ i2_ → ∀ ls : Array Slot, lv_has ls 4 [(0, .ref q_this), (1, .int x1), (2, .int i1_), (3, .int i2_)] → W p l e { frames := 1, cells := 0, slots := 0, locals := 22 } s m ([.ref q_this, .int x1] : List Value).toArray below meth c s.heap [] 0 0 (MQ below (vp_Si post) ([.ref q_this, .int x1] : List Value).toArray s 0 0 (fun _ => False)) (F0 m 4 ls [])) (ke4 : Int32 → Int32 → Prop) (hke4 : ∀ (i1_ : Int32) (i2_ : Int32), ke4 i1_ i2_ → ∀ ls : Array Slot, lv_has ls 4 [(2, .int i1_)] → W p l e { frames := 1, cells := 0, slots := 0, locals := 22 } s m ([.ref q_this, .int x1] : List Value).toArray below meth c s.heap [] 0 0 (MQ below (vp_Si post) ([.ref q_this, .int x1] : List Value).toArray s 0 0 (fun _ => False)) (F0 m 35 ls [])) (i1 : Int32) (i2 : Int32) (h : f_X2_alikeTo_B4 N size people didWith didWithout x1 kb4 ke4 i1 i2) (hP : va_P D vwCl [(q_this, .inr (2, [.ref q_people, .ref q_didWith, .ref q_didWithout, .ref q_conditions, .int size])), (q_people, .inl (cI, 12, .inl people)), (q_didWith, .inl (cI, 12, .inl didWith)), (q_didWithout, .inl (cI, 12, .inl didWithout))] s.heap) (ls : Array Slot) (hl : lv_has ls 4 [(0, .ref q_this), (1, .int x1), (2, .int i1), (3, .int i2)]) : W p l e { frames := 1, cells := 0, slots := 0, locals := 22 } s m ([.ref q_this, .int x1] : List Value).toArray below meth c s.heap [] 0 0 (MQ below (vp_Si post) ([.ref q_this, .int x1] : List Value).toArray s 0 0 (fun _ => False)) (F0 m 4 ls []) := by
  obtain ⟨hx, hb, hr, hml, hown, hts, hE, hlk, hnm⟩ := id C0
  have ik2 : ∀ w ∈ u_ws RX2 TX2 5, w ∈ wsX2_alikeTo := by decide +kernel
  unfold f_X2_alikeTo_B4 at h
  refine lv_iload_n hx hb dX2_alikeTo_4 rfl (lv_at hl 3 rfl) ?_
  refine lv_aload_n hx hb dX2_alikeTo_5 rfl (lv_at hl 0 rfl) ?_
  refine va_get (D := D) (ci := 2) (v := .int size) (C := RX2) (T := TX2) (N := 5) hx hb hts ik2 hown hE.1.1 hP 0 rfl rfl 4 (by decide) (hts (.fieldLink RX2 24 "FortyHouses$Houses" "size" "I") (by decide +kernel)) (fun _ h9 => h9) rfl dX2_alikeTo_6 ?_
  refine lv_icmp_ge (tgt := 35) hx hb dX2_alikeTo_9 (by decide) (fun c1 => ?_) (fun c1 => ?_)
  · have h := ite_t c1 h
    exact hke4 i1 i2 h ls (lv_sub hl [2] rfl)
  · have h := ite_f c1 h
    refine lv_iload_n hx hb dX2_alikeTo_12 rfl (lv_at hl 2 rfl) ?_
    refine lv_aload_n hx hb dX2_alikeTo_13 rfl (lv_at hl 0 rfl) ?_
    refine lv_iload_n hx hb dX2_alikeTo_14 rfl (lv_at hl 1 rfl) ?_
    refine lv_iload_n hx hb dX2_alikeTo_15 rfl (lv_at hl 3 rfl) ?_
    refine ro_Vi (C := RX2) (As := [.int x1, .int i2]) (rest := [.int i1]) ⟨hx, hb, hml, hown, hts⟩ hE va_S.rf hP [0, 1, 2, 3] (c_X2_areAlike l D cI cB cJ cZ aK aV N q_this q_people q_didWith q_didWithout q_conditions size people didWith didWithout x1 i2 h) (cwV 2 hts gX2_alikeTo_X2_areAlike rfl rfl rfl (by decide +kernel) ⟨(Nat.le_of_ble_eq_true rfl), (Nat.le_of_ble_eq_true rfl)⟩) rfl 0 rfl rfl rfl hl.1 rfl (Nat.le_of_ble_eq_true rfl) dX2_alikeTo_16 ⟨Nat.zero_le _, Nat.zero_le _⟩ (fun r3 h => ?_)
    obtain ⟨h, nbr3⟩ := h
    refine lv_if_eq (tgt := 26) hx hb dX2_alikeTo_19 (by decide) (fun c1 => ?_) (fun c1 => ?_)
    · have h := ite_t c1 h
      refine lv_iconst (v := 0) hx hb dX2_alikeTo_26 (by decide) ?_
      exact w_X2_alikeTo_J27 l D cI cB cJ cZ aK aV N q_this x1 post C0 q_people q_didWith q_didWithout q_conditions size people didWith didWithout i1 i2 kb4 hkb4 0 h hP ls (lv_sub hl [0, 1, 3] rfl)
    · have h := ite_f c1 h
      refine lv_iconst (v := 1) hx hb dX2_alikeTo_22 (by decide) ?_
      refine lv_goto (tgt := 27) hx hb dX2_alikeTo_23 (by decide) ?_
      exact w_X2_alikeTo_J27 l D cI cB cJ cZ aK aV N q_this x1 post C0 q_people q_didWith q_didWithout q_conditions size people didWith didWithout i1 i2 kb4 hkb4 1 h hP ls (lv_sub hl [0, 1, 3] rfl)
set_option maxHeartbeats 4000000 in
set_option maxRecDepth 100000 in
theorem w_X2_alikeTo_L4 (l : Launch) (D : va_G) (cI cB cJ cZ : ClassId) (aK aV : Nat → Nat) (N : Nat) {p : Program} {e : Env} {s : State} {m : MethodId} {below : List Frame} {meth : Method} {c : Code} (q_this : Nat) (x1 : Int32) (post : Int32 → Prop) (C0 : Cx p s m meth c ([.ref q_this, .int x1] : List Value).toArray cX2_alikeTo 4 yX2_alikeTo.cls yX2_alikeTo.name (some .int) wsX2_alikeTo D cI cB cJ cZ aK aV (fun _ => False)) (q_people : Nat) (q_didWith : Nat) (q_didWithout : Nat) (q_conditions : Nat) (size : Int32) (people : Nat → Int32) (didWith : Nat → Int32) (didWithout : Nat → Int32) (ke4 : Int32 → Int32 → Prop) (hke4 : ∀ (i1_ : Int32) (i2_ : Int32), ke4 i1_ i2_ → ∀ ls : Array Slot, lv_has ls 4 [(2, .int i1_)] → W p l e { frames := 1, cells := 0, slots := 0, locals := 22 } s m ([.ref q_this, .int x1] : List Value).toArray below meth c s.heap [] 0 0 (MQ below (vp_Si post) ([.ref q_this, .int x1] : List Value).toArray s 0 0 (fun _ => False)) (F0 m 35 ls [])) (hP : va_P D vwCl [(q_this, .inr (2, [.ref q_people, .ref q_didWith, .ref q_didWithout, .ref q_conditions, .int size])), (q_people, .inl (cI, 12, .inl people)), (q_didWith, .inl (cI, 12, .inl didWith)), (q_didWithout, .inl (cI, 12, .inl didWithout))] s.heap) : ∀ (n_ : Nat) (i1 : Int32) (i2 : Int32), f_X2_alikeTo_L4 N size people didWith didWithout x1 ke4 n_ i1 i2 → ∀ ls : Array Slot, lv_has ls 4 [(0, .ref q_this), (1, .int x1), (2, .int i1), (3, .int i2)] → W p l e { frames := 1, cells := 0, slots := 0, locals := 22 } s m ([.ref q_this, .int x1] : List Value).toArray below meth c s.heap [] 0 0 (MQ below (vp_Si post) ([.ref q_this, .int x1] : List Value).toArray s 0 0 (fun _ => False)) (F0 m 4 ls []) := by
  intro n_
  induction n_ with
  | zero => intro i1 i2 h; exact h.elim
  | succ n_ ih =>
    intro i1 i2 h ls hl
    exact w_X2_alikeTo_B4 l D cI cB cJ cZ aK aV N q_this x1 post C0 q_people q_didWith q_didWithout q_conditions size people didWith didWithout (f_X2_alikeTo_L4 N size people didWith didWithout x1 ke4 n_) ih ke4 hke4 i1 i2 h hP ls hl
set_option maxHeartbeats 4000000 in
set_option maxRecDepth 100000 in
theorem c_X2_alikeTo (l : Launch) (D : va_G) (cI cB cJ cZ : ClassId) (aK aV : Nat → Nat) (N : Nat) (q_this : Nat) (q_people : Nat) (q_didWith : Nat) (q_didWithout : Nat) (q_conditions : Nat) (size : Int32) (people : Nat → Int32) (didWith : Nat → Int32) (didWithout : Nat → Int32) (x1 : Int32) {post : Int32 → Prop} (h : f_X2_alikeTo N size people didWith didWithout x1 post) : Met l yX2_alikeTo wsX2_alikeTo { frames := 1, cells := 0, slots := 0, locals := 22 } (PR D cI cB cJ cZ aK aV [.ref q_this, .int x1] [(q_this, .inr (2, [.ref q_people, .ref q_didWith, .ref q_didWithout, .ref q_conditions, .int size])), (q_people, .inl (cI, 12, .inl people)), (q_didWith, .inl (cI, 12, .inl didWith)), (q_didWithout, .inl (cI, 12, .inl didWithout))]) (vp_Si post) 0 0 (fun _ => False) := by
  refine ro_enter (cc := cX2_alikeTo) (maxL := 4) (ret := (some .int)) (by decide) rfl (Nat.le_of_ble_eq_true rfl) ?_
  intro p e s m below meth c C0 hP ls hl
  have hl : lv_has ls 4 [(0, .ref q_this), (1, .int x1)] := hl
  unfold f_X2_alikeTo at h
  obtain ⟨hx, hb, hr, hml, hown, hts, hE, hlk, hnm⟩ := id C0
  have ik2 : ∀ w ∈ u_ws RX2 TX2 5, w ∈ wsX2_alikeTo := by decide +kernel
  refine lv_iconst (v := 0) hx hb dX2_alikeTo_0 (by decide) ?_
  refine lv_istore_n (lv' := [(2, .int 0), (0, .ref q_this), (1, .int x1)]) hx hb dX2_alikeTo_1 rfl hl (by decide) rfl (fun ls hl => ?_)
  refine lv_iconst (v := 0) hx hb dX2_alikeTo_2 (by decide) ?_
  refine lv_istore_n (lv' := [(3, .int 0), (2, .int 0), (0, .ref q_this), (1, .int x1)]) hx hb dX2_alikeTo_3 rfl hl (by decide) rfl (fun ls hl => ?_)
  refine w_X2_alikeTo_L4 l D cI cB cJ cZ aK aV N q_this x1 post C0 q_people q_didWith q_didWithout q_conditions size people didWith didWithout _ (fun o7 o8 h ls hl => ?_) hP N 0 0 h ls (lv_sub hl [2, 3, 1, 0] rfl)
  refine lv_iload_n hx hb dX2_alikeTo_35 rfl (lv_at hl 0 rfl) ?_
  exact ro_iret hx hb hr hlk h dX2_alikeTo_36
set_option maxHeartbeats 4000000 in
set_option maxRecDepth 100000 in
theorem w_X2_alikePairs_B4 (l : Launch) (D : va_G) (cI cB cJ cZ : ClassId) (aK aV : Nat → Nat) (N : Nat) {p : Program} {e : Env} {s : State} {m : MethodId} {below : List Frame} {meth : Method} {c : Code} (q_this : Nat) (post : Int32 → Prop) (C0 : Cx p s m meth c ([.ref q_this] : List Value).toArray cX2_alikePairs 3 yX2_alikePairs.cls yX2_alikePairs.name (some .int) wsX2_alikePairs D cI cB cJ cZ aK aV (fun _ => False)) (q_people : Nat) (q_didWith : Nat) (q_didWithout : Nat) (q_conditions : Nat) (size : Int32) (people : Nat → Int32) (didWith : Nat → Int32) (didWithout : Nat → Int32) (kb4 : Int32 → Int32 → Prop) (hkb4 : ∀ (i1_ : Int32) (i2_ : Int32), kb4 i1_ i2_ → ∀ ls : Array Slot, lv_has ls 3 [(0, .ref q_this), (1, .int i1_), (2, .int i2_)] → W p l e { frames := 2, cells := 0, slots := 0, locals := 45 } s m ([.ref q_this] : List Value).toArray below meth c s.heap [] 0 0 (MQ below (vp_Si post) ([.ref q_this] : List Value).toArray s 0 0 (fun _ => False)) (F0 m 4 ls [])) (ke4 : Int32 → Int32 → Prop) (hke4 : ∀ (i1_ : Int32) (i2_ : Int32), ke4 i1_ i2_ → ∀ ls : Array Slot, lv_has ls 3 [(1, .int i1_)] → W p l e { frames := 2, cells := 0, slots := 0, locals := 45 } s m ([.ref q_this] : List Value).toArray below meth c s.heap [] 0 0 (MQ below (vp_Si post) ([.ref q_this] : List Value).toArray s 0 0 (fun _ => False)) (F0 m 28 ls [])) (i1 : Int32) (i2 : Int32) (h : f_X2_alikePairs_B4 N size people didWith didWithout kb4 ke4 i1 i2) (hP : va_P D vwCl [(q_this, .inr (2, [.ref q_people, .ref q_didWith, .ref q_didWithout, .ref q_conditions, .int size])), (q_people, .inl (cI, 12, .inl people)), (q_didWith, .inl (cI, 12, .inl didWith)), (q_didWithout, .inl (cI, 12, .inl didWithout))] s.heap) (ls : Array Slot) (hl : lv_has ls 3 [(0, .ref q_this), (1, .int i1), (2, .int i2)]) : W p l e { frames := 2, cells := 0, slots := 0, locals := 45 } s m ([.ref q_this] : List Value).toArray below meth c s.heap [] 0 0 (MQ below (vp_Si post) ([.ref q_this] : List Value).toArray s 0 0 (fun _ => False)) (F0 m 4 ls []) := by
  obtain ⟨hx, hb, hr, hml, hown, hts, hE, hlk, hnm⟩ := id C0
  have ik2 : ∀ w ∈ u_ws RX2 TX2 5, w ∈ wsX2_alikePairs := by decide +kernel
  unfold f_X2_alikePairs_B4 at h
  refine lv_iload_n hx hb dX2_alikePairs_4 rfl (lv_at hl 2 rfl) ?_
  refine lv_aload_n hx hb dX2_alikePairs_5 rfl (lv_at hl 0 rfl) ?_
  refine va_get (D := D) (ci := 2) (v := .int size) (C := RX2) (T := TX2) (N := 5) hx hb hts ik2 hown hE.1.1 hP 0 rfl rfl 4 (by decide) (hts (.fieldLink RX2 24 "FortyHouses$Houses" "size" "I") (by decide +kernel)) (fun _ h9 => h9) rfl dX2_alikePairs_6 ?_
  refine lv_icmp_ge (tgt := 28) hx hb dX2_alikePairs_9 (by decide) (fun c1 => ?_) (fun c1 => ?_)
  · have h := ite_t c1 h
    exact hke4 i1 i2 h ls (lv_sub hl [1] rfl)
  · have h := ite_f c1 h
    refine lv_iload_n hx hb dX2_alikePairs_12 rfl (lv_at hl 1 rfl) ?_
    refine lv_aload_n hx hb dX2_alikePairs_13 rfl (lv_at hl 0 rfl) ?_
    refine lv_iload_n hx hb dX2_alikePairs_14 rfl (lv_at hl 2 rfl) ?_
    refine ro_Vi (C := RX2) (As := [.int i2]) (rest := [.int i1]) ⟨hx, hb, hml, hown, hts⟩ hE va_S.rf hP [0, 1, 2, 3] (c_X2_alikeTo l D cI cB cJ cZ aK aV N q_this q_people q_didWith q_didWithout q_conditions size people didWith didWithout i2 h) (cwV 1 hts gX2_alikePairs_X2_alikeTo rfl rfl rfl (by decide +kernel) ⟨(Nat.le_of_ble_eq_true rfl), (Nat.le_of_ble_eq_true rfl)⟩) rfl 0 rfl rfl rfl hl.1 rfl (Nat.le_of_ble_eq_true rfl) dX2_alikePairs_15 ⟨Nat.zero_le _, Nat.zero_le _⟩ (fun r3 h => ?_)
    refine lv_iconst (v := 1) hx hb dX2_alikePairs_18 (by decide) ?_
    refine lv_isub hx hb dX2_alikePairs_19 ?_
    refine lv_iadd hx hb dX2_alikePairs_20 ?_
    refine lv_topi (fun v4 ex => ?_)
    have h := nm_of ex h
    refine lv_istore_n (lv' := [(1, .int v4), (0, .ref q_this), (2, .int i2)]) hx hb dX2_alikePairs_21 rfl hl (by decide) rfl (fun ls hl => ?_)
    obtain ⟨v5, ex⟩ : ∃ y : Int32, y = (i2 + 1) := ⟨_, rfl⟩
    have h := nm_of ex h
    refine lv_iinc (v := v5) (lv' := [(2, .int v5), (1, .int v4), (0, .ref q_this)]) hx hb dX2_alikePairs_22 hl (k := 2) rfl (by rw [ex]; rfl) (by decide) rfl (fun ls hl => ?_)
    refine lv_goto (tgt := 4) hx hb dX2_alikePairs_25 (by decide) ?_
    exact hkb4 v4 v5 h ls (lv_sub hl [2, 1, 0] rfl)
set_option maxHeartbeats 4000000 in
set_option maxRecDepth 100000 in
theorem w_X2_alikePairs_L4 (l : Launch) (D : va_G) (cI cB cJ cZ : ClassId) (aK aV : Nat → Nat) (N : Nat) {p : Program} {e : Env} {s : State} {m : MethodId} {below : List Frame} {meth : Method} {c : Code} (q_this : Nat) (post : Int32 → Prop) (C0 : Cx p s m meth c ([.ref q_this] : List Value).toArray cX2_alikePairs 3 yX2_alikePairs.cls yX2_alikePairs.name (some .int) wsX2_alikePairs D cI cB cJ cZ aK aV (fun _ => False)) (q_people : Nat) (q_didWith : Nat) (q_didWithout : Nat) (q_conditions : Nat) (size : Int32) (people : Nat → Int32) (didWith : Nat → Int32) (didWithout : Nat → Int32) (ke4 : Int32 → Int32 → Prop) (hke4 : ∀ (i1_ : Int32) (i2_ : Int32), ke4 i1_ i2_ → ∀ ls : Array Slot, lv_has ls 3 [(1, .int i1_)] → W p l e { frames := 2, cells := 0, slots := 0, locals := 45 } s m ([.ref q_this] : List Value).toArray below meth c s.heap [] 0 0 (MQ below (vp_Si post) ([.ref q_this] : List Value).toArray s 0 0 (fun _ => False)) (F0 m 28 ls [])) (hP : va_P D vwCl [(q_this, .inr (2, [.ref q_people, .ref q_didWith, .ref q_didWithout, .ref q_conditions, .int size])), (q_people, .inl (cI, 12, .inl people)), (q_didWith, .inl (cI, 12, .inl didWith)), (q_didWithout, .inl (cI, 12, .inl didWithout))] s.heap) : ∀ (n_ : Nat) (i1 : Int32) (i2 : Int32), f_X2_alikePairs_L4 N size people didWith didWithout ke4 n_ i1 i2 → ∀ ls : Array Slot, lv_has ls 3 [(0, .ref q_this), (1, .int i1), (2, .int i2)] → W p l e { frames := 2, cells := 0, slots := 0, locals := 45 } s m ([.ref q_this] : List Value).toArray below meth c s.heap [] 0 0 (MQ below (vp_Si post) ([.ref q_this] : List Value).toArray s 0 0 (fun _ => False)) (F0 m 4 ls []) := by
  intro n_
  induction n_ with
  | zero => intro i1 i2 h; exact h.elim
  | succ n_ ih =>
    intro i1 i2 h ls hl
    exact w_X2_alikePairs_B4 l D cI cB cJ cZ aK aV N q_this post C0 q_people q_didWith q_didWithout q_conditions size people didWith didWithout (f_X2_alikePairs_L4 N size people didWith didWithout ke4 n_) ih ke4 hke4 i1 i2 h hP ls hl
set_option maxHeartbeats 4000000 in
set_option maxRecDepth 100000 in
theorem c_X2_alikePairs (l : Launch) (D : va_G) (cI cB cJ cZ : ClassId) (aK aV : Nat → Nat) (N : Nat) (q_this : Nat) (q_people : Nat) (q_didWith : Nat) (q_didWithout : Nat) (q_conditions : Nat) (size : Int32) (people : Nat → Int32) (didWith : Nat → Int32) (didWithout : Nat → Int32) {post : Int32 → Prop} (h : f_X2_alikePairs N size people didWith didWithout post) : Met l yX2_alikePairs wsX2_alikePairs { frames := 2, cells := 0, slots := 0, locals := 45 } (PR D cI cB cJ cZ aK aV [.ref q_this] [(q_this, .inr (2, [.ref q_people, .ref q_didWith, .ref q_didWithout, .ref q_conditions, .int size])), (q_people, .inl (cI, 12, .inl people)), (q_didWith, .inl (cI, 12, .inl didWith)), (q_didWithout, .inl (cI, 12, .inl didWithout))]) (vp_Si post) 0 0 (fun _ => False) := by
  refine ro_enter (cc := cX2_alikePairs) (maxL := 3) (ret := (some .int)) (by decide) rfl (Nat.le_of_ble_eq_true rfl) ?_
  intro p e s m below meth c C0 hP ls hl
  have hl : lv_has ls 3 [(0, .ref q_this)] := hl
  unfold f_X2_alikePairs at h
  obtain ⟨hx, hb, hr, hml, hown, hts, hE, hlk, hnm⟩ := id C0
  have ik2 : ∀ w ∈ u_ws RX2 TX2 5, w ∈ wsX2_alikePairs := by decide +kernel
  refine lv_iconst (v := 0) hx hb dX2_alikePairs_0 (by decide) ?_
  refine lv_istore_n (lv' := [(1, .int 0), (0, .ref q_this)]) hx hb dX2_alikePairs_1 rfl hl (by decide) rfl (fun ls hl => ?_)
  refine lv_iconst (v := 0) hx hb dX2_alikePairs_2 (by decide) ?_
  refine lv_istore_n (lv' := [(2, .int 0), (1, .int 0), (0, .ref q_this)]) hx hb dX2_alikePairs_3 rfl hl (by decide) rfl (fun ls hl => ?_)
  refine w_X2_alikePairs_L4 l D cI cB cJ cZ aK aV N q_this post C0 q_people q_didWith q_didWithout q_conditions size people didWith didWithout _ (fun o6 o7 h ls hl => ?_) hP N 0 0 h ls (lv_sub hl [2, 1, 0] rfl)
  refine lv_iload_n hx hb dX2_alikePairs_28 rfl (lv_at hl 0 rfl) ?_
  refine lv_iconst (v := 2) hx hb dX2_alikePairs_29 (by decide) ?_
  refine lv_idiv hx hb dX2_alikePairs_30 (by decide) ?_
  exact ro_iret hx hb hr hlk h dX2_alikePairs_31
set_option maxHeartbeats 4000000 in
set_option maxRecDepth 100000 in
theorem w_X5_choose_B16 (l : Launch) (D : va_G) (cI cB cJ cZ : ClassId) (aK aV : Nat → Nat) (N : Nat) {p : Program} {e : Env} {s : State} {m : MethodId} {below : List Frame} {meth : Method} {c : Code} (x1 : Int32) (x2 : Int32) (post : Int64 → Prop) (C0 : Cx p s m meth c ([.int x1, .int x2] : List Value).toArray cX5_choose 5 yX5_choose.cls yX5_choose.name (some .long) wsX5_choose D cI cB cJ cZ aK aV (fun _ => False))  (kb16 : Int64 → Int32 → Prop) (hkb16 : ∀ (i1_ : Int64) (i2_ : Int32), kb16 i1_ i2_ → ∀ ls : Array Slot, lv_has ls 5 [(0, .int x1), (1, .int x2), (2, .long i1_), (4, .int i2_)] → W p l e { frames := 0, cells := 0, slots := 0, locals := 0 } s m ([.int x1, .int x2] : List Value).toArray below meth c s.heap [] 0 0 (MQ below (vp_Sl post) ([.int x1, .int x2] : List Value).toArray s 0 0 (fun _ => False)) (F0 m 16 ls [])) (ke16 : Int64 → Int32 → Prop) (hke16 : ∀ (i1_ : Int64) (i2_ : Int32), ke16 i1_ i2_ → ∀ ls : Array Slot, lv_has ls 5 [(2, .long i1_)] → W p l e { frames := 0, cells := 0, slots := 0, locals := 0 } s m ([.int x1, .int x2] : List Value).toArray below meth c s.heap [] 0 0 (MQ below (vp_Sl post) ([.int x1, .int x2] : List Value).toArray s 0 0 (fun _ => False)) (F0 m 42 ls [])) (i1 : Int64) (i2 : Int32) (h : f_X5_choose_B16 N x1 x2 kb16 ke16 i1 i2) (hP : va_P D vwCl [] s.heap) (ls : Array Slot) (hl : lv_has ls 5 [(0, .int x1), (1, .int x2), (2, .long i1), (4, .int i2)]) : W p l e { frames := 0, cells := 0, slots := 0, locals := 0 } s m ([.int x1, .int x2] : List Value).toArray below meth c s.heap [] 0 0 (MQ below (vp_Sl post) ([.int x1, .int x2] : List Value).toArray s 0 0 (fun _ => False)) (F0 m 16 ls []) := by
  obtain ⟨hx, hb, hr, hml, hown, hts, hE, hlk, hnm⟩ := id C0
  unfold f_X5_choose_B16 at h
  refine lv_iload hx hb dX5_choose_16 (lv_at hl 3 rfl) ?_
  refine lv_iload_n hx hb dX5_choose_18 rfl (lv_at hl 1 rfl) ?_
  refine lv_icmp_gt (tgt := 42) hx hb dX5_choose_19 (by decide) (fun c1 => ?_) (fun c1 => ?_)
  · have h := ite_t c1 h
    exact hke16 i1 i2 h ls (lv_sub hl [2] rfl)
  · have h := ite_f c1 h
    refine lv_lload_n hx hb dX5_choose_22 rfl (lv_at hl 2 rfl) ?_
    refine lv_iload_n hx hb dX5_choose_23 rfl (lv_at hl 0 rfl) ?_
    refine lv_iload_n hx hb dX5_choose_24 rfl (lv_at hl 1 rfl) ?_
    refine lv_isub hx hb dX5_choose_25 ?_
    refine lv_iload hx hb dX5_choose_26 (lv_at hl 3 rfl) ?_
    refine lv_iadd hx hb dX5_choose_28 ?_
    refine lv_i2l (v := ((x1 - x2) + i2).toInt64) hx hb dX5_choose_29 rfl ?_
    refine lv_lmul hx hb dX5_choose_30 ?_
    refine lv_iload hx hb dX5_choose_31 (lv_at hl 3 rfl) ?_
    refine lv_i2l (v := i2.toInt64) hx hb dX5_choose_33 rfl ?_
    obtain ⟨hne, h⟩ := h
    refine lv_ldiv hx hb dX5_choose_34 hne ?_
    refine lv_topl (fun v3 ex => ?_)
    have h := nm_of ex h
    refine lv_lstore_n (lv' := [(2, .long v3), (0, .int x1), (1, .int x2), (4, .int i2)]) hx hb dX5_choose_35 rfl hl (by decide) rfl (fun ls hl => ?_)
    obtain ⟨v4, ex⟩ : ∃ y : Int32, y = (i2 + 1) := ⟨_, rfl⟩
    have h := nm_of ex h
    refine lv_iinc (v := v4) (lv' := [(4, .int v4), (2, .long v3), (0, .int x1), (1, .int x2)]) hx hb dX5_choose_36 hl (k := 3) rfl (by rw [ex]; rfl) (by decide) rfl (fun ls hl => ?_)
    refine lv_goto (tgt := 16) hx hb dX5_choose_39 (by decide) ?_
    exact hkb16 v3 v4 h ls (lv_sub hl [2, 3, 1, 0] rfl)
set_option maxHeartbeats 4000000 in
set_option maxRecDepth 100000 in
theorem w_X5_choose_L16 (l : Launch) (D : va_G) (cI cB cJ cZ : ClassId) (aK aV : Nat → Nat) (N : Nat) {p : Program} {e : Env} {s : State} {m : MethodId} {below : List Frame} {meth : Method} {c : Code} (x1 : Int32) (x2 : Int32) (post : Int64 → Prop) (C0 : Cx p s m meth c ([.int x1, .int x2] : List Value).toArray cX5_choose 5 yX5_choose.cls yX5_choose.name (some .long) wsX5_choose D cI cB cJ cZ aK aV (fun _ => False))  (ke16 : Int64 → Int32 → Prop) (hke16 : ∀ (i1_ : Int64) (i2_ : Int32), ke16 i1_ i2_ → ∀ ls : Array Slot, lv_has ls 5 [(2, .long i1_)] → W p l e { frames := 0, cells := 0, slots := 0, locals := 0 } s m ([.int x1, .int x2] : List Value).toArray below meth c s.heap [] 0 0 (MQ below (vp_Sl post) ([.int x1, .int x2] : List Value).toArray s 0 0 (fun _ => False)) (F0 m 42 ls [])) (hP : va_P D vwCl [] s.heap) : ∀ (n_ : Nat) (i1 : Int64) (i2 : Int32), f_X5_choose_L16 N x1 x2 ke16 n_ i1 i2 → ∀ ls : Array Slot, lv_has ls 5 [(0, .int x1), (1, .int x2), (2, .long i1), (4, .int i2)] → W p l e { frames := 0, cells := 0, slots := 0, locals := 0 } s m ([.int x1, .int x2] : List Value).toArray below meth c s.heap [] 0 0 (MQ below (vp_Sl post) ([.int x1, .int x2] : List Value).toArray s 0 0 (fun _ => False)) (F0 m 16 ls []) := by
  intro n_
  induction n_ with
  | zero => intro i1 i2 h; exact h.elim
  | succ n_ ih =>
    intro i1 i2 h ls hl
    exact w_X5_choose_B16 l D cI cB cJ cZ aK aV N x1 x2 post C0 (f_X5_choose_L16 N x1 x2 ke16 n_) ih ke16 hke16 i1 i2 h hP ls hl
set_option maxHeartbeats 4000000 in
set_option maxRecDepth 100000 in
theorem c_X5_choose (l : Launch) (D : va_G) (cI cB cJ cZ : ClassId) (aK aV : Nat → Nat) (N : Nat) (x1 : Int32) (x2 : Int32) {post : Int64 → Prop} (h : f_X5_choose N x1 x2 post) : Met l yX5_choose wsX5_choose { frames := 0, cells := 0, slots := 0, locals := 0 } (PR D cI cB cJ cZ aK aV [.int x1, .int x2] []) (vp_Sl post) 0 0 (fun _ => False) := by
  refine ro_enter (cc := cX5_choose) (maxL := 5) (ret := (some .long)) (by decide) rfl (Nat.le_of_ble_eq_true rfl) ?_
  intro p e s m below meth c C0 hP ls hl
  have hl : lv_has ls 5 [(0, .int x1), (1, .int x2)] := hl
  unfold f_X5_choose at h
  obtain ⟨hx, hb, hr, hml, hown, hts, hE, hlk, hnm⟩ := id C0
  refine lv_iload_n hx hb dX5_choose_0 rfl (lv_at hl 1 rfl) ?_
  refine lv_if_lt (tgt := 9) hx hb dX5_choose_1 (by decide) (fun c1 => ?_) (fun c1 => ?_)
  · have h := ite_t c1 h
    refine lv_lconst (v := 0) hx hb dX5_choose_9 (by decide) ?_
    exact ro_lret hx hb hr hlk h dX5_choose_10
  · have h := ite_f c1 h
    refine lv_iload_n hx hb dX5_choose_4 rfl (lv_at hl 1 rfl) ?_
    refine lv_iload_n hx hb dX5_choose_5 rfl (lv_at hl 0 rfl) ?_
    refine lv_icmp_le (tgt := 11) hx hb dX5_choose_6 (by decide) (fun c1 => ?_) (fun c1 => ?_)
    · have h := ite_t c1 h
      refine lv_lconst (v := 1) hx hb dX5_choose_11 (by decide) ?_
      refine lv_lstore_n (lv' := [(2, .long 1), (0, .int x1), (1, .int x2)]) hx hb dX5_choose_12 rfl hl (by decide) rfl (fun ls hl => ?_)
      refine lv_iconst (v := 1) hx hb dX5_choose_13 (by decide) ?_
      refine lv_istore (lv' := [(4, .int 1), (2, .long 1), (0, .int x1), (1, .int x2)]) hx hb dX5_choose_14 hl (by decide) rfl (fun ls hl => ?_)
      refine w_X5_choose_L16 l D cI cB cJ cZ aK aV N x1 x2 post C0 _ (fun o5 o6 h ls hl => ?_) hP N 1 1 h ls (lv_sub hl [2, 3, 1, 0] rfl)
      refine lv_lload_n hx hb dX5_choose_42 rfl (lv_at hl 0 rfl) ?_
      exact ro_lret hx hb hr hlk h dX5_choose_43
    · have h := ite_f c1 h
      refine lv_lconst (v := 0) hx hb dX5_choose_9 (by decide) ?_
      exact ro_lret hx hb hr hlk h dX5_choose_10
set_option maxHeartbeats 4000000 in
set_option maxRecDepth 100000 in
theorem c_X2_allWaysOfLuck (l : Launch) (D : va_G) (cI cB cJ cZ : ClassId) (aK aV : Nat → Nat) (N : Nat) (q_this : Nat) (q_people : Nat) (q_didWith : Nat) (q_didWithout : Nat) (q_conditions : Nat) (size : Int32) (people : Nat → Int32) (x1 : Int32) {post : Int32 → Prop} (h : f_X2_allWaysOfLuck N people x1 post) : Met l yX2_allWaysOfLuck wsX2_allWaysOfLuck { frames := 1, cells := 0, slots := 0, locals := 24 } (PR D cI cB cJ cZ aK aV [.ref q_this, .int x1] [(q_this, .inr (2, [.ref q_people, .ref q_didWith, .ref q_didWithout, .ref q_conditions, .int size])), (q_people, .inl (cI, 12, .inl people))]) (vp_Si post) 0 0 (fun _ => False) := by
  refine ro_enter (cc := cX2_allWaysOfLuck) (maxL := 2) (ret := (some .int)) (by decide) rfl (Nat.le_of_ble_eq_true rfl) ?_
  intro p e s m below meth c C0 hP ls hl
  have hl : lv_has ls 2 [(0, .ref q_this), (1, .int x1)] := hl
  unfold f_X2_allWaysOfLuck at h
  obtain ⟨hx, hb, hr, hml, hown, hts, hE, hlk, hnm⟩ := id C0
  have ik2 : ∀ w ∈ u_ws RX2 TX2 5, w ∈ wsX2_allWaysOfLuck := by decide +kernel
  refine lv_iconst (v := 2) hx hb dX2_allWaysOfLuck_0 (by decide) ?_
  refine lv_aload_n hx hb dX2_allWaysOfLuck_1 rfl (lv_at hl 0 rfl) ?_
  refine va_get (D := D) (ci := 2) (v := .ref q_people) (C := RX2) (T := TX2) (N := 5) hx hb hts ik2 hown hE.1.1 hP 0 rfl rfl 0 (by decide) (hts (.fieldLink RX2 11 "FortyHouses$Houses" "people" "[I") (by decide +kernel)) (fun _ h9 => h9) rfl dX2_allWaysOfLuck_2 ?_
  refine lv_iload_n hx hb dX2_allWaysOfLuck_5 rfl (lv_at hl 1 rfl) ?_
  obtain ⟨hin, h⟩ := h
  refine va_iald hx hb hE.1.1 hP 1 0 rfl rfl hin dX2_allWaysOfLuck_6 ?_
  refine lv_imul hx hb dX2_allWaysOfLuck_7 ?_
  refine lv_aload_n hx hb dX2_allWaysOfLuck_8 rfl (lv_at hl 0 rfl) ?_
  refine va_get (D := D) (ci := 2) (v := .ref q_people) (C := RX2) (T := TX2) (N := 5) hx hb hts ik2 hown hE.1.1 hP 0 rfl rfl 0 (by decide) (hts (.fieldLink RX2 11 "FortyHouses$Houses" "people" "[I") (by decide +kernel)) (fun _ h9 => h9) rfl dX2_allWaysOfLuck_9 ?_
  refine lv_iload_n hx hb dX2_allWaysOfLuck_12 rfl (lv_at hl 1 rfl) ?_
  obtain ⟨hin, h⟩ := h
  refine va_iald hx hb hE.1.1 hP 1 0 rfl rfl hin dX2_allWaysOfLuck_13 ?_
  refine ro_SNl (As := [.int (2 * (people x1.toNatClampNeg)), .int (people x1.toNatClampNeg)]) (rest := []) ⟨hx, hb, hml, hown, hts⟩ hE va_S.rf (c_X5_choose l D cI cB cJ cZ aK aV N (2 * (people x1.toNatClampNeg)) (people x1.toNatClampNeg) h) ⟨va_cnB 2 hts gX2_allWaysOfLuck_X5_choose_n49 rfl rfl rfl hE.1.2.1 (hts (.initialized RX5) (by decide +kernel)) (by decide +kernel) ⟨(Nat.le_of_ble_eq_true rfl), (Nat.le_of_ble_eq_true rfl)⟩, hts (.static yX5_choose) (by decide +kernel), trivial⟩ rfl hl.1 rfl (Nat.le_of_ble_eq_true rfl) dX2_allWaysOfLuck_14 ⟨Nat.zero_le _, Nat.zero_le _⟩ (fun r1 h => ?_)
  refine lv_l2i (v := r1.toInt32) hx hb dX2_allWaysOfLuck_17 rfl ?_
  exact ro_iret hx hb hr hlk h dX2_allWaysOfLuck_18
set_option maxHeartbeats 4000000 in
set_option maxRecDepth 100000 in
theorem w_X2_waysOfLuck_B32 (l : Launch) (D : va_G) (cI cB cJ cZ : ClassId) (aK aV : Nat → Nat) (N : Nat) {p : Program} {e : Env} {s : State} {m : MethodId} {below : List Frame} {meth : Method} {c : Code} (q_this : Nat) (x1 : Int32) (post : Int32 → Prop) (C0 : Cx p s m meth c ([.ref q_this, .int x1] : List Value).toArray cX2_waysOfLuck 7 yX2_waysOfLuck.cls yX2_waysOfLuck.name (some .int) wsX2_waysOfLuck D cI cB cJ cZ aK aV (fun _ => False)) (q_people : Nat) (q_didWith : Nat) (q_didWithout : Nat) (q_conditions : Nat) (size : Int32) (people : Nat → Int32) (didWith : Nat → Int32) (didWithout : Nat → Int32) (v1 : Int32) (v2 : Int32) (kb32 : Int64 → Int32 → Prop) (hkb32 : ∀ (i4_ : Int64) (i5_ : Int32), kb32 i4_ i5_ → ∀ ls : Array Slot, lv_has ls 7 [(2, .int v1), (3, .int v2), (4, .long i4_), (6, .int i5_)] → W p l e { frames := 1, cells := 0, slots := 0, locals := 24 } s m ([.ref q_this, .int x1] : List Value).toArray below meth c s.heap [] 0 0 (MQ below (vp_Si post) ([.ref q_this, .int x1] : List Value).toArray s 0 0 (fun _ => False)) (F0 m 32 ls [])) (ke32 : Int64 → Int32 → Prop) (hke32 : ∀ (i4_ : Int64) (i5_ : Int32), ke32 i4_ i5_ → ∀ ls : Array Slot, lv_has ls 7 [(4, .long i4_)] → W p l e { frames := 1, cells := 0, slots := 0, locals := 24 } s m ([.ref q_this, .int x1] : List Value).toArray below meth c s.heap [] 0 0 (MQ below (vp_Si post) ([.ref q_this, .int x1] : List Value).toArray s 0 0 (fun _ => False)) (F0 m 68 ls [])) (i4 : Int64) (i5 : Int32) (h : f_X2_waysOfLuck_B32 N v1 v2 kb32 ke32 i4 i5) (hP : va_P D vwCl [(q_this, .inr (2, [.ref q_people, .ref q_didWith, .ref q_didWithout, .ref q_conditions, .int size])), (q_people, .inl (cI, 12, .inl people)), (q_didWith, .inl (cI, 12, .inl didWith)), (q_didWithout, .inl (cI, 12, .inl didWithout))] s.heap) (ls : Array Slot) (hl : lv_has ls 7 [(2, .int v1), (3, .int v2), (4, .long i4), (6, .int i5)]) : W p l e { frames := 1, cells := 0, slots := 0, locals := 24 } s m ([.ref q_this, .int x1] : List Value).toArray below meth c s.heap [] 0 0 (MQ below (vp_Si post) ([.ref q_this, .int x1] : List Value).toArray s 0 0 (fun _ => False)) (F0 m 32 ls []) := by
  obtain ⟨hx, hb, hr, hml, hown, hts, hE, hlk, hnm⟩ := id C0
  have ik2 : ∀ w ∈ u_ws RX2 TX2 5, w ∈ wsX2_waysOfLuck := by decide +kernel
  unfold f_X2_waysOfLuck_B32 at h
  refine lv_iload hx hb dX2_waysOfLuck_32 (lv_at hl 3 rfl) ?_
  refine lv_iload_n hx hb dX2_waysOfLuck_34 rfl (lv_at hl 0 rfl) ?_
  refine lv_icmp_gt (tgt := 68) hx hb dX2_waysOfLuck_35 (by decide) (fun c1 => ?_) (fun c1 => ?_)
  · have h := ite_t c1 h
    exact hke32 i4 i5 h ls (lv_sub hl [2] rfl)
  · have h := ite_f c1 h
    refine lv_lload hx hb dX2_waysOfLuck_38 (lv_at hl 2 rfl) ?_
    refine lv_iload_n hx hb dX2_waysOfLuck_40 rfl (lv_at hl 1 rfl) ?_
    refine lv_iload hx hb dX2_waysOfLuck_41 (lv_at hl 3 rfl) ?_
    refine ro_SNl (As := [.int v2, .int i5]) (rest := [.long i4]) ⟨hx, hb, hml, hown, hts⟩ hE va_S.rf (c_X5_choose l D cI cB cJ cZ aK aV N v2 i5 h) ⟨va_cnB 2 hts gX2_waysOfLuck_X5_choose_n49 rfl rfl rfl hE.1.2.1 (hts (.initialized RX5) (by decide +kernel)) (by decide +kernel) ⟨(Nat.le_of_ble_eq_true rfl), (Nat.le_of_ble_eq_true rfl)⟩, hts (.static yX5_choose) (by decide +kernel), trivial⟩ rfl hl.1 rfl (Nat.le_of_ble_eq_true rfl) dX2_waysOfLuck_43 ⟨Nat.zero_le _, Nat.zero_le _⟩ (fun r6 h => ?_)
    refine lv_iconst (v := 2) hx hb dX2_waysOfLuck_46 (by decide) ?_
    refine lv_iload_n hx hb dX2_waysOfLuck_47 rfl (lv_at hl 0 rfl) ?_
    refine lv_imul hx hb dX2_waysOfLuck_48 ?_
    refine lv_iload_n hx hb dX2_waysOfLuck_49 rfl (lv_at hl 1 rfl) ?_
    refine lv_isub hx hb dX2_waysOfLuck_50 ?_
    refine lv_iload_n hx hb dX2_waysOfLuck_51 rfl (lv_at hl 0 rfl) ?_
    refine lv_iload hx hb dX2_waysOfLuck_52 (lv_at hl 3 rfl) ?_
    refine lv_isub hx hb dX2_waysOfLuck_54 ?_
    refine ro_SNl (As := [.int ((2 * v1) - v2), .int (v1 - i5)]) (rest := [.long r6, .long i4]) ⟨hx, hb, hml, hown, hts⟩ hE va_S.rf (c_X5_choose l D cI cB cJ cZ aK aV N ((2 * v1) - v2) (v1 - i5) h) ⟨va_cnB 2 hts gX2_waysOfLuck_X5_choose_n49 rfl rfl rfl hE.1.2.1 (hts (.initialized RX5) (by decide +kernel)) (by decide +kernel) ⟨(Nat.le_of_ble_eq_true rfl), (Nat.le_of_ble_eq_true rfl)⟩, hts (.static yX5_choose) (by decide +kernel), trivial⟩ rfl hl.1 rfl (Nat.le_of_ble_eq_true rfl) dX2_waysOfLuck_55 ⟨Nat.zero_le _, Nat.zero_le _⟩ (fun r7 h => ?_)
    refine lv_lmul hx hb dX2_waysOfLuck_58 ?_
    refine lv_ladd hx hb dX2_waysOfLuck_59 ?_
    refine lv_topl (fun v8 ex => ?_)
    have h := nm_of ex h
    refine lv_lstore (lv' := [(4, .long v8), (2, .int v1), (3, .int v2), (6, .int i5)]) hx hb dX2_waysOfLuck_60 hl (by decide) rfl (fun ls hl => ?_)
    obtain ⟨v9, ex⟩ : ∃ y : Int32, y = (i5 + 1) := ⟨_, rfl⟩
    have h := nm_of ex h
    refine lv_iinc (v := v9) (lv' := [(6, .int v9), (4, .long v8), (2, .int v1), (3, .int v2)]) hx hb dX2_waysOfLuck_62 hl (k := 3) rfl (by rw [ex]; rfl) (by decide) rfl (fun ls hl => ?_)
    refine lv_goto (tgt := 32) hx hb dX2_waysOfLuck_65 (by decide) ?_
    exact hkb32 v8 v9 h ls (lv_sub hl [2, 3, 1, 0] rfl)
set_option maxHeartbeats 4000000 in
set_option maxRecDepth 100000 in
theorem w_X2_waysOfLuck_L32 (l : Launch) (D : va_G) (cI cB cJ cZ : ClassId) (aK aV : Nat → Nat) (N : Nat) {p : Program} {e : Env} {s : State} {m : MethodId} {below : List Frame} {meth : Method} {c : Code} (q_this : Nat) (x1 : Int32) (post : Int32 → Prop) (C0 : Cx p s m meth c ([.ref q_this, .int x1] : List Value).toArray cX2_waysOfLuck 7 yX2_waysOfLuck.cls yX2_waysOfLuck.name (some .int) wsX2_waysOfLuck D cI cB cJ cZ aK aV (fun _ => False)) (q_people : Nat) (q_didWith : Nat) (q_didWithout : Nat) (q_conditions : Nat) (size : Int32) (people : Nat → Int32) (didWith : Nat → Int32) (didWithout : Nat → Int32) (v1 : Int32) (v2 : Int32) (ke32 : Int64 → Int32 → Prop) (hke32 : ∀ (i4_ : Int64) (i5_ : Int32), ke32 i4_ i5_ → ∀ ls : Array Slot, lv_has ls 7 [(4, .long i4_)] → W p l e { frames := 1, cells := 0, slots := 0, locals := 24 } s m ([.ref q_this, .int x1] : List Value).toArray below meth c s.heap [] 0 0 (MQ below (vp_Si post) ([.ref q_this, .int x1] : List Value).toArray s 0 0 (fun _ => False)) (F0 m 68 ls [])) (hP : va_P D vwCl [(q_this, .inr (2, [.ref q_people, .ref q_didWith, .ref q_didWithout, .ref q_conditions, .int size])), (q_people, .inl (cI, 12, .inl people)), (q_didWith, .inl (cI, 12, .inl didWith)), (q_didWithout, .inl (cI, 12, .inl didWithout))] s.heap) : ∀ (n_ : Nat) (i4 : Int64) (i5 : Int32), f_X2_waysOfLuck_L32 N v1 v2 ke32 n_ i4 i5 → ∀ ls : Array Slot, lv_has ls 7 [(2, .int v1), (3, .int v2), (4, .long i4), (6, .int i5)] → W p l e { frames := 1, cells := 0, slots := 0, locals := 24 } s m ([.ref q_this, .int x1] : List Value).toArray below meth c s.heap [] 0 0 (MQ below (vp_Si post) ([.ref q_this, .int x1] : List Value).toArray s 0 0 (fun _ => False)) (F0 m 32 ls []) := by
  intro n_
  induction n_ with
  | zero => intro i4 i5 h; exact h.elim
  | succ n_ ih =>
    intro i4 i5 h ls hl
    exact w_X2_waysOfLuck_B32 l D cI cB cJ cZ aK aV N q_this x1 post C0 q_people q_didWith q_didWithout q_conditions size people didWith didWithout v1 v2 (f_X2_waysOfLuck_L32 N v1 v2 ke32 n_) ih ke32 hke32 i4 i5 h hP ls hl
set_option maxHeartbeats 4000000 in
set_option maxRecDepth 100000 in
theorem c_X2_waysOfLuck (l : Launch) (D : va_G) (cI cB cJ cZ : ClassId) (aK aV : Nat → Nat) (N : Nat) (q_this : Nat) (q_people : Nat) (q_didWith : Nat) (q_didWithout : Nat) (q_conditions : Nat) (size : Int32) (people : Nat → Int32) (didWith : Nat → Int32) (didWithout : Nat → Int32) (x1 : Int32) {post : Int32 → Prop} (h : f_X2_waysOfLuck N people didWith didWithout x1 post) : Met l yX2_waysOfLuck wsX2_waysOfLuck { frames := 1, cells := 0, slots := 0, locals := 24 } (PR D cI cB cJ cZ aK aV [.ref q_this, .int x1] [(q_this, .inr (2, [.ref q_people, .ref q_didWith, .ref q_didWithout, .ref q_conditions, .int size])), (q_people, .inl (cI, 12, .inl people)), (q_didWith, .inl (cI, 12, .inl didWith)), (q_didWithout, .inl (cI, 12, .inl didWithout))]) (vp_Si post) 0 0 (fun _ => False) := by
  refine ro_enter (cc := cX2_waysOfLuck) (maxL := 7) (ret := (some .int)) (by decide) rfl (Nat.le_of_ble_eq_true rfl) ?_
  intro p e s m below meth c C0 hP ls hl
  have hl : lv_has ls 7 [(0, .ref q_this), (1, .int x1)] := hl
  unfold f_X2_waysOfLuck at h
  obtain ⟨hx, hb, hr, hml, hown, hts, hE, hlk, hnm⟩ := id C0
  have ik2 : ∀ w ∈ u_ws RX2 TX2 5, w ∈ wsX2_waysOfLuck := by decide +kernel
  refine lv_aload_n hx hb dX2_waysOfLuck_0 rfl (lv_at hl 0 rfl) ?_
  refine va_get (D := D) (ci := 2) (v := .ref q_people) (C := RX2) (T := TX2) (N := 5) hx hb hts ik2 hown hE.1.1 hP 0 rfl rfl 0 (by decide) (hts (.fieldLink RX2 11 "FortyHouses$Houses" "people" "[I") (by decide +kernel)) (fun _ h9 => h9) rfl dX2_waysOfLuck_1 ?_
  refine lv_iload_n hx hb dX2_waysOfLuck_4 rfl (lv_at hl 1 rfl) ?_
  obtain ⟨hin, h⟩ := h
  refine va_iald hx hb hE.1.1 hP 1 0 rfl rfl hin dX2_waysOfLuck_5 ?_
  refine lv_topi (fun v1 ex => ?_)
  have h := nm_of ex h
  refine lv_istore_n (lv' := [(2, .int v1), (0, .ref q_this), (1, .int x1)]) hx hb dX2_waysOfLuck_6 rfl hl (by decide) rfl (fun ls hl => ?_)
  refine lv_aload_n hx hb dX2_waysOfLuck_7 rfl (lv_at hl 1 rfl) ?_
  refine va_get (D := D) (ci := 2) (v := .ref q_didWith) (C := RX2) (T := TX2) (N := 5) hx hb hts ik2 hown hE.1.1 hP 0 rfl rfl 1 (by decide) (hts (.fieldLink RX2 15 "FortyHouses$Houses" "didWith" "[I") (by decide +kernel)) (fun _ h9 => h9) rfl dX2_waysOfLuck_8 ?_
  refine lv_iload_n hx hb dX2_waysOfLuck_11 rfl (lv_at hl 2 rfl) ?_
  obtain ⟨hin, h⟩ := h
  refine va_iald hx hb hE.1.1 hP 2 0 rfl rfl hin dX2_waysOfLuck_12 ?_
  refine lv_aload_n hx hb dX2_waysOfLuck_13 rfl (lv_at hl 1 rfl) ?_
  refine va_get (D := D) (ci := 2) (v := .ref q_didWithout) (C := RX2) (T := TX2) (N := 5) hx hb hts ik2 hown hE.1.1 hP 0 rfl rfl 2 (by decide) (hts (.fieldLink RX2 18 "FortyHouses$Houses" "didWithout" "[I") (by decide +kernel)) (fun _ h9 => h9) rfl dX2_waysOfLuck_14 ?_
  refine lv_iload_n hx hb dX2_waysOfLuck_17 rfl (lv_at hl 2 rfl) ?_
  obtain ⟨hin, h⟩ := h
  refine va_iald hx hb hE.1.1 hP 3 0 rfl rfl hin dX2_waysOfLuck_18 ?_
  refine lv_iadd hx hb dX2_waysOfLuck_19 ?_
  refine lv_topi (fun v2 ex => ?_)
  have h := nm_of ex h
  refine lv_istore_n (lv' := [(3, .int v2), (2, .int v1), (0, .ref q_this), (1, .int x1)]) hx hb dX2_waysOfLuck_20 rfl hl (by decide) rfl (fun ls hl => ?_)
  refine lv_lconst (v := 0) hx hb dX2_waysOfLuck_21 (by decide) ?_
  refine lv_lstore (lv' := [(4, .long 0), (3, .int v2), (2, .int v1), (0, .ref q_this), (1, .int x1)]) hx hb dX2_waysOfLuck_22 hl (by decide) rfl (fun ls hl => ?_)
  refine lv_aload_n hx hb dX2_waysOfLuck_24 rfl (lv_at hl 3 rfl) ?_
  refine va_get (D := D) (ci := 2) (v := .ref q_didWith) (C := RX2) (T := TX2) (N := 5) hx hb hts ik2 hown hE.1.1 hP 0 rfl rfl 1 (by decide) (hts (.fieldLink RX2 15 "FortyHouses$Houses" "didWith" "[I") (by decide +kernel)) (fun _ h9 => h9) rfl dX2_waysOfLuck_25 ?_
  refine lv_iload_n hx hb dX2_waysOfLuck_28 rfl (lv_at hl 4 rfl) ?_
  obtain ⟨hin, h⟩ := h
  refine va_iald hx hb hE.1.1 hP 2 0 rfl rfl hin dX2_waysOfLuck_29 ?_
  refine lv_topi (fun v3 ex => ?_)
  have h := nm_of ex h
  refine lv_istore (lv' := [(6, .int v3), (4, .long 0), (3, .int v2), (2, .int v1), (0, .ref q_this), (1, .int x1)]) hx hb dX2_waysOfLuck_30 hl (by decide) rfl (fun ls hl => ?_)
  refine w_X2_waysOfLuck_L32 l D cI cB cJ cZ aK aV N q_this x1 post C0 q_people q_didWith q_didWithout q_conditions size people didWith didWithout v1 v2 _ (fun o10 o11 h ls hl => ?_) hP N 0 v3 h ls (lv_sub hl [3, 2, 1, 0] rfl)
  refine lv_lload hx hb dX2_waysOfLuck_68 (lv_at hl 0 rfl) ?_
  refine lv_l2i (v := o10.toInt32) hx hb dX2_waysOfLuck_70 rfl ?_
  exact ro_iret hx hb hr hlk h dX2_waysOfLuck_71
set_option maxHeartbeats 4000000 in
set_option maxRecDepth 100000 in
theorem w_X2_leftOut_J108 (l : Launch) (D : va_G) (cI cB cJ cZ : ClassId) (aK aV : Nat → Nat) (N : Nat) {p : Program} {e : Env} {s : State} {m : MethodId} {below : List Frame} {meth : Method} {c : Code} (q_this : Nat) (post : Int32 → Prop) (C0 : Cx p s m meth c ([.ref q_this] : List Value).toArray cX2_leftOut 14 yX2_leftOut.cls yX2_leftOut.name (some .int) wsX2_leftOut D cI cB cJ cZ aK aV (fun _ => False)) (q_people : Nat) (q_didWith : Nat) (q_didWithout : Nat) (q_conditions : Nat) (size : Int32) (people : Nat → Int32) (didWith : Nat → Int32) (didWithout : Nat → Int32) (r2 : Int32) (r4 : Int32) (i8 : Int32) (kb31 : Int32 → Int64 → Int64 → Int32 → Prop) (hkb31 : ∀ (i5_ : Int32) (i6_ : Int64) (i7_ : Int64) (i8_ : Int32), kb31 i5_ i6_ i7_ i8_ → ∀ ls : Array Slot, lv_has ls 14 [(0, .ref q_this), (1, .int r2), (2, .int r4), (3, .int i5_), (4, .long i6_), (6, .long i7_), (8, .int i8_)] → W p l e { frames := 1, cells := 0, slots := 0, locals := 23 } s m ([.ref q_this] : List Value).toArray below meth c s.heap [] 0 0 (MQ below (vp_Si post) ([.ref q_this] : List Value).toArray s 0 0 (fun _ => False)) (F0 m 31 ls [])) (j15 : Int32) (j16 : Int64) (j17 : Int64) (h : f_X2_leftOut_J108 N i8 kb31 j15 j16 j17) (hP : va_P D vwCl [(q_this, .inr (2, [.ref q_people, .ref q_didWith, .ref q_didWithout, .ref q_conditions, .int size])), (q_people, .inl (cI, 12, .inl people)), (q_didWith, .inl (cI, 12, .inl didWith)), (q_didWithout, .inl (cI, 12, .inl didWithout))] s.heap) (ls : Array Slot) (hl : lv_has ls 14 [(0, .ref q_this), (1, .int r2), (2, .int r4), (3, .int j15), (4, .long j16), (6, .long j17), (8, .int i8)]) : W p l e { frames := 1, cells := 0, slots := 0, locals := 23 } s m ([.ref q_this] : List Value).toArray below meth c s.heap [] 0 0 (MQ below (vp_Si post) ([.ref q_this] : List Value).toArray s 0 0 (fun _ => False)) (F0 m 108 ls []) := by
  obtain ⟨hx, hb, hr, hml, hown, hts, hE, hlk, hnm⟩ := id C0
  have ik2 : ∀ w ∈ u_ws RX2 TX2 5, w ∈ wsX2_leftOut := by decide +kernel
  unfold f_X2_leftOut_J108 at h
  obtain ⟨v18, ex⟩ : ∃ y : Int32, y = (i8 + 1) := ⟨_, rfl⟩
  have h := nm_of ex h
  refine lv_iinc (v := v18) (lv' := [(8, .int v18), (0, .ref q_this), (1, .int r2), (2, .int r4), (3, .int j15), (4, .long j16), (6, .long j17)]) hx hb dX2_leftOut_108 hl (k := 6) rfl (by rw [ex]; rfl) (by decide) rfl (fun ls hl => ?_)
  refine lv_goto (tgt := 31) hx hb dX2_leftOut_111 (by decide) ?_
  exact hkb31 j15 j16 j17 v18 h ls (lv_sub hl [1, 2, 3, 4, 5, 6, 0] rfl)
set_option maxHeartbeats 4000000 in
set_option maxRecDepth 100000 in
theorem w_X2_leftOut_B31 (l : Launch) (D : va_G) (cI cB cJ cZ : ClassId) (aK aV : Nat → Nat) (N : Nat) {p : Program} {e : Env} {s : State} {m : MethodId} {below : List Frame} {meth : Method} {c : Code} (q_this : Nat) (post : Int32 → Prop) (C0 : Cx p s m meth c ([.ref q_this] : List Value).toArray cX2_leftOut 14 yX2_leftOut.cls yX2_leftOut.name (some .int) wsX2_leftOut D cI cB cJ cZ aK aV (fun _ => False)) (q_people : Nat) (q_didWith : Nat) (q_didWithout : Nat) (q_conditions : Nat) (size : Int32) (people : Nat → Int32) (didWith : Nat → Int32) (didWithout : Nat → Int32) (r2 : Int32) (r4 : Int32) (kb31 : Int32 → Int64 → Int64 → Int32 → Prop) (hkb31 : ∀ (i5_ : Int32) (i6_ : Int64) (i7_ : Int64) (i8_ : Int32), kb31 i5_ i6_ i7_ i8_ → ∀ ls : Array Slot, lv_has ls 14 [(0, .ref q_this), (1, .int r2), (2, .int r4), (3, .int i5_), (4, .long i6_), (6, .long i7_), (8, .int i8_)] → W p l e { frames := 1, cells := 0, slots := 0, locals := 23 } s m ([.ref q_this] : List Value).toArray below meth c s.heap [] 0 0 (MQ below (vp_Si post) ([.ref q_this] : List Value).toArray s 0 0 (fun _ => False)) (F0 m 31 ls [])) (ke31 : Int32 → Int64 → Int64 → Int32 → Prop) (hke31 : ∀ (i5_ : Int32) (i6_ : Int64) (i7_ : Int64) (i8_ : Int32), ke31 i5_ i6_ i7_ i8_ → ∀ ls : Array Slot, lv_has ls 14 [(3, .int i5_)] → W p l e { frames := 1, cells := 0, slots := 0, locals := 23 } s m ([.ref q_this] : List Value).toArray below meth c s.heap [] 0 0 (MQ below (vp_Si post) ([.ref q_this] : List Value).toArray s 0 0 (fun _ => False)) (F0 m 114 ls [])) (i5 : Int32) (i6 : Int64) (i7 : Int64) (i8 : Int32) (h : f_X2_leftOut_B31 N size people didWith didWithout r2 r4 kb31 ke31 i5 i6 i7 i8) (hP : va_P D vwCl [(q_this, .inr (2, [.ref q_people, .ref q_didWith, .ref q_didWithout, .ref q_conditions, .int size])), (q_people, .inl (cI, 12, .inl people)), (q_didWith, .inl (cI, 12, .inl didWith)), (q_didWithout, .inl (cI, 12, .inl didWithout))] s.heap) (ls : Array Slot) (hl : lv_has ls 14 [(0, .ref q_this), (1, .int r2), (2, .int r4), (3, .int i5), (4, .long i6), (6, .long i7), (8, .int i8)]) : W p l e { frames := 1, cells := 0, slots := 0, locals := 23 } s m ([.ref q_this] : List Value).toArray below meth c s.heap [] 0 0 (MQ below (vp_Si post) ([.ref q_this] : List Value).toArray s 0 0 (fun _ => False)) (F0 m 31 ls []) := by
  obtain ⟨hx, hb, hr, hml, hown, hts, hE, hlk, hnm⟩ := id C0
  have ik2 : ∀ w ∈ u_ws RX2 TX2 5, w ∈ wsX2_leftOut := by decide +kernel
  unfold f_X2_leftOut_B31 at h
  refine lv_iload hx hb dX2_leftOut_31 (lv_at hl 6 rfl) ?_
  refine lv_aload_n hx hb dX2_leftOut_33 rfl (lv_at hl 0 rfl) ?_
  refine va_get (D := D) (ci := 2) (v := .int size) (C := RX2) (T := TX2) (N := 5) hx hb hts ik2 hown hE.1.1 hP 0 rfl rfl 4 (by decide) (hts (.fieldLink RX2 24 "FortyHouses$Houses" "size" "I") (by decide +kernel)) (fun _ h9 => h9) rfl dX2_leftOut_34 ?_
  refine lv_icmp_ge (tgt := 114) hx hb dX2_leftOut_37 (by decide) (fun c1 => ?_) (fun c1 => ?_)
  · have h := ite_t c1 h
    exact hke31 i5 i6 i7 i8 h ls (lv_sub hl [3] rfl)
  · have h := ite_f c1 h
    refine lv_aload_n hx hb dX2_leftOut_40 rfl (lv_at hl 0 rfl) ?_
    refine ro_Vi (C := RX2) (As := []) (rest := []) ⟨hx, hb, hml, hown, hts⟩ hE va_S.rf hP [0] (c_X2_all l D cI cB cJ cZ aK aV N q_this q_people q_didWith q_didWithout q_conditions size h) (cwV 0 hts gX2_leftOut_X2_all rfl rfl rfl (by decide +kernel) ⟨(Nat.le_of_ble_eq_true rfl), (Nat.le_of_ble_eq_true rfl)⟩) rfl 0 rfl rfl rfl hl.1 rfl (Nat.le_of_ble_eq_true rfl) dX2_leftOut_41 ⟨Nat.zero_le _, Nat.zero_le _⟩ (fun r9 h => ?_)
    refine lv_iconst (v := 1) hx hb dX2_leftOut_44 (by decide) ?_
    refine lv_iload hx hb dX2_leftOut_45 (lv_at hl 6 rfl) ?_
    refine lv_ishl hx hb dX2_leftOut_47 ?_
    refine lv_iconst (v := (-1)) hx hb dX2_leftOut_48 (by decide) ?_
    refine lv_ixor hx hb dX2_leftOut_49 ?_
    refine lv_iand hx hb dX2_leftOut_50 ?_
    refine lv_topi (fun v10 ex => ?_)
    have h := nm_of ex h
    refine lv_istore (lv' := [(9, .int v10), (0, .ref q_this), (1, .int r2), (2, .int r4), (3, .int i5), (4, .long i6), (6, .long i7), (8, .int i8)]) hx hb dX2_leftOut_51 hl (by decide) rfl (fun ls hl => ?_)
    refine lv_aload_n hx hb dX2_leftOut_53 rfl (lv_at hl 1 rfl) ?_
    refine lv_iload hx hb dX2_leftOut_54 (lv_at hl 0 rfl) ?_
    refine ro_Vi (C := RX2) (As := [.int v10]) (rest := []) ⟨hx, hb, hml, hown, hts⟩ hE va_S.rf hP [0, 1] (c_X2_peopleOf l D cI cB cJ cZ aK aV N q_this q_people q_didWith q_didWithout q_conditions size people v10 h) (cwV 1 hts gX2_leftOut_X2_peopleOf rfl rfl rfl (by decide +kernel) ⟨(Nat.le_of_ble_eq_true rfl), (Nat.le_of_ble_eq_true rfl)⟩) rfl 0 rfl rfl rfl hl.1 rfl (Nat.le_of_ble_eq_true rfl) dX2_leftOut_56 ⟨Nat.zero_le _, Nat.zero_le _⟩ (fun r11 h => ?_)
    refine lv_i2l (v := r11.toInt64) hx hb dX2_leftOut_59 rfl ?_
    refine lv_topl (fun v12 ex => ?_)
    have h := nm_of ex h
    refine lv_lstore (lv' := [(10, .long v12), (9, .int v10), (0, .ref q_this), (1, .int r2), (2, .int r4), (3, .int i5), (4, .long i6), (6, .long i7), (8, .int i8)]) hx hb dX2_leftOut_60 hl (by decide) rfl (fun ls hl => ?_)
    refine lv_aload_n hx hb dX2_leftOut_62 rfl (lv_at hl 2 rfl) ?_
    refine lv_iload hx hb dX2_leftOut_63 (lv_at hl 1 rfl) ?_
    refine ro_Vi (C := RX2) (As := [.int v10]) (rest := []) ⟨hx, hb, hml, hown, hts⟩ hE va_S.rf hP [0, 2, 3] (c_X2_excessOf l D cI cB cJ cZ aK aV N q_this q_people q_didWith q_didWithout q_conditions size didWith didWithout v10 h) (cwV 1 hts gX2_leftOut_X2_excessOf rfl rfl rfl (by decide +kernel) ⟨(Nat.le_of_ble_eq_true rfl), (Nat.le_of_ble_eq_true rfl)⟩) rfl 0 rfl rfl rfl hl.1 rfl (Nat.le_of_ble_eq_true rfl) dX2_leftOut_65 ⟨Nat.zero_le _, Nat.zero_le _⟩ (fun r13 h => ?_)
    refine lv_i2l (v := r13.toInt64) hx hb dX2_leftOut_68 rfl ?_
    refine lv_iload_n hx hb dX2_leftOut_69 rfl (lv_at hl 3 rfl) ?_
    refine lv_i2l (v := r2.toInt64) hx hb dX2_leftOut_70 rfl ?_
    refine lv_lmul hx hb dX2_leftOut_71 ?_
    refine lv_iload_n hx hb dX2_leftOut_72 rfl (lv_at hl 4 rfl) ?_
    refine lv_i2l (v := r4.toInt64) hx hb dX2_leftOut_73 rfl ?_
    refine lv_lload hx hb dX2_leftOut_74 (lv_at hl 0 rfl) ?_
    refine lv_lmul hx hb dX2_leftOut_76 ?_
    refine lv_lsub hx hb dX2_leftOut_77 ?_
    refine va_mabs_long hx hb (hml.trans hl.1.symm) hown (hts (.methodLink RX2 61 Lib.MathLoose.abs_long.x) (by decide +kernel)) (hts (.static Lib.MathLoose.abs_long.x) (by decide +kernel)) (hts (.initialized "java/lang/Math") (by decide +kernel)) (hts (.code Lib.MathLoose.abs_long.x Lib.MathLoose.abs_long.code 2 (some .long)) (by decide +kernel)) (Nat.le_of_ble_eq_true rfl) (Nat.le_of_ble_eq_true rfl) (Nat.zero_le _) (Nat.zero_le _) dX2_leftOut_78 ?_
    refine lv_topl (fun v14 ex => ?_)
    have h := nm_of ex h
    refine lv_lstore (lv' := [(12, .long v14), (10, .long v12), (9, .int v10), (0, .ref q_this), (1, .int r2), (2, .int r4), (3, .int i5), (4, .long i6), (6, .long i7), (8, .int i8)]) hx hb dX2_leftOut_81 hl (by decide) rfl (fun ls hl => ?_)
    refine lv_lload hx hb dX2_leftOut_83 (lv_at hl 0 rfl) ?_
    refine lv_lload hx hb dX2_leftOut_85 (lv_at hl 8 rfl) ?_
    refine lv_lmul hx hb dX2_leftOut_87 ?_
    refine lv_lload hx hb dX2_leftOut_88 (lv_at hl 7 rfl) ?_
    refine lv_lload hx hb dX2_leftOut_90 (lv_at hl 1 rfl) ?_
    refine lv_lmul hx hb dX2_leftOut_92 ?_
    refine W.lcmp hx hb dX2_leftOut_93 ?_
    refine lv_if_le (tgt := 108) hx hb dX2_leftOut_94 (by decide) (fun c1 => ?_) (fun c1 => ?_)
    · have h := ite_t c1 h
      exact w_X2_leftOut_J108 l D cI cB cJ cZ aK aV N q_this post C0 q_people q_didWith q_didWithout q_conditions size people didWith didWithout r2 r4 i8 kb31 hkb31 i5 i6 i7 h hP ls (lv_sub hl [3, 4, 5, 6, 7, 8, 9] rfl)
    · have h := ite_f c1 h
      refine lv_iload hx hb dX2_leftOut_97 (lv_at hl 9 rfl) ?_
      refine lv_istore_n (lv' := [(3, .int i8), (12, .long v14), (10, .long v12), (9, .int v10), (0, .ref q_this), (1, .int r2), (2, .int r4), (4, .long i6), (6, .long i7), (8, .int i8)]) hx hb dX2_leftOut_99 rfl hl (by decide) rfl (fun ls hl => ?_)
      refine lv_lload hx hb dX2_leftOut_100 (lv_at hl 1 rfl) ?_
      refine lv_lstore (lv' := [(4, .long v14), (3, .int i8), (12, .long v14), (10, .long v12), (9, .int v10), (0, .ref q_this), (1, .int r2), (2, .int r4), (6, .long i7), (8, .int i8)]) hx hb dX2_leftOut_102 hl (by decide) rfl (fun ls hl => ?_)
      refine lv_lload hx hb dX2_leftOut_104 (lv_at hl 3 rfl) ?_
      refine lv_lstore (lv' := [(6, .long v12), (4, .long v14), (3, .int i8), (12, .long v14), (10, .long v12), (9, .int v10), (0, .ref q_this), (1, .int r2), (2, .int r4), (8, .int i8)]) hx hb dX2_leftOut_106 hl (by decide) rfl (fun ls hl => ?_)
      exact w_X2_leftOut_J108 l D cI cB cJ cZ aK aV N q_this post C0 q_people q_didWith q_didWithout q_conditions size people didWith didWithout r2 r4 i8 kb31 hkb31 i8 v14 v12 h hP ls (lv_sub hl [6, 7, 8, 2, 1, 0, 9] rfl)
set_option maxHeartbeats 4000000 in
set_option maxRecDepth 100000 in
theorem w_X2_leftOut_L31 (l : Launch) (D : va_G) (cI cB cJ cZ : ClassId) (aK aV : Nat → Nat) (N : Nat) {p : Program} {e : Env} {s : State} {m : MethodId} {below : List Frame} {meth : Method} {c : Code} (q_this : Nat) (post : Int32 → Prop) (C0 : Cx p s m meth c ([.ref q_this] : List Value).toArray cX2_leftOut 14 yX2_leftOut.cls yX2_leftOut.name (some .int) wsX2_leftOut D cI cB cJ cZ aK aV (fun _ => False)) (q_people : Nat) (q_didWith : Nat) (q_didWithout : Nat) (q_conditions : Nat) (size : Int32) (people : Nat → Int32) (didWith : Nat → Int32) (didWithout : Nat → Int32) (r2 : Int32) (r4 : Int32) (ke31 : Int32 → Int64 → Int64 → Int32 → Prop) (hke31 : ∀ (i5_ : Int32) (i6_ : Int64) (i7_ : Int64) (i8_ : Int32), ke31 i5_ i6_ i7_ i8_ → ∀ ls : Array Slot, lv_has ls 14 [(3, .int i5_)] → W p l e { frames := 1, cells := 0, slots := 0, locals := 23 } s m ([.ref q_this] : List Value).toArray below meth c s.heap [] 0 0 (MQ below (vp_Si post) ([.ref q_this] : List Value).toArray s 0 0 (fun _ => False)) (F0 m 114 ls [])) (hP : va_P D vwCl [(q_this, .inr (2, [.ref q_people, .ref q_didWith, .ref q_didWithout, .ref q_conditions, .int size])), (q_people, .inl (cI, 12, .inl people)), (q_didWith, .inl (cI, 12, .inl didWith)), (q_didWithout, .inl (cI, 12, .inl didWithout))] s.heap) : ∀ (n_ : Nat) (i5 : Int32) (i6 : Int64) (i7 : Int64) (i8 : Int32), f_X2_leftOut_L31 N size people didWith didWithout r2 r4 ke31 n_ i5 i6 i7 i8 → ∀ ls : Array Slot, lv_has ls 14 [(0, .ref q_this), (1, .int r2), (2, .int r4), (3, .int i5), (4, .long i6), (6, .long i7), (8, .int i8)] → W p l e { frames := 1, cells := 0, slots := 0, locals := 23 } s m ([.ref q_this] : List Value).toArray below meth c s.heap [] 0 0 (MQ below (vp_Si post) ([.ref q_this] : List Value).toArray s 0 0 (fun _ => False)) (F0 m 31 ls []) := by
  intro n_
  induction n_ with
  | zero => intro i5 i6 i7 i8 h; exact h.elim
  | succ n_ ih =>
    intro i5 i6 i7 i8 h ls hl
    exact w_X2_leftOut_B31 l D cI cB cJ cZ aK aV N q_this post C0 q_people q_didWith q_didWithout q_conditions size people didWith didWithout r2 r4 (f_X2_leftOut_L31 N size people didWith didWithout r2 r4 ke31 n_) ih ke31 hke31 i5 i6 i7 i8 h hP ls hl
set_option maxHeartbeats 4000000 in
set_option maxRecDepth 100000 in
theorem c_X2_leftOut (l : Launch) (D : va_G) (cI cB cJ cZ : ClassId) (aK aV : Nat → Nat) (N : Nat) (q_this : Nat) (q_people : Nat) (q_didWith : Nat) (q_didWithout : Nat) (q_conditions : Nat) (size : Int32) (people : Nat → Int32) (didWith : Nat → Int32) (didWithout : Nat → Int32) {post : Int32 → Prop} (h : f_X2_leftOut N size people didWith didWithout post) : Met l yX2_leftOut wsX2_leftOut { frames := 1, cells := 0, slots := 0, locals := 23 } (PR D cI cB cJ cZ aK aV [.ref q_this] [(q_this, .inr (2, [.ref q_people, .ref q_didWith, .ref q_didWithout, .ref q_conditions, .int size])), (q_people, .inl (cI, 12, .inl people)), (q_didWith, .inl (cI, 12, .inl didWith)), (q_didWithout, .inl (cI, 12, .inl didWithout))]) (vp_Si post) 0 0 (fun _ => False) := by
  refine ro_enter (cc := cX2_leftOut) (maxL := 14) (ret := (some .int)) (by decide) rfl (Nat.le_of_ble_eq_true rfl) ?_
  intro p e s m below meth c C0 hP ls hl
  have hl : lv_has ls 14 [(0, .ref q_this)] := hl
  unfold f_X2_leftOut at h
  obtain ⟨hx, hb, hr, hml, hown, hts, hE, hlk, hnm⟩ := id C0
  have ik2 : ∀ w ∈ u_ws RX2 TX2 5, w ∈ wsX2_leftOut := by decide +kernel
  refine lv_aload_n hx hb dX2_leftOut_0 rfl (lv_at hl 0 rfl) ?_
  refine lv_aload_n hx hb dX2_leftOut_1 rfl (lv_at hl 0 rfl) ?_
  refine ro_Vi (C := RX2) (As := []) (rest := [.ref q_this]) ⟨hx, hb, hml, hown, hts⟩ hE va_S.rf hP [0] (c_X2_all l D cI cB cJ cZ aK aV N q_this q_people q_didWith q_didWithout q_conditions size h) (cwV 0 hts gX2_leftOut_X2_all rfl rfl rfl (by decide +kernel) ⟨(Nat.le_of_ble_eq_true rfl), (Nat.le_of_ble_eq_true rfl)⟩) rfl 0 rfl rfl rfl hl.1 rfl (Nat.le_of_ble_eq_true rfl) dX2_leftOut_2 ⟨Nat.zero_le _, Nat.zero_le _⟩ (fun r1 h => ?_)
  refine ro_Vi (C := RX2) (As := [.int r1]) (rest := []) ⟨hx, hb, hml, hown, hts⟩ hE va_S.rf hP [0, 1] (c_X2_peopleOf l D cI cB cJ cZ aK aV N q_this q_people q_didWith q_didWithout q_conditions size people r1 h) (cwV 1 hts gX2_leftOut_X2_peopleOf rfl rfl rfl (by decide +kernel) ⟨(Nat.le_of_ble_eq_true rfl), (Nat.le_of_ble_eq_true rfl)⟩) rfl 0 rfl rfl rfl hl.1 rfl (Nat.le_of_ble_eq_true rfl) dX2_leftOut_5 ⟨Nat.zero_le _, Nat.zero_le _⟩ (fun r2 h => ?_)
  refine lv_istore_n (lv' := [(1, .int r2), (0, .ref q_this)]) hx hb dX2_leftOut_8 rfl hl (by decide) rfl (fun ls hl => ?_)
  refine lv_aload_n hx hb dX2_leftOut_9 rfl (lv_at hl 1 rfl) ?_
  refine lv_aload_n hx hb dX2_leftOut_10 rfl (lv_at hl 1 rfl) ?_
  refine ro_Vi (C := RX2) (As := []) (rest := [.ref q_this]) ⟨hx, hb, hml, hown, hts⟩ hE va_S.rf hP [0] (c_X2_all l D cI cB cJ cZ aK aV N q_this q_people q_didWith q_didWithout q_conditions size h) (cwV 0 hts gX2_leftOut_X2_all rfl rfl rfl (by decide +kernel) ⟨(Nat.le_of_ble_eq_true rfl), (Nat.le_of_ble_eq_true rfl)⟩) rfl 0 rfl rfl rfl hl.1 rfl (Nat.le_of_ble_eq_true rfl) dX2_leftOut_11 ⟨Nat.zero_le _, Nat.zero_le _⟩ (fun r3 h => ?_)
  refine ro_Vi (C := RX2) (As := [.int r3]) (rest := []) ⟨hx, hb, hml, hown, hts⟩ hE va_S.rf hP [0, 2, 3] (c_X2_excessOf l D cI cB cJ cZ aK aV N q_this q_people q_didWith q_didWithout q_conditions size didWith didWithout r3 h) (cwV 1 hts gX2_leftOut_X2_excessOf rfl rfl rfl (by decide +kernel) ⟨(Nat.le_of_ble_eq_true rfl), (Nat.le_of_ble_eq_true rfl)⟩) rfl 0 rfl rfl rfl hl.1 rfl (Nat.le_of_ble_eq_true rfl) dX2_leftOut_14 ⟨Nat.zero_le _, Nat.zero_le _⟩ (fun r4 h => ?_)
  refine lv_istore_n (lv' := [(2, .int r4), (1, .int r2), (0, .ref q_this)]) hx hb dX2_leftOut_17 rfl hl (by decide) rfl (fun ls hl => ?_)
  refine lv_iconst (v := 0) hx hb dX2_leftOut_18 (by decide) ?_
  refine lv_istore_n (lv' := [(3, .int 0), (2, .int r4), (1, .int r2), (0, .ref q_this)]) hx hb dX2_leftOut_19 rfl hl (by decide) rfl (fun ls hl => ?_)
  refine lv_ldc2 hx hb hown (hts (.constantLong RX2 59 (-1)) (by decide +kernel)) dX2_leftOut_20 ?_
  refine lv_lstore (lv' := [(4, .long (-1)), (3, .int 0), (2, .int r4), (1, .int r2), (0, .ref q_this)]) hx hb dX2_leftOut_23 hl (by decide) rfl (fun ls hl => ?_)
  refine lv_lconst (v := 1) hx hb dX2_leftOut_25 (by decide) ?_
  refine lv_lstore (lv' := [(6, .long 1), (4, .long (-1)), (3, .int 0), (2, .int r4), (1, .int r2), (0, .ref q_this)]) hx hb dX2_leftOut_26 hl (by decide) rfl (fun ls hl => ?_)
  refine lv_iconst (v := 0) hx hb dX2_leftOut_28 (by decide) ?_
  refine lv_istore (lv' := [(8, .int 0), (6, .long 1), (4, .long (-1)), (3, .int 0), (2, .int r4), (1, .int r2), (0, .ref q_this)]) hx hb dX2_leftOut_29 hl (by decide) rfl (fun ls hl => ?_)
  refine w_X2_leftOut_L31 l D cI cB cJ cZ aK aV N q_this post C0 q_people q_didWith q_didWithout q_conditions size people didWith didWithout r2 r4 _ (fun o19 o20 o21 o22 h ls hl => ?_) hP N 0 (-1) 1 0 h ls (lv_sub hl [6, 5, 4, 3, 2, 1, 0] rfl)
  refine lv_iload_n hx hb dX2_leftOut_114 rfl (lv_at hl 0 rfl) ?_
  exact ro_iret hx hb hr hlk h dX2_leftOut_115
set_option maxHeartbeats 4000000 in
set_option maxRecDepth 100000 in
theorem c_X2_gapUpper (l : Launch) (D : va_G) (cI cB cJ cZ : ClassId) (aK aV : Nat → Nat) (N : Nat) (q_this : Nat) (q_people : Nat) (q_didWith : Nat) (q_didWithout : Nat) (q_conditions : Nat) (size : Int32) (people : Nat → Int32) (didWith : Nat → Int32) (didWithout : Nat → Int32) (x1 : Int32) {post : Int32 → Prop} (h : f_X2_gapUpper N size people didWith didWithout x1 post) : Met l yX2_gapUpper wsX2_gapUpper { frames := 1, cells := 0, slots := 0, locals := 23 } (PR D cI cB cJ cZ aK aV [.ref q_this, .int x1] [(q_this, .inr (2, [.ref q_people, .ref q_didWith, .ref q_didWithout, .ref q_conditions, .int size])), (q_people, .inl (cI, 12, .inl people)), (q_didWith, .inl (cI, 12, .inl didWith)), (q_didWithout, .inl (cI, 12, .inl didWithout))]) (vp_Si post) 0 0 (fun _ => False) := by
  refine ro_enter (cc := cX2_gapUpper) (maxL := 2) (ret := (some .int)) (by decide) rfl (Nat.le_of_ble_eq_true rfl) ?_
  intro p e s m below meth c C0 hP ls hl
  have hl : lv_has ls 2 [(0, .ref q_this), (1, .int x1)] := hl
  unfold f_X2_gapUpper at h
  obtain ⟨hx, hb, hr, hml, hown, hts, hE, hlk, hnm⟩ := id C0
  refine lv_aload_n hx hb dX2_gapUpper_0 rfl (lv_at hl 0 rfl) ?_
  refine lv_iload_n hx hb dX2_gapUpper_1 rfl (lv_at hl 1 rfl) ?_
  refine ro_Vi (C := RX2) (As := [.int x1]) (rest := []) ⟨hx, hb, hml, hown, hts⟩ hE va_S.rf hP [0, 2, 3] (c_X2_excessOf l D cI cB cJ cZ aK aV N q_this q_people q_didWith q_didWithout q_conditions size didWith didWithout x1 h) (cwV 1 hts gX2_gapUpper_X2_excessOf rfl rfl rfl (by decide +kernel) ⟨(Nat.le_of_ble_eq_true rfl), (Nat.le_of_ble_eq_true rfl)⟩) rfl 0 rfl rfl rfl hl.1 rfl (Nat.le_of_ble_eq_true rfl) dX2_gapUpper_2 ⟨Nat.zero_le _, Nat.zero_le _⟩ (fun r1 h => ?_)
  refine lv_aload_n hx hb dX2_gapUpper_5 rfl (lv_at hl 0 rfl) ?_
  refine lv_aload_n hx hb dX2_gapUpper_6 rfl (lv_at hl 0 rfl) ?_
  refine ro_Vi (C := RX2) (As := []) (rest := [.ref q_this, .int r1]) ⟨hx, hb, hml, hown, hts⟩ hE va_S.rf hP [0] (c_X2_all l D cI cB cJ cZ aK aV N q_this q_people q_didWith q_didWithout q_conditions size h) (cwV 0 hts gX2_gapUpper_X2_all rfl rfl rfl (by decide +kernel) ⟨(Nat.le_of_ble_eq_true rfl), (Nat.le_of_ble_eq_true rfl)⟩) rfl 0 rfl rfl rfl hl.1 rfl (Nat.le_of_ble_eq_true rfl) dX2_gapUpper_7 ⟨Nat.zero_le _, Nat.zero_le _⟩ (fun r2 h => ?_)
  refine ro_Vi (C := RX2) (As := [.int r2]) (rest := [.int r1]) ⟨hx, hb, hml, hown, hts⟩ hE va_S.rf hP [0, 1] (c_X2_peopleOf l D cI cB cJ cZ aK aV N q_this q_people q_didWith q_didWithout q_conditions size people r2 h) (cwV 1 hts gX2_gapUpper_X2_peopleOf rfl rfl rfl (by decide +kernel) ⟨(Nat.le_of_ble_eq_true rfl), (Nat.le_of_ble_eq_true rfl)⟩) rfl 0 rfl rfl rfl hl.1 rfl (Nat.le_of_ble_eq_true rfl) dX2_gapUpper_10 ⟨Nat.zero_le _, Nat.zero_le _⟩ (fun r3 h => ?_)
  refine lv_imul hx hb dX2_gapUpper_13 ?_
  refine lv_aload_n hx hb dX2_gapUpper_14 rfl (lv_at hl 0 rfl) ?_
  refine lv_aload_n hx hb dX2_gapUpper_15 rfl (lv_at hl 0 rfl) ?_
  refine ro_Vi (C := RX2) (As := []) (rest := [.ref q_this, .int (r1 * r3)]) ⟨hx, hb, hml, hown, hts⟩ hE va_S.rf hP [0] (c_X2_all l D cI cB cJ cZ aK aV N q_this q_people q_didWith q_didWithout q_conditions size h) (cwV 0 hts gX2_gapUpper_X2_all rfl rfl rfl (by decide +kernel) ⟨(Nat.le_of_ble_eq_true rfl), (Nat.le_of_ble_eq_true rfl)⟩) rfl 0 rfl rfl rfl hl.1 rfl (Nat.le_of_ble_eq_true rfl) dX2_gapUpper_16 ⟨Nat.zero_le _, Nat.zero_le _⟩ (fun r4 h => ?_)
  refine ro_Vi (C := RX2) (As := [.int r4]) (rest := [.int (r1 * r3)]) ⟨hx, hb, hml, hown, hts⟩ hE va_S.rf hP [0, 2, 3] (c_X2_excessOf l D cI cB cJ cZ aK aV N q_this q_people q_didWith q_didWithout q_conditions size didWith didWithout r4 h) (cwV 1 hts gX2_gapUpper_X2_excessOf rfl rfl rfl (by decide +kernel) ⟨(Nat.le_of_ble_eq_true rfl), (Nat.le_of_ble_eq_true rfl)⟩) rfl 0 rfl rfl rfl hl.1 rfl (Nat.le_of_ble_eq_true rfl) dX2_gapUpper_19 ⟨Nat.zero_le _, Nat.zero_le _⟩ (fun r5 h => ?_)
  refine lv_aload_n hx hb dX2_gapUpper_22 rfl (lv_at hl 0 rfl) ?_
  refine lv_iload_n hx hb dX2_gapUpper_23 rfl (lv_at hl 1 rfl) ?_
  refine ro_Vi (C := RX2) (As := [.int x1]) (rest := [.int r5, .int (r1 * r3)]) ⟨hx, hb, hml, hown, hts⟩ hE va_S.rf hP [0, 1] (c_X2_peopleOf l D cI cB cJ cZ aK aV N q_this q_people q_didWith q_didWithout q_conditions size people x1 h) (cwV 1 hts gX2_gapUpper_X2_peopleOf rfl rfl rfl (by decide +kernel) ⟨(Nat.le_of_ble_eq_true rfl), (Nat.le_of_ble_eq_true rfl)⟩) rfl 0 rfl rfl rfl hl.1 rfl (Nat.le_of_ble_eq_true rfl) dX2_gapUpper_24 ⟨Nat.zero_le _, Nat.zero_le _⟩ (fun r6 h => ?_)
  refine lv_imul hx hb dX2_gapUpper_27 ?_
  refine lv_isub hx hb dX2_gapUpper_28 ?_
  exact ro_iret hx hb hr hlk h dX2_gapUpper_29
set_option maxHeartbeats 4000000 in
set_option maxRecDepth 100000 in
theorem c_X2_gapLower (l : Launch) (D : va_G) (cI cB cJ cZ : ClassId) (aK aV : Nat → Nat) (N : Nat) (q_this : Nat) (q_people : Nat) (q_didWith : Nat) (q_didWithout : Nat) (q_conditions : Nat) (size : Int32) (people : Nat → Int32) (x1 : Int32) {post : Int32 → Prop} (h : f_X2_gapLower N size people x1 post) : Met l yX2_gapLower wsX2_gapLower { frames := 1, cells := 0, slots := 0, locals := 23 } (PR D cI cB cJ cZ aK aV [.ref q_this, .int x1] [(q_this, .inr (2, [.ref q_people, .ref q_didWith, .ref q_didWithout, .ref q_conditions, .int size])), (q_people, .inl (cI, 12, .inl people))]) (vp_Si post) 0 0 (fun _ => False) := by
  refine ro_enter (cc := cX2_gapLower) (maxL := 2) (ret := (some .int)) (by decide) rfl (Nat.le_of_ble_eq_true rfl) ?_
  intro p e s m below meth c C0 hP ls hl
  have hl : lv_has ls 2 [(0, .ref q_this), (1, .int x1)] := hl
  unfold f_X2_gapLower at h
  obtain ⟨hx, hb, hr, hml, hown, hts, hE, hlk, hnm⟩ := id C0
  refine lv_aload_n hx hb dX2_gapLower_0 rfl (lv_at hl 0 rfl) ?_
  refine lv_iload_n hx hb dX2_gapLower_1 rfl (lv_at hl 1 rfl) ?_
  refine ro_Vi (C := RX2) (As := [.int x1]) (rest := []) ⟨hx, hb, hml, hown, hts⟩ hE va_S.rf hP [0, 1] (c_X2_peopleOf l D cI cB cJ cZ aK aV N q_this q_people q_didWith q_didWithout q_conditions size people x1 h) (cwV 1 hts gX2_gapLower_X2_peopleOf rfl rfl rfl (by decide +kernel) ⟨(Nat.le_of_ble_eq_true rfl), (Nat.le_of_ble_eq_true rfl)⟩) rfl 0 rfl rfl rfl hl.1 rfl (Nat.le_of_ble_eq_true rfl) dX2_gapLower_2 ⟨Nat.zero_le _, Nat.zero_le _⟩ (fun r1 h => ?_)
  refine lv_aload_n hx hb dX2_gapLower_5 rfl (lv_at hl 0 rfl) ?_
  refine lv_aload_n hx hb dX2_gapLower_6 rfl (lv_at hl 0 rfl) ?_
  refine ro_Vi (C := RX2) (As := []) (rest := [.ref q_this, .int r1]) ⟨hx, hb, hml, hown, hts⟩ hE va_S.rf hP [0] (c_X2_all l D cI cB cJ cZ aK aV N q_this q_people q_didWith q_didWithout q_conditions size h) (cwV 0 hts gX2_gapLower_X2_all rfl rfl rfl (by decide +kernel) ⟨(Nat.le_of_ble_eq_true rfl), (Nat.le_of_ble_eq_true rfl)⟩) rfl 0 rfl rfl rfl hl.1 rfl (Nat.le_of_ble_eq_true rfl) dX2_gapLower_7 ⟨Nat.zero_le _, Nat.zero_le _⟩ (fun r2 h => ?_)
  refine ro_Vi (C := RX2) (As := [.int r2]) (rest := [.int r1]) ⟨hx, hb, hml, hown, hts⟩ hE va_S.rf hP [0, 1] (c_X2_peopleOf l D cI cB cJ cZ aK aV N q_this q_people q_didWith q_didWithout q_conditions size people r2 h) (cwV 1 hts gX2_gapLower_X2_peopleOf rfl rfl rfl (by decide +kernel) ⟨(Nat.le_of_ble_eq_true rfl), (Nat.le_of_ble_eq_true rfl)⟩) rfl 0 rfl rfl rfl hl.1 rfl (Nat.le_of_ble_eq_true rfl) dX2_gapLower_10 ⟨Nat.zero_le _, Nat.zero_le _⟩ (fun r3 h => ?_)
  refine lv_aload_n hx hb dX2_gapLower_13 rfl (lv_at hl 0 rfl) ?_
  refine lv_iload_n hx hb dX2_gapLower_14 rfl (lv_at hl 1 rfl) ?_
  refine ro_Vi (C := RX2) (As := [.int x1]) (rest := [.int r3, .int r1]) ⟨hx, hb, hml, hown, hts⟩ hE va_S.rf hP [0, 1] (c_X2_peopleOf l D cI cB cJ cZ aK aV N q_this q_people q_didWith q_didWithout q_conditions size people x1 h) (cwV 1 hts gX2_gapLower_X2_peopleOf rfl rfl rfl (by decide +kernel) ⟨(Nat.le_of_ble_eq_true rfl), (Nat.le_of_ble_eq_true rfl)⟩) rfl 0 rfl rfl rfl hl.1 rfl (Nat.le_of_ble_eq_true rfl) dX2_gapLower_15 ⟨Nat.zero_le _, Nat.zero_le _⟩ (fun r4 h => ?_)
  refine lv_isub hx hb dX2_gapLower_18 ?_
  refine lv_imul hx hb dX2_gapLower_19 ?_
  exact ro_iret hx hb hr hlk h dX2_gapLower_20
set_option maxHeartbeats 4000000 in
set_option maxRecDepth 100000 in
theorem w_X2_setsWithGapOf_J124 (l : Launch) (D : va_G) (cI cB cJ cZ : ClassId) (aK aV : Nat → Nat) (N : Nat) {p : Program} {e : Env} {s : State} {m : MethodId} {below : List Frame} {meth : Method} {c : Code} (q_this : Nat) (x1 : Int32) (post : Int32 → Prop) (C0 : Cx p s m meth c ([.ref q_this, .int x1] : List Value).toArray cX2_setsWithGapOf 15 yX2_setsWithGapOf.cls yX2_setsWithGapOf.name (some .int) wsX2_setsWithGapOf D cI cB cJ cZ aK aV (fun _ => False)) (q_people : Nat) (q_didWith : Nat) (q_didWithout : Nat) (q_conditions : Nat) (size : Int32) (people : Nat → Int32) (didWith : Nat → Int32) (didWithout : Nat → Int32) (r1 : Int32) (v3 : Int64) (v5 : Int64) (r6 : Int32) (r7 : Int32) (r8 : Int32) (i10 : Int32) (kb48 : Int32 → Int32 → Prop) (hkb48 : ∀ (i9_ : Int32) (i10_ : Int32), kb48 i9_ i10_ → ∀ ls : Array Slot, lv_has ls 15 [(0, .ref q_this), (2, .int r1), (3, .long v3), (5, .long v5), (7, .int r6), (8, .int r7), (9, .int r8), (10, .int i9_), (11, .int i10_)] → W p l e { frames := 2, cells := 0, slots := 0, locals := 44 } s m ([.ref q_this, .int x1] : List Value).toArray below meth c s.heap [] 0 0 (MQ below (vp_Si post) ([.ref q_this, .int x1] : List Value).toArray s 0 0 (fun _ => False)) (F0 m 48 ls [])) (j12 : Int32) (h : f_X2_setsWithGapOf_J124 N i10 kb48 j12) (hP : va_P D vwCl [(q_this, .inr (2, [.ref q_people, .ref q_didWith, .ref q_didWithout, .ref q_conditions, .int size])), (q_people, .inl (cI, 12, .inl people)), (q_didWith, .inl (cI, 12, .inl didWith)), (q_didWithout, .inl (cI, 12, .inl didWithout))] s.heap) (ls : Array Slot) (hl : lv_has ls 15 [(0, .ref q_this), (2, .int r1), (3, .long v3), (5, .long v5), (7, .int r6), (8, .int r7), (9, .int r8), (10, .int j12), (11, .int i10)]) : W p l e { frames := 2, cells := 0, slots := 0, locals := 44 } s m ([.ref q_this, .int x1] : List Value).toArray below meth c s.heap [] 0 0 (MQ below (vp_Si post) ([.ref q_this, .int x1] : List Value).toArray s 0 0 (fun _ => False)) (F0 m 124 ls []) := by
  obtain ⟨hx, hb, hr, hml, hown, hts, hE, hlk, hnm⟩ := id C0
  unfold f_X2_setsWithGapOf_J124 at h
  obtain ⟨v13, ex⟩ : ∃ y : Int32, y = (i10 + 1) := ⟨_, rfl⟩
  have h := nm_of ex h
  refine lv_iinc (v := v13) (lv' := [(11, .int v13), (0, .ref q_this), (2, .int r1), (3, .long v3), (5, .long v5), (7, .int r6), (8, .int r7), (9, .int r8), (10, .int j12)]) hx hb dX2_setsWithGapOf_124 hl (k := 8) rfl (by rw [ex]; rfl) (by decide) rfl (fun ls hl => ?_)
  refine lv_goto (tgt := 48) hx hb dX2_setsWithGapOf_127 (by decide) ?_
  exact hkb48 j12 v13 h ls (lv_sub hl [1, 2, 3, 4, 5, 6, 7, 8, 0] rfl)
set_option maxHeartbeats 4000000 in
set_option maxRecDepth 100000 in
theorem w_X2_setsWithGapOf_J121 (l : Launch) (D : va_G) (cI cB cJ cZ : ClassId) (aK aV : Nat → Nat) (N : Nat) {p : Program} {e : Env} {s : State} {m : MethodId} {below : List Frame} {meth : Method} {c : Code} (q_this : Nat) (x1 : Int32) (post : Int32 → Prop) (C0 : Cx p s m meth c ([.ref q_this, .int x1] : List Value).toArray cX2_setsWithGapOf 15 yX2_setsWithGapOf.cls yX2_setsWithGapOf.name (some .int) wsX2_setsWithGapOf D cI cB cJ cZ aK aV (fun _ => False)) (q_people : Nat) (q_didWith : Nat) (q_didWithout : Nat) (q_conditions : Nat) (size : Int32) (people : Nat → Int32) (didWith : Nat → Int32) (didWithout : Nat → Int32) (r1 : Int32) (v3 : Int64) (v5 : Int64) (r6 : Int32) (r7 : Int32) (r8 : Int32) (i9 : Int32) (i10 : Int32) (kb48 : Int32 → Int32 → Prop) (hkb48 : ∀ (i9_ : Int32) (i10_ : Int32), kb48 i9_ i10_ → ∀ ls : Array Slot, lv_has ls 15 [(0, .ref q_this), (2, .int r1), (3, .long v3), (5, .long v5), (7, .int r6), (8, .int r7), (9, .int r8), (10, .int i9_), (11, .int i10_)] → W p l e { frames := 2, cells := 0, slots := 0, locals := 44 } s m ([.ref q_this, .int x1] : List Value).toArray below meth c s.heap [] 0 0 (MQ below (vp_Si post) ([.ref q_this, .int x1] : List Value).toArray s 0 0 (fun _ => False)) (F0 m 48 ls [])) (j18 : Int32) (h : f_X2_setsWithGapOf_J121 N i9 i10 kb48 j18) (hP : va_P D vwCl [(q_this, .inr (2, [.ref q_people, .ref q_didWith, .ref q_didWithout, .ref q_conditions, .int size])), (q_people, .inl (cI, 12, .inl people)), (q_didWith, .inl (cI, 12, .inl didWith)), (q_didWithout, .inl (cI, 12, .inl didWithout))] s.heap) (ls : Array Slot) (hl : lv_has ls 15 [(0, .ref q_this), (2, .int r1), (3, .long v3), (5, .long v5), (7, .int r6), (8, .int r7), (9, .int r8), (11, .int i10)]) : W p l e { frames := 2, cells := 0, slots := 0, locals := 44 } s m ([.ref q_this, .int x1] : List Value).toArray below meth c s.heap [] 0 0 (MQ below (vp_Si post) ([.ref q_this, .int x1] : List Value).toArray s 0 0 (fun _ => False)) (F0 m 121 ls [.int j18, .int i9]) := by
  obtain ⟨hx, hb, hr, hml, hown, hts, hE, hlk, hnm⟩ := id C0
  unfold f_X2_setsWithGapOf_J121 at h
  refine lv_iadd hx hb dX2_setsWithGapOf_121 ?_
  refine lv_topi (fun v19 ex => ?_)
  have h := nm_of ex h
  refine lv_istore (lv' := [(10, .int v19), (0, .ref q_this), (2, .int r1), (3, .long v3), (5, .long v5), (7, .int r6), (8, .int r7), (9, .int r8), (11, .int i10)]) hx hb dX2_setsWithGapOf_122 hl (by decide) rfl (fun ls hl => ?_)
  exact w_X2_setsWithGapOf_J124 l D cI cB cJ cZ aK aV N q_this x1 post C0 q_people q_didWith q_didWithout q_conditions size people didWith didWithout r1 v3 v5 r6 r7 r8 i10 kb48 hkb48 v19 h hP ls (lv_sub hl [1, 2, 3, 4, 5, 6, 7, 0, 8] rfl)
set_option maxHeartbeats 4000000 in
set_option maxRecDepth 100000 in
theorem w_X2_setsWithGapOf_B48 (l : Launch) (D : va_G) (cI cB cJ cZ : ClassId) (aK aV : Nat → Nat) (N : Nat) {p : Program} {e : Env} {s : State} {m : MethodId} {below : List Frame} {meth : Method} {c : Code} (q_this : Nat) (x1 : Int32) (post : Int32 → Prop) (C0 : Cx p s m meth c ([.ref q_this, .int x1] : List Value).toArray cX2_setsWithGapOf 15 yX2_setsWithGapOf.cls yX2_setsWithGapOf.name (some .int) wsX2_setsWithGapOf D cI cB cJ cZ aK aV (fun _ => False)) (q_people : Nat) (q_didWith : Nat) (q_didWithout : Nat) (q_conditions : Nat) (size : Int32) (people : Nat → Int32) (didWith : Nat → Int32) (didWithout : Nat → Int32) (r1 : Int32) (v3 : Int64) (v5 : Int64) (r6 : Int32) (r7 : Int32) (r8 : Int32) (kb48 : Int32 → Int32 → Prop) (hkb48 : ∀ (i9_ : Int32) (i10_ : Int32), kb48 i9_ i10_ → ∀ ls : Array Slot, lv_has ls 15 [(0, .ref q_this), (2, .int r1), (3, .long v3), (5, .long v5), (7, .int r6), (8, .int r7), (9, .int r8), (10, .int i9_), (11, .int i10_)] → W p l e { frames := 2, cells := 0, slots := 0, locals := 44 } s m ([.ref q_this, .int x1] : List Value).toArray below meth c s.heap [] 0 0 (MQ below (vp_Si post) ([.ref q_this, .int x1] : List Value).toArray s 0 0 (fun _ => False)) (F0 m 48 ls [])) (ke48 : Int32 → Int32 → Prop) (hke48 : ∀ (i9_ : Int32) (i10_ : Int32), ke48 i9_ i10_ → ∀ ls : Array Slot, lv_has ls 15 [(10, .int i9_)] → W p l e { frames := 2, cells := 0, slots := 0, locals := 44 } s m ([.ref q_this, .int x1] : List Value).toArray below meth c s.heap [] 0 0 (MQ below (vp_Si post) ([.ref q_this, .int x1] : List Value).toArray s 0 0 (fun _ => False)) (F0 m 130 ls [])) (i9 : Int32) (i10 : Int32) (h : f_X2_setsWithGapOf_B48 N size people didWith didWithout r1 v3 v5 r6 r7 r8 kb48 ke48 i9 i10) (hP : va_P D vwCl [(q_this, .inr (2, [.ref q_people, .ref q_didWith, .ref q_didWithout, .ref q_conditions, .int size])), (q_people, .inl (cI, 12, .inl people)), (q_didWith, .inl (cI, 12, .inl didWith)), (q_didWithout, .inl (cI, 12, .inl didWithout))] s.heap) (ls : Array Slot) (hl : lv_has ls 15 [(0, .ref q_this), (2, .int r1), (3, .long v3), (5, .long v5), (7, .int r6), (8, .int r7), (9, .int r8), (10, .int i9), (11, .int i10)]) : W p l e { frames := 2, cells := 0, slots := 0, locals := 44 } s m ([.ref q_this, .int x1] : List Value).toArray below meth c s.heap [] 0 0 (MQ below (vp_Si post) ([.ref q_this, .int x1] : List Value).toArray s 0 0 (fun _ => False)) (F0 m 48 ls []) := by
  obtain ⟨hx, hb, hr, hml, hown, hts, hE, hlk, hnm⟩ := id C0
  unfold f_X2_setsWithGapOf_B48 at h
  refine lv_iload hx hb dX2_setsWithGapOf_48 (lv_at hl 8 rfl) ?_
  refine lv_iload hx hb dX2_setsWithGapOf_50 (lv_at hl 4 rfl) ?_
  refine lv_icmp_gt (tgt := 130) hx hb dX2_setsWithGapOf_52 (by decide) (fun c1 => ?_) (fun c1 => ?_)
  · have h := ite_t c1 h
    exact hke48 i9 i10 h ls (lv_sub hl [7] rfl)
  · have h := ite_f c1 h
    refine lv_iload hx hb dX2_setsWithGapOf_55 (lv_at hl 8 rfl) ?_
    refine ro_Si (As := [.int i10]) (rest := []) ⟨hx, hb, hml, hown, hts⟩ hE va_S.rf (c_J6_bitCount_0f7a4 l D cI cB cJ cZ aK aV N i10 h) (va_cwS 1 hts gX2_setsWithGapOf_J6_bitCount_0f7a4 rfl rfl rfl (by decide +kernel) ⟨(Nat.le_of_ble_eq_true rfl), (Nat.le_of_ble_eq_true rfl)⟩) rfl hl.1 rfl (Nat.le_of_ble_eq_true rfl) dX2_setsWithGapOf_57 ⟨Nat.zero_le _, Nat.zero_le _⟩ (fun r11 h => ?_)
    refine lv_iload_n hx hb dX2_setsWithGapOf_60 rfl (lv_at hl 1 rfl) ?_
    refine lv_icmp_ne (tgt := 124) hx hb dX2_setsWithGapOf_61 (by decide) (fun c1 => ?_) (fun c1 => ?_)
    · have h := ite_t c1 h
      exact w_X2_setsWithGapOf_J124 l D cI cB cJ cZ aK aV N q_this x1 post C0 q_people q_didWith q_didWithout q_conditions size people didWith didWithout r1 v3 v5 r6 r7 r8 i10 kb48 hkb48 i9 h hP ls hl
    · have h := ite_n c1 h
      refine lv_aload_n hx hb dX2_setsWithGapOf_64 rfl (lv_at hl 0 rfl) ?_
      refine lv_iload hx hb dX2_setsWithGapOf_65 (lv_at hl 8 rfl) ?_
      refine ro_Vi (C := RX2) (As := [.int i10]) (rest := []) ⟨hx, hb, hml, hown, hts⟩ hE va_S.rf hP [0, 1] (c_X2_peopleOf l D cI cB cJ cZ aK aV N q_this q_people q_didWith q_didWithout q_conditions size people i10 h) (cwV 1 hts gX2_setsWithGapOf_X2_peopleOf rfl rfl rfl (by decide +kernel) ⟨(Nat.le_of_ble_eq_true rfl), (Nat.le_of_ble_eq_true rfl)⟩) rfl 0 rfl rfl rfl hl.1 rfl (Nat.le_of_ble_eq_true rfl) dX2_setsWithGapOf_67 ⟨Nat.zero_le _, Nat.zero_le _⟩ (fun r14 h => ?_)
      refine lv_istore (lv' := [(12, .int r14), (0, .ref q_this), (2, .int r1), (3, .long v3), (5, .long v5), (7, .int r6), (8, .int r7), (9, .int r8), (10, .int i9), (11, .int i10)]) hx hb dX2_setsWithGapOf_70 hl (by decide) rfl (fun ls hl => ?_)
      refine lv_aload_n hx hb dX2_setsWithGapOf_72 rfl (lv_at hl 1 rfl) ?_
      refine lv_iload hx hb dX2_setsWithGapOf_73 (lv_at hl 9 rfl) ?_
      refine ro_Vi (C := RX2) (As := [.int i10]) (rest := []) ⟨hx, hb, hml, hown, hts⟩ hE va_S.rf hP [0, 2, 3] (c_X2_excessOf l D cI cB cJ cZ aK aV N q_this q_people q_didWith q_didWithout q_conditions size didWith didWithout i10 h) (cwV 1 hts gX2_setsWithGapOf_X2_excessOf rfl rfl rfl (by decide +kernel) ⟨(Nat.le_of_ble_eq_true rfl), (Nat.le_of_ble_eq_true rfl)⟩) rfl 0 rfl rfl rfl hl.1 rfl (Nat.le_of_ble_eq_true rfl) dX2_setsWithGapOf_75 ⟨Nat.zero_le _, Nat.zero_le _⟩ (fun r15 h => ?_)
      refine lv_iload hx hb dX2_setsWithGapOf_78 (lv_at hl 6 rfl) ?_
      refine lv_imul hx hb dX2_setsWithGapOf_80 ?_
      refine lv_iload hx hb dX2_setsWithGapOf_81 (lv_at hl 7 rfl) ?_
      refine lv_iload hx hb dX2_setsWithGapOf_83 (lv_at hl 0 rfl) ?_
      refine lv_imul hx hb dX2_setsWithGapOf_85 ?_
      refine lv_isub hx hb dX2_setsWithGapOf_86 ?_
      refine lv_topi (fun v16 ex => ?_)
      have h := nm_of ex h
      refine lv_istore (lv' := [(13, .int v16), (12, .int r14), (0, .ref q_this), (2, .int r1), (3, .long v3), (5, .long v5), (7, .int r6), (8, .int r7), (9, .int r8), (10, .int i9), (11, .int i10)]) hx hb dX2_setsWithGapOf_87 hl (by decide) rfl (fun ls hl => ?_)
      refine lv_iload hx hb dX2_setsWithGapOf_89 (lv_at hl 1 rfl) ?_
      refine lv_iload hx hb dX2_setsWithGapOf_91 (lv_at hl 7 rfl) ?_
      refine lv_iload hx hb dX2_setsWithGapOf_93 (lv_at hl 1 rfl) ?_
      refine lv_isub hx hb dX2_setsWithGapOf_95 ?_
      refine lv_imul hx hb dX2_setsWithGapOf_96 ?_
      refine lv_topi (fun v17 ex => ?_)
      have h := nm_of ex h
      refine lv_istore (lv' := [(14, .int v17), (13, .int v16), (12, .int r14), (0, .ref q_this), (2, .int r1), (3, .long v3), (5, .long v5), (7, .int r6), (8, .int r7), (9, .int r8), (10, .int i9), (11, .int i10)]) hx hb dX2_setsWithGapOf_97 hl (by decide) rfl (fun ls hl => ?_)
      refine lv_iload hx hb dX2_setsWithGapOf_99 (lv_at hl 10 rfl) ?_
      refine lv_iload hx hb dX2_setsWithGapOf_101 (lv_at hl 1 rfl) ?_
      refine lv_i2l (v := v16.toInt64) hx hb dX2_setsWithGapOf_103 rfl ?_
      refine lv_lload hx hb dX2_setsWithGapOf_104 (lv_at hl 6 rfl) ?_
      refine lv_lmul hx hb dX2_setsWithGapOf_106 ?_
      refine lv_lload_n hx hb dX2_setsWithGapOf_107 rfl (lv_at hl 5 rfl) ?_
      refine lv_iload hx hb dX2_setsWithGapOf_108 (lv_at hl 0 rfl) ?_
      refine lv_i2l (v := v17.toInt64) hx hb dX2_setsWithGapOf_110 rfl ?_
      refine lv_lmul hx hb dX2_setsWithGapOf_111 ?_
      refine W.lcmp hx hb dX2_setsWithGapOf_112 ?_
      refine lv_if_lt (tgt := 120) hx hb dX2_setsWithGapOf_113 (by decide) (fun c1 => ?_) (fun c1 => ?_)
      · have h := ite_t c1 h
        refine lv_iconst (v := 0) hx hb dX2_setsWithGapOf_120 (by decide) ?_
        exact w_X2_setsWithGapOf_J121 l D cI cB cJ cZ aK aV N q_this x1 post C0 q_people q_didWith q_didWithout q_conditions size people didWith didWithout r1 v3 v5 r6 r7 r8 i9 i10 kb48 hkb48 0 h hP ls (lv_sub hl [3, 4, 5, 6, 7, 8, 9, 11] rfl)
      · have h := ite_f c1 h
        refine lv_iconst (v := 1) hx hb dX2_setsWithGapOf_116 (by decide) ?_
        refine lv_goto (tgt := 121) hx hb dX2_setsWithGapOf_117 (by decide) ?_
        exact w_X2_setsWithGapOf_J121 l D cI cB cJ cZ aK aV N q_this x1 post C0 q_people q_didWith q_didWithout q_conditions size people didWith didWithout r1 v3 v5 r6 r7 r8 i9 i10 kb48 hkb48 1 h hP ls (lv_sub hl [3, 4, 5, 6, 7, 8, 9, 11] rfl)
set_option maxHeartbeats 4000000 in
set_option maxRecDepth 100000 in
theorem w_X2_setsWithGapOf_L48 (l : Launch) (D : va_G) (cI cB cJ cZ : ClassId) (aK aV : Nat → Nat) (N : Nat) {p : Program} {e : Env} {s : State} {m : MethodId} {below : List Frame} {meth : Method} {c : Code} (q_this : Nat) (x1 : Int32) (post : Int32 → Prop) (C0 : Cx p s m meth c ([.ref q_this, .int x1] : List Value).toArray cX2_setsWithGapOf 15 yX2_setsWithGapOf.cls yX2_setsWithGapOf.name (some .int) wsX2_setsWithGapOf D cI cB cJ cZ aK aV (fun _ => False)) (q_people : Nat) (q_didWith : Nat) (q_didWithout : Nat) (q_conditions : Nat) (size : Int32) (people : Nat → Int32) (didWith : Nat → Int32) (didWithout : Nat → Int32) (r1 : Int32) (v3 : Int64) (v5 : Int64) (r6 : Int32) (r7 : Int32) (r8 : Int32) (ke48 : Int32 → Int32 → Prop) (hke48 : ∀ (i9_ : Int32) (i10_ : Int32), ke48 i9_ i10_ → ∀ ls : Array Slot, lv_has ls 15 [(10, .int i9_)] → W p l e { frames := 2, cells := 0, slots := 0, locals := 44 } s m ([.ref q_this, .int x1] : List Value).toArray below meth c s.heap [] 0 0 (MQ below (vp_Si post) ([.ref q_this, .int x1] : List Value).toArray s 0 0 (fun _ => False)) (F0 m 130 ls [])) (hP : va_P D vwCl [(q_this, .inr (2, [.ref q_people, .ref q_didWith, .ref q_didWithout, .ref q_conditions, .int size])), (q_people, .inl (cI, 12, .inl people)), (q_didWith, .inl (cI, 12, .inl didWith)), (q_didWithout, .inl (cI, 12, .inl didWithout))] s.heap) : ∀ (n_ : Nat) (i9 : Int32) (i10 : Int32), f_X2_setsWithGapOf_L48 N size people didWith didWithout r1 v3 v5 r6 r7 r8 ke48 n_ i9 i10 → ∀ ls : Array Slot, lv_has ls 15 [(0, .ref q_this), (2, .int r1), (3, .long v3), (5, .long v5), (7, .int r6), (8, .int r7), (9, .int r8), (10, .int i9), (11, .int i10)] → W p l e { frames := 2, cells := 0, slots := 0, locals := 44 } s m ([.ref q_this, .int x1] : List Value).toArray below meth c s.heap [] 0 0 (MQ below (vp_Si post) ([.ref q_this, .int x1] : List Value).toArray s 0 0 (fun _ => False)) (F0 m 48 ls []) := by
  intro n_
  induction n_ with
  | zero => intro i9 i10 h; exact h.elim
  | succ n_ ih =>
    intro i9 i10 h ls hl
    exact w_X2_setsWithGapOf_B48 l D cI cB cJ cZ aK aV N q_this x1 post C0 q_people q_didWith q_didWithout q_conditions size people didWith didWithout r1 v3 v5 r6 r7 r8 (f_X2_setsWithGapOf_L48 N size people didWith didWithout r1 v3 v5 r6 r7 r8 ke48 n_) ih ke48 hke48 i9 i10 h hP ls hl
set_option maxHeartbeats 4000000 in
set_option maxRecDepth 100000 in
theorem c_X2_setsWithGapOf (l : Launch) (D : va_G) (cI cB cJ cZ : ClassId) (aK aV : Nat → Nat) (N : Nat) (q_this : Nat) (q_people : Nat) (q_didWith : Nat) (q_didWithout : Nat) (q_conditions : Nat) (size : Int32) (people : Nat → Int32) (didWith : Nat → Int32) (didWithout : Nat → Int32) (x1 : Int32) {post : Int32 → Prop} (h : f_X2_setsWithGapOf N size people didWith didWithout x1 post) : Met l yX2_setsWithGapOf wsX2_setsWithGapOf { frames := 2, cells := 0, slots := 0, locals := 44 } (PR D cI cB cJ cZ aK aV [.ref q_this, .int x1] [(q_this, .inr (2, [.ref q_people, .ref q_didWith, .ref q_didWithout, .ref q_conditions, .int size])), (q_people, .inl (cI, 12, .inl people)), (q_didWith, .inl (cI, 12, .inl didWith)), (q_didWithout, .inl (cI, 12, .inl didWithout))]) (vp_Si post) 0 0 (fun _ => False) := by
  refine ro_enter (cc := cX2_setsWithGapOf) (maxL := 15) (ret := (some .int)) (by decide) rfl (Nat.le_of_ble_eq_true rfl) ?_
  intro p e s m below meth c C0 hP ls hl
  have hl : lv_has ls 15 [(0, .ref q_this), (1, .int x1)] := hl
  unfold f_X2_setsWithGapOf at h
  obtain ⟨hx, hb, hr, hml, hown, hts, hE, hlk, hnm⟩ := id C0
  refine lv_iload_n hx hb dX2_setsWithGapOf_0 rfl (lv_at hl 1 rfl) ?_
  refine ro_Si (As := [.int x1]) (rest := []) ⟨hx, hb, hml, hown, hts⟩ hE va_S.rf (c_J6_bitCount_0f7a4 l D cI cB cJ cZ aK aV N x1 h) (va_cwS 1 hts gX2_setsWithGapOf_J6_bitCount_0f7a4 rfl rfl rfl (by decide +kernel) ⟨(Nat.le_of_ble_eq_true rfl), (Nat.le_of_ble_eq_true rfl)⟩) rfl hl.1 rfl (Nat.le_of_ble_eq_true rfl) dX2_setsWithGapOf_1 ⟨Nat.zero_le _, Nat.zero_le _⟩ (fun r1 h => ?_)
  refine lv_istore_n (lv' := [(2, .int r1), (0, .ref q_this), (1, .int x1)]) hx hb dX2_setsWithGapOf_4 rfl hl (by decide) rfl (fun ls hl => ?_)
  refine lv_aload_n hx hb dX2_setsWithGapOf_5 rfl (lv_at hl 1 rfl) ?_
  refine lv_iload_n hx hb dX2_setsWithGapOf_6 rfl (lv_at hl 2 rfl) ?_
  refine ro_Vi (C := RX2) (As := [.int x1]) (rest := []) ⟨hx, hb, hml, hown, hts⟩ hE va_S.rf hP [0, 1, 2, 3] (c_X2_gapUpper l D cI cB cJ cZ aK aV N q_this q_people q_didWith q_didWithout q_conditions size people didWith didWithout x1 h) (cwV 1 hts gX2_setsWithGapOf_X2_gapUpper rfl rfl rfl (by decide +kernel) ⟨(Nat.le_of_ble_eq_true rfl), (Nat.le_of_ble_eq_true rfl)⟩) rfl 0 rfl rfl rfl hl.1 rfl (Nat.le_of_ble_eq_true rfl) dX2_setsWithGapOf_7 ⟨Nat.zero_le _, Nat.zero_le _⟩ (fun r2 h => ?_)
  refine lv_i2l (v := r2.toInt64) hx hb dX2_setsWithGapOf_10 rfl ?_
  refine lv_topl (fun v3 ex => ?_)
  have h := nm_of ex h
  refine lv_lstore_n (lv' := [(3, .long v3), (2, .int r1), (0, .ref q_this), (1, .int x1)]) hx hb dX2_setsWithGapOf_11 rfl hl (by decide) rfl (fun ls hl => ?_)
  refine lv_aload_n hx hb dX2_setsWithGapOf_12 rfl (lv_at hl 2 rfl) ?_
  refine lv_iload_n hx hb dX2_setsWithGapOf_13 rfl (lv_at hl 3 rfl) ?_
  refine ro_Vi (C := RX2) (As := [.int x1]) (rest := []) ⟨hx, hb, hml, hown, hts⟩ hE va_S.rf hP [0, 1] (c_X2_gapLower l D cI cB cJ cZ aK aV N q_this q_people q_didWith q_didWithout q_conditions size people x1 h) (cwV 1 hts gX2_setsWithGapOf_X2_gapLower rfl rfl rfl (by decide +kernel) ⟨(Nat.le_of_ble_eq_true rfl), (Nat.le_of_ble_eq_true rfl)⟩) rfl 0 rfl rfl rfl hl.1 rfl (Nat.le_of_ble_eq_true rfl) dX2_setsWithGapOf_14 ⟨Nat.zero_le _, Nat.zero_le _⟩ (fun r4 h => ?_)
  refine lv_i2l (v := r4.toInt64) hx hb dX2_setsWithGapOf_17 rfl ?_
  refine lv_topl (fun v5 ex => ?_)
  have h := nm_of ex h
  refine lv_lstore (lv' := [(5, .long v5), (3, .long v3), (2, .int r1), (0, .ref q_this), (1, .int x1)]) hx hb dX2_setsWithGapOf_18 hl (by decide) rfl (fun ls hl => ?_)
  refine lv_aload_n hx hb dX2_setsWithGapOf_20 rfl (lv_at hl 3 rfl) ?_
  refine ro_Vi (C := RX2) (As := []) (rest := []) ⟨hx, hb, hml, hown, hts⟩ hE va_S.rf hP [0] (c_X2_all l D cI cB cJ cZ aK aV N q_this q_people q_didWith q_didWithout q_conditions size h) (cwV 0 hts gX2_setsWithGapOf_X2_all rfl rfl rfl (by decide +kernel) ⟨(Nat.le_of_ble_eq_true rfl), (Nat.le_of_ble_eq_true rfl)⟩) rfl 0 rfl rfl rfl hl.1 rfl (Nat.le_of_ble_eq_true rfl) dX2_setsWithGapOf_21 ⟨Nat.zero_le _, Nat.zero_le _⟩ (fun r6 h => ?_)
  refine lv_istore (lv' := [(7, .int r6), (5, .long v5), (3, .long v3), (2, .int r1), (0, .ref q_this), (1, .int x1)]) hx hb dX2_setsWithGapOf_24 hl (by decide) rfl (fun ls hl => ?_)
  refine lv_aload_n hx hb dX2_setsWithGapOf_26 rfl (lv_at hl 4 rfl) ?_
  refine lv_iload hx hb dX2_setsWithGapOf_27 (lv_at hl 0 rfl) ?_
  refine ro_Vi (C := RX2) (As := [.int r6]) (rest := []) ⟨hx, hb, hml, hown, hts⟩ hE va_S.rf hP [0, 1] (c_X2_peopleOf l D cI cB cJ cZ aK aV N q_this q_people q_didWith q_didWithout q_conditions size people r6 h) (cwV 1 hts gX2_setsWithGapOf_X2_peopleOf rfl rfl rfl (by decide +kernel) ⟨(Nat.le_of_ble_eq_true rfl), (Nat.le_of_ble_eq_true rfl)⟩) rfl 0 rfl rfl rfl hl.1 rfl (Nat.le_of_ble_eq_true rfl) dX2_setsWithGapOf_29 ⟨Nat.zero_le _, Nat.zero_le _⟩ (fun r7 h => ?_)
  refine lv_istore (lv' := [(8, .int r7), (7, .int r6), (5, .long v5), (3, .long v3), (2, .int r1), (0, .ref q_this), (1, .int x1)]) hx hb dX2_setsWithGapOf_32 hl (by decide) rfl (fun ls hl => ?_)
  refine lv_aload_n hx hb dX2_setsWithGapOf_34 rfl (lv_at hl 5 rfl) ?_
  refine lv_iload hx hb dX2_setsWithGapOf_35 (lv_at hl 1 rfl) ?_
  refine ro_Vi (C := RX2) (As := [.int r6]) (rest := []) ⟨hx, hb, hml, hown, hts⟩ hE va_S.rf hP [0, 2, 3] (c_X2_excessOf l D cI cB cJ cZ aK aV N q_this q_people q_didWith q_didWithout q_conditions size didWith didWithout r6 h) (cwV 1 hts gX2_setsWithGapOf_X2_excessOf rfl rfl rfl (by decide +kernel) ⟨(Nat.le_of_ble_eq_true rfl), (Nat.le_of_ble_eq_true rfl)⟩) rfl 0 rfl rfl rfl hl.1 rfl (Nat.le_of_ble_eq_true rfl) dX2_setsWithGapOf_37 ⟨Nat.zero_le _, Nat.zero_le _⟩ (fun r8 h => ?_)
  refine lv_istore (lv' := [(9, .int r8), (8, .int r7), (7, .int r6), (5, .long v5), (3, .long v3), (2, .int r1), (0, .ref q_this), (1, .int x1)]) hx hb dX2_setsWithGapOf_40 hl (by decide) rfl (fun ls hl => ?_)
  refine lv_iconst (v := 0) hx hb dX2_setsWithGapOf_42 (by decide) ?_
  refine lv_istore (lv' := [(10, .int 0), (9, .int r8), (8, .int r7), (7, .int r6), (5, .long v5), (3, .long v3), (2, .int r1), (0, .ref q_this), (1, .int x1)]) hx hb dX2_setsWithGapOf_43 hl (by decide) rfl (fun ls hl => ?_)
  refine lv_iconst (v := 0) hx hb dX2_setsWithGapOf_45 (by decide) ?_
  refine lv_istore (lv' := [(11, .int 0), (10, .int 0), (9, .int r8), (8, .int r7), (7, .int r6), (5, .long v5), (3, .long v3), (2, .int r1), (0, .ref q_this), (1, .int x1)]) hx hb dX2_setsWithGapOf_46 hl (by decide) rfl (fun ls hl => ?_)
  refine w_X2_setsWithGapOf_L48 l D cI cB cJ cZ aK aV N q_this x1 post C0 q_people q_didWith q_didWithout q_conditions size people didWith didWithout r1 v3 v5 r6 r7 r8 _ (fun o20 o21 h ls hl => ?_) hP N 0 0 h ls (lv_sub hl [8, 7, 6, 5, 4, 3, 2, 1, 0] rfl)
  refine lv_iload hx hb dX2_setsWithGapOf_130 (lv_at hl 0 rfl) ?_
  exact ro_iret hx hb hr hlk h dX2_setsWithGapOf_132
set_option maxHeartbeats 4000000 in
set_option maxRecDepth 100000 in
theorem w_X2_conditionsWithGapOf_J71 (l : Launch) (D : va_G) (cI cB cJ cZ : ClassId) (aK aV : Nat → Nat) (N : Nat) {p : Program} {e : Env} {s : State} {m : MethodId} {below : List Frame} {meth : Method} {c : Code} (q_this : Nat) (x1 : Int32) (post : Int32 → Prop) (C0 : Cx p s m meth c ([.ref q_this, .int x1] : List Value).toArray cX2_conditionsWithGapOf 9 yX2_conditionsWithGapOf.cls yX2_conditionsWithGapOf.name (some .int) wsX2_conditionsWithGapOf D cI cB cJ cZ aK aV (fun _ => False)) (q_people : Nat) (q_didWith : Nat) (q_didWithout : Nat) (q_conditions : Nat) (size : Int32) (people : Nat → Int32) (didWith : Nat → Int32) (didWithout : Nat → Int32) (conditions : Nat → Int32) (v2 : Int64) (v4 : Int64) (i6 : Int32) (kb21 : Int32 → Int32 → Prop) (hkb21 : ∀ (i5_ : Int32) (i6_ : Int32), kb21 i5_ i6_ → ∀ ls : Array Slot, lv_has ls 9 [(0, .ref q_this), (2, .long v2), (4, .long v4), (6, .int i5_), (7, .int i6_)] → W p l e { frames := 2, cells := 0, slots := 0, locals := 45 } s m ([.ref q_this, .int x1] : List Value).toArray below meth c s.heap [] 0 0 (MQ below (vp_Si post) ([.ref q_this, .int x1] : List Value).toArray s 0 0 (fun _ => False)) (F0 m 21 ls [])) (j9 : Int32) (h : f_X2_conditionsWithGapOf_J71 N i6 kb21 j9) (hP : va_P D vwCl [(q_this, .inr (2, [.ref q_people, .ref q_didWith, .ref q_didWithout, .ref q_conditions, .int size])), (q_people, .inl (cI, 12, .inl people)), (q_didWith, .inl (cI, 12, .inl didWith)), (q_didWithout, .inl (cI, 12, .inl didWithout)), (q_conditions, .inl (cI, 12, .inl conditions))] s.heap) (ls : Array Slot) (hl : lv_has ls 9 [(0, .ref q_this), (2, .long v2), (4, .long v4), (6, .int j9), (7, .int i6)]) : W p l e { frames := 2, cells := 0, slots := 0, locals := 45 } s m ([.ref q_this, .int x1] : List Value).toArray below meth c s.heap [] 0 0 (MQ below (vp_Si post) ([.ref q_this, .int x1] : List Value).toArray s 0 0 (fun _ => False)) (F0 m 71 ls []) := by
  obtain ⟨hx, hb, hr, hml, hown, hts, hE, hlk, hnm⟩ := id C0
  unfold f_X2_conditionsWithGapOf_J71 at h
  obtain ⟨v10, ex⟩ : ∃ y : Int32, y = (i6 + 1) := ⟨_, rfl⟩
  have h := nm_of ex h
  refine lv_iinc (v := v10) (lv' := [(7, .int v10), (0, .ref q_this), (2, .long v2), (4, .long v4), (6, .int j9)]) hx hb dX2_conditionsWithGapOf_71 hl (k := 4) rfl (by rw [ex]; rfl) (by decide) rfl (fun ls hl => ?_)
  refine lv_goto (tgt := 21) hx hb dX2_conditionsWithGapOf_74 (by decide) ?_
  exact hkb21 j9 v10 h ls (lv_sub hl [1, 2, 3, 4, 0] rfl)
set_option maxHeartbeats 4000000 in
set_option maxRecDepth 100000 in
theorem w_X2_conditionsWithGapOf_B21 (l : Launch) (D : va_G) (cI cB cJ cZ : ClassId) (aK aV : Nat → Nat) (N : Nat) {p : Program} {e : Env} {s : State} {m : MethodId} {below : List Frame} {meth : Method} {c : Code} (q_this : Nat) (x1 : Int32) (post : Int32 → Prop) (C0 : Cx p s m meth c ([.ref q_this, .int x1] : List Value).toArray cX2_conditionsWithGapOf 9 yX2_conditionsWithGapOf.cls yX2_conditionsWithGapOf.name (some .int) wsX2_conditionsWithGapOf D cI cB cJ cZ aK aV (fun _ => False)) (q_people : Nat) (q_didWith : Nat) (q_didWithout : Nat) (q_conditions : Nat) (size : Int32) (people : Nat → Int32) (didWith : Nat → Int32) (didWithout : Nat → Int32) (conditions : Nat → Int32) (v2 : Int64) (v4 : Int64) (kb21 : Int32 → Int32 → Prop) (hkb21 : ∀ (i5_ : Int32) (i6_ : Int32), kb21 i5_ i6_ → ∀ ls : Array Slot, lv_has ls 9 [(0, .ref q_this), (2, .long v2), (4, .long v4), (6, .int i5_), (7, .int i6_)] → W p l e { frames := 2, cells := 0, slots := 0, locals := 45 } s m ([.ref q_this, .int x1] : List Value).toArray below meth c s.heap [] 0 0 (MQ below (vp_Si post) ([.ref q_this, .int x1] : List Value).toArray s 0 0 (fun _ => False)) (F0 m 21 ls [])) (ke21 : Int32 → Int32 → Prop) (hke21 : ∀ (i5_ : Int32) (i6_ : Int32), ke21 i5_ i6_ → ∀ ls : Array Slot, lv_has ls 9 [(6, .int i5_)] → W p l e { frames := 2, cells := 0, slots := 0, locals := 45 } s m ([.ref q_this, .int x1] : List Value).toArray below meth c s.heap [] 0 0 (MQ below (vp_Si post) ([.ref q_this, .int x1] : List Value).toArray s 0 0 (fun _ => False)) (F0 m 77 ls [])) (i5 : Int32) (i6 : Int32) (h : f_X2_conditionsWithGapOf_B21 N size people didWith didWithout conditions v2 v4 kb21 ke21 i5 i6) (hP : va_P D vwCl [(q_this, .inr (2, [.ref q_people, .ref q_didWith, .ref q_didWithout, .ref q_conditions, .int size])), (q_people, .inl (cI, 12, .inl people)), (q_didWith, .inl (cI, 12, .inl didWith)), (q_didWithout, .inl (cI, 12, .inl didWithout)), (q_conditions, .inl (cI, 12, .inl conditions))] s.heap) (ls : Array Slot) (hl : lv_has ls 9 [(0, .ref q_this), (2, .long v2), (4, .long v4), (6, .int i5), (7, .int i6)]) : W p l e { frames := 2, cells := 0, slots := 0, locals := 45 } s m ([.ref q_this, .int x1] : List Value).toArray below meth c s.heap [] 0 0 (MQ below (vp_Si post) ([.ref q_this, .int x1] : List Value).toArray s 0 0 (fun _ => False)) (F0 m 21 ls []) := by
  obtain ⟨hx, hb, hr, hml, hown, hts, hE, hlk, hnm⟩ := id C0
  unfold f_X2_conditionsWithGapOf_B21 at h
  refine lv_iload hx hb dX2_conditionsWithGapOf_21 (lv_at hl 4 rfl) ?_
  refine lv_bipush (v := 6) hx hb dX2_conditionsWithGapOf_23 (by decide) ?_
  refine lv_icmp_ge (tgt := 77) hx hb dX2_conditionsWithGapOf_25 (by decide) (fun c1 => ?_) (fun c1 => ?_)
  · have h := ite_t c1 h
    exact hke21 i5 i6 h ls (lv_sub hl [3] rfl)
  · have h := ite_f c1 h
    refine lv_aload_n hx hb dX2_conditionsWithGapOf_28 rfl (lv_at hl 0 rfl) ?_
    refine lv_iload hx hb dX2_conditionsWithGapOf_29 (lv_at hl 4 rfl) ?_
    refine ro_Vi (C := RX2) (As := [.int i6]) (rest := []) ⟨hx, hb, hml, hown, hts⟩ hE va_S.rf hP [0, 4] (c_X2_having l D cI cB cJ cZ aK aV N q_this q_people q_didWith q_didWithout q_conditions size conditions i6 h) (cwV 1 hts gX2_conditionsWithGapOf_X2_having rfl rfl rfl (by decide +kernel) ⟨(Nat.le_of_ble_eq_true rfl), (Nat.le_of_ble_eq_true rfl)⟩) rfl 0 rfl rfl rfl hl.1 rfl (Nat.le_of_ble_eq_true rfl) dX2_conditionsWithGapOf_31 ⟨Nat.zero_le _, Nat.zero_le _⟩ (fun r7 h => ?_)
    refine lv_istore (lv' := [(8, .int r7), (0, .ref q_this), (2, .long v2), (4, .long v4), (6, .int i5), (7, .int i6)]) hx hb dX2_conditionsWithGapOf_34 hl (by decide) rfl (fun ls hl => ?_)
    refine lv_aload_n hx hb dX2_conditionsWithGapOf_36 rfl (lv_at hl 1 rfl) ?_
    refine lv_iload hx hb dX2_conditionsWithGapOf_37 (lv_at hl 5 rfl) ?_
    refine ro_Vi (C := RX2) (As := [.int i6]) (rest := []) ⟨hx, hb, hml, hown, hts⟩ hE va_S.rf hP [0, 4] (c_X2_isParted l D cI cB cJ cZ aK aV N q_this q_people q_didWith q_didWithout q_conditions size conditions i6 h) (cwV 1 hts gX2_conditionsWithGapOf_X2_isParted rfl rfl rfl (by decide +kernel) ⟨(Nat.le_of_ble_eq_true rfl), (Nat.le_of_ble_eq_true rfl)⟩) rfl 0 rfl rfl rfl hl.1 rfl (Nat.le_of_ble_eq_true rfl) dX2_conditionsWithGapOf_39 ⟨Nat.zero_le _, Nat.zero_le _⟩ (fun r8 h => ?_)
    obtain ⟨h, nbr8⟩ := h
    refine lv_if_eq (tgt := 71) hx hb dX2_conditionsWithGapOf_42 (by decide) (fun c1 => ?_) (fun c1 => ?_)
    · have h := ite_t c1 h
      exact w_X2_conditionsWithGapOf_J71 l D cI cB cJ cZ aK aV N q_this x1 post C0 q_people q_didWith q_didWithout q_conditions size people didWith didWithout conditions v2 v4 i6 kb21 hkb21 i5 h hP ls (lv_sub hl [1, 2, 3, 4, 5] rfl)
    · have h := ite_f c1 h
      refine lv_aload_n hx hb dX2_conditionsWithGapOf_45 rfl (lv_at hl 1 rfl) ?_
      refine lv_iload hx hb dX2_conditionsWithGapOf_46 (lv_at hl 0 rfl) ?_
      refine ro_Vi (C := RX2) (As := [.int r7]) (rest := []) ⟨hx, hb, hml, hown, hts⟩ hE va_S.rf hP [0, 1, 2, 3] (c_X2_gapUpper l D cI cB cJ cZ aK aV N q_this q_people q_didWith q_didWithout q_conditions size people didWith didWithout r7 h) (cwV 1 hts gX2_conditionsWithGapOf_X2_gapUpper rfl rfl rfl (by decide +kernel) ⟨(Nat.le_of_ble_eq_true rfl), (Nat.le_of_ble_eq_true rfl)⟩) rfl 0 rfl rfl rfl hl.1 rfl (Nat.le_of_ble_eq_true rfl) dX2_conditionsWithGapOf_48 ⟨Nat.zero_le _, Nat.zero_le _⟩ (fun r11 h => ?_)
      refine lv_i2l (v := r11.toInt64) hx hb dX2_conditionsWithGapOf_51 rfl ?_
      refine lv_lload hx hb dX2_conditionsWithGapOf_52 (lv_at hl 3 rfl) ?_
      refine lv_lmul hx hb dX2_conditionsWithGapOf_54 ?_
      refine lv_lload_n hx hb dX2_conditionsWithGapOf_55 rfl (lv_at hl 2 rfl) ?_
      refine lv_aload_n hx hb dX2_conditionsWithGapOf_56 rfl (lv_at hl 1 rfl) ?_
      refine lv_iload hx hb dX2_conditionsWithGapOf_57 (lv_at hl 0 rfl) ?_
      refine ro_Vi (C := RX2) (As := [.int r7]) (rest := [.long v2, .long (r11.toInt64 * v4)]) ⟨hx, hb, hml, hown, hts⟩ hE va_S.rf hP [0, 1] (c_X2_gapLower l D cI cB cJ cZ aK aV N q_this q_people q_didWith q_didWithout q_conditions size people r7 h) (cwV 1 hts gX2_conditionsWithGapOf_X2_gapLower rfl rfl rfl (by decide +kernel) ⟨(Nat.le_of_ble_eq_true rfl), (Nat.le_of_ble_eq_true rfl)⟩) rfl 0 rfl rfl rfl hl.1 rfl (Nat.le_of_ble_eq_true rfl) dX2_conditionsWithGapOf_59 ⟨Nat.zero_le _, Nat.zero_le _⟩ (fun r12 h => ?_)
      refine lv_i2l (v := r12.toInt64) hx hb dX2_conditionsWithGapOf_62 rfl ?_
      refine lv_lmul hx hb dX2_conditionsWithGapOf_63 ?_
      refine W.lcmp hx hb dX2_conditionsWithGapOf_64 ?_
      refine lv_if_lt (tgt := 71) hx hb dX2_conditionsWithGapOf_65 (by decide) (fun c1 => ?_) (fun c1 => ?_)
      · have h := ite_t c1 h
        exact w_X2_conditionsWithGapOf_J71 l D cI cB cJ cZ aK aV N q_this x1 post C0 q_people q_didWith q_didWithout q_conditions size people didWith didWithout conditions v2 v4 i6 kb21 hkb21 i5 h hP ls (lv_sub hl [1, 2, 3, 4, 5] rfl)
      · have h := ite_f c1 h
        obtain ⟨v13, ex⟩ : ∃ y : Int32, y = (i5 + 1) := ⟨_, rfl⟩
        have h := nm_of ex h
        refine lv_iinc (v := v13) (lv' := [(6, .int v13), (8, .int r7), (0, .ref q_this), (2, .long v2), (4, .long v4), (7, .int i6)]) hx hb dX2_conditionsWithGapOf_68 hl (k := 4) rfl (by rw [ex]; rfl) (by decide) rfl (fun ls hl => ?_)
        exact w_X2_conditionsWithGapOf_J71 l D cI cB cJ cZ aK aV N q_this x1 post C0 q_people q_didWith q_didWithout q_conditions size people didWith didWithout conditions v2 v4 i6 kb21 hkb21 v13 h hP ls (lv_sub hl [2, 3, 4, 0, 5] rfl)
set_option maxHeartbeats 4000000 in
set_option maxRecDepth 100000 in
theorem w_X2_conditionsWithGapOf_L21 (l : Launch) (D : va_G) (cI cB cJ cZ : ClassId) (aK aV : Nat → Nat) (N : Nat) {p : Program} {e : Env} {s : State} {m : MethodId} {below : List Frame} {meth : Method} {c : Code} (q_this : Nat) (x1 : Int32) (post : Int32 → Prop) (C0 : Cx p s m meth c ([.ref q_this, .int x1] : List Value).toArray cX2_conditionsWithGapOf 9 yX2_conditionsWithGapOf.cls yX2_conditionsWithGapOf.name (some .int) wsX2_conditionsWithGapOf D cI cB cJ cZ aK aV (fun _ => False)) (q_people : Nat) (q_didWith : Nat) (q_didWithout : Nat) (q_conditions : Nat) (size : Int32) (people : Nat → Int32) (didWith : Nat → Int32) (didWithout : Nat → Int32) (conditions : Nat → Int32) (v2 : Int64) (v4 : Int64) (ke21 : Int32 → Int32 → Prop) (hke21 : ∀ (i5_ : Int32) (i6_ : Int32), ke21 i5_ i6_ → ∀ ls : Array Slot, lv_has ls 9 [(6, .int i5_)] → W p l e { frames := 2, cells := 0, slots := 0, locals := 45 } s m ([.ref q_this, .int x1] : List Value).toArray below meth c s.heap [] 0 0 (MQ below (vp_Si post) ([.ref q_this, .int x1] : List Value).toArray s 0 0 (fun _ => False)) (F0 m 77 ls [])) (hP : va_P D vwCl [(q_this, .inr (2, [.ref q_people, .ref q_didWith, .ref q_didWithout, .ref q_conditions, .int size])), (q_people, .inl (cI, 12, .inl people)), (q_didWith, .inl (cI, 12, .inl didWith)), (q_didWithout, .inl (cI, 12, .inl didWithout)), (q_conditions, .inl (cI, 12, .inl conditions))] s.heap) : ∀ (n_ : Nat) (i5 : Int32) (i6 : Int32), f_X2_conditionsWithGapOf_L21 N size people didWith didWithout conditions v2 v4 ke21 n_ i5 i6 → ∀ ls : Array Slot, lv_has ls 9 [(0, .ref q_this), (2, .long v2), (4, .long v4), (6, .int i5), (7, .int i6)] → W p l e { frames := 2, cells := 0, slots := 0, locals := 45 } s m ([.ref q_this, .int x1] : List Value).toArray below meth c s.heap [] 0 0 (MQ below (vp_Si post) ([.ref q_this, .int x1] : List Value).toArray s 0 0 (fun _ => False)) (F0 m 21 ls []) := by
  intro n_
  induction n_ with
  | zero => intro i5 i6 h; exact h.elim
  | succ n_ ih =>
    intro i5 i6 h ls hl
    exact w_X2_conditionsWithGapOf_B21 l D cI cB cJ cZ aK aV N q_this x1 post C0 q_people q_didWith q_didWithout q_conditions size people didWith didWithout conditions v2 v4 (f_X2_conditionsWithGapOf_L21 N size people didWith didWithout conditions v2 v4 ke21 n_) ih ke21 hke21 i5 i6 h hP ls hl
set_option maxHeartbeats 4000000 in
set_option maxRecDepth 100000 in
theorem c_X2_conditionsWithGapOf (l : Launch) (D : va_G) (cI cB cJ cZ : ClassId) (aK aV : Nat → Nat) (N : Nat) (q_this : Nat) (q_people : Nat) (q_didWith : Nat) (q_didWithout : Nat) (q_conditions : Nat) (size : Int32) (people : Nat → Int32) (didWith : Nat → Int32) (didWithout : Nat → Int32) (conditions : Nat → Int32) (x1 : Int32) {post : Int32 → Prop} (h : f_X2_conditionsWithGapOf N size people didWith didWithout conditions x1 post) : Met l yX2_conditionsWithGapOf wsX2_conditionsWithGapOf { frames := 2, cells := 0, slots := 0, locals := 45 } (PR D cI cB cJ cZ aK aV [.ref q_this, .int x1] [(q_this, .inr (2, [.ref q_people, .ref q_didWith, .ref q_didWithout, .ref q_conditions, .int size])), (q_people, .inl (cI, 12, .inl people)), (q_didWith, .inl (cI, 12, .inl didWith)), (q_didWithout, .inl (cI, 12, .inl didWithout)), (q_conditions, .inl (cI, 12, .inl conditions))]) (vp_Si post) 0 0 (fun _ => False) := by
  refine ro_enter (cc := cX2_conditionsWithGapOf) (maxL := 9) (ret := (some .int)) (by decide) rfl (Nat.le_of_ble_eq_true rfl) ?_
  intro p e s m below meth c C0 hP ls hl
  have hl : lv_has ls 9 [(0, .ref q_this), (1, .int x1)] := hl
  unfold f_X2_conditionsWithGapOf at h
  obtain ⟨hx, hb, hr, hml, hown, hts, hE, hlk, hnm⟩ := id C0
  refine lv_aload_n hx hb dX2_conditionsWithGapOf_0 rfl (lv_at hl 0 rfl) ?_
  refine lv_iload_n hx hb dX2_conditionsWithGapOf_1 rfl (lv_at hl 1 rfl) ?_
  refine ro_Vi (C := RX2) (As := [.int x1]) (rest := []) ⟨hx, hb, hml, hown, hts⟩ hE va_S.rf hP [0, 1, 2, 3] (c_X2_gapUpper l D cI cB cJ cZ aK aV N q_this q_people q_didWith q_didWithout q_conditions size people didWith didWithout x1 h) (cwV 1 hts gX2_conditionsWithGapOf_X2_gapUpper rfl rfl rfl (by decide +kernel) ⟨(Nat.le_of_ble_eq_true rfl), (Nat.le_of_ble_eq_true rfl)⟩) rfl 0 rfl rfl rfl hl.1 rfl (Nat.le_of_ble_eq_true rfl) dX2_conditionsWithGapOf_2 ⟨Nat.zero_le _, Nat.zero_le _⟩ (fun r1 h => ?_)
  refine lv_i2l (v := r1.toInt64) hx hb dX2_conditionsWithGapOf_5 rfl ?_
  refine lv_topl (fun v2 ex => ?_)
  have h := nm_of ex h
  refine lv_lstore_n (lv' := [(2, .long v2), (0, .ref q_this), (1, .int x1)]) hx hb dX2_conditionsWithGapOf_6 rfl hl (by decide) rfl (fun ls hl => ?_)
  refine lv_aload_n hx hb dX2_conditionsWithGapOf_7 rfl (lv_at hl 1 rfl) ?_
  refine lv_iload_n hx hb dX2_conditionsWithGapOf_8 rfl (lv_at hl 2 rfl) ?_
  refine ro_Vi (C := RX2) (As := [.int x1]) (rest := []) ⟨hx, hb, hml, hown, hts⟩ hE va_S.rf hP [0, 1] (c_X2_gapLower l D cI cB cJ cZ aK aV N q_this q_people q_didWith q_didWithout q_conditions size people x1 h) (cwV 1 hts gX2_conditionsWithGapOf_X2_gapLower rfl rfl rfl (by decide +kernel) ⟨(Nat.le_of_ble_eq_true rfl), (Nat.le_of_ble_eq_true rfl)⟩) rfl 0 rfl rfl rfl hl.1 rfl (Nat.le_of_ble_eq_true rfl) dX2_conditionsWithGapOf_9 ⟨Nat.zero_le _, Nat.zero_le _⟩ (fun r3 h => ?_)
  refine lv_i2l (v := r3.toInt64) hx hb dX2_conditionsWithGapOf_12 rfl ?_
  refine lv_topl (fun v4 ex => ?_)
  have h := nm_of ex h
  refine lv_lstore (lv' := [(4, .long v4), (2, .long v2), (0, .ref q_this), (1, .int x1)]) hx hb dX2_conditionsWithGapOf_13 hl (by decide) rfl (fun ls hl => ?_)
  refine lv_iconst (v := 0) hx hb dX2_conditionsWithGapOf_15 (by decide) ?_
  refine lv_istore (lv' := [(6, .int 0), (4, .long v4), (2, .long v2), (0, .ref q_this), (1, .int x1)]) hx hb dX2_conditionsWithGapOf_16 hl (by decide) rfl (fun ls hl => ?_)
  refine lv_iconst (v := 0) hx hb dX2_conditionsWithGapOf_18 (by decide) ?_
  refine lv_istore (lv' := [(7, .int 0), (6, .int 0), (4, .long v4), (2, .long v2), (0, .ref q_this), (1, .int x1)]) hx hb dX2_conditionsWithGapOf_19 hl (by decide) rfl (fun ls hl => ?_)
  refine w_X2_conditionsWithGapOf_L21 l D cI cB cJ cZ aK aV N q_this x1 post C0 q_people q_didWith q_didWithout q_conditions size people didWith didWithout conditions v2 v4 _ (fun o14 o15 h ls hl => ?_) hP N 0 0 h ls (lv_sub hl [4, 3, 2, 1, 0] rfl)
  refine lv_iload hx hb dX2_conditionsWithGapOf_77 (lv_at hl 0 rfl) ?_
  exact ro_iret hx hb hr hlk h dX2_conditionsWithGapOf_79
