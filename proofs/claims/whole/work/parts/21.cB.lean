abbrev wf_X1_copyFrom (cI cB cJ cZ : ClassId) (q_this : Nat) (q_prices : Nat) (q_marks : Nat) (q_came : Nat) (q_grounds : Nat) (q_x1 : Nat) (q_x1_prices : Nat) (q_x1_marks : Nat) (q_x1_came : Nat) (q_x1_grounds : Nat) (size : Int32) (prices : Nat → Int32) (marks : Nat → Int32) (came : Nat → Int32) (grounds : Nat → Int32) (x1_size : Int32) (x1_prices : Nat → Int32) (x1_marks : Nat → Int32) (x1_came : Nat → Int32) (x1_grounds : Nat → Int32) : Int32 × (Nat → Int32) × (Nat → Int32) × (Nat → Int32) × (Nat → Int32) → va_W := fun u => [(q_this, .inr (1, [.ref q_prices, .ref q_marks, .ref q_came, .ref q_grounds, .int u.1])), (q_prices, .inl (cI, 16, .inl u.2.1)), (q_marks, .inl (cI, 16, .inl u.2.2.1)), (q_came, .inl (cI, 16, .inl u.2.2.2.1)), (q_grounds, .inl (cI, 16, .inl u.2.2.2.2)), (q_x1, .inr (1, [.ref q_x1_prices, .ref q_x1_marks, .ref q_x1_came, .ref q_x1_grounds, .int x1_size])), (q_x1_prices, .inl (cI, 16, .inl x1_prices)), (q_x1_marks, .inl (cI, 16, .inl x1_marks)), (q_x1_came, .inl (cI, 16, .inl x1_came)), (q_x1_grounds, .inl (cI, 16, .inl x1_grounds))]
set_option maxHeartbeats 4000000 in
set_option maxRecDepth 100000 in
theorem c_X1_copyFrom (l : Launch) (D : va_G) (cI cB cJ cZ : ClassId) (aK aV : Nat → Nat) (N : Nat) (q_this : Nat) (q_prices : Nat) (q_marks : Nat) (q_came : Nat) (q_grounds : Nat) (q_x1 : Nat) (q_x1_prices : Nat) (q_x1_marks : Nat) (q_x1_came : Nat) (q_x1_grounds : Nat) (size : Int32) (prices : Nat → Int32) (marks : Nat → Int32) (came : Nat → Int32) (grounds : Nat → Int32) (x1_size : Int32) (x1_prices : Nat → Int32) (x1_marks : Nat → Int32) (x1_came : Nat → Int32) (x1_grounds : Nat → Int32) (sz : Nat) {post : Int32 → (Nat → Int32) → (Nat → Int32) → (Nat → Int32) → (Nat → Int32) → Prop} (h : f_X1_copyFrom N prices marks came grounds x1_size x1_prices x1_marks x1_came x1_grounds post) : Met l yX1_copyFrom wsX1_copyFrom { frames := 1, cells := 0, slots := 0, locals := 40 } (PW D cI cB cJ cZ aK aV [.ref q_this, .ref q_x1] [(q_this, .inr (1, [.ref q_prices, .ref q_marks, .ref q_came, .ref q_grounds, .int size])), (q_prices, .inl (cI, 16, .inl prices)), (q_marks, .inl (cI, 16, .inl marks)), (q_came, .inl (cI, 16, .inl came)), (q_grounds, .inl (cI, 16, .inl grounds)), (q_x1, .inr (1, [.ref q_x1_prices, .ref q_x1_marks, .ref q_x1_came, .ref q_x1_grounds, .int x1_size])), (q_x1_prices, .inl (cI, 16, .inl x1_prices)), (q_x1_marks, .inl (cI, 16, .inl x1_marks)), (q_x1_came, .inl (cI, 16, .inl x1_came)), (q_x1_grounds, .inl (cI, 16, .inl x1_grounds))] sz) (va_Qv (fun (u : Int32 × (Nat → Int32) × (Nat → Int32) × (Nat → Int32) × (Nat → Int32)) => post u.1 u.2.1 u.2.2.1 u.2.2.2.1 u.2.2.2.2) (BW D (va_A [(q_this, .inr (1, [.ref q_prices, .ref q_marks, .ref q_came, .ref q_grounds, .int size])), (q_prices, .inl (cI, 16, .inl prices)), (q_marks, .inl (cI, 16, .inl marks)), (q_came, .inl (cI, 16, .inl came)), (q_grounds, .inl (cI, 16, .inl grounds)), (q_x1, .inr (1, [.ref q_x1_prices, .ref q_x1_marks, .ref q_x1_came, .ref q_x1_grounds, .int x1_size])), (q_x1_prices, .inl (cI, 16, .inl x1_prices)), (q_x1_marks, .inl (cI, 16, .inl x1_marks)), (q_x1_came, .inl (cI, 16, .inl x1_came)), (q_x1_grounds, .inl (cI, 16, .inl x1_grounds))] sz) (wf_X1_copyFrom cI cB cJ cZ q_this q_prices q_marks q_came q_grounds q_x1 q_x1_prices q_x1_marks q_x1_came q_x1_grounds size prices marks came grounds x1_size x1_prices x1_marks x1_came x1_grounds)) (va_A [(q_this, .inr (1, [.ref q_prices, .ref q_marks, .ref q_came, .ref q_grounds, .int size])), (q_prices, .inl (cI, 16, .inl prices)), (q_marks, .inl (cI, 16, .inl marks)), (q_came, .inl (cI, 16, .inl came)), (q_grounds, .inl (cI, 16, .inl grounds)), (q_x1, .inr (1, [.ref q_x1_prices, .ref q_x1_marks, .ref q_x1_came, .ref q_x1_grounds, .int x1_size])), (q_x1_prices, .inl (cI, 16, .inl x1_prices)), (q_x1_marks, .inl (cI, 16, .inl x1_marks)), (q_x1_came, .inl (cI, 16, .inl x1_came)), (q_x1_grounds, .inl (cI, 16, .inl x1_grounds))] sz)) 0 0 (va_A [(q_this, .inr (1, [.ref q_prices, .ref q_marks, .ref q_came, .ref q_grounds, .int size])), (q_prices, .inl (cI, 16, .inl prices)), (q_marks, .inl (cI, 16, .inl marks)), (q_came, .inl (cI, 16, .inl came)), (q_grounds, .inl (cI, 16, .inl grounds)), (q_x1, .inr (1, [.ref q_x1_prices, .ref q_x1_marks, .ref q_x1_came, .ref q_x1_grounds, .int x1_size])), (q_x1_prices, .inl (cI, 16, .inl x1_prices)), (q_x1_marks, .inl (cI, 16, .inl x1_marks)), (q_x1_came, .inl (cI, 16, .inl x1_came)), (q_x1_grounds, .inl (cI, 16, .inl x1_grounds))] sz) := by
  refine mu_enter (Qc := fun A => (va_Qv (fun (u : Int32 × (Nat → Int32) × (Nat → Int32) × (Nat → Int32) × (Nat → Int32)) => post u.1 u.2.1 u.2.2.1 u.2.2.2.1 u.2.2.2.2) (BW D A (wf_X1_copyFrom cI cB cJ cZ q_this q_prices q_marks q_came q_grounds q_x1 q_x1_prices q_x1_marks q_x1_came q_x1_grounds size prices marks came grounds x1_size x1_prices x1_marks x1_came x1_grounds)) A)) (cc := cX1_copyFrom) (maxL := 2) (ret := none) (by decide) rfl (Nat.le_of_ble_eq_true rfl) ?_
  intro p e s m below meth c A C0 hA H locs hP hD hS ls hl
  have hl : lv_has ls 2 [(0, .ref q_this), (1, .ref q_x1)] := hl
  unfold f_X1_copyFrom at h
  obtain ⟨hx, hb, hr, hml, hown, hts, hE, hlk, hnm⟩ := id C0
  have ik1 : ∀ w ∈ u_ws RX1 TX1 5, w ∈ wsX1_copyFrom := by decide +kernel
  refine lv_aload_n hx hb dX1_copyFrom_0 rfl (lv_at hl 1 rfl) ?_
  refine va_get (D := D) (ci := 1) (v := .ref q_x1_prices) (C := RX1) (T := TX1) (N := 5) hx hb hts ik1 hown hE.1.1 hP 5 rfl rfl 0 (by decide) (hts (.fieldLink RX1 9 "FortyHouses$Findings" "prices" "[I") (by decide +kernel)) (fun _ h9 => h9) rfl dX1_copyFrom_1 ?_
  refine lv_iconst (v := 0) hx hb dX1_copyFrom_4 (by decide) ?_
  refine lv_aload_n hx hb dX1_copyFrom_5 rfl (lv_at hl 0 rfl) ?_
  refine va_get (D := D) (ci := 1) (v := .ref q_prices) (C := RX1) (T := TX1) (N := 5) hx hb hts ik1 hown hE.1.1 hP 0 rfl rfl 0 (by decide) (hts (.fieldLink RX1 9 "FortyHouses$Findings" "prices" "[I") (by decide +kernel)) (fun _ h9 => h9) rfl dX1_copyFrom_6 ?_
  refine lv_iconst (v := 0) hx hb dX1_copyFrom_9 (by decide) ?_
  refine lv_bipush (v := 16) hx hb dX1_copyFrom_10 (by decide) ?_
  refine va_copyi hx hb (hml.trans hl.1.symm) hown (hts (.methodLink RX1 26 arraycopyName) (by decide +kernel)) (hts (.native arraycopyName) (by decide +kernel)) (hts (.static arraycopyName) (by decide +kernel)) (hts (.initialized "java/lang/System") (by decide +kernel)) hE.1.1 hP hD hS 6 1 0 0 rfl rfl rfl rfl rfl (by decide) (by decide) (by decide) (by decide +kernel) (by decide +kernel) (fun _ _ => rfl) (Nat.le_of_ble_eq_true rfl) (by decide +kernel) dX1_copyFrom_12 (fun H locs hP hD hS => ?_)
  have hP : va_P D vwCl [(q_this, .inr (1, [.ref q_prices, .ref q_marks, .ref q_came, .ref q_grounds, .int size])), (q_prices, .inl (cI, 16, .inl (va_cpy x1_prices prices (0 : Int32).toNatClampNeg (0 : Int32).toNatClampNeg (16 : Int32).toNatClampNeg))), (q_marks, .inl (cI, 16, .inl marks)), (q_came, .inl (cI, 16, .inl came)), (q_grounds, .inl (cI, 16, .inl grounds)), (q_x1, .inr (1, [.ref q_x1_prices, .ref q_x1_marks, .ref q_x1_came, .ref q_x1_grounds, .int x1_size])), (q_x1_prices, .inl (cI, 16, .inl x1_prices)), (q_x1_marks, .inl (cI, 16, .inl x1_marks)), (q_x1_came, .inl (cI, 16, .inl x1_came)), (q_x1_grounds, .inl (cI, 16, .inl x1_grounds))] H := hP
  have hD : va_D A [(q_this, .inr (1, [.ref q_prices, .ref q_marks, .ref q_came, .ref q_grounds, .int size])), (q_prices, .inl (cI, 16, .inl (va_cpy x1_prices prices (0 : Int32).toNatClampNeg (0 : Int32).toNatClampNeg (16 : Int32).toNatClampNeg))), (q_marks, .inl (cI, 16, .inl marks)), (q_came, .inl (cI, 16, .inl came)), (q_grounds, .inl (cI, 16, .inl grounds)), (q_x1, .inr (1, [.ref q_x1_prices, .ref q_x1_marks, .ref q_x1_came, .ref q_x1_grounds, .int x1_size])), (q_x1_prices, .inl (cI, 16, .inl x1_prices)), (q_x1_marks, .inl (cI, 16, .inl x1_marks)), (q_x1_came, .inl (cI, 16, .inl x1_came)), (q_x1_grounds, .inl (cI, 16, .inl x1_grounds))] := hD
  refine lv_aload_n hx hb dX1_copyFrom_15 rfl (lv_at hl 1 rfl) ?_
  refine va_get (D := D) (ci := 1) (v := .ref q_x1_marks) (C := RX1) (T := TX1) (N := 5) hx hb hts ik1 hown hE.1.1 hP 5 rfl rfl 1 (by decide) (hts (.fieldLink RX1 13 "FortyHouses$Findings" "marks" "[I") (by decide +kernel)) (fun _ h9 => h9) rfl dX1_copyFrom_16 ?_
  refine lv_iconst (v := 0) hx hb dX1_copyFrom_19 (by decide) ?_
  refine lv_aload_n hx hb dX1_copyFrom_20 rfl (lv_at hl 0 rfl) ?_
  refine va_get (D := D) (ci := 1) (v := .ref q_marks) (C := RX1) (T := TX1) (N := 5) hx hb hts ik1 hown hE.1.1 hP 0 rfl rfl 1 (by decide) (hts (.fieldLink RX1 13 "FortyHouses$Findings" "marks" "[I") (by decide +kernel)) (fun _ h9 => h9) rfl dX1_copyFrom_21 ?_
  refine lv_iconst (v := 0) hx hb dX1_copyFrom_24 (by decide) ?_
  refine lv_bipush (v := 16) hx hb dX1_copyFrom_25 (by decide) ?_
  refine va_copyi hx hb (hml.trans hl.1.symm) hown (hts (.methodLink RX1 26 arraycopyName) (by decide +kernel)) (hts (.native arraycopyName) (by decide +kernel)) (hts (.static arraycopyName) (by decide +kernel)) (hts (.initialized "java/lang/System") (by decide +kernel)) hE.1.1 hP hD hS 7 2 0 0 rfl rfl rfl rfl rfl (by decide) (by decide) (by decide) (by decide +kernel) (by decide +kernel) (fun _ _ => rfl) (Nat.le_of_ble_eq_true rfl) (by decide +kernel) dX1_copyFrom_27 (fun H locs hP hD hS => ?_)
  have hP : va_P D vwCl [(q_this, .inr (1, [.ref q_prices, .ref q_marks, .ref q_came, .ref q_grounds, .int size])), (q_prices, .inl (cI, 16, .inl (va_cpy x1_prices prices (0 : Int32).toNatClampNeg (0 : Int32).toNatClampNeg (16 : Int32).toNatClampNeg))), (q_marks, .inl (cI, 16, .inl (va_cpy x1_marks marks (0 : Int32).toNatClampNeg (0 : Int32).toNatClampNeg (16 : Int32).toNatClampNeg))), (q_came, .inl (cI, 16, .inl came)), (q_grounds, .inl (cI, 16, .inl grounds)), (q_x1, .inr (1, [.ref q_x1_prices, .ref q_x1_marks, .ref q_x1_came, .ref q_x1_grounds, .int x1_size])), (q_x1_prices, .inl (cI, 16, .inl x1_prices)), (q_x1_marks, .inl (cI, 16, .inl x1_marks)), (q_x1_came, .inl (cI, 16, .inl x1_came)), (q_x1_grounds, .inl (cI, 16, .inl x1_grounds))] H := hP
  have hD : va_D A [(q_this, .inr (1, [.ref q_prices, .ref q_marks, .ref q_came, .ref q_grounds, .int size])), (q_prices, .inl (cI, 16, .inl (va_cpy x1_prices prices (0 : Int32).toNatClampNeg (0 : Int32).toNatClampNeg (16 : Int32).toNatClampNeg))), (q_marks, .inl (cI, 16, .inl (va_cpy x1_marks marks (0 : Int32).toNatClampNeg (0 : Int32).toNatClampNeg (16 : Int32).toNatClampNeg))), (q_came, .inl (cI, 16, .inl came)), (q_grounds, .inl (cI, 16, .inl grounds)), (q_x1, .inr (1, [.ref q_x1_prices, .ref q_x1_marks, .ref q_x1_came, .ref q_x1_grounds, .int x1_size])), (q_x1_prices, .inl (cI, 16, .inl x1_prices)), (q_x1_marks, .inl (cI, 16, .inl x1_marks)), (q_x1_came, .inl (cI, 16, .inl x1_came)), (q_x1_grounds, .inl (cI, 16, .inl x1_grounds))] := hD
  refine lv_aload_n hx hb dX1_copyFrom_30 rfl (lv_at hl 1 rfl) ?_
  refine va_get (D := D) (ci := 1) (v := .ref q_x1_came) (C := RX1) (T := TX1) (N := 5) hx hb hts ik1 hown hE.1.1 hP 5 rfl rfl 2 (by decide) (hts (.fieldLink RX1 16 "FortyHouses$Findings" "came" "[I") (by decide +kernel)) (fun _ h9 => h9) rfl dX1_copyFrom_31 ?_
  refine lv_iconst (v := 0) hx hb dX1_copyFrom_34 (by decide) ?_
  refine lv_aload_n hx hb dX1_copyFrom_35 rfl (lv_at hl 0 rfl) ?_
  refine va_get (D := D) (ci := 1) (v := .ref q_came) (C := RX1) (T := TX1) (N := 5) hx hb hts ik1 hown hE.1.1 hP 0 rfl rfl 2 (by decide) (hts (.fieldLink RX1 16 "FortyHouses$Findings" "came" "[I") (by decide +kernel)) (fun _ h9 => h9) rfl dX1_copyFrom_36 ?_
  refine lv_iconst (v := 0) hx hb dX1_copyFrom_39 (by decide) ?_
  refine lv_bipush (v := 16) hx hb dX1_copyFrom_40 (by decide) ?_
  refine va_copyi hx hb (hml.trans hl.1.symm) hown (hts (.methodLink RX1 26 arraycopyName) (by decide +kernel)) (hts (.native arraycopyName) (by decide +kernel)) (hts (.static arraycopyName) (by decide +kernel)) (hts (.initialized "java/lang/System") (by decide +kernel)) hE.1.1 hP hD hS 8 3 0 0 rfl rfl rfl rfl rfl (by decide) (by decide) (by decide) (by decide +kernel) (by decide +kernel) (fun _ _ => rfl) (Nat.le_of_ble_eq_true rfl) (by decide +kernel) dX1_copyFrom_42 (fun H locs hP hD hS => ?_)
  have hP : va_P D vwCl [(q_this, .inr (1, [.ref q_prices, .ref q_marks, .ref q_came, .ref q_grounds, .int size])), (q_prices, .inl (cI, 16, .inl (va_cpy x1_prices prices (0 : Int32).toNatClampNeg (0 : Int32).toNatClampNeg (16 : Int32).toNatClampNeg))), (q_marks, .inl (cI, 16, .inl (va_cpy x1_marks marks (0 : Int32).toNatClampNeg (0 : Int32).toNatClampNeg (16 : Int32).toNatClampNeg))), (q_came, .inl (cI, 16, .inl (va_cpy x1_came came (0 : Int32).toNatClampNeg (0 : Int32).toNatClampNeg (16 : Int32).toNatClampNeg))), (q_grounds, .inl (cI, 16, .inl grounds)), (q_x1, .inr (1, [.ref q_x1_prices, .ref q_x1_marks, .ref q_x1_came, .ref q_x1_grounds, .int x1_size])), (q_x1_prices, .inl (cI, 16, .inl x1_prices)), (q_x1_marks, .inl (cI, 16, .inl x1_marks)), (q_x1_came, .inl (cI, 16, .inl x1_came)), (q_x1_grounds, .inl (cI, 16, .inl x1_grounds))] H := hP
  have hD : va_D A [(q_this, .inr (1, [.ref q_prices, .ref q_marks, .ref q_came, .ref q_grounds, .int size])), (q_prices, .inl (cI, 16, .inl (va_cpy x1_prices prices (0 : Int32).toNatClampNeg (0 : Int32).toNatClampNeg (16 : Int32).toNatClampNeg))), (q_marks, .inl (cI, 16, .inl (va_cpy x1_marks marks (0 : Int32).toNatClampNeg (0 : Int32).toNatClampNeg (16 : Int32).toNatClampNeg))), (q_came, .inl (cI, 16, .inl (va_cpy x1_came came (0 : Int32).toNatClampNeg (0 : Int32).toNatClampNeg (16 : Int32).toNatClampNeg))), (q_grounds, .inl (cI, 16, .inl grounds)), (q_x1, .inr (1, [.ref q_x1_prices, .ref q_x1_marks, .ref q_x1_came, .ref q_x1_grounds, .int x1_size])), (q_x1_prices, .inl (cI, 16, .inl x1_prices)), (q_x1_marks, .inl (cI, 16, .inl x1_marks)), (q_x1_came, .inl (cI, 16, .inl x1_came)), (q_x1_grounds, .inl (cI, 16, .inl x1_grounds))] := hD
  refine lv_aload_n hx hb dX1_copyFrom_45 rfl (lv_at hl 1 rfl) ?_
  refine va_get (D := D) (ci := 1) (v := .ref q_x1_grounds) (C := RX1) (T := TX1) (N := 5) hx hb hts ik1 hown hE.1.1 hP 5 rfl rfl 3 (by decide) (hts (.fieldLink RX1 19 "FortyHouses$Findings" "grounds" "[I") (by decide +kernel)) (fun _ h9 => h9) rfl dX1_copyFrom_46 ?_
  refine lv_iconst (v := 0) hx hb dX1_copyFrom_49 (by decide) ?_
  refine lv_aload_n hx hb dX1_copyFrom_50 rfl (lv_at hl 0 rfl) ?_
  refine va_get (D := D) (ci := 1) (v := .ref q_grounds) (C := RX1) (T := TX1) (N := 5) hx hb hts ik1 hown hE.1.1 hP 0 rfl rfl 3 (by decide) (hts (.fieldLink RX1 19 "FortyHouses$Findings" "grounds" "[I") (by decide +kernel)) (fun _ h9 => h9) rfl dX1_copyFrom_51 ?_
  refine lv_iconst (v := 0) hx hb dX1_copyFrom_54 (by decide) ?_
  refine lv_bipush (v := 16) hx hb dX1_copyFrom_55 (by decide) ?_
  refine va_copyi hx hb (hml.trans hl.1.symm) hown (hts (.methodLink RX1 26 arraycopyName) (by decide +kernel)) (hts (.native arraycopyName) (by decide +kernel)) (hts (.static arraycopyName) (by decide +kernel)) (hts (.initialized "java/lang/System") (by decide +kernel)) hE.1.1 hP hD hS 9 4 0 0 rfl rfl rfl rfl rfl (by decide) (by decide) (by decide) (by decide +kernel) (by decide +kernel) (fun _ _ => rfl) (Nat.le_of_ble_eq_true rfl) (by decide +kernel) dX1_copyFrom_57 (fun H locs hP hD hS => ?_)
  have hP : va_P D vwCl [(q_this, .inr (1, [.ref q_prices, .ref q_marks, .ref q_came, .ref q_grounds, .int size])), (q_prices, .inl (cI, 16, .inl (va_cpy x1_prices prices (0 : Int32).toNatClampNeg (0 : Int32).toNatClampNeg (16 : Int32).toNatClampNeg))), (q_marks, .inl (cI, 16, .inl (va_cpy x1_marks marks (0 : Int32).toNatClampNeg (0 : Int32).toNatClampNeg (16 : Int32).toNatClampNeg))), (q_came, .inl (cI, 16, .inl (va_cpy x1_came came (0 : Int32).toNatClampNeg (0 : Int32).toNatClampNeg (16 : Int32).toNatClampNeg))), (q_grounds, .inl (cI, 16, .inl (va_cpy x1_grounds grounds (0 : Int32).toNatClampNeg (0 : Int32).toNatClampNeg (16 : Int32).toNatClampNeg))), (q_x1, .inr (1, [.ref q_x1_prices, .ref q_x1_marks, .ref q_x1_came, .ref q_x1_grounds, .int x1_size])), (q_x1_prices, .inl (cI, 16, .inl x1_prices)), (q_x1_marks, .inl (cI, 16, .inl x1_marks)), (q_x1_came, .inl (cI, 16, .inl x1_came)), (q_x1_grounds, .inl (cI, 16, .inl x1_grounds))] H := hP
  have hD : va_D A [(q_this, .inr (1, [.ref q_prices, .ref q_marks, .ref q_came, .ref q_grounds, .int size])), (q_prices, .inl (cI, 16, .inl (va_cpy x1_prices prices (0 : Int32).toNatClampNeg (0 : Int32).toNatClampNeg (16 : Int32).toNatClampNeg))), (q_marks, .inl (cI, 16, .inl (va_cpy x1_marks marks (0 : Int32).toNatClampNeg (0 : Int32).toNatClampNeg (16 : Int32).toNatClampNeg))), (q_came, .inl (cI, 16, .inl (va_cpy x1_came came (0 : Int32).toNatClampNeg (0 : Int32).toNatClampNeg (16 : Int32).toNatClampNeg))), (q_grounds, .inl (cI, 16, .inl (va_cpy x1_grounds grounds (0 : Int32).toNatClampNeg (0 : Int32).toNatClampNeg (16 : Int32).toNatClampNeg))), (q_x1, .inr (1, [.ref q_x1_prices, .ref q_x1_marks, .ref q_x1_came, .ref q_x1_grounds, .int x1_size])), (q_x1_prices, .inl (cI, 16, .inl x1_prices)), (q_x1_marks, .inl (cI, 16, .inl x1_marks)), (q_x1_came, .inl (cI, 16, .inl x1_came)), (q_x1_grounds, .inl (cI, 16, .inl x1_grounds))] := hD
  refine lv_aload_n hx hb dX1_copyFrom_60 rfl (lv_at hl 0 rfl) ?_
  refine lv_aload_n hx hb dX1_copyFrom_61 rfl (lv_at hl 1 rfl) ?_
  refine va_get (D := D) (ci := 1) (v := .int x1_size) (C := RX1) (T := TX1) (N := 5) hx hb hts ik1 hown hE.1.1 hP 5 rfl rfl 4 (by decide) (hts (.fieldLink RX1 22 "FortyHouses$Findings" "size" "I") (by decide +kernel)) (fun _ h9 => h9) rfl dX1_copyFrom_62 ?_
  refine va_put (D := D) (ci := 1) (v := .int x1_size) (ty := .int) (C := RX1) (T := TX1) (N := 5) hx hb hts ik1 tyX1 tyX1_ok nmX1 hown hE.1.1 hP hD hS 0 rfl rfl 4 (by decide) (hts (.fieldLink RX1 22 "FortyHouses$Findings" "size" "I") (by decide +kernel)) (fun _ h9 => h9) rfl (by decide +kernel) rfl rfl (Nat.le_of_ble_eq_true rfl) dX1_copyFrom_65 (fun H locs hP hD hS => ?_)
  have hP : va_P D vwCl [(q_this, .inr (1, [.ref q_prices, .ref q_marks, .ref q_came, .ref q_grounds, .int x1_size])), (q_prices, .inl (cI, 16, .inl (va_cpy x1_prices prices (0 : Int32).toNatClampNeg (0 : Int32).toNatClampNeg (16 : Int32).toNatClampNeg))), (q_marks, .inl (cI, 16, .inl (va_cpy x1_marks marks (0 : Int32).toNatClampNeg (0 : Int32).toNatClampNeg (16 : Int32).toNatClampNeg))), (q_came, .inl (cI, 16, .inl (va_cpy x1_came came (0 : Int32).toNatClampNeg (0 : Int32).toNatClampNeg (16 : Int32).toNatClampNeg))), (q_grounds, .inl (cI, 16, .inl (va_cpy x1_grounds grounds (0 : Int32).toNatClampNeg (0 : Int32).toNatClampNeg (16 : Int32).toNatClampNeg))), (q_x1, .inr (1, [.ref q_x1_prices, .ref q_x1_marks, .ref q_x1_came, .ref q_x1_grounds, .int x1_size])), (q_x1_prices, .inl (cI, 16, .inl x1_prices)), (q_x1_marks, .inl (cI, 16, .inl x1_marks)), (q_x1_came, .inl (cI, 16, .inl x1_came)), (q_x1_grounds, .inl (cI, 16, .inl x1_grounds))] H := hP
  have hD : va_D A [(q_this, .inr (1, [.ref q_prices, .ref q_marks, .ref q_came, .ref q_grounds, .int x1_size])), (q_prices, .inl (cI, 16, .inl (va_cpy x1_prices prices (0 : Int32).toNatClampNeg (0 : Int32).toNatClampNeg (16 : Int32).toNatClampNeg))), (q_marks, .inl (cI, 16, .inl (va_cpy x1_marks marks (0 : Int32).toNatClampNeg (0 : Int32).toNatClampNeg (16 : Int32).toNatClampNeg))), (q_came, .inl (cI, 16, .inl (va_cpy x1_came came (0 : Int32).toNatClampNeg (0 : Int32).toNatClampNeg (16 : Int32).toNatClampNeg))), (q_grounds, .inl (cI, 16, .inl (va_cpy x1_grounds grounds (0 : Int32).toNatClampNeg (0 : Int32).toNatClampNeg (16 : Int32).toNatClampNeg))), (q_x1, .inr (1, [.ref q_x1_prices, .ref q_x1_marks, .ref q_x1_came, .ref q_x1_grounds, .int x1_size])), (q_x1_prices, .inl (cI, 16, .inl x1_prices)), (q_x1_marks, .inl (cI, 16, .inl x1_marks)), (q_x1_came, .inl (cI, 16, .inl x1_came)), (q_x1_grounds, .inl (cI, 16, .inl x1_grounds))] := hD
  exact mu_vret (wf := wf_X1_copyFrom cI cB cJ cZ q_this q_prices q_marks q_came q_grounds q_x1 q_x1_prices q_x1_marks q_x1_came q_x1_grounds size prices marks came grounds x1_size x1_prices x1_marks x1_came x1_grounds) (x1_size, (va_cpy x1_prices prices (0 : Int32).toNatClampNeg (0 : Int32).toNatClampNeg (16 : Int32).toNatClampNeg), (va_cpy x1_marks marks (0 : Int32).toNatClampNeg (0 : Int32).toNatClampNeg (16 : Int32).toNatClampNeg), (va_cpy x1_came came (0 : Int32).toNatClampNeg (0 : Int32).toNatClampNeg (16 : Int32).toNatClampNeg), (va_cpy x1_grounds grounds (0 : Int32).toNatClampNeg (0 : Int32).toNatClampNeg (16 : Int32).toNatClampNeg)) hx hb hr hlk hP hD hS h dX1_copyFrom_68
set_option maxHeartbeats 4000000 in
set_option maxRecDepth 100000 in
theorem c_X1_isFull (l : Launch) (D : va_G) (cI cB cJ cZ : ClassId) (aK aV : Nat → Nat) (N : Nat) (q_this : Nat) (q_prices : Nat) (q_marks : Nat) (q_came : Nat) (q_grounds : Nat) (size : Int32) {post : Int32 → Prop} (h : f_X1_isFull N size post) : Met l yX1_isFull wsX1_isFull { frames := 0, cells := 0, slots := 0, locals := 0 } (PR D cI cB cJ cZ aK aV [.ref q_this] [(q_this, .inr (1, [.ref q_prices, .ref q_marks, .ref q_came, .ref q_grounds, .int size]))]) (vp_Si (fun r => post r ∧ narrow .boolean (.int r) = .int r)) 0 0 (fun _ => False) := by
  refine ro_enter (cc := cX1_isFull) (maxL := 1) (ret := (some .boolean)) (by decide) rfl (Nat.le_of_ble_eq_true rfl) ?_
  intro p e s m below meth c C0 hP ls hl
  have hl : lv_has ls 1 [(0, .ref q_this)] := hl
  unfold f_X1_isFull at h
  obtain ⟨hx, hb, hr, hml, hown, hts, hE, hlk, hnm⟩ := id C0
  have ik1 : ∀ w ∈ u_ws RX1 TX1 5, w ∈ wsX1_isFull := by decide +kernel
  refine lv_aload_n hx hb dX1_isFull_0 rfl (lv_at hl 0 rfl) ?_
  refine va_get (D := D) (ci := 1) (v := .int size) (C := RX1) (T := TX1) (N := 5) hx hb hts ik1 hown hE.1.1 hP 0 rfl rfl 4 (by decide) (hts (.fieldLink RX1 22 "FortyHouses$Findings" "size" "I") (by decide +kernel)) (fun _ h9 => h9) rfl dX1_isFull_1 ?_
  refine lv_bipush (v := 16) hx hb dX1_isFull_4 (by decide) ?_
  refine lv_icmp_lt (tgt := 13) hx hb dX1_isFull_6 (by decide) (fun c1 => ?_) (fun c1 => ?_)
  · have h := ite_t c1 h
    refine lv_iconst (v := 0) hx hb dX1_isFull_13 (by decide) ?_
    exact ro_zret (post := fun r => post r ∧ narrow .boolean (.int r) = .int r) hx hb hr rfl hlk ⟨h, rfl⟩ dX1_isFull_14
  · have h := ite_f c1 h
    refine lv_iconst (v := 1) hx hb dX1_isFull_9 (by decide) ?_
    refine lv_goto (tgt := 14) hx hb dX1_isFull_10 (by decide) ?_
    exact ro_zret (post := fun r => post r ∧ narrow .boolean (.int r) = .int r) hx hb hr rfl hlk ⟨h, rfl⟩ dX1_isFull_14
set_option maxHeartbeats 4000000 in
set_option maxRecDepth 100000 in
theorem c_X1_has (l : Launch) (D : va_G) (cI cB cJ cZ : ClassId) (aK aV : Nat → Nat) (N : Nat) (q_this : Nat) (q_prices : Nat) (q_marks : Nat) (q_came : Nat) (q_grounds : Nat) (size : Int32) (x1 : Int32) {post : Int32 → Prop} (h : f_X1_has N size x1 post) : Met l yX1_has wsX1_has { frames := 0, cells := 0, slots := 0, locals := 0 } (PR D cI cB cJ cZ aK aV [.ref q_this, .int x1] [(q_this, .inr (1, [.ref q_prices, .ref q_marks, .ref q_came, .ref q_grounds, .int size]))]) (vp_Si (fun r => post r ∧ narrow .boolean (.int r) = .int r)) 0 0 (fun _ => False) := by
  refine ro_enter (cc := cX1_has) (maxL := 2) (ret := (some .boolean)) (by decide) rfl (Nat.le_of_ble_eq_true rfl) ?_
  intro p e s m below meth c C0 hP ls hl
  have hl : lv_has ls 2 [(0, .ref q_this), (1, .int x1)] := hl
  unfold f_X1_has at h
  obtain ⟨hx, hb, hr, hml, hown, hts, hE, hlk, hnm⟩ := id C0
  have ik1 : ∀ w ∈ u_ws RX1 TX1 5, w ∈ wsX1_has := by decide +kernel
  refine lv_iload_n hx hb dX1_has_0 rfl (lv_at hl 1 rfl) ?_
  refine lv_if_lt (tgt := 16) hx hb dX1_has_1 (by decide) (fun c1 => ?_) (fun c1 => ?_)
  · have h := ite_t c1 h
    refine lv_iconst (v := 0) hx hb dX1_has_16 (by decide) ?_
    exact ro_zret (post := fun r => post r ∧ narrow .boolean (.int r) = .int r) hx hb hr rfl hlk ⟨h, rfl⟩ dX1_has_17
  · have h := ite_f c1 h
    refine lv_iload_n hx hb dX1_has_4 rfl (lv_at hl 1 rfl) ?_
    refine lv_aload_n hx hb dX1_has_5 rfl (lv_at hl 0 rfl) ?_
    refine va_get (D := D) (ci := 1) (v := .int size) (C := RX1) (T := TX1) (N := 5) hx hb hts ik1 hown hE.1.1 hP 0 rfl rfl 4 (by decide) (hts (.fieldLink RX1 22 "FortyHouses$Findings" "size" "I") (by decide +kernel)) (fun _ h9 => h9) rfl dX1_has_6 ?_
    refine lv_icmp_ge (tgt := 16) hx hb dX1_has_9 (by decide) (fun c1 => ?_) (fun c1 => ?_)
    · have h := ite_t c1 h
      refine lv_iconst (v := 0) hx hb dX1_has_16 (by decide) ?_
      exact ro_zret (post := fun r => post r ∧ narrow .boolean (.int r) = .int r) hx hb hr rfl hlk ⟨h, rfl⟩ dX1_has_17
    · have h := ite_f c1 h
      refine lv_iconst (v := 1) hx hb dX1_has_12 (by decide) ?_
      refine lv_goto (tgt := 17) hx hb dX1_has_13 (by decide) ?_
      exact ro_zret (post := fun r => post r ∧ narrow .boolean (.int r) = .int r) hx hb hr rfl hlk ⟨h, rfl⟩ dX1_has_17
abbrev wf_X1_add (cI cB cJ cZ : ClassId) (q_this : Nat) (q_prices : Nat) (q_marks : Nat) (q_came : Nat) (q_grounds : Nat) (size : Int32) (prices : Nat → Int32) (marks : Nat → Int32) (came : Nat → Int32) (grounds : Nat → Int32) : Int32 × (Nat → Int32) × (Nat → Int32) × (Nat → Int32) × (Nat → Int32) → va_W := fun u => [(q_this, .inr (1, [.ref q_prices, .ref q_marks, .ref q_came, .ref q_grounds, .int u.1])), (q_prices, .inl (cI, 16, .inl u.2.1)), (q_marks, .inl (cI, 16, .inl u.2.2.1)), (q_came, .inl (cI, 16, .inl u.2.2.2.1)), (q_grounds, .inl (cI, 16, .inl u.2.2.2.2))]
set_option maxHeartbeats 4000000 in
set_option maxRecDepth 100000 in
theorem c_X1_add (l : Launch) (D : va_G) (cI cB cJ cZ : ClassId) (aK aV : Nat → Nat) (N : Nat) (q_this : Nat) (q_prices : Nat) (q_marks : Nat) (q_came : Nat) (q_grounds : Nat) (size : Int32) (prices : Nat → Int32) (marks : Nat → Int32) (came : Nat → Int32) (grounds : Nat → Int32) (x1 : Int32) (x2 : Int32) (x3 : Int32) (sz : Nat) {post : Int32 → Int32 → (Nat → Int32) → (Nat → Int32) → (Nat → Int32) → (Nat → Int32) → Prop} (h : f_X1_add N size prices marks came grounds x1 x2 x3 post) : Met l yX1_add wsX1_add { frames := 0, cells := 0, slots := 0, locals := 0 } (PW D cI cB cJ cZ aK aV [.ref q_this, .int x1, .int x2, .int x3] [(q_this, .inr (1, [.ref q_prices, .ref q_marks, .ref q_came, .ref q_grounds, .int size])), (q_prices, .inl (cI, 16, .inl prices)), (q_marks, .inl (cI, 16, .inl marks)), (q_came, .inl (cI, 16, .inl came)), (q_grounds, .inl (cI, 16, .inl grounds))] sz) (va_Qi (fun r (u : Int32 × (Nat → Int32) × (Nat → Int32) × (Nat → Int32) × (Nat → Int32)) => post r u.1 u.2.1 u.2.2.1 u.2.2.2.1 u.2.2.2.2) (BW D (va_A [(q_this, .inr (1, [.ref q_prices, .ref q_marks, .ref q_came, .ref q_grounds, .int size])), (q_prices, .inl (cI, 16, .inl prices)), (q_marks, .inl (cI, 16, .inl marks)), (q_came, .inl (cI, 16, .inl came)), (q_grounds, .inl (cI, 16, .inl grounds))] sz) (wf_X1_add cI cB cJ cZ q_this q_prices q_marks q_came q_grounds size prices marks came grounds)) (va_A [(q_this, .inr (1, [.ref q_prices, .ref q_marks, .ref q_came, .ref q_grounds, .int size])), (q_prices, .inl (cI, 16, .inl prices)), (q_marks, .inl (cI, 16, .inl marks)), (q_came, .inl (cI, 16, .inl came)), (q_grounds, .inl (cI, 16, .inl grounds))] sz)) 0 0 (va_A [(q_this, .inr (1, [.ref q_prices, .ref q_marks, .ref q_came, .ref q_grounds, .int size])), (q_prices, .inl (cI, 16, .inl prices)), (q_marks, .inl (cI, 16, .inl marks)), (q_came, .inl (cI, 16, .inl came)), (q_grounds, .inl (cI, 16, .inl grounds))] sz) := by
  refine mu_enter (Qc := fun A => (va_Qi (fun r (u : Int32 × (Nat → Int32) × (Nat → Int32) × (Nat → Int32) × (Nat → Int32)) => post r u.1 u.2.1 u.2.2.1 u.2.2.2.1 u.2.2.2.2) (BW D A (wf_X1_add cI cB cJ cZ q_this q_prices q_marks q_came q_grounds size prices marks came grounds)) A)) (cc := cX1_add) (maxL := 4) (ret := (some .int)) (by decide) rfl (Nat.le_of_ble_eq_true rfl) ?_
  intro p e s m below meth c A C0 hA H locs hP hD hS ls hl
  have hl : lv_has ls 4 [(0, .ref q_this), (1, .int x1), (2, .int x2), (3, .int x3)] := hl
  unfold f_X1_add at h
  obtain ⟨hx, hb, hr, hml, hown, hts, hE, hlk, hnm⟩ := id C0
  have ik1 : ∀ w ∈ u_ws RX1 TX1 5, w ∈ wsX1_add := by decide +kernel
  refine lv_aload_n hx hb dX1_add_0 rfl (lv_at hl 0 rfl) ?_
  refine va_get (D := D) (ci := 1) (v := .ref q_prices) (C := RX1) (T := TX1) (N := 5) hx hb hts ik1 hown hE.1.1 hP 0 rfl rfl 0 (by decide) (hts (.fieldLink RX1 9 "FortyHouses$Findings" "prices" "[I") (by decide +kernel)) (fun _ h9 => h9) rfl dX1_add_1 ?_
  refine lv_aload_n hx hb dX1_add_4 rfl (lv_at hl 0 rfl) ?_
  refine va_get (D := D) (ci := 1) (v := .int size) (C := RX1) (T := TX1) (N := 5) hx hb hts ik1 hown hE.1.1 hP 0 rfl rfl 4 (by decide) (hts (.fieldLink RX1 22 "FortyHouses$Findings" "size" "I") (by decide +kernel)) (fun _ h9 => h9) rfl dX1_add_5 ?_
  refine lv_iload_n hx hb dX1_add_8 rfl (lv_at hl 1 rfl) ?_
  obtain ⟨hin, h⟩ := h
  refine va_iast hx hb hE.1.1 hP hD hS 1 0 rfl rfl hin dX1_add_9 (fun H locs hP hD hS => ?_)
  have hP : va_P D vwCl [(q_this, .inr (1, [.ref q_prices, .ref q_marks, .ref q_came, .ref q_grounds, .int size])), (q_prices, .inl (cI, 16, .inl (upd prices size.toNatClampNeg x1))), (q_marks, .inl (cI, 16, .inl marks)), (q_came, .inl (cI, 16, .inl came)), (q_grounds, .inl (cI, 16, .inl grounds))] H := hP
  have hD : va_D A [(q_this, .inr (1, [.ref q_prices, .ref q_marks, .ref q_came, .ref q_grounds, .int size])), (q_prices, .inl (cI, 16, .inl (upd prices size.toNatClampNeg x1))), (q_marks, .inl (cI, 16, .inl marks)), (q_came, .inl (cI, 16, .inl came)), (q_grounds, .inl (cI, 16, .inl grounds))] := hD
  refine lv_aload_n hx hb dX1_add_10 rfl (lv_at hl 0 rfl) ?_
  refine va_get (D := D) (ci := 1) (v := .ref q_marks) (C := RX1) (T := TX1) (N := 5) hx hb hts ik1 hown hE.1.1 hP 0 rfl rfl 1 (by decide) (hts (.fieldLink RX1 13 "FortyHouses$Findings" "marks" "[I") (by decide +kernel)) (fun _ h9 => h9) rfl dX1_add_11 ?_
  refine lv_aload_n hx hb dX1_add_14 rfl (lv_at hl 0 rfl) ?_
  refine va_get (D := D) (ci := 1) (v := .int size) (C := RX1) (T := TX1) (N := 5) hx hb hts ik1 hown hE.1.1 hP 0 rfl rfl 4 (by decide) (hts (.fieldLink RX1 22 "FortyHouses$Findings" "size" "I") (by decide +kernel)) (fun _ h9 => h9) rfl dX1_add_15 ?_
  refine lv_iload_n hx hb dX1_add_18 rfl (lv_at hl 2 rfl) ?_
  obtain ⟨hin, h⟩ := h
  refine va_iast hx hb hE.1.1 hP hD hS 2 0 rfl rfl hin dX1_add_19 (fun H locs hP hD hS => ?_)
  have hP : va_P D vwCl [(q_this, .inr (1, [.ref q_prices, .ref q_marks, .ref q_came, .ref q_grounds, .int size])), (q_prices, .inl (cI, 16, .inl (upd prices size.toNatClampNeg x1))), (q_marks, .inl (cI, 16, .inl (upd marks size.toNatClampNeg x2))), (q_came, .inl (cI, 16, .inl came)), (q_grounds, .inl (cI, 16, .inl grounds))] H := hP
  have hD : va_D A [(q_this, .inr (1, [.ref q_prices, .ref q_marks, .ref q_came, .ref q_grounds, .int size])), (q_prices, .inl (cI, 16, .inl (upd prices size.toNatClampNeg x1))), (q_marks, .inl (cI, 16, .inl (upd marks size.toNatClampNeg x2))), (q_came, .inl (cI, 16, .inl came)), (q_grounds, .inl (cI, 16, .inl grounds))] := hD
  refine lv_aload_n hx hb dX1_add_20 rfl (lv_at hl 0 rfl) ?_
  refine va_get (D := D) (ci := 1) (v := .ref q_came) (C := RX1) (T := TX1) (N := 5) hx hb hts ik1 hown hE.1.1 hP 0 rfl rfl 2 (by decide) (hts (.fieldLink RX1 16 "FortyHouses$Findings" "came" "[I") (by decide +kernel)) (fun _ h9 => h9) rfl dX1_add_21 ?_
  refine lv_aload_n hx hb dX1_add_24 rfl (lv_at hl 0 rfl) ?_
  refine va_get (D := D) (ci := 1) (v := .int size) (C := RX1) (T := TX1) (N := 5) hx hb hts ik1 hown hE.1.1 hP 0 rfl rfl 4 (by decide) (hts (.fieldLink RX1 22 "FortyHouses$Findings" "size" "I") (by decide +kernel)) (fun _ h9 => h9) rfl dX1_add_25 ?_
  refine lv_iload_n hx hb dX1_add_28 rfl (lv_at hl 3 rfl) ?_
  obtain ⟨hin, h⟩ := h
  refine va_iast hx hb hE.1.1 hP hD hS 3 0 rfl rfl hin dX1_add_29 (fun H locs hP hD hS => ?_)
  have hP : va_P D vwCl [(q_this, .inr (1, [.ref q_prices, .ref q_marks, .ref q_came, .ref q_grounds, .int size])), (q_prices, .inl (cI, 16, .inl (upd prices size.toNatClampNeg x1))), (q_marks, .inl (cI, 16, .inl (upd marks size.toNatClampNeg x2))), (q_came, .inl (cI, 16, .inl (upd came size.toNatClampNeg x3))), (q_grounds, .inl (cI, 16, .inl grounds))] H := hP
  have hD : va_D A [(q_this, .inr (1, [.ref q_prices, .ref q_marks, .ref q_came, .ref q_grounds, .int size])), (q_prices, .inl (cI, 16, .inl (upd prices size.toNatClampNeg x1))), (q_marks, .inl (cI, 16, .inl (upd marks size.toNatClampNeg x2))), (q_came, .inl (cI, 16, .inl (upd came size.toNatClampNeg x3))), (q_grounds, .inl (cI, 16, .inl grounds))] := hD
  refine lv_aload_n hx hb dX1_add_30 rfl (lv_at hl 0 rfl) ?_
  refine va_get (D := D) (ci := 1) (v := .ref q_grounds) (C := RX1) (T := TX1) (N := 5) hx hb hts ik1 hown hE.1.1 hP 0 rfl rfl 3 (by decide) (hts (.fieldLink RX1 19 "FortyHouses$Findings" "grounds" "[I") (by decide +kernel)) (fun _ h9 => h9) rfl dX1_add_31 ?_
  refine lv_aload_n hx hb dX1_add_34 rfl (lv_at hl 0 rfl) ?_
  refine va_get (D := D) (ci := 1) (v := .int size) (C := RX1) (T := TX1) (N := 5) hx hb hts ik1 hown hE.1.1 hP 0 rfl rfl 4 (by decide) (hts (.fieldLink RX1 22 "FortyHouses$Findings" "size" "I") (by decide +kernel)) (fun _ h9 => h9) rfl dX1_add_35 ?_
  refine lv_iconst (v := 0) hx hb dX1_add_38 (by decide) ?_
  obtain ⟨hin, h⟩ := h
  refine va_iast hx hb hE.1.1 hP hD hS 4 0 rfl rfl hin dX1_add_39 (fun H locs hP hD hS => ?_)
  have hP : va_P D vwCl [(q_this, .inr (1, [.ref q_prices, .ref q_marks, .ref q_came, .ref q_grounds, .int size])), (q_prices, .inl (cI, 16, .inl (upd prices size.toNatClampNeg x1))), (q_marks, .inl (cI, 16, .inl (upd marks size.toNatClampNeg x2))), (q_came, .inl (cI, 16, .inl (upd came size.toNatClampNeg x3))), (q_grounds, .inl (cI, 16, .inl (upd grounds size.toNatClampNeg 0)))] H := hP
  have hD : va_D A [(q_this, .inr (1, [.ref q_prices, .ref q_marks, .ref q_came, .ref q_grounds, .int size])), (q_prices, .inl (cI, 16, .inl (upd prices size.toNatClampNeg x1))), (q_marks, .inl (cI, 16, .inl (upd marks size.toNatClampNeg x2))), (q_came, .inl (cI, 16, .inl (upd came size.toNatClampNeg x3))), (q_grounds, .inl (cI, 16, .inl (upd grounds size.toNatClampNeg 0)))] := hD
  refine lv_aload_n hx hb dX1_add_40 rfl (lv_at hl 0 rfl) ?_
  refine lv_dup hx hb dX1_add_41 rfl ?_
  refine va_get (D := D) (ci := 1) (v := .int size) (C := RX1) (T := TX1) (N := 5) hx hb hts ik1 hown hE.1.1 hP 0 rfl rfl 4 (by decide) (hts (.fieldLink RX1 22 "FortyHouses$Findings" "size" "I") (by decide +kernel)) (fun _ h9 => h9) rfl dX1_add_42 ?_
  refine lv_iconst (v := 1) hx hb dX1_add_45 (by decide) ?_
  refine lv_iadd hx hb dX1_add_46 ?_
  refine lv_topi (fun v1 ex => ?_)
  have h := nm_of ex h
  refine va_put (D := D) (ci := 1) (v := .int v1) (ty := .int) (C := RX1) (T := TX1) (N := 5) hx hb hts ik1 tyX1 tyX1_ok nmX1 hown hE.1.1 hP hD hS 0 rfl rfl 4 (by decide) (hts (.fieldLink RX1 22 "FortyHouses$Findings" "size" "I") (by decide +kernel)) (fun _ h9 => h9) rfl (by decide +kernel) rfl rfl (Nat.le_of_ble_eq_true rfl) dX1_add_47 (fun H locs hP hD hS => ?_)
  have hP : va_P D vwCl [(q_this, .inr (1, [.ref q_prices, .ref q_marks, .ref q_came, .ref q_grounds, .int v1])), (q_prices, .inl (cI, 16, .inl (upd prices size.toNatClampNeg x1))), (q_marks, .inl (cI, 16, .inl (upd marks size.toNatClampNeg x2))), (q_came, .inl (cI, 16, .inl (upd came size.toNatClampNeg x3))), (q_grounds, .inl (cI, 16, .inl (upd grounds size.toNatClampNeg 0)))] H := hP
  have hD : va_D A [(q_this, .inr (1, [.ref q_prices, .ref q_marks, .ref q_came, .ref q_grounds, .int v1])), (q_prices, .inl (cI, 16, .inl (upd prices size.toNatClampNeg x1))), (q_marks, .inl (cI, 16, .inl (upd marks size.toNatClampNeg x2))), (q_came, .inl (cI, 16, .inl (upd came size.toNatClampNeg x3))), (q_grounds, .inl (cI, 16, .inl (upd grounds size.toNatClampNeg 0)))] := hD
  refine lv_aload_n hx hb dX1_add_50 rfl (lv_at hl 0 rfl) ?_
  refine va_get (D := D) (ci := 1) (v := .int v1) (C := RX1) (T := TX1) (N := 5) hx hb hts ik1 hown hE.1.1 hP 0 rfl rfl 4 (by decide) (hts (.fieldLink RX1 22 "FortyHouses$Findings" "size" "I") (by decide +kernel)) (fun _ h9 => h9) rfl dX1_add_51 ?_
  refine lv_iconst (v := 1) hx hb dX1_add_54 (by decide) ?_
  refine lv_isub hx hb dX1_add_55 ?_
  exact mu_iret (wf := wf_X1_add cI cB cJ cZ q_this q_prices q_marks q_came q_grounds size prices marks came grounds) (v1, (upd prices size.toNatClampNeg x1), (upd marks size.toNatClampNeg x2), (upd came size.toNatClampNeg x3), (upd grounds size.toNatClampNeg 0)) hx hb hr hlk hP hD hS h dX1_add_56
set_option maxHeartbeats 4000000 in
set_option maxRecDepth 100000 in
theorem w_X1_cameCount_B4 (l : Launch) (D : va_G) (cI cB cJ cZ : ClassId) (aK aV : Nat → Nat) (N : Nat) {p : Program} {e : Env} {s : State} {m : MethodId} {below : List Frame} {meth : Method} {c : Code} (q_this : Nat) (post : Int32 → Prop) (C0 : Cx p s m meth c ([.ref q_this] : List Value).toArray cX1_cameCount 3 yX1_cameCount.cls yX1_cameCount.name (some .int) wsX1_cameCount D cI cB cJ cZ aK aV (fun _ => False)) (q_prices : Nat) (q_marks : Nat) (q_came : Nat) (q_grounds : Nat) (size : Int32) (came : Nat → Int32) (kb4 : Int32 → Int32 → Prop) (hkb4 : ∀ (i1_ : Int32) (i2_ : Int32), kb4 i1_ i2_ → ∀ ls : Array Slot, lv_has ls 3 [(0, .ref q_this), (1, .int i1_), (2, .int i2_)] → W p l e { frames := 0, cells := 0, slots := 0, locals := 0 } s m ([.ref q_this] : List Value).toArray below meth c s.heap [] 0 0 (MQ below (vp_Si post) ([.ref q_this] : List Value).toArray s 0 0 (fun _ => False)) (F0 m 4 ls [])) (ke4 : Int32 → Int32 → Prop) (hke4 : ∀ (i1_ : Int32) (i2_ : Int32), ke4 i1_ i2_ → ∀ ls : Array Slot, lv_has ls 3 [(1, .int i1_)] → W p l e { frames := 0, cells := 0, slots := 0, locals := 0 } s m ([.ref q_this] : List Value).toArray below meth c s.heap [] 0 0 (MQ below (vp_Si post) ([.ref q_this] : List Value).toArray s 0 0 (fun _ => False)) (F0 m 27 ls [])) (i1 : Int32) (i2 : Int32) (h : f_X1_cameCount_B4 N size came kb4 ke4 i1 i2) (hP : va_P D vwCl [(q_this, .inr (1, [.ref q_prices, .ref q_marks, .ref q_came, .ref q_grounds, .int size])), (q_came, .inl (cI, 16, .inl came))] s.heap) (ls : Array Slot) (hl : lv_has ls 3 [(0, .ref q_this), (1, .int i1), (2, .int i2)]) : W p l e { frames := 0, cells := 0, slots := 0, locals := 0 } s m ([.ref q_this] : List Value).toArray below meth c s.heap [] 0 0 (MQ below (vp_Si post) ([.ref q_this] : List Value).toArray s 0 0 (fun _ => False)) (F0 m 4 ls []) := by
  obtain ⟨hx, hb, hr, hml, hown, hts, hE, hlk, hnm⟩ := id C0
  have ik1 : ∀ w ∈ u_ws RX1 TX1 5, w ∈ wsX1_cameCount := by decide +kernel
  unfold f_X1_cameCount_B4 at h
  refine lv_iload_n hx hb dX1_cameCount_4 rfl (lv_at hl 2 rfl) ?_
  refine lv_aload_n hx hb dX1_cameCount_5 rfl (lv_at hl 0 rfl) ?_
  refine va_get (D := D) (ci := 1) (v := .int size) (C := RX1) (T := TX1) (N := 5) hx hb hts ik1 hown hE.1.1 hP 0 rfl rfl 4 (by decide) (hts (.fieldLink RX1 22 "FortyHouses$Findings" "size" "I") (by decide +kernel)) (fun _ h9 => h9) rfl dX1_cameCount_6 ?_
  refine lv_icmp_ge (tgt := 27) hx hb dX1_cameCount_9 (by decide) (fun c1 => ?_) (fun c1 => ?_)
  · have h := ite_t c1 h
    exact hke4 i1 i2 h ls (lv_sub hl [1] rfl)
  · have h := ite_f c1 h
    refine lv_iload_n hx hb dX1_cameCount_12 rfl (lv_at hl 1 rfl) ?_
    refine lv_aload_n hx hb dX1_cameCount_13 rfl (lv_at hl 0 rfl) ?_
    refine va_get (D := D) (ci := 1) (v := .ref q_came) (C := RX1) (T := TX1) (N := 5) hx hb hts ik1 hown hE.1.1 hP 0 rfl rfl 2 (by decide) (hts (.fieldLink RX1 16 "FortyHouses$Findings" "came" "[I") (by decide +kernel)) (fun _ h9 => h9) rfl dX1_cameCount_14 ?_
    refine lv_iload_n hx hb dX1_cameCount_17 rfl (lv_at hl 2 rfl) ?_
    obtain ⟨hin, h⟩ := h
    refine va_iald hx hb hE.1.1 hP 1 0 rfl rfl hin dX1_cameCount_18 ?_
    refine lv_iadd hx hb dX1_cameCount_19 ?_
    refine lv_topi (fun v3 ex => ?_)
    have h := nm_of ex h
    refine lv_istore_n (lv' := [(1, .int v3), (0, .ref q_this), (2, .int i2)]) hx hb dX1_cameCount_20 rfl hl (by decide) rfl (fun ls hl => ?_)
    obtain ⟨v4, ex⟩ : ∃ y : Int32, y = (i2 + 1) := ⟨_, rfl⟩
    have h := nm_of ex h
    refine lv_iinc (v := v4) (lv' := [(2, .int v4), (1, .int v3), (0, .ref q_this)]) hx hb dX1_cameCount_21 hl (k := 2) rfl (by rw [ex]; rfl) (by decide) rfl (fun ls hl => ?_)
    refine lv_goto (tgt := 4) hx hb dX1_cameCount_24 (by decide) ?_
    exact hkb4 v3 v4 h ls (lv_sub hl [2, 1, 0] rfl)
set_option maxHeartbeats 4000000 in
set_option maxRecDepth 100000 in
theorem w_X1_cameCount_L4 (l : Launch) (D : va_G) (cI cB cJ cZ : ClassId) (aK aV : Nat → Nat) (N : Nat) {p : Program} {e : Env} {s : State} {m : MethodId} {below : List Frame} {meth : Method} {c : Code} (q_this : Nat) (post : Int32 → Prop) (C0 : Cx p s m meth c ([.ref q_this] : List Value).toArray cX1_cameCount 3 yX1_cameCount.cls yX1_cameCount.name (some .int) wsX1_cameCount D cI cB cJ cZ aK aV (fun _ => False)) (q_prices : Nat) (q_marks : Nat) (q_came : Nat) (q_grounds : Nat) (size : Int32) (came : Nat → Int32) (ke4 : Int32 → Int32 → Prop) (hke4 : ∀ (i1_ : Int32) (i2_ : Int32), ke4 i1_ i2_ → ∀ ls : Array Slot, lv_has ls 3 [(1, .int i1_)] → W p l e { frames := 0, cells := 0, slots := 0, locals := 0 } s m ([.ref q_this] : List Value).toArray below meth c s.heap [] 0 0 (MQ below (vp_Si post) ([.ref q_this] : List Value).toArray s 0 0 (fun _ => False)) (F0 m 27 ls [])) (hP : va_P D vwCl [(q_this, .inr (1, [.ref q_prices, .ref q_marks, .ref q_came, .ref q_grounds, .int size])), (q_came, .inl (cI, 16, .inl came))] s.heap) : ∀ (n_ : Nat) (i1 : Int32) (i2 : Int32), f_X1_cameCount_L4 N size came ke4 n_ i1 i2 → ∀ ls : Array Slot, lv_has ls 3 [(0, .ref q_this), (1, .int i1), (2, .int i2)] → W p l e { frames := 0, cells := 0, slots := 0, locals := 0 } s m ([.ref q_this] : List Value).toArray below meth c s.heap [] 0 0 (MQ below (vp_Si post) ([.ref q_this] : List Value).toArray s 0 0 (fun _ => False)) (F0 m 4 ls []) := by
  intro n_
  induction n_ with
  | zero => intro i1 i2 h; exact h.elim
  | succ n_ ih =>
    intro i1 i2 h ls hl
    exact w_X1_cameCount_B4 l D cI cB cJ cZ aK aV N q_this post C0 q_prices q_marks q_came q_grounds size came (f_X1_cameCount_L4 N size came ke4 n_) ih ke4 hke4 i1 i2 h hP ls hl
set_option maxHeartbeats 4000000 in
set_option maxRecDepth 100000 in
theorem c_X1_cameCount (l : Launch) (D : va_G) (cI cB cJ cZ : ClassId) (aK aV : Nat → Nat) (N : Nat) (q_this : Nat) (q_prices : Nat) (q_marks : Nat) (q_came : Nat) (q_grounds : Nat) (size : Int32) (came : Nat → Int32) {post : Int32 → Prop} (h : f_X1_cameCount N size came post) : Met l yX1_cameCount wsX1_cameCount { frames := 0, cells := 0, slots := 0, locals := 0 } (PR D cI cB cJ cZ aK aV [.ref q_this] [(q_this, .inr (1, [.ref q_prices, .ref q_marks, .ref q_came, .ref q_grounds, .int size])), (q_came, .inl (cI, 16, .inl came))]) (vp_Si post) 0 0 (fun _ => False) := by
  refine ro_enter (cc := cX1_cameCount) (maxL := 3) (ret := (some .int)) (by decide) rfl (Nat.le_of_ble_eq_true rfl) ?_
  intro p e s m below meth c C0 hP ls hl
  have hl : lv_has ls 3 [(0, .ref q_this)] := hl
  unfold f_X1_cameCount at h
  obtain ⟨hx, hb, hr, hml, hown, hts, hE, hlk, hnm⟩ := id C0
  have ik1 : ∀ w ∈ u_ws RX1 TX1 5, w ∈ wsX1_cameCount := by decide +kernel
  refine lv_iconst (v := 0) hx hb dX1_cameCount_0 (by decide) ?_
  refine lv_istore_n (lv' := [(1, .int 0), (0, .ref q_this)]) hx hb dX1_cameCount_1 rfl hl (by decide) rfl (fun ls hl => ?_)
  refine lv_iconst (v := 0) hx hb dX1_cameCount_2 (by decide) ?_
  refine lv_istore_n (lv' := [(2, .int 0), (1, .int 0), (0, .ref q_this)]) hx hb dX1_cameCount_3 rfl hl (by decide) rfl (fun ls hl => ?_)
  refine w_X1_cameCount_L4 l D cI cB cJ cZ aK aV N q_this post C0 q_prices q_marks q_came q_grounds size came _ (fun o5 o6 h ls hl => ?_) hP N 0 0 h ls (lv_sub hl [2, 1, 0] rfl)
  refine lv_iload_n hx hb dX1_cameCount_27 rfl (lv_at hl 0 rfl) ?_
  exact ro_iret hx hb hr hlk h dX1_cameCount_28
set_option maxHeartbeats 4000000 in
set_option maxRecDepth 100000 in
theorem w_X1_squaresOff_B4 (l : Launch) (D : va_G) (cI cB cJ cZ : ClassId) (aK aV : Nat → Nat) (N : Nat) {p : Program} {e : Env} {s : State} {m : MethodId} {below : List Frame} {meth : Method} {c : Code} (q_this : Nat) (q_x1 : Nat) (post : Int32 → Prop) (C0 : Cx p s m meth c ([.ref q_this, .ref q_x1] : List Value).toArray cX1_squaresOff 5 yX1_squaresOff.cls yX1_squaresOff.name (some .int) wsX1_squaresOff D cI cB cJ cZ aK aV (fun _ => False)) (q_prices : Nat) (q_marks : Nat) (q_came : Nat) (q_grounds : Nat) (size : Int32) (came : Nat → Int32) (x1 : Nat → Int32) (kb4 : Int32 → Int32 → Prop) (hkb4 : ∀ (i1_ : Int32) (i2_ : Int32), kb4 i1_ i2_ → ∀ ls : Array Slot, lv_has ls 5 [(0, .ref q_this), (1, .ref q_x1), (2, .int i1_), (3, .int i2_)] → W p l e { frames := 0, cells := 0, slots := 0, locals := 0 } s m ([.ref q_this, .ref q_x1] : List Value).toArray below meth c s.heap [] 0 0 (MQ below (vp_Si post) ([.ref q_this, .ref q_x1] : List Value).toArray s 0 0 (fun _ => False)) (F0 m 4 ls [])) (ke4 : Int32 → Int32 → Prop) (hke4 : ∀ (i1_ : Int32) (i2_ : Int32), ke4 i1_ i2_ → ∀ ls : Array Slot, lv_has ls 5 [(2, .int i1_)] → W p l e { frames := 0, cells := 0, slots := 0, locals := 0 } s m ([.ref q_this, .ref q_x1] : List Value).toArray below meth c s.heap [] 0 0 (MQ below (vp_Si post) ([.ref q_this, .ref q_x1] : List Value).toArray s 0 0 (fun _ => False)) (F0 m 41 ls [])) (i1 : Int32) (i2 : Int32) (h : f_X1_squaresOff_B4 N size came x1 kb4 ke4 i1 i2) (hP : va_P D vwCl [(q_this, .inr (1, [.ref q_prices, .ref q_marks, .ref q_came, .ref q_grounds, .int size])), (q_came, .inl (cI, 16, .inl came)), (q_x1, .inl (cI, 16, .inl x1))] s.heap) (ls : Array Slot) (hl : lv_has ls 5 [(0, .ref q_this), (1, .ref q_x1), (2, .int i1), (3, .int i2)]) : W p l e { frames := 0, cells := 0, slots := 0, locals := 0 } s m ([.ref q_this, .ref q_x1] : List Value).toArray below meth c s.heap [] 0 0 (MQ below (vp_Si post) ([.ref q_this, .ref q_x1] : List Value).toArray s 0 0 (fun _ => False)) (F0 m 4 ls []) := by
  obtain ⟨hx, hb, hr, hml, hown, hts, hE, hlk, hnm⟩ := id C0
  have ik1 : ∀ w ∈ u_ws RX1 TX1 5, w ∈ wsX1_squaresOff := by decide +kernel
  unfold f_X1_squaresOff_B4 at h
  refine lv_iload_n hx hb dX1_squaresOff_4 rfl (lv_at hl 3 rfl) ?_
  refine lv_aload_n hx hb dX1_squaresOff_5 rfl (lv_at hl 0 rfl) ?_
  refine va_get (D := D) (ci := 1) (v := .int size) (C := RX1) (T := TX1) (N := 5) hx hb hts ik1 hown hE.1.1 hP 0 rfl rfl 4 (by decide) (hts (.fieldLink RX1 22 "FortyHouses$Findings" "size" "I") (by decide +kernel)) (fun _ h9 => h9) rfl dX1_squaresOff_6 ?_
  refine lv_icmp_ge (tgt := 41) hx hb dX1_squaresOff_9 (by decide) (fun c1 => ?_) (fun c1 => ?_)
  · have h := ite_t c1 h
    exact hke4 i1 i2 h ls (lv_sub hl [2] rfl)
  · have h := ite_f c1 h
    refine lv_aload_n hx hb dX1_squaresOff_12 rfl (lv_at hl 1 rfl) ?_
    refine lv_iload_n hx hb dX1_squaresOff_13 rfl (lv_at hl 3 rfl) ?_
    obtain ⟨hin, h⟩ := h
    refine va_iald hx hb hE.1.1 hP 2 0 rfl rfl hin dX1_squaresOff_14 ?_
    refine lv_bipush (v := 100) hx hb dX1_squaresOff_15 (by decide) ?_
    refine lv_aload_n hx hb dX1_squaresOff_17 rfl (lv_at hl 0 rfl) ?_
    refine va_get (D := D) (ci := 1) (v := .ref q_came) (C := RX1) (T := TX1) (N := 5) hx hb hts ik1 hown hE.1.1 hP 0 rfl rfl 2 (by decide) (hts (.fieldLink RX1 16 "FortyHouses$Findings" "came" "[I") (by decide +kernel)) (fun _ h9 => h9) rfl dX1_squaresOff_18 ?_
    refine lv_iload_n hx hb dX1_squaresOff_21 rfl (lv_at hl 3 rfl) ?_
    obtain ⟨hin, h⟩ := h
    refine va_iald hx hb hE.1.1 hP 1 0 rfl rfl hin dX1_squaresOff_22 ?_
    refine lv_imul hx hb dX1_squaresOff_23 ?_
    refine lv_isub hx hb dX1_squaresOff_24 ?_
    refine lv_topi (fun v3 ex => ?_)
    have h := nm_of ex h
    refine lv_istore (lv' := [(4, .int v3), (0, .ref q_this), (1, .ref q_x1), (2, .int i1), (3, .int i2)]) hx hb dX1_squaresOff_25 hl (by decide) rfl (fun ls hl => ?_)
    refine lv_iload_n hx hb dX1_squaresOff_27 rfl (lv_at hl 3 rfl) ?_
    refine lv_iload hx hb dX1_squaresOff_28 (lv_at hl 0 rfl) ?_
    refine lv_iload hx hb dX1_squaresOff_30 (lv_at hl 0 rfl) ?_
    refine lv_imul hx hb dX1_squaresOff_32 ?_
    refine lv_iadd hx hb dX1_squaresOff_33 ?_
    refine lv_topi (fun v4 ex => ?_)
    have h := nm_of ex h
    refine lv_istore_n (lv' := [(2, .int v4), (4, .int v3), (0, .ref q_this), (1, .ref q_x1), (3, .int i2)]) hx hb dX1_squaresOff_34 rfl hl (by decide) rfl (fun ls hl => ?_)
    obtain ⟨v5, ex⟩ : ∃ y : Int32, y = (i2 + 1) := ⟨_, rfl⟩
    have h := nm_of ex h
    refine lv_iinc (v := v5) (lv' := [(3, .int v5), (2, .int v4), (4, .int v3), (0, .ref q_this), (1, .ref q_x1)]) hx hb dX1_squaresOff_35 hl (k := 4) rfl (by rw [ex]; rfl) (by decide) rfl (fun ls hl => ?_)
    refine lv_goto (tgt := 4) hx hb dX1_squaresOff_38 (by decide) ?_
    exact hkb4 v4 v5 h ls (lv_sub hl [3, 4, 1, 0] rfl)
set_option maxHeartbeats 4000000 in
set_option maxRecDepth 100000 in
theorem w_X1_squaresOff_L4 (l : Launch) (D : va_G) (cI cB cJ cZ : ClassId) (aK aV : Nat → Nat) (N : Nat) {p : Program} {e : Env} {s : State} {m : MethodId} {below : List Frame} {meth : Method} {c : Code} (q_this : Nat) (q_x1 : Nat) (post : Int32 → Prop) (C0 : Cx p s m meth c ([.ref q_this, .ref q_x1] : List Value).toArray cX1_squaresOff 5 yX1_squaresOff.cls yX1_squaresOff.name (some .int) wsX1_squaresOff D cI cB cJ cZ aK aV (fun _ => False)) (q_prices : Nat) (q_marks : Nat) (q_came : Nat) (q_grounds : Nat) (size : Int32) (came : Nat → Int32) (x1 : Nat → Int32) (ke4 : Int32 → Int32 → Prop) (hke4 : ∀ (i1_ : Int32) (i2_ : Int32), ke4 i1_ i2_ → ∀ ls : Array Slot, lv_has ls 5 [(2, .int i1_)] → W p l e { frames := 0, cells := 0, slots := 0, locals := 0 } s m ([.ref q_this, .ref q_x1] : List Value).toArray below meth c s.heap [] 0 0 (MQ below (vp_Si post) ([.ref q_this, .ref q_x1] : List Value).toArray s 0 0 (fun _ => False)) (F0 m 41 ls [])) (hP : va_P D vwCl [(q_this, .inr (1, [.ref q_prices, .ref q_marks, .ref q_came, .ref q_grounds, .int size])), (q_came, .inl (cI, 16, .inl came)), (q_x1, .inl (cI, 16, .inl x1))] s.heap) : ∀ (n_ : Nat) (i1 : Int32) (i2 : Int32), f_X1_squaresOff_L4 N size came x1 ke4 n_ i1 i2 → ∀ ls : Array Slot, lv_has ls 5 [(0, .ref q_this), (1, .ref q_x1), (2, .int i1), (3, .int i2)] → W p l e { frames := 0, cells := 0, slots := 0, locals := 0 } s m ([.ref q_this, .ref q_x1] : List Value).toArray below meth c s.heap [] 0 0 (MQ below (vp_Si post) ([.ref q_this, .ref q_x1] : List Value).toArray s 0 0 (fun _ => False)) (F0 m 4 ls []) := by
  intro n_
  induction n_ with
  | zero => intro i1 i2 h; exact h.elim
  | succ n_ ih =>
    intro i1 i2 h ls hl
    exact w_X1_squaresOff_B4 l D cI cB cJ cZ aK aV N q_this q_x1 post C0 q_prices q_marks q_came q_grounds size came x1 (f_X1_squaresOff_L4 N size came x1 ke4 n_) ih ke4 hke4 i1 i2 h hP ls hl
set_option maxHeartbeats 4000000 in
set_option maxRecDepth 100000 in
theorem c_X1_squaresOff (l : Launch) (D : va_G) (cI cB cJ cZ : ClassId) (aK aV : Nat → Nat) (N : Nat) (q_this : Nat) (q_prices : Nat) (q_marks : Nat) (q_came : Nat) (q_grounds : Nat) (q_x1 : Nat) (size : Int32) (came : Nat → Int32) (x1 : Nat → Int32) {post : Int32 → Prop} (h : f_X1_squaresOff N size came x1 post) : Met l yX1_squaresOff wsX1_squaresOff { frames := 0, cells := 0, slots := 0, locals := 0 } (PR D cI cB cJ cZ aK aV [.ref q_this, .ref q_x1] [(q_this, .inr (1, [.ref q_prices, .ref q_marks, .ref q_came, .ref q_grounds, .int size])), (q_came, .inl (cI, 16, .inl came)), (q_x1, .inl (cI, 16, .inl x1))]) (vp_Si post) 0 0 (fun _ => False) := by
  refine ro_enter (cc := cX1_squaresOff) (maxL := 5) (ret := (some .int)) (by decide) rfl (Nat.le_of_ble_eq_true rfl) ?_
  intro p e s m below meth c C0 hP ls hl
  have hl : lv_has ls 5 [(0, .ref q_this), (1, .ref q_x1)] := hl
  unfold f_X1_squaresOff at h
  obtain ⟨hx, hb, hr, hml, hown, hts, hE, hlk, hnm⟩ := id C0
  have ik1 : ∀ w ∈ u_ws RX1 TX1 5, w ∈ wsX1_squaresOff := by decide +kernel
  refine lv_iconst (v := 0) hx hb dX1_squaresOff_0 (by decide) ?_
  refine lv_istore_n (lv' := [(2, .int 0), (0, .ref q_this), (1, .ref q_x1)]) hx hb dX1_squaresOff_1 rfl hl (by decide) rfl (fun ls hl => ?_)
  refine lv_iconst (v := 0) hx hb dX1_squaresOff_2 (by decide) ?_
  refine lv_istore_n (lv' := [(3, .int 0), (2, .int 0), (0, .ref q_this), (1, .ref q_x1)]) hx hb dX1_squaresOff_3 rfl hl (by decide) rfl (fun ls hl => ?_)
  refine w_X1_squaresOff_L4 l D cI cB cJ cZ aK aV N q_this q_x1 post C0 q_prices q_marks q_came q_grounds size came x1 _ (fun o6 o7 h ls hl => ?_) hP N 0 0 h ls (lv_sub hl [2, 3, 1, 0] rfl)
  refine lv_iload_n hx hb dX1_squaresOff_41 rfl (lv_at hl 0 rfl) ?_
  exact ro_iret hx hb hr hlk h dX1_squaresOff_42
set_option maxHeartbeats 4000000 in
set_option maxRecDepth 100000 in
theorem w_X1_pairsRight_J59 (l : Launch) (D : va_G) (cI cB cJ cZ : ClassId) (aK aV : Nat → Nat) (N : Nat) {p : Program} {e : Env} {s : State} {m : MethodId} {below : List Frame} {meth : Method} {c : Code} (q_this : Nat) (q_x1 : Nat) (post : Int32 → Prop) (C0 : Cx p s m meth c ([.ref q_this, .ref q_x1] : List Value).toArray cX1_pairsRight 5 yX1_pairsRight.cls yX1_pairsRight.name (some .int) wsX1_pairsRight D cI cB cJ cZ aK aV (fun _ => False)) (q_prices : Nat) (q_marks : Nat) (q_came : Nat) (q_grounds : Nat) (size : Int32) (came : Nat → Int32) (x1 : Nat → Int32) (i2 : Int32) (i4 : Int32) (kb15 : Int32 → Int32 → Prop) (hkb15 : ∀ (i3_ : Int32) (i4_ : Int32), kb15 i3_ i4_ → ∀ ls : Array Slot, lv_has ls 5 [(0, .ref q_this), (1, .ref q_x1), (2, .int i3_), (3, .int i2), (4, .int i4_)] → W p l e { frames := 1, cells := 0, slots := 0, locals := 21 } s m ([.ref q_this, .ref q_x1] : List Value).toArray below meth c s.heap [] 0 0 (MQ below (vp_Si post) ([.ref q_this, .ref q_x1] : List Value).toArray s 0 0 (fun _ => False)) (F0 m 15 ls [])) (j5 : Int32) (h : f_X1_pairsRight_J59 N i4 kb15 j5) (hP : va_P D vwCl [(q_this, .inr (1, [.ref q_prices, .ref q_marks, .ref q_came, .ref q_grounds, .int size])), (q_came, .inl (cI, 16, .inl came)), (q_x1, .inl (cI, 16, .inl x1))] s.heap) (ls : Array Slot) (hl : lv_has ls 5 [(0, .ref q_this), (1, .ref q_x1), (2, .int j5), (3, .int i2), (4, .int i4)]) : W p l e { frames := 1, cells := 0, slots := 0, locals := 21 } s m ([.ref q_this, .ref q_x1] : List Value).toArray below meth c s.heap [] 0 0 (MQ below (vp_Si post) ([.ref q_this, .ref q_x1] : List Value).toArray s 0 0 (fun _ => False)) (F0 m 59 ls []) := by
  obtain ⟨hx, hb, hr, hml, hown, hts, hE, hlk, hnm⟩ := id C0
  have ik1 : ∀ w ∈ u_ws RX1 TX1 5, w ∈ wsX1_pairsRight := by decide +kernel
  unfold f_X1_pairsRight_J59 at h
  obtain ⟨v6, ex⟩ : ∃ y : Int32, y = (i4 + 1) := ⟨_, rfl⟩
  have h := nm_of ex h
  refine lv_iinc (v := v6) (lv' := [(4, .int v6), (0, .ref q_this), (1, .ref q_x1), (2, .int j5), (3, .int i2)]) hx hb dX1_pairsRight_59 hl (k := 4) rfl (by rw [ex]; rfl) (by decide) rfl (fun ls hl => ?_)
  refine lv_goto (tgt := 15) hx hb dX1_pairsRight_62 (by decide) ?_
  exact hkb15 j5 v6 h ls (lv_sub hl [1, 2, 3, 4, 0] rfl)
set_option maxHeartbeats 4000000 in
set_option maxRecDepth 100000 in
theorem w_X1_pairsRight_B15 (l : Launch) (D : va_G) (cI cB cJ cZ : ClassId) (aK aV : Nat → Nat) (N : Nat) {p : Program} {e : Env} {s : State} {m : MethodId} {below : List Frame} {meth : Method} {c : Code} (q_this : Nat) (q_x1 : Nat) (post : Int32 → Prop) (C0 : Cx p s m meth c ([.ref q_this, .ref q_x1] : List Value).toArray cX1_pairsRight 5 yX1_pairsRight.cls yX1_pairsRight.name (some .int) wsX1_pairsRight D cI cB cJ cZ aK aV (fun _ => False)) (q_prices : Nat) (q_marks : Nat) (q_came : Nat) (q_grounds : Nat) (size : Int32) (came : Nat → Int32) (x1 : Nat → Int32) (i2 : Int32) (kb15 : Int32 → Int32 → Prop) (hkb15 : ∀ (i3_ : Int32) (i4_ : Int32), kb15 i3_ i4_ → ∀ ls : Array Slot, lv_has ls 5 [(0, .ref q_this), (1, .ref q_x1), (2, .int i3_), (3, .int i2), (4, .int i4_)] → W p l e { frames := 1, cells := 0, slots := 0, locals := 21 } s m ([.ref q_this, .ref q_x1] : List Value).toArray below meth c s.heap [] 0 0 (MQ below (vp_Si post) ([.ref q_this, .ref q_x1] : List Value).toArray s 0 0 (fun _ => False)) (F0 m 15 ls [])) (ke15 : Int32 → Int32 → Prop) (hke15 : ∀ (i3_ : Int32) (i4_ : Int32), ke15 i3_ i4_ → ∀ ls : Array Slot, lv_has ls 5 [(0, .ref q_this), (1, .ref q_x1), (2, .int i3_), (3, .int i2)] → W p l e { frames := 1, cells := 0, slots := 0, locals := 21 } s m ([.ref q_this, .ref q_x1] : List Value).toArray below meth c s.heap [] 0 0 (MQ below (vp_Si post) ([.ref q_this, .ref q_x1] : List Value).toArray s 0 0 (fun _ => False)) (F0 m 65 ls [])) (i3 : Int32) (i4 : Int32) (h : f_X1_pairsRight_B15 N size came x1 i2 kb15 ke15 i3 i4) (hP : va_P D vwCl [(q_this, .inr (1, [.ref q_prices, .ref q_marks, .ref q_came, .ref q_grounds, .int size])), (q_came, .inl (cI, 16, .inl came)), (q_x1, .inl (cI, 16, .inl x1))] s.heap) (ls : Array Slot) (hl : lv_has ls 5 [(0, .ref q_this), (1, .ref q_x1), (2, .int i3), (3, .int i2), (4, .int i4)]) : W p l e { frames := 1, cells := 0, slots := 0, locals := 21 } s m ([.ref q_this, .ref q_x1] : List Value).toArray below meth c s.heap [] 0 0 (MQ below (vp_Si post) ([.ref q_this, .ref q_x1] : List Value).toArray s 0 0 (fun _ => False)) (F0 m 15 ls []) := by
  obtain ⟨hx, hb, hr, hml, hown, hts, hE, hlk, hnm⟩ := id C0
  have ik1 : ∀ w ∈ u_ws RX1 TX1 5, w ∈ wsX1_pairsRight := by decide +kernel
  unfold f_X1_pairsRight_B15 at h
  refine lv_iload hx hb dX1_pairsRight_15 (lv_at hl 4 rfl) ?_
  refine lv_aload_n hx hb dX1_pairsRight_17 rfl (lv_at hl 0 rfl) ?_
  refine va_get (D := D) (ci := 1) (v := .int size) (C := RX1) (T := TX1) (N := 5) hx hb hts ik1 hown hE.1.1 hP 0 rfl rfl 4 (by decide) (hts (.fieldLink RX1 22 "FortyHouses$Findings" "size" "I") (by decide +kernel)) (fun _ h9 => h9) rfl dX1_pairsRight_18 ?_
  refine lv_icmp_ge (tgt := 65) hx hb dX1_pairsRight_21 (by decide) (fun c1 => ?_) (fun c1 => ?_)
  · have h := ite_t c1 h
    exact hke15 i3 i4 h ls (lv_sub hl [0, 1, 2, 3] rfl)
  · have h := ite_f c1 h
    refine lv_aload_n hx hb dX1_pairsRight_24 rfl (lv_at hl 0 rfl) ?_
    refine va_get (D := D) (ci := 1) (v := .ref q_came) (C := RX1) (T := TX1) (N := 5) hx hb hts ik1 hown hE.1.1 hP 0 rfl rfl 2 (by decide) (hts (.fieldLink RX1 16 "FortyHouses$Findings" "came" "[I") (by decide +kernel)) (fun _ h9 => h9) rfl dX1_pairsRight_25 ?_
    refine lv_iload_n hx hb dX1_pairsRight_28 rfl (lv_at hl 3 rfl) ?_
    obtain ⟨hin, h⟩ := h
    refine va_iald hx hb hE.1.1 hP 1 0 rfl rfl hin dX1_pairsRight_29 ?_
    refine lv_iconst (v := 1) hx hb dX1_pairsRight_30 (by decide) ?_
    refine lv_icmp_ne (tgt := 59) hx hb dX1_pairsRight_31 (by decide) (fun c1 => ?_) (fun c1 => ?_)
    · have h := ite_t c1 h
      exact w_X1_pairsRight_J59 l D cI cB cJ cZ aK aV N q_this q_x1 post C0 q_prices q_marks q_came q_grounds size came x1 i2 i4 kb15 hkb15 i3 h hP ls hl
    · have h := ite_n c1 h
      refine lv_aload_n hx hb dX1_pairsRight_34 rfl (lv_at hl 0 rfl) ?_
      refine va_get (D := D) (ci := 1) (v := .ref q_came) (C := RX1) (T := TX1) (N := 5) hx hb hts ik1 hown hE.1.1 hP 0 rfl rfl 2 (by decide) (hts (.fieldLink RX1 16 "FortyHouses$Findings" "came" "[I") (by decide +kernel)) (fun _ h9 => h9) rfl dX1_pairsRight_35 ?_
      refine lv_iload hx hb dX1_pairsRight_38 (lv_at hl 4 rfl) ?_
      obtain ⟨hin, h⟩ := h
      refine va_iald hx hb hE.1.1 hP 1 0 rfl rfl hin dX1_pairsRight_40 ?_
      refine lv_if_ne (tgt := 59) hx hb dX1_pairsRight_41 (by decide) (fun c1 => ?_) (fun c1 => ?_)
      · have h := ite_t c1 h
        exact w_X1_pairsRight_J59 l D cI cB cJ cZ aK aV N q_this q_x1 post C0 q_prices q_marks q_came q_grounds size came x1 i2 i4 kb15 hkb15 i3 h hP ls hl
      · have h := ite_n c1 h
        refine lv_iload_n hx hb dX1_pairsRight_44 rfl (lv_at hl 2 rfl) ?_
        refine lv_iconst (v := 1) hx hb dX1_pairsRight_45 (by decide) ?_
        refine lv_aload_n hx hb dX1_pairsRight_46 rfl (lv_at hl 1 rfl) ?_
        refine lv_iload_n hx hb dX1_pairsRight_47 rfl (lv_at hl 3 rfl) ?_
        obtain ⟨hin, h⟩ := h
        refine va_iald hx hb hE.1.1 hP 2 0 rfl rfl hin dX1_pairsRight_48 ?_
        refine lv_aload_n hx hb dX1_pairsRight_49 rfl (lv_at hl 1 rfl) ?_
        refine lv_iload hx hb dX1_pairsRight_50 (lv_at hl 4 rfl) ?_
        obtain ⟨hin, h⟩ := h
        refine va_iald hx hb hE.1.1 hP 2 0 rfl rfl hin dX1_pairsRight_52 ?_
        refine ro_Si (As := [.int (x1 i2.toNatClampNeg), .int (x1 i4.toNatClampNeg)]) (rest := [.int 1, .int i3]) ⟨hx, hb, hml, hown, hts⟩ hE va_S.rf (c_J6_compare_7cf53 l D cI cB cJ cZ aK aV N (x1 i2.toNatClampNeg) (x1 i4.toNatClampNeg) h) (va_cwS 2 hts gX1_pairsRight_J6_compare_7cf53 rfl rfl rfl (by decide +kernel) ⟨(Nat.le_of_ble_eq_true rfl), (Nat.le_of_ble_eq_true rfl)⟩) rfl hl.1 rfl (Nat.le_of_ble_eq_true rfl) dX1_pairsRight_53 ⟨Nat.zero_le _, Nat.zero_le _⟩ (fun r7 h => ?_)
        refine lv_iadd hx hb dX1_pairsRight_56 ?_
        refine lv_iadd hx hb dX1_pairsRight_57 ?_
        refine lv_topi (fun v8 ex => ?_)
        have h := nm_of ex h
        refine lv_istore_n (lv' := [(2, .int v8), (0, .ref q_this), (1, .ref q_x1), (3, .int i2), (4, .int i4)]) hx hb dX1_pairsRight_58 rfl hl (by decide) rfl (fun ls hl => ?_)
        exact w_X1_pairsRight_J59 l D cI cB cJ cZ aK aV N q_this q_x1 post C0 q_prices q_marks q_came q_grounds size came x1 i2 i4 kb15 hkb15 v8 h hP ls (lv_sub hl [1, 2, 0, 3, 4] rfl)
set_option maxHeartbeats 4000000 in
set_option maxRecDepth 100000 in
theorem w_X1_pairsRight_L15 (l : Launch) (D : va_G) (cI cB cJ cZ : ClassId) (aK aV : Nat → Nat) (N : Nat) {p : Program} {e : Env} {s : State} {m : MethodId} {below : List Frame} {meth : Method} {c : Code} (q_this : Nat) (q_x1 : Nat) (post : Int32 → Prop) (C0 : Cx p s m meth c ([.ref q_this, .ref q_x1] : List Value).toArray cX1_pairsRight 5 yX1_pairsRight.cls yX1_pairsRight.name (some .int) wsX1_pairsRight D cI cB cJ cZ aK aV (fun _ => False)) (q_prices : Nat) (q_marks : Nat) (q_came : Nat) (q_grounds : Nat) (size : Int32) (came : Nat → Int32) (x1 : Nat → Int32) (i2 : Int32) (ke15 : Int32 → Int32 → Prop) (hke15 : ∀ (i3_ : Int32) (i4_ : Int32), ke15 i3_ i4_ → ∀ ls : Array Slot, lv_has ls 5 [(0, .ref q_this), (1, .ref q_x1), (2, .int i3_), (3, .int i2)] → W p l e { frames := 1, cells := 0, slots := 0, locals := 21 } s m ([.ref q_this, .ref q_x1] : List Value).toArray below meth c s.heap [] 0 0 (MQ below (vp_Si post) ([.ref q_this, .ref q_x1] : List Value).toArray s 0 0 (fun _ => False)) (F0 m 65 ls [])) (hP : va_P D vwCl [(q_this, .inr (1, [.ref q_prices, .ref q_marks, .ref q_came, .ref q_grounds, .int size])), (q_came, .inl (cI, 16, .inl came)), (q_x1, .inl (cI, 16, .inl x1))] s.heap) : ∀ (n_ : Nat) (i3 : Int32) (i4 : Int32), f_X1_pairsRight_L15 N size came x1 i2 ke15 n_ i3 i4 → ∀ ls : Array Slot, lv_has ls 5 [(0, .ref q_this), (1, .ref q_x1), (2, .int i3), (3, .int i2), (4, .int i4)] → W p l e { frames := 1, cells := 0, slots := 0, locals := 21 } s m ([.ref q_this, .ref q_x1] : List Value).toArray below meth c s.heap [] 0 0 (MQ below (vp_Si post) ([.ref q_this, .ref q_x1] : List Value).toArray s 0 0 (fun _ => False)) (F0 m 15 ls []) := by
  intro n_
  induction n_ with
  | zero => intro i3 i4 h; exact h.elim
  | succ n_ ih =>
    intro i3 i4 h ls hl
    exact w_X1_pairsRight_B15 l D cI cB cJ cZ aK aV N q_this q_x1 post C0 q_prices q_marks q_came q_grounds size came x1 i2 (f_X1_pairsRight_L15 N size came x1 i2 ke15 n_) ih ke15 hke15 i3 i4 h hP ls hl
set_option maxHeartbeats 4000000 in
set_option maxRecDepth 100000 in
theorem w_X1_pairsRight_B4 (l : Launch) (D : va_G) (cI cB cJ cZ : ClassId) (aK aV : Nat → Nat) (N : Nat) {p : Program} {e : Env} {s : State} {m : MethodId} {below : List Frame} {meth : Method} {c : Code} (q_this : Nat) (q_x1 : Nat) (post : Int32 → Prop) (C0 : Cx p s m meth c ([.ref q_this, .ref q_x1] : List Value).toArray cX1_pairsRight 5 yX1_pairsRight.cls yX1_pairsRight.name (some .int) wsX1_pairsRight D cI cB cJ cZ aK aV (fun _ => False)) (q_prices : Nat) (q_marks : Nat) (q_came : Nat) (q_grounds : Nat) (size : Int32) (came : Nat → Int32) (x1 : Nat → Int32) (kb4 : Int32 → Int32 → Prop) (hkb4 : ∀ (i1_ : Int32) (i2_ : Int32), kb4 i1_ i2_ → ∀ ls : Array Slot, lv_has ls 5 [(0, .ref q_this), (1, .ref q_x1), (2, .int i1_), (3, .int i2_)] → W p l e { frames := 1, cells := 0, slots := 0, locals := 21 } s m ([.ref q_this, .ref q_x1] : List Value).toArray below meth c s.heap [] 0 0 (MQ below (vp_Si post) ([.ref q_this, .ref q_x1] : List Value).toArray s 0 0 (fun _ => False)) (F0 m 4 ls [])) (ke4 : Int32 → Int32 → Prop) (hke4 : ∀ (i1_ : Int32) (i2_ : Int32), ke4 i1_ i2_ → ∀ ls : Array Slot, lv_has ls 5 [(2, .int i1_)] → W p l e { frames := 1, cells := 0, slots := 0, locals := 21 } s m ([.ref q_this, .ref q_x1] : List Value).toArray below meth c s.heap [] 0 0 (MQ below (vp_Si post) ([.ref q_this, .ref q_x1] : List Value).toArray s 0 0 (fun _ => False)) (F0 m 71 ls [])) (i1 : Int32) (i2 : Int32) (h : f_X1_pairsRight_B4 N size came x1 kb4 ke4 i1 i2) (hP : va_P D vwCl [(q_this, .inr (1, [.ref q_prices, .ref q_marks, .ref q_came, .ref q_grounds, .int size])), (q_came, .inl (cI, 16, .inl came)), (q_x1, .inl (cI, 16, .inl x1))] s.heap) (ls : Array Slot) (hl : lv_has ls 5 [(0, .ref q_this), (1, .ref q_x1), (2, .int i1), (3, .int i2)]) : W p l e { frames := 1, cells := 0, slots := 0, locals := 21 } s m ([.ref q_this, .ref q_x1] : List Value).toArray below meth c s.heap [] 0 0 (MQ below (vp_Si post) ([.ref q_this, .ref q_x1] : List Value).toArray s 0 0 (fun _ => False)) (F0 m 4 ls []) := by
  obtain ⟨hx, hb, hr, hml, hown, hts, hE, hlk, hnm⟩ := id C0
  have ik1 : ∀ w ∈ u_ws RX1 TX1 5, w ∈ wsX1_pairsRight := by decide +kernel
  unfold f_X1_pairsRight_B4 at h
  refine lv_iload_n hx hb dX1_pairsRight_4 rfl (lv_at hl 3 rfl) ?_
  refine lv_aload_n hx hb dX1_pairsRight_5 rfl (lv_at hl 0 rfl) ?_
  refine va_get (D := D) (ci := 1) (v := .int size) (C := RX1) (T := TX1) (N := 5) hx hb hts ik1 hown hE.1.1 hP 0 rfl rfl 4 (by decide) (hts (.fieldLink RX1 22 "FortyHouses$Findings" "size" "I") (by decide +kernel)) (fun _ h9 => h9) rfl dX1_pairsRight_6 ?_
  refine lv_icmp_ge (tgt := 71) hx hb dX1_pairsRight_9 (by decide) (fun c1 => ?_) (fun c1 => ?_)
  · have h := ite_t c1 h
    exact hke4 i1 i2 h ls (lv_sub hl [2] rfl)
  · have h := ite_f c1 h
    refine lv_iconst (v := 0) hx hb dX1_pairsRight_12 (by decide) ?_
    refine lv_istore (lv' := [(4, .int 0), (0, .ref q_this), (1, .ref q_x1), (2, .int i1), (3, .int i2)]) hx hb dX1_pairsRight_13 hl (by decide) rfl (fun ls hl => ?_)
    refine w_X1_pairsRight_L15 l D cI cB cJ cZ aK aV N q_this q_x1 post C0 q_prices q_marks q_came q_grounds size came x1 i2 _ (fun o9 o10 h ls hl => ?_) hP N i1 0 h ls (lv_sub hl [1, 2, 3, 4, 0] rfl)
    obtain ⟨v11, ex⟩ : ∃ y : Int32, y = (i2 + 1) := ⟨_, rfl⟩
    have h := nm_of ex h
    refine lv_iinc (v := v11) (lv' := [(3, .int v11), (0, .ref q_this), (1, .ref q_x1), (2, .int o9)]) hx hb dX1_pairsRight_65 hl (k := 3) rfl (by rw [ex]; rfl) (by decide) rfl (fun ls hl => ?_)
    refine lv_goto (tgt := 4) hx hb dX1_pairsRight_68 (by decide) ?_
    exact hkb4 o9 v11 h ls (lv_sub hl [1, 2, 3, 0] rfl)
set_option maxHeartbeats 4000000 in
set_option maxRecDepth 100000 in
theorem w_X1_pairsRight_L4 (l : Launch) (D : va_G) (cI cB cJ cZ : ClassId) (aK aV : Nat → Nat) (N : Nat) {p : Program} {e : Env} {s : State} {m : MethodId} {below : List Frame} {meth : Method} {c : Code} (q_this : Nat) (q_x1 : Nat) (post : Int32 → Prop) (C0 : Cx p s m meth c ([.ref q_this, .ref q_x1] : List Value).toArray cX1_pairsRight 5 yX1_pairsRight.cls yX1_pairsRight.name (some .int) wsX1_pairsRight D cI cB cJ cZ aK aV (fun _ => False)) (q_prices : Nat) (q_marks : Nat) (q_came : Nat) (q_grounds : Nat) (size : Int32) (came : Nat → Int32) (x1 : Nat → Int32) (ke4 : Int32 → Int32 → Prop) (hke4 : ∀ (i1_ : Int32) (i2_ : Int32), ke4 i1_ i2_ → ∀ ls : Array Slot, lv_has ls 5 [(2, .int i1_)] → W p l e { frames := 1, cells := 0, slots := 0, locals := 21 } s m ([.ref q_this, .ref q_x1] : List Value).toArray below meth c s.heap [] 0 0 (MQ below (vp_Si post) ([.ref q_this, .ref q_x1] : List Value).toArray s 0 0 (fun _ => False)) (F0 m 71 ls [])) (hP : va_P D vwCl [(q_this, .inr (1, [.ref q_prices, .ref q_marks, .ref q_came, .ref q_grounds, .int size])), (q_came, .inl (cI, 16, .inl came)), (q_x1, .inl (cI, 16, .inl x1))] s.heap) : ∀ (n_ : Nat) (i1 : Int32) (i2 : Int32), f_X1_pairsRight_L4 N size came x1 ke4 n_ i1 i2 → ∀ ls : Array Slot, lv_has ls 5 [(0, .ref q_this), (1, .ref q_x1), (2, .int i1), (3, .int i2)] → W p l e { frames := 1, cells := 0, slots := 0, locals := 21 } s m ([.ref q_this, .ref q_x1] : List Value).toArray below meth c s.heap [] 0 0 (MQ below (vp_Si post) ([.ref q_this, .ref q_x1] : List Value).toArray s 0 0 (fun _ => False)) (F0 m 4 ls []) := by
  intro n_
  induction n_ with
  | zero => intro i1 i2 h; exact h.elim
  | succ n_ ih =>
    intro i1 i2 h ls hl
    exact w_X1_pairsRight_B4 l D cI cB cJ cZ aK aV N q_this q_x1 post C0 q_prices q_marks q_came q_grounds size came x1 (f_X1_pairsRight_L4 N size came x1 ke4 n_) ih ke4 hke4 i1 i2 h hP ls hl
set_option maxHeartbeats 4000000 in
set_option maxRecDepth 100000 in
theorem c_X1_pairsRight (l : Launch) (D : va_G) (cI cB cJ cZ : ClassId) (aK aV : Nat → Nat) (N : Nat) (q_this : Nat) (q_prices : Nat) (q_marks : Nat) (q_came : Nat) (q_grounds : Nat) (q_x1 : Nat) (size : Int32) (came : Nat → Int32) (x1 : Nat → Int32) {post : Int32 → Prop} (h : f_X1_pairsRight N size came x1 post) : Met l yX1_pairsRight wsX1_pairsRight { frames := 1, cells := 0, slots := 0, locals := 21 } (PR D cI cB cJ cZ aK aV [.ref q_this, .ref q_x1] [(q_this, .inr (1, [.ref q_prices, .ref q_marks, .ref q_came, .ref q_grounds, .int size])), (q_came, .inl (cI, 16, .inl came)), (q_x1, .inl (cI, 16, .inl x1))]) (vp_Si post) 0 0 (fun _ => False) := by
  refine ro_enter (cc := cX1_pairsRight) (maxL := 5) (ret := (some .int)) (by decide) rfl (Nat.le_of_ble_eq_true rfl) ?_
  intro p e s m below meth c C0 hP ls hl
  have hl : lv_has ls 5 [(0, .ref q_this), (1, .ref q_x1)] := hl
  unfold f_X1_pairsRight at h
  obtain ⟨hx, hb, hr, hml, hown, hts, hE, hlk, hnm⟩ := id C0
  have ik1 : ∀ w ∈ u_ws RX1 TX1 5, w ∈ wsX1_pairsRight := by decide +kernel
  refine lv_iconst (v := 0) hx hb dX1_pairsRight_0 (by decide) ?_
  refine lv_istore_n (lv' := [(2, .int 0), (0, .ref q_this), (1, .ref q_x1)]) hx hb dX1_pairsRight_1 rfl hl (by decide) rfl (fun ls hl => ?_)
  refine lv_iconst (v := 0) hx hb dX1_pairsRight_2 (by decide) ?_
  refine lv_istore_n (lv' := [(3, .int 0), (2, .int 0), (0, .ref q_this), (1, .ref q_x1)]) hx hb dX1_pairsRight_3 rfl hl (by decide) rfl (fun ls hl => ?_)
  refine w_X1_pairsRight_L4 l D cI cB cJ cZ aK aV N q_this q_x1 post C0 q_prices q_marks q_came q_grounds size came x1 _ (fun o12 o13 h ls hl => ?_) hP N 0 0 h ls (lv_sub hl [2, 3, 1, 0] rfl)
  refine lv_iload_n hx hb dX1_pairsRight_71 rfl (lv_at hl 0 rfl) ?_
  exact ro_iret hx hb hr hlk h dX1_pairsRight_72
set_option maxHeartbeats 4000000 in
set_option maxRecDepth 100000 in
theorem w_X1_rightBy_J47 (l : Launch) (D : va_G) (cI cB cJ cZ : ClassId) (aK aV : Nat → Nat) (N : Nat) {p : Program} {e : Env} {s : State} {m : MethodId} {below : List Frame} {meth : Method} {c : Code} (q_this : Nat) (q_x1 : Nat) (x2 : Int32) (post : Int32 → Prop) (C0 : Cx p s m meth c ([.ref q_this, .ref q_x1, .int x2] : List Value).toArray cX1_rightBy 6 yX1_rightBy.cls yX1_rightBy.name (some .int) wsX1_rightBy D cI cB cJ cZ aK aV (fun _ => False)) (q_prices : Nat) (q_marks : Nat) (q_came : Nat) (q_grounds : Nat) (size : Int32) (came : Nat → Int32) (x1 : Nat → Int32) (i1 : Int32) (i2 : Int32) (kb5 : Int32 → Int32 → Prop) (hkb5 : ∀ (i1_ : Int32) (i2_ : Int32), kb5 i1_ i2_ → ∀ ls : Array Slot, lv_has ls 6 [(0, .ref q_this), (1, .ref q_x1), (2, .int x2), (3, .int i1_), (4, .int i2_)] → W p l e { frames := 0, cells := 0, slots := 0, locals := 0 } s m ([.ref q_this, .ref q_x1, .int x2] : List Value).toArray below meth c s.heap [] 0 0 (MQ below (vp_Si post) ([.ref q_this, .ref q_x1, .int x2] : List Value).toArray s 0 0 (fun _ => False)) (F0 m 5 ls [])) (j4 : Int32) (h : f_X1_rightBy_J47 N i1 i2 kb5 j4) (hP : va_P D vwCl [(q_this, .inr (1, [.ref q_prices, .ref q_marks, .ref q_came, .ref q_grounds, .int size])), (q_came, .inl (cI, 16, .inl came)), (q_x1, .inl (cI, 16, .inl x1))] s.heap) (ls : Array Slot) (hl : lv_has ls 6 [(0, .ref q_this), (1, .ref q_x1), (2, .int x2), (4, .int i2)]) : W p l e { frames := 0, cells := 0, slots := 0, locals := 0 } s m ([.ref q_this, .ref q_x1, .int x2] : List Value).toArray below meth c s.heap [] 0 0 (MQ below (vp_Si post) ([.ref q_this, .ref q_x1, .int x2] : List Value).toArray s 0 0 (fun _ => False)) (F0 m 47 ls [.int j4, .int i1]) := by
  obtain ⟨hx, hb, hr, hml, hown, hts, hE, hlk, hnm⟩ := id C0
  have ik1 : ∀ w ∈ u_ws RX1 TX1 5, w ∈ wsX1_rightBy := by decide +kernel
  unfold f_X1_rightBy_J47 at h
  refine lv_iadd hx hb dX1_rightBy_47 ?_
  refine lv_topi (fun v5 ex => ?_)
  have h := nm_of ex h
  refine lv_istore_n (lv' := [(3, .int v5), (0, .ref q_this), (1, .ref q_x1), (2, .int x2), (4, .int i2)]) hx hb dX1_rightBy_48 rfl hl (by decide) rfl (fun ls hl => ?_)
  obtain ⟨v6, ex⟩ : ∃ y : Int32, y = (i2 + 1) := ⟨_, rfl⟩
  have h := nm_of ex h
  refine lv_iinc (v := v6) (lv' := [(4, .int v6), (3, .int v5), (0, .ref q_this), (1, .ref q_x1), (2, .int x2)]) hx hb dX1_rightBy_49 hl (k := 4) rfl (by rw [ex]; rfl) (by decide) rfl (fun ls hl => ?_)
  refine lv_goto (tgt := 5) hx hb dX1_rightBy_52 (by decide) ?_
  exact hkb5 v5 v6 h ls (lv_sub hl [2, 3, 4, 1, 0] rfl)
set_option maxHeartbeats 4000000 in
set_option maxRecDepth 100000 in
theorem w_X1_rightBy_J27 (l : Launch) (D : va_G) (cI cB cJ cZ : ClassId) (aK aV : Nat → Nat) (N : Nat) {p : Program} {e : Env} {s : State} {m : MethodId} {below : List Frame} {meth : Method} {c : Code} (q_this : Nat) (q_x1 : Nat) (x2 : Int32) (post : Int32 → Prop) (C0 : Cx p s m meth c ([.ref q_this, .ref q_x1, .int x2] : List Value).toArray cX1_rightBy 6 yX1_rightBy.cls yX1_rightBy.name (some .int) wsX1_rightBy D cI cB cJ cZ aK aV (fun _ => False)) (q_prices : Nat) (q_marks : Nat) (q_came : Nat) (q_grounds : Nat) (size : Int32) (came : Nat → Int32) (x1 : Nat → Int32) (i1 : Int32) (i2 : Int32) (kb5 : Int32 → Int32 → Prop) (hkb5 : ∀ (i1_ : Int32) (i2_ : Int32), kb5 i1_ i2_ → ∀ ls : Array Slot, lv_has ls 6 [(0, .ref q_this), (1, .ref q_x1), (2, .int x2), (3, .int i1_), (4, .int i2_)] → W p l e { frames := 0, cells := 0, slots := 0, locals := 0 } s m ([.ref q_this, .ref q_x1, .int x2] : List Value).toArray below meth c s.heap [] 0 0 (MQ below (vp_Si post) ([.ref q_this, .ref q_x1, .int x2] : List Value).toArray s 0 0 (fun _ => False)) (F0 m 5 ls [])) (j3 : Int32) (h : f_X1_rightBy_J27 N came i1 i2 kb5 j3) (hP : va_P D vwCl [(q_this, .inr (1, [.ref q_prices, .ref q_marks, .ref q_came, .ref q_grounds, .int size])), (q_came, .inl (cI, 16, .inl came)), (q_x1, .inl (cI, 16, .inl x1))] s.heap) (ls : Array Slot) (hl : lv_has ls 6 [(0, .ref q_this), (1, .ref q_x1), (2, .int x2), (3, .int i1), (4, .int i2)]) : W p l e { frames := 0, cells := 0, slots := 0, locals := 0 } s m ([.ref q_this, .ref q_x1, .int x2] : List Value).toArray below meth c s.heap [] 0 0 (MQ below (vp_Si post) ([.ref q_this, .ref q_x1, .int x2] : List Value).toArray s 0 0 (fun _ => False)) (F0 m 27 ls [.int j3]) := by
  obtain ⟨hx, hb, hr, hml, hown, hts, hE, hlk, hnm⟩ := id C0
  have ik1 : ∀ w ∈ u_ws RX1 TX1 5, w ∈ wsX1_rightBy := by decide +kernel
  unfold f_X1_rightBy_J27 at h
  refine lv_istore (lv' := [(5, .int j3), (0, .ref q_this), (1, .ref q_x1), (2, .int x2), (3, .int i1), (4, .int i2)]) hx hb dX1_rightBy_27 hl (by decide) rfl (fun ls hl => ?_)
  refine lv_iload_n hx hb dX1_rightBy_29 rfl (lv_at hl 4 rfl) ?_
  refine lv_iload hx hb dX1_rightBy_30 (lv_at hl 0 rfl) ?_
  refine lv_aload_n hx hb dX1_rightBy_32 rfl (lv_at hl 1 rfl) ?_
  refine va_get (D := D) (ci := 1) (v := .ref q_came) (C := RX1) (T := TX1) (N := 5) hx hb hts ik1 hown hE.1.1 hP 0 rfl rfl 2 (by decide) (hts (.fieldLink RX1 16 "FortyHouses$Findings" "came" "[I") (by decide +kernel)) (fun _ h9 => h9) rfl dX1_rightBy_33 ?_
  refine lv_iload hx hb dX1_rightBy_36 (lv_at hl 5 rfl) ?_
  obtain ⟨hin, h⟩ := h
  refine va_iald hx hb hE.1.1 hP 1 0 rfl rfl hin dX1_rightBy_38 ?_
  refine lv_icmp_ne (tgt := 46) hx hb dX1_rightBy_39 (by decide) (fun c1 => ?_) (fun c1 => ?_)
  · have h := ite_t c1 h
    refine lv_iconst (v := 0) hx hb dX1_rightBy_46 (by decide) ?_
    exact w_X1_rightBy_J47 l D cI cB cJ cZ aK aV N q_this q_x1 x2 post C0 q_prices q_marks q_came q_grounds size came x1 i1 i2 kb5 hkb5 0 h hP ls (lv_sub hl [1, 2, 3, 5] rfl)
  · have h := ite_n c1 h
    refine lv_iconst (v := 1) hx hb dX1_rightBy_42 (by decide) ?_
    refine lv_goto (tgt := 47) hx hb dX1_rightBy_43 (by decide) ?_
    exact w_X1_rightBy_J47 l D cI cB cJ cZ aK aV N q_this q_x1 x2 post C0 q_prices q_marks q_came q_grounds size came x1 i1 i2 kb5 hkb5 1 h hP ls (lv_sub hl [1, 2, 3, 5] rfl)
set_option maxHeartbeats 4000000 in
set_option maxRecDepth 100000 in
theorem w_X1_rightBy_B5 (l : Launch) (D : va_G) (cI cB cJ cZ : ClassId) (aK aV : Nat → Nat) (N : Nat) {p : Program} {e : Env} {s : State} {m : MethodId} {below : List Frame} {meth : Method} {c : Code} (q_this : Nat) (q_x1 : Nat) (x2 : Int32) (post : Int32 → Prop) (C0 : Cx p s m meth c ([.ref q_this, .ref q_x1, .int x2] : List Value).toArray cX1_rightBy 6 yX1_rightBy.cls yX1_rightBy.name (some .int) wsX1_rightBy D cI cB cJ cZ aK aV (fun _ => False)) (q_prices : Nat) (q_marks : Nat) (q_came : Nat) (q_grounds : Nat) (size : Int32) (came : Nat → Int32) (x1 : Nat → Int32) (kb5 : Int32 → Int32 → Prop) (hkb5 : ∀ (i1_ : Int32) (i2_ : Int32), kb5 i1_ i2_ → ∀ ls : Array Slot, lv_has ls 6 [(0, .ref q_this), (1, .ref q_x1), (2, .int x2), (3, .int i1_), (4, .int i2_)] → W p l e { frames := 0, cells := 0, slots := 0, locals := 0 } s m ([.ref q_this, .ref q_x1, .int x2] : List Value).toArray below meth c s.heap [] 0 0 (MQ below (vp_Si post) ([.ref q_this, .ref q_x1, .int x2] : List Value).toArray s 0 0 (fun _ => False)) (F0 m 5 ls [])) (ke5 : Int32 → Int32 → Prop) (hke5 : ∀ (i1_ : Int32) (i2_ : Int32), ke5 i1_ i2_ → ∀ ls : Array Slot, lv_has ls 6 [(3, .int i1_)] → W p l e { frames := 0, cells := 0, slots := 0, locals := 0 } s m ([.ref q_this, .ref q_x1, .int x2] : List Value).toArray below meth c s.heap [] 0 0 (MQ below (vp_Si post) ([.ref q_this, .ref q_x1, .int x2] : List Value).toArray s 0 0 (fun _ => False)) (F0 m 55 ls [])) (i1 : Int32) (i2 : Int32) (h : f_X1_rightBy_B5 N size came x1 x2 kb5 ke5 i1 i2) (hP : va_P D vwCl [(q_this, .inr (1, [.ref q_prices, .ref q_marks, .ref q_came, .ref q_grounds, .int size])), (q_came, .inl (cI, 16, .inl came)), (q_x1, .inl (cI, 16, .inl x1))] s.heap) (ls : Array Slot) (hl : lv_has ls 6 [(0, .ref q_this), (1, .ref q_x1), (2, .int x2), (3, .int i1), (4, .int i2)]) : W p l e { frames := 0, cells := 0, slots := 0, locals := 0 } s m ([.ref q_this, .ref q_x1, .int x2] : List Value).toArray below meth c s.heap [] 0 0 (MQ below (vp_Si post) ([.ref q_this, .ref q_x1, .int x2] : List Value).toArray s 0 0 (fun _ => False)) (F0 m 5 ls []) := by
  obtain ⟨hx, hb, hr, hml, hown, hts, hE, hlk, hnm⟩ := id C0
  have ik1 : ∀ w ∈ u_ws RX1 TX1 5, w ∈ wsX1_rightBy := by decide +kernel
  unfold f_X1_rightBy_B5 at h
  refine lv_iload hx hb dX1_rightBy_5 (lv_at hl 4 rfl) ?_
  refine lv_aload_n hx hb dX1_rightBy_7 rfl (lv_at hl 0 rfl) ?_
  refine va_get (D := D) (ci := 1) (v := .int size) (C := RX1) (T := TX1) (N := 5) hx hb hts ik1 hown hE.1.1 hP 0 rfl rfl 4 (by decide) (hts (.fieldLink RX1 22 "FortyHouses$Findings" "size" "I") (by decide +kernel)) (fun _ h9 => h9) rfl dX1_rightBy_8 ?_
  refine lv_icmp_ge (tgt := 55) hx hb dX1_rightBy_11 (by decide) (fun c1 => ?_) (fun c1 => ?_)
  · have h := ite_t c1 h
    exact hke5 i1 i2 h ls (lv_sub hl [3] rfl)
  · have h := ite_f c1 h
    refine lv_aload_n hx hb dX1_rightBy_14 rfl (lv_at hl 1 rfl) ?_
    refine lv_iload hx hb dX1_rightBy_15 (lv_at hl 4 rfl) ?_
    obtain ⟨hin, h⟩ := h
    refine va_iald hx hb hE.1.1 hP 2 0 rfl rfl hin dX1_rightBy_17 ?_
    refine lv_iload_n hx hb dX1_rightBy_18 rfl (lv_at hl 2 rfl) ?_
    refine lv_icmp_lt (tgt := 26) hx hb dX1_rightBy_19 (by decide) (fun c1 => ?_) (fun c1 => ?_)
    · have h := ite_t c1 h
      refine lv_iconst (v := 0) hx hb dX1_rightBy_26 (by decide) ?_
      exact w_X1_rightBy_J27 l D cI cB cJ cZ aK aV N q_this q_x1 x2 post C0 q_prices q_marks q_came q_grounds size came x1 i1 i2 kb5 hkb5 0 h hP ls hl
    · have h := ite_f c1 h
      refine lv_iconst (v := 1) hx hb dX1_rightBy_22 (by decide) ?_
      refine lv_goto (tgt := 27) hx hb dX1_rightBy_23 (by decide) ?_
      exact w_X1_rightBy_J27 l D cI cB cJ cZ aK aV N q_this q_x1 x2 post C0 q_prices q_marks q_came q_grounds size came x1 i1 i2 kb5 hkb5 1 h hP ls hl
set_option maxHeartbeats 4000000 in
set_option maxRecDepth 100000 in
theorem w_X1_rightBy_L5 (l : Launch) (D : va_G) (cI cB cJ cZ : ClassId) (aK aV : Nat → Nat) (N : Nat) {p : Program} {e : Env} {s : State} {m : MethodId} {below : List Frame} {meth : Method} {c : Code} (q_this : Nat) (q_x1 : Nat) (x2 : Int32) (post : Int32 → Prop) (C0 : Cx p s m meth c ([.ref q_this, .ref q_x1, .int x2] : List Value).toArray cX1_rightBy 6 yX1_rightBy.cls yX1_rightBy.name (some .int) wsX1_rightBy D cI cB cJ cZ aK aV (fun _ => False)) (q_prices : Nat) (q_marks : Nat) (q_came : Nat) (q_grounds : Nat) (size : Int32) (came : Nat → Int32) (x1 : Nat → Int32) (ke5 : Int32 → Int32 → Prop) (hke5 : ∀ (i1_ : Int32) (i2_ : Int32), ke5 i1_ i2_ → ∀ ls : Array Slot, lv_has ls 6 [(3, .int i1_)] → W p l e { frames := 0, cells := 0, slots := 0, locals := 0 } s m ([.ref q_this, .ref q_x1, .int x2] : List Value).toArray below meth c s.heap [] 0 0 (MQ below (vp_Si post) ([.ref q_this, .ref q_x1, .int x2] : List Value).toArray s 0 0 (fun _ => False)) (F0 m 55 ls [])) (hP : va_P D vwCl [(q_this, .inr (1, [.ref q_prices, .ref q_marks, .ref q_came, .ref q_grounds, .int size])), (q_came, .inl (cI, 16, .inl came)), (q_x1, .inl (cI, 16, .inl x1))] s.heap) : ∀ (n_ : Nat) (i1 : Int32) (i2 : Int32), f_X1_rightBy_L5 N size came x1 x2 ke5 n_ i1 i2 → ∀ ls : Array Slot, lv_has ls 6 [(0, .ref q_this), (1, .ref q_x1), (2, .int x2), (3, .int i1), (4, .int i2)] → W p l e { frames := 0, cells := 0, slots := 0, locals := 0 } s m ([.ref q_this, .ref q_x1, .int x2] : List Value).toArray below meth c s.heap [] 0 0 (MQ below (vp_Si post) ([.ref q_this, .ref q_x1, .int x2] : List Value).toArray s 0 0 (fun _ => False)) (F0 m 5 ls []) := by
  intro n_
  induction n_ with
  | zero => intro i1 i2 h; exact h.elim
  | succ n_ ih =>
    intro i1 i2 h ls hl
    exact w_X1_rightBy_B5 l D cI cB cJ cZ aK aV N q_this q_x1 x2 post C0 q_prices q_marks q_came q_grounds size came x1 (f_X1_rightBy_L5 N size came x1 x2 ke5 n_) ih ke5 hke5 i1 i2 h hP ls hl
set_option maxHeartbeats 4000000 in
set_option maxRecDepth 100000 in
theorem c_X1_rightBy (l : Launch) (D : va_G) (cI cB cJ cZ : ClassId) (aK aV : Nat → Nat) (N : Nat) (q_this : Nat) (q_prices : Nat) (q_marks : Nat) (q_came : Nat) (q_grounds : Nat) (q_x1 : Nat) (size : Int32) (came : Nat → Int32) (x1 : Nat → Int32) (x2 : Int32) {post : Int32 → Prop} (h : f_X1_rightBy N size came x1 x2 post) : Met l yX1_rightBy wsX1_rightBy { frames := 0, cells := 0, slots := 0, locals := 0 } (PR D cI cB cJ cZ aK aV [.ref q_this, .ref q_x1, .int x2] [(q_this, .inr (1, [.ref q_prices, .ref q_marks, .ref q_came, .ref q_grounds, .int size])), (q_came, .inl (cI, 16, .inl came)), (q_x1, .inl (cI, 16, .inl x1))]) (vp_Si post) 0 0 (fun _ => False) := by
  refine ro_enter (cc := cX1_rightBy) (maxL := 6) (ret := (some .int)) (by decide) rfl (Nat.le_of_ble_eq_true rfl) ?_
  intro p e s m below meth c C0 hP ls hl
  have hl : lv_has ls 6 [(0, .ref q_this), (1, .ref q_x1), (2, .int x2)] := hl
  unfold f_X1_rightBy at h
  obtain ⟨hx, hb, hr, hml, hown, hts, hE, hlk, hnm⟩ := id C0
  have ik1 : ∀ w ∈ u_ws RX1 TX1 5, w ∈ wsX1_rightBy := by decide +kernel
  refine lv_iconst (v := 0) hx hb dX1_rightBy_0 (by decide) ?_
  refine lv_istore_n (lv' := [(3, .int 0), (0, .ref q_this), (1, .ref q_x1), (2, .int x2)]) hx hb dX1_rightBy_1 rfl hl (by decide) rfl (fun ls hl => ?_)
  refine lv_iconst (v := 0) hx hb dX1_rightBy_2 (by decide) ?_
  refine lv_istore (lv' := [(4, .int 0), (3, .int 0), (0, .ref q_this), (1, .ref q_x1), (2, .int x2)]) hx hb dX1_rightBy_3 hl (by decide) rfl (fun ls hl => ?_)
  refine w_X1_rightBy_L5 l D cI cB cJ cZ aK aV N q_this q_x1 x2 post C0 q_prices q_marks q_came q_grounds size came x1 _ (fun o7 o8 h ls hl => ?_) hP N 0 0 h ls (lv_sub hl [2, 3, 4, 1, 0] rfl)
  refine lv_iload_n hx hb dX1_rightBy_55 rfl (lv_at hl 0 rfl) ?_
  exact ro_iret hx hb hr hlk h dX1_rightBy_56
set_option maxHeartbeats 4000000 in
set_option maxRecDepth 100000 in
theorem w_X1_cut_J35 (l : Launch) (D : va_G) (cI cB cJ cZ : ClassId) (aK aV : Nat → Nat) (N : Nat) {p : Program} {e : Env} {s : State} {m : MethodId} {below : List Frame} {meth : Method} {c : Code} (q_this : Nat) (q_x1 : Nat) (post : Int32 → Prop) (C0 : Cx p s m meth c ([.ref q_this, .ref q_x1] : List Value).toArray cX1_cut 6 yX1_cut.cls yX1_cut.name (some .int) wsX1_cut D cI cB cJ cZ aK aV (fun _ => False)) (q_prices : Nat) (q_marks : Nat) (q_came : Nat) (q_grounds : Nat) (size : Int32) (came : Nat → Int32) (x1 : Nat → Int32) (i3 : Int32) (kb7 : Int32 → Int32 → Int32 → Prop) (hkb7 : ∀ (i1_ : Int32) (i2_ : Int32) (i3_ : Int32), kb7 i1_ i2_ i3_ → ∀ ls : Array Slot, lv_has ls 6 [(0, .ref q_this), (1, .ref q_x1), (2, .int i1_), (3, .int i2_), (4, .int i3_)] → W p l e { frames := 1, cells := 0, slots := 0, locals := 25 } s m ([.ref q_this, .ref q_x1] : List Value).toArray below meth c s.heap [] 0 0 (MQ below (vp_Si post) ([.ref q_this, .ref q_x1] : List Value).toArray s 0 0 (fun _ => False)) (F0 m 7 ls [])) (j5 : Int32) (j6 : Int32) (h : f_X1_cut_J35 N i3 kb7 j5 j6) (hP : va_P D vwCl [(q_this, .inr (1, [.ref q_prices, .ref q_marks, .ref q_came, .ref q_grounds, .int size])), (q_came, .inl (cI, 16, .inl came)), (q_x1, .inl (cI, 16, .inl x1))] s.heap) (ls : Array Slot) (hl : lv_has ls 6 [(0, .ref q_this), (1, .ref q_x1), (2, .int j5), (3, .int j6), (4, .int i3)]) : W p l e { frames := 1, cells := 0, slots := 0, locals := 25 } s m ([.ref q_this, .ref q_x1] : List Value).toArray below meth c s.heap [] 0 0 (MQ below (vp_Si post) ([.ref q_this, .ref q_x1] : List Value).toArray s 0 0 (fun _ => False)) (F0 m 35 ls []) := by
  obtain ⟨hx, hb, hr, hml, hown, hts, hE, hlk, hnm⟩ := id C0
  unfold f_X1_cut_J35 at h
  obtain ⟨v7, ex⟩ : ∃ y : Int32, y = (i3 + 1) := ⟨_, rfl⟩
  have h := nm_of ex h
  refine lv_iinc (v := v7) (lv' := [(4, .int v7), (0, .ref q_this), (1, .ref q_x1), (2, .int j5), (3, .int j6)]) hx hb dX1_cut_35 hl (k := 4) rfl (by rw [ex]; rfl) (by decide) rfl (fun ls hl => ?_)
  refine lv_goto (tgt := 7) hx hb dX1_cut_38 (by decide) ?_
  exact hkb7 j5 j6 v7 h ls (lv_sub hl [1, 2, 3, 4, 0] rfl)
set_option maxHeartbeats 4000000 in
set_option maxRecDepth 100000 in
theorem w_X1_cut_B7 (l : Launch) (D : va_G) (cI cB cJ cZ : ClassId) (aK aV : Nat → Nat) (N : Nat) {p : Program} {e : Env} {s : State} {m : MethodId} {below : List Frame} {meth : Method} {c : Code} (q_this : Nat) (q_x1 : Nat) (post : Int32 → Prop) (C0 : Cx p s m meth c ([.ref q_this, .ref q_x1] : List Value).toArray cX1_cut 6 yX1_cut.cls yX1_cut.name (some .int) wsX1_cut D cI cB cJ cZ aK aV (fun _ => False)) (q_prices : Nat) (q_marks : Nat) (q_came : Nat) (q_grounds : Nat) (size : Int32) (came : Nat → Int32) (x1 : Nat → Int32) (kb7 : Int32 → Int32 → Int32 → Prop) (hkb7 : ∀ (i1_ : Int32) (i2_ : Int32) (i3_ : Int32), kb7 i1_ i2_ i3_ → ∀ ls : Array Slot, lv_has ls 6 [(0, .ref q_this), (1, .ref q_x1), (2, .int i1_), (3, .int i2_), (4, .int i3_)] → W p l e { frames := 1, cells := 0, slots := 0, locals := 25 } s m ([.ref q_this, .ref q_x1] : List Value).toArray below meth c s.heap [] 0 0 (MQ below (vp_Si post) ([.ref q_this, .ref q_x1] : List Value).toArray s 0 0 (fun _ => False)) (F0 m 7 ls [])) (ke7 : Int32 → Int32 → Int32 → Prop) (hke7 : ∀ (i1_ : Int32) (i2_ : Int32) (i3_ : Int32), ke7 i1_ i2_ i3_ → ∀ ls : Array Slot, lv_has ls 6 [(2, .int i1_)] → W p l e { frames := 1, cells := 0, slots := 0, locals := 25 } s m ([.ref q_this, .ref q_x1] : List Value).toArray below meth c s.heap [] 0 0 (MQ below (vp_Si post) ([.ref q_this, .ref q_x1] : List Value).toArray s 0 0 (fun _ => False)) (F0 m 41 ls [])) (i1 : Int32) (i2 : Int32) (i3 : Int32) (h : f_X1_cut_B7 N size came x1 kb7 ke7 i1 i2 i3) (hP : va_P D vwCl [(q_this, .inr (1, [.ref q_prices, .ref q_marks, .ref q_came, .ref q_grounds, .int size])), (q_came, .inl (cI, 16, .inl came)), (q_x1, .inl (cI, 16, .inl x1))] s.heap) (ls : Array Slot) (hl : lv_has ls 6 [(0, .ref q_this), (1, .ref q_x1), (2, .int i1), (3, .int i2), (4, .int i3)]) : W p l e { frames := 1, cells := 0, slots := 0, locals := 25 } s m ([.ref q_this, .ref q_x1] : List Value).toArray below meth c s.heap [] 0 0 (MQ below (vp_Si post) ([.ref q_this, .ref q_x1] : List Value).toArray s 0 0 (fun _ => False)) (F0 m 7 ls []) := by
  obtain ⟨hx, hb, hr, hml, hown, hts, hE, hlk, hnm⟩ := id C0
  unfold f_X1_cut_B7 at h
  refine lv_iload hx hb dX1_cut_7 (lv_at hl 4 rfl) ?_
  refine lv_bipush (v := 101) hx hb dX1_cut_9 (by decide) ?_
  refine lv_icmp_gt (tgt := 41) hx hb dX1_cut_11 (by decide) (fun c1 => ?_) (fun c1 => ?_)
  · have h := ite_t c1 h
    exact hke7 i1 i2 i3 h ls (lv_sub hl [2] rfl)
  · have h := ite_f c1 h
    refine lv_aload_n hx hb dX1_cut_14 rfl (lv_at hl 0 rfl) ?_
    refine lv_aload_n hx hb dX1_cut_15 rfl (lv_at hl 1 rfl) ?_
    refine lv_iload hx hb dX1_cut_16 (lv_at hl 4 rfl) ?_
    refine ro_Vi (C := RX1) (As := [.ref q_x1, .int i3]) (rest := []) ⟨hx, hb, hml, hown, hts⟩ hE va_S.rf hP [0, 1, 2] (c_X1_rightBy l D cI cB cJ cZ aK aV N q_this q_prices q_marks q_came q_grounds q_x1 size came x1 i3 h) (cwV 2 hts gX1_cut_X1_rightBy rfl rfl rfl (by decide +kernel) ⟨(Nat.le_of_ble_eq_true rfl), (Nat.le_of_ble_eq_true rfl)⟩) rfl 0 rfl rfl rfl hl.1 rfl (Nat.le_of_ble_eq_true rfl) dX1_cut_18 ⟨Nat.zero_le _, Nat.zero_le _⟩ (fun r4 h => ?_)
    refine lv_istore (lv' := [(5, .int r4), (0, .ref q_this), (1, .ref q_x1), (2, .int i1), (3, .int i2), (4, .int i3)]) hx hb dX1_cut_21 hl (by decide) rfl (fun ls hl => ?_)
    refine lv_iload hx hb dX1_cut_23 (lv_at hl 0 rfl) ?_
    refine lv_iload_n hx hb dX1_cut_25 rfl (lv_at hl 4 rfl) ?_
    refine lv_icmp_le (tgt := 35) hx hb dX1_cut_26 (by decide) (fun c1 => ?_) (fun c1 => ?_)
    · have h := ite_t c1 h
      exact w_X1_cut_J35 l D cI cB cJ cZ aK aV N q_this q_x1 post C0 q_prices q_marks q_came q_grounds size came x1 i3 kb7 hkb7 i1 i2 h hP ls (lv_sub hl [1, 2, 3, 4, 5] rfl)
    · have h := ite_f c1 h
      refine lv_iload hx hb dX1_cut_29 (lv_at hl 5 rfl) ?_
      refine lv_istore_n (lv' := [(2, .int i3), (5, .int r4), (0, .ref q_this), (1, .ref q_x1), (3, .int i2), (4, .int i3)]) hx hb dX1_cut_31 rfl hl (by decide) rfl (fun ls hl => ?_)
      refine lv_iload hx hb dX1_cut_32 (lv_at hl 1 rfl) ?_
      refine lv_istore_n (lv' := [(3, .int r4), (2, .int i3), (5, .int r4), (0, .ref q_this), (1, .ref q_x1), (4, .int i3)]) hx hb dX1_cut_34 rfl hl (by decide) rfl (fun ls hl => ?_)
      exact w_X1_cut_J35 l D cI cB cJ cZ aK aV N q_this q_x1 post C0 q_prices q_marks q_came q_grounds size came x1 i3 kb7 hkb7 i3 r4 h hP ls (lv_sub hl [3, 4, 1, 0, 5] rfl)
set_option maxHeartbeats 4000000 in
set_option maxRecDepth 100000 in
theorem w_X1_cut_L7 (l : Launch) (D : va_G) (cI cB cJ cZ : ClassId) (aK aV : Nat → Nat) (N : Nat) {p : Program} {e : Env} {s : State} {m : MethodId} {below : List Frame} {meth : Method} {c : Code} (q_this : Nat) (q_x1 : Nat) (post : Int32 → Prop) (C0 : Cx p s m meth c ([.ref q_this, .ref q_x1] : List Value).toArray cX1_cut 6 yX1_cut.cls yX1_cut.name (some .int) wsX1_cut D cI cB cJ cZ aK aV (fun _ => False)) (q_prices : Nat) (q_marks : Nat) (q_came : Nat) (q_grounds : Nat) (size : Int32) (came : Nat → Int32) (x1 : Nat → Int32) (ke7 : Int32 → Int32 → Int32 → Prop) (hke7 : ∀ (i1_ : Int32) (i2_ : Int32) (i3_ : Int32), ke7 i1_ i2_ i3_ → ∀ ls : Array Slot, lv_has ls 6 [(2, .int i1_)] → W p l e { frames := 1, cells := 0, slots := 0, locals := 25 } s m ([.ref q_this, .ref q_x1] : List Value).toArray below meth c s.heap [] 0 0 (MQ below (vp_Si post) ([.ref q_this, .ref q_x1] : List Value).toArray s 0 0 (fun _ => False)) (F0 m 41 ls [])) (hP : va_P D vwCl [(q_this, .inr (1, [.ref q_prices, .ref q_marks, .ref q_came, .ref q_grounds, .int size])), (q_came, .inl (cI, 16, .inl came)), (q_x1, .inl (cI, 16, .inl x1))] s.heap) : ∀ (n_ : Nat) (i1 : Int32) (i2 : Int32) (i3 : Int32), f_X1_cut_L7 N size came x1 ke7 n_ i1 i2 i3 → ∀ ls : Array Slot, lv_has ls 6 [(0, .ref q_this), (1, .ref q_x1), (2, .int i1), (3, .int i2), (4, .int i3)] → W p l e { frames := 1, cells := 0, slots := 0, locals := 25 } s m ([.ref q_this, .ref q_x1] : List Value).toArray below meth c s.heap [] 0 0 (MQ below (vp_Si post) ([.ref q_this, .ref q_x1] : List Value).toArray s 0 0 (fun _ => False)) (F0 m 7 ls []) := by
  intro n_
  induction n_ with
  | zero => intro i1 i2 i3 h; exact h.elim
  | succ n_ ih =>
    intro i1 i2 i3 h ls hl
    exact w_X1_cut_B7 l D cI cB cJ cZ aK aV N q_this q_x1 post C0 q_prices q_marks q_came q_grounds size came x1 (f_X1_cut_L7 N size came x1 ke7 n_) ih ke7 hke7 i1 i2 i3 h hP ls hl
set_option maxHeartbeats 4000000 in
set_option maxRecDepth 100000 in
theorem c_X1_cut (l : Launch) (D : va_G) (cI cB cJ cZ : ClassId) (aK aV : Nat → Nat) (N : Nat) (q_this : Nat) (q_prices : Nat) (q_marks : Nat) (q_came : Nat) (q_grounds : Nat) (q_x1 : Nat) (size : Int32) (came : Nat → Int32) (x1 : Nat → Int32) {post : Int32 → Prop} (h : f_X1_cut N size came x1 post) : Met l yX1_cut wsX1_cut { frames := 1, cells := 0, slots := 0, locals := 25 } (PR D cI cB cJ cZ aK aV [.ref q_this, .ref q_x1] [(q_this, .inr (1, [.ref q_prices, .ref q_marks, .ref q_came, .ref q_grounds, .int size])), (q_came, .inl (cI, 16, .inl came)), (q_x1, .inl (cI, 16, .inl x1))]) (vp_Si post) 0 0 (fun _ => False) := by
  refine ro_enter (cc := cX1_cut) (maxL := 6) (ret := (some .int)) (by decide) rfl (Nat.le_of_ble_eq_true rfl) ?_
  intro p e s m below meth c C0 hP ls hl
  have hl : lv_has ls 6 [(0, .ref q_this), (1, .ref q_x1)] := hl
  unfold f_X1_cut at h
  obtain ⟨hx, hb, hr, hml, hown, hts, hE, hlk, hnm⟩ := id C0
  refine lv_iconst (v := 0) hx hb dX1_cut_0 (by decide) ?_
  refine lv_istore_n (lv' := [(2, .int 0), (0, .ref q_this), (1, .ref q_x1)]) hx hb dX1_cut_1 rfl hl (by decide) rfl (fun ls hl => ?_)
  refine lv_iconst (v := (-1)) hx hb dX1_cut_2 (by decide) ?_
  refine lv_istore_n (lv' := [(3, .int (-1)), (2, .int 0), (0, .ref q_this), (1, .ref q_x1)]) hx hb dX1_cut_3 rfl hl (by decide) rfl (fun ls hl => ?_)
  refine lv_iconst (v := 0) hx hb dX1_cut_4 (by decide) ?_
  refine lv_istore (lv' := [(4, .int 0), (3, .int (-1)), (2, .int 0), (0, .ref q_this), (1, .ref q_x1)]) hx hb dX1_cut_5 hl (by decide) rfl (fun ls hl => ?_)
  refine w_X1_cut_L7 l D cI cB cJ cZ aK aV N q_this q_x1 post C0 q_prices q_marks q_came q_grounds size came x1 _ (fun o8 o9 o10 h ls hl => ?_) hP N 0 (-1) 0 h ls (lv_sub hl [3, 4, 2, 1, 0] rfl)
  refine lv_iload_n hx hb dX1_cut_41 rfl (lv_at hl 0 rfl) ?_
  exact ro_iret hx hb hr hlk h dX1_cut_42
set_option maxHeartbeats 4000000 in
set_option maxRecDepth 100000 in
theorem c_X1_isOn (l : Launch) (D : va_G) (cI cB cJ cZ : ClassId) (aK aV : Nat → Nat) (N : Nat) (q_this : Nat) (q_prices : Nat) (q_marks : Nat) (q_came : Nat) (q_grounds : Nat) (size : Int32) (grounds : Nat → Int32) (x1 : Int32) (x2 : Int32) {post : Int32 → Prop} (h : f_X1_isOn N grounds x1 x2 post) : Met l yX1_isOn wsX1_isOn { frames := 0, cells := 0, slots := 0, locals := 0 } (PR D cI cB cJ cZ aK aV [.ref q_this, .int x1, .int x2] [(q_this, .inr (1, [.ref q_prices, .ref q_marks, .ref q_came, .ref q_grounds, .int size])), (q_grounds, .inl (cI, 16, .inl grounds))]) (vp_Si (fun r => post r ∧ narrow .boolean (.int r) = .int r)) 0 0 (fun _ => False) := by
  refine ro_enter (cc := cX1_isOn) (maxL := 3) (ret := (some .boolean)) (by decide) rfl (Nat.le_of_ble_eq_true rfl) ?_
  intro p e s m below meth c C0 hP ls hl
  have hl : lv_has ls 3 [(0, .ref q_this), (1, .int x1), (2, .int x2)] := hl
  unfold f_X1_isOn at h
  obtain ⟨hx, hb, hr, hml, hown, hts, hE, hlk, hnm⟩ := id C0
  have ik1 : ∀ w ∈ u_ws RX1 TX1 5, w ∈ wsX1_isOn := by decide +kernel
  refine lv_aload_n hx hb dX1_isOn_0 rfl (lv_at hl 0 rfl) ?_
  refine va_get (D := D) (ci := 1) (v := .ref q_grounds) (C := RX1) (T := TX1) (N := 5) hx hb hts ik1 hown hE.1.1 hP 0 rfl rfl 3 (by decide) (hts (.fieldLink RX1 19 "FortyHouses$Findings" "grounds" "[I") (by decide +kernel)) (fun _ h9 => h9) rfl dX1_isOn_1 ?_
  refine lv_iload_n hx hb dX1_isOn_4 rfl (lv_at hl 1 rfl) ?_
  obtain ⟨hin, h⟩ := h
  refine va_iald hx hb hE.1.1 hP 1 0 rfl rfl hin dX1_isOn_5 ?_
  refine lv_iload_n hx hb dX1_isOn_6 rfl (lv_at hl 2 rfl) ?_
  refine lv_ishr hx hb dX1_isOn_7 ?_
  refine lv_iconst (v := 1) hx hb dX1_isOn_8 (by decide) ?_
  refine lv_iand hx hb dX1_isOn_9 ?_
  refine lv_iconst (v := 1) hx hb dX1_isOn_10 (by decide) ?_
  refine lv_icmp_ne (tgt := 18) hx hb dX1_isOn_11 (by decide) (fun c1 => ?_) (fun c1 => ?_)
  · have h := ite_t c1 h
    refine lv_iconst (v := 0) hx hb dX1_isOn_18 (by decide) ?_
    exact ro_zret (post := fun r => post r ∧ narrow .boolean (.int r) = .int r) hx hb hr rfl hlk ⟨h, rfl⟩ dX1_isOn_19
  · have h := ite_n c1 h
    refine lv_iconst (v := 1) hx hb dX1_isOn_14 (by decide) ?_
    refine lv_goto (tgt := 19) hx hb dX1_isOn_15 (by decide) ?_
    exact ro_zret (post := fun r => post r ∧ narrow .boolean (.int r) = .int r) hx hb hr rfl hlk ⟨h, rfl⟩ dX1_isOn_19
set_option maxHeartbeats 4000000 in
set_option maxRecDepth 100000 in
theorem c_X1_isLaden (l : Launch) (D : va_G) (cI cB cJ cZ : ClassId) (aK aV : Nat → Nat) (N : Nat) (q_this : Nat) (q_prices : Nat) (q_marks : Nat) (q_came : Nat) (q_grounds : Nat) (size : Int32) (grounds : Nat → Int32) (x1 : Int32) {post : Int32 → Prop} (h : f_X1_isLaden N grounds x1 post) : Met l yX1_isLaden wsX1_isLaden { frames := 1, cells := 0, slots := 0, locals := 20 } (PR D cI cB cJ cZ aK aV [.ref q_this, .int x1] [(q_this, .inr (1, [.ref q_prices, .ref q_marks, .ref q_came, .ref q_grounds, .int size])), (q_grounds, .inl (cI, 16, .inl grounds))]) (vp_Si (fun r => post r ∧ narrow .boolean (.int r) = .int r)) 0 0 (fun _ => False) := by
  refine ro_enter (cc := cX1_isLaden) (maxL := 2) (ret := (some .boolean)) (by decide) rfl (Nat.le_of_ble_eq_true rfl) ?_
  intro p e s m below meth c C0 hP ls hl
  have hl : lv_has ls 2 [(0, .ref q_this), (1, .int x1)] := hl
  unfold f_X1_isLaden at h
  obtain ⟨hx, hb, hr, hml, hown, hts, hE, hlk, hnm⟩ := id C0
  have ik1 : ∀ w ∈ u_ws RX1 TX1 5, w ∈ wsX1_isLaden := by decide +kernel
  refine lv_aload_n hx hb dX1_isLaden_0 rfl (lv_at hl 0 rfl) ?_
  refine va_get (D := D) (ci := 1) (v := .ref q_grounds) (C := RX1) (T := TX1) (N := 5) hx hb hts ik1 hown hE.1.1 hP 0 rfl rfl 3 (by decide) (hts (.fieldLink RX1 19 "FortyHouses$Findings" "grounds" "[I") (by decide +kernel)) (fun _ h9 => h9) rfl dX1_isLaden_1 ?_
  refine lv_iload_n hx hb dX1_isLaden_4 rfl (lv_at hl 1 rfl) ?_
  obtain ⟨hin, h⟩ := h
  refine va_iald hx hb hE.1.1 hP 1 0 rfl rfl hin dX1_isLaden_5 ?_
  refine ro_Si (As := [.int (grounds x1.toNatClampNeg)]) (rest := []) ⟨hx, hb, hml, hown, hts⟩ hE va_S.rf (c_J6_bitCount_0f7a4 l D cI cB cJ cZ aK aV N (grounds x1.toNatClampNeg) h) (va_cwS 1 hts gX1_isLaden_J6_bitCount_0f7a4 rfl rfl rfl (by decide +kernel) ⟨(Nat.le_of_ble_eq_true rfl), (Nat.le_of_ble_eq_true rfl)⟩) rfl hl.1 rfl (Nat.le_of_ble_eq_true rfl) dX1_isLaden_6 ⟨Nat.zero_le _, Nat.zero_le _⟩ (fun r1 h => ?_)
  refine lv_iconst (v := 3) hx hb dX1_isLaden_9 (by decide) ?_
  refine lv_icmp_lt (tgt := 17) hx hb dX1_isLaden_10 (by decide) (fun c1 => ?_) (fun c1 => ?_)
  · have h := ite_t c1 h
    refine lv_iconst (v := 0) hx hb dX1_isLaden_17 (by decide) ?_
    exact ro_zret (post := fun r => post r ∧ narrow .boolean (.int r) = .int r) hx hb hr rfl hlk ⟨h, rfl⟩ dX1_isLaden_18
  · have h := ite_f c1 h
    refine lv_iconst (v := 1) hx hb dX1_isLaden_13 (by decide) ?_
    refine lv_goto (tgt := 18) hx hb dX1_isLaden_14 (by decide) ?_
    exact ro_zret (post := fun r => post r ∧ narrow .boolean (.int r) = .int r) hx hb hr rfl hlk ⟨h, rfl⟩ dX1_isLaden_18
abbrev wf_X1_setOn (cI cB cJ cZ : ClassId) (q_this : Nat) (q_prices : Nat) (q_marks : Nat) (q_came : Nat) (q_grounds : Nat) (size : Int32) (grounds : Nat → Int32) : (Nat → Int32) → va_W := fun u => [(q_this, .inr (1, [.ref q_prices, .ref q_marks, .ref q_came, .ref q_grounds, .int size])), (q_grounds, .inl (cI, 16, .inl u))]
set_option maxHeartbeats 4000000 in
set_option maxRecDepth 100000 in
theorem c_X1_setOn (l : Launch) (D : va_G) (cI cB cJ cZ : ClassId) (aK aV : Nat → Nat) (N : Nat) (q_this : Nat) (q_prices : Nat) (q_marks : Nat) (q_came : Nat) (q_grounds : Nat) (size : Int32) (grounds : Nat → Int32) (x1 : Int32) (x2 : Int32) (sz : Nat) {post : Int32 → (Nat → Int32) → Prop} (h : f_X1_setOn N grounds x1 x2 post) : Met l yX1_setOn wsX1_setOn { frames := 1, cells := 0, slots := 0, locals := 20 } (PW D cI cB cJ cZ aK aV [.ref q_this, .int x1, .int x2] [(q_this, .inr (1, [.ref q_prices, .ref q_marks, .ref q_came, .ref q_grounds, .int size])), (q_grounds, .inl (cI, 16, .inl grounds))] sz) (va_Qi (fun r (u : (Nat → Int32)) => post r u) (BW D (va_A [(q_this, .inr (1, [.ref q_prices, .ref q_marks, .ref q_came, .ref q_grounds, .int size])), (q_grounds, .inl (cI, 16, .inl grounds))] sz) (wf_X1_setOn cI cB cJ cZ q_this q_prices q_marks q_came q_grounds size grounds)) (va_A [(q_this, .inr (1, [.ref q_prices, .ref q_marks, .ref q_came, .ref q_grounds, .int size])), (q_grounds, .inl (cI, 16, .inl grounds))] sz)) 0 0 (va_A [(q_this, .inr (1, [.ref q_prices, .ref q_marks, .ref q_came, .ref q_grounds, .int size])), (q_grounds, .inl (cI, 16, .inl grounds))] sz) := by
  refine mu_enter (Qc := fun A => (va_Qi (fun r (u : (Nat → Int32)) => post r u) (BW D A (wf_X1_setOn cI cB cJ cZ q_this q_prices q_marks q_came q_grounds size grounds)) A)) (cc := cX1_setOn) (maxL := 3) (ret := (some .int)) (by decide) rfl (Nat.le_of_ble_eq_true rfl) ?_
  intro p e s m below meth c A C0 hA H locs hP hD hS ls hl
  have hl : lv_has ls 3 [(0, .ref q_this), (1, .int x1), (2, .int x2)] := hl
  unfold f_X1_setOn at h
  obtain ⟨hx, hb, hr, hml, hown, hts, hE, hlk, hnm⟩ := id C0
  have ik1 : ∀ w ∈ u_ws RX1 TX1 5, w ∈ wsX1_setOn := by decide +kernel
  refine lv_aload_n hx hb dX1_setOn_0 rfl (lv_at hl 0 rfl) ?_
  refine va_get (D := D) (ci := 1) (v := .ref q_grounds) (C := RX1) (T := TX1) (N := 5) hx hb hts ik1 hown hE.1.1 hP 0 rfl rfl 3 (by decide) (hts (.fieldLink RX1 19 "FortyHouses$Findings" "grounds" "[I") (by decide +kernel)) (fun _ h9 => h9) rfl dX1_setOn_1 ?_
  refine lv_iload_n hx hb dX1_setOn_4 rfl (lv_at hl 1 rfl) ?_
  refine lv_dup2_11 hx hb dX1_setOn_5 rfl rfl ?_
  obtain ⟨hin, h⟩ := h
  refine va_iald hx hb hE.1.1 hP 1 0 rfl rfl hin dX1_setOn_6 ?_
  refine lv_iconst (v := 1) hx hb dX1_setOn_7 (by decide) ?_
  refine lv_iload_n hx hb dX1_setOn_8 rfl (lv_at hl 2 rfl) ?_
  refine lv_ishl hx hb dX1_setOn_9 ?_
  refine lv_ior hx hb dX1_setOn_10 ?_
  refine lv_topi (fun v1 ex => ?_)
  have h := nm_of ex h
  obtain ⟨hin, h⟩ := h
  refine va_iast hx hb hE.1.1 hP hD hS 1 0 rfl rfl hin dX1_setOn_11 (fun H locs hP hD hS => ?_)
  have hP : va_P D vwCl [(q_this, .inr (1, [.ref q_prices, .ref q_marks, .ref q_came, .ref q_grounds, .int size])), (q_grounds, .inl (cI, 16, .inl (upd grounds x1.toNatClampNeg v1)))] H := hP
  have hD : va_D A [(q_this, .inr (1, [.ref q_prices, .ref q_marks, .ref q_came, .ref q_grounds, .int size])), (q_grounds, .inl (cI, 16, .inl (upd grounds x1.toNatClampNeg v1)))] := hD
  refine lv_aload_n hx hb dX1_setOn_12 rfl (lv_at hl 0 rfl) ?_
  refine va_get (D := D) (ci := 1) (v := .ref q_grounds) (C := RX1) (T := TX1) (N := 5) hx hb hts ik1 hown hE.1.1 hP 0 rfl rfl 3 (by decide) (hts (.fieldLink RX1 19 "FortyHouses$Findings" "grounds" "[I") (by decide +kernel)) (fun _ h9 => h9) rfl dX1_setOn_13 ?_
  refine lv_iload_n hx hb dX1_setOn_16 rfl (lv_at hl 1 rfl) ?_
  obtain ⟨hin, h⟩ := h
  refine va_iald hx hb hE.1.1 hP 1 0 rfl rfl hin dX1_setOn_17 ?_
  refine ro_Si (As := [.int ((upd grounds x1.toNatClampNeg v1) x1.toNatClampNeg)]) (rest := []) ⟨hx, hb, hml, hown, hts⟩ hE hS (c_J6_bitCount_0f7a4 l D cI cB cJ cZ aK aV N ((upd grounds x1.toNatClampNeg v1) x1.toNatClampNeg) h) (va_cwS 1 hts gX1_setOn_J6_bitCount_0f7a4 rfl rfl rfl (by decide +kernel) ⟨(Nat.le_of_ble_eq_true rfl), (Nat.le_of_ble_eq_true rfl)⟩) rfl hl.1 rfl (Nat.le_of_ble_eq_true rfl) dX1_setOn_18 ⟨Nat.zero_le _, Nat.zero_le _⟩ (fun r2 h => ?_)
  exact mu_iret (wf := wf_X1_setOn cI cB cJ cZ q_this q_prices q_marks q_came q_grounds size grounds) ((upd grounds x1.toNatClampNeg v1)) hx hb hr hlk hP hD hS h dX1_setOn_21
set_option maxHeartbeats 4000000 in
set_option maxRecDepth 100000 in
theorem c_X1_there (l : Launch) (D : va_G) (cI cB cJ cZ : ClassId) (aK aV : Nat → Nat) (N : Nat) (q_this : Nat) (q_prices : Nat) (q_marks : Nat) (q_came : Nat) (q_grounds : Nat) (size : Int32) (x1 : Int32) {post : Int32 → Prop} (h : f_X1_there N size x1 post) : Met l yX1_there wsX1_there { frames := 0, cells := 0, slots := 0, locals := 0 } (PR D cI cB cJ cZ aK aV [.ref q_this, .int x1] [(q_this, .inr (1, [.ref q_prices, .ref q_marks, .ref q_came, .ref q_grounds, .int size]))]) (vp_Si post) 0 0 (fun _ => False) := by
  refine ro_enter (cc := cX1_there) (maxL := 2) (ret := (some .int)) (by decide) rfl (Nat.le_of_ble_eq_true rfl) ?_
  intro p e s m below meth c C0 hP ls hl
  have hl : lv_has ls 2 [(0, .ref q_this), (1, .int x1)] := hl
  unfold f_X1_there at h
  obtain ⟨hx, hb, hr, hml, hown, hts, hE, hlk, hnm⟩ := id C0
  have ik1 : ∀ w ∈ u_ws RX1 TX1 5, w ∈ wsX1_there := by decide +kernel
  refine lv_iload_n hx hb dX1_there_0 rfl (lv_at hl 1 rfl) ?_
  refine lv_iconst (v := 1) hx hb dX1_there_1 (by decide) ?_
  refine lv_aload_n hx hb dX1_there_2 rfl (lv_at hl 0 rfl) ?_
  refine va_get (D := D) (ci := 1) (v := .int size) (C := RX1) (T := TX1) (N := 5) hx hb hts ik1 hown hE.1.1 hP 0 rfl rfl 4 (by decide) (hts (.fieldLink RX1 22 "FortyHouses$Findings" "size" "I") (by decide +kernel)) (fun _ h9 => h9) rfl dX1_there_3 ?_
  refine lv_ishl hx hb dX1_there_6 ?_
  refine lv_iconst (v := 1) hx hb dX1_there_7 (by decide) ?_
  refine lv_isub hx hb dX1_there_8 ?_
  refine lv_iand hx hb dX1_there_9 ?_
  exact ro_iret hx hb hr hlk h dX1_there_10
set_option maxHeartbeats 4000000 in
set_option maxRecDepth 100000 in
theorem w_X1_afterRound_J29 (l : Launch) (D : va_G) (cI cB cJ cZ : ClassId) (aK aV : Nat → Nat) (N : Nat) {p : Program} {e : Env} {s : State} {m : MethodId} {below : List Frame} {meth : Method} {c : Code} (q_this : Nat) (x1 : Int32) (post : Int32 → Prop) (C0 : Cx p s m meth c ([.ref q_this, .int x1] : List Value).toArray cX1_afterRound 4 yX1_afterRound.cls yX1_afterRound.name (some .int) wsX1_afterRound D cI cB cJ cZ aK aV (fun _ => False)) (q_prices : Nat) (q_marks : Nat) (q_came : Nat) (q_grounds : Nat) (size : Int32) (grounds : Nat → Int32) (i2 : Int32) (kb4 : Int32 → Int32 → Prop) (hkb4 : ∀ (i1_ : Int32) (i2_ : Int32), kb4 i1_ i2_ → ∀ ls : Array Slot, lv_has ls 4 [(0, .ref q_this), (1, .int x1), (2, .int i1_), (3, .int i2_)] → W p l e { frames := 0, cells := 0, slots := 0, locals := 0 } s m ([.ref q_this, .int x1] : List Value).toArray below meth c s.heap [] 0 0 (MQ below (vp_Si post) ([.ref q_this, .int x1] : List Value).toArray s 0 0 (fun _ => False)) (F0 m 4 ls [])) (j3 : Int32) (h : f_X1_afterRound_J29 N i2 kb4 j3) (hP : va_P D vwCl [(q_this, .inr (1, [.ref q_prices, .ref q_marks, .ref q_came, .ref q_grounds, .int size])), (q_grounds, .inl (cI, 16, .inl grounds))] s.heap) (ls : Array Slot) (hl : lv_has ls 4 [(0, .ref q_this), (1, .int x1), (2, .int j3), (3, .int i2)]) : W p l e { frames := 0, cells := 0, slots := 0, locals := 0 } s m ([.ref q_this, .int x1] : List Value).toArray below meth c s.heap [] 0 0 (MQ below (vp_Si post) ([.ref q_this, .int x1] : List Value).toArray s 0 0 (fun _ => False)) (F0 m 29 ls []) := by
  obtain ⟨hx, hb, hr, hml, hown, hts, hE, hlk, hnm⟩ := id C0
  have ik1 : ∀ w ∈ u_ws RX1 TX1 5, w ∈ wsX1_afterRound := by decide +kernel
  unfold f_X1_afterRound_J29 at h
  obtain ⟨v4, ex⟩ : ∃ y : Int32, y = (i2 + 1) := ⟨_, rfl⟩
  have h := nm_of ex h
  refine lv_iinc (v := v4) (lv' := [(3, .int v4), (0, .ref q_this), (1, .int x1), (2, .int j3)]) hx hb dX1_afterRound_29 hl (k := 3) rfl (by rw [ex]; rfl) (by decide) rfl (fun ls hl => ?_)
  refine lv_goto (tgt := 4) hx hb dX1_afterRound_32 (by decide) ?_
  exact hkb4 j3 v4 h ls (lv_sub hl [1, 2, 3, 0] rfl)
set_option maxHeartbeats 4000000 in
set_option maxRecDepth 100000 in
theorem w_X1_afterRound_B4 (l : Launch) (D : va_G) (cI cB cJ cZ : ClassId) (aK aV : Nat → Nat) (N : Nat) {p : Program} {e : Env} {s : State} {m : MethodId} {below : List Frame} {meth : Method} {c : Code} (q_this : Nat) (x1 : Int32) (post : Int32 → Prop) (C0 : Cx p s m meth c ([.ref q_this, .int x1] : List Value).toArray cX1_afterRound 4 yX1_afterRound.cls yX1_afterRound.name (some .int) wsX1_afterRound D cI cB cJ cZ aK aV (fun _ => False)) (q_prices : Nat) (q_marks : Nat) (q_came : Nat) (q_grounds : Nat) (size : Int32) (grounds : Nat → Int32) (kb4 : Int32 → Int32 → Prop) (hkb4 : ∀ (i1_ : Int32) (i2_ : Int32), kb4 i1_ i2_ → ∀ ls : Array Slot, lv_has ls 4 [(0, .ref q_this), (1, .int x1), (2, .int i1_), (3, .int i2_)] → W p l e { frames := 0, cells := 0, slots := 0, locals := 0 } s m ([.ref q_this, .int x1] : List Value).toArray below meth c s.heap [] 0 0 (MQ below (vp_Si post) ([.ref q_this, .int x1] : List Value).toArray s 0 0 (fun _ => False)) (F0 m 4 ls [])) (ke4 : Int32 → Int32 → Prop) (hke4 : ∀ (i1_ : Int32) (i2_ : Int32), ke4 i1_ i2_ → ∀ ls : Array Slot, lv_has ls 4 [(2, .int i1_)] → W p l e { frames := 0, cells := 0, slots := 0, locals := 0 } s m ([.ref q_this, .int x1] : List Value).toArray below meth c s.heap [] 0 0 (MQ below (vp_Si post) ([.ref q_this, .int x1] : List Value).toArray s 0 0 (fun _ => False)) (F0 m 35 ls [])) (i1 : Int32) (i2 : Int32) (h : f_X1_afterRound_B4 N size grounds x1 kb4 ke4 i1 i2) (hP : va_P D vwCl [(q_this, .inr (1, [.ref q_prices, .ref q_marks, .ref q_came, .ref q_grounds, .int size])), (q_grounds, .inl (cI, 16, .inl grounds))] s.heap) (ls : Array Slot) (hl : lv_has ls 4 [(0, .ref q_this), (1, .int x1), (2, .int i1), (3, .int i2)]) : W p l e { frames := 0, cells := 0, slots := 0, locals := 0 } s m ([.ref q_this, .int x1] : List Value).toArray below meth c s.heap [] 0 0 (MQ below (vp_Si post) ([.ref q_this, .int x1] : List Value).toArray s 0 0 (fun _ => False)) (F0 m 4 ls []) := by
  obtain ⟨hx, hb, hr, hml, hown, hts, hE, hlk, hnm⟩ := id C0
  have ik1 : ∀ w ∈ u_ws RX1 TX1 5, w ∈ wsX1_afterRound := by decide +kernel
  unfold f_X1_afterRound_B4 at h
  refine lv_iload_n hx hb dX1_afterRound_4 rfl (lv_at hl 3 rfl) ?_
  refine lv_aload_n hx hb dX1_afterRound_5 rfl (lv_at hl 0 rfl) ?_
  refine va_get (D := D) (ci := 1) (v := .int size) (C := RX1) (T := TX1) (N := 5) hx hb hts ik1 hown hE.1.1 hP 0 rfl rfl 4 (by decide) (hts (.fieldLink RX1 22 "FortyHouses$Findings" "size" "I") (by decide +kernel)) (fun _ h9 => h9) rfl dX1_afterRound_6 ?_
  refine lv_icmp_ge (tgt := 35) hx hb dX1_afterRound_9 (by decide) (fun c1 => ?_) (fun c1 => ?_)
  · have h := ite_t c1 h
    exact hke4 i1 i2 h ls (lv_sub hl [2] rfl)
  · have h := ite_f c1 h
    refine lv_aload_n hx hb dX1_afterRound_12 rfl (lv_at hl 0 rfl) ?_
    refine va_get (D := D) (ci := 1) (v := .ref q_grounds) (C := RX1) (T := TX1) (N := 5) hx hb hts ik1 hown hE.1.1 hP 0 rfl rfl 3 (by decide) (hts (.fieldLink RX1 19 "FortyHouses$Findings" "grounds" "[I") (by decide +kernel)) (fun _ h9 => h9) rfl dX1_afterRound_13 ?_
    refine lv_iload_n hx hb dX1_afterRound_16 rfl (lv_at hl 3 rfl) ?_
    obtain ⟨hin, h⟩ := h
    refine va_iald hx hb hE.1.1 hP 1 0 rfl rfl hin dX1_afterRound_17 ?_
    refine lv_iload_n hx hb dX1_afterRound_18 rfl (lv_at hl 1 rfl) ?_
    refine lv_iand hx hb dX1_afterRound_19 ?_
    refine lv_if_eq (tgt := 29) hx hb dX1_afterRound_20 (by decide) (fun c1 => ?_) (fun c1 => ?_)
    · have h := ite_t c1 h
      exact w_X1_afterRound_J29 l D cI cB cJ cZ aK aV N q_this x1 post C0 q_prices q_marks q_came q_grounds size grounds i2 kb4 hkb4 i1 h hP ls hl
    · have h := ite_f c1 h
      refine lv_iload_n hx hb dX1_afterRound_23 rfl (lv_at hl 2 rfl) ?_
      refine lv_iconst (v := 1) hx hb dX1_afterRound_24 (by decide) ?_
      refine lv_iload_n hx hb dX1_afterRound_25 rfl (lv_at hl 3 rfl) ?_
      refine lv_ishl hx hb dX1_afterRound_26 ?_
      refine lv_ior hx hb dX1_afterRound_27 ?_
      refine lv_topi (fun v5 ex => ?_)
      have h := nm_of ex h
      refine lv_istore_n (lv' := [(2, .int v5), (0, .ref q_this), (1, .int x1), (3, .int i2)]) hx hb dX1_afterRound_28 rfl hl (by decide) rfl (fun ls hl => ?_)
      exact w_X1_afterRound_J29 l D cI cB cJ cZ aK aV N q_this x1 post C0 q_prices q_marks q_came q_grounds size grounds i2 kb4 hkb4 v5 h hP ls (lv_sub hl [1, 2, 0, 3] rfl)
set_option maxHeartbeats 4000000 in
set_option maxRecDepth 100000 in
theorem w_X1_afterRound_L4 (l : Launch) (D : va_G) (cI cB cJ cZ : ClassId) (aK aV : Nat → Nat) (N : Nat) {p : Program} {e : Env} {s : State} {m : MethodId} {below : List Frame} {meth : Method} {c : Code} (q_this : Nat) (x1 : Int32) (post : Int32 → Prop) (C0 : Cx p s m meth c ([.ref q_this, .int x1] : List Value).toArray cX1_afterRound 4 yX1_afterRound.cls yX1_afterRound.name (some .int) wsX1_afterRound D cI cB cJ cZ aK aV (fun _ => False)) (q_prices : Nat) (q_marks : Nat) (q_came : Nat) (q_grounds : Nat) (size : Int32) (grounds : Nat → Int32) (ke4 : Int32 → Int32 → Prop) (hke4 : ∀ (i1_ : Int32) (i2_ : Int32), ke4 i1_ i2_ → ∀ ls : Array Slot, lv_has ls 4 [(2, .int i1_)] → W p l e { frames := 0, cells := 0, slots := 0, locals := 0 } s m ([.ref q_this, .int x1] : List Value).toArray below meth c s.heap [] 0 0 (MQ below (vp_Si post) ([.ref q_this, .int x1] : List Value).toArray s 0 0 (fun _ => False)) (F0 m 35 ls [])) (hP : va_P D vwCl [(q_this, .inr (1, [.ref q_prices, .ref q_marks, .ref q_came, .ref q_grounds, .int size])), (q_grounds, .inl (cI, 16, .inl grounds))] s.heap) : ∀ (n_ : Nat) (i1 : Int32) (i2 : Int32), f_X1_afterRound_L4 N size grounds x1 ke4 n_ i1 i2 → ∀ ls : Array Slot, lv_has ls 4 [(0, .ref q_this), (1, .int x1), (2, .int i1), (3, .int i2)] → W p l e { frames := 0, cells := 0, slots := 0, locals := 0 } s m ([.ref q_this, .int x1] : List Value).toArray below meth c s.heap [] 0 0 (MQ below (vp_Si post) ([.ref q_this, .int x1] : List Value).toArray s 0 0 (fun _ => False)) (F0 m 4 ls []) := by
  intro n_
  induction n_ with
  | zero => intro i1 i2 h; exact h.elim
  | succ n_ ih =>
    intro i1 i2 h ls hl
    exact w_X1_afterRound_B4 l D cI cB cJ cZ aK aV N q_this x1 post C0 q_prices q_marks q_came q_grounds size grounds (f_X1_afterRound_L4 N size grounds x1 ke4 n_) ih ke4 hke4 i1 i2 h hP ls hl
set_option maxHeartbeats 4000000 in
set_option maxRecDepth 100000 in
theorem c_X1_afterRound (l : Launch) (D : va_G) (cI cB cJ cZ : ClassId) (aK aV : Nat → Nat) (N : Nat) (q_this : Nat) (q_prices : Nat) (q_marks : Nat) (q_came : Nat) (q_grounds : Nat) (size : Int32) (grounds : Nat → Int32) (x1 : Int32) {post : Int32 → Prop} (h : f_X1_afterRound N size grounds x1 post) : Met l yX1_afterRound wsX1_afterRound { frames := 0, cells := 0, slots := 0, locals := 0 } (PR D cI cB cJ cZ aK aV [.ref q_this, .int x1] [(q_this, .inr (1, [.ref q_prices, .ref q_marks, .ref q_came, .ref q_grounds, .int size])), (q_grounds, .inl (cI, 16, .inl grounds))]) (vp_Si post) 0 0 (fun _ => False) := by
  refine ro_enter (cc := cX1_afterRound) (maxL := 4) (ret := (some .int)) (by decide) rfl (Nat.le_of_ble_eq_true rfl) ?_
  intro p e s m below meth c C0 hP ls hl
  have hl : lv_has ls 4 [(0, .ref q_this), (1, .int x1)] := hl
  unfold f_X1_afterRound at h
  obtain ⟨hx, hb, hr, hml, hown, hts, hE, hlk, hnm⟩ := id C0
  have ik1 : ∀ w ∈ u_ws RX1 TX1 5, w ∈ wsX1_afterRound := by decide +kernel
  refine lv_iload_n hx hb dX1_afterRound_0 rfl (lv_at hl 1 rfl) ?_
  refine lv_istore_n (lv' := [(2, .int x1), (0, .ref q_this), (1, .int x1)]) hx hb dX1_afterRound_1 rfl hl (by decide) rfl (fun ls hl => ?_)
  refine lv_iconst (v := 0) hx hb dX1_afterRound_2 (by decide) ?_
  refine lv_istore_n (lv' := [(3, .int 0), (2, .int x1), (0, .ref q_this), (1, .int x1)]) hx hb dX1_afterRound_3 rfl hl (by decide) rfl (fun ls hl => ?_)
  refine w_X1_afterRound_L4 l D cI cB cJ cZ aK aV N q_this x1 post C0 q_prices q_marks q_came q_grounds size grounds _ (fun o6 o7 h ls hl => ?_) hP N x1 0 h ls (lv_sub hl [2, 3, 1, 0] rfl)
  refine lv_iload_n hx hb dX1_afterRound_35 rfl (lv_at hl 0 rfl) ?_
  exact ro_iret hx hb hr hlk h dX1_afterRound_36
set_option maxHeartbeats 4000000 in
set_option maxRecDepth 100000 in
theorem w_X1_down_B8 (l : Launch) (D : va_G) (cI cB cJ cZ : ClassId) (aK aV : Nat → Nat) (N : Nat) {p : Program} {e : Env} {s : State} {m : MethodId} {below : List Frame} {meth : Method} {c : Code} (q_this : Nat) (x1 : Int32) (post : Int32 → Prop) (C0 : Cx p s m meth c ([.ref q_this, .int x1] : List Value).toArray cX1_down 4 yX1_down.cls yX1_down.name (some .int) wsX1_down D cI cB cJ cZ aK aV (fun _ => False)) (q_prices : Nat) (q_marks : Nat) (q_came : Nat) (q_grounds : Nat) (size : Int32) (grounds : Nat → Int32) (kb8 : Int32 → Int32 → Prop) (hkb8 : ∀ (i2_ : Int32) (i3_ : Int32), kb8 i2_ i3_ → ∀ ls : Array Slot, lv_has ls 4 [(0, .ref q_this), (2, .int i2_), (3, .int i3_)] → W p l e { frames := 1, cells := 0, slots := 0, locals := 23 } s m ([.ref q_this, .int x1] : List Value).toArray below meth c s.heap [] 0 0 (MQ below (vp_Si post) ([.ref q_this, .int x1] : List Value).toArray s 0 0 (fun _ => False)) (F0 m 8 ls [])) (ke8 : Int32 → Int32 → Prop) (hke8 : ∀ (i2_ : Int32) (i3_ : Int32), ke8 i2_ i3_ → ∀ ls : Array Slot, lv_has ls 4 [(2, .int i2_)] → W p l e { frames := 1, cells := 0, slots := 0, locals := 23 } s m ([.ref q_this, .int x1] : List Value).toArray below meth c s.heap [] 0 0 (MQ below (vp_Si post) ([.ref q_this, .int x1] : List Value).toArray s 0 0 (fun _ => False)) (F0 m 28 ls [])) (i2 : Int32) (i3 : Int32) (h : f_X1_down_B8 N size grounds kb8 ke8 i2 i3) (hP : va_P D vwCl [(q_this, .inr (1, [.ref q_prices, .ref q_marks, .ref q_came, .ref q_grounds, .int size])), (q_grounds, .inl (cI, 16, .inl grounds))] s.heap) (ls : Array Slot) (hl : lv_has ls 4 [(0, .ref q_this), (2, .int i2), (3, .int i3)]) : W p l e { frames := 1, cells := 0, slots := 0, locals := 23 } s m ([.ref q_this, .int x1] : List Value).toArray below meth c s.heap [] 0 0 (MQ below (vp_Si post) ([.ref q_this, .int x1] : List Value).toArray s 0 0 (fun _ => False)) (F0 m 8 ls []) := by
  obtain ⟨hx, hb, hr, hml, hown, hts, hE, hlk, hnm⟩ := id C0
  have ik1 : ∀ w ∈ u_ws RX1 TX1 5, w ∈ wsX1_down := by decide +kernel
  unfold f_X1_down_B8 at h
  refine lv_iload_n hx hb dX1_down_8 rfl (lv_at hl 2 rfl) ?_
  refine lv_aload_n hx hb dX1_down_9 rfl (lv_at hl 0 rfl) ?_
  refine va_get (D := D) (ci := 1) (v := .int size) (C := RX1) (T := TX1) (N := 5) hx hb hts ik1 hown hE.1.1 hP 0 rfl rfl 4 (by decide) (hts (.fieldLink RX1 22 "FortyHouses$Findings" "size" "I") (by decide +kernel)) (fun _ h9 => h9) rfl dX1_down_10 ?_
  refine lv_icmp_ge (tgt := 28) hx hb dX1_down_13 (by decide) (fun c1 => ?_) (fun c1 => ?_)
  · have h := ite_t c1 h
    exact hke8 i2 i3 h ls (lv_sub hl [1] rfl)
  · have h := ite_f c1 h
    refine lv_aload_n hx hb dX1_down_16 rfl (lv_at hl 0 rfl) ?_
    refine lv_iload_n hx hb dX1_down_17 rfl (lv_at hl 1 rfl) ?_
    refine ro_Vi (C := RX1) (As := [.int i2]) (rest := []) ⟨hx, hb, hml, hown, hts⟩ hE va_S.rf hP [0, 1] (c_X1_afterRound l D cI cB cJ cZ aK aV N q_this q_prices q_marks q_came q_grounds size grounds i2 h) (cwV 1 hts gX1_down_X1_afterRound rfl rfl rfl (by decide +kernel) ⟨(Nat.le_of_ble_eq_true rfl), (Nat.le_of_ble_eq_true rfl)⟩) rfl 0 rfl rfl rfl hl.1 rfl (Nat.le_of_ble_eq_true rfl) dX1_down_18 ⟨Nat.zero_le _, Nat.zero_le _⟩ (fun r4 h => ?_)
    refine lv_istore_n (lv' := [(2, .int r4), (0, .ref q_this), (3, .int i3)]) hx hb dX1_down_21 rfl hl (by decide) rfl (fun ls hl => ?_)
    obtain ⟨v5, ex⟩ : ∃ y : Int32, y = (i3 + 1) := ⟨_, rfl⟩
    have h := nm_of ex h
    refine lv_iinc (v := v5) (lv' := [(3, .int v5), (2, .int r4), (0, .ref q_this)]) hx hb dX1_down_22 hl (k := 2) rfl (by rw [ex]; rfl) (by decide) rfl (fun ls hl => ?_)
    refine lv_goto (tgt := 8) hx hb dX1_down_25 (by decide) ?_
    exact hkb8 r4 v5 h ls (lv_sub hl [2, 1, 0] rfl)
set_option maxHeartbeats 4000000 in
set_option maxRecDepth 100000 in
theorem w_X1_down_L8 (l : Launch) (D : va_G) (cI cB cJ cZ : ClassId) (aK aV : Nat → Nat) (N : Nat) {p : Program} {e : Env} {s : State} {m : MethodId} {below : List Frame} {meth : Method} {c : Code} (q_this : Nat) (x1 : Int32) (post : Int32 → Prop) (C0 : Cx p s m meth c ([.ref q_this, .int x1] : List Value).toArray cX1_down 4 yX1_down.cls yX1_down.name (some .int) wsX1_down D cI cB cJ cZ aK aV (fun _ => False)) (q_prices : Nat) (q_marks : Nat) (q_came : Nat) (q_grounds : Nat) (size : Int32) (grounds : Nat → Int32) (ke8 : Int32 → Int32 → Prop) (hke8 : ∀ (i2_ : Int32) (i3_ : Int32), ke8 i2_ i3_ → ∀ ls : Array Slot, lv_has ls 4 [(2, .int i2_)] → W p l e { frames := 1, cells := 0, slots := 0, locals := 23 } s m ([.ref q_this, .int x1] : List Value).toArray below meth c s.heap [] 0 0 (MQ below (vp_Si post) ([.ref q_this, .int x1] : List Value).toArray s 0 0 (fun _ => False)) (F0 m 28 ls [])) (hP : va_P D vwCl [(q_this, .inr (1, [.ref q_prices, .ref q_marks, .ref q_came, .ref q_grounds, .int size])), (q_grounds, .inl (cI, 16, .inl grounds))] s.heap) : ∀ (n_ : Nat) (i2 : Int32) (i3 : Int32), f_X1_down_L8 N size grounds ke8 n_ i2 i3 → ∀ ls : Array Slot, lv_has ls 4 [(0, .ref q_this), (2, .int i2), (3, .int i3)] → W p l e { frames := 1, cells := 0, slots := 0, locals := 23 } s m ([.ref q_this, .int x1] : List Value).toArray below meth c s.heap [] 0 0 (MQ below (vp_Si post) ([.ref q_this, .int x1] : List Value).toArray s 0 0 (fun _ => False)) (F0 m 8 ls []) := by
  intro n_
  induction n_ with
  | zero => intro i2 i3 h; exact h.elim
  | succ n_ ih =>
    intro i2 i3 h ls hl
    exact w_X1_down_B8 l D cI cB cJ cZ aK aV N q_this x1 post C0 q_prices q_marks q_came q_grounds size grounds (f_X1_down_L8 N size grounds ke8 n_) ih ke8 hke8 i2 i3 h hP ls hl
set_option maxHeartbeats 4000000 in
set_option maxRecDepth 100000 in
theorem c_X1_down (l : Launch) (D : va_G) (cI cB cJ cZ : ClassId) (aK aV : Nat → Nat) (N : Nat) (q_this : Nat) (q_prices : Nat) (q_marks : Nat) (q_came : Nat) (q_grounds : Nat) (size : Int32) (grounds : Nat → Int32) (x1 : Int32) {post : Int32 → Prop} (h : f_X1_down N size grounds x1 post) : Met l yX1_down wsX1_down { frames := 1, cells := 0, slots := 0, locals := 23 } (PR D cI cB cJ cZ aK aV [.ref q_this, .int x1] [(q_this, .inr (1, [.ref q_prices, .ref q_marks, .ref q_came, .ref q_grounds, .int size])), (q_grounds, .inl (cI, 16, .inl grounds))]) (vp_Si post) 0 0 (fun _ => False) := by
  refine ro_enter (cc := cX1_down) (maxL := 4) (ret := (some .int)) (by decide) rfl (Nat.le_of_ble_eq_true rfl) ?_
  intro p e s m below meth c C0 hP ls hl
  have hl : lv_has ls 4 [(0, .ref q_this), (1, .int x1)] := hl
  unfold f_X1_down at h
  obtain ⟨hx, hb, hr, hml, hown, hts, hE, hlk, hnm⟩ := id C0
  have ik1 : ∀ w ∈ u_ws RX1 TX1 5, w ∈ wsX1_down := by decide +kernel
  refine lv_aload_n hx hb dX1_down_0 rfl (lv_at hl 0 rfl) ?_
  refine lv_iload_n hx hb dX1_down_1 rfl (lv_at hl 1 rfl) ?_
  refine ro_Vi (C := RX1) (As := [.int x1]) (rest := []) ⟨hx, hb, hml, hown, hts⟩ hE va_S.rf hP [0] (c_X1_there l D cI cB cJ cZ aK aV N q_this q_prices q_marks q_came q_grounds size x1 h) (cwV 1 hts gX1_down_X1_there rfl rfl rfl (by decide +kernel) ⟨(Nat.le_of_ble_eq_true rfl), (Nat.le_of_ble_eq_true rfl)⟩) rfl 0 rfl rfl rfl hl.1 rfl (Nat.le_of_ble_eq_true rfl) dX1_down_2 ⟨Nat.zero_le _, Nat.zero_le _⟩ (fun r1 h => ?_)
  refine lv_istore_n (lv' := [(2, .int r1), (0, .ref q_this), (1, .int x1)]) hx hb dX1_down_5 rfl hl (by decide) rfl (fun ls hl => ?_)
  refine lv_iconst (v := 0) hx hb dX1_down_6 (by decide) ?_
  refine lv_istore_n (lv' := [(3, .int 0), (2, .int r1), (0, .ref q_this), (1, .int x1)]) hx hb dX1_down_7 rfl hl (by decide) rfl (fun ls hl => ?_)
  refine w_X1_down_L8 l D cI cB cJ cZ aK aV N q_this x1 post C0 q_prices q_marks q_came q_grounds size grounds _ (fun o6 o7 h ls hl => ?_) hP N r1 0 h ls (lv_sub hl [2, 1, 0] rfl)
  refine lv_iload_n hx hb dX1_down_28 rfl (lv_at hl 0 rfl) ?_
  exact ro_iret hx hb hr hlk h dX1_down_29
set_option maxHeartbeats 4000000 in
set_option maxRecDepth 100000 in
theorem w_X1_rounds_B8 (l : Launch) (D : va_G) (cI cB cJ cZ : ClassId) (aK aV : Nat → Nat) (N : Nat) {p : Program} {e : Env} {s : State} {m : MethodId} {below : List Frame} {meth : Method} {c : Code} (q_this : Nat) (x1 : Int32) (post : Int32 → Prop) (C0 : Cx p s m meth c ([.ref q_this, .int x1] : List Value).toArray cX1_rounds 5 yX1_rounds.cls yX1_rounds.name (some .int) wsX1_rounds D cI cB cJ cZ aK aV (fun _ => False)) (q_prices : Nat) (q_marks : Nat) (q_came : Nat) (q_grounds : Nat) (size : Int32) (grounds : Nat → Int32) (kb8 : Int32 → Int32 → Prop) (hkb8 : ∀ (i2_ : Int32) (i3_ : Int32), kb8 i2_ i3_ → ∀ ls : Array Slot, lv_has ls 5 [(0, .ref q_this), (2, .int i2_), (3, .int i3_)] → W p l e { frames := 1, cells := 0, slots := 0, locals := 23 } s m ([.ref q_this, .int x1] : List Value).toArray below meth c s.heap [] 0 0 (MQ below (vp_Si post) ([.ref q_this, .int x1] : List Value).toArray s 0 0 (fun _ => False)) (F0 m 8 ls [])) (i2 : Int32) (i3 : Int32) (h : f_X1_rounds_B8 N size grounds post kb8 i2 i3) (hP : va_P D vwCl [(q_this, .inr (1, [.ref q_prices, .ref q_marks, .ref q_came, .ref q_grounds, .int size])), (q_grounds, .inl (cI, 16, .inl grounds))] s.heap) (ls : Array Slot) (hl : lv_has ls 5 [(0, .ref q_this), (2, .int i2), (3, .int i3)]) : W p l e { frames := 1, cells := 0, slots := 0, locals := 23 } s m ([.ref q_this, .int x1] : List Value).toArray below meth c s.heap [] 0 0 (MQ below (vp_Si post) ([.ref q_this, .int x1] : List Value).toArray s 0 0 (fun _ => False)) (F0 m 8 ls []) := by
  obtain ⟨hx, hb, hr, hml, hown, hts, hE, hlk, hnm⟩ := id C0
  have ik1 : ∀ w ∈ u_ws RX1 TX1 5, w ∈ wsX1_rounds := by decide +kernel
  unfold f_X1_rounds_B8 at h
  refine lv_iload_n hx hb dX1_rounds_8 rfl (lv_at hl 2 rfl) ?_
  refine lv_aload_n hx hb dX1_rounds_9 rfl (lv_at hl 0 rfl) ?_
  refine va_get (D := D) (ci := 1) (v := .int size) (C := RX1) (T := TX1) (N := 5) hx hb hts ik1 hown hE.1.1 hP 0 rfl rfl 4 (by decide) (hts (.fieldLink RX1 22 "FortyHouses$Findings" "size" "I") (by decide +kernel)) (fun _ h9 => h9) rfl dX1_rounds_10 ?_
  refine lv_icmp_ge (tgt := 40) hx hb dX1_rounds_13 (by decide) (fun c1 => ?_) (fun c1 => ?_)
  · have h := ite_t c1 h
    refine lv_aload_n hx hb dX1_rounds_40 rfl (lv_at hl 0 rfl) ?_
    refine va_get (D := D) (ci := 1) (v := .int size) (C := RX1) (T := TX1) (N := 5) hx hb hts ik1 hown hE.1.1 hP 0 rfl rfl 4 (by decide) (hts (.fieldLink RX1 22 "FortyHouses$Findings" "size" "I") (by decide +kernel)) (fun _ h9 => h9) rfl dX1_rounds_41 ?_
    exact ro_iret hx hb hr hlk h dX1_rounds_44
  · have h := ite_f c1 h
    refine lv_aload_n hx hb dX1_rounds_16 rfl (lv_at hl 0 rfl) ?_
    refine lv_iload_n hx hb dX1_rounds_17 rfl (lv_at hl 1 rfl) ?_
    refine ro_Vi (C := RX1) (As := [.int i2]) (rest := []) ⟨hx, hb, hml, hown, hts⟩ hE va_S.rf hP [0, 1] (c_X1_afterRound l D cI cB cJ cZ aK aV N q_this q_prices q_marks q_came q_grounds size grounds i2 h) (cwV 1 hts gX1_rounds_X1_afterRound rfl rfl rfl (by decide +kernel) ⟨(Nat.le_of_ble_eq_true rfl), (Nat.le_of_ble_eq_true rfl)⟩) rfl 0 rfl rfl rfl hl.1 rfl (Nat.le_of_ble_eq_true rfl) dX1_rounds_18 ⟨Nat.zero_le _, Nat.zero_le _⟩ (fun r4 h => ?_)
    refine lv_istore (lv' := [(4, .int r4), (0, .ref q_this), (2, .int i2), (3, .int i3)]) hx hb dX1_rounds_21 hl (by decide) rfl (fun ls hl => ?_)
    refine lv_iload hx hb dX1_rounds_23 (lv_at hl 0 rfl) ?_
    refine lv_iload_n hx hb dX1_rounds_25 rfl (lv_at hl 2 rfl) ?_
    refine lv_icmp_ne (tgt := 31) hx hb dX1_rounds_26 (by decide) (fun c1 => ?_) (fun c1 => ?_)
    · have h := ite_t c1 h
      refine lv_iload hx hb dX1_rounds_31 (lv_at hl 0 rfl) ?_
      refine lv_istore_n (lv' := [(2, .int r4), (4, .int r4), (0, .ref q_this), (3, .int i3)]) hx hb dX1_rounds_33 rfl hl (by decide) rfl (fun ls hl => ?_)
      obtain ⟨v5, ex⟩ : ∃ y : Int32, y = (i3 + 1) := ⟨_, rfl⟩
      have h := nm_of ex h
      refine lv_iinc (v := v5) (lv' := [(3, .int v5), (2, .int r4), (4, .int r4), (0, .ref q_this)]) hx hb dX1_rounds_34 hl (k := 3) rfl (by rw [ex]; rfl) (by decide) rfl (fun ls hl => ?_)
      refine lv_goto (tgt := 8) hx hb dX1_rounds_37 (by decide) ?_
      exact hkb8 r4 v5 h ls (lv_sub hl [3, 1, 0] rfl)
    · have h := ite_n c1 h
      refine lv_iload_n hx hb dX1_rounds_29 rfl (lv_at hl 3 rfl) ?_
      exact ro_iret hx hb hr hlk h dX1_rounds_30
set_option maxHeartbeats 4000000 in
set_option maxRecDepth 100000 in
theorem w_X1_rounds_L8 (l : Launch) (D : va_G) (cI cB cJ cZ : ClassId) (aK aV : Nat → Nat) (N : Nat) {p : Program} {e : Env} {s : State} {m : MethodId} {below : List Frame} {meth : Method} {c : Code} (q_this : Nat) (x1 : Int32) (post : Int32 → Prop) (C0 : Cx p s m meth c ([.ref q_this, .int x1] : List Value).toArray cX1_rounds 5 yX1_rounds.cls yX1_rounds.name (some .int) wsX1_rounds D cI cB cJ cZ aK aV (fun _ => False)) (q_prices : Nat) (q_marks : Nat) (q_came : Nat) (q_grounds : Nat) (size : Int32) (grounds : Nat → Int32)  (hP : va_P D vwCl [(q_this, .inr (1, [.ref q_prices, .ref q_marks, .ref q_came, .ref q_grounds, .int size])), (q_grounds, .inl (cI, 16, .inl grounds))] s.heap) : ∀ (n_ : Nat) (i2 : Int32) (i3 : Int32), f_X1_rounds_L8 N size grounds post n_ i2 i3 → ∀ ls : Array Slot, lv_has ls 5 [(0, .ref q_this), (2, .int i2), (3, .int i3)] → W p l e { frames := 1, cells := 0, slots := 0, locals := 23 } s m ([.ref q_this, .int x1] : List Value).toArray below meth c s.heap [] 0 0 (MQ below (vp_Si post) ([.ref q_this, .int x1] : List Value).toArray s 0 0 (fun _ => False)) (F0 m 8 ls []) := by
  intro n_
  induction n_ with
  | zero => intro i2 i3 h; exact h.elim
  | succ n_ ih =>
    intro i2 i3 h ls hl
    exact w_X1_rounds_B8 l D cI cB cJ cZ aK aV N q_this x1 post C0 q_prices q_marks q_came q_grounds size grounds (f_X1_rounds_L8 N size grounds post n_) ih i2 i3 h hP ls hl
set_option maxHeartbeats 4000000 in
set_option maxRecDepth 100000 in
theorem c_X1_rounds (l : Launch) (D : va_G) (cI cB cJ cZ : ClassId) (aK aV : Nat → Nat) (N : Nat) (q_this : Nat) (q_prices : Nat) (q_marks : Nat) (q_came : Nat) (q_grounds : Nat) (size : Int32) (grounds : Nat → Int32) (x1 : Int32) {post : Int32 → Prop} (h : f_X1_rounds N size grounds x1 post) : Met l yX1_rounds wsX1_rounds { frames := 1, cells := 0, slots := 0, locals := 23 } (PR D cI cB cJ cZ aK aV [.ref q_this, .int x1] [(q_this, .inr (1, [.ref q_prices, .ref q_marks, .ref q_came, .ref q_grounds, .int size])), (q_grounds, .inl (cI, 16, .inl grounds))]) (vp_Si post) 0 0 (fun _ => False) := by
  refine ro_enter (cc := cX1_rounds) (maxL := 5) (ret := (some .int)) (by decide) rfl (Nat.le_of_ble_eq_true rfl) ?_
  intro p e s m below meth c C0 hP ls hl
  have hl : lv_has ls 5 [(0, .ref q_this), (1, .int x1)] := hl
  unfold f_X1_rounds at h
  obtain ⟨hx, hb, hr, hml, hown, hts, hE, hlk, hnm⟩ := id C0
  have ik1 : ∀ w ∈ u_ws RX1 TX1 5, w ∈ wsX1_rounds := by decide +kernel
  refine lv_aload_n hx hb dX1_rounds_0 rfl (lv_at hl 0 rfl) ?_
  refine lv_iload_n hx hb dX1_rounds_1 rfl (lv_at hl 1 rfl) ?_
  refine ro_Vi (C := RX1) (As := [.int x1]) (rest := []) ⟨hx, hb, hml, hown, hts⟩ hE va_S.rf hP [0] (c_X1_there l D cI cB cJ cZ aK aV N q_this q_prices q_marks q_came q_grounds size x1 h) (cwV 1 hts gX1_rounds_X1_there rfl rfl rfl (by decide +kernel) ⟨(Nat.le_of_ble_eq_true rfl), (Nat.le_of_ble_eq_true rfl)⟩) rfl 0 rfl rfl rfl hl.1 rfl (Nat.le_of_ble_eq_true rfl) dX1_rounds_2 ⟨Nat.zero_le _, Nat.zero_le _⟩ (fun r1 h => ?_)
  refine lv_istore_n (lv' := [(2, .int r1), (0, .ref q_this), (1, .int x1)]) hx hb dX1_rounds_5 rfl hl (by decide) rfl (fun ls hl => ?_)
  refine lv_iconst (v := 0) hx hb dX1_rounds_6 (by decide) ?_
  refine lv_istore_n (lv' := [(3, .int 0), (2, .int r1), (0, .ref q_this), (1, .int x1)]) hx hb dX1_rounds_7 rfl hl (by decide) rfl (fun ls hl => ?_)
  exact w_X1_rounds_L8 l D cI cB cJ cZ aK aV N q_this x1 post C0 q_prices q_marks q_came q_grounds size grounds  hP N r1 0 h ls (lv_sub hl [2, 1, 0] rfl)
set_option maxHeartbeats 4000000 in
set_option maxRecDepth 100000 in
theorem w_X1_mostBearing_J37 (l : Launch) (D : va_G) (cI cB cJ cZ : ClassId) (aK aV : Nat → Nat) (N : Nat) {p : Program} {e : Env} {s : State} {m : MethodId} {below : List Frame} {meth : Method} {c : Code} (q_this : Nat) (post : Int32 → Prop) (C0 : Cx p s m meth c ([.ref q_this] : List Value).toArray cX1_mostBearing 5 yX1_mostBearing.cls yX1_mostBearing.name (some .int) wsX1_mostBearing D cI cB cJ cZ aK aV (fun _ => False)) (q_prices : Nat) (q_marks : Nat) (q_came : Nat) (q_grounds : Nat) (size : Int32) (grounds : Nat → Int32) (i3 : Int32) (kb6 : Int32 → Int32 → Int32 → Prop) (hkb6 : ∀ (i1_ : Int32) (i2_ : Int32) (i3_ : Int32), kb6 i1_ i2_ i3_ → ∀ ls : Array Slot, lv_has ls 5 [(0, .ref q_this), (1, .int i1_), (2, .int i2_), (3, .int i3_)] → W p l e { frames := 2, cells := 0, slots := 0, locals := 46 } s m ([.ref q_this] : List Value).toArray below meth c s.heap [] 0 0 (MQ below (vp_Si post) ([.ref q_this] : List Value).toArray s 0 0 (fun _ => False)) (F0 m 6 ls [])) (j6 : Int32) (j7 : Int32) (h : f_X1_mostBearing_J37 N i3 kb6 j6 j7) (hP : va_P D vwCl [(q_this, .inr (1, [.ref q_prices, .ref q_marks, .ref q_came, .ref q_grounds, .int size])), (q_grounds, .inl (cI, 16, .inl grounds))] s.heap) (ls : Array Slot) (hl : lv_has ls 5 [(0, .ref q_this), (1, .int j6), (2, .int j7), (3, .int i3)]) : W p l e { frames := 2, cells := 0, slots := 0, locals := 46 } s m ([.ref q_this] : List Value).toArray below meth c s.heap [] 0 0 (MQ below (vp_Si post) ([.ref q_this] : List Value).toArray s 0 0 (fun _ => False)) (F0 m 37 ls []) := by
  obtain ⟨hx, hb, hr, hml, hown, hts, hE, hlk, hnm⟩ := id C0
  have ik1 : ∀ w ∈ u_ws RX1 TX1 5, w ∈ wsX1_mostBearing := by decide +kernel
  unfold f_X1_mostBearing_J37 at h
  obtain ⟨v8, ex⟩ : ∃ y : Int32, y = (i3 + 1) := ⟨_, rfl⟩
  have h := nm_of ex h
  refine lv_iinc (v := v8) (lv' := [(3, .int v8), (0, .ref q_this), (1, .int j6), (2, .int j7)]) hx hb dX1_mostBearing_37 hl (k := 3) rfl (by rw [ex]; rfl) (by decide) rfl (fun ls hl => ?_)
  refine lv_goto (tgt := 6) hx hb dX1_mostBearing_40 (by decide) ?_
  exact hkb6 j6 j7 v8 h ls (lv_sub hl [1, 2, 3, 0] rfl)
set_option maxHeartbeats 4000000 in
set_option maxRecDepth 100000 in
theorem w_X1_mostBearing_B6 (l : Launch) (D : va_G) (cI cB cJ cZ : ClassId) (aK aV : Nat → Nat) (N : Nat) {p : Program} {e : Env} {s : State} {m : MethodId} {below : List Frame} {meth : Method} {c : Code} (q_this : Nat) (post : Int32 → Prop) (C0 : Cx p s m meth c ([.ref q_this] : List Value).toArray cX1_mostBearing 5 yX1_mostBearing.cls yX1_mostBearing.name (some .int) wsX1_mostBearing D cI cB cJ cZ aK aV (fun _ => False)) (q_prices : Nat) (q_marks : Nat) (q_came : Nat) (q_grounds : Nat) (size : Int32) (grounds : Nat → Int32) (kb6 : Int32 → Int32 → Int32 → Prop) (hkb6 : ∀ (i1_ : Int32) (i2_ : Int32) (i3_ : Int32), kb6 i1_ i2_ i3_ → ∀ ls : Array Slot, lv_has ls 5 [(0, .ref q_this), (1, .int i1_), (2, .int i2_), (3, .int i3_)] → W p l e { frames := 2, cells := 0, slots := 0, locals := 46 } s m ([.ref q_this] : List Value).toArray below meth c s.heap [] 0 0 (MQ below (vp_Si post) ([.ref q_this] : List Value).toArray s 0 0 (fun _ => False)) (F0 m 6 ls [])) (ke6 : Int32 → Int32 → Int32 → Prop) (hke6 : ∀ (i1_ : Int32) (i2_ : Int32) (i3_ : Int32), ke6 i1_ i2_ i3_ → ∀ ls : Array Slot, lv_has ls 5 [(1, .int i1_)] → W p l e { frames := 2, cells := 0, slots := 0, locals := 46 } s m ([.ref q_this] : List Value).toArray below meth c s.heap [] 0 0 (MQ below (vp_Si post) ([.ref q_this] : List Value).toArray s 0 0 (fun _ => False)) (F0 m 43 ls [])) (i1 : Int32) (i2 : Int32) (i3 : Int32) (h : f_X1_mostBearing_B6 N size grounds kb6 ke6 i1 i2 i3) (hP : va_P D vwCl [(q_this, .inr (1, [.ref q_prices, .ref q_marks, .ref q_came, .ref q_grounds, .int size])), (q_grounds, .inl (cI, 16, .inl grounds))] s.heap) (ls : Array Slot) (hl : lv_has ls 5 [(0, .ref q_this), (1, .int i1), (2, .int i2), (3, .int i3)]) : W p l e { frames := 2, cells := 0, slots := 0, locals := 46 } s m ([.ref q_this] : List Value).toArray below meth c s.heap [] 0 0 (MQ below (vp_Si post) ([.ref q_this] : List Value).toArray s 0 0 (fun _ => False)) (F0 m 6 ls []) := by
  obtain ⟨hx, hb, hr, hml, hown, hts, hE, hlk, hnm⟩ := id C0
  have ik1 : ∀ w ∈ u_ws RX1 TX1 5, w ∈ wsX1_mostBearing := by decide +kernel
  unfold f_X1_mostBearing_B6 at h
  refine lv_iload_n hx hb dX1_mostBearing_6 rfl (lv_at hl 3 rfl) ?_
  refine lv_aload_n hx hb dX1_mostBearing_7 rfl (lv_at hl 0 rfl) ?_
  refine va_get (D := D) (ci := 1) (v := .int size) (C := RX1) (T := TX1) (N := 5) hx hb hts ik1 hown hE.1.1 hP 0 rfl rfl 4 (by decide) (hts (.fieldLink RX1 22 "FortyHouses$Findings" "size" "I") (by decide +kernel)) (fun _ h9 => h9) rfl dX1_mostBearing_8 ?_
  refine lv_icmp_ge (tgt := 43) hx hb dX1_mostBearing_11 (by decide) (fun c1 => ?_) (fun c1 => ?_)
  · have h := ite_t c1 h
    exact hke6 i1 i2 i3 h ls (lv_sub hl [1] rfl)
  · have h := ite_f c1 h
    refine lv_aload_n hx hb dX1_mostBearing_14 rfl (lv_at hl 0 rfl) ?_
    refine lv_iconst (v := 1) hx hb dX1_mostBearing_15 (by decide) ?_
    refine lv_iload_n hx hb dX1_mostBearing_16 rfl (lv_at hl 3 rfl) ?_
    refine lv_ishl hx hb dX1_mostBearing_17 ?_
    refine ro_Vi (C := RX1) (As := [.int (1 <<< (i3 &&& 31))]) (rest := []) ⟨hx, hb, hml, hown, hts⟩ hE va_S.rf hP [0, 1] (c_X1_down l D cI cB cJ cZ aK aV N q_this q_prices q_marks q_came q_grounds size grounds (1 <<< (i3 &&& 31)) h) (cwV 1 hts gX1_mostBearing_X1_down rfl rfl rfl (by decide +kernel) ⟨(Nat.le_of_ble_eq_true rfl), (Nat.le_of_ble_eq_true rfl)⟩) rfl 0 rfl rfl rfl hl.1 rfl (Nat.le_of_ble_eq_true rfl) dX1_mostBearing_18 ⟨Nat.zero_le _, Nat.zero_le _⟩ (fun r4 h => ?_)
    refine ro_Si (As := [.int r4]) (rest := []) ⟨hx, hb, hml, hown, hts⟩ hE va_S.rf (c_J6_bitCount_0f7a4 l D cI cB cJ cZ aK aV N r4 h) (va_cwS 1 hts gX1_mostBearing_J6_bitCount_0f7a4 rfl rfl rfl (by decide +kernel) ⟨(Nat.le_of_ble_eq_true rfl), (Nat.le_of_ble_eq_true rfl)⟩) rfl hl.1 rfl (Nat.le_of_ble_eq_true rfl) dX1_mostBearing_21 ⟨Nat.zero_le _, Nat.zero_le _⟩ (fun r5 h => ?_)
    refine lv_istore (lv' := [(4, .int r5), (0, .ref q_this), (1, .int i1), (2, .int i2), (3, .int i3)]) hx hb dX1_mostBearing_24 hl (by decide) rfl (fun ls hl => ?_)
    refine lv_iload hx hb dX1_mostBearing_26 (lv_at hl 0 rfl) ?_
    refine lv_iload_n hx hb dX1_mostBearing_28 rfl (lv_at hl 3 rfl) ?_
    refine lv_icmp_le (tgt := 37) hx hb dX1_mostBearing_29 (by decide) (fun c1 => ?_) (fun c1 => ?_)
    · have h := ite_t c1 h
      exact w_X1_mostBearing_J37 l D cI cB cJ cZ aK aV N q_this post C0 q_prices q_marks q_came q_grounds size grounds i3 kb6 hkb6 i1 i2 h hP ls (lv_sub hl [1, 2, 3, 4] rfl)
    · have h := ite_f c1 h
      refine lv_iload_n hx hb dX1_mostBearing_32 rfl (lv_at hl 4 rfl) ?_
      refine lv_istore_n (lv' := [(1, .int i3), (4, .int r5), (0, .ref q_this), (2, .int i2), (3, .int i3)]) hx hb dX1_mostBearing_33 rfl hl (by decide) rfl (fun ls hl => ?_)
      refine lv_iload hx hb dX1_mostBearing_34 (lv_at hl 1 rfl) ?_
      refine lv_istore_n (lv' := [(2, .int r5), (1, .int i3), (4, .int r5), (0, .ref q_this), (3, .int i3)]) hx hb dX1_mostBearing_36 rfl hl (by decide) rfl (fun ls hl => ?_)
      exact w_X1_mostBearing_J37 l D cI cB cJ cZ aK aV N q_this post C0 q_prices q_marks q_came q_grounds size grounds i3 kb6 hkb6 i3 r5 h hP ls (lv_sub hl [3, 1, 0, 4] rfl)
set_option maxHeartbeats 4000000 in
set_option maxRecDepth 100000 in
theorem w_X1_mostBearing_L6 (l : Launch) (D : va_G) (cI cB cJ cZ : ClassId) (aK aV : Nat → Nat) (N : Nat) {p : Program} {e : Env} {s : State} {m : MethodId} {below : List Frame} {meth : Method} {c : Code} (q_this : Nat) (post : Int32 → Prop) (C0 : Cx p s m meth c ([.ref q_this] : List Value).toArray cX1_mostBearing 5 yX1_mostBearing.cls yX1_mostBearing.name (some .int) wsX1_mostBearing D cI cB cJ cZ aK aV (fun _ => False)) (q_prices : Nat) (q_marks : Nat) (q_came : Nat) (q_grounds : Nat) (size : Int32) (grounds : Nat → Int32) (ke6 : Int32 → Int32 → Int32 → Prop) (hke6 : ∀ (i1_ : Int32) (i2_ : Int32) (i3_ : Int32), ke6 i1_ i2_ i3_ → ∀ ls : Array Slot, lv_has ls 5 [(1, .int i1_)] → W p l e { frames := 2, cells := 0, slots := 0, locals := 46 } s m ([.ref q_this] : List Value).toArray below meth c s.heap [] 0 0 (MQ below (vp_Si post) ([.ref q_this] : List Value).toArray s 0 0 (fun _ => False)) (F0 m 43 ls [])) (hP : va_P D vwCl [(q_this, .inr (1, [.ref q_prices, .ref q_marks, .ref q_came, .ref q_grounds, .int size])), (q_grounds, .inl (cI, 16, .inl grounds))] s.heap) : ∀ (n_ : Nat) (i1 : Int32) (i2 : Int32) (i3 : Int32), f_X1_mostBearing_L6 N size grounds ke6 n_ i1 i2 i3 → ∀ ls : Array Slot, lv_has ls 5 [(0, .ref q_this), (1, .int i1), (2, .int i2), (3, .int i3)] → W p l e { frames := 2, cells := 0, slots := 0, locals := 46 } s m ([.ref q_this] : List Value).toArray below meth c s.heap [] 0 0 (MQ below (vp_Si post) ([.ref q_this] : List Value).toArray s 0 0 (fun _ => False)) (F0 m 6 ls []) := by
  intro n_
  induction n_ with
  | zero => intro i1 i2 i3 h; exact h.elim
  | succ n_ ih =>
    intro i1 i2 i3 h ls hl
    exact w_X1_mostBearing_B6 l D cI cB cJ cZ aK aV N q_this post C0 q_prices q_marks q_came q_grounds size grounds (f_X1_mostBearing_L6 N size grounds ke6 n_) ih ke6 hke6 i1 i2 i3 h hP ls hl
set_option maxHeartbeats 4000000 in
set_option maxRecDepth 100000 in
theorem c_X1_mostBearing (l : Launch) (D : va_G) (cI cB cJ cZ : ClassId) (aK aV : Nat → Nat) (N : Nat) (q_this : Nat) (q_prices : Nat) (q_marks : Nat) (q_came : Nat) (q_grounds : Nat) (size : Int32) (grounds : Nat → Int32) {post : Int32 → Prop} (h : f_X1_mostBearing N size grounds post) : Met l yX1_mostBearing wsX1_mostBearing { frames := 2, cells := 0, slots := 0, locals := 46 } (PR D cI cB cJ cZ aK aV [.ref q_this] [(q_this, .inr (1, [.ref q_prices, .ref q_marks, .ref q_came, .ref q_grounds, .int size])), (q_grounds, .inl (cI, 16, .inl grounds))]) (vp_Si post) 0 0 (fun _ => False) := by
  refine ro_enter (cc := cX1_mostBearing) (maxL := 5) (ret := (some .int)) (by decide) rfl (Nat.le_of_ble_eq_true rfl) ?_
  intro p e s m below meth c C0 hP ls hl
  have hl : lv_has ls 5 [(0, .ref q_this)] := hl
  unfold f_X1_mostBearing at h
  obtain ⟨hx, hb, hr, hml, hown, hts, hE, hlk, hnm⟩ := id C0
  have ik1 : ∀ w ∈ u_ws RX1 TX1 5, w ∈ wsX1_mostBearing := by decide +kernel
  refine lv_iconst (v := 0) hx hb dX1_mostBearing_0 (by decide) ?_
  refine lv_istore_n (lv' := [(1, .int 0), (0, .ref q_this)]) hx hb dX1_mostBearing_1 rfl hl (by decide) rfl (fun ls hl => ?_)
  refine lv_iconst (v := 0) hx hb dX1_mostBearing_2 (by decide) ?_
  refine lv_istore_n (lv' := [(2, .int 0), (1, .int 0), (0, .ref q_this)]) hx hb dX1_mostBearing_3 rfl hl (by decide) rfl (fun ls hl => ?_)
  refine lv_iconst (v := 0) hx hb dX1_mostBearing_4 (by decide) ?_
  refine lv_istore_n (lv' := [(3, .int 0), (2, .int 0), (1, .int 0), (0, .ref q_this)]) hx hb dX1_mostBearing_5 rfl hl (by decide) rfl (fun ls hl => ?_)
  refine w_X1_mostBearing_L6 l D cI cB cJ cZ aK aV N q_this post C0 q_prices q_marks q_came q_grounds size grounds _ (fun o9 o10 o11 h ls hl => ?_) hP N 0 0 0 h ls (lv_sub hl [3, 2, 1, 0] rfl)
  refine lv_iload_n hx hb dX1_mostBearing_43 rfl (lv_at hl 0 rfl) ?_
  exact ro_iret hx hb hr hlk h dX1_mostBearing_44
