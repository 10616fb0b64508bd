set_option maxHeartbeats 4000000 in
set_option maxRecDepth 100000 in
theorem c_X3_has (l : Launch) (D : va_G) (cI cB cJ cZ : ClassId) (aK aV : Nat → Nat) (N : Nat) (q_this : Nat) (q_tenthsIf : Nat) (q_tenthsWithout : Nat) (q_conditions : Nat) (q_tenthsElse : Nat) (size : Int32) (x1 : Int32) {post : Int32 → Prop} (h : f_X3_has N size x1 post) : Met l yX3_has wsX3_has { frames := 0, cells := 0, slots := 0, locals := 0 } (PR D cI cB cJ cZ aK aV [.ref q_this, .int x1] [(q_this, .inr (3, [.ref q_tenthsIf, .ref q_tenthsWithout, .ref q_conditions, .ref q_tenthsElse, .int size]))]) (vp_Si (fun r => post r ∧ narrow .boolean (.int r) = .int r)) 0 0 (fun _ => False) := by
  refine ro_enter (cc := cX3_has) (maxL := 2) (ret := (some .boolean)) (by decide) rfl (Nat.le_of_ble_eq_true rfl) ?_
  intro p e s m below meth c C0 hP ls hl
  have hl : lv_has ls 2 [(0, .ref q_this), (1, .int x1)] := hl
  unfold f_X3_has at h
  obtain ⟨hx, hb, hr, hml, hown, hts, hE, hlk, hnm⟩ := id C0
  have ik3 : ∀ w ∈ u_ws RX3 TX3 5, w ∈ wsX3_has := by decide +kernel
  refine lv_iload_n hx hb dX3_has_0 rfl (lv_at hl 1 rfl) ?_
  refine lv_if_lt (tgt := 16) hx hb dX3_has_1 (by decide) (fun c1 => ?_) (fun c1 => ?_)
  · have h := ite_t c1 h
    refine lv_iconst (v := 0) hx hb dX3_has_16 (by decide) ?_
    exact ro_zret (post := fun r => post r ∧ narrow .boolean (.int r) = .int r) hx hb hr rfl hlk ⟨h, rfl⟩ dX3_has_17
  · have h := ite_f c1 h
    refine lv_iload_n hx hb dX3_has_4 rfl (lv_at hl 1 rfl) ?_
    refine lv_aload_n hx hb dX3_has_5 rfl (lv_at hl 0 rfl) ?_
    refine va_get (D := D) (ci := 3) (v := .int size) (C := RX3) (T := TX3) (N := 5) hx hb hts ik3 hown hE.1.1 hP 0 rfl rfl 4 (by decide) (hts (.fieldLink RX3 24 "FortyHouses$Laws" "size" "I") (by decide +kernel)) (fun _ h9 => h9) rfl dX3_has_6 ?_
    refine lv_icmp_ge (tgt := 16) hx hb dX3_has_9 (by decide) (fun c1 => ?_) (fun c1 => ?_)
    · have h := ite_t c1 h
      refine lv_iconst (v := 0) hx hb dX3_has_16 (by decide) ?_
      exact ro_zret (post := fun r => post r ∧ narrow .boolean (.int r) = .int r) hx hb hr rfl hlk ⟨h, rfl⟩ dX3_has_17
    · have h := ite_f c1 h
      refine lv_iconst (v := 1) hx hb dX3_has_12 (by decide) ?_
      refine lv_goto (tgt := 17) hx hb dX3_has_13 (by decide) ?_
      exact ro_zret (post := fun r => post r ∧ narrow .boolean (.int r) = .int r) hx hb hr rfl hlk ⟨h, rfl⟩ dX3_has_17
abbrev wf_X3_takeTenths (cI cB cJ cZ : ClassId) (q_this : Nat) (q_tenthsIf : Nat) (q_tenthsWithout : Nat) (q_conditions : Nat) (q_tenthsElse : Nat) (size : Int32) (tenthsIf : Nat → Int32) (tenthsWithout : Nat → Int32) (conditions : Nat → Int32) (tenthsElse : Nat → Int32) : (Nat → Int32) × (Nat → Int32) × (Nat → Int32) × (Nat → Int32) → va_W := fun u => [(q_this, .inr (3, [.ref q_tenthsIf, .ref q_tenthsWithout, .ref q_conditions, .ref q_tenthsElse, .int size])), (q_tenthsIf, .inl (cI, 6, .inl u.1)), (q_tenthsWithout, .inl (cI, 6, .inl u.2.1)), (q_conditions, .inl (cI, 6, .inl u.2.2.1)), (q_tenthsElse, .inl (cI, 6, .inl u.2.2.2))]
set_option maxHeartbeats 4000000 in
set_option maxRecDepth 100000 in
theorem c_X3_takeTenths (l : Launch) (D : va_G) (cI cB cJ cZ : ClassId) (aK aV : Nat → Nat) (N : Nat) (q_this : Nat) (q_tenthsIf : Nat) (q_tenthsWithout : Nat) (q_conditions : Nat) (q_tenthsElse : Nat) (size : Int32) (tenthsIf : Nat → Int32) (tenthsWithout : Nat → Int32) (conditions : Nat → Int32) (tenthsElse : Nat → Int32) (x1 : Int32) (x2 : Int32) (sz : Nat) {post : Int32 → (Nat → Int32) → (Nat → Int32) → (Nat → Int32) → (Nat → Int32) → Prop} (h : f_X3_takeTenths N size tenthsIf tenthsWithout conditions tenthsElse x1 x2 post) : Met l yX3_takeTenths wsX3_takeTenths { frames := 0, cells := 0, slots := 0, locals := 0 } (PW D cI cB cJ cZ aK aV [.ref q_this, .int x1, .int x2] [(q_this, .inr (3, [.ref q_tenthsIf, .ref q_tenthsWithout, .ref q_conditions, .ref q_tenthsElse, .int size])), (q_tenthsIf, .inl (cI, 6, .inl tenthsIf)), (q_tenthsWithout, .inl (cI, 6, .inl tenthsWithout)), (q_conditions, .inl (cI, 6, .inl conditions)), (q_tenthsElse, .inl (cI, 6, .inl tenthsElse))] sz) (va_Qi (fun r (u : (Nat → Int32) × (Nat → Int32) × (Nat → Int32) × (Nat → Int32)) => post r u.1 u.2.1 u.2.2.1 u.2.2.2) (BW D (va_A [(q_this, .inr (3, [.ref q_tenthsIf, .ref q_tenthsWithout, .ref q_conditions, .ref q_tenthsElse, .int size])), (q_tenthsIf, .inl (cI, 6, .inl tenthsIf)), (q_tenthsWithout, .inl (cI, 6, .inl tenthsWithout)), (q_conditions, .inl (cI, 6, .inl conditions)), (q_tenthsElse, .inl (cI, 6, .inl tenthsElse))] sz) (wf_X3_takeTenths cI cB cJ cZ q_this q_tenthsIf q_tenthsWithout q_conditions q_tenthsElse size tenthsIf tenthsWithout conditions tenthsElse)) (va_A [(q_this, .inr (3, [.ref q_tenthsIf, .ref q_tenthsWithout, .ref q_conditions, .ref q_tenthsElse, .int size])), (q_tenthsIf, .inl (cI, 6, .inl tenthsIf)), (q_tenthsWithout, .inl (cI, 6, .inl tenthsWithout)), (q_conditions, .inl (cI, 6, .inl conditions)), (q_tenthsElse, .inl (cI, 6, .inl tenthsElse))] sz)) 0 0 (va_A [(q_this, .inr (3, [.ref q_tenthsIf, .ref q_tenthsWithout, .ref q_conditions, .ref q_tenthsElse, .int size])), (q_tenthsIf, .inl (cI, 6, .inl tenthsIf)), (q_tenthsWithout, .inl (cI, 6, .inl tenthsWithout)), (q_conditions, .inl (cI, 6, .inl conditions)), (q_tenthsElse, .inl (cI, 6, .inl tenthsElse))] sz) := by
  refine mu_enter (Qc := fun A => (va_Qi (fun r (u : (Nat → Int32) × (Nat → Int32) × (Nat → Int32) × (Nat → Int32)) => post r u.1 u.2.1 u.2.2.1 u.2.2.2) (BW D A (wf_X3_takeTenths cI cB cJ cZ q_this q_tenthsIf q_tenthsWithout q_conditions q_tenthsElse size tenthsIf tenthsWithout conditions tenthsElse)) A)) (cc := cX3_takeTenths) (maxL := 3) (ret := (some .int)) (by decide) rfl (Nat.le_of_ble_eq_true rfl) ?_
  intro p e s m below meth c A C0 hA H locs hP hD hS ls hl
  have hl : lv_has ls 3 [(0, .ref q_this), (1, .int x1), (2, .int x2)] := hl
  unfold f_X3_takeTenths at h
  obtain ⟨hx, hb, hr, hml, hown, hts, hE, hlk, hnm⟩ := id C0
  have ik3 : ∀ w ∈ u_ws RX3 TX3 5, w ∈ wsX3_takeTenths := by decide +kernel
  refine lv_iload_n hx hb dX3_takeTenths_0 rfl (lv_at hl 1 rfl) ?_
  refine lv_iconst (v := 2) hx hb dX3_takeTenths_1 (by decide) ?_
  refine lv_icmp_ne (tgt := 17) hx hb dX3_takeTenths_2 (by decide) (fun c1 => ?_) (fun c1 => ?_)
  · have h := ite_t c1 h
    refine lv_iload_n hx hb dX3_takeTenths_17 rfl (lv_at hl 1 rfl) ?_
    refine lv_bipush (v := 6) hx hb dX3_takeTenths_18 (by decide) ?_
    refine lv_icmp_ne (tgt := 36) hx hb dX3_takeTenths_20 (by decide) (fun c1 => ?_) (fun c1 => ?_)
    · have h := ite_t c1 h
      refine lv_aload_n hx hb dX3_takeTenths_36 rfl (lv_at hl 0 rfl) ?_
      refine va_get (D := D) (ci := 3) (v := .ref q_tenthsIf) (C := RX3) (T := TX3) (N := 5) hx hb hts ik3 hown hE.1.1 hP 0 rfl rfl 0 (by decide) (hts (.fieldLink RX3 11 "FortyHouses$Laws" "tenthsIf" "[I") (by decide +kernel)) (fun _ h9 => h9) rfl dX3_takeTenths_37 ?_
      refine lv_aload_n hx hb dX3_takeTenths_40 rfl (lv_at hl 0 rfl) ?_
      refine va_get (D := D) (ci := 3) (v := .int size) (C := RX3) (T := TX3) (N := 5) hx hb hts ik3 hown hE.1.1 hP 0 rfl rfl 4 (by decide) (hts (.fieldLink RX3 24 "FortyHouses$Laws" "size" "I") (by decide +kernel)) (fun _ h9 => h9) rfl dX3_takeTenths_41 ?_
      refine lv_iload_n hx hb dX3_takeTenths_44 rfl (lv_at hl 2 rfl) ?_
      obtain ⟨hin, h⟩ := h
      refine va_iast hx hb hE.1.1 hP hD hS 1 0 rfl rfl hin dX3_takeTenths_45 (fun H locs hP hD hS => ?_)
      have hP : va_P D vwCl [(q_this, .inr (3, [.ref q_tenthsIf, .ref q_tenthsWithout, .ref q_conditions, .ref q_tenthsElse, .int size])), (q_tenthsIf, .inl (cI, 6, .inl (upd tenthsIf size.toNatClampNeg x2))), (q_tenthsWithout, .inl (cI, 6, .inl tenthsWithout)), (q_conditions, .inl (cI, 6, .inl conditions)), (q_tenthsElse, .inl (cI, 6, .inl tenthsElse))] H := hP
      have hD : va_D A [(q_this, .inr (3, [.ref q_tenthsIf, .ref q_tenthsWithout, .ref q_conditions, .ref q_tenthsElse, .int size])), (q_tenthsIf, .inl (cI, 6, .inl (upd tenthsIf size.toNatClampNeg x2))), (q_tenthsWithout, .inl (cI, 6, .inl tenthsWithout)), (q_conditions, .inl (cI, 6, .inl conditions)), (q_tenthsElse, .inl (cI, 6, .inl tenthsElse))] := hD
      refine lv_aload_n hx hb dX3_takeTenths_46 rfl (lv_at hl 0 rfl) ?_
      refine va_get (D := D) (ci := 3) (v := .ref q_conditions) (C := RX3) (T := TX3) (N := 5) hx hb hts ik3 hown hE.1.1 hP 0 rfl rfl 2 (by decide) (hts (.fieldLink RX3 18 "FortyHouses$Laws" "conditions" "[I") (by decide +kernel)) (fun _ h9 => h9) rfl dX3_takeTenths_47 ?_
      refine lv_aload_n hx hb dX3_takeTenths_50 rfl (lv_at hl 0 rfl) ?_
      refine va_get (D := D) (ci := 3) (v := .int size) (C := RX3) (T := TX3) (N := 5) hx hb hts ik3 hown hE.1.1 hP 0 rfl rfl 4 (by decide) (hts (.fieldLink RX3 24 "FortyHouses$Laws" "size" "I") (by decide +kernel)) (fun _ h9 => h9) rfl dX3_takeTenths_51 ?_
      refine lv_iconst (v := 0) hx hb dX3_takeTenths_54 (by decide) ?_
      obtain ⟨hin, h⟩ := h
      refine va_iast hx hb hE.1.1 hP hD hS 3 0 rfl rfl hin dX3_takeTenths_55 (fun H locs hP hD hS => ?_)
      have hP : va_P D vwCl [(q_this, .inr (3, [.ref q_tenthsIf, .ref q_tenthsWithout, .ref q_conditions, .ref q_tenthsElse, .int size])), (q_tenthsIf, .inl (cI, 6, .inl (upd tenthsIf size.toNatClampNeg x2))), (q_tenthsWithout, .inl (cI, 6, .inl tenthsWithout)), (q_conditions, .inl (cI, 6, .inl (upd conditions size.toNatClampNeg 0))), (q_tenthsElse, .inl (cI, 6, .inl tenthsElse))] H := hP
      have hD : va_D A [(q_this, .inr (3, [.ref q_tenthsIf, .ref q_tenthsWithout, .ref q_conditions, .ref q_tenthsElse, .int size])), (q_tenthsIf, .inl (cI, 6, .inl (upd tenthsIf size.toNatClampNeg x2))), (q_tenthsWithout, .inl (cI, 6, .inl tenthsWithout)), (q_conditions, .inl (cI, 6, .inl (upd conditions size.toNatClampNeg 0))), (q_tenthsElse, .inl (cI, 6, .inl tenthsElse))] := hD
      refine lv_iconst (v := 2) hx hb dX3_takeTenths_56 (by decide) ?_
      exact mu_iret (wf := wf_X3_takeTenths cI cB cJ cZ q_this q_tenthsIf q_tenthsWithout q_conditions q_tenthsElse size tenthsIf tenthsWithout conditions tenthsElse) ((upd tenthsIf size.toNatClampNeg x2), tenthsWithout, (upd conditions size.toNatClampNeg 0), tenthsElse) hx hb hr hlk hP hD hS h dX3_takeTenths_57
    · have h := ite_n c1 h
      refine lv_aload_n hx hb dX3_takeTenths_23 rfl (lv_at hl 0 rfl) ?_
      refine va_get (D := D) (ci := 3) (v := .ref q_tenthsElse) (C := RX3) (T := TX3) (N := 5) hx hb hts ik3 hown hE.1.1 hP 0 rfl rfl 3 (by decide) (hts (.fieldLink RX3 21 "FortyHouses$Laws" "tenthsElse" "[I") (by decide +kernel)) (fun _ h9 => h9) rfl dX3_takeTenths_24 ?_
      refine lv_aload_n hx hb dX3_takeTenths_27 rfl (lv_at hl 0 rfl) ?_
      refine va_get (D := D) (ci := 3) (v := .int size) (C := RX3) (T := TX3) (N := 5) hx hb hts ik3 hown hE.1.1 hP 0 rfl rfl 4 (by decide) (hts (.fieldLink RX3 24 "FortyHouses$Laws" "size" "I") (by decide +kernel)) (fun _ h9 => h9) rfl dX3_takeTenths_28 ?_
      refine lv_iload_n hx hb dX3_takeTenths_31 rfl (lv_at hl 2 rfl) ?_
      obtain ⟨hin, h⟩ := h
      refine va_iast hx hb hE.1.1 hP hD hS 4 0 rfl rfl hin dX3_takeTenths_32 (fun H locs hP hD hS => ?_)
      have hP : va_P D vwCl [(q_this, .inr (3, [.ref q_tenthsIf, .ref q_tenthsWithout, .ref q_conditions, .ref q_tenthsElse, .int size])), (q_tenthsIf, .inl (cI, 6, .inl tenthsIf)), (q_tenthsWithout, .inl (cI, 6, .inl tenthsWithout)), (q_conditions, .inl (cI, 6, .inl conditions)), (q_tenthsElse, .inl (cI, 6, .inl (upd tenthsElse size.toNatClampNeg x2)))] H := hP
      have hD : va_D A [(q_this, .inr (3, [.ref q_tenthsIf, .ref q_tenthsWithout, .ref q_conditions, .ref q_tenthsElse, .int size])), (q_tenthsIf, .inl (cI, 6, .inl tenthsIf)), (q_tenthsWithout, .inl (cI, 6, .inl tenthsWithout)), (q_conditions, .inl (cI, 6, .inl conditions)), (q_tenthsElse, .inl (cI, 6, .inl (upd tenthsElse size.toNatClampNeg x2)))] := hD
      refine lv_bipush (v := 7) hx hb dX3_takeTenths_33 (by decide) ?_
      exact mu_iret (wf := wf_X3_takeTenths cI cB cJ cZ q_this q_tenthsIf q_tenthsWithout q_conditions q_tenthsElse size tenthsIf tenthsWithout conditions tenthsElse) (tenthsIf, tenthsWithout, conditions, (upd tenthsElse size.toNatClampNeg x2)) hx hb hr hlk hP hD hS h dX3_takeTenths_35
  · have h := ite_n c1 h
    refine lv_aload_n hx hb dX3_takeTenths_5 rfl (lv_at hl 0 rfl) ?_
    refine va_get (D := D) (ci := 3) (v := .ref q_tenthsWithout) (C := RX3) (T := TX3) (N := 5) hx hb hts ik3 hown hE.1.1 hP 0 rfl rfl 1 (by decide) (hts (.fieldLink RX3 15 "FortyHouses$Laws" "tenthsWithout" "[I") (by decide +kernel)) (fun _ h9 => h9) rfl dX3_takeTenths_6 ?_
    refine lv_aload_n hx hb dX3_takeTenths_9 rfl (lv_at hl 0 rfl) ?_
    refine va_get (D := D) (ci := 3) (v := .int size) (C := RX3) (T := TX3) (N := 5) hx hb hts ik3 hown hE.1.1 hP 0 rfl rfl 4 (by decide) (hts (.fieldLink RX3 24 "FortyHouses$Laws" "size" "I") (by decide +kernel)) (fun _ h9 => h9) rfl dX3_takeTenths_10 ?_
    refine lv_iload_n hx hb dX3_takeTenths_13 rfl (lv_at hl 2 rfl) ?_
    obtain ⟨hin, h⟩ := h
    refine va_iast hx hb hE.1.1 hP hD hS 2 0 rfl rfl hin dX3_takeTenths_14 (fun H locs hP hD hS => ?_)
    have hP : va_P D vwCl [(q_this, .inr (3, [.ref q_tenthsIf, .ref q_tenthsWithout, .ref q_conditions, .ref q_tenthsElse, .int size])), (q_tenthsIf, .inl (cI, 6, .inl tenthsIf)), (q_tenthsWithout, .inl (cI, 6, .inl (upd tenthsWithout size.toNatClampNeg x2))), (q_conditions, .inl (cI, 6, .inl conditions)), (q_tenthsElse, .inl (cI, 6, .inl tenthsElse))] H := hP
    have hD : va_D A [(q_this, .inr (3, [.ref q_tenthsIf, .ref q_tenthsWithout, .ref q_conditions, .ref q_tenthsElse, .int size])), (q_tenthsIf, .inl (cI, 6, .inl tenthsIf)), (q_tenthsWithout, .inl (cI, 6, .inl (upd tenthsWithout size.toNatClampNeg x2))), (q_conditions, .inl (cI, 6, .inl conditions)), (q_tenthsElse, .inl (cI, 6, .inl tenthsElse))] := hD
    refine lv_iconst (v := 3) hx hb dX3_takeTenths_15 (by decide) ?_
    exact mu_iret (wf := wf_X3_takeTenths cI cB cJ cZ q_this q_tenthsIf q_tenthsWithout q_conditions q_tenthsElse size tenthsIf tenthsWithout conditions tenthsElse) (tenthsIf, (upd tenthsWithout size.toNatClampNeg x2), conditions, tenthsElse) hx hb hr hlk hP hD hS h dX3_takeTenths_16
abbrev wf_X3_takeConditions (cI cB cJ cZ : ClassId) (q_this : Nat) (q_tenthsIf : Nat) (q_tenthsWithout : Nat) (q_conditions : Nat) (q_tenthsElse : Nat) (size : Int32) (conditions : Nat → Int32) : (Nat → Int32) → va_W := fun u => [(q_this, .inr (3, [.ref q_tenthsIf, .ref q_tenthsWithout, .ref q_conditions, .ref q_tenthsElse, .int size])), (q_conditions, .inl (cI, 6, .inl u))]
set_option maxHeartbeats 4000000 in
set_option maxRecDepth 100000 in
theorem c_X3_takeConditions (l : Launch) (D : va_G) (cI cB cJ cZ : ClassId) (aK aV : Nat → Nat) (N : Nat) (q_this : Nat) (q_tenthsIf : Nat) (q_tenthsWithout : Nat) (q_conditions : Nat) (q_tenthsElse : Nat) (size : Int32) (conditions : Nat → Int32) (x1 : Int32) (sz : Nat) {post : Int32 → (Nat → Int32) → Prop} (h : f_X3_takeConditions N size conditions x1 post) : Met l yX3_takeConditions wsX3_takeConditions { frames := 0, cells := 0, slots := 0, locals := 0 } (PW D cI cB cJ cZ aK aV [.ref q_this, .int x1] [(q_this, .inr (3, [.ref q_tenthsIf, .ref q_tenthsWithout, .ref q_conditions, .ref q_tenthsElse, .int size])), (q_conditions, .inl (cI, 6, .inl conditions))] sz) (va_Qi (fun r (u : (Nat → Int32)) => post r u) (BW D (va_A [(q_this, .inr (3, [.ref q_tenthsIf, .ref q_tenthsWithout, .ref q_conditions, .ref q_tenthsElse, .int size])), (q_conditions, .inl (cI, 6, .inl conditions))] sz) (wf_X3_takeConditions cI cB cJ cZ q_this q_tenthsIf q_tenthsWithout q_conditions q_tenthsElse size conditions)) (va_A [(q_this, .inr (3, [.ref q_tenthsIf, .ref q_tenthsWithout, .ref q_conditions, .ref q_tenthsElse, .int size])), (q_conditions, .inl (cI, 6, .inl conditions))] sz)) 0 0 (va_A [(q_this, .inr (3, [.ref q_tenthsIf, .ref q_tenthsWithout, .ref q_conditions, .ref q_tenthsElse, .int size])), (q_conditions, .inl (cI, 6, .inl conditions))] sz) := by
  refine mu_enter (Qc := fun A => (va_Qi (fun r (u : (Nat → Int32)) => post r u) (BW D A (wf_X3_takeConditions cI cB cJ cZ q_this q_tenthsIf q_tenthsWithout q_conditions q_tenthsElse size conditions)) A)) (cc := cX3_takeConditions) (maxL := 2) (ret := (some .int)) (by decide) rfl (Nat.le_of_ble_eq_true rfl) ?_
  intro p e s m below meth c A C0 hA H locs hP hD hS ls hl
  have hl : lv_has ls 2 [(0, .ref q_this), (1, .int x1)] := hl
  unfold f_X3_takeConditions at h
  obtain ⟨hx, hb, hr, hml, hown, hts, hE, hlk, hnm⟩ := id C0
  have ik3 : ∀ w ∈ u_ws RX3 TX3 5, w ∈ wsX3_takeConditions := by decide +kernel
  refine lv_aload_n hx hb dX3_takeConditions_0 rfl (lv_at hl 0 rfl) ?_
  refine va_get (D := D) (ci := 3) (v := .ref q_conditions) (C := RX3) (T := TX3) (N := 5) hx hb hts ik3 hown hE.1.1 hP 0 rfl rfl 2 (by decide) (hts (.fieldLink RX3 18 "FortyHouses$Laws" "conditions" "[I") (by decide +kernel)) (fun _ h9 => h9) rfl dX3_takeConditions_1 ?_
  refine lv_aload_n hx hb dX3_takeConditions_4 rfl (lv_at hl 0 rfl) ?_
  refine va_get (D := D) (ci := 3) (v := .int size) (C := RX3) (T := TX3) (N := 5) hx hb hts ik3 hown hE.1.1 hP 0 rfl rfl 4 (by decide) (hts (.fieldLink RX3 24 "FortyHouses$Laws" "size" "I") (by decide +kernel)) (fun _ h9 => h9) rfl dX3_takeConditions_5 ?_
  refine lv_iload_n hx hb dX3_takeConditions_8 rfl (lv_at hl 1 rfl) ?_
  obtain ⟨hin, h⟩ := h
  refine va_iast hx hb hE.1.1 hP hD hS 1 0 rfl rfl hin dX3_takeConditions_9 (fun H locs hP hD hS => ?_)
  have hP : va_P D vwCl [(q_this, .inr (3, [.ref q_tenthsIf, .ref q_tenthsWithout, .ref q_conditions, .ref q_tenthsElse, .int size])), (q_conditions, .inl (cI, 6, .inl (upd conditions size.toNatClampNeg x1)))] H := hP
  have hD : va_D A [(q_this, .inr (3, [.ref q_tenthsIf, .ref q_tenthsWithout, .ref q_conditions, .ref q_tenthsElse, .int size])), (q_conditions, .inl (cI, 6, .inl (upd conditions size.toNatClampNeg x1)))] := hD
  refine lv_iconst (v := 5) hx hb dX3_takeConditions_10 (by decide) ?_
  exact mu_iret (wf := wf_X3_takeConditions cI cB cJ cZ q_this q_tenthsIf q_tenthsWithout q_conditions q_tenthsElse size conditions) ((upd conditions size.toNatClampNeg x1)) hx hb hr hlk hP hD hS h dX3_takeConditions_11
abbrev wf_X3_takeEnd (cI cB cJ cZ : ClassId) (q_this : Nat) (q_tenthsIf : Nat) (q_tenthsWithout : Nat) (q_conditions : Nat) (q_tenthsElse : Nat) (size : Int32) : Int32 → va_W := fun u => [(q_this, .inr (3, [.ref q_tenthsIf, .ref q_tenthsWithout, .ref q_conditions, .ref q_tenthsElse, .int u]))]
set_option maxHeartbeats 4000000 in
set_option maxRecDepth 100000 in
theorem c_X3_takeEnd (l : Launch) (D : va_G) (cI cB cJ cZ : ClassId) (aK aV : Nat → Nat) (N : Nat) (q_this : Nat) (q_tenthsIf : Nat) (q_tenthsWithout : Nat) (q_conditions : Nat) (q_tenthsElse : Nat) (size : Int32) (x1 : Int32) (sz : Nat) {post : Int32 → Int32 → Prop} (h : f_X3_takeEnd N size x1 post) : Met l yX3_takeEnd wsX3_takeEnd { frames := 0, cells := 0, slots := 0, locals := 0 } (PW D cI cB cJ cZ aK aV [.ref q_this, .int x1] [(q_this, .inr (3, [.ref q_tenthsIf, .ref q_tenthsWithout, .ref q_conditions, .ref q_tenthsElse, .int size]))] sz) (va_Qi (fun r (u : Int32) => post r u) (BW D (va_A [(q_this, .inr (3, [.ref q_tenthsIf, .ref q_tenthsWithout, .ref q_conditions, .ref q_tenthsElse, .int size]))] sz) (wf_X3_takeEnd cI cB cJ cZ q_this q_tenthsIf q_tenthsWithout q_conditions q_tenthsElse size)) (va_A [(q_this, .inr (3, [.ref q_tenthsIf, .ref q_tenthsWithout, .ref q_conditions, .ref q_tenthsElse, .int size]))] sz)) 0 0 (va_A [(q_this, .inr (3, [.ref q_tenthsIf, .ref q_tenthsWithout, .ref q_conditions, .ref q_tenthsElse, .int size]))] sz) := by
  refine mu_enter (Qc := fun A => (va_Qi (fun r (u : Int32) => post r u) (BW D A (wf_X3_takeEnd cI cB cJ cZ q_this q_tenthsIf q_tenthsWithout q_conditions q_tenthsElse size)) A)) (cc := cX3_takeEnd) (maxL := 2) (ret := (some .int)) (by decide) rfl (Nat.le_of_ble_eq_true rfl) ?_
  intro p e s m below meth c A C0 hA H locs hP hD hS ls hl
  have hl : lv_has ls 2 [(0, .ref q_this), (1, .int x1)] := hl
  unfold f_X3_takeEnd at h
  obtain ⟨hx, hb, hr, hml, hown, hts, hE, hlk, hnm⟩ := id C0
  have ik3 : ∀ w ∈ u_ws RX3 TX3 5, w ∈ wsX3_takeEnd := by decide +kernel
  refine lv_iload_n hx hb dX3_takeEnd_0 rfl (lv_at hl 1 rfl) ?_
  refine lv_iconst (v := 2) hx hb dX3_takeEnd_1 (by decide) ?_
  refine lv_icmp_eq (tgt := 7) hx hb dX3_takeEnd_2 (by decide) (fun c1 => ?_) (fun c1 => ?_)
  · have h := ite_t c1 h
    refine lv_aload_n hx hb dX3_takeEnd_7 rfl (lv_at hl 0 rfl) ?_
    refine lv_dup hx hb dX3_takeEnd_8 rfl ?_
    refine va_get (D := D) (ci := 3) (v := .int size) (C := RX3) (T := TX3) (N := 5) hx hb hts ik3 hown hE.1.1 hP 0 rfl rfl 4 (by decide) (hts (.fieldLink RX3 24 "FortyHouses$Laws" "size" "I") (by decide +kernel)) (fun _ h9 => h9) rfl dX3_takeEnd_9 ?_
    refine lv_iconst (v := 1) hx hb dX3_takeEnd_12 (by decide) ?_
    refine lv_iadd hx hb dX3_takeEnd_13 ?_
    refine lv_topi (fun v1 ex => ?_)
    have h := nm_of ex h
    refine va_put (D := D) (ci := 3) (v := .int v1) (ty := .int) (C := RX3) (T := TX3) (N := 5) hx hb hts ik3 tyX3 tyX3_ok nmX3 hown hE.1.1 hP hD hS 0 rfl rfl 4 (by decide) (hts (.fieldLink RX3 24 "FortyHouses$Laws" "size" "I") (by decide +kernel)) (fun _ h9 => h9) rfl (by decide +kernel) rfl rfl (Nat.le_of_ble_eq_true rfl) dX3_takeEnd_14 (fun H locs hP hD hS => ?_)
    have hP : va_P D vwCl [(q_this, .inr (3, [.ref q_tenthsIf, .ref q_tenthsWithout, .ref q_conditions, .ref q_tenthsElse, .int v1]))] H := hP
    have hD : va_D A [(q_this, .inr (3, [.ref q_tenthsIf, .ref q_tenthsWithout, .ref q_conditions, .ref q_tenthsElse, .int v1]))] := hD
    refine lv_iconst (v := 0) hx hb dX3_takeEnd_17 (by decide) ?_
    exact mu_iret (wf := wf_X3_takeEnd cI cB cJ cZ q_this q_tenthsIf q_tenthsWithout q_conditions q_tenthsElse size) (v1) hx hb hr hlk hP hD hS h dX3_takeEnd_18
  · have h := ite_f c1 h
    refine lv_iconst (v := (-1)) hx hb dX3_takeEnd_5 (by decide) ?_
    exact mu_iret (wf := wf_X3_takeEnd cI cB cJ cZ q_this q_tenthsIf q_tenthsWithout q_conditions q_tenthsElse size) (size) hx hb hr hlk hP hD hS h dX3_takeEnd_6
abbrev wf_X3_take (cI cB cJ cZ : ClassId) (q_this : Nat) (q_tenthsIf : Nat) (q_tenthsWithout : Nat) (q_conditions : Nat) (q_tenthsElse : Nat) (size : Int32) (tenthsIf : Nat → Int32) (tenthsWithout : Nat → Int32) (conditions : Nat → Int32) (tenthsElse : Nat → Int32) : Int32 × (Nat → Int32) × (Nat → Int32) × (Nat → Int32) × (Nat → Int32) → va_W := fun u => [(q_this, .inr (3, [.ref q_tenthsIf, .ref q_tenthsWithout, .ref q_conditions, .ref q_tenthsElse, .int u.1])), (q_tenthsIf, .inl (cI, 6, .inl u.2.1)), (q_tenthsWithout, .inl (cI, 6, .inl u.2.2.1)), (q_conditions, .inl (cI, 6, .inl u.2.2.2.1)), (q_tenthsElse, .inl (cI, 6, .inl u.2.2.2.2))]
set_option maxHeartbeats 4000000 in
set_option maxRecDepth 100000 in
theorem c_X3_take (l : Launch) (D : va_G) (cI cB cJ cZ : ClassId) (aK aV : Nat → Nat) (N : Nat) (q_this : Nat) (q_tenthsIf : Nat) (q_tenthsWithout : Nat) (q_conditions : Nat) (q_tenthsElse : Nat) (size : Int32) (tenthsIf : Nat → Int32) (tenthsWithout : Nat → Int32) (conditions : Nat → Int32) (tenthsElse : Nat → Int32) (x1 : Int32) (x2 : Int32) (x3 : Int32) (sz : Nat) {post : Int32 → Int32 → (Nat → Int32) → (Nat → Int32) → (Nat → Int32) → (Nat → Int32) → Prop} (h : f_X3_take N size tenthsIf tenthsWithout conditions tenthsElse x1 x2 x3 post) : Met l yX3_take wsX3_take { frames := 1, cells := 0, slots := 0, locals := 22 } (PW D cI cB cJ cZ aK aV [.ref q_this, .int x1, .int x2, .int x3] [(q_this, .inr (3, [.ref q_tenthsIf, .ref q_tenthsWithout, .ref q_conditions, .ref q_tenthsElse, .int size])), (q_tenthsIf, .inl (cI, 6, .inl tenthsIf)), (q_tenthsWithout, .inl (cI, 6, .inl tenthsWithout)), (q_conditions, .inl (cI, 6, .inl conditions)), (q_tenthsElse, .inl (cI, 6, .inl tenthsElse))] sz) (va_Qi (fun r (u : Int32 × (Nat → Int32) × (Nat → Int32) × (Nat → Int32) × (Nat → Int32)) => post r u.1 u.2.1 u.2.2.1 u.2.2.2.1 u.2.2.2.2) (BW D (va_A [(q_this, .inr (3, [.ref q_tenthsIf, .ref q_tenthsWithout, .ref q_conditions, .ref q_tenthsElse, .int size])), (q_tenthsIf, .inl (cI, 6, .inl tenthsIf)), (q_tenthsWithout, .inl (cI, 6, .inl tenthsWithout)), (q_conditions, .inl (cI, 6, .inl conditions)), (q_tenthsElse, .inl (cI, 6, .inl tenthsElse))] sz) (wf_X3_take cI cB cJ cZ q_this q_tenthsIf q_tenthsWithout q_conditions q_tenthsElse size tenthsIf tenthsWithout conditions tenthsElse)) (va_A [(q_this, .inr (3, [.ref q_tenthsIf, .ref q_tenthsWithout, .ref q_conditions, .ref q_tenthsElse, .int size])), (q_tenthsIf, .inl (cI, 6, .inl tenthsIf)), (q_tenthsWithout, .inl (cI, 6, .inl tenthsWithout)), (q_conditions, .inl (cI, 6, .inl conditions)), (q_tenthsElse, .inl (cI, 6, .inl tenthsElse))] sz)) 0 0 (va_A [(q_this, .inr (3, [.ref q_tenthsIf, .ref q_tenthsWithout, .ref q_conditions, .ref q_tenthsElse, .int size])), (q_tenthsIf, .inl (cI, 6, .inl tenthsIf)), (q_tenthsWithout, .inl (cI, 6, .inl tenthsWithout)), (q_conditions, .inl (cI, 6, .inl conditions)), (q_tenthsElse, .inl (cI, 6, .inl tenthsElse))] sz) := by
  refine mu_enter (Qc := fun A => (va_Qi (fun r (u : Int32 × (Nat → Int32) × (Nat → Int32) × (Nat → Int32) × (Nat → Int32)) => post r u.1 u.2.1 u.2.2.1 u.2.2.2.1 u.2.2.2.2) (BW D A (wf_X3_take cI cB cJ cZ q_this q_tenthsIf q_tenthsWithout q_conditions q_tenthsElse size tenthsIf tenthsWithout conditions tenthsElse)) A)) (cc := cX3_take) (maxL := 4) (ret := (some .int)) (by decide) rfl (Nat.le_of_ble_eq_true rfl) ?_
  intro p e s m below meth c A C0 hA H locs hP hD hS ls hl
  have hl : lv_has ls 4 [(0, .ref q_this), (1, .int x1), (2, .int x2), (3, .int x3)] := hl
  unfold f_X3_take at h
  obtain ⟨hx, hb, hr, hml, hown, hts, hE, hlk, hnm⟩ := id C0
  have ik3 : ∀ w ∈ u_ws RX3 TX3 5, w ∈ wsX3_take := by decide +kernel
  refine lv_aload_n hx hb dX3_take_0 rfl (lv_at hl 0 rfl) ?_
  refine va_get (D := D) (ci := 3) (v := .int size) (C := RX3) (T := TX3) (N := 5) hx hb hts ik3 hown hE.1.1 hP 0 rfl rfl 4 (by decide) (hts (.fieldLink RX3 24 "FortyHouses$Laws" "size" "I") (by decide +kernel)) (fun _ h9 => h9) rfl dX3_take_1 ?_
  refine lv_bipush (v := 6) hx hb dX3_take_4 (by decide) ?_
  refine lv_icmp_lt (tgt := 11) hx hb dX3_take_6 (by decide) (fun c1 => ?_) (fun c1 => ?_)
  · have h := ite_t c1 h
    refine lv_iload_n hx hb dX3_take_11 rfl (lv_at hl 1 rfl) ?_
    by_cases c0 : x1 = 0
    · have h := ite_t c0 h
      refine lv_tableIn (tgt := 56) hx hb dX3_take_12 (by rw [c0]; decide) (by rw [c0]; decide) (by rw [c0]; rfl) (by decide) ?_
      refine lv_iload_n hx hb dX3_take_56 rfl (lv_at hl 2 rfl) ?_
      refine lv_iconst (v := 4) hx hb dX3_take_57 (by decide) ?_
      refine lv_icmp_ne (tgt := 65) hx hb dX3_take_58 (by decide) (fun c1 => ?_) (fun c1 => ?_)
      · have h := ite_t c1 h
        refine lv_iconst (v := (-1)) hx hb dX3_take_65 (by decide) ?_
        exact mu_iret (wf := wf_X3_take cI cB cJ cZ q_this q_tenthsIf q_tenthsWithout q_conditions q_tenthsElse size tenthsIf tenthsWithout conditions tenthsElse) (size, tenthsIf, tenthsWithout, conditions, tenthsElse) hx hb hr hlk hP hD hS h dX3_take_66
      · have h := ite_n c1 h
        refine lv_iconst (v := 1) hx hb dX3_take_61 (by decide) ?_
        refine lv_goto (tgt := 66) hx hb dX3_take_62 (by decide) ?_
        exact mu_iret (wf := wf_X3_take cI cB cJ cZ q_this q_tenthsIf q_tenthsWithout q_conditions q_tenthsElse size tenthsIf tenthsWithout conditions tenthsElse) (size, tenthsIf, tenthsWithout, conditions, tenthsElse) hx hb hr hlk hP hD hS h dX3_take_66
    · have h := ite_f c0 h
      by_cases c1 : x1 = 1
      · have h := ite_t c1 h
        refine lv_tableIn (tgt := 67) hx hb dX3_take_12 (by rw [c1]; decide) (by rw [c1]; decide) (by rw [c1]; rfl) (by decide) ?_
        refine lv_iload_n hx hb dX3_take_67 rfl (lv_at hl 2 rfl) ?_
        refine lv_iconst (v := 3) hx hb dX3_take_68 (by decide) ?_
        refine lv_icmp_ne (tgt := 87) hx hb dX3_take_69 (by decide) (fun c1 => ?_) (fun c1 => ?_)
        · have h := ite_t c1 h
          refine lv_iconst (v := (-1)) hx hb dX3_take_87 (by decide) ?_
          exact mu_iret (wf := wf_X3_take cI cB cJ cZ q_this q_tenthsIf q_tenthsWithout q_conditions q_tenthsElse size tenthsIf tenthsWithout conditions tenthsElse) (size, tenthsIf, tenthsWithout, conditions, tenthsElse) hx hb hr hlk hP hD hS h dX3_take_88
        · have h := ite_n c1 h
          refine lv_iload_n hx hb dX3_take_72 rfl (lv_at hl 3 rfl) ?_
          refine lv_bipush (v := 10) hx hb dX3_take_73 (by decide) ?_
          refine lv_icmp_gt (tgt := 87) hx hb dX3_take_75 (by decide) (fun c1 => ?_) (fun c1 => ?_)
          · have h := ite_t c1 h
            refine lv_iconst (v := (-1)) hx hb dX3_take_87 (by decide) ?_
            exact mu_iret (wf := wf_X3_take cI cB cJ cZ q_this q_tenthsIf q_tenthsWithout q_conditions q_tenthsElse size tenthsIf tenthsWithout conditions tenthsElse) (size, tenthsIf, tenthsWithout, conditions, tenthsElse) hx hb hr hlk hP hD hS h dX3_take_88
          · have h := ite_f c1 h
            refine lv_aload_n hx hb dX3_take_78 rfl (lv_at hl 0 rfl) ?_
            refine lv_iload_n hx hb dX3_take_79 rfl (lv_at hl 1 rfl) ?_
            refine lv_iload_n hx hb dX3_take_80 rfl (lv_at hl 3 rfl) ?_
            refine mu_Vi (C := RX3) (As := [.int x1, .int x3]) (rest := []) (wr := []) (wn := (fun u : (Nat → Int32) × (Nat → Int32) × (Nat → Int32) × (Nat → Int32) => [(q_this, .inr (3, [.ref q_tenthsIf, .ref q_tenthsWithout, .ref q_conditions, .ref q_tenthsElse, .int size])), (q_tenthsIf, .inl (cI, 6, .inl u.1)), (q_tenthsWithout, .inl (cI, 6, .inl u.2.1)), (q_conditions, .inl (cI, 6, .inl u.2.2.1)), (q_tenthsElse, .inl (cI, 6, .inl u.2.2.2))])) ⟨hx, hb, hml, hown, hts⟩ hE hP hD hS hA [0, 1, 2, 3, 4] [] [0, 1, 2, 3, 4] (c_X3_takeTenths l D cI cB cJ cZ aK aV N q_this q_tenthsIf q_tenthsWithout q_conditions q_tenthsElse size tenthsIf tenthsWithout conditions tenthsElse x1 x3 H.size h) (cwV 2 hts gX3_take_X3_takeTenths rfl rfl rfl (by decide +kernel) ⟨(Nat.le_of_ble_eq_true rfl), (Nat.le_of_ble_eq_true rfl)⟩) rfl rfl (by decide) (by decide) (by decide) (by decide) (fun _ => rfl) 0 rfl rfl rfl hl.1 rfl (Nat.le_of_ble_eq_true rfl) dX3_take_81 ⟨Nat.zero_le _, Nat.zero_le _⟩ (fun r1 u H locs h hP hD hS => ?_)
            obtain ⟨u2, u3, u4, u5⟩ := u
            dsimp only at h
            have hP : va_P D vwCl [(q_this, .inr (3, [.ref q_tenthsIf, .ref q_tenthsWithout, .ref q_conditions, .ref q_tenthsElse, .int size])), (q_tenthsIf, .inl (cI, 6, .inl u2)), (q_tenthsWithout, .inl (cI, 6, .inl u3)), (q_conditions, .inl (cI, 6, .inl u4)), (q_tenthsElse, .inl (cI, 6, .inl u5))] H := hP
            have hD : va_D A [(q_this, .inr (3, [.ref q_tenthsIf, .ref q_tenthsWithout, .ref q_conditions, .ref q_tenthsElse, .int size])), (q_tenthsIf, .inl (cI, 6, .inl u2)), (q_tenthsWithout, .inl (cI, 6, .inl u3)), (q_conditions, .inl (cI, 6, .inl u4)), (q_tenthsElse, .inl (cI, 6, .inl u5))] := hD
            refine lv_goto (tgt := 88) hx hb dX3_take_84 (by decide) ?_
            exact mu_iret (wf := wf_X3_take cI cB cJ cZ q_this q_tenthsIf q_tenthsWithout q_conditions q_tenthsElse size tenthsIf tenthsWithout conditions tenthsElse) (size, u2, u3, u4, u5) hx hb hr hlk hP hD hS h dX3_take_88
      · have h := ite_f c1 h
        by_cases c2 : x1 = 2
        · have h := ite_t c2 h
          refine lv_tableIn (tgt := 67) hx hb dX3_take_12 (by rw [c2]; decide) (by rw [c2]; decide) (by rw [c2]; rfl) (by decide) ?_
          refine lv_iload_n hx hb dX3_take_67 rfl (lv_at hl 2 rfl) ?_
          refine lv_iconst (v := 3) hx hb dX3_take_68 (by decide) ?_
          refine lv_icmp_ne (tgt := 87) hx hb dX3_take_69 (by decide) (fun c1 => ?_) (fun c1 => ?_)
          · have h := ite_t c1 h
            refine lv_iconst (v := (-1)) hx hb dX3_take_87 (by decide) ?_
            exact mu_iret (wf := wf_X3_take cI cB cJ cZ q_this q_tenthsIf q_tenthsWithout q_conditions q_tenthsElse size tenthsIf tenthsWithout conditions tenthsElse) (size, tenthsIf, tenthsWithout, conditions, tenthsElse) hx hb hr hlk hP hD hS h dX3_take_88
          · have h := ite_n c1 h
            refine lv_iload_n hx hb dX3_take_72 rfl (lv_at hl 3 rfl) ?_
            refine lv_bipush (v := 10) hx hb dX3_take_73 (by decide) ?_
            refine lv_icmp_gt (tgt := 87) hx hb dX3_take_75 (by decide) (fun c1 => ?_) (fun c1 => ?_)
            · have h := ite_t c1 h
              refine lv_iconst (v := (-1)) hx hb dX3_take_87 (by decide) ?_
              exact mu_iret (wf := wf_X3_take cI cB cJ cZ q_this q_tenthsIf q_tenthsWithout q_conditions q_tenthsElse size tenthsIf tenthsWithout conditions tenthsElse) (size, tenthsIf, tenthsWithout, conditions, tenthsElse) hx hb hr hlk hP hD hS h dX3_take_88
            · have h := ite_f c1 h
              refine lv_aload_n hx hb dX3_take_78 rfl (lv_at hl 0 rfl) ?_
              refine lv_iload_n hx hb dX3_take_79 rfl (lv_at hl 1 rfl) ?_
              refine lv_iload_n hx hb dX3_take_80 rfl (lv_at hl 3 rfl) ?_
              refine mu_Vi (C := RX3) (As := [.int x1, .int x3]) (rest := []) (wr := []) (wn := (fun u : (Nat → Int32) × (Nat → Int32) × (Nat → Int32) × (Nat → Int32) => [(q_this, .inr (3, [.ref q_tenthsIf, .ref q_tenthsWithout, .ref q_conditions, .ref q_tenthsElse, .int size])), (q_tenthsIf, .inl (cI, 6, .inl u.1)), (q_tenthsWithout, .inl (cI, 6, .inl u.2.1)), (q_conditions, .inl (cI, 6, .inl u.2.2.1)), (q_tenthsElse, .inl (cI, 6, .inl u.2.2.2))])) ⟨hx, hb, hml, hown, hts⟩ hE hP hD hS hA [0, 1, 2, 3, 4] [] [0, 1, 2, 3, 4] (c_X3_takeTenths l D cI cB cJ cZ aK aV N q_this q_tenthsIf q_tenthsWithout q_conditions q_tenthsElse size tenthsIf tenthsWithout conditions tenthsElse x1 x3 H.size h) (cwV 2 hts gX3_take_X3_takeTenths rfl rfl rfl (by decide +kernel) ⟨(Nat.le_of_ble_eq_true rfl), (Nat.le_of_ble_eq_true rfl)⟩) rfl rfl (by decide) (by decide) (by decide) (by decide) (fun _ => rfl) 0 rfl rfl rfl hl.1 rfl (Nat.le_of_ble_eq_true rfl) dX3_take_81 ⟨Nat.zero_le _, Nat.zero_le _⟩ (fun r6 u H locs h hP hD hS => ?_)
              obtain ⟨u7, u8, u9, u10⟩ := u
              dsimp only at h
              have hP : va_P D vwCl [(q_this, .inr (3, [.ref q_tenthsIf, .ref q_tenthsWithout, .ref q_conditions, .ref q_tenthsElse, .int size])), (q_tenthsIf, .inl (cI, 6, .inl u7)), (q_tenthsWithout, .inl (cI, 6, .inl u8)), (q_conditions, .inl (cI, 6, .inl u9)), (q_tenthsElse, .inl (cI, 6, .inl u10))] H := hP
              have hD : va_D A [(q_this, .inr (3, [.ref q_tenthsIf, .ref q_tenthsWithout, .ref q_conditions, .ref q_tenthsElse, .int size])), (q_tenthsIf, .inl (cI, 6, .inl u7)), (q_tenthsWithout, .inl (cI, 6, .inl u8)), (q_conditions, .inl (cI, 6, .inl u9)), (q_tenthsElse, .inl (cI, 6, .inl u10))] := hD
              refine lv_goto (tgt := 88) hx hb dX3_take_84 (by decide) ?_
              exact mu_iret (wf := wf_X3_take cI cB cJ cZ q_this q_tenthsIf q_tenthsWithout q_conditions q_tenthsElse size tenthsIf tenthsWithout conditions tenthsElse) (size, u7, u8, u9, u10) hx hb hr hlk hP hD hS h dX3_take_88
        · have h := ite_f c2 h
          by_cases c3 : x1 = 3
          · have h := ite_t c3 h
            refine lv_tableIn (tgt := 118) hx hb dX3_take_12 (by rw [c3]; decide) (by rw [c3]; decide) (by rw [c3]; rfl) (by decide) ?_
            refine lv_iload_n hx hb dX3_take_118 rfl (lv_at hl 2 rfl) ?_
            refine lv_iconst (v := 5) hx hb dX3_take_119 (by decide) ?_
            refine lv_icmp_ne (tgt := 127) hx hb dX3_take_120 (by decide) (fun c1 => ?_) (fun c1 => ?_)
            · have h := ite_t c1 h
              refine lv_aload_n hx hb dX3_take_127 rfl (lv_at hl 0 rfl) ?_
              refine lv_iload_n hx hb dX3_take_128 rfl (lv_at hl 2 rfl) ?_
              refine mu_Vi (C := RX3) (As := [.int x2]) (rest := []) (wr := [(q_tenthsIf, .inl (cI, 6, .inl tenthsIf)), (q_tenthsWithout, .inl (cI, 6, .inl tenthsWithout)), (q_conditions, .inl (cI, 6, .inl conditions)), (q_tenthsElse, .inl (cI, 6, .inl tenthsElse))]) (wn := (fun u : Int32 => [(q_this, .inr (3, [.ref q_tenthsIf, .ref q_tenthsWithout, .ref q_conditions, .ref q_tenthsElse, .int u])), (q_tenthsIf, .inl (cI, 6, .inl tenthsIf)), (q_tenthsWithout, .inl (cI, 6, .inl tenthsWithout)), (q_conditions, .inl (cI, 6, .inl conditions)), (q_tenthsElse, .inl (cI, 6, .inl tenthsElse))])) ⟨hx, hb, hml, hown, hts⟩ hE hP hD hS hA [0] [1, 2, 3, 4] [4, 0, 1, 2, 3] (c_X3_takeEnd l D cI cB cJ cZ aK aV N q_this q_tenthsIf q_tenthsWithout q_conditions q_tenthsElse size x2 H.size h) (cwV 1 hts gX3_take_X3_takeEnd rfl rfl rfl (by decide +kernel) ⟨(Nat.le_of_ble_eq_true rfl), (Nat.le_of_ble_eq_true rfl)⟩) rfl rfl (by decide) (by decide) (by decide) (by decide) (fun _ => rfl) 0 rfl rfl rfl hl.1 rfl (Nat.le_of_ble_eq_true rfl) dX3_take_129 ⟨Nat.zero_le _, Nat.zero_le _⟩ (fun r11 u12 H locs h hP hD hS => ?_)
              have hP : va_P D vwCl [(q_this, .inr (3, [.ref q_tenthsIf, .ref q_tenthsWithout, .ref q_conditions, .ref q_tenthsElse, .int u12])), (q_tenthsIf, .inl (cI, 6, .inl tenthsIf)), (q_tenthsWithout, .inl (cI, 6, .inl tenthsWithout)), (q_conditions, .inl (cI, 6, .inl conditions)), (q_tenthsElse, .inl (cI, 6, .inl tenthsElse))] H := hP
              have hD : va_D A [(q_this, .inr (3, [.ref q_tenthsIf, .ref q_tenthsWithout, .ref q_conditions, .ref q_tenthsElse, .int u12])), (q_tenthsIf, .inl (cI, 6, .inl tenthsIf)), (q_tenthsWithout, .inl (cI, 6, .inl tenthsWithout)), (q_conditions, .inl (cI, 6, .inl conditions)), (q_tenthsElse, .inl (cI, 6, .inl tenthsElse))] := hD
              exact mu_iret (wf := wf_X3_take cI cB cJ cZ q_this q_tenthsIf q_tenthsWithout q_conditions q_tenthsElse size tenthsIf tenthsWithout conditions tenthsElse) (u12, tenthsIf, tenthsWithout, conditions, tenthsElse) hx hb hr hlk hP hD hS h dX3_take_132
            · have h := ite_n c1 h
              refine lv_iconst (v := 4) hx hb dX3_take_123 (by decide) ?_
              refine lv_goto (tgt := 132) hx hb dX3_take_124 (by decide) ?_
              exact mu_iret (wf := wf_X3_take cI cB cJ cZ q_this q_tenthsIf q_tenthsWithout q_conditions q_tenthsElse size tenthsIf tenthsWithout conditions tenthsElse) (size, tenthsIf, tenthsWithout, conditions, tenthsElse) hx hb hr hlk hP hD hS h dX3_take_132
          · have h := ite_f c3 h
            by_cases c4 : x1 = 4
            · have h := ite_t c4 h
              refine lv_tableIn (tgt := 89) hx hb dX3_take_12 (by rw [c4]; decide) (by rw [c4]; decide) (by rw [c4]; rfl) (by decide) ?_
              refine lv_iload_n hx hb dX3_take_89 rfl (lv_at hl 2 rfl) ?_
              refine lv_bipush (v := 7) hx hb dX3_take_90 (by decide) ?_
              refine lv_icmp_ne (tgt := 103) hx hb dX3_take_92 (by decide) (fun c1 => ?_) (fun c1 => ?_)
              · have h := ite_t c1 h
                refine lv_iconst (v := (-1)) hx hb dX3_take_103 (by decide) ?_
                exact mu_iret (wf := wf_X3_take cI cB cJ cZ q_this q_tenthsIf q_tenthsWithout q_conditions q_tenthsElse size tenthsIf tenthsWithout conditions tenthsElse) (size, tenthsIf, tenthsWithout, conditions, tenthsElse) hx hb hr hlk hP hD hS h dX3_take_104
              · have h := ite_n c1 h
                refine lv_aload_n hx hb dX3_take_95 rfl (lv_at hl 0 rfl) ?_
                refine lv_iload_n hx hb dX3_take_96 rfl (lv_at hl 3 rfl) ?_
                refine mu_Vi (C := RX3) (As := [.int x3]) (rest := []) (wr := [(q_tenthsIf, .inl (cI, 6, .inl tenthsIf)), (q_tenthsWithout, .inl (cI, 6, .inl tenthsWithout)), (q_tenthsElse, .inl (cI, 6, .inl tenthsElse))]) (wn := (fun u : (Nat → Int32) => [(q_this, .inr (3, [.ref q_tenthsIf, .ref q_tenthsWithout, .ref q_conditions, .ref q_tenthsElse, .int size])), (q_tenthsIf, .inl (cI, 6, .inl tenthsIf)), (q_tenthsWithout, .inl (cI, 6, .inl tenthsWithout)), (q_conditions, .inl (cI, 6, .inl u)), (q_tenthsElse, .inl (cI, 6, .inl tenthsElse))])) ⟨hx, hb, hml, hown, hts⟩ hE hP hD hS hA [0, 3] [1, 2, 4] [3, 0, 1, 4, 2] (c_X3_takeConditions l D cI cB cJ cZ aK aV N q_this q_tenthsIf q_tenthsWithout q_conditions q_tenthsElse size conditions x3 H.size h) (cwV 1 hts gX3_take_X3_takeConditions rfl rfl rfl (by decide +kernel) ⟨(Nat.le_of_ble_eq_true rfl), (Nat.le_of_ble_eq_true rfl)⟩) rfl rfl (by decide) (by decide) (by decide) (by decide) (fun _ => rfl) 0 rfl rfl rfl hl.1 rfl (Nat.le_of_ble_eq_true rfl) dX3_take_97 ⟨Nat.zero_le _, Nat.zero_le _⟩ (fun r13 u14 H locs h hP hD hS => ?_)
                have hP : va_P D vwCl [(q_this, .inr (3, [.ref q_tenthsIf, .ref q_tenthsWithout, .ref q_conditions, .ref q_tenthsElse, .int size])), (q_tenthsIf, .inl (cI, 6, .inl tenthsIf)), (q_tenthsWithout, .inl (cI, 6, .inl tenthsWithout)), (q_conditions, .inl (cI, 6, .inl u14)), (q_tenthsElse, .inl (cI, 6, .inl tenthsElse))] H := hP
                have hD : va_D A [(q_this, .inr (3, [.ref q_tenthsIf, .ref q_tenthsWithout, .ref q_conditions, .ref q_tenthsElse, .int size])), (q_tenthsIf, .inl (cI, 6, .inl tenthsIf)), (q_tenthsWithout, .inl (cI, 6, .inl tenthsWithout)), (q_conditions, .inl (cI, 6, .inl u14)), (q_tenthsElse, .inl (cI, 6, .inl tenthsElse))] := hD
                refine lv_goto (tgt := 104) hx hb dX3_take_100 (by decide) ?_
                exact mu_iret (wf := wf_X3_take cI cB cJ cZ q_this q_tenthsIf q_tenthsWithout q_conditions q_tenthsElse size tenthsIf tenthsWithout conditions tenthsElse) (size, tenthsIf, tenthsWithout, u14, tenthsElse) hx hb hr hlk hP hD hS h dX3_take_104
            · have h := ite_f c4 h
              by_cases c5 : x1 = 5
              · have h := ite_t c5 h
                refine lv_tableIn (tgt := 105) hx hb dX3_take_12 (by rw [c5]; decide) (by rw [c5]; decide) (by rw [c5]; rfl) (by decide) ?_
                refine lv_iload_n hx hb dX3_take_105 rfl (lv_at hl 2 rfl) ?_
                refine lv_bipush (v := 6) hx hb dX3_take_106 (by decide) ?_
                refine lv_icmp_ne (tgt := 116) hx hb dX3_take_108 (by decide) (fun c1 => ?_) (fun c1 => ?_)
                · have h := ite_t c1 h
                  refine lv_iconst (v := (-1)) hx hb dX3_take_116 (by decide) ?_
                  exact mu_iret (wf := wf_X3_take cI cB cJ cZ q_this q_tenthsIf q_tenthsWithout q_conditions q_tenthsElse size tenthsIf tenthsWithout conditions tenthsElse) (size, tenthsIf, tenthsWithout, conditions, tenthsElse) hx hb hr hlk hP hD hS h dX3_take_117
                · have h := ite_n c1 h
                  refine lv_bipush (v := 6) hx hb dX3_take_111 (by decide) ?_
                  refine lv_goto (tgt := 117) hx hb dX3_take_113 (by decide) ?_
                  exact mu_iret (wf := wf_X3_take cI cB cJ cZ q_this q_tenthsIf q_tenthsWithout q_conditions q_tenthsElse size tenthsIf tenthsWithout conditions tenthsElse) (size, tenthsIf, tenthsWithout, conditions, tenthsElse) hx hb hr hlk hP hD hS h dX3_take_117
              · have h := ite_f c5 h
                by_cases c6 : x1 = 6
                · have h := ite_t c6 h
                  refine lv_tableIn (tgt := 67) hx hb dX3_take_12 (by rw [c6]; decide) (by rw [c6]; decide) (by rw [c6]; rfl) (by decide) ?_
                  refine lv_iload_n hx hb dX3_take_67 rfl (lv_at hl 2 rfl) ?_
                  refine lv_iconst (v := 3) hx hb dX3_take_68 (by decide) ?_
                  refine lv_icmp_ne (tgt := 87) hx hb dX3_take_69 (by decide) (fun c1 => ?_) (fun c1 => ?_)
                  · have h := ite_t c1 h
                    refine lv_iconst (v := (-1)) hx hb dX3_take_87 (by decide) ?_
                    exact mu_iret (wf := wf_X3_take cI cB cJ cZ q_this q_tenthsIf q_tenthsWithout q_conditions q_tenthsElse size tenthsIf tenthsWithout conditions tenthsElse) (size, tenthsIf, tenthsWithout, conditions, tenthsElse) hx hb hr hlk hP hD hS h dX3_take_88
                  · have h := ite_n c1 h
                    refine lv_iload_n hx hb dX3_take_72 rfl (lv_at hl 3 rfl) ?_
                    refine lv_bipush (v := 10) hx hb dX3_take_73 (by decide) ?_
                    refine lv_icmp_gt (tgt := 87) hx hb dX3_take_75 (by decide) (fun c1 => ?_) (fun c1 => ?_)
                    · have h := ite_t c1 h
                      refine lv_iconst (v := (-1)) hx hb dX3_take_87 (by decide) ?_
                      exact mu_iret (wf := wf_X3_take cI cB cJ cZ q_this q_tenthsIf q_tenthsWithout q_conditions q_tenthsElse size tenthsIf tenthsWithout conditions tenthsElse) (size, tenthsIf, tenthsWithout, conditions, tenthsElse) hx hb hr hlk hP hD hS h dX3_take_88
                    · have h := ite_f c1 h
                      refine lv_aload_n hx hb dX3_take_78 rfl (lv_at hl 0 rfl) ?_
                      refine lv_iload_n hx hb dX3_take_79 rfl (lv_at hl 1 rfl) ?_
                      refine lv_iload_n hx hb dX3_take_80 rfl (lv_at hl 3 rfl) ?_
                      refine mu_Vi (C := RX3) (As := [.int x1, .int x3]) (rest := []) (wr := []) (wn := (fun u : (Nat → Int32) × (Nat → Int32) × (Nat → Int32) × (Nat → Int32) => [(q_this, .inr (3, [.ref q_tenthsIf, .ref q_tenthsWithout, .ref q_conditions, .ref q_tenthsElse, .int size])), (q_tenthsIf, .inl (cI, 6, .inl u.1)), (q_tenthsWithout, .inl (cI, 6, .inl u.2.1)), (q_conditions, .inl (cI, 6, .inl u.2.2.1)), (q_tenthsElse, .inl (cI, 6, .inl u.2.2.2))])) ⟨hx, hb, hml, hown, hts⟩ hE hP hD hS hA [0, 1, 2, 3, 4] [] [0, 1, 2, 3, 4] (c_X3_takeTenths l D cI cB cJ cZ aK aV N q_this q_tenthsIf q_tenthsWithout q_conditions q_tenthsElse size tenthsIf tenthsWithout conditions tenthsElse x1 x3 H.size h) (cwV 2 hts gX3_take_X3_takeTenths rfl rfl rfl (by decide +kernel) ⟨(Nat.le_of_ble_eq_true rfl), (Nat.le_of_ble_eq_true rfl)⟩) rfl rfl (by decide) (by decide) (by decide) (by decide) (fun _ => rfl) 0 rfl rfl rfl hl.1 rfl (Nat.le_of_ble_eq_true rfl) dX3_take_81 ⟨Nat.zero_le _, Nat.zero_le _⟩ (fun r15 u H locs h hP hD hS => ?_)
                      obtain ⟨u16, u17, u18, u19⟩ := u
                      dsimp only at h
                      have hP : va_P D vwCl [(q_this, .inr (3, [.ref q_tenthsIf, .ref q_tenthsWithout, .ref q_conditions, .ref q_tenthsElse, .int size])), (q_tenthsIf, .inl (cI, 6, .inl u16)), (q_tenthsWithout, .inl (cI, 6, .inl u17)), (q_conditions, .inl (cI, 6, .inl u18)), (q_tenthsElse, .inl (cI, 6, .inl u19))] H := hP
                      have hD : va_D A [(q_this, .inr (3, [.ref q_tenthsIf, .ref q_tenthsWithout, .ref q_conditions, .ref q_tenthsElse, .int size])), (q_tenthsIf, .inl (cI, 6, .inl u16)), (q_tenthsWithout, .inl (cI, 6, .inl u17)), (q_conditions, .inl (cI, 6, .inl u18)), (q_tenthsElse, .inl (cI, 6, .inl u19))] := hD
                      refine lv_goto (tgt := 88) hx hb dX3_take_84 (by decide) ?_
                      exact mu_iret (wf := wf_X3_take cI cB cJ cZ q_this q_tenthsIf q_tenthsWithout q_conditions q_tenthsElse size tenthsIf tenthsWithout conditions tenthsElse) (size, u16, u17, u18, u19) hx hb hr hlk hP hD hS h dX3_take_88
                · have h := ite_f c6 h
                  have n0 : x1.toInt ≠ 0 := sw_ne c0
                  have n1 : x1.toInt ≠ 1 := sw_ne c1
                  have n2 : x1.toInt ≠ 2 := sw_ne c2
                  have n3 : x1.toInt ≠ 3 := sw_ne c3
                  have n4 : x1.toInt ≠ 4 := sw_ne c4
                  have n5 : x1.toInt ≠ 5 := sw_ne c5
                  have n6 : x1.toInt ≠ 6 := sw_ne c6
                  refine lv_tableOut (tgt := 133) hx hb dX3_take_12 (by omega) (by decide) ?_
                  refine lv_aload_n hx hb dX3_take_133 rfl (lv_at hl 0 rfl) ?_
                  refine lv_iload_n hx hb dX3_take_134 rfl (lv_at hl 2 rfl) ?_
                  refine mu_Vi (C := RX3) (As := [.int x2]) (rest := []) (wr := [(q_tenthsIf, .inl (cI, 6, .inl tenthsIf)), (q_tenthsWithout, .inl (cI, 6, .inl tenthsWithout)), (q_conditions, .inl (cI, 6, .inl conditions)), (q_tenthsElse, .inl (cI, 6, .inl tenthsElse))]) (wn := (fun u : Int32 => [(q_this, .inr (3, [.ref q_tenthsIf, .ref q_tenthsWithout, .ref q_conditions, .ref q_tenthsElse, .int u])), (q_tenthsIf, .inl (cI, 6, .inl tenthsIf)), (q_tenthsWithout, .inl (cI, 6, .inl tenthsWithout)), (q_conditions, .inl (cI, 6, .inl conditions)), (q_tenthsElse, .inl (cI, 6, .inl tenthsElse))])) ⟨hx, hb, hml, hown, hts⟩ hE hP hD hS hA [0] [1, 2, 3, 4] [4, 0, 1, 2, 3] (c_X3_takeEnd l D cI cB cJ cZ aK aV N q_this q_tenthsIf q_tenthsWithout q_conditions q_tenthsElse size x2 H.size h) (cwV 1 hts gX3_take_X3_takeEnd rfl rfl rfl (by decide +kernel) ⟨(Nat.le_of_ble_eq_true rfl), (Nat.le_of_ble_eq_true rfl)⟩) rfl rfl (by decide) (by decide) (by decide) (by decide) (fun _ => rfl) 0 rfl rfl rfl hl.1 rfl (Nat.le_of_ble_eq_true rfl) dX3_take_135 ⟨Nat.zero_le _, Nat.zero_le _⟩ (fun r20 u21 H locs h hP hD hS => ?_)
                  have hP : va_P D vwCl [(q_this, .inr (3, [.ref q_tenthsIf, .ref q_tenthsWithout, .ref q_conditions, .ref q_tenthsElse, .int u21])), (q_tenthsIf, .inl (cI, 6, .inl tenthsIf)), (q_tenthsWithout, .inl (cI, 6, .inl tenthsWithout)), (q_conditions, .inl (cI, 6, .inl conditions)), (q_tenthsElse, .inl (cI, 6, .inl tenthsElse))] H := hP
                  have hD : va_D A [(q_this, .inr (3, [.ref q_tenthsIf, .ref q_tenthsWithout, .ref q_conditions, .ref q_tenthsElse, .int u21])), (q_tenthsIf, .inl (cI, 6, .inl tenthsIf)), (q_tenthsWithout, .inl (cI, 6, .inl tenthsWithout)), (q_conditions, .inl (cI, 6, .inl conditions)), (q_tenthsElse, .inl (cI, 6, .inl tenthsElse))] := hD
                  exact mu_iret (wf := wf_X3_take cI cB cJ cZ q_this q_tenthsIf q_tenthsWithout q_conditions q_tenthsElse size tenthsIf tenthsWithout conditions tenthsElse) (u21, tenthsIf, tenthsWithout, conditions, tenthsElse) hx hb hr hlk hP hD hS h dX3_take_138
  · have h := ite_f c1 h
    refine lv_iconst (v := (-1)) hx hb dX3_take_9 (by decide) ?_
    exact mu_iret (wf := wf_X3_take cI cB cJ cZ q_this q_tenthsIf q_tenthsWithout q_conditions q_tenthsElse size tenthsIf tenthsWithout conditions tenthsElse) (size, tenthsIf, tenthsWithout, conditions, tenthsElse) hx hb hr hlk hP hD hS h dX3_take_10
set_option maxHeartbeats 4000000 in
set_option maxRecDepth 100000 in
theorem c_X3_tenthsWith (l : Launch) (D : va_G) (cI cB cJ cZ : ClassId) (aK aV : Nat → Nat) (N : Nat) (q_this : Nat) (q_tenthsIf : Nat) (q_tenthsWithout : Nat) (q_conditions : Nat) (q_tenthsElse : Nat) (size : Int32) (tenthsIf : Nat → Int32) (conditions : Nat → Int32) (tenthsElse : Nat → Int32) (x1 : Int32) (x2 : Int32) {post : Int32 → Prop} (h : f_X3_tenthsWith N tenthsIf conditions tenthsElse x1 x2 post) : Met l yX3_tenthsWith wsX3_tenthsWith { frames := 0, cells := 0, slots := 0, locals := 0 } (PR D cI cB cJ cZ aK aV [.ref q_this, .int x1, .int x2] [(q_this, .inr (3, [.ref q_tenthsIf, .ref q_tenthsWithout, .ref q_conditions, .ref q_tenthsElse, .int size])), (q_tenthsIf, .inl (cI, 6, .inl tenthsIf)), (q_conditions, .inl (cI, 6, .inl conditions)), (q_tenthsElse, .inl (cI, 6, .inl tenthsElse))]) (vp_Si post) 0 0 (fun _ => False) := by
  refine ro_enter (cc := cX3_tenthsWith) (maxL := 3) (ret := (some .int)) (by decide) rfl (Nat.le_of_ble_eq_true rfl) ?_
  intro p e s m below meth c C0 hP ls hl
  have hl : lv_has ls 3 [(0, .ref q_this), (1, .int x1), (2, .int x2)] := hl
  unfold f_X3_tenthsWith at h
  obtain ⟨hx, hb, hr, hml, hown, hts, hE, hlk, hnm⟩ := id C0
  have ik3 : ∀ w ∈ u_ws RX3 TX3 5, w ∈ wsX3_tenthsWith := by decide +kernel
  refine lv_iload_n hx hb dX3_tenthsWith_0 rfl (lv_at hl 2 rfl) ?_
  refine lv_aload_n hx hb dX3_tenthsWith_1 rfl (lv_at hl 0 rfl) ?_
  refine va_get (D := D) (ci := 3) (v := .ref q_conditions) (C := RX3) (T := TX3) (N := 5) hx hb hts ik3 hown hE.1.1 hP 0 rfl rfl 2 (by decide) (hts (.fieldLink RX3 18 "FortyHouses$Laws" "conditions" "[I") (by decide +kernel)) (fun _ h9 => h9) rfl dX3_tenthsWith_2 ?_
  refine lv_iload_n hx hb dX3_tenthsWith_5 rfl (lv_at hl 1 rfl) ?_
  obtain ⟨hin, h⟩ := h
  refine va_iald hx hb hE.1.1 hP 2 0 rfl rfl hin dX3_tenthsWith_6 ?_
  refine lv_iand hx hb dX3_tenthsWith_7 ?_
  refine lv_aload_n hx hb dX3_tenthsWith_8 rfl (lv_at hl 0 rfl) ?_
  refine va_get (D := D) (ci := 3) (v := .ref q_conditions) (C := RX3) (T := TX3) (N := 5) hx hb hts ik3 hown hE.1.1 hP 0 rfl rfl 2 (by decide) (hts (.fieldLink RX3 18 "FortyHouses$Laws" "conditions" "[I") (by decide +kernel)) (fun _ h9 => h9) rfl dX3_tenthsWith_9 ?_
  refine lv_iload_n hx hb dX3_tenthsWith_12 rfl (lv_at hl 1 rfl) ?_
  obtain ⟨hin, h⟩ := h
  refine va_iald hx hb hE.1.1 hP 2 0 rfl rfl hin dX3_tenthsWith_13 ?_
  refine lv_icmp_ne (tgt := 26) hx hb dX3_tenthsWith_14 (by decide) (fun c1 => ?_) (fun c1 => ?_)
  · have h := ite_t c1 h
    refine lv_aload_n hx hb dX3_tenthsWith_26 rfl (lv_at hl 0 rfl) ?_
    refine va_get (D := D) (ci := 3) (v := .ref q_tenthsElse) (C := RX3) (T := TX3) (N := 5) hx hb hts ik3 hown hE.1.1 hP 0 rfl rfl 3 (by decide) (hts (.fieldLink RX3 21 "FortyHouses$Laws" "tenthsElse" "[I") (by decide +kernel)) (fun _ h9 => h9) rfl dX3_tenthsWith_27 ?_
    refine lv_iload_n hx hb dX3_tenthsWith_30 rfl (lv_at hl 1 rfl) ?_
    obtain ⟨hin, h⟩ := h
    refine va_iald hx hb hE.1.1 hP 3 0 rfl rfl hin dX3_tenthsWith_31 ?_
    exact ro_iret hx hb hr hlk h dX3_tenthsWith_32
  · have h := ite_n c1 h
    refine lv_aload_n hx hb dX3_tenthsWith_17 rfl (lv_at hl 0 rfl) ?_
    refine va_get (D := D) (ci := 3) (v := .ref q_tenthsIf) (C := RX3) (T := TX3) (N := 5) hx hb hts ik3 hown hE.1.1 hP 0 rfl rfl 0 (by decide) (hts (.fieldLink RX3 11 "FortyHouses$Laws" "tenthsIf" "[I") (by decide +kernel)) (fun _ h9 => h9) rfl dX3_tenthsWith_18 ?_
    refine lv_iload_n hx hb dX3_tenthsWith_21 rfl (lv_at hl 1 rfl) ?_
    obtain ⟨hin, h⟩ := h
    refine va_iald hx hb hE.1.1 hP 1 0 rfl rfl hin dX3_tenthsWith_22 ?_
    refine lv_goto (tgt := 32) hx hb dX3_tenthsWith_23 (by decide) ?_
    exact ro_iret hx hb hr hlk h dX3_tenthsWith_32
set_option maxHeartbeats 4000000 in
set_option maxRecDepth 100000 in
theorem w_X3_misfitOf_B5 (l : Launch) (D : va_G) (cI cB cJ cZ : ClassId) (aK aV : Nat → Nat) (N : Nat) {p : Program} {e : Env} {s : State} {m : MethodId} {below : List Frame} {meth : Method} {c : Code} (q_this : Nat) (q_x2 : Nat) (x1 : Int32) (post : Int32 → Prop) (C0 : Cx p s m meth c ([.ref q_this, .int x1, .ref q_x2] : List Value).toArray cX3_misfitOf 6 yX3_misfitOf.cls yX3_misfitOf.name (some .int) wsX3_misfitOf D cI cB cJ cZ aK aV (fun _ => False)) (q_tenthsIf : Nat) (q_tenthsWithout : Nat) (q_conditions : Nat) (q_tenthsElse : Nat) (q_x2_people : Nat) (q_x2_didWith : Nat) (q_x2_didWithout : Nat) (q_x2_conditions : Nat) (size : Int32) (tenthsIf : Nat → Int32) (tenthsWithout : Nat → Int32) (conditions : Nat → Int32) (tenthsElse : Nat → Int32) (x2_size : Int32) (x2_people : Nat → Int32) (x2_didWith : Nat → Int32) (x2_didWithout : Nat → Int32) (x2_conditions : Nat → Int32) (kb5 : Int32 → Int32 → Prop) (hkb5 : ∀ (i1_ : Int32) (i2_ : Int32), kb5 i1_ i2_ → ∀ ls : Array Slot, lv_has ls 6 [(0, .ref q_this), (1, .int x1), (2, .ref q_x2), (3, .int i1_), (4, .int i2_)] → W p l e { frames := 1, cells := 0, slots := 0, locals := 22 } s m ([.ref q_this, .int x1, .ref q_x2] : List Value).toArray below meth c s.heap [] 0 0 (MQ below (vp_Si post) ([.ref q_this, .int x1, .ref q_x2] : List Value).toArray s 0 0 (fun _ => False)) (F0 m 5 ls [])) (ke5 : Int32 → Int32 → Prop) (hke5 : ∀ (i1_ : Int32) (i2_ : Int32), ke5 i1_ i2_ → ∀ ls : Array Slot, lv_has ls 6 [(3, .int i1_)] → W p l e { frames := 1, cells := 0, slots := 0, locals := 22 } s m ([.ref q_this, .int x1, .ref q_x2] : List Value).toArray below meth c s.heap [] 0 0 (MQ below (vp_Si post) ([.ref q_this, .int x1, .ref q_x2] : List Value).toArray s 0 0 (fun _ => False)) (F0 m 87 ls [])) (i1 : Int32) (i2 : Int32) (h : f_X3_misfitOf_B5 N tenthsIf tenthsWithout conditions tenthsElse x2_size x2_people x2_didWith x2_didWithout x2_conditions x1 kb5 ke5 i1 i2) (hP : va_P D vwCl [(q_this, .inr (3, [.ref q_tenthsIf, .ref q_tenthsWithout, .ref q_conditions, .ref q_tenthsElse, .int size])), (q_tenthsIf, .inl (cI, 6, .inl tenthsIf)), (q_tenthsWithout, .inl (cI, 6, .inl tenthsWithout)), (q_conditions, .inl (cI, 6, .inl conditions)), (q_tenthsElse, .inl (cI, 6, .inl tenthsElse)), (q_x2, .inr (2, [.ref q_x2_people, .ref q_x2_didWith, .ref q_x2_didWithout, .ref q_x2_conditions, .int x2_size])), (q_x2_people, .inl (cI, 12, .inl x2_people)), (q_x2_didWith, .inl (cI, 12, .inl x2_didWith)), (q_x2_didWithout, .inl (cI, 12, .inl x2_didWithout)), (q_x2_conditions, .inl (cI, 12, .inl x2_conditions))] s.heap) (ls : Array Slot) (hl : lv_has ls 6 [(0, .ref q_this), (1, .int x1), (2, .ref q_x2), (3, .int i1), (4, .int i2)]) : W p l e { frames := 1, cells := 0, slots := 0, locals := 22 } s m ([.ref q_this, .int x1, .ref q_x2] : List Value).toArray below meth c s.heap [] 0 0 (MQ below (vp_Si post) ([.ref q_this, .int x1, .ref q_x2] : List Value).toArray s 0 0 (fun _ => False)) (F0 m 5 ls []) := by
  obtain ⟨hx, hb, hr, hml, hown, hts, hE, hlk, hnm⟩ := id C0
  have ik2 : ∀ w ∈ u_ws RX2 TX2 5, w ∈ wsX3_misfitOf := by decide +kernel
  have ik3 : ∀ w ∈ u_ws RX3 TX3 5, w ∈ wsX3_misfitOf := by decide +kernel
  unfold f_X3_misfitOf_B5 at h
  refine lv_iload hx hb dX3_misfitOf_5 (lv_at hl 4 rfl) ?_
  refine lv_aload_n hx hb dX3_misfitOf_7 rfl (lv_at hl 2 rfl) ?_
  refine va_get (D := D) (ci := 2) (v := .int x2_size) (C := RX2) (T := TX2) (N := 5) hx hb hts ik2 hown hE.1.1 hP 5 rfl rfl 4 (by decide) (hts (.fieldLink RX3 41 "FortyHouses$Houses" "size" "I") (by decide +kernel)) (fun _ h9 => h9) rfl dX3_misfitOf_8 ?_
  refine lv_icmp_ge (tgt := 87) hx hb dX3_misfitOf_11 (by decide) (fun c1 => ?_) (fun c1 => ?_)
  · have h := ite_t c1 h
    exact hke5 i1 i2 h ls (lv_sub hl [3] rfl)
  · have h := ite_f c1 h
    refine lv_aload_n hx hb dX3_misfitOf_14 rfl (lv_at hl 2 rfl) ?_
    refine va_get (D := D) (ci := 2) (v := .ref q_x2_people) (C := RX2) (T := TX2) (N := 5) hx hb hts ik2 hown hE.1.1 hP 5 rfl rfl 0 (by decide) (hts (.fieldLink RX3 44 "FortyHouses$Houses" "people" "[I") (by decide +kernel)) (fun _ h9 => h9) rfl dX3_misfitOf_15 ?_
    refine lv_iload hx hb dX3_misfitOf_18 (lv_at hl 4 rfl) ?_
    obtain ⟨hin, h⟩ := h
    refine va_iald hx hb hE.1.1 hP 6 0 rfl rfl hin dX3_misfitOf_20 ?_
    refine lv_topi (fun v3 ex => ?_)
    have h := nm_of ex h
    refine lv_istore (lv' := [(5, .int v3), (0, .ref q_this), (1, .int x1), (2, .ref q_x2), (3, .int i1), (4, .int i2)]) hx hb dX3_misfitOf_21 hl (by decide) rfl (fun ls hl => ?_)
    refine lv_iload_n hx hb dX3_misfitOf_23 rfl (lv_at hl 4 rfl) ?_
    refine lv_bipush (v := 10) hx hb dX3_misfitOf_24 (by decide) ?_
    refine lv_aload_n hx hb dX3_misfitOf_26 rfl (lv_at hl 3 rfl) ?_
    refine va_get (D := D) (ci := 2) (v := .ref q_x2_didWith) (C := RX2) (T := TX2) (N := 5) hx hb hts ik2 hown hE.1.1 hP 5 rfl rfl 1 (by decide) (hts (.fieldLink RX3 47 "FortyHouses$Houses" "didWith" "[I") (by decide +kernel)) (fun _ h9 => h9) rfl dX3_misfitOf_27 ?_
    refine lv_iload hx hb dX3_misfitOf_30 (lv_at hl 5 rfl) ?_
    obtain ⟨hin, h⟩ := h
    refine va_iald hx hb hE.1.1 hP 7 0 rfl rfl hin dX3_misfitOf_32 ?_
    refine lv_imul hx hb dX3_misfitOf_33 ?_
    refine lv_aload_n hx hb dX3_misfitOf_34 rfl (lv_at hl 1 rfl) ?_
    refine lv_iload_n hx hb dX3_misfitOf_35 rfl (lv_at hl 2 rfl) ?_
    refine lv_aload_n hx hb dX3_misfitOf_36 rfl (lv_at hl 3 rfl) ?_
    refine va_get (D := D) (ci := 2) (v := .ref q_x2_conditions) (C := RX2) (T := TX2) (N := 5) hx hb hts ik2 hown hE.1.1 hP 5 rfl rfl 3 (by decide) (hts (.fieldLink RX3 50 "FortyHouses$Houses" "conditions" "[I") (by decide +kernel)) (fun _ h9 => h9) rfl dX3_misfitOf_37 ?_
    refine lv_iload hx hb dX3_misfitOf_40 (lv_at hl 5 rfl) ?_
    obtain ⟨hin, h⟩ := h
    refine va_iald hx hb hE.1.1 hP 9 0 rfl rfl hin dX3_misfitOf_42 ?_
    refine ro_Vi (C := RX3) (As := [.int x1, .int (x2_conditions i2.toNatClampNeg)]) (rest := [.int (10 * (x2_didWith i2.toNatClampNeg)), .int i1]) ⟨hx, hb, hml, hown, hts⟩ hE va_S.rf hP [0, 1, 3, 4] (c_X3_tenthsWith l D cI cB cJ cZ aK aV N q_this q_tenthsIf q_tenthsWithout q_conditions q_tenthsElse size tenthsIf conditions tenthsElse x1 (x2_conditions i2.toNatClampNeg) h) (cwV 2 hts gX3_misfitOf_X3_tenthsWith rfl rfl rfl (by decide +kernel) ⟨(Nat.le_of_ble_eq_true rfl), (Nat.le_of_ble_eq_true rfl)⟩) rfl 0 rfl rfl rfl hl.1 rfl (Nat.le_of_ble_eq_true rfl) dX3_misfitOf_43 ⟨Nat.zero_le _, Nat.zero_le _⟩ (fun r4 h => ?_)
    refine lv_iload hx hb dX3_misfitOf_46 (lv_at hl 0 rfl) ?_
    refine lv_imul hx hb dX3_misfitOf_48 ?_
    refine lv_isub hx hb dX3_misfitOf_49 ?_
    refine va_mabs hx hb (hml.trans hl.1.symm) hown (hts (.methodLink RX3 54 Lib.Math.abs.name) (by decide +kernel)) (hts (.static Lib.Math.abs.name) (by decide +kernel)) (hts (.initialized "java/lang/Math") (by decide +kernel)) (hts (.code Lib.Math.abs.name Lib.Math.abs.code 1 (some .int)) (by decide +kernel)) (Nat.le_of_ble_eq_true rfl) (Nat.le_of_ble_eq_true rfl) (Nat.zero_le _) (Nat.zero_le _) dX3_misfitOf_50 ?_
    refine lv_iadd hx hb dX3_misfitOf_53 ?_
    refine lv_topi (fun v5 ex => ?_)
    have h := nm_of ex h
    refine lv_istore_n (lv' := [(3, .int v5), (5, .int v3), (0, .ref q_this), (1, .int x1), (2, .ref q_x2), (4, .int i2)]) hx hb dX3_misfitOf_54 rfl hl (by decide) rfl (fun ls hl => ?_)
    refine lv_iload_n hx hb dX3_misfitOf_55 rfl (lv_at hl 0 rfl) ?_
    refine lv_bipush (v := 10) hx hb dX3_misfitOf_56 (by decide) ?_
    refine lv_aload_n hx hb dX3_misfitOf_58 rfl (lv_at hl 4 rfl) ?_
    refine va_get (D := D) (ci := 2) (v := .ref q_x2_didWithout) (C := RX2) (T := TX2) (N := 5) hx hb hts ik2 hown hE.1.1 hP 5 rfl rfl 2 (by decide) (hts (.fieldLink RX3 59 "FortyHouses$Houses" "didWithout" "[I") (by decide +kernel)) (fun _ h9 => h9) rfl dX3_misfitOf_59 ?_
    refine lv_iload hx hb dX3_misfitOf_62 (lv_at hl 5 rfl) ?_
    obtain ⟨hin, h⟩ := h
    refine va_iald hx hb hE.1.1 hP 8 0 rfl rfl hin dX3_misfitOf_64 ?_
    refine lv_imul hx hb dX3_misfitOf_65 ?_
    refine lv_aload_n hx hb dX3_misfitOf_66 rfl (lv_at hl 2 rfl) ?_
    refine va_get (D := D) (ci := 3) (v := .ref q_tenthsWithout) (C := RX3) (T := TX3) (N := 5) hx hb hts ik3 hown hE.1.1 hP 0 rfl rfl 1 (by decide) (hts (.fieldLink RX3 15 "FortyHouses$Laws" "tenthsWithout" "[I") (by decide +kernel)) (fun _ h9 => h9) rfl dX3_misfitOf_67 ?_
    refine lv_iload_n hx hb dX3_misfitOf_70 rfl (lv_at hl 3 rfl) ?_
    obtain ⟨hin, h⟩ := h
    refine va_iald hx hb hE.1.1 hP 2 0 rfl rfl hin dX3_misfitOf_71 ?_
    refine lv_iload hx hb dX3_misfitOf_72 (lv_at hl 1 rfl) ?_
    refine lv_imul hx hb dX3_misfitOf_74 ?_
    refine lv_isub hx hb dX3_misfitOf_75 ?_
    refine va_mabs hx hb (hml.trans hl.1.symm) hown (hts (.methodLink RX3 54 Lib.Math.abs.name) (by decide +kernel)) (hts (.static Lib.Math.abs.name) (by decide +kernel)) (hts (.initialized "java/lang/Math") (by decide +kernel)) (hts (.code Lib.Math.abs.name Lib.Math.abs.code 1 (some .int)) (by decide +kernel)) (Nat.le_of_ble_eq_true rfl) (Nat.le_of_ble_eq_true rfl) (Nat.zero_le _) (Nat.zero_le _) dX3_misfitOf_76 ?_
    refine lv_iadd hx hb dX3_misfitOf_79 ?_
    refine lv_topi (fun v6 ex => ?_)
    have h := nm_of ex h
    refine lv_istore_n (lv' := [(3, .int v6), (5, .int v3), (0, .ref q_this), (1, .int x1), (2, .ref q_x2), (4, .int i2)]) hx hb dX3_misfitOf_80 rfl hl (by decide) rfl (fun ls hl => ?_)
    obtain ⟨v7, ex⟩ : ∃ y : Int32, y = (i2 + 1) := ⟨_, rfl⟩
    have h := nm_of ex h
    refine lv_iinc (v := v7) (lv' := [(4, .int v7), (3, .int v6), (5, .int v3), (0, .ref q_this), (1, .int x1), (2, .ref q_x2)]) hx hb dX3_misfitOf_81 hl (k := 5) rfl (by rw [ex]; rfl) (by decide) rfl (fun ls hl => ?_)
    refine lv_goto (tgt := 5) hx hb dX3_misfitOf_84 (by decide) ?_
    exact hkb5 v6 v7 h ls (lv_sub hl [3, 4, 5, 1, 0] rfl)
set_option maxHeartbeats 4000000 in
set_option maxRecDepth 100000 in
theorem w_X3_misfitOf_L5 (l : Launch) (D : va_G) (cI cB cJ cZ : ClassId) (aK aV : Nat → Nat) (N : Nat) {p : Program} {e : Env} {s : State} {m : MethodId} {below : List Frame} {meth : Method} {c : Code} (q_this : Nat) (q_x2 : Nat) (x1 : Int32) (post : Int32 → Prop) (C0 : Cx p s m meth c ([.ref q_this, .int x1, .ref q_x2] : List Value).toArray cX3_misfitOf 6 yX3_misfitOf.cls yX3_misfitOf.name (some .int) wsX3_misfitOf D cI cB cJ cZ aK aV (fun _ => False)) (q_tenthsIf : Nat) (q_tenthsWithout : Nat) (q_conditions : Nat) (q_tenthsElse : Nat) (q_x2_people : Nat) (q_x2_didWith : Nat) (q_x2_didWithout : Nat) (q_x2_conditions : Nat) (size : Int32) (tenthsIf : Nat → Int32) (tenthsWithout : Nat → Int32) (conditions : Nat → Int32) (tenthsElse : Nat → Int32) (x2_size : Int32) (x2_people : Nat → Int32) (x2_didWith : Nat → Int32) (x2_didWithout : Nat → Int32) (x2_conditions : Nat → Int32) (ke5 : Int32 → Int32 → Prop) (hke5 : ∀ (i1_ : Int32) (i2_ : Int32), ke5 i1_ i2_ → ∀ ls : Array Slot, lv_has ls 6 [(3, .int i1_)] → W p l e { frames := 1, cells := 0, slots := 0, locals := 22 } s m ([.ref q_this, .int x1, .ref q_x2] : List Value).toArray below meth c s.heap [] 0 0 (MQ below (vp_Si post) ([.ref q_this, .int x1, .ref q_x2] : List Value).toArray s 0 0 (fun _ => False)) (F0 m 87 ls [])) (hP : va_P D vwCl [(q_this, .inr (3, [.ref q_tenthsIf, .ref q_tenthsWithout, .ref q_conditions, .ref q_tenthsElse, .int size])), (q_tenthsIf, .inl (cI, 6, .inl tenthsIf)), (q_tenthsWithout, .inl (cI, 6, .inl tenthsWithout)), (q_conditions, .inl (cI, 6, .inl conditions)), (q_tenthsElse, .inl (cI, 6, .inl tenthsElse)), (q_x2, .inr (2, [.ref q_x2_people, .ref q_x2_didWith, .ref q_x2_didWithout, .ref q_x2_conditions, .int x2_size])), (q_x2_people, .inl (cI, 12, .inl x2_people)), (q_x2_didWith, .inl (cI, 12, .inl x2_didWith)), (q_x2_didWithout, .inl (cI, 12, .inl x2_didWithout)), (q_x2_conditions, .inl (cI, 12, .inl x2_conditions))] s.heap) : ∀ (n_ : Nat) (i1 : Int32) (i2 : Int32), f_X3_misfitOf_L5 N tenthsIf tenthsWithout conditions tenthsElse x2_size x2_people x2_didWith x2_didWithout x2_conditions x1 ke5 n_ i1 i2 → ∀ ls : Array Slot, lv_has ls 6 [(0, .ref q_this), (1, .int x1), (2, .ref q_x2), (3, .int i1), (4, .int i2)] → W p l e { frames := 1, cells := 0, slots := 0, locals := 22 } s m ([.ref q_this, .int x1, .ref q_x2] : List Value).toArray below meth c s.heap [] 0 0 (MQ below (vp_Si post) ([.ref q_this, .int x1, .ref q_x2] : List Value).toArray s 0 0 (fun _ => False)) (F0 m 5 ls []) := by
  intro n_
  induction n_ with
  | zero => intro i1 i2 h; exact h.elim
  | succ n_ ih =>
    intro i1 i2 h ls hl
    exact w_X3_misfitOf_B5 l D cI cB cJ cZ aK aV N q_this q_x2 x1 post C0 q_tenthsIf q_tenthsWithout q_conditions q_tenthsElse q_x2_people q_x2_didWith q_x2_didWithout q_x2_conditions size tenthsIf tenthsWithout conditions tenthsElse x2_size x2_people x2_didWith x2_didWithout x2_conditions (f_X3_misfitOf_L5 N tenthsIf tenthsWithout conditions tenthsElse x2_size x2_people x2_didWith x2_didWithout x2_conditions x1 ke5 n_) ih ke5 hke5 i1 i2 h hP ls hl
set_option maxHeartbeats 4000000 in
set_option maxRecDepth 100000 in
theorem c_X3_misfitOf (l : Launch) (D : va_G) (cI cB cJ cZ : ClassId) (aK aV : Nat → Nat) (N : Nat) (q_this : Nat) (q_tenthsIf : Nat) (q_tenthsWithout : Nat) (q_conditions : Nat) (q_tenthsElse : Nat) (q_x2 : Nat) (q_x2_people : Nat) (q_x2_didWith : Nat) (q_x2_didWithout : Nat) (q_x2_conditions : Nat) (size : Int32) (tenthsIf : Nat → Int32) (tenthsWithout : Nat → Int32) (conditions : Nat → Int32) (tenthsElse : Nat → Int32) (x2_size : Int32) (x2_people : Nat → Int32) (x2_didWith : Nat → Int32) (x2_didWithout : Nat → Int32) (x2_conditions : Nat → Int32) (x1 : Int32) {post : Int32 → Prop} (h : f_X3_misfitOf N tenthsIf tenthsWithout conditions tenthsElse x2_size x2_people x2_didWith x2_didWithout x2_conditions x1 post) : Met l yX3_misfitOf wsX3_misfitOf { frames := 1, cells := 0, slots := 0, locals := 22 } (PR D cI cB cJ cZ aK aV [.ref q_this, .int x1, .ref q_x2] [(q_this, .inr (3, [.ref q_tenthsIf, .ref q_tenthsWithout, .ref q_conditions, .ref q_tenthsElse, .int size])), (q_tenthsIf, .inl (cI, 6, .inl tenthsIf)), (q_tenthsWithout, .inl (cI, 6, .inl tenthsWithout)), (q_conditions, .inl (cI, 6, .inl conditions)), (q_tenthsElse, .inl (cI, 6, .inl tenthsElse)), (q_x2, .inr (2, [.ref q_x2_people, .ref q_x2_didWith, .ref q_x2_didWithout, .ref q_x2_conditions, .int x2_size])), (q_x2_people, .inl (cI, 12, .inl x2_people)), (q_x2_didWith, .inl (cI, 12, .inl x2_didWith)), (q_x2_didWithout, .inl (cI, 12, .inl x2_didWithout)), (q_x2_conditions, .inl (cI, 12, .inl x2_conditions))]) (vp_Si post) 0 0 (fun _ => False) := by
  refine ro_enter (cc := cX3_misfitOf) (maxL := 6) (ret := (some .int)) (by decide) rfl (Nat.le_of_ble_eq_true rfl) ?_
  intro p e s m below meth c C0 hP ls hl
  have hl : lv_has ls 6 [(0, .ref q_this), (1, .int x1), (2, .ref q_x2)] := hl
  unfold f_X3_misfitOf at h
  obtain ⟨hx, hb, hr, hml, hown, hts, hE, hlk, hnm⟩ := id C0
  have ik2 : ∀ w ∈ u_ws RX2 TX2 5, w ∈ wsX3_misfitOf := by decide +kernel
  have ik3 : ∀ w ∈ u_ws RX3 TX3 5, w ∈ wsX3_misfitOf := by decide +kernel
  refine lv_iconst (v := 0) hx hb dX3_misfitOf_0 (by decide) ?_
  refine lv_istore_n (lv' := [(3, .int 0), (0, .ref q_this), (1, .int x1), (2, .ref q_x2)]) hx hb dX3_misfitOf_1 rfl hl (by decide) rfl (fun ls hl => ?_)
  refine lv_iconst (v := 0) hx hb dX3_misfitOf_2 (by decide) ?_
  refine lv_istore (lv' := [(4, .int 0), (3, .int 0), (0, .ref q_this), (1, .int x1), (2, .ref q_x2)]) hx hb dX3_misfitOf_3 hl (by decide) rfl (fun ls hl => ?_)
  refine w_X3_misfitOf_L5 l D cI cB cJ cZ aK aV N q_this q_x2 x1 post C0 q_tenthsIf q_tenthsWithout q_conditions q_tenthsElse q_x2_people q_x2_didWith q_x2_didWithout q_x2_conditions size tenthsIf tenthsWithout conditions tenthsElse x2_size x2_people x2_didWith x2_didWithout x2_conditions _ (fun o8 o9 h ls hl => ?_) hP N 0 0 h ls (lv_sub hl [2, 3, 4, 1, 0] rfl)
  refine lv_iload_n hx hb dX3_misfitOf_87 rfl (lv_at hl 0 rfl) ?_
  exact ro_iret hx hb hr hlk h dX3_misfitOf_88
set_option maxHeartbeats 4000000 in
set_option maxRecDepth 100000 in
theorem w_X3_closestTo_J42 (l : Launch) (D : va_G) (cI cB cJ cZ : ClassId) (aK aV : Nat → Nat) (N : Nat) {p : Program} {e : Env} {s : State} {m : MethodId} {below : List Frame} {meth : Method} {c : Code} (q_this : Nat) (q_x1 : Nat) (post : Int32 → Prop) (C0 : Cx p s m meth c ([.ref q_this, .ref q_x1] : List Value).toArray cX3_closestTo 6 yX3_closestTo.cls yX3_closestTo.name (some .int) wsX3_closestTo D cI cB cJ cZ aK aV (fun _ => False)) (q_tenthsIf : Nat) (q_tenthsWithout : Nat) (q_conditions : Nat) (q_tenthsElse : Nat) (q_x1_people : Nat) (q_x1_didWith : Nat) (q_x1_didWithout : Nat) (q_x1_conditions : Nat) (size : Int32) (tenthsIf : Nat → Int32) (tenthsWithout : Nat → Int32) (conditions : Nat → Int32) (tenthsElse : Nat → Int32) (x1_size : Int32) (x1_people : Nat → Int32) (x1_didWith : Nat → Int32) (x1_didWithout : Nat → Int32) (x1_conditions : Nat → Int32) (i4 : Int32) (kb12 : Int32 → Int32 → Int32 → Prop) (hkb12 : ∀ (i2_ : Int32) (i3_ : Int32) (i4_ : Int32), kb12 i2_ i3_ i4_ → ∀ ls : Array Slot, lv_has ls 6 [(0, .ref q_this), (1, .ref q_x1), (2, .int i2_), (3, .int i3_), (4, .int i4_)] → W p l e { frames := 2, cells := 0, slots := 0, locals := 47 } s m ([.ref q_this, .ref q_x1] : List Value).toArray below meth c s.heap [] 0 0 (MQ below (vp_Si post) ([.ref q_this, .ref q_x1] : List Value).toArray s 0 0 (fun _ => False)) (F0 m 12 ls [])) (j6 : Int32) (j7 : Int32) (h : f_X3_closestTo_J42 N i4 kb12 j6 j7) (hP : va_P D vwCl [(q_this, .inr (3, [.ref q_tenthsIf, .ref q_tenthsWithout, .ref q_conditions, .ref q_tenthsElse, .int size])), (q_tenthsIf, .inl (cI, 6, .inl tenthsIf)), (q_tenthsWithout, .inl (cI, 6, .inl tenthsWithout)), (q_conditions, .inl (cI, 6, .inl conditions)), (q_tenthsElse, .inl (cI, 6, .inl tenthsElse)), (q_x1, .inr (2, [.ref q_x1_people, .ref q_x1_didWith, .ref q_x1_didWithout, .ref q_x1_conditions, .int x1_size])), (q_x1_people, .inl (cI, 12, .inl x1_people)), (q_x1_didWith, .inl (cI, 12, .inl x1_didWith)), (q_x1_didWithout, .inl (cI, 12, .inl x1_didWithout)), (q_x1_conditions, .inl (cI, 12, .inl x1_conditions))] s.heap) (ls : Array Slot) (hl : lv_has ls 6 [(0, .ref q_this), (1, .ref q_x1), (2, .int j6), (3, .int j7), (4, .int i4)]) : W p l e { frames := 2, cells := 0, slots := 0, locals := 47 } s m ([.ref q_this, .ref q_x1] : List Value).toArray below meth c s.heap [] 0 0 (MQ below (vp_Si post) ([.ref q_this, .ref q_x1] : List Value).toArray s 0 0 (fun _ => False)) (F0 m 42 ls []) := by
  obtain ⟨hx, hb, hr, hml, hown, hts, hE, hlk, hnm⟩ := id C0
  have ik3 : ∀ w ∈ u_ws RX3 TX3 5, w ∈ wsX3_closestTo := by decide +kernel
  unfold f_X3_closestTo_J42 at h
  obtain ⟨v8, ex⟩ : ∃ y : Int32, y = (i4 + 1) := ⟨_, rfl⟩
  have h := nm_of ex h
  refine lv_iinc (v := v8) (lv' := [(4, .int v8), (0, .ref q_this), (1, .ref q_x1), (2, .int j6), (3, .int j7)]) hx hb dX3_closestTo_42 hl (k := 4) rfl (by rw [ex]; rfl) (by decide) rfl (fun ls hl => ?_)
  refine lv_goto (tgt := 12) hx hb dX3_closestTo_45 (by decide) ?_
  exact hkb12 j6 j7 v8 h ls (lv_sub hl [1, 2, 3, 4, 0] rfl)
set_option maxHeartbeats 4000000 in
set_option maxRecDepth 100000 in
theorem w_X3_closestTo_B12 (l : Launch) (D : va_G) (cI cB cJ cZ : ClassId) (aK aV : Nat → Nat) (N : Nat) {p : Program} {e : Env} {s : State} {m : MethodId} {below : List Frame} {meth : Method} {c : Code} (q_this : Nat) (q_x1 : Nat) (post : Int32 → Prop) (C0 : Cx p s m meth c ([.ref q_this, .ref q_x1] : List Value).toArray cX3_closestTo 6 yX3_closestTo.cls yX3_closestTo.name (some .int) wsX3_closestTo D cI cB cJ cZ aK aV (fun _ => False)) (q_tenthsIf : Nat) (q_tenthsWithout : Nat) (q_conditions : Nat) (q_tenthsElse : Nat) (q_x1_people : Nat) (q_x1_didWith : Nat) (q_x1_didWithout : Nat) (q_x1_conditions : Nat) (size : Int32) (tenthsIf : Nat → Int32) (tenthsWithout : Nat → Int32) (conditions : Nat → Int32) (tenthsElse : Nat → Int32) (x1_size : Int32) (x1_people : Nat → Int32) (x1_didWith : Nat → Int32) (x1_didWithout : Nat → Int32) (x1_conditions : Nat → Int32) (kb12 : Int32 → Int32 → Int32 → Prop) (hkb12 : ∀ (i2_ : Int32) (i3_ : Int32) (i4_ : Int32), kb12 i2_ i3_ i4_ → ∀ ls : Array Slot, lv_has ls 6 [(0, .ref q_this), (1, .ref q_x1), (2, .int i2_), (3, .int i3_), (4, .int i4_)] → W p l e { frames := 2, cells := 0, slots := 0, locals := 47 } s m ([.ref q_this, .ref q_x1] : List Value).toArray below meth c s.heap [] 0 0 (MQ below (vp_Si post) ([.ref q_this, .ref q_x1] : List Value).toArray s 0 0 (fun _ => False)) (F0 m 12 ls [])) (ke12 : Int32 → Int32 → Int32 → Prop) (hke12 : ∀ (i2_ : Int32) (i3_ : Int32) (i4_ : Int32), ke12 i2_ i3_ i4_ → ∀ ls : Array Slot, lv_has ls 6 [(2, .int i2_)] → W p l e { frames := 2, cells := 0, slots := 0, locals := 47 } s m ([.ref q_this, .ref q_x1] : List Value).toArray below meth c s.heap [] 0 0 (MQ below (vp_Si post) ([.ref q_this, .ref q_x1] : List Value).toArray s 0 0 (fun _ => False)) (F0 m 48 ls [])) (i2 : Int32) (i3 : Int32) (i4 : Int32) (h : f_X3_closestTo_B12 N size tenthsIf tenthsWithout conditions tenthsElse x1_size x1_people x1_didWith x1_didWithout x1_conditions kb12 ke12 i2 i3 i4) (hP : va_P D vwCl [(q_this, .inr (3, [.ref q_tenthsIf, .ref q_tenthsWithout, .ref q_conditions, .ref q_tenthsElse, .int size])), (q_tenthsIf, .inl (cI, 6, .inl tenthsIf)), (q_tenthsWithout, .inl (cI, 6, .inl tenthsWithout)), (q_conditions, .inl (cI, 6, .inl conditions)), (q_tenthsElse, .inl (cI, 6, .inl tenthsElse)), (q_x1, .inr (2, [.ref q_x1_people, .ref q_x1_didWith, .ref q_x1_didWithout, .ref q_x1_conditions, .int x1_size])), (q_x1_people, .inl (cI, 12, .inl x1_people)), (q_x1_didWith, .inl (cI, 12, .inl x1_didWith)), (q_x1_didWithout, .inl (cI, 12, .inl x1_didWithout)), (q_x1_conditions, .inl (cI, 12, .inl x1_conditions))] s.heap) (ls : Array Slot) (hl : lv_has ls 6 [(0, .ref q_this), (1, .ref q_x1), (2, .int i2), (3, .int i3), (4, .int i4)]) : W p l e { frames := 2, cells := 0, slots := 0, locals := 47 } s m ([.ref q_this, .ref q_x1] : List Value).toArray below meth c s.heap [] 0 0 (MQ below (vp_Si post) ([.ref q_this, .ref q_x1] : List Value).toArray s 0 0 (fun _ => False)) (F0 m 12 ls []) := by
  obtain ⟨hx, hb, hr, hml, hown, hts, hE, hlk, hnm⟩ := id C0
  have ik3 : ∀ w ∈ u_ws RX3 TX3 5, w ∈ wsX3_closestTo := by decide +kernel
  unfold f_X3_closestTo_B12 at h
  refine lv_iload hx hb dX3_closestTo_12 (lv_at hl 4 rfl) ?_
  refine lv_aload_n hx hb dX3_closestTo_14 rfl (lv_at hl 0 rfl) ?_
  refine va_get (D := D) (ci := 3) (v := .int size) (C := RX3) (T := TX3) (N := 5) hx hb hts ik3 hown hE.1.1 hP 0 rfl rfl 4 (by decide) (hts (.fieldLink RX3 24 "FortyHouses$Laws" "size" "I") (by decide +kernel)) (fun _ h9 => h9) rfl dX3_closestTo_15 ?_
  refine lv_icmp_ge (tgt := 48) hx hb dX3_closestTo_18 (by decide) (fun c1 => ?_) (fun c1 => ?_)
  · have h := ite_t c1 h
    exact hke12 i2 i3 i4 h ls (lv_sub hl [2] rfl)
  · have h := ite_f c1 h
    refine lv_aload_n hx hb dX3_closestTo_21 rfl (lv_at hl 0 rfl) ?_
    refine lv_iload hx hb dX3_closestTo_22 (lv_at hl 4 rfl) ?_
    refine lv_aload_n hx hb dX3_closestTo_24 rfl (lv_at hl 1 rfl) ?_
    refine ro_Vi (C := RX3) (As := [.int i4, .ref q_x1]) (rest := []) ⟨hx, hb, hml, hown, hts⟩ hE va_S.rf hP [0, 1, 2, 3, 4, 5, 6, 7, 8, 9] (c_X3_misfitOf l D cI cB cJ cZ aK aV N q_this q_tenthsIf q_tenthsWithout q_conditions q_tenthsElse q_x1 q_x1_people q_x1_didWith q_x1_didWithout q_x1_conditions size tenthsIf tenthsWithout conditions tenthsElse x1_size x1_people x1_didWith x1_didWithout x1_conditions i4 h) (cwV 2 hts gX3_closestTo_X3_misfitOf rfl rfl rfl (by decide +kernel) ⟨(Nat.le_of_ble_eq_true rfl), (Nat.le_of_ble_eq_true rfl)⟩) rfl 0 rfl rfl rfl hl.1 rfl (Nat.le_of_ble_eq_true rfl) dX3_closestTo_25 ⟨Nat.zero_le _, Nat.zero_le _⟩ (fun r5 h => ?_)
    refine lv_istore (lv' := [(5, .int r5), (0, .ref q_this), (1, .ref q_x1), (2, .int i2), (3, .int i3), (4, .int i4)]) hx hb dX3_closestTo_28 hl (by decide) rfl (fun ls hl => ?_)
    refine lv_iload hx hb dX3_closestTo_30 (lv_at hl 0 rfl) ?_
    refine lv_iload_n hx hb dX3_closestTo_32 rfl (lv_at hl 4 rfl) ?_
    refine lv_icmp_ge (tgt := 42) hx hb dX3_closestTo_33 (by decide) (fun c1 => ?_) (fun c1 => ?_)
    · have h := ite_t c1 h
      exact w_X3_closestTo_J42 l D cI cB cJ cZ aK aV N q_this q_x1 post C0 q_tenthsIf q_tenthsWithout q_conditions q_tenthsElse q_x1_people q_x1_didWith q_x1_didWithout q_x1_conditions size tenthsIf tenthsWithout conditions tenthsElse x1_size x1_people x1_didWith x1_didWithout x1_conditions i4 kb12 hkb12 i2 i3 h hP ls (lv_sub hl [1, 2, 3, 4, 5] rfl)
    · have h := ite_f c1 h
      refine lv_iload hx hb dX3_closestTo_36 (lv_at hl 5 rfl) ?_
      refine lv_istore_n (lv' := [(2, .int i4), (5, .int r5), (0, .ref q_this), (1, .ref q_x1), (3, .int i3), (4, .int i4)]) hx hb dX3_closestTo_38 rfl hl (by decide) rfl (fun ls hl => ?_)
      refine lv_iload hx hb dX3_closestTo_39 (lv_at hl 1 rfl) ?_
      refine lv_istore_n (lv' := [(3, .int r5), (2, .int i4), (5, .int r5), (0, .ref q_this), (1, .ref q_x1), (4, .int i4)]) hx hb dX3_closestTo_41 rfl hl (by decide) rfl (fun ls hl => ?_)
      exact w_X3_closestTo_J42 l D cI cB cJ cZ aK aV N q_this q_x1 post C0 q_tenthsIf q_tenthsWithout q_conditions q_tenthsElse q_x1_people q_x1_didWith q_x1_didWithout q_x1_conditions size tenthsIf tenthsWithout conditions tenthsElse x1_size x1_people x1_didWith x1_didWithout x1_conditions i4 kb12 hkb12 i4 r5 h hP ls (lv_sub hl [3, 4, 1, 0, 5] rfl)
set_option maxHeartbeats 4000000 in
set_option maxRecDepth 100000 in
theorem w_X3_closestTo_L12 (l : Launch) (D : va_G) (cI cB cJ cZ : ClassId) (aK aV : Nat → Nat) (N : Nat) {p : Program} {e : Env} {s : State} {m : MethodId} {below : List Frame} {meth : Method} {c : Code} (q_this : Nat) (q_x1 : Nat) (post : Int32 → Prop) (C0 : Cx p s m meth c ([.ref q_this, .ref q_x1] : List Value).toArray cX3_closestTo 6 yX3_closestTo.cls yX3_closestTo.name (some .int) wsX3_closestTo D cI cB cJ cZ aK aV (fun _ => False)) (q_tenthsIf : Nat) (q_tenthsWithout : Nat) (q_conditions : Nat) (q_tenthsElse : Nat) (q_x1_people : Nat) (q_x1_didWith : Nat) (q_x1_didWithout : Nat) (q_x1_conditions : Nat) (size : Int32) (tenthsIf : Nat → Int32) (tenthsWithout : Nat → Int32) (conditions : Nat → Int32) (tenthsElse : Nat → Int32) (x1_size : Int32) (x1_people : Nat → Int32) (x1_didWith : Nat → Int32) (x1_didWithout : Nat → Int32) (x1_conditions : Nat → Int32) (ke12 : Int32 → Int32 → Int32 → Prop) (hke12 : ∀ (i2_ : Int32) (i3_ : Int32) (i4_ : Int32), ke12 i2_ i3_ i4_ → ∀ ls : Array Slot, lv_has ls 6 [(2, .int i2_)] → W p l e { frames := 2, cells := 0, slots := 0, locals := 47 } s m ([.ref q_this, .ref q_x1] : List Value).toArray below meth c s.heap [] 0 0 (MQ below (vp_Si post) ([.ref q_this, .ref q_x1] : List Value).toArray s 0 0 (fun _ => False)) (F0 m 48 ls [])) (hP : va_P D vwCl [(q_this, .inr (3, [.ref q_tenthsIf, .ref q_tenthsWithout, .ref q_conditions, .ref q_tenthsElse, .int size])), (q_tenthsIf, .inl (cI, 6, .inl tenthsIf)), (q_tenthsWithout, .inl (cI, 6, .inl tenthsWithout)), (q_conditions, .inl (cI, 6, .inl conditions)), (q_tenthsElse, .inl (cI, 6, .inl tenthsElse)), (q_x1, .inr (2, [.ref q_x1_people, .ref q_x1_didWith, .ref q_x1_didWithout, .ref q_x1_conditions, .int x1_size])), (q_x1_people, .inl (cI, 12, .inl x1_people)), (q_x1_didWith, .inl (cI, 12, .inl x1_didWith)), (q_x1_didWithout, .inl (cI, 12, .inl x1_didWithout)), (q_x1_conditions, .inl (cI, 12, .inl x1_conditions))] s.heap) : ∀ (n_ : Nat) (i2 : Int32) (i3 : Int32) (i4 : Int32), f_X3_closestTo_L12 N size tenthsIf tenthsWithout conditions tenthsElse x1_size x1_people x1_didWith x1_didWithout x1_conditions ke12 n_ i2 i3 i4 → ∀ ls : Array Slot, lv_has ls 6 [(0, .ref q_this), (1, .ref q_x1), (2, .int i2), (3, .int i3), (4, .int i4)] → W p l e { frames := 2, cells := 0, slots := 0, locals := 47 } s m ([.ref q_this, .ref q_x1] : List Value).toArray below meth c s.heap [] 0 0 (MQ below (vp_Si post) ([.ref q_this, .ref q_x1] : List Value).toArray s 0 0 (fun _ => False)) (F0 m 12 ls []) := by
  intro n_
  induction n_ with
  | zero => intro i2 i3 i4 h; exact h.elim
  | succ n_ ih =>
    intro i2 i3 i4 h ls hl
    exact w_X3_closestTo_B12 l D cI cB cJ cZ aK aV N q_this q_x1 post C0 q_tenthsIf q_tenthsWithout q_conditions q_tenthsElse q_x1_people q_x1_didWith q_x1_didWithout q_x1_conditions size tenthsIf tenthsWithout conditions tenthsElse x1_size x1_people x1_didWith x1_didWithout x1_conditions (f_X3_closestTo_L12 N size tenthsIf tenthsWithout conditions tenthsElse x1_size x1_people x1_didWith x1_didWithout x1_conditions ke12 n_) ih ke12 hke12 i2 i3 i4 h hP ls hl
set_option maxHeartbeats 4000000 in
set_option maxRecDepth 100000 in
theorem c_X3_closestTo (l : Launch) (D : va_G) (cI cB cJ cZ : ClassId) (aK aV : Nat → Nat) (N : Nat) (q_this : Nat) (q_tenthsIf : Nat) (q_tenthsWithout : Nat) (q_conditions : Nat) (q_tenthsElse : Nat) (q_x1 : Nat) (q_x1_people : Nat) (q_x1_didWith : Nat) (q_x1_didWithout : Nat) (q_x1_conditions : Nat) (size : Int32) (tenthsIf : Nat → Int32) (tenthsWithout : Nat → Int32) (conditions : Nat → Int32) (tenthsElse : Nat → Int32) (x1_size : Int32) (x1_people : Nat → Int32) (x1_didWith : Nat → Int32) (x1_didWithout : Nat → Int32) (x1_conditions : Nat → Int32) {post : Int32 → Prop} (h : f_X3_closestTo N size tenthsIf tenthsWithout conditions tenthsElse x1_size x1_people x1_didWith x1_didWithout x1_conditions post) : Met l yX3_closestTo wsX3_closestTo { frames := 2, cells := 0, slots := 0, locals := 47 } (PR D cI cB cJ cZ aK aV [.ref q_this, .ref q_x1] [(q_this, .inr (3, [.ref q_tenthsIf, .ref q_tenthsWithout, .ref q_conditions, .ref q_tenthsElse, .int size])), (q_tenthsIf, .inl (cI, 6, .inl tenthsIf)), (q_tenthsWithout, .inl (cI, 6, .inl tenthsWithout)), (q_conditions, .inl (cI, 6, .inl conditions)), (q_tenthsElse, .inl (cI, 6, .inl tenthsElse)), (q_x1, .inr (2, [.ref q_x1_people, .ref q_x1_didWith, .ref q_x1_didWithout, .ref q_x1_conditions, .int x1_size])), (q_x1_people, .inl (cI, 12, .inl x1_people)), (q_x1_didWith, .inl (cI, 12, .inl x1_didWith)), (q_x1_didWithout, .inl (cI, 12, .inl x1_didWithout)), (q_x1_conditions, .inl (cI, 12, .inl x1_conditions))]) (vp_Si post) 0 0 (fun _ => False) := by
  refine ro_enter (cc := cX3_closestTo) (maxL := 6) (ret := (some .int)) (by decide) rfl (Nat.le_of_ble_eq_true rfl) ?_
  intro p e s m below meth c C0 hP ls hl
  have hl : lv_has ls 6 [(0, .ref q_this), (1, .ref q_x1)] := hl
  unfold f_X3_closestTo at h
  obtain ⟨hx, hb, hr, hml, hown, hts, hE, hlk, hnm⟩ := id C0
  have ik3 : ∀ w ∈ u_ws RX3 TX3 5, w ∈ wsX3_closestTo := by decide +kernel
  refine lv_iconst (v := 0) hx hb dX3_closestTo_0 (by decide) ?_
  refine lv_istore_n (lv' := [(2, .int 0), (0, .ref q_this), (1, .ref q_x1)]) hx hb dX3_closestTo_1 rfl hl (by decide) rfl (fun ls hl => ?_)
  refine lv_aload_n hx hb dX3_closestTo_2 rfl (lv_at hl 1 rfl) ?_
  refine lv_iconst (v := 0) hx hb dX3_closestTo_3 (by decide) ?_
  refine lv_aload_n hx hb dX3_closestTo_4 rfl (lv_at hl 2 rfl) ?_
  refine ro_Vi (C := RX3) (As := [.int 0, .ref q_x1]) (rest := []) ⟨hx, hb, hml, hown, hts⟩ hE va_S.rf hP [0, 1, 2, 3, 4, 5, 6, 7, 8, 9] (c_X3_misfitOf l D cI cB cJ cZ aK aV N q_this q_tenthsIf q_tenthsWithout q_conditions q_tenthsElse q_x1 q_x1_people q_x1_didWith q_x1_didWithout q_x1_conditions size tenthsIf tenthsWithout conditions tenthsElse x1_size x1_people x1_didWith x1_didWithout x1_conditions 0 h) (cwV 2 hts gX3_closestTo_X3_misfitOf rfl rfl rfl (by decide +kernel) ⟨(Nat.le_of_ble_eq_true rfl), (Nat.le_of_ble_eq_true rfl)⟩) rfl 0 rfl rfl rfl hl.1 rfl (Nat.le_of_ble_eq_true rfl) dX3_closestTo_5 ⟨Nat.zero_le _, Nat.zero_le _⟩ (fun r1 h => ?_)
  refine lv_istore_n (lv' := [(3, .int r1), (2, .int 0), (0, .ref q_this), (1, .ref q_x1)]) hx hb dX3_closestTo_8 rfl hl (by decide) rfl (fun ls hl => ?_)
  refine lv_iconst (v := 1) hx hb dX3_closestTo_9 (by decide) ?_
  refine lv_istore (lv' := [(4, .int 1), (3, .int r1), (2, .int 0), (0, .ref q_this), (1, .ref q_x1)]) hx hb dX3_closestTo_10 hl (by decide) rfl (fun ls hl => ?_)
  refine w_X3_closestTo_L12 l D cI cB cJ cZ aK aV N q_this q_x1 post C0 q_tenthsIf q_tenthsWithout q_conditions q_tenthsElse q_x1_people q_x1_didWith q_x1_didWithout q_x1_conditions size tenthsIf tenthsWithout conditions tenthsElse x1_size x1_people x1_didWith x1_didWithout x1_conditions _ (fun o9 o10 o11 h ls hl => ?_) hP N 0 r1 1 h ls (lv_sub hl [3, 4, 2, 1, 0] rfl)
  refine lv_iload_n hx hb dX3_closestTo_48 rfl (lv_at hl 0 rfl) ?_
  exact ro_iret hx hb hr hlk h dX3_closestTo_49
set_option maxHeartbeats 4000000 in
set_option maxRecDepth 100000 in
theorem w_X3_possible_J48 (l : Launch) (D : va_G) (cI cB cJ cZ : ClassId) (aK aV : Nat → Nat) (N : Nat) {p : Program} {e : Env} {s : State} {m : MethodId} {below : List Frame} {meth : Method} {c : Code} (q_this : Nat) (q_x1 : Nat) (x2 : Int32) (post : Int32 → Prop) (C0 : Cx p s m meth c ([.ref q_this, .ref q_x1, .int x2] : List Value).toArray cX3_possible 6 yX3_possible.cls yX3_possible.name (some .int) wsX3_possible D cI cB cJ cZ aK aV (fun _ => False)) (q_tenthsIf : Nat) (q_tenthsWithout : Nat) (q_conditions : Nat) (q_tenthsElse : Nat) (q_x1_people : Nat) (q_x1_didWith : Nat) (q_x1_didWithout : Nat) (q_x1_conditions : Nat) (size : Int32) (tenthsIf : Nat → Int32) (tenthsWithout : Nat → Int32) (conditions : Nat → Int32) (tenthsElse : Nat → Int32) (x1_size : Int32) (x1_people : Nat → Int32) (x1_didWith : Nat → Int32) (x1_didWithout : Nat → Int32) (x1_conditions : Nat → Int32) (v3 : Int32) (i5 : Int32) (kb19 : Int32 → Int32 → Prop) (hkb19 : ∀ (i4_ : Int32) (i5_ : Int32), kb19 i4_ i5_ → ∀ ls : Array Slot, lv_has ls 6 [(0, .ref q_this), (1, .ref q_x1), (3, .int v3), (4, .int i4_), (5, .int i5_)] → W p l e { frames := 3, cells := 0, slots := 0, locals := 72 } s m ([.ref q_this, .ref q_x1, .int x2] : List Value).toArray below meth c s.heap [] 0 0 (MQ below (vp_Si post) ([.ref q_this, .ref q_x1, .int x2] : List Value).toArray s 0 0 (fun _ => False)) (F0 m 19 ls [])) (j7 : Int32) (h : f_X3_possible_J48 N i5 kb19 j7) (hP : va_P D vwCl [(q_this, .inr (3, [.ref q_tenthsIf, .ref q_tenthsWithout, .ref q_conditions, .ref q_tenthsElse, .int size])), (q_tenthsIf, .inl (cI, 6, .inl tenthsIf)), (q_tenthsWithout, .inl (cI, 6, .inl tenthsWithout)), (q_conditions, .inl (cI, 6, .inl conditions)), (q_tenthsElse, .inl (cI, 6, .inl tenthsElse)), (q_x1, .inr (2, [.ref q_x1_people, .ref q_x1_didWith, .ref q_x1_didWithout, .ref q_x1_conditions, .int x1_size])), (q_x1_people, .inl (cI, 12, .inl x1_people)), (q_x1_didWith, .inl (cI, 12, .inl x1_didWith)), (q_x1_didWithout, .inl (cI, 12, .inl x1_didWithout)), (q_x1_conditions, .inl (cI, 12, .inl x1_conditions))] s.heap) (ls : Array Slot) (hl : lv_has ls 6 [(0, .ref q_this), (1, .ref q_x1), (3, .int v3), (4, .int j7), (5, .int i5)]) : W p l e { frames := 3, cells := 0, slots := 0, locals := 72 } s m ([.ref q_this, .ref q_x1, .int x2] : List Value).toArray below meth c s.heap [] 0 0 (MQ below (vp_Si post) ([.ref q_this, .ref q_x1, .int x2] : List Value).toArray s 0 0 (fun _ => False)) (F0 m 48 ls []) := by
  obtain ⟨hx, hb, hr, hml, hown, hts, hE, hlk, hnm⟩ := id C0
  have ik3 : ∀ w ∈ u_ws RX3 TX3 5, w ∈ wsX3_possible := by decide +kernel
  unfold f_X3_possible_J48 at h
  obtain ⟨v8, ex⟩ : ∃ y : Int32, y = (i5 + 1) := ⟨_, rfl⟩
  have h := nm_of ex h
  refine lv_iinc (v := v8) (lv' := [(5, .int v8), (0, .ref q_this), (1, .ref q_x1), (3, .int v3), (4, .int j7)]) hx hb dX3_possible_48 hl (k := 4) rfl (by rw [ex]; rfl) (by decide) rfl (fun ls hl => ?_)
  refine lv_goto (tgt := 19) hx hb dX3_possible_51 (by decide) ?_
  exact hkb19 j7 v8 h ls (lv_sub hl [1, 2, 3, 4, 0] rfl)
set_option maxHeartbeats 4000000 in
set_option maxRecDepth 100000 in
theorem w_X3_possible_B19 (l : Launch) (D : va_G) (cI cB cJ cZ : ClassId) (aK aV : Nat → Nat) (N : Nat) {p : Program} {e : Env} {s : State} {m : MethodId} {below : List Frame} {meth : Method} {c : Code} (q_this : Nat) (q_x1 : Nat) (x2 : Int32) (post : Int32 → Prop) (C0 : Cx p s m meth c ([.ref q_this, .ref q_x1, .int x2] : List Value).toArray cX3_possible 6 yX3_possible.cls yX3_possible.name (some .int) wsX3_possible D cI cB cJ cZ aK aV (fun _ => False)) (q_tenthsIf : Nat) (q_tenthsWithout : Nat) (q_conditions : Nat) (q_tenthsElse : Nat) (q_x1_people : Nat) (q_x1_didWith : Nat) (q_x1_didWithout : Nat) (q_x1_conditions : Nat) (size : Int32) (tenthsIf : Nat → Int32) (tenthsWithout : Nat → Int32) (conditions : Nat → Int32) (tenthsElse : Nat → Int32) (x1_size : Int32) (x1_people : Nat → Int32) (x1_didWith : Nat → Int32) (x1_didWithout : Nat → Int32) (x1_conditions : Nat → Int32) (v3 : Int32) (kb19 : Int32 → Int32 → Prop) (hkb19 : ∀ (i4_ : Int32) (i5_ : Int32), kb19 i4_ i5_ → ∀ ls : Array Slot, lv_has ls 6 [(0, .ref q_this), (1, .ref q_x1), (3, .int v3), (4, .int i4_), (5, .int i5_)] → W p l e { frames := 3, cells := 0, slots := 0, locals := 72 } s m ([.ref q_this, .ref q_x1, .int x2] : List Value).toArray below meth c s.heap [] 0 0 (MQ below (vp_Si post) ([.ref q_this, .ref q_x1, .int x2] : List Value).toArray s 0 0 (fun _ => False)) (F0 m 19 ls [])) (ke19 : Int32 → Int32 → Prop) (hke19 : ∀ (i4_ : Int32) (i5_ : Int32), ke19 i4_ i5_ → ∀ ls : Array Slot, lv_has ls 6 [(4, .int i4_)] → W p l e { frames := 3, cells := 0, slots := 0, locals := 72 } s m ([.ref q_this, .ref q_x1, .int x2] : List Value).toArray below meth c s.heap [] 0 0 (MQ below (vp_Si post) ([.ref q_this, .ref q_x1, .int x2] : List Value).toArray s 0 0 (fun _ => False)) (F0 m 54 ls [])) (i4 : Int32) (i5 : Int32) (h : f_X3_possible_B19 N size tenthsIf tenthsWithout conditions tenthsElse x1_size x1_people x1_didWith x1_didWithout x1_conditions v3 kb19 ke19 i4 i5) (hP : va_P D vwCl [(q_this, .inr (3, [.ref q_tenthsIf, .ref q_tenthsWithout, .ref q_conditions, .ref q_tenthsElse, .int size])), (q_tenthsIf, .inl (cI, 6, .inl tenthsIf)), (q_tenthsWithout, .inl (cI, 6, .inl tenthsWithout)), (q_conditions, .inl (cI, 6, .inl conditions)), (q_tenthsElse, .inl (cI, 6, .inl tenthsElse)), (q_x1, .inr (2, [.ref q_x1_people, .ref q_x1_didWith, .ref q_x1_didWithout, .ref q_x1_conditions, .int x1_size])), (q_x1_people, .inl (cI, 12, .inl x1_people)), (q_x1_didWith, .inl (cI, 12, .inl x1_didWith)), (q_x1_didWithout, .inl (cI, 12, .inl x1_didWithout)), (q_x1_conditions, .inl (cI, 12, .inl x1_conditions))] s.heap) (ls : Array Slot) (hl : lv_has ls 6 [(0, .ref q_this), (1, .ref q_x1), (3, .int v3), (4, .int i4), (5, .int i5)]) : W p l e { frames := 3, cells := 0, slots := 0, locals := 72 } s m ([.ref q_this, .ref q_x1, .int x2] : List Value).toArray below meth c s.heap [] 0 0 (MQ below (vp_Si post) ([.ref q_this, .ref q_x1, .int x2] : List Value).toArray s 0 0 (fun _ => False)) (F0 m 19 ls []) := by
  obtain ⟨hx, hb, hr, hml, hown, hts, hE, hlk, hnm⟩ := id C0
  have ik3 : ∀ w ∈ u_ws RX3 TX3 5, w ∈ wsX3_possible := by decide +kernel
  unfold f_X3_possible_B19 at h
  refine lv_iload hx hb dX3_possible_19 (lv_at hl 4 rfl) ?_
  refine lv_aload_n hx hb dX3_possible_21 rfl (lv_at hl 0 rfl) ?_
  refine va_get (D := D) (ci := 3) (v := .int size) (C := RX3) (T := TX3) (N := 5) hx hb hts ik3 hown hE.1.1 hP 0 rfl rfl 4 (by decide) (hts (.fieldLink RX3 24 "FortyHouses$Laws" "size" "I") (by decide +kernel)) (fun _ h9 => h9) rfl dX3_possible_22 ?_
  refine lv_icmp_ge (tgt := 54) hx hb dX3_possible_25 (by decide) (fun c1 => ?_) (fun c1 => ?_)
  · have h := ite_t c1 h
    exact hke19 i4 i5 h ls (lv_sub hl [3] rfl)
  · have h := ite_f c1 h
    refine lv_aload_n hx hb dX3_possible_28 rfl (lv_at hl 0 rfl) ?_
    refine lv_iload hx hb dX3_possible_29 (lv_at hl 4 rfl) ?_
    refine lv_aload_n hx hb dX3_possible_31 rfl (lv_at hl 1 rfl) ?_
    refine ro_Vi (C := RX3) (As := [.int i5, .ref q_x1]) (rest := []) ⟨hx, hb, hml, hown, hts⟩ hE va_S.rf hP [0, 1, 2, 3, 4, 5, 6, 7, 8, 9] (c_X3_misfitOf l D cI cB cJ cZ aK aV N q_this q_tenthsIf q_tenthsWithout q_conditions q_tenthsElse q_x1 q_x1_people q_x1_didWith q_x1_didWithout q_x1_conditions size tenthsIf tenthsWithout conditions tenthsElse x1_size x1_people x1_didWith x1_didWithout x1_conditions i5 h) (cwV 2 hts gX3_possible_X3_misfitOf rfl rfl rfl (by decide +kernel) ⟨(Nat.le_of_ble_eq_true rfl), (Nat.le_of_ble_eq_true rfl)⟩) rfl 0 rfl rfl rfl hl.1 rfl (Nat.le_of_ble_eq_true rfl) dX3_possible_32 ⟨Nat.zero_le _, Nat.zero_le _⟩ (fun r6 h => ?_)
    refine lv_iload_n hx hb dX3_possible_35 rfl (lv_at hl 2 rfl) ?_
    refine lv_icmp_gt (tgt := 48) hx hb dX3_possible_36 (by decide) (fun c1 => ?_) (fun c1 => ?_)
    · have h := ite_t c1 h
      exact w_X3_possible_J48 l D cI cB cJ cZ aK aV N q_this q_x1 x2 post C0 q_tenthsIf q_tenthsWithout q_conditions q_tenthsElse q_x1_people q_x1_didWith q_x1_didWithout q_x1_conditions size tenthsIf tenthsWithout conditions tenthsElse x1_size x1_people x1_didWith x1_didWithout x1_conditions v3 i5 kb19 hkb19 i4 h hP ls hl
    · have h := ite_f c1 h
      refine lv_iload hx hb dX3_possible_39 (lv_at hl 3 rfl) ?_
      refine lv_iconst (v := 1) hx hb dX3_possible_41 (by decide) ?_
      refine lv_iload hx hb dX3_possible_42 (lv_at hl 4 rfl) ?_
      refine lv_ishl hx hb dX3_possible_44 ?_
      refine lv_ior hx hb dX3_possible_45 ?_
      refine lv_topi (fun v9 ex => ?_)
      have h := nm_of ex h
      refine lv_istore (lv' := [(4, .int v9), (0, .ref q_this), (1, .ref q_x1), (3, .int v3), (5, .int i5)]) hx hb dX3_possible_46 hl (by decide) rfl (fun ls hl => ?_)
      exact w_X3_possible_J48 l D cI cB cJ cZ aK aV N q_this q_x1 x2 post C0 q_tenthsIf q_tenthsWithout q_conditions q_tenthsElse q_x1_people q_x1_didWith q_x1_didWithout q_x1_conditions size tenthsIf tenthsWithout conditions tenthsElse x1_size x1_people x1_didWith x1_didWithout x1_conditions v3 i5 kb19 hkb19 v9 h hP ls (lv_sub hl [1, 2, 3, 0, 4] rfl)
set_option maxHeartbeats 4000000 in
set_option maxRecDepth 100000 in
theorem w_X3_possible_L19 (l : Launch) (D : va_G) (cI cB cJ cZ : ClassId) (aK aV : Nat → Nat) (N : Nat) {p : Program} {e : Env} {s : State} {m : MethodId} {below : List Frame} {meth : Method} {c : Code} (q_this : Nat) (q_x1 : Nat) (x2 : Int32) (post : Int32 → Prop) (C0 : Cx p s m meth c ([.ref q_this, .ref q_x1, .int x2] : List Value).toArray cX3_possible 6 yX3_possible.cls yX3_possible.name (some .int) wsX3_possible D cI cB cJ cZ aK aV (fun _ => False)) (q_tenthsIf : Nat) (q_tenthsWithout : Nat) (q_conditions : Nat) (q_tenthsElse : Nat) (q_x1_people : Nat) (q_x1_didWith : Nat) (q_x1_didWithout : Nat) (q_x1_conditions : Nat) (size : Int32) (tenthsIf : Nat → Int32) (tenthsWithout : Nat → Int32) (conditions : Nat → Int32) (tenthsElse : Nat → Int32) (x1_size : Int32) (x1_people : Nat → Int32) (x1_didWith : Nat → Int32) (x1_didWithout : Nat → Int32) (x1_conditions : Nat → Int32) (v3 : Int32) (ke19 : Int32 → Int32 → Prop) (hke19 : ∀ (i4_ : Int32) (i5_ : Int32), ke19 i4_ i5_ → ∀ ls : Array Slot, lv_has ls 6 [(4, .int i4_)] → W p l e { frames := 3, cells := 0, slots := 0, locals := 72 } s m ([.ref q_this, .ref q_x1, .int x2] : List Value).toArray below meth c s.heap [] 0 0 (MQ below (vp_Si post) ([.ref q_this, .ref q_x1, .int x2] : List Value).toArray s 0 0 (fun _ => False)) (F0 m 54 ls [])) (hP : va_P D vwCl [(q_this, .inr (3, [.ref q_tenthsIf, .ref q_tenthsWithout, .ref q_conditions, .ref q_tenthsElse, .int size])), (q_tenthsIf, .inl (cI, 6, .inl tenthsIf)), (q_tenthsWithout, .inl (cI, 6, .inl tenthsWithout)), (q_conditions, .inl (cI, 6, .inl conditions)), (q_tenthsElse, .inl (cI, 6, .inl tenthsElse)), (q_x1, .inr (2, [.ref q_x1_people, .ref q_x1_didWith, .ref q_x1_didWithout, .ref q_x1_conditions, .int x1_size])), (q_x1_people, .inl (cI, 12, .inl x1_people)), (q_x1_didWith, .inl (cI, 12, .inl x1_didWith)), (q_x1_didWithout, .inl (cI, 12, .inl x1_didWithout)), (q_x1_conditions, .inl (cI, 12, .inl x1_conditions))] s.heap) : ∀ (n_ : Nat) (i4 : Int32) (i5 : Int32), f_X3_possible_L19 N size tenthsIf tenthsWithout conditions tenthsElse x1_size x1_people x1_didWith x1_didWithout x1_conditions v3 ke19 n_ i4 i5 → ∀ ls : Array Slot, lv_has ls 6 [(0, .ref q_this), (1, .ref q_x1), (3, .int v3), (4, .int i4), (5, .int i5)] → W p l e { frames := 3, cells := 0, slots := 0, locals := 72 } s m ([.ref q_this, .ref q_x1, .int x2] : List Value).toArray below meth c s.heap [] 0 0 (MQ below (vp_Si post) ([.ref q_this, .ref q_x1, .int x2] : List Value).toArray s 0 0 (fun _ => False)) (F0 m 19 ls []) := by
  intro n_
  induction n_ with
  | zero => intro i4 i5 h; exact h.elim
  | succ n_ ih =>
    intro i4 i5 h ls hl
    exact w_X3_possible_B19 l D cI cB cJ cZ aK aV N q_this q_x1 x2 post C0 q_tenthsIf q_tenthsWithout q_conditions q_tenthsElse q_x1_people q_x1_didWith q_x1_didWithout q_x1_conditions size tenthsIf tenthsWithout conditions tenthsElse x1_size x1_people x1_didWith x1_didWithout x1_conditions v3 (f_X3_possible_L19 N size tenthsIf tenthsWithout conditions tenthsElse x1_size x1_people x1_didWith x1_didWithout x1_conditions v3 ke19 n_) ih ke19 hke19 i4 i5 h hP ls hl
set_option maxHeartbeats 4000000 in
set_option maxRecDepth 100000 in
theorem c_X3_possible (l : Launch) (D : va_G) (cI cB cJ cZ : ClassId) (aK aV : Nat → Nat) (N : Nat) (q_this : Nat) (q_tenthsIf : Nat) (q_tenthsWithout : Nat) (q_conditions : Nat) (q_tenthsElse : Nat) (q_x1 : Nat) (q_x1_people : Nat) (q_x1_didWith : Nat) (q_x1_didWithout : Nat) (q_x1_conditions : Nat) (size : Int32) (tenthsIf : Nat → Int32) (tenthsWithout : Nat → Int32) (conditions : Nat → Int32) (tenthsElse : Nat → Int32) (x1_size : Int32) (x1_people : Nat → Int32) (x1_didWith : Nat → Int32) (x1_didWithout : Nat → Int32) (x1_conditions : Nat → Int32) (x2 : Int32) {post : Int32 → Prop} (h : f_X3_possible N size tenthsIf tenthsWithout conditions tenthsElse x1_size x1_people x1_didWith x1_didWithout x1_conditions x2 post) : Met l yX3_possible wsX3_possible { frames := 3, cells := 0, slots := 0, locals := 72 } (PR D cI cB cJ cZ aK aV [.ref q_this, .ref q_x1, .int x2] [(q_this, .inr (3, [.ref q_tenthsIf, .ref q_tenthsWithout, .ref q_conditions, .ref q_tenthsElse, .int size])), (q_tenthsIf, .inl (cI, 6, .inl tenthsIf)), (q_tenthsWithout, .inl (cI, 6, .inl tenthsWithout)), (q_conditions, .inl (cI, 6, .inl conditions)), (q_tenthsElse, .inl (cI, 6, .inl tenthsElse)), (q_x1, .inr (2, [.ref q_x1_people, .ref q_x1_didWith, .ref q_x1_didWithout, .ref q_x1_conditions, .int x1_size])), (q_x1_people, .inl (cI, 12, .inl x1_people)), (q_x1_didWith, .inl (cI, 12, .inl x1_didWith)), (q_x1_didWithout, .inl (cI, 12, .inl x1_didWithout)), (q_x1_conditions, .inl (cI, 12, .inl x1_conditions))]) (vp_Si post) 0 0 (fun _ => False) := by
  refine ro_enter (cc := cX3_possible) (maxL := 6) (ret := (some .int)) (by decide) rfl (Nat.le_of_ble_eq_true rfl) ?_
  intro p e s m below meth c C0 hP ls hl
  have hl : lv_has ls 6 [(0, .ref q_this), (1, .ref q_x1), (2, .int x2)] := hl
  unfold f_X3_possible at h
  obtain ⟨hx, hb, hr, hml, hown, hts, hE, hlk, hnm⟩ := id C0
  have ik3 : ∀ w ∈ u_ws RX3 TX3 5, w ∈ wsX3_possible := by decide +kernel
  refine lv_aload_n hx hb dX3_possible_0 rfl (lv_at hl 0 rfl) ?_
  refine lv_aload_n hx hb dX3_possible_1 rfl (lv_at hl 0 rfl) ?_
  refine lv_aload_n hx hb dX3_possible_2 rfl (lv_at hl 1 rfl) ?_
  refine ro_Vi (C := RX3) (As := [.ref q_x1]) (rest := [.ref q_this]) ⟨hx, hb, hml, hown, hts⟩ hE va_S.rf hP [0, 1, 2, 3, 4, 5, 6, 7, 8, 9] (c_X3_closestTo l D cI cB cJ cZ aK aV N q_this q_tenthsIf q_tenthsWithout q_conditions q_tenthsElse q_x1 q_x1_people q_x1_didWith q_x1_didWithout q_x1_conditions size tenthsIf tenthsWithout conditions tenthsElse x1_size x1_people x1_didWith x1_didWithout x1_conditions h) (cwV 1 hts gX3_possible_X3_closestTo rfl rfl rfl (by decide +kernel) ⟨(Nat.le_of_ble_eq_true rfl), (Nat.le_of_ble_eq_true rfl)⟩) rfl 0 rfl rfl rfl hl.1 rfl (Nat.le_of_ble_eq_true rfl) dX3_possible_3 ⟨Nat.zero_le _, Nat.zero_le _⟩ (fun r1 h => ?_)
  refine lv_aload_n hx hb dX3_possible_6 rfl (lv_at hl 1 rfl) ?_
  refine ro_Vi (C := RX3) (As := [.int r1, .ref q_x1]) (rest := []) ⟨hx, hb, hml, hown, hts⟩ hE va_S.rf hP [0, 1, 2, 3, 4, 5, 6, 7, 8, 9] (c_X3_misfitOf l D cI cB cJ cZ aK aV N q_this q_tenthsIf q_tenthsWithout q_conditions q_tenthsElse q_x1 q_x1_people q_x1_didWith q_x1_didWithout q_x1_conditions size tenthsIf tenthsWithout conditions tenthsElse x1_size x1_people x1_didWith x1_didWithout x1_conditions r1 h) (cwV 2 hts gX3_possible_X3_misfitOf rfl rfl rfl (by decide +kernel) ⟨(Nat.le_of_ble_eq_true rfl), (Nat.le_of_ble_eq_true rfl)⟩) rfl 0 rfl rfl rfl hl.1 rfl (Nat.le_of_ble_eq_true rfl) dX3_possible_7 ⟨Nat.zero_le _, Nat.zero_le _⟩ (fun r2 h => ?_)
  refine lv_iload_n hx hb dX3_possible_10 rfl (lv_at hl 2 rfl) ?_
  refine lv_iadd hx hb dX3_possible_11 ?_
  refine lv_topi (fun v3 ex => ?_)
  have h := nm_of ex h
  refine lv_istore_n (lv' := [(3, .int v3), (0, .ref q_this), (1, .ref q_x1), (2, .int x2)]) hx hb dX3_possible_12 rfl hl (by decide) rfl (fun ls hl => ?_)
  refine lv_iconst (v := 0) hx hb dX3_possible_13 (by decide) ?_
  refine lv_istore (lv' := [(4, .int 0), (3, .int v3), (0, .ref q_this), (1, .ref q_x1), (2, .int x2)]) hx hb dX3_possible_14 hl (by decide) rfl (fun ls hl => ?_)
  refine lv_iconst (v := 0) hx hb dX3_possible_16 (by decide) ?_
  refine lv_istore (lv' := [(5, .int 0), (4, .int 0), (3, .int v3), (0, .ref q_this), (1, .ref q_x1), (2, .int x2)]) hx hb dX3_possible_17 hl (by decide) rfl (fun ls hl => ?_)
  refine w_X3_possible_L19 l D cI cB cJ cZ aK aV N q_this q_x1 x2 post C0 q_tenthsIf q_tenthsWithout q_conditions q_tenthsElse q_x1_people q_x1_didWith q_x1_didWithout q_x1_conditions size tenthsIf tenthsWithout conditions tenthsElse x1_size x1_people x1_didWith x1_didWithout x1_conditions v3 _ (fun o10 o11 h ls hl => ?_) hP N 0 0 h ls (lv_sub hl [3, 4, 2, 1, 0] rfl)
  refine lv_iload hx hb dX3_possible_54 (lv_at hl 0 rfl) ?_
  exact ro_iret hx hb hr hlk h dX3_possible_56
set_option maxHeartbeats 4000000 in
set_option maxRecDepth 100000 in
theorem w_X3_heapOf_J39 (l : Launch) (D : va_G) (cI cB cJ cZ : ClassId) (aK aV : Nat → Nat) (N : Nat) {p : Program} {e : Env} {s : State} {m : MethodId} {below : List Frame} {meth : Method} {c : Code} (q_this : Nat) (x1 : Int32) (x2 : Int32) (x3 : Int32) (post : Int32 → Prop) (C0 : Cx p s m meth c ([.ref q_this, .int x1, .int x2, .int x3] : List Value).toArray cX3_heapOf 6 yX3_heapOf.cls yX3_heapOf.name (some .int) wsX3_heapOf D cI cB cJ cZ aK aV (fun _ => False)) (q_tenthsIf : Nat) (q_tenthsWithout : Nat) (q_conditions : Nat) (q_tenthsElse : Nat) (size : Int32) (tenthsIf : Nat → Int32) (conditions : Nat → Int32) (tenthsElse : Nat → Int32) (i2 : Int32) (kb6 : Int32 → Int32 → Prop) (hkb6 : ∀ (i1_ : Int32) (i2_ : Int32), kb6 i1_ i2_ → ∀ ls : Array Slot, lv_has ls 6 [(0, .ref q_this), (1, .int x1), (2, .int x2), (3, .int x3), (4, .int i1_), (5, .int i2_)] → W p l e { frames := 1, cells := 0, slots := 0, locals := 22 } s m ([.ref q_this, .int x1, .int x2, .int x3] : List Value).toArray below meth c s.heap [] 0 0 (MQ below (vp_Si post) ([.ref q_this, .int x1, .int x2, .int x3] : List Value).toArray s 0 0 (fun _ => False)) (F0 m 6 ls [])) (j3 : Int32) (h : f_X3_heapOf_J39 N i2 kb6 j3) (hP : va_P D vwCl [(q_this, .inr (3, [.ref q_tenthsIf, .ref q_tenthsWithout, .ref q_conditions, .ref q_tenthsElse, .int size])), (q_tenthsIf, .inl (cI, 6, .inl tenthsIf)), (q_conditions, .inl (cI, 6, .inl conditions)), (q_tenthsElse, .inl (cI, 6, .inl tenthsElse))] s.heap) (ls : Array Slot) (hl : lv_has ls 6 [(0, .ref q_this), (1, .int x1), (2, .int x2), (3, .int x3), (4, .int j3), (5, .int i2)]) : W p l e { frames := 1, cells := 0, slots := 0, locals := 22 } s m ([.ref q_this, .int x1, .int x2, .int x3] : List Value).toArray below meth c s.heap [] 0 0 (MQ below (vp_Si post) ([.ref q_this, .int x1, .int x2, .int x3] : List Value).toArray s 0 0 (fun _ => False)) (F0 m 39 ls []) := by
  obtain ⟨hx, hb, hr, hml, hown, hts, hE, hlk, hnm⟩ := id C0
  have ik3 : ∀ w ∈ u_ws RX3 TX3 5, w ∈ wsX3_heapOf := by decide +kernel
  unfold f_X3_heapOf_J39 at h
  obtain ⟨v4, ex⟩ : ∃ y : Int32, y = (i2 + 1) := ⟨_, rfl⟩
  have h := nm_of ex h
  refine lv_iinc (v := v4) (lv' := [(5, .int v4), (0, .ref q_this), (1, .int x1), (2, .int x2), (3, .int x3), (4, .int j3)]) hx hb dX3_heapOf_39 hl (k := 5) rfl (by rw [ex]; rfl) (by decide) rfl (fun ls hl => ?_)
  refine lv_goto (tgt := 6) hx hb dX3_heapOf_42 (by decide) ?_
  exact hkb6 j3 v4 h ls (lv_sub hl [1, 2, 3, 4, 5, 0] rfl)
set_option maxHeartbeats 4000000 in
set_option maxRecDepth 100000 in
theorem w_X3_heapOf_B6 (l : Launch) (D : va_G) (cI cB cJ cZ : ClassId) (aK aV : Nat → Nat) (N : Nat) {p : Program} {e : Env} {s : State} {m : MethodId} {below : List Frame} {meth : Method} {c : Code} (q_this : Nat) (x1 : Int32) (x2 : Int32) (x3 : Int32) (post : Int32 → Prop) (C0 : Cx p s m meth c ([.ref q_this, .int x1, .int x2, .int x3] : List Value).toArray cX3_heapOf 6 yX3_heapOf.cls yX3_heapOf.name (some .int) wsX3_heapOf D cI cB cJ cZ aK aV (fun _ => False)) (q_tenthsIf : Nat) (q_tenthsWithout : Nat) (q_conditions : Nat) (q_tenthsElse : Nat) (size : Int32) (tenthsIf : Nat → Int32) (conditions : Nat → Int32) (tenthsElse : Nat → Int32) (kb6 : Int32 → Int32 → Prop) (hkb6 : ∀ (i1_ : Int32) (i2_ : Int32), kb6 i1_ i2_ → ∀ ls : Array Slot, lv_has ls 6 [(0, .ref q_this), (1, .int x1), (2, .int x2), (3, .int x3), (4, .int i1_), (5, .int i2_)] → W p l e { frames := 1, cells := 0, slots := 0, locals := 22 } s m ([.ref q_this, .int x1, .int x2, .int x3] : List Value).toArray below meth c s.heap [] 0 0 (MQ below (vp_Si post) ([.ref q_this, .int x1, .int x2, .int x3] : List Value).toArray s 0 0 (fun _ => False)) (F0 m 6 ls [])) (ke6 : Int32 → Int32 → Prop) (hke6 : ∀ (i1_ : Int32) (i2_ : Int32), ke6 i1_ i2_ → ∀ ls : Array Slot, lv_has ls 6 [(4, .int i1_)] → W p l e { frames := 1, cells := 0, slots := 0, locals := 22 } s m ([.ref q_this, .int x1, .int x2, .int x3] : List Value).toArray below meth c s.heap [] 0 0 (MQ below (vp_Si post) ([.ref q_this, .int x1, .int x2, .int x3] : List Value).toArray s 0 0 (fun _ => False)) (F0 m 45 ls [])) (i1 : Int32) (i2 : Int32) (h : f_X3_heapOf_B6 N size tenthsIf conditions tenthsElse x1 x2 x3 kb6 ke6 i1 i2) (hP : va_P D vwCl [(q_this, .inr (3, [.ref q_tenthsIf, .ref q_tenthsWithout, .ref q_conditions, .ref q_tenthsElse, .int size])), (q_tenthsIf, .inl (cI, 6, .inl tenthsIf)), (q_conditions, .inl (cI, 6, .inl conditions)), (q_tenthsElse, .inl (cI, 6, .inl tenthsElse))] s.heap) (ls : Array Slot) (hl : lv_has ls 6 [(0, .ref q_this), (1, .int x1), (2, .int x2), (3, .int x3), (4, .int i1), (5, .int i2)]) : W p l e { frames := 1, cells := 0, slots := 0, locals := 22 } s m ([.ref q_this, .int x1, .int x2, .int x3] : List Value).toArray below meth c s.heap [] 0 0 (MQ below (vp_Si post) ([.ref q_this, .int x1, .int x2, .int x3] : List Value).toArray s 0 0 (fun _ => False)) (F0 m 6 ls []) := by
  obtain ⟨hx, hb, hr, hml, hown, hts, hE, hlk, hnm⟩ := id C0
  have ik3 : ∀ w ∈ u_ws RX3 TX3 5, w ∈ wsX3_heapOf := by decide +kernel
  unfold f_X3_heapOf_B6 at h
  refine lv_iload hx hb dX3_heapOf_6 (lv_at hl 5 rfl) ?_
  refine lv_aload_n hx hb dX3_heapOf_8 rfl (lv_at hl 0 rfl) ?_
  refine va_get (D := D) (ci := 3) (v := .int size) (C := RX3) (T := TX3) (N := 5) hx hb hts ik3 hown hE.1.1 hP 0 rfl rfl 4 (by decide) (hts (.fieldLink RX3 24 "FortyHouses$Laws" "size" "I") (by decide +kernel)) (fun _ h9 => h9) rfl dX3_heapOf_9 ?_
  refine lv_icmp_ge (tgt := 45) hx hb dX3_heapOf_12 (by decide) (fun c1 => ?_) (fun c1 => ?_)
  · have h := ite_t c1 h
    exact hke6 i1 i2 h ls (lv_sub hl [4] rfl)
  · have h := ite_f c1 h
    refine lv_iload_n hx hb dX3_heapOf_15 rfl (lv_at hl 1 rfl) ?_
    refine lv_iload hx hb dX3_heapOf_16 (lv_at hl 5 rfl) ?_
    refine lv_ishr hx hb dX3_heapOf_18 ?_
    refine lv_iconst (v := 1) hx hb dX3_heapOf_19 (by decide) ?_
    refine lv_iand hx hb dX3_heapOf_20 ?_
    refine lv_iconst (v := 1) hx hb dX3_heapOf_21 (by decide) ?_
    refine lv_icmp_ne (tgt := 39) hx hb dX3_heapOf_22 (by decide) (fun c1 => ?_) (fun c1 => ?_)
    · have h := ite_t c1 h
      exact w_X3_heapOf_J39 l D cI cB cJ cZ aK aV N q_this x1 x2 x3 post C0 q_tenthsIf q_tenthsWithout q_conditions q_tenthsElse size tenthsIf conditions tenthsElse i2 kb6 hkb6 i1 h hP ls hl
    · have h := ite_n c1 h
      refine lv_aload_n hx hb dX3_heapOf_25 rfl (lv_at hl 0 rfl) ?_
      refine lv_iload hx hb dX3_heapOf_26 (lv_at hl 5 rfl) ?_
      refine lv_iload_n hx hb dX3_heapOf_28 rfl (lv_at hl 2 rfl) ?_
      refine ro_Vi (C := RX3) (As := [.int i2, .int x2]) (rest := []) ⟨hx, hb, hml, hown, hts⟩ hE va_S.rf hP [0, 1, 2, 3] (c_X3_tenthsWith l D cI cB cJ cZ aK aV N q_this q_tenthsIf q_tenthsWithout q_conditions q_tenthsElse size tenthsIf conditions tenthsElse i2 x2 h) (cwV 2 hts gX3_heapOf_X3_tenthsWith rfl rfl rfl (by decide +kernel) ⟨(Nat.le_of_ble_eq_true rfl), (Nat.le_of_ble_eq_true rfl)⟩) rfl 0 rfl rfl rfl hl.1 rfl (Nat.le_of_ble_eq_true rfl) dX3_heapOf_29 ⟨Nat.zero_le _, Nat.zero_le _⟩ (fun r5 h => ?_)
      refine lv_iload_n hx hb dX3_heapOf_32 rfl (lv_at hl 3 rfl) ?_
      refine lv_icmp_ne (tgt := 39) hx hb dX3_heapOf_33 (by decide) (fun c1 => ?_) (fun c1 => ?_)
      · have h := ite_t c1 h
        exact w_X3_heapOf_J39 l D cI cB cJ cZ aK aV N q_this x1 x2 x3 post C0 q_tenthsIf q_tenthsWithout q_conditions q_tenthsElse size tenthsIf conditions tenthsElse i2 kb6 hkb6 i1 h hP ls hl
      · have h := ite_n c1 h
        obtain ⟨v6, ex⟩ : ∃ y : Int32, y = (i1 + 1) := ⟨_, rfl⟩
        have h := nm_of ex h
        refine lv_iinc (v := v6) (lv' := [(4, .int v6), (0, .ref q_this), (1, .int x1), (2, .int x2), (3, .int x3), (5, .int i2)]) hx hb dX3_heapOf_36 hl (k := 4) rfl (by rw [ex]; rfl) (by decide) rfl (fun ls hl => ?_)
        exact w_X3_heapOf_J39 l D cI cB cJ cZ aK aV N q_this x1 x2 x3 post C0 q_tenthsIf q_tenthsWithout q_conditions q_tenthsElse size tenthsIf conditions tenthsElse i2 kb6 hkb6 v6 h hP ls (lv_sub hl [1, 2, 3, 4, 0, 5] rfl)
set_option maxHeartbeats 4000000 in
set_option maxRecDepth 100000 in
theorem w_X3_heapOf_L6 (l : Launch) (D : va_G) (cI cB cJ cZ : ClassId) (aK aV : Nat → Nat) (N : Nat) {p : Program} {e : Env} {s : State} {m : MethodId} {below : List Frame} {meth : Method} {c : Code} (q_this : Nat) (x1 : Int32) (x2 : Int32) (x3 : Int32) (post : Int32 → Prop) (C0 : Cx p s m meth c ([.ref q_this, .int x1, .int x2, .int x3] : List Value).toArray cX3_heapOf 6 yX3_heapOf.cls yX3_heapOf.name (some .int) wsX3_heapOf D cI cB cJ cZ aK aV (fun _ => False)) (q_tenthsIf : Nat) (q_tenthsWithout : Nat) (q_conditions : Nat) (q_tenthsElse : Nat) (size : Int32) (tenthsIf : Nat → Int32) (conditions : Nat → Int32) (tenthsElse : Nat → Int32) (ke6 : Int32 → Int32 → Prop) (hke6 : ∀ (i1_ : Int32) (i2_ : Int32), ke6 i1_ i2_ → ∀ ls : Array Slot, lv_has ls 6 [(4, .int i1_)] → W p l e { frames := 1, cells := 0, slots := 0, locals := 22 } s m ([.ref q_this, .int x1, .int x2, .int x3] : List Value).toArray below meth c s.heap [] 0 0 (MQ below (vp_Si post) ([.ref q_this, .int x1, .int x2, .int x3] : List Value).toArray s 0 0 (fun _ => False)) (F0 m 45 ls [])) (hP : va_P D vwCl [(q_this, .inr (3, [.ref q_tenthsIf, .ref q_tenthsWithout, .ref q_conditions, .ref q_tenthsElse, .int size])), (q_tenthsIf, .inl (cI, 6, .inl tenthsIf)), (q_conditions, .inl (cI, 6, .inl conditions)), (q_tenthsElse, .inl (cI, 6, .inl tenthsElse))] s.heap) : ∀ (n_ : Nat) (i1 : Int32) (i2 : Int32), f_X3_heapOf_L6 N size tenthsIf conditions tenthsElse x1 x2 x3 ke6 n_ i1 i2 → ∀ ls : Array Slot, lv_has ls 6 [(0, .ref q_this), (1, .int x1), (2, .int x2), (3, .int x3), (4, .int i1), (5, .int i2)] → W p l e { frames := 1, cells := 0, slots := 0, locals := 22 } s m ([.ref q_this, .int x1, .int x2, .int x3] : List Value).toArray below meth c s.heap [] 0 0 (MQ below (vp_Si post) ([.ref q_this, .int x1, .int x2, .int x3] : List Value).toArray s 0 0 (fun _ => False)) (F0 m 6 ls []) := by
  intro n_
  induction n_ with
  | zero => intro i1 i2 h; exact h.elim
  | succ n_ ih =>
    intro i1 i2 h ls hl
    exact w_X3_heapOf_B6 l D cI cB cJ cZ aK aV N q_this x1 x2 x3 post C0 q_tenthsIf q_tenthsWithout q_conditions q_tenthsElse size tenthsIf conditions tenthsElse (f_X3_heapOf_L6 N size tenthsIf conditions tenthsElse x1 x2 x3 ke6 n_) ih ke6 hke6 i1 i2 h hP ls hl
set_option maxHeartbeats 4000000 in
set_option maxRecDepth 100000 in
theorem c_X3_heapOf (l : Launch) (D : va_G) (cI cB cJ cZ : ClassId) (aK aV : Nat → Nat) (N : Nat) (q_this : Nat) (q_tenthsIf : Nat) (q_tenthsWithout : Nat) (q_conditions : Nat) (q_tenthsElse : Nat) (size : Int32) (tenthsIf : Nat → Int32) (conditions : Nat → Int32) (tenthsElse : Nat → Int32) (x1 : Int32) (x2 : Int32) (x3 : Int32) {post : Int32 → Prop} (h : f_X3_heapOf N size tenthsIf conditions tenthsElse x1 x2 x3 post) : Met l yX3_heapOf wsX3_heapOf { frames := 1, cells := 0, slots := 0, locals := 22 } (PR D cI cB cJ cZ aK aV [.ref q_this, .int x1, .int x2, .int x3] [(q_this, .inr (3, [.ref q_tenthsIf, .ref q_tenthsWithout, .ref q_conditions, .ref q_tenthsElse, .int size])), (q_tenthsIf, .inl (cI, 6, .inl tenthsIf)), (q_conditions, .inl (cI, 6, .inl conditions)), (q_tenthsElse, .inl (cI, 6, .inl tenthsElse))]) (vp_Si post) 0 0 (fun _ => False) := by
  refine ro_enter (cc := cX3_heapOf) (maxL := 6) (ret := (some .int)) (by decide) rfl (Nat.le_of_ble_eq_true rfl) ?_
  intro p e s m below meth c C0 hP ls hl
  have hl : lv_has ls 6 [(0, .ref q_this), (1, .int x1), (2, .int x2), (3, .int x3)] := hl
  unfold f_X3_heapOf at h
  obtain ⟨hx, hb, hr, hml, hown, hts, hE, hlk, hnm⟩ := id C0
  have ik3 : ∀ w ∈ u_ws RX3 TX3 5, w ∈ wsX3_heapOf := by decide +kernel
  refine lv_iconst (v := 0) hx hb dX3_heapOf_0 (by decide) ?_
  refine lv_istore (lv' := [(4, .int 0), (0, .ref q_this), (1, .int x1), (2, .int x2), (3, .int x3)]) hx hb dX3_heapOf_1 hl (by decide) rfl (fun ls hl => ?_)
  refine lv_iconst (v := 0) hx hb dX3_heapOf_3 (by decide) ?_
  refine lv_istore (lv' := [(5, .int 0), (4, .int 0), (0, .ref q_this), (1, .int x1), (2, .int x2), (3, .int x3)]) hx hb dX3_heapOf_4 hl (by decide) rfl (fun ls hl => ?_)
  refine w_X3_heapOf_L6 l D cI cB cJ cZ aK aV N q_this x1 x2 x3 post C0 q_tenthsIf q_tenthsWithout q_conditions q_tenthsElse size tenthsIf conditions tenthsElse _ (fun o7 o8 h ls hl => ?_) hP N 0 0 h ls (lv_sub hl [2, 3, 4, 5, 1, 0] rfl)
  refine lv_iload hx hb dX3_heapOf_45 (lv_at hl 0 rfl) ?_
  exact ro_iret hx hb hr hlk h dX3_heapOf_47
set_option maxHeartbeats 4000000 in
set_option maxRecDepth 100000 in
theorem w_X3_greatestHeap_B5 (l : Launch) (D : va_G) (cI cB cJ cZ : ClassId) (aK aV : Nat → Nat) (N : Nat) {p : Program} {e : Env} {s : State} {m : MethodId} {below : List Frame} {meth : Method} {c : Code} (q_this : Nat) (x1 : Int32) (x2 : Int32) (post : Int32 → Prop) (C0 : Cx p s m meth c ([.ref q_this, .int x1, .int x2] : List Value).toArray cX3_greatestHeap 5 yX3_greatestHeap.cls yX3_greatestHeap.name (some .int) wsX3_greatestHeap D cI cB cJ cZ aK aV (fun _ => False)) (q_tenthsIf : Nat) (q_tenthsWithout : Nat) (q_conditions : Nat) (q_tenthsElse : Nat) (size : Int32) (tenthsIf : Nat → Int32) (conditions : Nat → Int32) (tenthsElse : Nat → Int32) (kb5 : Int32 → Int32 → Prop) (hkb5 : ∀ (i1_ : Int32) (i2_ : Int32), kb5 i1_ i2_ → ∀ ls : Array Slot, lv_has ls 5 [(0, .ref q_this), (1, .int x1), (2, .int x2), (3, .int i1_), (4, .int i2_)] → W p l e { frames := 2, cells := 0, slots := 0, locals := 47 } s m ([.ref q_this, .int x1, .int x2] : List Value).toArray below meth c s.heap [] 0 0 (MQ below (vp_Si post) ([.ref q_this, .int x1, .int x2] : List Value).toArray s 0 0 (fun _ => False)) (F0 m 5 ls [])) (ke5 : Int32 → Int32 → Prop) (hke5 : ∀ (i1_ : Int32) (i2_ : Int32), ke5 i1_ i2_ → ∀ ls : Array Slot, lv_has ls 5 [(3, .int i1_)] → W p l e { frames := 2, cells := 0, slots := 0, locals := 47 } s m ([.ref q_this, .int x1, .int x2] : List Value).toArray below meth c s.heap [] 0 0 (MQ below (vp_Si post) ([.ref q_this, .int x1, .int x2] : List Value).toArray s 0 0 (fun _ => False)) (F0 m 31 ls [])) (i1 : Int32) (i2 : Int32) (h : f_X3_greatestHeap_B5 N size tenthsIf conditions tenthsElse x1 x2 kb5 ke5 i1 i2) (hP : va_P D vwCl [(q_this, .inr (3, [.ref q_tenthsIf, .ref q_tenthsWithout, .ref q_conditions, .ref q_tenthsElse, .int size])), (q_tenthsIf, .inl (cI, 6, .inl tenthsIf)), (q_conditions, .inl (cI, 6, .inl conditions)), (q_tenthsElse, .inl (cI, 6, .inl tenthsElse))] s.heap) (ls : Array Slot) (hl : lv_has ls 5 [(0, .ref q_this), (1, .int x1), (2, .int x2), (3, .int i1), (4, .int i2)]) : W p l e { frames := 2, cells := 0, slots := 0, locals := 47 } s m ([.ref q_this, .int x1, .int x2] : List Value).toArray below meth c s.heap [] 0 0 (MQ below (vp_Si post) ([.ref q_this, .int x1, .int x2] : List Value).toArray s 0 0 (fun _ => False)) (F0 m 5 ls []) := by
  obtain ⟨hx, hb, hr, hml, hown, hts, hE, hlk, hnm⟩ := id C0
  unfold f_X3_greatestHeap_B5 at h
  refine lv_iload hx hb dX3_greatestHeap_5 (lv_at hl 4 rfl) ?_
  refine lv_bipush (v := 10) hx hb dX3_greatestHeap_7 (by decide) ?_
  refine lv_icmp_gt (tgt := 31) hx hb dX3_greatestHeap_9 (by decide) (fun c1 => ?_) (fun c1 => ?_)
  · have h := ite_t c1 h
    exact hke5 i1 i2 h ls (lv_sub hl [3] rfl)
  · have h := ite_f c1 h
    refine lv_iload_n hx hb dX3_greatestHeap_12 rfl (lv_at hl 3 rfl) ?_
    refine lv_aload_n hx hb dX3_greatestHeap_13 rfl (lv_at hl 0 rfl) ?_
    refine lv_iload_n hx hb dX3_greatestHeap_14 rfl (lv_at hl 1 rfl) ?_
    refine lv_iload_n hx hb dX3_greatestHeap_15 rfl (lv_at hl 2 rfl) ?_
    refine lv_iload hx hb dX3_greatestHeap_16 (lv_at hl 4 rfl) ?_
    refine ro_Vi (C := RX3) (As := [.int x1, .int x2, .int i2]) (rest := [.int i1]) ⟨hx, hb, hml, hown, hts⟩ hE va_S.rf hP [0, 1, 2, 3] (c_X3_heapOf l D cI cB cJ cZ aK aV N q_this q_tenthsIf q_tenthsWithout q_conditions q_tenthsElse size tenthsIf conditions tenthsElse x1 x2 i2 h) (cwV 3 hts gX3_greatestHeap_X3_heapOf rfl rfl rfl (by decide +kernel) ⟨(Nat.le_of_ble_eq_true rfl), (Nat.le_of_ble_eq_true rfl)⟩) rfl 0 rfl rfl rfl hl.1 rfl (Nat.le_of_ble_eq_true rfl) dX3_greatestHeap_18 ⟨Nat.zero_le _, Nat.zero_le _⟩ (fun r3 h => ?_)
    refine va_mmax hx hb (hml.trans hl.1.symm) hown (hts (.methodLink RX3 77 Lib.Math.max.name) (by decide +kernel)) (hts (.static Lib.Math.max.name) (by decide +kernel)) (hts (.initialized "java/lang/Math") (by decide +kernel)) (hts (.code Lib.Math.max.name Lib.Math.max.code 2 (some .int)) (by decide +kernel)) (Nat.le_of_ble_eq_true rfl) (Nat.le_of_ble_eq_true rfl) (Nat.zero_le _) (Nat.zero_le _) dX3_greatestHeap_21 ?_
    refine lv_topi (fun v4 ex => ?_)
    have h := nm_of ex h
    refine lv_istore_n (lv' := [(3, .int v4), (0, .ref q_this), (1, .int x1), (2, .int x2), (4, .int i2)]) hx hb dX3_greatestHeap_24 rfl hl (by decide) rfl (fun ls hl => ?_)
    obtain ⟨v5, ex⟩ : ∃ y : Int32, y = (i2 + 1) := ⟨_, rfl⟩
    have h := nm_of ex h
    refine lv_iinc (v := v5) (lv' := [(4, .int v5), (3, .int v4), (0, .ref q_this), (1, .int x1), (2, .int x2)]) hx hb dX3_greatestHeap_25 hl (k := 4) rfl (by rw [ex]; rfl) (by decide) rfl (fun ls hl => ?_)
    refine lv_goto (tgt := 5) hx hb dX3_greatestHeap_28 (by decide) ?_
    exact hkb5 v4 v5 h ls (lv_sub hl [2, 3, 4, 1, 0] rfl)
set_option maxHeartbeats 4000000 in
set_option maxRecDepth 100000 in
theorem w_X3_greatestHeap_L5 (l : Launch) (D : va_G) (cI cB cJ cZ : ClassId) (aK aV : Nat → Nat) (N : Nat) {p : Program} {e : Env} {s : State} {m : MethodId} {below : List Frame} {meth : Method} {c : Code} (q_this : Nat) (x1 : Int32) (x2 : Int32) (post : Int32 → Prop) (C0 : Cx p s m meth c ([.ref q_this, .int x1, .int x2] : List Value).toArray cX3_greatestHeap 5 yX3_greatestHeap.cls yX3_greatestHeap.name (some .int) wsX3_greatestHeap D cI cB cJ cZ aK aV (fun _ => False)) (q_tenthsIf : Nat) (q_tenthsWithout : Nat) (q_conditions : Nat) (q_tenthsElse : Nat) (size : Int32) (tenthsIf : Nat → Int32) (conditions : Nat → Int32) (tenthsElse : Nat → Int32) (ke5 : Int32 → Int32 → Prop) (hke5 : ∀ (i1_ : Int32) (i2_ : Int32), ke5 i1_ i2_ → ∀ ls : Array Slot, lv_has ls 5 [(3, .int i1_)] → W p l e { frames := 2, cells := 0, slots := 0, locals := 47 } s m ([.ref q_this, .int x1, .int x2] : List Value).toArray below meth c s.heap [] 0 0 (MQ below (vp_Si post) ([.ref q_this, .int x1, .int x2] : List Value).toArray s 0 0 (fun _ => False)) (F0 m 31 ls [])) (hP : va_P D vwCl [(q_this, .inr (3, [.ref q_tenthsIf, .ref q_tenthsWithout, .ref q_conditions, .ref q_tenthsElse, .int size])), (q_tenthsIf, .inl (cI, 6, .inl tenthsIf)), (q_conditions, .inl (cI, 6, .inl conditions)), (q_tenthsElse, .inl (cI, 6, .inl tenthsElse))] s.heap) : ∀ (n_ : Nat) (i1 : Int32) (i2 : Int32), f_X3_greatestHeap_L5 N size tenthsIf conditions tenthsElse x1 x2 ke5 n_ i1 i2 → ∀ ls : Array Slot, lv_has ls 5 [(0, .ref q_this), (1, .int x1), (2, .int x2), (3, .int i1), (4, .int i2)] → W p l e { frames := 2, cells := 0, slots := 0, locals := 47 } s m ([.ref q_this, .int x1, .int x2] : List Value).toArray below meth c s.heap [] 0 0 (MQ below (vp_Si post) ([.ref q_this, .int x1, .int x2] : List Value).toArray s 0 0 (fun _ => False)) (F0 m 5 ls []) := by
  intro n_
  induction n_ with
  | zero => intro i1 i2 h; exact h.elim
  | succ n_ ih =>
    intro i1 i2 h ls hl
    exact w_X3_greatestHeap_B5 l D cI cB cJ cZ aK aV N q_this x1 x2 post C0 q_tenthsIf q_tenthsWithout q_conditions q_tenthsElse size tenthsIf conditions tenthsElse (f_X3_greatestHeap_L5 N size tenthsIf conditions tenthsElse x1 x2 ke5 n_) ih ke5 hke5 i1 i2 h hP ls hl
set_option maxHeartbeats 4000000 in
set_option maxRecDepth 100000 in
theorem c_X3_greatestHeap (l : Launch) (D : va_G) (cI cB cJ cZ : ClassId) (aK aV : Nat → Nat) (N : Nat) (q_this : Nat) (q_tenthsIf : Nat) (q_tenthsWithout : Nat) (q_conditions : Nat) (q_tenthsElse : Nat) (size : Int32) (tenthsIf : Nat → Int32) (conditions : Nat → Int32) (tenthsElse : Nat → Int32) (x1 : Int32) (x2 : Int32) {post : Int32 → Prop} (h : f_X3_greatestHeap N size tenthsIf conditions tenthsElse x1 x2 post) : Met l yX3_greatestHeap wsX3_greatestHeap { frames := 2, cells := 0, slots := 0, locals := 47 } (PR D cI cB cJ cZ aK aV [.ref q_this, .int x1, .int x2] [(q_this, .inr (3, [.ref q_tenthsIf, .ref q_tenthsWithout, .ref q_conditions, .ref q_tenthsElse, .int size])), (q_tenthsIf, .inl (cI, 6, .inl tenthsIf)), (q_conditions, .inl (cI, 6, .inl conditions)), (q_tenthsElse, .inl (cI, 6, .inl tenthsElse))]) (vp_Si post) 0 0 (fun _ => False) := by
  refine ro_enter (cc := cX3_greatestHeap) (maxL := 5) (ret := (some .int)) (by decide) rfl (Nat.le_of_ble_eq_true rfl) ?_
  intro p e s m below meth c C0 hP ls hl
  have hl : lv_has ls 5 [(0, .ref q_this), (1, .int x1), (2, .int x2)] := hl
  unfold f_X3_greatestHeap at h
  obtain ⟨hx, hb, hr, hml, hown, hts, hE, hlk, hnm⟩ := id C0
  refine lv_iconst (v := 0) hx hb dX3_greatestHeap_0 (by decide) ?_
  refine lv_istore_n (lv' := [(3, .int 0), (0, .ref q_this), (1, .int x1), (2, .int x2)]) hx hb dX3_greatestHeap_1 rfl hl (by decide) rfl (fun ls hl => ?_)
  refine lv_iconst (v := 0) hx hb dX3_greatestHeap_2 (by decide) ?_
  refine lv_istore (lv' := [(4, .int 0), (3, .int 0), (0, .ref q_this), (1, .int x1), (2, .int x2)]) hx hb dX3_greatestHeap_3 hl (by decide) rfl (fun ls hl => ?_)
  refine w_X3_greatestHeap_L5 l D cI cB cJ cZ aK aV N q_this x1 x2 post C0 q_tenthsIf q_tenthsWithout q_conditions q_tenthsElse size tenthsIf conditions tenthsElse _ (fun o6 o7 h ls hl => ?_) hP N 0 0 h ls (lv_sub hl [2, 3, 4, 1, 0] rfl)
  refine lv_iload_n hx hb dX3_greatestHeap_31 rfl (lv_at hl 0 rfl) ?_
  exact ro_iret hx hb hr hlk h dX3_greatestHeap_32
set_option maxHeartbeats 4000000 in
set_option maxRecDepth 100000 in
theorem w_X3_nextToTry_J36 (l : Launch) (D : va_G) (cI cB cJ cZ : ClassId) (aK aV : Nat → Nat) (N : Nat) {p : Program} {e : Env} {s : State} {m : MethodId} {below : List Frame} {meth : Method} {c : Code} (q_this : Nat) (x1 : Int32) (post : Int32 → Prop) (C0 : Cx p s m meth c ([.ref q_this, .int x1] : List Value).toArray cX3_nextToTry 6 yX3_nextToTry.cls yX3_nextToTry.name (some .int) wsX3_nextToTry D cI cB cJ cZ aK aV (fun _ => False)) (q_tenthsIf : Nat) (q_tenthsWithout : Nat) (q_conditions : Nat) (q_tenthsElse : Nat) (size : Int32) (tenthsIf : Nat → Int32) (conditions : Nat → Int32) (tenthsElse : Nat → Int32) (i3 : Int32) (kb8 : Int32 → Int32 → Int32 → Prop) (hkb8 : ∀ (i1_ : Int32) (i2_ : Int32) (i3_ : Int32), kb8 i1_ i2_ i3_ → ∀ ls : Array Slot, lv_has ls 6 [(0, .ref q_this), (1, .int x1), (2, .int i1_), (3, .int i2_), (4, .int i3_)] → W p l e { frames := 3, cells := 0, slots := 0, locals := 71 } s m ([.ref q_this, .int x1] : List Value).toArray below meth c s.heap [] 0 0 (MQ below (vp_Si post) ([.ref q_this, .int x1] : List Value).toArray s 0 0 (fun _ => False)) (F0 m 8 ls [])) (j5 : Int32) (j6 : Int32) (h : f_X3_nextToTry_J36 N i3 kb8 j5 j6) (hP : va_P D vwCl [(q_this, .inr (3, [.ref q_tenthsIf, .ref q_tenthsWithout, .ref q_conditions, .ref q_tenthsElse, .int size])), (q_tenthsIf, .inl (cI, 6, .inl tenthsIf)), (q_conditions, .inl (cI, 6, .inl conditions)), (q_tenthsElse, .inl (cI, 6, .inl tenthsElse))] s.heap) (ls : Array Slot) (hl : lv_has ls 6 [(0, .ref q_this), (1, .int x1), (2, .int j5), (3, .int j6), (4, .int i3)]) : W p l e { frames := 3, cells := 0, slots := 0, locals := 71 } s m ([.ref q_this, .int x1] : List Value).toArray below meth c s.heap [] 0 0 (MQ below (vp_Si post) ([.ref q_this, .int x1] : List Value).toArray s 0 0 (fun _ => False)) (F0 m 36 ls []) := by
  obtain ⟨hx, hb, hr, hml, hown, hts, hE, hlk, hnm⟩ := id C0
  unfold f_X3_nextToTry_J36 at h
  obtain ⟨v7, ex⟩ : ∃ y : Int32, y = (i3 + 1) := ⟨_, rfl⟩
  have h := nm_of ex h
  refine lv_iinc (v := v7) (lv' := [(4, .int v7), (0, .ref q_this), (1, .int x1), (2, .int j5), (3, .int j6)]) hx hb dX3_nextToTry_36 hl (k := 4) rfl (by rw [ex]; rfl) (by decide) rfl (fun ls hl => ?_)
  refine lv_goto (tgt := 8) hx hb dX3_nextToTry_39 (by decide) ?_
  exact hkb8 j5 j6 v7 h ls (lv_sub hl [1, 2, 3, 4, 0] rfl)
set_option maxHeartbeats 4000000 in
set_option maxRecDepth 100000 in
theorem w_X3_nextToTry_B8 (l : Launch) (D : va_G) (cI cB cJ cZ : ClassId) (aK aV : Nat → Nat) (N : Nat) {p : Program} {e : Env} {s : State} {m : MethodId} {below : List Frame} {meth : Method} {c : Code} (q_this : Nat) (x1 : Int32) (post : Int32 → Prop) (C0 : Cx p s m meth c ([.ref q_this, .int x1] : List Value).toArray cX3_nextToTry 6 yX3_nextToTry.cls yX3_nextToTry.name (some .int) wsX3_nextToTry D cI cB cJ cZ aK aV (fun _ => False)) (q_tenthsIf : Nat) (q_tenthsWithout : Nat) (q_conditions : Nat) (q_tenthsElse : Nat) (size : Int32) (tenthsIf : Nat → Int32) (conditions : Nat → Int32) (tenthsElse : Nat → Int32) (kb8 : Int32 → Int32 → Int32 → Prop) (hkb8 : ∀ (i1_ : Int32) (i2_ : Int32) (i3_ : Int32), kb8 i1_ i2_ i3_ → ∀ ls : Array Slot, lv_has ls 6 [(0, .ref q_this), (1, .int x1), (2, .int i1_), (3, .int i2_), (4, .int i3_)] → W p l e { frames := 3, cells := 0, slots := 0, locals := 71 } s m ([.ref q_this, .int x1] : List Value).toArray below meth c s.heap [] 0 0 (MQ below (vp_Si post) ([.ref q_this, .int x1] : List Value).toArray s 0 0 (fun _ => False)) (F0 m 8 ls [])) (ke8 : Int32 → Int32 → Int32 → Prop) (hke8 : ∀ (i1_ : Int32) (i2_ : Int32) (i3_ : Int32), ke8 i1_ i2_ i3_ → ∀ ls : Array Slot, lv_has ls 6 [(2, .int i1_)] → W p l e { frames := 3, cells := 0, slots := 0, locals := 71 } s m ([.ref q_this, .int x1] : List Value).toArray below meth c s.heap [] 0 0 (MQ below (vp_Si post) ([.ref q_this, .int x1] : List Value).toArray s 0 0 (fun _ => False)) (F0 m 42 ls [])) (i1 : Int32) (i2 : Int32) (i3 : Int32) (h : f_X3_nextToTry_B8 N size tenthsIf conditions tenthsElse x1 kb8 ke8 i1 i2 i3) (hP : va_P D vwCl [(q_this, .inr (3, [.ref q_tenthsIf, .ref q_tenthsWithout, .ref q_conditions, .ref q_tenthsElse, .int size])), (q_tenthsIf, .inl (cI, 6, .inl tenthsIf)), (q_conditions, .inl (cI, 6, .inl conditions)), (q_tenthsElse, .inl (cI, 6, .inl tenthsElse))] s.heap) (ls : Array Slot) (hl : lv_has ls 6 [(0, .ref q_this), (1, .int x1), (2, .int i1), (3, .int i2), (4, .int i3)]) : W p l e { frames := 3, cells := 0, slots := 0, locals := 71 } s m ([.ref q_this, .int x1] : List Value).toArray below meth c s.heap [] 0 0 (MQ below (vp_Si post) ([.ref q_this, .int x1] : List Value).toArray s 0 0 (fun _ => False)) (F0 m 8 ls []) := by
  obtain ⟨hx, hb, hr, hml, hown, hts, hE, hlk, hnm⟩ := id C0
  unfold f_X3_nextToTry_B8 at h
  refine lv_iload hx hb dX3_nextToTry_8 (lv_at hl 4 rfl) ?_
  refine lv_bipush (v := 63) hx hb dX3_nextToTry_10 (by decide) ?_
  refine lv_icmp_gt (tgt := 42) hx hb dX3_nextToTry_12 (by decide) (fun c1 => ?_) (fun c1 => ?_)
  · have h := ite_t c1 h
    exact hke8 i1 i2 i3 h ls (lv_sub hl [2] rfl)
  · have h := ite_f c1 h
    refine lv_aload_n hx hb dX3_nextToTry_15 rfl (lv_at hl 0 rfl) ?_
    refine lv_iload_n hx hb dX3_nextToTry_16 rfl (lv_at hl 1 rfl) ?_
    refine lv_iload hx hb dX3_nextToTry_17 (lv_at hl 4 rfl) ?_
    refine ro_Vi (C := RX3) (As := [.int x1, .int i3]) (rest := []) ⟨hx, hb, hml, hown, hts⟩ hE va_S.rf hP [0, 1, 2, 3] (c_X3_greatestHeap l D cI cB cJ cZ aK aV N q_this q_tenthsIf q_tenthsWithout q_conditions q_tenthsElse size tenthsIf conditions tenthsElse x1 i3 h) (cwV 2 hts gX3_nextToTry_X3_greatestHeap rfl rfl rfl (by decide +kernel) ⟨(Nat.le_of_ble_eq_true rfl), (Nat.le_of_ble_eq_true rfl)⟩) rfl 0 rfl rfl rfl hl.1 rfl (Nat.le_of_ble_eq_true rfl) dX3_nextToTry_19 ⟨Nat.zero_le _, Nat.zero_le _⟩ (fun r4 h => ?_)
    refine lv_istore (lv' := [(5, .int r4), (0, .ref q_this), (1, .int x1), (2, .int i1), (3, .int i2), (4, .int i3)]) hx hb dX3_nextToTry_22 hl (by decide) rfl (fun ls hl => ?_)
    refine lv_iload hx hb dX3_nextToTry_24 (lv_at hl 0 rfl) ?_
    refine lv_iload_n hx hb dX3_nextToTry_26 rfl (lv_at hl 4 rfl) ?_
    refine lv_icmp_ge (tgt := 36) hx hb dX3_nextToTry_27 (by decide) (fun c1 => ?_) (fun c1 => ?_)
    · have h := ite_t c1 h
      exact w_X3_nextToTry_J36 l D cI cB cJ cZ aK aV N q_this x1 post C0 q_tenthsIf q_tenthsWithout q_conditions q_tenthsElse size tenthsIf conditions tenthsElse i3 kb8 hkb8 i1 i2 h hP ls (lv_sub hl [1, 2, 3, 4, 5] rfl)
    · have h := ite_f c1 h
      refine lv_iload hx hb dX3_nextToTry_30 (lv_at hl 5 rfl) ?_
      refine lv_istore_n (lv' := [(2, .int i3), (5, .int r4), (0, .ref q_this), (1, .int x1), (3, .int i2), (4, .int i3)]) hx hb dX3_nextToTry_32 rfl hl (by decide) rfl (fun ls hl => ?_)
      refine lv_iload hx hb dX3_nextToTry_33 (lv_at hl 1 rfl) ?_
      refine lv_istore_n (lv' := [(3, .int r4), (2, .int i3), (5, .int r4), (0, .ref q_this), (1, .int x1), (4, .int i3)]) hx hb dX3_nextToTry_35 rfl hl (by decide) rfl (fun ls hl => ?_)
      exact w_X3_nextToTry_J36 l D cI cB cJ cZ aK aV N q_this x1 post C0 q_tenthsIf q_tenthsWithout q_conditions q_tenthsElse size tenthsIf conditions tenthsElse i3 kb8 hkb8 i3 r4 h hP ls (lv_sub hl [3, 4, 1, 0, 5] rfl)
set_option maxHeartbeats 4000000 in
set_option maxRecDepth 100000 in
theorem w_X3_nextToTry_L8 (l : Launch) (D : va_G) (cI cB cJ cZ : ClassId) (aK aV : Nat → Nat) (N : Nat) {p : Program} {e : Env} {s : State} {m : MethodId} {below : List Frame} {meth : Method} {c : Code} (q_this : Nat) (x1 : Int32) (post : Int32 → Prop) (C0 : Cx p s m meth c ([.ref q_this, .int x1] : List Value).toArray cX3_nextToTry 6 yX3_nextToTry.cls yX3_nextToTry.name (some .int) wsX3_nextToTry D cI cB cJ cZ aK aV (fun _ => False)) (q_tenthsIf : Nat) (q_tenthsWithout : Nat) (q_conditions : Nat) (q_tenthsElse : Nat) (size : Int32) (tenthsIf : Nat → Int32) (conditions : Nat → Int32) (tenthsElse : Nat → Int32) (ke8 : Int32 → Int32 → Int32 → Prop) (hke8 : ∀ (i1_ : Int32) (i2_ : Int32) (i3_ : Int32), ke8 i1_ i2_ i3_ → ∀ ls : Array Slot, lv_has ls 6 [(2, .int i1_)] → W p l e { frames := 3, cells := 0, slots := 0, locals := 71 } s m ([.ref q_this, .int x1] : List Value).toArray below meth c s.heap [] 0 0 (MQ below (vp_Si post) ([.ref q_this, .int x1] : List Value).toArray s 0 0 (fun _ => False)) (F0 m 42 ls [])) (hP : va_P D vwCl [(q_this, .inr (3, [.ref q_tenthsIf, .ref q_tenthsWithout, .ref q_conditions, .ref q_tenthsElse, .int size])), (q_tenthsIf, .inl (cI, 6, .inl tenthsIf)), (q_conditions, .inl (cI, 6, .inl conditions)), (q_tenthsElse, .inl (cI, 6, .inl tenthsElse))] s.heap) : ∀ (n_ : Nat) (i1 : Int32) (i2 : Int32) (i3 : Int32), f_X3_nextToTry_L8 N size tenthsIf conditions tenthsElse x1 ke8 n_ i1 i2 i3 → ∀ ls : Array Slot, lv_has ls 6 [(0, .ref q_this), (1, .int x1), (2, .int i1), (3, .int i2), (4, .int i3)] → W p l e { frames := 3, cells := 0, slots := 0, locals := 71 } s m ([.ref q_this, .int x1] : List Value).toArray below meth c s.heap [] 0 0 (MQ below (vp_Si post) ([.ref q_this, .int x1] : List Value).toArray s 0 0 (fun _ => False)) (F0 m 8 ls []) := by
  intro n_
  induction n_ with
  | zero => intro i1 i2 i3 h; exact h.elim
  | succ n_ ih =>
    intro i1 i2 i3 h ls hl
    exact w_X3_nextToTry_B8 l D cI cB cJ cZ aK aV N q_this x1 post C0 q_tenthsIf q_tenthsWithout q_conditions q_tenthsElse size tenthsIf conditions tenthsElse (f_X3_nextToTry_L8 N size tenthsIf conditions tenthsElse x1 ke8 n_) ih ke8 hke8 i1 i2 i3 h hP ls hl
set_option maxHeartbeats 4000000 in
set_option maxRecDepth 100000 in
theorem c_X3_nextToTry (l : Launch) (D : va_G) (cI cB cJ cZ : ClassId) (aK aV : Nat → Nat) (N : Nat) (q_this : Nat) (q_tenthsIf : Nat) (q_tenthsWithout : Nat) (q_conditions : Nat) (q_tenthsElse : Nat) (size : Int32) (tenthsIf : Nat → Int32) (conditions : Nat → Int32) (tenthsElse : Nat → Int32) (x1 : Int32) {post : Int32 → Prop} (h : f_X3_nextToTry N size tenthsIf conditions tenthsElse x1 post) : Met l yX3_nextToTry wsX3_nextToTry { frames := 3, cells := 0, slots := 0, locals := 71 } (PR D cI cB cJ cZ aK aV [.ref q_this, .int x1] [(q_this, .inr (3, [.ref q_tenthsIf, .ref q_tenthsWithout, .ref q_conditions, .ref q_tenthsElse, .int size])), (q_tenthsIf, .inl (cI, 6, .inl tenthsIf)), (q_conditions, .inl (cI, 6, .inl conditions)), (q_tenthsElse, .inl (cI, 6, .inl tenthsElse))]) (vp_Si post) 0 0 (fun _ => False) := by
  refine ro_enter (cc := cX3_nextToTry) (maxL := 6) (ret := (some .int)) (by decide) rfl (Nat.le_of_ble_eq_true rfl) ?_
  intro p e s m below meth c C0 hP ls hl
  have hl : lv_has ls 6 [(0, .ref q_this), (1, .int x1)] := hl
  unfold f_X3_nextToTry at h
  obtain ⟨hx, hb, hr, hml, hown, hts, hE, hlk, hnm⟩ := id C0
  refine lv_iconst (v := 0) hx hb dX3_nextToTry_0 (by decide) ?_
  refine lv_istore_n (lv' := [(2, .int 0), (0, .ref q_this), (1, .int x1)]) hx hb dX3_nextToTry_1 rfl hl (by decide) rfl (fun ls hl => ?_)
  refine lv_bipush (v := 7) hx hb dX3_nextToTry_2 (by decide) ?_
  refine lv_istore_n (lv' := [(3, .int 7), (2, .int 0), (0, .ref q_this), (1, .int x1)]) hx hb dX3_nextToTry_4 rfl hl (by decide) rfl (fun ls hl => ?_)
  refine lv_iconst (v := 0) hx hb dX3_nextToTry_5 (by decide) ?_
  refine lv_istore (lv' := [(4, .int 0), (3, .int 7), (2, .int 0), (0, .ref q_this), (1, .int x1)]) hx hb dX3_nextToTry_6 hl (by decide) rfl (fun ls hl => ?_)
  refine w_X3_nextToTry_L8 l D cI cB cJ cZ aK aV N q_this x1 post C0 q_tenthsIf q_tenthsWithout q_conditions q_tenthsElse size tenthsIf conditions tenthsElse _ (fun o8 o9 o10 h ls hl => ?_) hP N 0 7 0 h ls (lv_sub hl [3, 4, 2, 1, 0] rfl)
  refine lv_iload_n hx hb dX3_nextToTry_42 rfl (lv_at hl 0 rfl) ?_
  exact ro_iret hx hb hr hlk h dX3_nextToTry_43
