abbrev wf_X4_append (cI cB cJ cZ : ClassId) (q_this : Nat) (q_bytes : Nat) (length : Int32) (token : Int32) (value : Int32) (start : Int32) (end_ : Int32) (bytes : Nat → Int32) : Int32 × (Nat → Int32) → va_W := fun u => [(q_this, .inr (4, [.ref q_bytes, .int u.1, .int token, .int value, .int start, .int end_])), (q_bytes, .inl (cB, 300, .inl u.2))]
set_option maxHeartbeats 4000000 in
set_option maxRecDepth 100000 in
theorem w_X4_append_B5 (l : Launch) (D : va_G) (cI cB cJ cZ : ClassId) (aK aV : Nat → Nat) (N : Nat) {p : Program} {e : Env} {s : State} {m : MethodId} {below : List Frame} {meth : Method} {c : Code} {A : Nat → Prop} (q_this : Nat) (q_bytes : Nat) (length : Int32) (token : Int32) (value : Int32) (start : Int32) (end_ : Int32) (bytes : Nat → Int32) (x1 : Int64) (x2 : Int32) (post : Int32 → Int32 → (Nat → Int32) → Prop) (C0 : Cx p s m meth c ([.ref q_this, .long x1, .int x2] : List Value).toArray cX4_append 5 yX4_append.cls yX4_append.name (some .int) wsX4_append D cI cB cJ cZ aK aV A) (hA : ∀ q : Nat, s.heap.size ≤ q → A q)  (kb5 : Int32 → (Nat → Int32) → Int32 → Prop) (hkb5 : ∀ (i2_ : Int32) (w3_ : Nat → Int32) (w4_ : Int32), kb5 i2_ w3_ w4_ → ∀ (H : Heap) (locs : List Loc), va_P D vwCl [(q_this, .inr (4, [.ref q_bytes, .int w4_, .int token, .int value, .int start, .int end_])), (q_bytes, .inl (cB, 300, .inl w3_))] H → va_D A [(q_this, .inr (4, [.ref q_bytes, .int w4_, .int token, .int value, .int start, .int end_])), (q_bytes, .inl (cB, 300, .inl w3_))] → va_S A s.heap H locs → ∀ ls : Array Slot, lv_has ls 5 [(0, .ref q_this), (1, .long x1), (4, .int i2_)] → W p l e { frames := 0, cells := 0, slots := 0, locals := 0 } s m ([.ref q_this, .long x1, .int x2] : List Value).toArray below meth c H locs 0 0 (MQ below (va_Qi (fun r (u : Int32 × (Nat → Int32)) => post r u.1 u.2) (BW D A (wf_X4_append cI cB cJ cZ q_this q_bytes length token value start end_ bytes)) A) ([.ref q_this, .long x1, .int x2] : List Value).toArray s 0 0 A) (F0 m 5 ls [])) (ke5 : Int32 → (Nat → Int32) → Int32 → Prop) (hke5 : ∀ (i2_ : Int32) (w3_ : Nat → Int32) (w4_ : Int32), ke5 i2_ w3_ w4_ → ∀ (H : Heap) (locs : List Loc), va_P D vwCl [(q_this, .inr (4, [.ref q_bytes, .int w4_, .int token, .int value, .int start, .int end_])), (q_bytes, .inl (cB, 300, .inl w3_))] H → va_D A [(q_this, .inr (4, [.ref q_bytes, .int w4_, .int token, .int value, .int start, .int end_])), (q_bytes, .inl (cB, 300, .inl w3_))] → va_S A s.heap H locs → ∀ ls : Array Slot, lv_has ls 5 [(0, .ref q_this)] → W p l e { frames := 0, cells := 0, slots := 0, locals := 0 } s m ([.ref q_this, .long x1, .int x2] : List Value).toArray below meth c H locs 0 0 (MQ below (va_Qi (fun r (u : Int32 × (Nat → Int32)) => post r u.1 u.2) (BW D A (wf_X4_append cI cB cJ cZ q_this q_bytes length token value start end_ bytes)) A) ([.ref q_this, .long x1, .int x2] : List Value).toArray s 0 0 A) (F0 m 44 ls [])) (i2 : Int32) (w3 : Nat → Int32) (w4 : Int32) (h : f_X4_append_B5 N x1 kb5 ke5 i2 w3 w4) (H : Heap) (locs : List Loc) (hP : va_P D vwCl [(q_this, .inr (4, [.ref q_bytes, .int w4, .int token, .int value, .int start, .int end_])), (q_bytes, .inl (cB, 300, .inl w3))] H) (hD : va_D A [(q_this, .inr (4, [.ref q_bytes, .int w4, .int token, .int value, .int start, .int end_])), (q_bytes, .inl (cB, 300, .inl w3))]) (hS : va_S A s.heap H locs) (ls : Array Slot) (hl : lv_has ls 5 [(0, .ref q_this), (1, .long x1), (4, .int i2)]) : W p l e { frames := 0, cells := 0, slots := 0, locals := 0 } s m ([.ref q_this, .long x1, .int x2] : List Value).toArray below meth c H locs 0 0 (MQ below (va_Qi (fun r (u : Int32 × (Nat → Int32)) => post r u.1 u.2) (BW D A (wf_X4_append cI cB cJ cZ q_this q_bytes length token value start end_ bytes)) A) ([.ref q_this, .long x1, .int x2] : List Value).toArray s 0 0 A) (F0 m 5 ls []) := by
  obtain ⟨hx, hb, hr, hml, hown, hts, hE, hlk, hnm⟩ := id C0
  have ik4 : ∀ w ∈ u_ws RX4 TX4 6, w ∈ wsX4_append := by decide +kernel
  unfold f_X4_append_B5 at h
  refine lv_iload hx hb dX4_append_5 (lv_at hl 2 rfl) ?_
  refine lv_if_lt (tgt := 44) hx hb dX4_append_7 (by decide) (fun c1 => ?_) (fun c1 => ?_)
  · have h := ite_t c1 h
    exact hke5 i2 w3 w4 h _ _ hP hD hS ls (lv_sub hl [0] rfl)
  · have h := ite_f c1 h
    refine lv_aload_n hx hb dX4_append_10 rfl (lv_at hl 0 rfl) ?_
    refine va_get (D := D) (ci := 4) (v := .ref q_bytes) (C := RX4) (T := TX4) (N := 6) hx hb hts ik4 hown hE.1.1 hP 0 rfl rfl 0 (by decide) (hts (.fieldLink RX4 11 "FortyHouses$Reader" "bytes" "[B") (by decide +kernel)) (fun _ h9 => h9) rfl dX4_append_11 ?_
    refine lv_aload_n hx hb dX4_append_14 rfl (lv_at hl 0 rfl) ?_
    refine va_get (D := D) (ci := 4) (v := .int w4) (C := RX4) (T := TX4) (N := 6) hx hb hts ik4 hown hE.1.1 hP 0 rfl rfl 1 (by decide) (hts (.fieldLink RX4 15 "FortyHouses$Reader" "length" "I") (by decide +kernel)) (fun _ h9 => h9) rfl dX4_append_15 ?_
    refine lv_lload_n hx hb dX4_append_18 rfl (lv_at hl 1 rfl) ?_
    refine lv_bipush (v := 8) hx hb dX4_append_19 (by decide) ?_
    refine lv_iload hx hb dX4_append_21 (lv_at hl 2 rfl) ?_
    refine lv_imul hx hb dX4_append_23 ?_
    refine lv_lshr (v := (x1 >>> ((8 * i2).toInt64 &&& 63))) hx hb dX4_append_24 rfl ?_
    refine lv_l2i (v := (x1 >>> ((8 * i2).toInt64 &&& 63)).toInt32) hx hb dX4_append_25 rfl ?_
    refine lv_i2b (v := (x1 >>> ((8 * i2).toInt64 &&& 63)).toInt32.toInt8.toInt32) hx hb dX4_append_26 rfl ?_
    refine lv_topi (fun v5 ex => ?_)
    have h := nm_of ex h
    obtain ⟨hin, h⟩ := h
    refine va_bast hx hb hE.1.1 hP hD hS 1 1 rfl rfl hin dX4_append_27 (fun H locs hP hD hS => ?_)
    have hP : va_P D vwCl [(q_this, .inr (4, [.ref q_bytes, .int w4, .int token, .int value, .int start, .int end_])), (q_bytes, .inl (cB, 300, .inl (upd w3 w4.toNatClampNeg (vp_nar .byte v5))))] H := hP
    have hD : va_D A [(q_this, .inr (4, [.ref q_bytes, .int w4, .int token, .int value, .int start, .int end_])), (q_bytes, .inl (cB, 300, .inl (upd w3 w4.toNatClampNeg (vp_nar .byte v5))))] := hD
    refine lv_aload_n hx hb dX4_append_28 rfl (lv_at hl 0 rfl) ?_
    refine lv_dup hx hb dX4_append_29 rfl ?_
    refine va_get (D := D) (ci := 4) (v := .int w4) (C := RX4) (T := TX4) (N := 6) hx hb hts ik4 hown hE.1.1 hP 0 rfl rfl 1 (by decide) (hts (.fieldLink RX4 15 "FortyHouses$Reader" "length" "I") (by decide +kernel)) (fun _ h9 => h9) rfl dX4_append_30 ?_
    refine lv_iconst (v := 1) hx hb dX4_append_33 (by decide) ?_
    refine lv_iadd hx hb dX4_append_34 ?_
    refine lv_topi (fun v6 ex => ?_)
    have h := nm_of ex h
    refine va_put (D := D) (ci := 4) (v := .int v6) (ty := .int) (C := RX4) (T := TX4) (N := 6) hx hb hts ik4 tyX4 tyX4_ok nmX4 hown hE.1.1 hP hD hS 0 rfl rfl 1 (by decide) (hts (.fieldLink RX4 15 "FortyHouses$Reader" "length" "I") (by decide +kernel)) (fun _ h9 => h9) rfl (by decide +kernel) rfl rfl (Nat.le_of_ble_eq_true rfl) dX4_append_35 (fun H locs hP hD hS => ?_)
    have hP : va_P D vwCl [(q_this, .inr (4, [.ref q_bytes, .int v6, .int token, .int value, .int start, .int end_])), (q_bytes, .inl (cB, 300, .inl (upd w3 w4.toNatClampNeg (vp_nar .byte v5))))] H := hP
    have hD : va_D A [(q_this, .inr (4, [.ref q_bytes, .int v6, .int token, .int value, .int start, .int end_])), (q_bytes, .inl (cB, 300, .inl (upd w3 w4.toNatClampNeg (vp_nar .byte v5))))] := hD
    obtain ⟨v7, ex⟩ : ∃ y : Int32, y = (i2 + (-1)) := ⟨_, rfl⟩
    have h := nm_of ex h
    refine lv_iinc (v := v7) (lv' := [(4, .int v7), (0, .ref q_this), (1, .long x1)]) hx hb dX4_append_38 hl (k := 2) rfl (by rw [ex]; rfl) (by decide) rfl (fun ls hl => ?_)
    refine lv_goto (tgt := 5) hx hb dX4_append_41 (by decide) ?_
    exact hkb5 v7 (upd w3 w4.toNatClampNeg (vp_nar .byte v5)) v6 h _ _ hP hD hS ls (lv_sub hl [1, 2, 0] rfl)
set_option maxHeartbeats 4000000 in
set_option maxRecDepth 100000 in
theorem w_X4_append_L5 (l : Launch) (D : va_G) (cI cB cJ cZ : ClassId) (aK aV : Nat → Nat) (N : Nat) {p : Program} {e : Env} {s : State} {m : MethodId} {below : List Frame} {meth : Method} {c : Code} {A : Nat → Prop} (q_this : Nat) (q_bytes : Nat) (length : Int32) (token : Int32) (value : Int32) (start : Int32) (end_ : Int32) (bytes : Nat → Int32) (x1 : Int64) (x2 : Int32) (post : Int32 → Int32 → (Nat → Int32) → Prop) (C0 : Cx p s m meth c ([.ref q_this, .long x1, .int x2] : List Value).toArray cX4_append 5 yX4_append.cls yX4_append.name (some .int) wsX4_append D cI cB cJ cZ aK aV A) (hA : ∀ q : Nat, s.heap.size ≤ q → A q)  (ke5 : Int32 → (Nat → Int32) → Int32 → Prop) (hke5 : ∀ (i2_ : Int32) (w3_ : Nat → Int32) (w4_ : Int32), ke5 i2_ w3_ w4_ → ∀ (H : Heap) (locs : List Loc), va_P D vwCl [(q_this, .inr (4, [.ref q_bytes, .int w4_, .int token, .int value, .int start, .int end_])), (q_bytes, .inl (cB, 300, .inl w3_))] H → va_D A [(q_this, .inr (4, [.ref q_bytes, .int w4_, .int token, .int value, .int start, .int end_])), (q_bytes, .inl (cB, 300, .inl w3_))] → va_S A s.heap H locs → ∀ ls : Array Slot, lv_has ls 5 [(0, .ref q_this)] → W p l e { frames := 0, cells := 0, slots := 0, locals := 0 } s m ([.ref q_this, .long x1, .int x2] : List Value).toArray below meth c H locs 0 0 (MQ below (va_Qi (fun r (u : Int32 × (Nat → Int32)) => post r u.1 u.2) (BW D A (wf_X4_append cI cB cJ cZ q_this q_bytes length token value start end_ bytes)) A) ([.ref q_this, .long x1, .int x2] : List Value).toArray s 0 0 A) (F0 m 44 ls [])) : ∀ (n_ : Nat) (i2 : Int32) (w3 : Nat → Int32) (w4 : Int32), f_X4_append_L5 N x1 ke5 n_ i2 w3 w4 → ∀ (H : Heap) (locs : List Loc), va_P D vwCl [(q_this, .inr (4, [.ref q_bytes, .int w4, .int token, .int value, .int start, .int end_])), (q_bytes, .inl (cB, 300, .inl w3))] H → va_D A [(q_this, .inr (4, [.ref q_bytes, .int w4, .int token, .int value, .int start, .int end_])), (q_bytes, .inl (cB, 300, .inl w3))] → va_S A s.heap H locs → ∀ ls : Array Slot, lv_has ls 5 [(0, .ref q_this), (1, .long x1), (4, .int i2)] → W p l e { frames := 0, cells := 0, slots := 0, locals := 0 } s m ([.ref q_this, .long x1, .int x2] : List Value).toArray below meth c H locs 0 0 (MQ below (va_Qi (fun r (u : Int32 × (Nat → Int32)) => post r u.1 u.2) (BW D A (wf_X4_append cI cB cJ cZ q_this q_bytes length token value start end_ bytes)) A) ([.ref q_this, .long x1, .int x2] : List Value).toArray s 0 0 A) (F0 m 5 ls []) := by
  intro n_
  induction n_ with
  | zero => intro i2 w3 w4 h; exact h.elim
  | succ n_ ih =>
    intro i2 w3 w4 h H locs hP hD hS ls hl
    exact w_X4_append_B5 l D cI cB cJ cZ aK aV N q_this q_bytes length token value start end_ bytes x1 x2 post C0 hA (f_X4_append_L5 N x1 ke5 n_) ih ke5 hke5 i2 w3 w4 h H locs hP hD hS ls hl
set_option maxHeartbeats 4000000 in
set_option maxRecDepth 100000 in
theorem c_X4_append (l : Launch) (D : va_G) (cI cB cJ cZ : ClassId) (aK aV : Nat → Nat) (N : Nat) (q_this : Nat) (q_bytes : Nat) (length : Int32) (token : Int32) (value : Int32) (start : Int32) (end_ : Int32) (bytes : Nat → Int32) (x1 : Int64) (x2 : Int32) (sz : Nat) {post : Int32 → Int32 → (Nat → Int32) → Prop} (h : f_X4_append N length bytes x1 x2 post) : Met l yX4_append wsX4_append { frames := 0, cells := 0, slots := 0, locals := 0 } (PW D cI cB cJ cZ aK aV [.ref q_this, .long x1, .int x2] [(q_this, .inr (4, [.ref q_bytes, .int length, .int token, .int value, .int start, .int end_])), (q_bytes, .inl (cB, 300, .inl bytes))] sz) (va_Qi (fun r (u : Int32 × (Nat → Int32)) => post r u.1 u.2) (BW D (va_A [(q_this, .inr (4, [.ref q_bytes, .int length, .int token, .int value, .int start, .int end_])), (q_bytes, .inl (cB, 300, .inl bytes))] sz) (wf_X4_append cI cB cJ cZ q_this q_bytes length token value start end_ bytes)) (va_A [(q_this, .inr (4, [.ref q_bytes, .int length, .int token, .int value, .int start, .int end_])), (q_bytes, .inl (cB, 300, .inl bytes))] sz)) 0 0 (va_A [(q_this, .inr (4, [.ref q_bytes, .int length, .int token, .int value, .int start, .int end_])), (q_bytes, .inl (cB, 300, .inl bytes))] sz) := by
  refine mu_enter (Qc := fun A => (va_Qi (fun r (u : Int32 × (Nat → Int32)) => post r u.1 u.2) (BW D A (wf_X4_append cI cB cJ cZ q_this q_bytes length token value start end_ bytes)) A)) (cc := cX4_append) (maxL := 5) (ret := (some .int)) (by decide) rfl (Nat.le_of_ble_eq_true rfl) ?_
  intro p e s m below meth c A C0 hA H locs hP hD hS ls hl
  have hl : lv_has ls 5 [(0, .ref q_this), (1, .long x1), (3, .int x2)] := hl
  unfold f_X4_append at h
  obtain ⟨hx, hb, hr, hml, hown, hts, hE, hlk, hnm⟩ := id C0
  have ik4 : ∀ w ∈ u_ws RX4 TX4 6, w ∈ wsX4_append := by decide +kernel
  refine lv_iload_n hx hb dX4_append_0 rfl (lv_at hl 2 rfl) ?_
  refine lv_iconst (v := 1) hx hb dX4_append_1 (by decide) ?_
  refine lv_isub hx hb dX4_append_2 ?_
  refine lv_topi (fun v1 ex => ?_)
  have h := nm_of ex h
  refine lv_istore (lv' := [(4, .int v1), (0, .ref q_this), (1, .long x1), (3, .int x2)]) hx hb dX4_append_3 hl (by decide) rfl (fun ls hl => ?_)
  refine w_X4_append_L5 l D cI cB cJ cZ aK aV N q_this q_bytes length token value start end_ bytes x1 x2 post C0 hA _ (fun o8 o9 o10 h H locs hP hD hS ls hl => ?_) N v1 bytes length h _ _ hP hD hS ls (lv_sub hl [1, 2, 0] rfl)
  refine lv_aload_n hx hb dX4_append_44 rfl (lv_at hl 0 rfl) ?_
  refine va_get (D := D) (ci := 4) (v := .int o10) (C := RX4) (T := TX4) (N := 6) hx hb hts ik4 hown hE.1.1 hP 0 rfl rfl 1 (by decide) (hts (.fieldLink RX4 15 "FortyHouses$Reader" "length" "I") (by decide +kernel)) (fun _ h9 => h9) rfl dX4_append_45 ?_
  exact mu_iret (wf := wf_X4_append cI cB cJ cZ q_this q_bytes length token value start end_ bytes) (o10, o9) hx hb hr hlk hP hD hS h dX4_append_48
set_option maxHeartbeats 4000000 in
set_option maxRecDepth 100000 in
theorem c_X4_isLetter (l : Launch) (D : va_G) (cI cB cJ cZ : ClassId) (aK aV : Nat → Nat) (N : Nat) (q_this : Nat) (q_bytes : Nat) (length : Int32) (token : Int32) (value : Int32) (start : Int32) (end_ : Int32) (bytes : Nat → Int32) (x1 : Int32) {post : Int32 → Prop} (h : f_X4_isLetter N bytes x1 post) : Met l yX4_isLetter wsX4_isLetter { frames := 0, cells := 0, slots := 0, locals := 0 } (PR D cI cB cJ cZ aK aV [.ref q_this, .int x1] [(q_this, .inr (4, [.ref q_bytes, .int length, .int token, .int value, .int start, .int end_])), (q_bytes, .inl (cB, 300, .inl bytes))]) (vp_Si (fun r => post r ∧ narrow .boolean (.int r) = .int r)) 0 0 (fun _ => False) := by
  refine ro_enter (cc := cX4_isLetter) (maxL := 2) (ret := (some .boolean)) (by decide) rfl (Nat.le_of_ble_eq_true rfl) ?_
  intro p e s m below meth c C0 hP ls hl
  have hl : lv_has ls 2 [(0, .ref q_this), (1, .int x1)] := hl
  unfold f_X4_isLetter at h
  obtain ⟨hx, hb, hr, hml, hown, hts, hE, hlk, hnm⟩ := id C0
  have ik4 : ∀ w ∈ u_ws RX4 TX4 6, w ∈ wsX4_isLetter := by decide +kernel
  refine lv_aload_n hx hb dX4_isLetter_0 rfl (lv_at hl 0 rfl) ?_
  refine va_get (D := D) (ci := 4) (v := .ref q_bytes) (C := RX4) (T := TX4) (N := 6) hx hb hts ik4 hown hE.1.1 hP 0 rfl rfl 0 (by decide) (hts (.fieldLink RX4 11 "FortyHouses$Reader" "bytes" "[B") (by decide +kernel)) (fun _ h9 => h9) rfl dX4_isLetter_1 ?_
  refine lv_iload_n hx hb dX4_isLetter_4 rfl (lv_at hl 1 rfl) ?_
  obtain ⟨hin, h⟩ := h
  refine va_bald hx hb hE.1.1 hP 1 1 rfl rfl hin dX4_isLetter_5 ?_
  refine lv_bipush (v := 97) hx hb dX4_isLetter_6 (by decide) ?_
  refine lv_icmp_lt (tgt := 26) hx hb dX4_isLetter_8 (by decide) (fun c1 => ?_) (fun c1 => ?_)
  · have h := ite_t c1 h
    refine lv_iconst (v := 0) hx hb dX4_isLetter_26 (by decide) ?_
    exact ro_zret (post := fun r => post r ∧ narrow .boolean (.int r) = .int r) hx hb hr rfl hlk ⟨h, rfl⟩ dX4_isLetter_27
  · have h := ite_f c1 h
    refine lv_aload_n hx hb dX4_isLetter_11 rfl (lv_at hl 0 rfl) ?_
    refine va_get (D := D) (ci := 4) (v := .ref q_bytes) (C := RX4) (T := TX4) (N := 6) hx hb hts ik4 hown hE.1.1 hP 0 rfl rfl 0 (by decide) (hts (.fieldLink RX4 11 "FortyHouses$Reader" "bytes" "[B") (by decide +kernel)) (fun _ h9 => h9) rfl dX4_isLetter_12 ?_
    refine lv_iload_n hx hb dX4_isLetter_15 rfl (lv_at hl 1 rfl) ?_
    obtain ⟨hin, h⟩ := h
    refine va_bald hx hb hE.1.1 hP 1 1 rfl rfl hin dX4_isLetter_16 ?_
    refine lv_bipush (v := 122) hx hb dX4_isLetter_17 (by decide) ?_
    refine lv_icmp_gt (tgt := 26) hx hb dX4_isLetter_19 (by decide) (fun c1 => ?_) (fun c1 => ?_)
    · have h := ite_t c1 h
      refine lv_iconst (v := 0) hx hb dX4_isLetter_26 (by decide) ?_
      exact ro_zret (post := fun r => post r ∧ narrow .boolean (.int r) = .int r) hx hb hr rfl hlk ⟨h, rfl⟩ dX4_isLetter_27
    · have h := ite_f c1 h
      refine lv_iconst (v := 1) hx hb dX4_isLetter_22 (by decide) ?_
      refine lv_goto (tgt := 27) hx hb dX4_isLetter_23 (by decide) ?_
      exact ro_zret (post := fun r => post r ∧ narrow .boolean (.int r) = .int r) hx hb hr rfl hlk ⟨h, rfl⟩ dX4_isLetter_27
set_option maxHeartbeats 4000000 in
set_option maxRecDepth 100000 in
theorem w_X4_isWord_B20 (l : Launch) (D : va_G) (cI cB cJ cZ : ClassId) (aK aV : Nat → Nat) (N : Nat) {p : Program} {e : Env} {s : State} {m : MethodId} {below : List Frame} {meth : Method} {c : Code} (q_this : Nat) (x1 : Nat) (post : Int32 → Prop) (C0 : Cx p s m meth c ([.ref q_this, .ref (aK x1)] : List Value).toArray cX4_isWord 3 yX4_isWord.cls yX4_isWord.name (some .boolean) wsX4_isWord D cI cB cJ cZ aK aV (fun _ => False)) (q_bytes : Nat) (length : Int32) (token : Int32) (value : Int32) (start : Int32) (end_ : Int32) (bytes : Nat → Int32) (hx1 : x1 < 3) (kb20 : Int32 → Prop) (hkb20 : ∀ (i1_ : Int32), kb20 i1_ → ∀ ls : Array Slot, lv_has ls 3 [(0, .ref q_this), (1, .ref (aK x1)), (2, .int i1_)] → W p l e { frames := 5, cells := 0, slots := 0, locals := 106 } s m ([.ref q_this, .ref (aK x1)] : List Value).toArray below meth c s.heap [] 0 0 (MQ below (vp_Si (fun r => post r ∧ narrow .boolean (.int r) = .int r)) ([.ref q_this, .ref (aK x1)] : List Value).toArray s 0 0 (fun _ => False)) (F0 m 20 ls [])) (i1 : Int32) (h : f_X4_isWord_B20 N start bytes x1 post kb20 i1) (hP : va_P D vwCl [(q_this, .inr (4, [.ref q_bytes, .int length, .int token, .int value, .int start, .int end_])), (q_bytes, .inl (cB, 300, .inl bytes))] s.heap) (ls : Array Slot) (hl : lv_has ls 3 [(0, .ref q_this), (1, .ref (aK x1)), (2, .int i1)]) : W p l e { frames := 5, cells := 0, slots := 0, locals := 106 } s m ([.ref q_this, .ref (aK x1)] : List Value).toArray below meth c s.heap [] 0 0 (MQ below (vp_Si (fun r => post r ∧ narrow .boolean (.int r) = .int r)) ([.ref q_this, .ref (aK x1)] : List Value).toArray s 0 0 (fun _ => False)) (F0 m 20 ls []) := by
  obtain ⟨hx, hb, hr, hml, hown, hts, hE, hlk, hnm⟩ := id C0
  have ik4 : ∀ w ∈ u_ws RX4 TX4 6, w ∈ wsX4_isWord := by decide +kernel
  unfold f_X4_isWord_B20 at h
  refine lv_iload_n hx hb dX4_isWord_20 rfl (lv_at hl 2 rfl) ?_
  refine lv_aload_n hx hb dX4_isWord_21 rfl (lv_at hl 1 rfl) ?_
  refine ro_str (As := []) (rest := [.int i1]) ⟨hx, hb, hml, hown, hts⟩ hE va_S.rf (c_J0_length l D cI cB cJ cZ aK aV x1 hx1) (cwV 0 hts gX4_isWord_J0_length_8abf5 rfl rfl rfl (by decide +kernel) ⟨(Nat.le_of_ble_eq_true rfl), (Nat.le_of_ble_eq_true rfl)⟩) hx1 rfl hl.1 rfl (Nat.le_of_ble_eq_true rfl) dX4_isWord_22 ⟨Nat.zero_le _, Nat.zero_le _⟩ (fun r9 h9 => ?_)
  subst h9
  refine lv_icmp_ge (tgt := 55) hx hb dX4_isWord_25 (by decide) (fun c1 => ?_) (fun c1 => ?_)
  · have h := ite_t c1 h
    refine lv_iconst (v := 1) hx hb dX4_isWord_55 (by decide) ?_
    exact ro_zret (post := fun r => post r ∧ narrow .boolean (.int r) = .int r) hx hb hr rfl hlk ⟨h, rfl⟩ dX4_isWord_56
  · have h := ite_f c1 h
    refine lv_aload_n hx hb dX4_isWord_28 rfl (lv_at hl 0 rfl) ?_
    refine va_get (D := D) (ci := 4) (v := .ref q_bytes) (C := RX4) (T := TX4) (N := 6) hx hb hts ik4 hown hE.1.1 hP 0 rfl rfl 0 (by decide) (hts (.fieldLink RX4 11 "FortyHouses$Reader" "bytes" "[B") (by decide +kernel)) (fun _ h9 => h9) rfl dX4_isWord_29 ?_
    refine lv_aload_n hx hb dX4_isWord_32 rfl (lv_at hl 0 rfl) ?_
    refine va_get (D := D) (ci := 4) (v := .int start) (C := RX4) (T := TX4) (N := 6) hx hb hts ik4 hown hE.1.1 hP 0 rfl rfl 4 (by decide) (hts (.fieldLink RX4 25 "FortyHouses$Reader" "start" "I") (by decide +kernel)) (fun _ h9 => h9) rfl dX4_isWord_33 ?_
    refine lv_iload_n hx hb dX4_isWord_36 rfl (lv_at hl 2 rfl) ?_
    refine lv_iadd hx hb dX4_isWord_37 ?_
    obtain ⟨hin, h⟩ := h
    refine va_bald hx hb hE.1.1 hP 1 1 rfl rfl hin dX4_isWord_38 ?_
    refine lv_aload_n hx hb dX4_isWord_39 rfl (lv_at hl 1 rfl) ?_
    refine lv_iload_n hx hb dX4_isWord_40 rfl (lv_at hl 2 rfl) ?_
    obtain ⟨hin, h⟩ := h
    refine ro_str (As := [.int i1]) (rest := [.int (bytes (start + i1).toNatClampNeg)]) ⟨hx, hb, hml, hown, hts⟩ hE va_S.rf (c_J0_charAt l D cI cB cJ cZ aK aV x1 hx1 i1 hin) (cwV 1 hts gX4_isWord_J0_charAt_5068e rfl rfl rfl (by decide +kernel) ⟨(Nat.le_of_ble_eq_true rfl), (Nat.le_of_ble_eq_true rfl)⟩) hx1 rfl hl.1 rfl (Nat.le_of_ble_eq_true rfl) dX4_isWord_41 ⟨Nat.zero_le _, Nat.zero_le _⟩ (fun r9 h9 => ?_)
    subst h9
    refine lv_icmp_eq (tgt := 49) hx hb dX4_isWord_44 (by decide) (fun c1 => ?_) (fun c1 => ?_)
    · have h := ite_t c1 h
      obtain ⟨v2, ex⟩ : ∃ y : Int32, y = (i1 + 1) := ⟨_, rfl⟩
      have h := nm_of ex h
      refine lv_iinc (v := v2) (lv' := [(2, .int v2), (0, .ref q_this), (1, .ref (aK x1))]) hx hb dX4_isWord_49 hl (k := 2) rfl (by rw [ex]; rfl) (by decide) rfl (fun ls hl => ?_)
      refine lv_goto (tgt := 20) hx hb dX4_isWord_52 (by decide) ?_
      exact hkb20 v2 h ls (lv_sub hl [1, 2, 0] rfl)
    · have h := ite_f c1 h
      refine lv_iconst (v := 0) hx hb dX4_isWord_47 (by decide) ?_
      exact ro_zret (post := fun r => post r ∧ narrow .boolean (.int r) = .int r) hx hb hr rfl hlk ⟨h, rfl⟩ dX4_isWord_48
set_option maxHeartbeats 4000000 in
set_option maxRecDepth 100000 in
theorem w_X4_isWord_L20 (l : Launch) (D : va_G) (cI cB cJ cZ : ClassId) (aK aV : Nat → Nat) (N : Nat) {p : Program} {e : Env} {s : State} {m : MethodId} {below : List Frame} {meth : Method} {c : Code} (q_this : Nat) (x1 : Nat) (post : Int32 → Prop) (C0 : Cx p s m meth c ([.ref q_this, .ref (aK x1)] : List Value).toArray cX4_isWord 3 yX4_isWord.cls yX4_isWord.name (some .boolean) wsX4_isWord D cI cB cJ cZ aK aV (fun _ => False)) (q_bytes : Nat) (length : Int32) (token : Int32) (value : Int32) (start : Int32) (end_ : Int32) (bytes : Nat → Int32) (hx1 : x1 < 3)  (hP : va_P D vwCl [(q_this, .inr (4, [.ref q_bytes, .int length, .int token, .int value, .int start, .int end_])), (q_bytes, .inl (cB, 300, .inl bytes))] s.heap) : ∀ (n_ : Nat) (i1 : Int32), f_X4_isWord_L20 N start bytes x1 post n_ i1 → ∀ ls : Array Slot, lv_has ls 3 [(0, .ref q_this), (1, .ref (aK x1)), (2, .int i1)] → W p l e { frames := 5, cells := 0, slots := 0, locals := 106 } s m ([.ref q_this, .ref (aK x1)] : List Value).toArray below meth c s.heap [] 0 0 (MQ below (vp_Si (fun r => post r ∧ narrow .boolean (.int r) = .int r)) ([.ref q_this, .ref (aK x1)] : List Value).toArray s 0 0 (fun _ => False)) (F0 m 20 ls []) := by
  intro n_
  induction n_ with
  | zero => intro i1 h; exact h.elim
  | succ n_ ih =>
    intro i1 h ls hl
    exact w_X4_isWord_B20 l D cI cB cJ cZ aK aV N q_this x1 post C0 q_bytes length token value start end_ bytes hx1 (f_X4_isWord_L20 N start bytes x1 post n_) ih i1 h hP ls hl
set_option maxHeartbeats 4000000 in
set_option maxRecDepth 100000 in
theorem c_X4_isWord (l : Launch) (D : va_G) (cI cB cJ cZ : ClassId) (aK aV : Nat → Nat) (N : Nat) (q_this : Nat) (q_bytes : Nat) (length : Int32) (token : Int32) (value : Int32) (start : Int32) (end_ : Int32) (bytes : Nat → Int32) (x1 : Nat) (hx1 : x1 < 3) {post : Int32 → Prop} (h : f_X4_isWord N start end_ bytes x1 post) : Met l yX4_isWord wsX4_isWord { frames := 5, cells := 0, slots := 0, locals := 106 } (PR D cI cB cJ cZ aK aV [.ref q_this, .ref (aK x1)] [(q_this, .inr (4, [.ref q_bytes, .int length, .int token, .int value, .int start, .int end_])), (q_bytes, .inl (cB, 300, .inl bytes))]) (vp_Si (fun r => post r ∧ narrow .boolean (.int r) = .int r)) 0 0 (fun _ => False) := by
  refine ro_enter (cc := cX4_isWord) (maxL := 3) (ret := (some .boolean)) (by decide) rfl (Nat.le_of_ble_eq_true rfl) ?_
  intro p e s m below meth c C0 hP ls hl
  have hl : lv_has ls 3 [(0, .ref q_this), (1, .ref (aK x1))] := hl
  unfold f_X4_isWord at h
  obtain ⟨hx, hb, hr, hml, hown, hts, hE, hlk, hnm⟩ := id C0
  have ik4 : ∀ w ∈ u_ws RX4 TX4 6, w ∈ wsX4_isWord := by decide +kernel
  refine lv_aload_n hx hb dX4_isWord_0 rfl (lv_at hl 0 rfl) ?_
  refine va_get (D := D) (ci := 4) (v := .int end_) (C := RX4) (T := TX4) (N := 6) hx hb hts ik4 hown hE.1.1 hP 0 rfl rfl 5 (by decide) (hts (.fieldLink RX4 28 "FortyHouses$Reader" "end" "I") (by decide +kernel)) (fun _ h9 => h9) rfl dX4_isWord_1 ?_
  refine lv_aload_n hx hb dX4_isWord_4 rfl (lv_at hl 0 rfl) ?_
  refine va_get (D := D) (ci := 4) (v := .int start) (C := RX4) (T := TX4) (N := 6) hx hb hts ik4 hown hE.1.1 hP 0 rfl rfl 4 (by decide) (hts (.fieldLink RX4 25 "FortyHouses$Reader" "start" "I") (by decide +kernel)) (fun _ h9 => h9) rfl dX4_isWord_5 ?_
  refine lv_isub hx hb dX4_isWord_8 ?_
  refine lv_aload_n hx hb dX4_isWord_9 rfl (lv_at hl 1 rfl) ?_
  refine ro_str (As := []) (rest := [.int (end_ - start)]) ⟨hx, hb, hml, hown, hts⟩ hE va_S.rf (c_J0_length l D cI cB cJ cZ aK aV x1 hx1) (cwV 0 hts gX4_isWord_J0_length_8abf5 rfl rfl rfl (by decide +kernel) ⟨(Nat.le_of_ble_eq_true rfl), (Nat.le_of_ble_eq_true rfl)⟩) hx1 rfl hl.1 rfl (Nat.le_of_ble_eq_true rfl) dX4_isWord_10 ⟨Nat.zero_le _, Nat.zero_le _⟩ (fun r9 h9 => ?_)
  subst h9
  refine lv_icmp_eq (tgt := 18) hx hb dX4_isWord_13 (by decide) (fun c1 => ?_) (fun c1 => ?_)
  · have h := ite_t c1 h
    refine lv_iconst (v := 0) hx hb dX4_isWord_18 (by decide) ?_
    refine lv_istore_n (lv' := [(2, .int 0), (0, .ref q_this), (1, .ref (aK x1))]) hx hb dX4_isWord_19 rfl hl (by decide) rfl (fun ls hl => ?_)
    exact w_X4_isWord_L20 l D cI cB cJ cZ aK aV N q_this x1 post C0 q_bytes length token value start end_ bytes hx1  hP N 0 h ls (lv_sub hl [1, 2, 0] rfl)
  · have h := ite_f c1 h
    refine lv_iconst (v := 0) hx hb dX4_isWord_16 (by decide) ?_
    exact ro_zret (post := fun r => post r ∧ narrow .boolean (.int r) = .int r) hx hb hr rfl hlk ⟨h, rfl⟩ dX4_isWord_17
abbrev wf_X4_readRun (cI cB cJ cZ : ClassId) (q_this : Nat) (q_bytes : Nat) (length : Int32) (token : Int32) (value : Int32) (start : Int32) (end_ : Int32) (bytes : Nat → Int32) : Int32 × Int32 → va_W := fun u => [(q_this, .inr (4, [.ref q_bytes, .int length, .int u.1, .int u.2, .int start, .int end_])), (q_bytes, .inl (cB, 300, .inl bytes))]
set_option maxHeartbeats 4000000 in
set_option maxRecDepth 100000 in
theorem w_X4_readRun_B11 (l : Launch) (D : va_G) (cI cB cJ cZ : ClassId) (aK aV : Nat → Nat) (N : Nat) {p : Program} {e : Env} {s : State} {m : MethodId} {below : List Frame} {meth : Method} {c : Code} {A : Nat → Prop} (q_this : Nat) (q_bytes : Nat) (length : Int32) (token : Int32) (value : Int32) (start : Int32) (end_ : Int32) (bytes : Nat → Int32) (post : Int32 → Int32 → Prop) (C0 : Cx p s m meth c ([.ref q_this] : List Value).toArray cX4_readRun 3 yX4_readRun.cls yX4_readRun.name none wsX4_readRun D cI cB cJ cZ aK aV A) (hA : ∀ q : Nat, s.heap.size ≤ q → A q)  (kb11 : Int32 → Int32 → Prop) (hkb11 : ∀ (i1_ : Int32) (w2_ : Int32), kb11 i1_ w2_ → ∀ (H : Heap) (locs : List Loc), va_P D vwCl [(q_this, .inr (4, [.ref q_bytes, .int length, .int 7, .int w2_, .int start, .int end_])), (q_bytes, .inl (cB, 300, .inl bytes))] H → va_D A [(q_this, .inr (4, [.ref q_bytes, .int length, .int 7, .int w2_, .int start, .int end_])), (q_bytes, .inl (cB, 300, .inl bytes))] → va_S A s.heap H locs → ∀ ls : Array Slot, lv_has ls 3 [(0, .ref q_this), (1, .int i1_)] → W p l e { frames := 0, cells := 0, slots := 0, locals := 0 } s m ([.ref q_this] : List Value).toArray below meth c H locs 0 0 (MQ below (va_Qv (fun (u : Int32 × Int32) => post u.1 u.2) (BW D A (wf_X4_readRun cI cB cJ cZ q_this q_bytes length token value start end_ bytes)) A) ([.ref q_this] : List Value).toArray s 0 0 A) (F0 m 11 ls [])) (i1 : Int32) (w2 : Int32) (h : f_X4_readRun_B11 N end_ bytes post kb11 i1 w2) (H : Heap) (locs : List Loc) (hP : va_P D vwCl [(q_this, .inr (4, [.ref q_bytes, .int length, .int 7, .int w2, .int start, .int end_])), (q_bytes, .inl (cB, 300, .inl bytes))] H) (hD : va_D A [(q_this, .inr (4, [.ref q_bytes, .int length, .int 7, .int w2, .int start, .int end_])), (q_bytes, .inl (cB, 300, .inl bytes))]) (hS : va_S A s.heap H locs) (ls : Array Slot) (hl : lv_has ls 3 [(0, .ref q_this), (1, .int i1)]) : W p l e { frames := 0, cells := 0, slots := 0, locals := 0 } s m ([.ref q_this] : List Value).toArray below meth c H locs 0 0 (MQ below (va_Qv (fun (u : Int32 × Int32) => post u.1 u.2) (BW D A (wf_X4_readRun cI cB cJ cZ q_this q_bytes length token value start end_ bytes)) A) ([.ref q_this] : List Value).toArray s 0 0 A) (F0 m 11 ls []) := by
  obtain ⟨hx, hb, hr, hml, hown, hts, hE, hlk, hnm⟩ := id C0
  have ik4 : ∀ w ∈ u_ws RX4 TX4 6, w ∈ wsX4_readRun := by decide +kernel
  unfold f_X4_readRun_B11 at h
  refine lv_iload_n hx hb dX4_readRun_11 rfl (lv_at hl 1 rfl) ?_
  refine lv_aload_n hx hb dX4_readRun_12 rfl (lv_at hl 0 rfl) ?_
  refine va_get (D := D) (ci := 4) (v := .int end_) (C := RX4) (T := TX4) (N := 6) hx hb hts ik4 hown hE.1.1 hP 0 rfl rfl 5 (by decide) (hts (.fieldLink RX4 28 "FortyHouses$Reader" "end" "I") (by decide +kernel)) (fun _ h9 => h9) rfl dX4_readRun_13 ?_
  refine lv_icmp_ge (tgt := 71) hx hb dX4_readRun_16 (by decide) (fun c1 => ?_) (fun c1 => ?_)
  · have h := ite_t c1 h
    exact mu_vret (wf := wf_X4_readRun cI cB cJ cZ q_this q_bytes length token value start end_ bytes) (7, w2) hx hb hr hlk hP hD hS h dX4_readRun_71
  · have h := ite_f c1 h
    refine lv_aload_n hx hb dX4_readRun_19 rfl (lv_at hl 0 rfl) ?_
    refine va_get (D := D) (ci := 4) (v := .ref q_bytes) (C := RX4) (T := TX4) (N := 6) hx hb hts ik4 hown hE.1.1 hP 0 rfl rfl 0 (by decide) (hts (.fieldLink RX4 11 "FortyHouses$Reader" "bytes" "[B") (by decide +kernel)) (fun _ h9 => h9) rfl dX4_readRun_20 ?_
    refine lv_iload_n hx hb dX4_readRun_23 rfl (lv_at hl 1 rfl) ?_
    obtain ⟨hin, h⟩ := h
    refine va_bald hx hb hE.1.1 hP 1 1 rfl rfl hin dX4_readRun_24 ?_
    refine lv_bipush (v := 97) hx hb dX4_readRun_25 (by decide) ?_
    refine lv_isub hx hb dX4_readRun_27 ?_
    refine lv_topi (fun v3 ex => ?_)
    have h := nm_of ex h
    refine lv_istore_n (lv' := [(2, .int v3), (0, .ref q_this), (1, .int i1)]) hx hb dX4_readRun_28 rfl hl (by decide) rfl (fun ls hl => ?_)
    refine lv_iload_n hx hb dX4_readRun_29 rfl (lv_at hl 0 rfl) ?_
    refine lv_bipush (v := 6) hx hb dX4_readRun_30 (by decide) ?_
    refine lv_icmp_ge (tgt := 47) hx hb dX4_readRun_32 (by decide) (fun c1 => ?_) (fun c1 => ?_)
    · have h := ite_t c1 h
      refine lv_aload_n hx hb dX4_readRun_47 rfl (lv_at hl 1 rfl) ?_
      refine lv_iconst (v := 0) hx hb dX4_readRun_48 (by decide) ?_
      refine va_put (D := D) (ci := 4) (v := .int 0) (ty := .int) (C := RX4) (T := TX4) (N := 6) hx hb hts ik4 tyX4 tyX4_ok nmX4 hown hE.1.1 hP hD hS 0 rfl rfl 2 (by decide) (hts (.fieldLink RX4 19 "FortyHouses$Reader" "token" "I") (by decide +kernel)) (fun _ h9 => h9) rfl (by decide +kernel) rfl rfl (Nat.le_of_ble_eq_true rfl) dX4_readRun_49 (fun H locs hP hD hS => ?_)
      have hP : va_P D vwCl [(q_this, .inr (4, [.ref q_bytes, .int length, .int 0, .int w2, .int start, .int end_])), (q_bytes, .inl (cB, 300, .inl bytes))] H := hP
      have hD : va_D A [(q_this, .inr (4, [.ref q_bytes, .int length, .int 0, .int w2, .int start, .int end_])), (q_bytes, .inl (cB, 300, .inl bytes))] := hD
      exact mu_vret (wf := wf_X4_readRun cI cB cJ cZ q_this q_bytes length token value start end_ bytes) (0, w2) hx hb hr hlk hP hD hS h dX4_readRun_52
    · have h := ite_f c1 h
      refine lv_aload_n hx hb dX4_readRun_35 rfl (lv_at hl 1 rfl) ?_
      refine va_get (D := D) (ci := 4) (v := .int w2) (C := RX4) (T := TX4) (N := 6) hx hb hts ik4 hown hE.1.1 hP 0 rfl rfl 3 (by decide) (hts (.fieldLink RX4 22 "FortyHouses$Reader" "value" "I") (by decide +kernel)) (fun _ h9 => h9) rfl dX4_readRun_36 ?_
      refine lv_iload_n hx hb dX4_readRun_39 rfl (lv_at hl 0 rfl) ?_
      refine lv_ishr hx hb dX4_readRun_40 ?_
      refine lv_iconst (v := 1) hx hb dX4_readRun_41 (by decide) ?_
      refine lv_iand hx hb dX4_readRun_42 ?_
      refine lv_iconst (v := 1) hx hb dX4_readRun_43 (by decide) ?_
      refine lv_icmp_ne (tgt := 53) hx hb dX4_readRun_44 (by decide) (fun c1 => ?_) (fun c1 => ?_)
      · have h := ite_t c1 h
        refine lv_aload_n hx hb dX4_readRun_53 rfl (lv_at hl 1 rfl) ?_
        refine lv_dup hx hb dX4_readRun_54 rfl ?_
        refine va_get (D := D) (ci := 4) (v := .int w2) (C := RX4) (T := TX4) (N := 6) hx hb hts ik4 hown hE.1.1 hP 0 rfl rfl 3 (by decide) (hts (.fieldLink RX4 22 "FortyHouses$Reader" "value" "I") (by decide +kernel)) (fun _ h9 => h9) rfl dX4_readRun_55 ?_
        refine lv_iconst (v := 1) hx hb dX4_readRun_58 (by decide) ?_
        refine lv_iload_n hx hb dX4_readRun_59 rfl (lv_at hl 0 rfl) ?_
        refine lv_ishl hx hb dX4_readRun_60 ?_
        refine lv_ior hx hb dX4_readRun_61 ?_
        refine lv_topi (fun v4 ex => ?_)
        have h := nm_of ex h
        refine va_put (D := D) (ci := 4) (v := .int v4) (ty := .int) (C := RX4) (T := TX4) (N := 6) hx hb hts ik4 tyX4 tyX4_ok nmX4 hown hE.1.1 hP hD hS 0 rfl rfl 3 (by decide) (hts (.fieldLink RX4 22 "FortyHouses$Reader" "value" "I") (by decide +kernel)) (fun _ h9 => h9) rfl (by decide +kernel) rfl rfl (Nat.le_of_ble_eq_true rfl) dX4_readRun_62 (fun H locs hP hD hS => ?_)
        have hP : va_P D vwCl [(q_this, .inr (4, [.ref q_bytes, .int length, .int 7, .int v4, .int start, .int end_])), (q_bytes, .inl (cB, 300, .inl bytes))] H := hP
        have hD : va_D A [(q_this, .inr (4, [.ref q_bytes, .int length, .int 7, .int v4, .int start, .int end_])), (q_bytes, .inl (cB, 300, .inl bytes))] := hD
        obtain ⟨v5, ex⟩ : ∃ y : Int32, y = (i1 + 1) := ⟨_, rfl⟩
        have h := nm_of ex h
        refine lv_iinc (v := v5) (lv' := [(1, .int v5), (2, .int v3), (0, .ref q_this)]) hx hb dX4_readRun_65 hl (k := 2) rfl (by rw [ex]; rfl) (by decide) rfl (fun ls hl => ?_)
        refine lv_goto (tgt := 11) hx hb dX4_readRun_68 (by decide) ?_
        exact hkb11 v5 v4 h _ _ hP hD hS ls (lv_sub hl [2, 0] rfl)
      · have h := ite_n c1 h
        refine lv_aload_n hx hb dX4_readRun_47 rfl (lv_at hl 1 rfl) ?_
        refine lv_iconst (v := 0) hx hb dX4_readRun_48 (by decide) ?_
        refine va_put (D := D) (ci := 4) (v := .int 0) (ty := .int) (C := RX4) (T := TX4) (N := 6) hx hb hts ik4 tyX4 tyX4_ok nmX4 hown hE.1.1 hP hD hS 0 rfl rfl 2 (by decide) (hts (.fieldLink RX4 19 "FortyHouses$Reader" "token" "I") (by decide +kernel)) (fun _ h9 => h9) rfl (by decide +kernel) rfl rfl (Nat.le_of_ble_eq_true rfl) dX4_readRun_49 (fun H locs hP hD hS => ?_)
        have hP : va_P D vwCl [(q_this, .inr (4, [.ref q_bytes, .int length, .int 0, .int w2, .int start, .int end_])), (q_bytes, .inl (cB, 300, .inl bytes))] H := hP
        have hD : va_D A [(q_this, .inr (4, [.ref q_bytes, .int length, .int 0, .int w2, .int start, .int end_])), (q_bytes, .inl (cB, 300, .inl bytes))] := hD
        exact mu_vret (wf := wf_X4_readRun cI cB cJ cZ q_this q_bytes length token value start end_ bytes) (0, w2) hx hb hr hlk hP hD hS h dX4_readRun_52
set_option maxHeartbeats 4000000 in
set_option maxRecDepth 100000 in
theorem w_X4_readRun_L11 (l : Launch) (D : va_G) (cI cB cJ cZ : ClassId) (aK aV : Nat → Nat) (N : Nat) {p : Program} {e : Env} {s : State} {m : MethodId} {below : List Frame} {meth : Method} {c : Code} {A : Nat → Prop} (q_this : Nat) (q_bytes : Nat) (length : Int32) (token : Int32) (value : Int32) (start : Int32) (end_ : Int32) (bytes : Nat → Int32) (post : Int32 → Int32 → Prop) (C0 : Cx p s m meth c ([.ref q_this] : List Value).toArray cX4_readRun 3 yX4_readRun.cls yX4_readRun.name none wsX4_readRun D cI cB cJ cZ aK aV A) (hA : ∀ q : Nat, s.heap.size ≤ q → A q)   : ∀ (n_ : Nat) (i1 : Int32) (w2 : Int32), f_X4_readRun_L11 N end_ bytes post n_ i1 w2 → ∀ (H : Heap) (locs : List Loc), va_P D vwCl [(q_this, .inr (4, [.ref q_bytes, .int length, .int 7, .int w2, .int start, .int end_])), (q_bytes, .inl (cB, 300, .inl bytes))] H → va_D A [(q_this, .inr (4, [.ref q_bytes, .int length, .int 7, .int w2, .int start, .int end_])), (q_bytes, .inl (cB, 300, .inl bytes))] → va_S A s.heap H locs → ∀ ls : Array Slot, lv_has ls 3 [(0, .ref q_this), (1, .int i1)] → W p l e { frames := 0, cells := 0, slots := 0, locals := 0 } s m ([.ref q_this] : List Value).toArray below meth c H locs 0 0 (MQ below (va_Qv (fun (u : Int32 × Int32) => post u.1 u.2) (BW D A (wf_X4_readRun cI cB cJ cZ q_this q_bytes length token value start end_ bytes)) A) ([.ref q_this] : List Value).toArray s 0 0 A) (F0 m 11 ls []) := by
  intro n_
  induction n_ with
  | zero => intro i1 w2 h; exact h.elim
  | succ n_ ih =>
    intro i1 w2 h H locs hP hD hS ls hl
    exact w_X4_readRun_B11 l D cI cB cJ cZ aK aV N q_this q_bytes length token value start end_ bytes post C0 hA (f_X4_readRun_L11 N end_ bytes post n_) ih i1 w2 h H locs hP hD hS ls hl
set_option maxHeartbeats 4000000 in
set_option maxRecDepth 100000 in
theorem c_X4_readRun (l : Launch) (D : va_G) (cI cB cJ cZ : ClassId) (aK aV : Nat → Nat) (N : Nat) (q_this : Nat) (q_bytes : Nat) (length : Int32) (token : Int32) (value : Int32) (start : Int32) (end_ : Int32) (bytes : Nat → Int32) (sz : Nat) {post : Int32 → Int32 → Prop} (h : f_X4_readRun N value start end_ bytes post) : Met l yX4_readRun wsX4_readRun { frames := 0, cells := 0, slots := 0, locals := 0 } (PW D cI cB cJ cZ aK aV [.ref q_this] [(q_this, .inr (4, [.ref q_bytes, .int length, .int token, .int value, .int start, .int end_])), (q_bytes, .inl (cB, 300, .inl bytes))] sz) (va_Qv (fun (u : Int32 × Int32) => post u.1 u.2) (BW D (va_A [(q_this, .inr (4, [.ref q_bytes, .int length, .int token, .int value, .int start, .int end_])), (q_bytes, .inl (cB, 300, .inl bytes))] sz) (wf_X4_readRun cI cB cJ cZ q_this q_bytes length token value start end_ bytes)) (va_A [(q_this, .inr (4, [.ref q_bytes, .int length, .int token, .int value, .int start, .int end_])), (q_bytes, .inl (cB, 300, .inl bytes))] sz)) 0 0 (va_A [(q_this, .inr (4, [.ref q_bytes, .int length, .int token, .int value, .int start, .int end_])), (q_bytes, .inl (cB, 300, .inl bytes))] sz) := by
  refine mu_enter (Qc := fun A => (va_Qv (fun (u : Int32 × Int32) => post u.1 u.2) (BW D A (wf_X4_readRun cI cB cJ cZ q_this q_bytes length token value start end_ bytes)) A)) (cc := cX4_readRun) (maxL := 3) (ret := none) (by decide) rfl (Nat.le_of_ble_eq_true rfl) ?_
  intro p e s m below meth c A C0 hA H locs hP hD hS ls hl
  have hl : lv_has ls 3 [(0, .ref q_this)] := hl
  unfold f_X4_readRun at h
  obtain ⟨hx, hb, hr, hml, hown, hts, hE, hlk, hnm⟩ := id C0
  have ik4 : ∀ w ∈ u_ws RX4 TX4 6, w ∈ wsX4_readRun := by decide +kernel
  refine lv_aload_n hx hb dX4_readRun_0 rfl (lv_at hl 0 rfl) ?_
  refine lv_bipush (v := 7) hx hb dX4_readRun_1 (by decide) ?_
  refine va_put (D := D) (ci := 4) (v := .int 7) (ty := .int) (C := RX4) (T := TX4) (N := 6) hx hb hts ik4 tyX4 tyX4_ok nmX4 hown hE.1.1 hP hD hS 0 rfl rfl 2 (by decide) (hts (.fieldLink RX4 19 "FortyHouses$Reader" "token" "I") (by decide +kernel)) (fun _ h9 => h9) rfl (by decide +kernel) rfl rfl (Nat.le_of_ble_eq_true rfl) dX4_readRun_3 (fun H locs hP hD hS => ?_)
  have hP : va_P D vwCl [(q_this, .inr (4, [.ref q_bytes, .int length, .int 7, .int value, .int start, .int end_])), (q_bytes, .inl (cB, 300, .inl bytes))] H := hP
  have hD : va_D A [(q_this, .inr (4, [.ref q_bytes, .int length, .int 7, .int value, .int start, .int end_])), (q_bytes, .inl (cB, 300, .inl bytes))] := hD
  refine lv_aload_n hx hb dX4_readRun_6 rfl (lv_at hl 0 rfl) ?_
  refine va_get (D := D) (ci := 4) (v := .int start) (C := RX4) (T := TX4) (N := 6) hx hb hts ik4 hown hE.1.1 hP 0 rfl rfl 4 (by decide) (hts (.fieldLink RX4 25 "FortyHouses$Reader" "start" "I") (by decide +kernel)) (fun _ h9 => h9) rfl dX4_readRun_7 ?_
  refine lv_istore_n (lv' := [(1, .int start), (0, .ref q_this)]) hx hb dX4_readRun_10 rfl hl (by decide) rfl (fun ls hl => ?_)
  exact w_X4_readRun_L11 l D cI cB cJ cZ aK aV N q_this q_bytes length token value start end_ bytes post C0 hA  N start value h _ _ hP hD hS ls (lv_sub hl [1, 0] rfl)
abbrev wf_X4_readWord (cI cB cJ cZ : ClassId) (q_this : Nat) (q_bytes : Nat) (length : Int32) (token : Int32) (value : Int32) (start : Int32) (end_ : Int32) (bytes : Nat → Int32) : Int32 × Int32 × Int32 → va_W := fun u => [(q_this, .inr (4, [.ref q_bytes, .int length, .int u.1, .int u.2.1, .int start, .int u.2.2])), (q_bytes, .inl (cB, 300, .inl bytes))]
set_option maxHeartbeats 4000000 in
set_option maxRecDepth 100000 in
theorem w_X4_readWord_B0 (l : Launch) (D : va_G) (cI cB cJ cZ : ClassId) (aK aV : Nat → Nat) (N : Nat) {p : Program} {e : Env} {s : State} {m : MethodId} {below : List Frame} {meth : Method} {c : Code} {A : Nat → Prop} (q_this : Nat) (q_bytes : Nat) (length : Int32) (token : Int32) (value : Int32) (start : Int32) (end_ : Int32) (bytes : Nat → Int32) (post : Int32 → Int32 → Int32 → Prop) (C0 : Cx p s m meth c ([.ref q_this] : List Value).toArray cX4_readWord 1 yX4_readWord.cls yX4_readWord.name none wsX4_readWord D cI cB cJ cZ aK aV A) (hA : ∀ q : Nat, s.heap.size ≤ q → A q)  (kb0 : Int32 → Prop) (hkb0 : ∀ (w1_ : Int32), kb0 w1_ → ∀ (H : Heap) (locs : List Loc), va_P D vwCl [(q_this, .inr (4, [.ref q_bytes, .int length, .int token, .int value, .int start, .int w1_])), (q_bytes, .inl (cB, 300, .inl bytes))] H → va_D A [(q_this, .inr (4, [.ref q_bytes, .int length, .int token, .int value, .int start, .int w1_])), (q_bytes, .inl (cB, 300, .inl bytes))] → va_S A s.heap H locs → ∀ ls : Array Slot, lv_has ls 1 [(0, .ref q_this)] → W p l e { frames := 6, cells := 0, slots := 0, locals := 128 } s m ([.ref q_this] : List Value).toArray below meth c H locs 0 0 (MQ below (va_Qv (fun (u : Int32 × Int32 × Int32) => post u.1 u.2.1 u.2.2) (BW D A (wf_X4_readWord cI cB cJ cZ q_this q_bytes length token value start end_ bytes)) A) ([.ref q_this] : List Value).toArray s 0 0 A) (F0 m 0 ls [])) (ke0 : Int32 → Prop) (hke0 : ∀ (w1_ : Int32), ke0 w1_ → ∀ (H : Heap) (locs : List Loc), va_P D vwCl [(q_this, .inr (4, [.ref q_bytes, .int length, .int token, .int value, .int start, .int w1_])), (q_bytes, .inl (cB, 300, .inl bytes))] H → va_D A [(q_this, .inr (4, [.ref q_bytes, .int length, .int token, .int value, .int start, .int w1_])), (q_bytes, .inl (cB, 300, .inl bytes))] → va_S A s.heap H locs → ∀ ls : Array Slot, lv_has ls 1 [(0, .ref q_this)] → W p l e { frames := 6, cells := 0, slots := 0, locals := 128 } s m ([.ref q_this] : List Value).toArray below meth c H locs 0 0 (MQ below (va_Qv (fun (u : Int32 × Int32 × Int32) => post u.1 u.2.1 u.2.2) (BW D A (wf_X4_readWord cI cB cJ cZ q_this q_bytes length token value start end_ bytes)) A) ([.ref q_this] : List Value).toArray s 0 0 A) (F0 m 35 ls [])) (w1 : Int32) (h : f_X4_readWord_B0 N length bytes kb0 ke0 w1) (H : Heap) (locs : List Loc) (hP : va_P D vwCl [(q_this, .inr (4, [.ref q_bytes, .int length, .int token, .int value, .int start, .int w1])), (q_bytes, .inl (cB, 300, .inl bytes))] H) (hD : va_D A [(q_this, .inr (4, [.ref q_bytes, .int length, .int token, .int value, .int start, .int w1])), (q_bytes, .inl (cB, 300, .inl bytes))]) (hS : va_S A s.heap H locs) (ls : Array Slot) (hl : lv_has ls 1 [(0, .ref q_this)]) : W p l e { frames := 6, cells := 0, slots := 0, locals := 128 } s m ([.ref q_this] : List Value).toArray below meth c H locs 0 0 (MQ below (va_Qv (fun (u : Int32 × Int32 × Int32) => post u.1 u.2.1 u.2.2) (BW D A (wf_X4_readWord cI cB cJ cZ q_this q_bytes length token value start end_ bytes)) A) ([.ref q_this] : List Value).toArray s 0 0 A) (F0 m 0 ls []) := by
  obtain ⟨hx, hb, hr, hml, hown, hts, hE, hlk, hnm⟩ := id C0
  have ik4 : ∀ w ∈ u_ws RX4 TX4 6, w ∈ wsX4_readWord := by decide +kernel
  unfold f_X4_readWord_B0 at h
  refine lv_aload_n hx hb dX4_readWord_0 rfl (lv_at hl 0 rfl) ?_
  refine va_get (D := D) (ci := 4) (v := .int w1) (C := RX4) (T := TX4) (N := 6) hx hb hts ik4 hown hE.1.1 hP 0 rfl rfl 5 (by decide) (hts (.fieldLink RX4 28 "FortyHouses$Reader" "end" "I") (by decide +kernel)) (fun _ h9 => h9) rfl dX4_readWord_1 ?_
  refine lv_aload_n hx hb dX4_readWord_4 rfl (lv_at hl 0 rfl) ?_
  refine va_get (D := D) (ci := 4) (v := .int length) (C := RX4) (T := TX4) (N := 6) hx hb hts ik4 hown hE.1.1 hP 0 rfl rfl 1 (by decide) (hts (.fieldLink RX4 15 "FortyHouses$Reader" "length" "I") (by decide +kernel)) (fun _ h9 => h9) rfl dX4_readWord_5 ?_
  refine lv_icmp_ge (tgt := 35) hx hb dX4_readWord_8 (by decide) (fun c1 => ?_) (fun c1 => ?_)
  · have h := ite_t c1 h
    exact hke0 w1 h _ _ hP hD hS ls hl
  · have h := ite_f c1 h
    refine lv_aload_n hx hb dX4_readWord_11 rfl (lv_at hl 0 rfl) ?_
    refine lv_aload_n hx hb dX4_readWord_12 rfl (lv_at hl 0 rfl) ?_
    refine va_get (D := D) (ci := 4) (v := .int w1) (C := RX4) (T := TX4) (N := 6) hx hb hts ik4 hown hE.1.1 hP 0 rfl rfl 5 (by decide) (hts (.fieldLink RX4 28 "FortyHouses$Reader" "end" "I") (by decide +kernel)) (fun _ h9 => h9) rfl dX4_readWord_13 ?_
    refine ro_Vi (C := RX4) (As := [.int w1]) (rest := []) ⟨hx, hb, hml, hown, hts⟩ hE hS hP [0, 1] (c_X4_isLetter l D cI cB cJ cZ aK aV N q_this q_bytes length token value start w1 bytes w1 h) (cwV 1 hts gX4_readWord_X4_isLetter rfl rfl rfl (by decide +kernel) ⟨(Nat.le_of_ble_eq_true rfl), (Nat.le_of_ble_eq_true rfl)⟩) rfl 0 rfl rfl rfl hl.1 rfl (Nat.le_of_ble_eq_true rfl) dX4_readWord_16 ⟨Nat.zero_le _, Nat.zero_le _⟩ (fun r2 h => ?_)
    obtain ⟨h, nbr2⟩ := h
    refine lv_if_eq (tgt := 35) hx hb dX4_readWord_19 (by decide) (fun c1 => ?_) (fun c1 => ?_)
    · have h := ite_t c1 h
      exact hke0 w1 h _ _ hP hD hS ls hl
    · have h := ite_f c1 h
      refine lv_aload_n hx hb dX4_readWord_22 rfl (lv_at hl 0 rfl) ?_
      refine lv_dup hx hb dX4_readWord_23 rfl ?_
      refine va_get (D := D) (ci := 4) (v := .int w1) (C := RX4) (T := TX4) (N := 6) hx hb hts ik4 hown hE.1.1 hP 0 rfl rfl 5 (by decide) (hts (.fieldLink RX4 28 "FortyHouses$Reader" "end" "I") (by decide +kernel)) (fun _ h9 => h9) rfl dX4_readWord_24 ?_
      refine lv_iconst (v := 1) hx hb dX4_readWord_27 (by decide) ?_
      refine lv_iadd hx hb dX4_readWord_28 ?_
      refine lv_topi (fun v3 ex => ?_)
      have h := nm_of ex h
      refine va_put (D := D) (ci := 4) (v := .int v3) (ty := .int) (C := RX4) (T := TX4) (N := 6) hx hb hts ik4 tyX4 tyX4_ok nmX4 hown hE.1.1 hP hD hS 0 rfl rfl 5 (by decide) (hts (.fieldLink RX4 28 "FortyHouses$Reader" "end" "I") (by decide +kernel)) (fun _ h9 => h9) rfl (by decide +kernel) rfl rfl (Nat.le_of_ble_eq_true rfl) dX4_readWord_29 (fun H locs hP hD hS => ?_)
      have hP : va_P D vwCl [(q_this, .inr (4, [.ref q_bytes, .int length, .int token, .int value, .int start, .int v3])), (q_bytes, .inl (cB, 300, .inl bytes))] H := hP
      have hD : va_D A [(q_this, .inr (4, [.ref q_bytes, .int length, .int token, .int value, .int start, .int v3])), (q_bytes, .inl (cB, 300, .inl bytes))] := hD
      refine lv_goto (tgt := 0) hx hb dX4_readWord_32 (by decide) ?_
      exact hkb0 v3 h _ _ hP hD hS ls hl
set_option maxHeartbeats 4000000 in
set_option maxRecDepth 100000 in
theorem w_X4_readWord_L0 (l : Launch) (D : va_G) (cI cB cJ cZ : ClassId) (aK aV : Nat → Nat) (N : Nat) {p : Program} {e : Env} {s : State} {m : MethodId} {below : List Frame} {meth : Method} {c : Code} {A : Nat → Prop} (q_this : Nat) (q_bytes : Nat) (length : Int32) (token : Int32) (value : Int32) (start : Int32) (end_ : Int32) (bytes : Nat → Int32) (post : Int32 → Int32 → Int32 → Prop) (C0 : Cx p s m meth c ([.ref q_this] : List Value).toArray cX4_readWord 1 yX4_readWord.cls yX4_readWord.name none wsX4_readWord D cI cB cJ cZ aK aV A) (hA : ∀ q : Nat, s.heap.size ≤ q → A q)  (ke0 : Int32 → Prop) (hke0 : ∀ (w1_ : Int32), ke0 w1_ → ∀ (H : Heap) (locs : List Loc), va_P D vwCl [(q_this, .inr (4, [.ref q_bytes, .int length, .int token, .int value, .int start, .int w1_])), (q_bytes, .inl (cB, 300, .inl bytes))] H → va_D A [(q_this, .inr (4, [.ref q_bytes, .int length, .int token, .int value, .int start, .int w1_])), (q_bytes, .inl (cB, 300, .inl bytes))] → va_S A s.heap H locs → ∀ ls : Array Slot, lv_has ls 1 [(0, .ref q_this)] → W p l e { frames := 6, cells := 0, slots := 0, locals := 128 } s m ([.ref q_this] : List Value).toArray below meth c H locs 0 0 (MQ below (va_Qv (fun (u : Int32 × Int32 × Int32) => post u.1 u.2.1 u.2.2) (BW D A (wf_X4_readWord cI cB cJ cZ q_this q_bytes length token value start end_ bytes)) A) ([.ref q_this] : List Value).toArray s 0 0 A) (F0 m 35 ls [])) : ∀ (n_ : Nat) (w1 : Int32), f_X4_readWord_L0 N length bytes ke0 n_ w1 → ∀ (H : Heap) (locs : List Loc), va_P D vwCl [(q_this, .inr (4, [.ref q_bytes, .int length, .int token, .int value, .int start, .int w1])), (q_bytes, .inl (cB, 300, .inl bytes))] H → va_D A [(q_this, .inr (4, [.ref q_bytes, .int length, .int token, .int value, .int start, .int w1])), (q_bytes, .inl (cB, 300, .inl bytes))] → va_S A s.heap H locs → ∀ ls : Array Slot, lv_has ls 1 [(0, .ref q_this)] → W p l e { frames := 6, cells := 0, slots := 0, locals := 128 } s m ([.ref q_this] : List Value).toArray below meth c H locs 0 0 (MQ below (va_Qv (fun (u : Int32 × Int32 × Int32) => post u.1 u.2.1 u.2.2) (BW D A (wf_X4_readWord cI cB cJ cZ q_this q_bytes length token value start end_ bytes)) A) ([.ref q_this] : List Value).toArray s 0 0 A) (F0 m 0 ls []) := by
  intro n_
  induction n_ with
  | zero => intro w1 h; exact h.elim
  | succ n_ ih =>
    intro w1 h H locs hP hD hS ls hl
    exact w_X4_readWord_B0 l D cI cB cJ cZ aK aV N q_this q_bytes length token value start end_ bytes post C0 hA (f_X4_readWord_L0 N length bytes ke0 n_) ih ke0 hke0 w1 h H locs hP hD hS ls hl
set_option maxHeartbeats 4000000 in
set_option maxRecDepth 100000 in
theorem c_X4_readWord (l : Launch) (D : va_G) (cI cB cJ cZ : ClassId) (aK aV : Nat → Nat) (N : Nat) (q_this : Nat) (q_bytes : Nat) (length : Int32) (token : Int32) (value : Int32) (start : Int32) (end_ : Int32) (bytes : Nat → Int32) (sz : Nat) {post : Int32 → Int32 → Int32 → Prop} (h : f_X4_readWord N length value start end_ bytes post) : Met l yX4_readWord wsX4_readWord { frames := 6, cells := 0, slots := 0, locals := 128 } (PW D cI cB cJ cZ aK aV [.ref q_this] [(q_this, .inr (4, [.ref q_bytes, .int length, .int token, .int value, .int start, .int end_])), (q_bytes, .inl (cB, 300, .inl bytes))] sz) (va_Qv (fun (u : Int32 × Int32 × Int32) => post u.1 u.2.1 u.2.2) (BW D (va_A [(q_this, .inr (4, [.ref q_bytes, .int length, .int token, .int value, .int start, .int end_])), (q_bytes, .inl (cB, 300, .inl bytes))] sz) (wf_X4_readWord cI cB cJ cZ q_this q_bytes length token value start end_ bytes)) (va_A [(q_this, .inr (4, [.ref q_bytes, .int length, .int token, .int value, .int start, .int end_])), (q_bytes, .inl (cB, 300, .inl bytes))] sz)) 0 0 (va_A [(q_this, .inr (4, [.ref q_bytes, .int length, .int token, .int value, .int start, .int end_])), (q_bytes, .inl (cB, 300, .inl bytes))] sz) := by
  refine mu_enter (Qc := fun A => (va_Qv (fun (u : Int32 × Int32 × Int32) => post u.1 u.2.1 u.2.2) (BW D A (wf_X4_readWord cI cB cJ cZ q_this q_bytes length token value start end_ bytes)) A)) (cc := cX4_readWord) (maxL := 1) (ret := none) (by decide) rfl (Nat.le_of_ble_eq_true rfl) ?_
  intro p e s m below meth c A C0 hA H locs hP hD hS ls hl
  have hl : lv_has ls 1 [(0, .ref q_this)] := hl
  unfold f_X4_readWord at h
  obtain ⟨hx, hb, hr, hml, hown, hts, hE, hlk, hnm⟩ := id C0
  have ik4 : ∀ w ∈ u_ws RX4 TX4 6, w ∈ wsX4_readWord := by decide +kernel
  refine w_X4_readWord_L0 l D cI cB cJ cZ aK aV N q_this q_bytes length token value start end_ bytes post C0 hA _ (fun o4 h H locs hP hD hS ls hl => ?_) N end_ h _ _ hP hD hS ls hl
  refine lv_aload_n hx hb dX4_readWord_35 rfl (lv_at hl 0 rfl) ?_
  refine va_ldcS hx hb hown hE.2.2.1.1 dX4_readWord_36 ?_
  refine ro_Vi (C := RX4) (As := [.ref (aK 0)]) (rest := []) ⟨hx, hb, hml, hown, hts⟩ hE hS hP [0, 1] (c_X4_isWord l D cI cB cJ cZ aK aV N q_this q_bytes length token value start o4 bytes 0 (by decide) h) (cwV 1 hts gX4_readWord_X4_isWord rfl rfl rfl (by decide +kernel) ⟨(Nat.le_of_ble_eq_true rfl), (Nat.le_of_ble_eq_true rfl)⟩) rfl 0 rfl rfl rfl hl.1 rfl (Nat.le_of_ble_eq_true rfl) dX4_readWord_38 ⟨Nat.zero_le _, Nat.zero_le _⟩ (fun r5 h => ?_)
  obtain ⟨h, nbr5⟩ := h
  refine lv_if_eq (tgt := 52) hx hb dX4_readWord_41 (by decide) (fun c1 => ?_) (fun c1 => ?_)
  · have h := ite_t c1 h
    refine lv_aload_n hx hb dX4_readWord_52 rfl (lv_at hl 0 rfl) ?_
    refine va_ldcS hx hb hown hE.2.2.1.2.1 dX4_readWord_53 ?_
    refine ro_Vi (C := RX4) (As := [.ref (aK 1)]) (rest := []) ⟨hx, hb, hml, hown, hts⟩ hE hS hP [0, 1] (c_X4_isWord l D cI cB cJ cZ aK aV N q_this q_bytes length token value start o4 bytes 1 (by decide) h) (cwV 1 hts gX4_readWord_X4_isWord rfl rfl rfl (by decide +kernel) ⟨(Nat.le_of_ble_eq_true rfl), (Nat.le_of_ble_eq_true rfl)⟩) rfl 0 rfl rfl rfl hl.1 rfl (Nat.le_of_ble_eq_true rfl) dX4_readWord_55 ⟨Nat.zero_le _, Nat.zero_le _⟩ (fun r6 h => ?_)
    obtain ⟨h, nbr6⟩ := h
    refine lv_if_eq (tgt := 69) hx hb dX4_readWord_58 (by decide) (fun c1 => ?_) (fun c1 => ?_)
    · have h := ite_t c1 h
      refine lv_aload_n hx hb dX4_readWord_69 rfl (lv_at hl 0 rfl) ?_
      refine va_ldcS hx hb hown hE.2.2.1.2.2 dX4_readWord_70 ?_
      refine ro_Vi (C := RX4) (As := [.ref (aK 2)]) (rest := []) ⟨hx, hb, hml, hown, hts⟩ hE hS hP [0, 1] (c_X4_isWord l D cI cB cJ cZ aK aV N q_this q_bytes length token value start o4 bytes 2 (by decide) h) (cwV 1 hts gX4_readWord_X4_isWord rfl rfl rfl (by decide +kernel) ⟨(Nat.le_of_ble_eq_true rfl), (Nat.le_of_ble_eq_true rfl)⟩) rfl 0 rfl rfl rfl hl.1 rfl (Nat.le_of_ble_eq_true rfl) dX4_readWord_72 ⟨Nat.zero_le _, Nat.zero_le _⟩ (fun r7 h => ?_)
      obtain ⟨h, nbr7⟩ := h
      refine lv_if_eq (tgt := 87) hx hb dX4_readWord_75 (by decide) (fun c1 => ?_) (fun c1 => ?_)
      · have h := ite_t c1 h
        refine lv_aload_n hx hb dX4_readWord_87 rfl (lv_at hl 0 rfl) ?_
        refine mu_Vv (C := RX4) (As := []) (rest := []) (wr := []) (wn := (fun u : Int32 × Int32 => [(q_this, .inr (4, [.ref q_bytes, .int length, .int u.1, .int u.2, .int start, .int o4])), (q_bytes, .inl (cB, 300, .inl bytes))])) ⟨hx, hb, hml, hown, hts⟩ hE hP hD hS hA [0, 1] [] [0, 1] (c_X4_readRun l D cI cB cJ cZ aK aV N q_this q_bytes length token value start o4 bytes H.size h) (cwV 0 hts gX4_readWord_X4_readRun rfl rfl rfl (by decide +kernel) ⟨(Nat.le_of_ble_eq_true rfl), (Nat.le_of_ble_eq_true rfl)⟩) rfl rfl (by decide) (by decide) (by decide) (by decide) (fun _ => rfl) 0 rfl rfl rfl hl.1 rfl (Nat.le_of_ble_eq_true rfl) dX4_readWord_88 ⟨Nat.zero_le _, Nat.zero_le _⟩ (fun u H locs h hP hD hS => ?_)
        obtain ⟨u8, u9⟩ := u
        dsimp only at h
        have hP : va_P D vwCl [(q_this, .inr (4, [.ref q_bytes, .int length, .int u8, .int u9, .int start, .int o4])), (q_bytes, .inl (cB, 300, .inl bytes))] H := hP
        have hD : va_D A [(q_this, .inr (4, [.ref q_bytes, .int length, .int u8, .int u9, .int start, .int o4])), (q_bytes, .inl (cB, 300, .inl bytes))] := hD
        exact mu_vret (wf := wf_X4_readWord cI cB cJ cZ q_this q_bytes length token value start end_ bytes) (u8, u9, o4) hx hb hr hlk hP hD hS h dX4_readWord_91
      · have h := ite_f c1 h
        refine lv_aload_n hx hb dX4_readWord_78 rfl (lv_at hl 0 rfl) ?_
        refine lv_bipush (v := 6) hx hb dX4_readWord_79 (by decide) ?_
        refine va_put (D := D) (ci := 4) (v := .int 6) (ty := .int) (C := RX4) (T := TX4) (N := 6) hx hb hts ik4 tyX4 tyX4_ok nmX4 hown hE.1.1 hP hD hS 0 rfl rfl 2 (by decide) (hts (.fieldLink RX4 19 "FortyHouses$Reader" "token" "I") (by decide +kernel)) (fun _ h9 => h9) rfl (by decide +kernel) rfl rfl (Nat.le_of_ble_eq_true rfl) dX4_readWord_81 (fun H locs hP hD hS => ?_)
        have hP : va_P D vwCl [(q_this, .inr (4, [.ref q_bytes, .int length, .int 6, .int value, .int start, .int o4])), (q_bytes, .inl (cB, 300, .inl bytes))] H := hP
        have hD : va_D A [(q_this, .inr (4, [.ref q_bytes, .int length, .int 6, .int value, .int start, .int o4])), (q_bytes, .inl (cB, 300, .inl bytes))] := hD
        refine lv_goto (tgt := 91) hx hb dX4_readWord_84 (by decide) ?_
        exact mu_vret (wf := wf_X4_readWord cI cB cJ cZ q_this q_bytes length token value start end_ bytes) (6, value, o4) hx hb hr hlk hP hD hS h dX4_readWord_91
    · have h := ite_f c1 h
      refine lv_aload_n hx hb dX4_readWord_61 rfl (lv_at hl 0 rfl) ?_
      refine lv_iconst (v := 5) hx hb dX4_readWord_62 (by decide) ?_
      refine va_put (D := D) (ci := 4) (v := .int 5) (ty := .int) (C := RX4) (T := TX4) (N := 6) hx hb hts ik4 tyX4 tyX4_ok nmX4 hown hE.1.1 hP hD hS 0 rfl rfl 2 (by decide) (hts (.fieldLink RX4 19 "FortyHouses$Reader" "token" "I") (by decide +kernel)) (fun _ h9 => h9) rfl (by decide +kernel) rfl rfl (Nat.le_of_ble_eq_true rfl) dX4_readWord_63 (fun H locs hP hD hS => ?_)
      have hP : va_P D vwCl [(q_this, .inr (4, [.ref q_bytes, .int length, .int 5, .int value, .int start, .int o4])), (q_bytes, .inl (cB, 300, .inl bytes))] H := hP
      have hD : va_D A [(q_this, .inr (4, [.ref q_bytes, .int length, .int 5, .int value, .int start, .int o4])), (q_bytes, .inl (cB, 300, .inl bytes))] := hD
      refine lv_goto (tgt := 91) hx hb dX4_readWord_66 (by decide) ?_
      exact mu_vret (wf := wf_X4_readWord cI cB cJ cZ q_this q_bytes length token value start end_ bytes) (5, value, o4) hx hb hr hlk hP hD hS h dX4_readWord_91
  · have h := ite_f c1 h
    refine lv_aload_n hx hb dX4_readWord_44 rfl (lv_at hl 0 rfl) ?_
    refine lv_iconst (v := 4) hx hb dX4_readWord_45 (by decide) ?_
    refine va_put (D := D) (ci := 4) (v := .int 4) (ty := .int) (C := RX4) (T := TX4) (N := 6) hx hb hts ik4 tyX4 tyX4_ok nmX4 hown hE.1.1 hP hD hS 0 rfl rfl 2 (by decide) (hts (.fieldLink RX4 19 "FortyHouses$Reader" "token" "I") (by decide +kernel)) (fun _ h9 => h9) rfl (by decide +kernel) rfl rfl (Nat.le_of_ble_eq_true rfl) dX4_readWord_46 (fun H locs hP hD hS => ?_)
    have hP : va_P D vwCl [(q_this, .inr (4, [.ref q_bytes, .int length, .int 4, .int value, .int start, .int o4])), (q_bytes, .inl (cB, 300, .inl bytes))] H := hP
    have hD : va_D A [(q_this, .inr (4, [.ref q_bytes, .int length, .int 4, .int value, .int start, .int o4])), (q_bytes, .inl (cB, 300, .inl bytes))] := hD
    refine lv_goto (tgt := 91) hx hb dX4_readWord_49 (by decide) ?_
    exact mu_vret (wf := wf_X4_readWord cI cB cJ cZ q_this q_bytes length token value start end_ bytes) (4, value, o4) hx hb hr hlk hP hD hS h dX4_readWord_91
set_option maxHeartbeats 4000000 in
set_option maxRecDepth 100000 in
theorem c_X4_isDigit (l : Launch) (D : va_G) (cI cB cJ cZ : ClassId) (aK aV : Nat → Nat) (N : Nat) (q_this : Nat) (q_bytes : Nat) (length : Int32) (token : Int32) (value : Int32) (start : Int32) (end_ : Int32) (bytes : Nat → Int32) (x1 : Int32) {post : Int32 → Prop} (h : f_X4_isDigit N bytes x1 post) : Met l yX4_isDigit wsX4_isDigit { frames := 0, cells := 0, slots := 0, locals := 0 } (PR D cI cB cJ cZ aK aV [.ref q_this, .int x1] [(q_this, .inr (4, [.ref q_bytes, .int length, .int token, .int value, .int start, .int end_])), (q_bytes, .inl (cB, 300, .inl bytes))]) (vp_Si (fun r => post r ∧ narrow .boolean (.int r) = .int r)) 0 0 (fun _ => False) := by
  refine ro_enter (cc := cX4_isDigit) (maxL := 2) (ret := (some .boolean)) (by decide) rfl (Nat.le_of_ble_eq_true rfl) ?_
  intro p e s m below meth c C0 hP ls hl
  have hl : lv_has ls 2 [(0, .ref q_this), (1, .int x1)] := hl
  unfold f_X4_isDigit at h
  obtain ⟨hx, hb, hr, hml, hown, hts, hE, hlk, hnm⟩ := id C0
  have ik4 : ∀ w ∈ u_ws RX4 TX4 6, w ∈ wsX4_isDigit := by decide +kernel
  refine lv_aload_n hx hb dX4_isDigit_0 rfl (lv_at hl 0 rfl) ?_
  refine va_get (D := D) (ci := 4) (v := .ref q_bytes) (C := RX4) (T := TX4) (N := 6) hx hb hts ik4 hown hE.1.1 hP 0 rfl rfl 0 (by decide) (hts (.fieldLink RX4 11 "FortyHouses$Reader" "bytes" "[B") (by decide +kernel)) (fun _ h9 => h9) rfl dX4_isDigit_1 ?_
  refine lv_iload_n hx hb dX4_isDigit_4 rfl (lv_at hl 1 rfl) ?_
  obtain ⟨hin, h⟩ := h
  refine va_bald hx hb hE.1.1 hP 1 1 rfl rfl hin dX4_isDigit_5 ?_
  refine lv_bipush (v := 48) hx hb dX4_isDigit_6 (by decide) ?_
  refine lv_icmp_lt (tgt := 26) hx hb dX4_isDigit_8 (by decide) (fun c1 => ?_) (fun c1 => ?_)
  · have h := ite_t c1 h
    refine lv_iconst (v := 0) hx hb dX4_isDigit_26 (by decide) ?_
    exact ro_zret (post := fun r => post r ∧ narrow .boolean (.int r) = .int r) hx hb hr rfl hlk ⟨h, rfl⟩ dX4_isDigit_27
  · have h := ite_f c1 h
    refine lv_aload_n hx hb dX4_isDigit_11 rfl (lv_at hl 0 rfl) ?_
    refine va_get (D := D) (ci := 4) (v := .ref q_bytes) (C := RX4) (T := TX4) (N := 6) hx hb hts ik4 hown hE.1.1 hP 0 rfl rfl 0 (by decide) (hts (.fieldLink RX4 11 "FortyHouses$Reader" "bytes" "[B") (by decide +kernel)) (fun _ h9 => h9) rfl dX4_isDigit_12 ?_
    refine lv_iload_n hx hb dX4_isDigit_15 rfl (lv_at hl 1 rfl) ?_
    obtain ⟨hin, h⟩ := h
    refine va_bald hx hb hE.1.1 hP 1 1 rfl rfl hin dX4_isDigit_16 ?_
    refine lv_bipush (v := 57) hx hb dX4_isDigit_17 (by decide) ?_
    refine lv_icmp_gt (tgt := 26) hx hb dX4_isDigit_19 (by decide) (fun c1 => ?_) (fun c1 => ?_)
    · have h := ite_t c1 h
      refine lv_iconst (v := 0) hx hb dX4_isDigit_26 (by decide) ?_
      exact ro_zret (post := fun r => post r ∧ narrow .boolean (.int r) = .int r) hx hb hr rfl hlk ⟨h, rfl⟩ dX4_isDigit_27
    · have h := ite_f c1 h
      refine lv_iconst (v := 1) hx hb dX4_isDigit_22 (by decide) ?_
      refine lv_goto (tgt := 27) hx hb dX4_isDigit_23 (by decide) ?_
      exact ro_zret (post := fun r => post r ∧ narrow .boolean (.int r) = .int r) hx hb hr rfl hlk ⟨h, rfl⟩ dX4_isDigit_27
abbrev wf_X4_readNumber (cI cB cJ cZ : ClassId) (q_this : Nat) (q_bytes : Nat) (length : Int32) (token : Int32) (value : Int32) (start : Int32) (end_ : Int32) (bytes : Nat → Int32) : Int32 × Int32 × Int32 → va_W := fun u => [(q_this, .inr (4, [.ref q_bytes, .int length, .int u.1, .int u.2.1, .int start, .int u.2.2])), (q_bytes, .inl (cB, 300, .inl bytes))]
set_option maxHeartbeats 4000000 in
set_option maxRecDepth 100000 in
theorem w_X4_readNumber_B0 (l : Launch) (D : va_G) (cI cB cJ cZ : ClassId) (aK aV : Nat → Nat) (N : Nat) {p : Program} {e : Env} {s : State} {m : MethodId} {below : List Frame} {meth : Method} {c : Code} {A : Nat → Prop} (q_this : Nat) (q_bytes : Nat) (length : Int32) (token : Int32) (value : Int32) (start : Int32) (end_ : Int32) (bytes : Nat → Int32) (post : Int32 → Int32 → Int32 → Prop) (C0 : Cx p s m meth c ([.ref q_this] : List Value).toArray cX4_readNumber 2 yX4_readNumber.cls yX4_readNumber.name none wsX4_readNumber D cI cB cJ cZ aK aV A) (hA : ∀ q : Nat, s.heap.size ≤ q → A q)  (kb0 : Int32 → Int32 → Prop) (hkb0 : ∀ (w1_ : Int32) (w2_ : Int32), kb0 w1_ w2_ → ∀ (H : Heap) (locs : List Loc), va_P D vwCl [(q_this, .inr (4, [.ref q_bytes, .int length, .int token, .int w1_, .int start, .int w2_])), (q_bytes, .inl (cB, 300, .inl bytes))] H → va_D A [(q_this, .inr (4, [.ref q_bytes, .int length, .int token, .int w1_, .int start, .int w2_])), (q_bytes, .inl (cB, 300, .inl bytes))] → va_S A s.heap H locs → ∀ ls : Array Slot, lv_has ls 2 [(0, .ref q_this)] → W p l e { frames := 1, cells := 0, slots := 0, locals := 21 } s m ([.ref q_this] : List Value).toArray below meth c H locs 0 0 (MQ below (va_Qv (fun (u : Int32 × Int32 × Int32) => post u.1 u.2.1 u.2.2) (BW D A (wf_X4_readNumber cI cB cJ cZ q_this q_bytes length token value start end_ bytes)) A) ([.ref q_this] : List Value).toArray s 0 0 A) (F0 m 0 ls [])) (ke0 : Int32 → Int32 → Prop) (hke0 : ∀ (w1_ : Int32) (w2_ : Int32), ke0 w1_ w2_ → ∀ (H : Heap) (locs : List Loc), va_P D vwCl [(q_this, .inr (4, [.ref q_bytes, .int length, .int token, .int w1_, .int start, .int w2_])), (q_bytes, .inl (cB, 300, .inl bytes))] H → va_D A [(q_this, .inr (4, [.ref q_bytes, .int length, .int token, .int w1_, .int start, .int w2_])), (q_bytes, .inl (cB, 300, .inl bytes))] → va_S A s.heap H locs → ∀ ls : Array Slot, lv_has ls 2 [(0, .ref q_this)] → W p l e { frames := 1, cells := 0, slots := 0, locals := 21 } s m ([.ref q_this] : List Value).toArray below meth c H locs 0 0 (MQ below (va_Qv (fun (u : Int32 × Int32 × Int32) => post u.1 u.2.1 u.2.2) (BW D A (wf_X4_readNumber cI cB cJ cZ q_this q_bytes length token value start end_ bytes)) A) ([.ref q_this] : List Value).toArray s 0 0 A) (F0 m 64 ls [])) (w1 : Int32) (w2 : Int32) (h : f_X4_readNumber_B0 N length bytes kb0 ke0 w1 w2) (H : Heap) (locs : List Loc) (hP : va_P D vwCl [(q_this, .inr (4, [.ref q_bytes, .int length, .int token, .int w1, .int start, .int w2])), (q_bytes, .inl (cB, 300, .inl bytes))] H) (hD : va_D A [(q_this, .inr (4, [.ref q_bytes, .int length, .int token, .int w1, .int start, .int w2])), (q_bytes, .inl (cB, 300, .inl bytes))]) (hS : va_S A s.heap H locs) (ls : Array Slot) (hl : lv_has ls 2 [(0, .ref q_this)]) : W p l e { frames := 1, cells := 0, slots := 0, locals := 21 } s m ([.ref q_this] : List Value).toArray below meth c H locs 0 0 (MQ below (va_Qv (fun (u : Int32 × Int32 × Int32) => post u.1 u.2.1 u.2.2) (BW D A (wf_X4_readNumber cI cB cJ cZ q_this q_bytes length token value start end_ bytes)) A) ([.ref q_this] : List Value).toArray s 0 0 A) (F0 m 0 ls []) := by
  obtain ⟨hx, hb, hr, hml, hown, hts, hE, hlk, hnm⟩ := id C0
  have ik4 : ∀ w ∈ u_ws RX4 TX4 6, w ∈ wsX4_readNumber := by decide +kernel
  unfold f_X4_readNumber_B0 at h
  refine lv_aload_n hx hb dX4_readNumber_0 rfl (lv_at hl 0 rfl) ?_
  refine va_get (D := D) (ci := 4) (v := .int w2) (C := RX4) (T := TX4) (N := 6) hx hb hts ik4 hown hE.1.1 hP 0 rfl rfl 5 (by decide) (hts (.fieldLink RX4 28 "FortyHouses$Reader" "end" "I") (by decide +kernel)) (fun _ h9 => h9) rfl dX4_readNumber_1 ?_
  refine lv_aload_n hx hb dX4_readNumber_4 rfl (lv_at hl 0 rfl) ?_
  refine va_get (D := D) (ci := 4) (v := .int length) (C := RX4) (T := TX4) (N := 6) hx hb hts ik4 hown hE.1.1 hP 0 rfl rfl 1 (by decide) (hts (.fieldLink RX4 15 "FortyHouses$Reader" "length" "I") (by decide +kernel)) (fun _ h9 => h9) rfl dX4_readNumber_5 ?_
  refine lv_icmp_ge (tgt := 64) hx hb dX4_readNumber_8 (by decide) (fun c1 => ?_) (fun c1 => ?_)
  · have h := ite_t c1 h
    exact hke0 w1 w2 h _ _ hP hD hS ls hl
  · have h := ite_f c1 h
    refine lv_aload_n hx hb dX4_readNumber_11 rfl (lv_at hl 0 rfl) ?_
    refine lv_aload_n hx hb dX4_readNumber_12 rfl (lv_at hl 0 rfl) ?_
    refine va_get (D := D) (ci := 4) (v := .int w2) (C := RX4) (T := TX4) (N := 6) hx hb hts ik4 hown hE.1.1 hP 0 rfl rfl 5 (by decide) (hts (.fieldLink RX4 28 "FortyHouses$Reader" "end" "I") (by decide +kernel)) (fun _ h9 => h9) rfl dX4_readNumber_13 ?_
    refine ro_Vi (C := RX4) (As := [.int w2]) (rest := []) ⟨hx, hb, hml, hown, hts⟩ hE hS hP [0, 1] (c_X4_isDigit l D cI cB cJ cZ aK aV N q_this q_bytes length token w1 start w2 bytes w2 h) (cwV 1 hts gX4_readNumber_X4_isDigit rfl rfl rfl (by decide +kernel) ⟨(Nat.le_of_ble_eq_true rfl), (Nat.le_of_ble_eq_true rfl)⟩) rfl 0 rfl rfl rfl hl.1 rfl (Nat.le_of_ble_eq_true rfl) dX4_readNumber_16 ⟨Nat.zero_le _, Nat.zero_le _⟩ (fun r3 h => ?_)
    obtain ⟨h, nbr3⟩ := h
    refine lv_if_eq (tgt := 64) hx hb dX4_readNumber_19 (by decide) (fun c1 => ?_) (fun c1 => ?_)
    · have h := ite_t c1 h
      exact hke0 w1 w2 h _ _ hP hD hS ls hl
    · have h := ite_f c1 h
      refine lv_aload_n hx hb dX4_readNumber_22 rfl (lv_at hl 0 rfl) ?_
      refine lv_bipush (v := 100) hx hb dX4_readNumber_23 (by decide) ?_
      refine lv_bipush (v := 10) hx hb dX4_readNumber_25 (by decide) ?_
      refine lv_aload_n hx hb dX4_readNumber_27 rfl (lv_at hl 0 rfl) ?_
      refine va_get (D := D) (ci := 4) (v := .int w1) (C := RX4) (T := TX4) (N := 6) hx hb hts ik4 hown hE.1.1 hP 0 rfl rfl 3 (by decide) (hts (.fieldLink RX4 22 "FortyHouses$Reader" "value" "I") (by decide +kernel)) (fun _ h9 => h9) rfl dX4_readNumber_28 ?_
      refine lv_imul hx hb dX4_readNumber_31 ?_
      refine lv_aload_n hx hb dX4_readNumber_32 rfl (lv_at hl 0 rfl) ?_
      refine va_get (D := D) (ci := 4) (v := .ref q_bytes) (C := RX4) (T := TX4) (N := 6) hx hb hts ik4 hown hE.1.1 hP 0 rfl rfl 0 (by decide) (hts (.fieldLink RX4 11 "FortyHouses$Reader" "bytes" "[B") (by decide +kernel)) (fun _ h9 => h9) rfl dX4_readNumber_33 ?_
      refine lv_aload_n hx hb dX4_readNumber_36 rfl (lv_at hl 0 rfl) ?_
      refine va_get (D := D) (ci := 4) (v := .int w2) (C := RX4) (T := TX4) (N := 6) hx hb hts ik4 hown hE.1.1 hP 0 rfl rfl 5 (by decide) (hts (.fieldLink RX4 28 "FortyHouses$Reader" "end" "I") (by decide +kernel)) (fun _ h9 => h9) rfl dX4_readNumber_37 ?_
      obtain ⟨hin, h⟩ := h
      refine va_bald hx hb hE.1.1 hP 1 1 rfl rfl hin dX4_readNumber_40 ?_
      refine lv_iadd hx hb dX4_readNumber_41 ?_
      refine lv_bipush (v := 48) hx hb dX4_readNumber_42 (by decide) ?_
      refine lv_isub hx hb dX4_readNumber_44 ?_
      refine va_mmin hx hb (hml.trans hl.1.symm) hown (hts (.methodLink RX4 78 Lib.Math.min.name) (by decide +kernel)) (hts (.static Lib.Math.min.name) (by decide +kernel)) (hts (.initialized "java/lang/Math") (by decide +kernel)) (hts (.code Lib.Math.min.name Lib.Math.min.code 2 (some .int)) (by decide +kernel)) (Nat.le_of_ble_eq_true rfl) (Nat.le_of_ble_eq_true rfl) (Nat.zero_le _) (Nat.zero_le _) dX4_readNumber_45 ?_
      refine lv_topi (fun v4 ex => ?_)
      have h := nm_of ex h
      refine va_put (D := D) (ci := 4) (v := .int v4) (ty := .int) (C := RX4) (T := TX4) (N := 6) hx hb hts ik4 tyX4 tyX4_ok nmX4 hown hE.1.1 hP hD hS 0 rfl rfl 3 (by decide) (hts (.fieldLink RX4 22 "FortyHouses$Reader" "value" "I") (by decide +kernel)) (fun _ h9 => h9) rfl (by decide +kernel) rfl rfl (Nat.le_of_ble_eq_true rfl) dX4_readNumber_48 (fun H locs hP hD hS => ?_)
      have hP : va_P D vwCl [(q_this, .inr (4, [.ref q_bytes, .int length, .int token, .int v4, .int start, .int w2])), (q_bytes, .inl (cB, 300, .inl bytes))] H := hP
      have hD : va_D A [(q_this, .inr (4, [.ref q_bytes, .int length, .int token, .int v4, .int start, .int w2])), (q_bytes, .inl (cB, 300, .inl bytes))] := hD
      refine lv_aload_n hx hb dX4_readNumber_51 rfl (lv_at hl 0 rfl) ?_
      refine lv_dup hx hb dX4_readNumber_52 rfl ?_
      refine va_get (D := D) (ci := 4) (v := .int w2) (C := RX4) (T := TX4) (N := 6) hx hb hts ik4 hown hE.1.1 hP 0 rfl rfl 5 (by decide) (hts (.fieldLink RX4 28 "FortyHouses$Reader" "end" "I") (by decide +kernel)) (fun _ h9 => h9) rfl dX4_readNumber_53 ?_
      refine lv_iconst (v := 1) hx hb dX4_readNumber_56 (by decide) ?_
      refine lv_iadd hx hb dX4_readNumber_57 ?_
      refine lv_topi (fun v5 ex => ?_)
      have h := nm_of ex h
      refine va_put (D := D) (ci := 4) (v := .int v5) (ty := .int) (C := RX4) (T := TX4) (N := 6) hx hb hts ik4 tyX4 tyX4_ok nmX4 hown hE.1.1 hP hD hS 0 rfl rfl 5 (by decide) (hts (.fieldLink RX4 28 "FortyHouses$Reader" "end" "I") (by decide +kernel)) (fun _ h9 => h9) rfl (by decide +kernel) rfl rfl (Nat.le_of_ble_eq_true rfl) dX4_readNumber_58 (fun H locs hP hD hS => ?_)
      have hP : va_P D vwCl [(q_this, .inr (4, [.ref q_bytes, .int length, .int token, .int v4, .int start, .int v5])), (q_bytes, .inl (cB, 300, .inl bytes))] H := hP
      have hD : va_D A [(q_this, .inr (4, [.ref q_bytes, .int length, .int token, .int v4, .int start, .int v5])), (q_bytes, .inl (cB, 300, .inl bytes))] := hD
      refine lv_goto (tgt := 0) hx hb dX4_readNumber_61 (by decide) ?_
      exact hkb0 v4 v5 h _ _ hP hD hS ls hl
set_option maxHeartbeats 4000000 in
set_option maxRecDepth 100000 in
theorem w_X4_readNumber_L0 (l : Launch) (D : va_G) (cI cB cJ cZ : ClassId) (aK aV : Nat → Nat) (N : Nat) {p : Program} {e : Env} {s : State} {m : MethodId} {below : List Frame} {meth : Method} {c : Code} {A : Nat → Prop} (q_this : Nat) (q_bytes : Nat) (length : Int32) (token : Int32) (value : Int32) (start : Int32) (end_ : Int32) (bytes : Nat → Int32) (post : Int32 → Int32 → Int32 → Prop) (C0 : Cx p s m meth c ([.ref q_this] : List Value).toArray cX4_readNumber 2 yX4_readNumber.cls yX4_readNumber.name none wsX4_readNumber D cI cB cJ cZ aK aV A) (hA : ∀ q : Nat, s.heap.size ≤ q → A q)  (ke0 : Int32 → Int32 → Prop) (hke0 : ∀ (w1_ : Int32) (w2_ : Int32), ke0 w1_ w2_ → ∀ (H : Heap) (locs : List Loc), va_P D vwCl [(q_this, .inr (4, [.ref q_bytes, .int length, .int token, .int w1_, .int start, .int w2_])), (q_bytes, .inl (cB, 300, .inl bytes))] H → va_D A [(q_this, .inr (4, [.ref q_bytes, .int length, .int token, .int w1_, .int start, .int w2_])), (q_bytes, .inl (cB, 300, .inl bytes))] → va_S A s.heap H locs → ∀ ls : Array Slot, lv_has ls 2 [(0, .ref q_this)] → W p l e { frames := 1, cells := 0, slots := 0, locals := 21 } s m ([.ref q_this] : List Value).toArray below meth c H locs 0 0 (MQ below (va_Qv (fun (u : Int32 × Int32 × Int32) => post u.1 u.2.1 u.2.2) (BW D A (wf_X4_readNumber cI cB cJ cZ q_this q_bytes length token value start end_ bytes)) A) ([.ref q_this] : List Value).toArray s 0 0 A) (F0 m 64 ls [])) : ∀ (n_ : Nat) (w1 : Int32) (w2 : Int32), f_X4_readNumber_L0 N length bytes ke0 n_ w1 w2 → ∀ (H : Heap) (locs : List Loc), va_P D vwCl [(q_this, .inr (4, [.ref q_bytes, .int length, .int token, .int w1, .int start, .int w2])), (q_bytes, .inl (cB, 300, .inl bytes))] H → va_D A [(q_this, .inr (4, [.ref q_bytes, .int length, .int token, .int w1, .int start, .int w2])), (q_bytes, .inl (cB, 300, .inl bytes))] → va_S A s.heap H locs → ∀ ls : Array Slot, lv_has ls 2 [(0, .ref q_this)] → W p l e { frames := 1, cells := 0, slots := 0, locals := 21 } s m ([.ref q_this] : List Value).toArray below meth c H locs 0 0 (MQ below (va_Qv (fun (u : Int32 × Int32 × Int32) => post u.1 u.2.1 u.2.2) (BW D A (wf_X4_readNumber cI cB cJ cZ q_this q_bytes length token value start end_ bytes)) A) ([.ref q_this] : List Value).toArray s 0 0 A) (F0 m 0 ls []) := by
  intro n_
  induction n_ with
  | zero => intro w1 w2 h; exact h.elim
  | succ n_ ih =>
    intro w1 w2 h H locs hP hD hS ls hl
    exact w_X4_readNumber_B0 l D cI cB cJ cZ aK aV N q_this q_bytes length token value start end_ bytes post C0 hA (f_X4_readNumber_L0 N length bytes ke0 n_) ih ke0 hke0 w1 w2 h H locs hP hD hS ls hl
set_option maxHeartbeats 4000000 in
set_option maxRecDepth 100000 in
theorem w_X4_readNumber_J116 (l : Launch) (D : va_G) (cI cB cJ cZ : ClassId) (aK aV : Nat → Nat) (N : Nat) {p : Program} {e : Env} {s : State} {m : MethodId} {below : List Frame} {meth : Method} {c : Code} {A : Nat → Prop} (q_this : Nat) (q_bytes : Nat) (length : Int32) (token : Int32) (value : Int32) (start : Int32) (end_ : Int32) (bytes : Nat → Int32) (post : Int32 → Int32 → Int32 → Prop) (C0 : Cx p s m meth c ([.ref q_this] : List Value).toArray cX4_readNumber 2 yX4_readNumber.cls yX4_readNumber.name none wsX4_readNumber D cI cB cJ cZ aK aV A) (hA : ∀ q : Nat, s.heap.size ≤ q → A q) (o6 : Int32) (o7 : Int32)  (j9 : Int32) (h : f_X4_readNumber_J116 N post o6 o7 j9) (H : Heap) (locs : List Loc) (hP : va_P D vwCl [(q_this, .inr (4, [.ref q_bytes, .int length, .int token, .int o6, .int start, .int o7])), (q_bytes, .inl (cB, 300, .inl bytes))] H) (hD : va_D A [(q_this, .inr (4, [.ref q_bytes, .int length, .int token, .int o6, .int start, .int o7])), (q_bytes, .inl (cB, 300, .inl bytes))]) (hS : va_S A s.heap H locs) (ls : Array Slot) (hl : lv_has ls 2 []) : W p l e { frames := 1, cells := 0, slots := 0, locals := 21 } s m ([.ref q_this] : List Value).toArray below meth c H locs 0 0 (MQ below (va_Qv (fun (u : Int32 × Int32 × Int32) => post u.1 u.2.1 u.2.2) (BW D A (wf_X4_readNumber cI cB cJ cZ q_this q_bytes length token value start end_ bytes)) A) ([.ref q_this] : List Value).toArray s 0 0 A) (F0 m 116 ls [.int j9, .ref q_this]) := by
  obtain ⟨hx, hb, hr, hml, hown, hts, hE, hlk, hnm⟩ := id C0
  have ik4 : ∀ w ∈ u_ws RX4 TX4 6, w ∈ wsX4_readNumber := by decide +kernel
  unfold f_X4_readNumber_J116 at h
  refine va_put (D := D) (ci := 4) (v := .int j9) (ty := .int) (C := RX4) (T := TX4) (N := 6) hx hb hts ik4 tyX4 tyX4_ok nmX4 hown hE.1.1 hP hD hS 0 rfl rfl 2 (by decide) (hts (.fieldLink RX4 19 "FortyHouses$Reader" "token" "I") (by decide +kernel)) (fun _ h9 => h9) rfl (by decide +kernel) rfl rfl (Nat.le_of_ble_eq_true rfl) dX4_readNumber_116 (fun H locs hP hD hS => ?_)
  have hP : va_P D vwCl [(q_this, .inr (4, [.ref q_bytes, .int length, .int j9, .int o6, .int start, .int o7])), (q_bytes, .inl (cB, 300, .inl bytes))] H := hP
  have hD : va_D A [(q_this, .inr (4, [.ref q_bytes, .int length, .int j9, .int o6, .int start, .int o7])), (q_bytes, .inl (cB, 300, .inl bytes))] := hD
  exact mu_vret (wf := wf_X4_readNumber cI cB cJ cZ q_this q_bytes length token value start end_ bytes) (j9, o6, o7) hx hb hr hlk hP hD hS h dX4_readNumber_119
set_option maxHeartbeats 4000000 in
set_option maxRecDepth 100000 in
theorem w_X4_readNumber_J96 (l : Launch) (D : va_G) (cI cB cJ cZ : ClassId) (aK aV : Nat → Nat) (N : Nat) {p : Program} {e : Env} {s : State} {m : MethodId} {below : List Frame} {meth : Method} {c : Code} {A : Nat → Prop} (q_this : Nat) (q_bytes : Nat) (length : Int32) (token : Int32) (value : Int32) (start : Int32) (end_ : Int32) (bytes : Nat → Int32) (post : Int32 → Int32 → Int32 → Prop) (C0 : Cx p s m meth c ([.ref q_this] : List Value).toArray cX4_readNumber 2 yX4_readNumber.cls yX4_readNumber.name none wsX4_readNumber D cI cB cJ cZ aK aV A) (hA : ∀ q : Nat, s.heap.size ≤ q → A q) (o6 : Int32) (o7 : Int32)  (j8 : Int32) (h : f_X4_readNumber_J96 N post o6 o7 j8) (H : Heap) (locs : List Loc) (hP : va_P D vwCl [(q_this, .inr (4, [.ref q_bytes, .int length, .int token, .int o6, .int start, .int o7])), (q_bytes, .inl (cB, 300, .inl bytes))] H) (hD : va_D A [(q_this, .inr (4, [.ref q_bytes, .int length, .int token, .int o6, .int start, .int o7])), (q_bytes, .inl (cB, 300, .inl bytes))]) (hS : va_S A s.heap H locs) (ls : Array Slot) (hl : lv_has ls 2 [(0, .ref q_this)]) : W p l e { frames := 1, cells := 0, slots := 0, locals := 21 } s m ([.ref q_this] : List Value).toArray below meth c H locs 0 0 (MQ below (va_Qv (fun (u : Int32 × Int32 × Int32) => post u.1 u.2.1 u.2.2) (BW D A (wf_X4_readNumber cI cB cJ cZ q_this q_bytes length token value start end_ bytes)) A) ([.ref q_this] : List Value).toArray s 0 0 A) (F0 m 96 ls [.int j8]) := by
  obtain ⟨hx, hb, hr, hml, hown, hts, hE, hlk, hnm⟩ := id C0
  have ik4 : ∀ w ∈ u_ws RX4 TX4 6, w ∈ wsX4_readNumber := by decide +kernel
  unfold f_X4_readNumber_J96 at h
  refine lv_istore_n (lv' := [(1, .int j8), (0, .ref q_this)]) hx hb dX4_readNumber_96 rfl hl (by decide) rfl (fun ls hl => ?_)
  refine lv_aload_n hx hb dX4_readNumber_97 rfl (lv_at hl 1 rfl) ?_
  refine lv_iload_n hx hb dX4_readNumber_98 rfl (lv_at hl 0 rfl) ?_
  refine lv_if_ne (tgt := 111) hx hb dX4_readNumber_99 (by decide) (fun c1 => ?_) (fun c1 => ?_)
  · have h := ite_t c1 h
    refine lv_iconst (v := 0) hx hb dX4_readNumber_111 (by decide) ?_
    refine lv_goto (tgt := 116) hx hb dX4_readNumber_112 (by decide) ?_
    exact w_X4_readNumber_J116 l D cI cB cJ cZ aK aV N q_this q_bytes length token value start end_ bytes post C0 hA o6 o7 0 h _ _ hP hD hS ls (lv_sub hl [] rfl)
  · have h := ite_n c1 h
    refine lv_aload_n hx hb dX4_readNumber_102 rfl (lv_at hl 1 rfl) ?_
    refine va_get (D := D) (ci := 4) (v := .int o6) (C := RX4) (T := TX4) (N := 6) hx hb hts ik4 hown hE.1.1 hP 0 rfl rfl 3 (by decide) (hts (.fieldLink RX4 22 "FortyHouses$Reader" "value" "I") (by decide +kernel)) (fun _ h9 => h9) rfl dX4_readNumber_103 ?_
    refine lv_bipush (v := 99) hx hb dX4_readNumber_106 (by decide) ?_
    refine lv_icmp_le (tgt := 115) hx hb dX4_readNumber_108 (by decide) (fun c1 => ?_) (fun c1 => ?_)
    · have h := ite_t c1 h
      refine lv_iconst (v := 3) hx hb dX4_readNumber_115 (by decide) ?_
      exact w_X4_readNumber_J116 l D cI cB cJ cZ aK aV N q_this q_bytes length token value start end_ bytes post C0 hA o6 o7 3 h _ _ hP hD hS ls (lv_sub hl [] rfl)
    · have h := ite_f c1 h
      refine lv_iconst (v := 0) hx hb dX4_readNumber_111 (by decide) ?_
      refine lv_goto (tgt := 116) hx hb dX4_readNumber_112 (by decide) ?_
      exact w_X4_readNumber_J116 l D cI cB cJ cZ aK aV N q_this q_bytes length token value start end_ bytes post C0 hA o6 o7 0 h _ _ hP hD hS ls (lv_sub hl [] rfl)
set_option maxHeartbeats 4000000 in
set_option maxRecDepth 100000 in
theorem c_X4_readNumber (l : Launch) (D : va_G) (cI cB cJ cZ : ClassId) (aK aV : Nat → Nat) (N : Nat) (q_this : Nat) (q_bytes : Nat) (length : Int32) (token : Int32) (value : Int32) (start : Int32) (end_ : Int32) (bytes : Nat → Int32) (sz : Nat) {post : Int32 → Int32 → Int32 → Prop} (h : f_X4_readNumber N length value start end_ bytes post) : Met l yX4_readNumber wsX4_readNumber { frames := 1, cells := 0, slots := 0, locals := 21 } (PW D cI cB cJ cZ aK aV [.ref q_this] [(q_this, .inr (4, [.ref q_bytes, .int length, .int token, .int value, .int start, .int end_])), (q_bytes, .inl (cB, 300, .inl bytes))] sz) (va_Qv (fun (u : Int32 × Int32 × Int32) => post u.1 u.2.1 u.2.2) (BW D (va_A [(q_this, .inr (4, [.ref q_bytes, .int length, .int token, .int value, .int start, .int end_])), (q_bytes, .inl (cB, 300, .inl bytes))] sz) (wf_X4_readNumber cI cB cJ cZ q_this q_bytes length token value start end_ bytes)) (va_A [(q_this, .inr (4, [.ref q_bytes, .int length, .int token, .int value, .int start, .int end_])), (q_bytes, .inl (cB, 300, .inl bytes))] sz)) 0 0 (va_A [(q_this, .inr (4, [.ref q_bytes, .int length, .int token, .int value, .int start, .int end_])), (q_bytes, .inl (cB, 300, .inl bytes))] sz) := by
  refine mu_enter (Qc := fun A => (va_Qv (fun (u : Int32 × Int32 × Int32) => post u.1 u.2.1 u.2.2) (BW D A (wf_X4_readNumber cI cB cJ cZ q_this q_bytes length token value start end_ bytes)) A)) (cc := cX4_readNumber) (maxL := 2) (ret := none) (by decide) rfl (Nat.le_of_ble_eq_true rfl) ?_
  intro p e s m below meth c A C0 hA H locs hP hD hS ls hl
  have hl : lv_has ls 2 [(0, .ref q_this)] := hl
  unfold f_X4_readNumber at h
  obtain ⟨hx, hb, hr, hml, hown, hts, hE, hlk, hnm⟩ := id C0
  have ik4 : ∀ w ∈ u_ws RX4 TX4 6, w ∈ wsX4_readNumber := by decide +kernel
  refine w_X4_readNumber_L0 l D cI cB cJ cZ aK aV N q_this q_bytes length token value start end_ bytes post C0 hA _ (fun o6 o7 h H locs hP hD hS ls hl => ?_) N value end_ h _ _ hP hD hS ls hl
  refine lv_aload_n hx hb dX4_readNumber_64 rfl (lv_at hl 0 rfl) ?_
  refine va_get (D := D) (ci := 4) (v := .ref q_bytes) (C := RX4) (T := TX4) (N := 6) hx hb hts ik4 hown hE.1.1 hP 0 rfl rfl 0 (by decide) (hts (.fieldLink RX4 11 "FortyHouses$Reader" "bytes" "[B") (by decide +kernel)) (fun _ h9 => h9) rfl dX4_readNumber_65 ?_
  refine lv_aload_n hx hb dX4_readNumber_68 rfl (lv_at hl 0 rfl) ?_
  refine va_get (D := D) (ci := 4) (v := .int start) (C := RX4) (T := TX4) (N := 6) hx hb hts ik4 hown hE.1.1 hP 0 rfl rfl 4 (by decide) (hts (.fieldLink RX4 25 "FortyHouses$Reader" "start" "I") (by decide +kernel)) (fun _ h9 => h9) rfl dX4_readNumber_69 ?_
  obtain ⟨hin, h⟩ := h
  refine va_bald hx hb hE.1.1 hP 1 1 rfl rfl hin dX4_readNumber_72 ?_
  refine lv_bipush (v := 48) hx hb dX4_readNumber_73 (by decide) ?_
  refine lv_icmp_ne (tgt := 95) hx hb dX4_readNumber_75 (by decide) (fun c1 => ?_) (fun c1 => ?_)
  · have h := ite_t c1 h
    refine lv_iconst (v := 0) hx hb dX4_readNumber_95 (by decide) ?_
    exact w_X4_readNumber_J96 l D cI cB cJ cZ aK aV N q_this q_bytes length token value start end_ bytes post C0 hA o6 o7 0 h _ _ hP hD hS ls hl
  · have h := ite_n c1 h
    refine lv_aload_n hx hb dX4_readNumber_78 rfl (lv_at hl 0 rfl) ?_
    refine va_get (D := D) (ci := 4) (v := .int o7) (C := RX4) (T := TX4) (N := 6) hx hb hts ik4 hown hE.1.1 hP 0 rfl rfl 5 (by decide) (hts (.fieldLink RX4 28 "FortyHouses$Reader" "end" "I") (by decide +kernel)) (fun _ h9 => h9) rfl dX4_readNumber_79 ?_
    refine lv_aload_n hx hb dX4_readNumber_82 rfl (lv_at hl 0 rfl) ?_
    refine va_get (D := D) (ci := 4) (v := .int start) (C := RX4) (T := TX4) (N := 6) hx hb hts ik4 hown hE.1.1 hP 0 rfl rfl 4 (by decide) (hts (.fieldLink RX4 25 "FortyHouses$Reader" "start" "I") (by decide +kernel)) (fun _ h9 => h9) rfl dX4_readNumber_83 ?_
    refine lv_isub hx hb dX4_readNumber_86 ?_
    refine lv_iconst (v := 1) hx hb dX4_readNumber_87 (by decide) ?_
    refine lv_icmp_le (tgt := 95) hx hb dX4_readNumber_88 (by decide) (fun c1 => ?_) (fun c1 => ?_)
    · have h := ite_t c1 h
      refine lv_iconst (v := 0) hx hb dX4_readNumber_95 (by decide) ?_
      exact w_X4_readNumber_J96 l D cI cB cJ cZ aK aV N q_this q_bytes length token value start end_ bytes post C0 hA o6 o7 0 h _ _ hP hD hS ls hl
    · have h := ite_f c1 h
      refine lv_iconst (v := 1) hx hb dX4_readNumber_91 (by decide) ?_
      refine lv_goto (tgt := 96) hx hb dX4_readNumber_92 (by decide) ?_
      exact w_X4_readNumber_J96 l D cI cB cJ cZ aK aV N q_this q_bytes length token value start end_ bytes post C0 hA o6 o7 1 h _ _ hP hD hS ls hl
abbrev wf_X4_readToken (cI cB cJ cZ : ClassId) (q_this : Nat) (q_bytes : Nat) (length : Int32) (token : Int32) (value : Int32) (start : Int32) (end_ : Int32) (bytes : Nat → Int32) : Int32 × Int32 × Int32 × Int32 → va_W := fun u => [(q_this, .inr (4, [.ref q_bytes, .int length, .int u.1, .int u.2.1, .int u.2.2.1, .int u.2.2.2])), (q_bytes, .inl (cB, 300, .inl bytes))]
set_option maxHeartbeats 4000000 in
set_option maxRecDepth 100000 in
theorem w_X4_readToken_B8 (l : Launch) (D : va_G) (cI cB cJ cZ : ClassId) (aK aV : Nat → Nat) (N : Nat) {p : Program} {e : Env} {s : State} {m : MethodId} {below : List Frame} {meth : Method} {c : Code} {A : Nat → Prop} (q_this : Nat) (q_bytes : Nat) (length : Int32) (token : Int32) (value : Int32) (start : Int32) (end_ : Int32) (bytes : Nat → Int32) (post : Int32 → Int32 → Int32 → Int32 → Prop) (C0 : Cx p s m meth c ([.ref q_this] : List Value).toArray cX4_readToken 1 yX4_readToken.cls yX4_readToken.name none wsX4_readToken D cI cB cJ cZ aK aV A) (hA : ∀ q : Nat, s.heap.size ≤ q → A q)  (kb8 : Int32 → Prop) (hkb8 : ∀ (w1_ : Int32), kb8 w1_ → ∀ (H : Heap) (locs : List Loc), va_P D vwCl [(q_this, .inr (4, [.ref q_bytes, .int length, .int token, .int value, .int w1_, .int end_])), (q_bytes, .inl (cB, 300, .inl bytes))] H → va_D A [(q_this, .inr (4, [.ref q_bytes, .int length, .int token, .int value, .int w1_, .int end_])), (q_bytes, .inl (cB, 300, .inl bytes))] → va_S A s.heap H locs → ∀ ls : Array Slot, lv_has ls 1 [(0, .ref q_this)] → W p l e { frames := 7, cells := 0, slots := 0, locals := 148 } s m ([.ref q_this] : List Value).toArray below meth c H locs 0 0 (MQ below (va_Qv (fun (u : Int32 × Int32 × Int32 × Int32) => post u.1 u.2.1 u.2.2.1 u.2.2.2) (BW D A (wf_X4_readToken cI cB cJ cZ q_this q_bytes length token value start end_ bytes)) A) ([.ref q_this] : List Value).toArray s 0 0 A) (F0 m 8 ls [])) (ke8 : Int32 → Prop) (hke8 : ∀ (w1_ : Int32), ke8 w1_ → ∀ (H : Heap) (locs : List Loc), va_P D vwCl [(q_this, .inr (4, [.ref q_bytes, .int length, .int token, .int value, .int w1_, .int end_])), (q_bytes, .inl (cB, 300, .inl bytes))] H → va_D A [(q_this, .inr (4, [.ref q_bytes, .int length, .int token, .int value, .int w1_, .int end_])), (q_bytes, .inl (cB, 300, .inl bytes))] → va_S A s.heap H locs → ∀ ls : Array Slot, lv_has ls 1 [(0, .ref q_this)] → W p l e { frames := 7, cells := 0, slots := 0, locals := 148 } s m ([.ref q_this] : List Value).toArray below meth c H locs 0 0 (MQ below (va_Qv (fun (u : Int32 × Int32 × Int32 × Int32) => post u.1 u.2.1 u.2.2.1 u.2.2.2) (BW D A (wf_X4_readToken cI cB cJ cZ q_this q_bytes length token value start end_ bytes)) A) ([.ref q_this] : List Value).toArray s 0 0 A) (F0 m 46 ls [])) (w1 : Int32) (h : f_X4_readToken_B8 N length bytes kb8 ke8 w1) (H : Heap) (locs : List Loc) (hP : va_P D vwCl [(q_this, .inr (4, [.ref q_bytes, .int length, .int token, .int value, .int w1, .int end_])), (q_bytes, .inl (cB, 300, .inl bytes))] H) (hD : va_D A [(q_this, .inr (4, [.ref q_bytes, .int length, .int token, .int value, .int w1, .int end_])), (q_bytes, .inl (cB, 300, .inl bytes))]) (hS : va_S A s.heap H locs) (ls : Array Slot) (hl : lv_has ls 1 [(0, .ref q_this)]) : W p l e { frames := 7, cells := 0, slots := 0, locals := 148 } s m ([.ref q_this] : List Value).toArray below meth c H locs 0 0 (MQ below (va_Qv (fun (u : Int32 × Int32 × Int32 × Int32) => post u.1 u.2.1 u.2.2.1 u.2.2.2) (BW D A (wf_X4_readToken cI cB cJ cZ q_this q_bytes length token value start end_ bytes)) A) ([.ref q_this] : List Value).toArray s 0 0 A) (F0 m 8 ls []) := by
  obtain ⟨hx, hb, hr, hml, hown, hts, hE, hlk, hnm⟩ := id C0
  have ik4 : ∀ w ∈ u_ws RX4 TX4 6, w ∈ wsX4_readToken := by decide +kernel
  unfold f_X4_readToken_B8 at h
  refine lv_aload_n hx hb dX4_readToken_8 rfl (lv_at hl 0 rfl) ?_
  refine va_get (D := D) (ci := 4) (v := .int w1) (C := RX4) (T := TX4) (N := 6) hx hb hts ik4 hown hE.1.1 hP 0 rfl rfl 4 (by decide) (hts (.fieldLink RX4 25 "FortyHouses$Reader" "start" "I") (by decide +kernel)) (fun _ h9 => h9) rfl dX4_readToken_9 ?_
  refine lv_aload_n hx hb dX4_readToken_12 rfl (lv_at hl 0 rfl) ?_
  refine va_get (D := D) (ci := 4) (v := .int length) (C := RX4) (T := TX4) (N := 6) hx hb hts ik4 hown hE.1.1 hP 0 rfl rfl 1 (by decide) (hts (.fieldLink RX4 15 "FortyHouses$Reader" "length" "I") (by decide +kernel)) (fun _ h9 => h9) rfl dX4_readToken_13 ?_
  refine lv_icmp_ge (tgt := 46) hx hb dX4_readToken_16 (by decide) (fun c1 => ?_) (fun c1 => ?_)
  · have h := ite_t c1 h
    exact hke8 w1 h _ _ hP hD hS ls hl
  · have h := ite_f c1 h
    refine lv_aload_n hx hb dX4_readToken_19 rfl (lv_at hl 0 rfl) ?_
    refine va_get (D := D) (ci := 4) (v := .ref q_bytes) (C := RX4) (T := TX4) (N := 6) hx hb hts ik4 hown hE.1.1 hP 0 rfl rfl 0 (by decide) (hts (.fieldLink RX4 11 "FortyHouses$Reader" "bytes" "[B") (by decide +kernel)) (fun _ h9 => h9) rfl dX4_readToken_20 ?_
    refine lv_aload_n hx hb dX4_readToken_23 rfl (lv_at hl 0 rfl) ?_
    refine va_get (D := D) (ci := 4) (v := .int w1) (C := RX4) (T := TX4) (N := 6) hx hb hts ik4 hown hE.1.1 hP 0 rfl rfl 4 (by decide) (hts (.fieldLink RX4 25 "FortyHouses$Reader" "start" "I") (by decide +kernel)) (fun _ h9 => h9) rfl dX4_readToken_24 ?_
    obtain ⟨hin, h⟩ := h
    refine va_bald hx hb hE.1.1 hP 1 1 rfl rfl hin dX4_readToken_27 ?_
    refine lv_bipush (v := 32) hx hb dX4_readToken_28 (by decide) ?_
    refine lv_icmp_ne (tgt := 46) hx hb dX4_readToken_30 (by decide) (fun c1 => ?_) (fun c1 => ?_)
    · have h := ite_t c1 h
      exact hke8 w1 h _ _ hP hD hS ls hl
    · have h := ite_n c1 h
      refine lv_aload_n hx hb dX4_readToken_33 rfl (lv_at hl 0 rfl) ?_
      refine lv_dup hx hb dX4_readToken_34 rfl ?_
      refine va_get (D := D) (ci := 4) (v := .int w1) (C := RX4) (T := TX4) (N := 6) hx hb hts ik4 hown hE.1.1 hP 0 rfl rfl 4 (by decide) (hts (.fieldLink RX4 25 "FortyHouses$Reader" "start" "I") (by decide +kernel)) (fun _ h9 => h9) rfl dX4_readToken_35 ?_
      refine lv_iconst (v := 1) hx hb dX4_readToken_38 (by decide) ?_
      refine lv_iadd hx hb dX4_readToken_39 ?_
      refine lv_topi (fun v2 ex => ?_)
      have h := nm_of ex h
      refine va_put (D := D) (ci := 4) (v := .int v2) (ty := .int) (C := RX4) (T := TX4) (N := 6) hx hb hts ik4 tyX4 tyX4_ok nmX4 hown hE.1.1 hP hD hS 0 rfl rfl 4 (by decide) (hts (.fieldLink RX4 25 "FortyHouses$Reader" "start" "I") (by decide +kernel)) (fun _ h9 => h9) rfl (by decide +kernel) rfl rfl (Nat.le_of_ble_eq_true rfl) dX4_readToken_40 (fun H locs hP hD hS => ?_)
      have hP : va_P D vwCl [(q_this, .inr (4, [.ref q_bytes, .int length, .int token, .int value, .int v2, .int end_])), (q_bytes, .inl (cB, 300, .inl bytes))] H := hP
      have hD : va_D A [(q_this, .inr (4, [.ref q_bytes, .int length, .int token, .int value, .int v2, .int end_])), (q_bytes, .inl (cB, 300, .inl bytes))] := hD
      refine lv_goto (tgt := 8) hx hb dX4_readToken_43 (by decide) ?_
      exact hkb8 v2 h _ _ hP hD hS ls hl
set_option maxHeartbeats 4000000 in
set_option maxRecDepth 100000 in
theorem w_X4_readToken_L8 (l : Launch) (D : va_G) (cI cB cJ cZ : ClassId) (aK aV : Nat → Nat) (N : Nat) {p : Program} {e : Env} {s : State} {m : MethodId} {below : List Frame} {meth : Method} {c : Code} {A : Nat → Prop} (q_this : Nat) (q_bytes : Nat) (length : Int32) (token : Int32) (value : Int32) (start : Int32) (end_ : Int32) (bytes : Nat → Int32) (post : Int32 → Int32 → Int32 → Int32 → Prop) (C0 : Cx p s m meth c ([.ref q_this] : List Value).toArray cX4_readToken 1 yX4_readToken.cls yX4_readToken.name none wsX4_readToken D cI cB cJ cZ aK aV A) (hA : ∀ q : Nat, s.heap.size ≤ q → A q)  (ke8 : Int32 → Prop) (hke8 : ∀ (w1_ : Int32), ke8 w1_ → ∀ (H : Heap) (locs : List Loc), va_P D vwCl [(q_this, .inr (4, [.ref q_bytes, .int length, .int token, .int value, .int w1_, .int end_])), (q_bytes, .inl (cB, 300, .inl bytes))] H → va_D A [(q_this, .inr (4, [.ref q_bytes, .int length, .int token, .int value, .int w1_, .int end_])), (q_bytes, .inl (cB, 300, .inl bytes))] → va_S A s.heap H locs → ∀ ls : Array Slot, lv_has ls 1 [(0, .ref q_this)] → W p l e { frames := 7, cells := 0, slots := 0, locals := 148 } s m ([.ref q_this] : List Value).toArray below meth c H locs 0 0 (MQ below (va_Qv (fun (u : Int32 × Int32 × Int32 × Int32) => post u.1 u.2.1 u.2.2.1 u.2.2.2) (BW D A (wf_X4_readToken cI cB cJ cZ q_this q_bytes length token value start end_ bytes)) A) ([.ref q_this] : List Value).toArray s 0 0 A) (F0 m 46 ls [])) : ∀ (n_ : Nat) (w1 : Int32), f_X4_readToken_L8 N length bytes ke8 n_ w1 → ∀ (H : Heap) (locs : List Loc), va_P D vwCl [(q_this, .inr (4, [.ref q_bytes, .int length, .int token, .int value, .int w1, .int end_])), (q_bytes, .inl (cB, 300, .inl bytes))] H → va_D A [(q_this, .inr (4, [.ref q_bytes, .int length, .int token, .int value, .int w1, .int end_])), (q_bytes, .inl (cB, 300, .inl bytes))] → va_S A s.heap H locs → ∀ ls : Array Slot, lv_has ls 1 [(0, .ref q_this)] → W p l e { frames := 7, cells := 0, slots := 0, locals := 148 } s m ([.ref q_this] : List Value).toArray below meth c H locs 0 0 (MQ below (va_Qv (fun (u : Int32 × Int32 × Int32 × Int32) => post u.1 u.2.1 u.2.2.1 u.2.2.2) (BW D A (wf_X4_readToken cI cB cJ cZ q_this q_bytes length token value start end_ bytes)) A) ([.ref q_this] : List Value).toArray s 0 0 A) (F0 m 8 ls []) := by
  intro n_
  induction n_ with
  | zero => intro w1 h; exact h.elim
  | succ n_ ih =>
    intro w1 h H locs hP hD hS ls hl
    exact w_X4_readToken_B8 l D cI cB cJ cZ aK aV N q_this q_bytes length token value start end_ bytes post C0 hA (f_X4_readToken_L8 N length bytes ke8 n_) ih ke8 hke8 w1 h H locs hP hD hS ls hl
set_option maxHeartbeats 4000000 in
set_option maxRecDepth 100000 in
theorem w_X4_readToken_J134 (l : Launch) (D : va_G) (cI cB cJ cZ : ClassId) (aK aV : Nat → Nat) (N : Nat) {p : Program} {e : Env} {s : State} {m : MethodId} {below : List Frame} {meth : Method} {c : Code} {A : Nat → Prop} (q_this : Nat) (q_bytes : Nat) (length : Int32) (token : Int32) (value : Int32) (start : Int32) (end_ : Int32) (bytes : Nat → Int32) (post : Int32 → Int32 → Int32 → Int32 → Prop) (C0 : Cx p s m meth c ([.ref q_this] : List Value).toArray cX4_readToken 1 yX4_readToken.cls yX4_readToken.name none wsX4_readToken D cI cB cJ cZ aK aV A) (hA : ∀ q : Nat, s.heap.size ≤ q → A q) (o3 : Int32)  (j6 : Int32) (h : f_X4_readToken_J134 N post o3 j6) (H : Heap) (locs : List Loc) (hP : va_P D vwCl [(q_this, .inr (4, [.ref q_bytes, .int length, .int token, .int 0, .int o3, .int o3])), (q_bytes, .inl (cB, 300, .inl bytes))] H) (hD : va_D A [(q_this, .inr (4, [.ref q_bytes, .int length, .int token, .int 0, .int o3, .int o3])), (q_bytes, .inl (cB, 300, .inl bytes))]) (hS : va_S A s.heap H locs) (ls : Array Slot) (hl : lv_has ls 1 [(0, .ref q_this)]) : W p l e { frames := 7, cells := 0, slots := 0, locals := 148 } s m ([.ref q_this] : List Value).toArray below meth c H locs 0 0 (MQ below (va_Qv (fun (u : Int32 × Int32 × Int32 × Int32) => post u.1 u.2.1 u.2.2.1 u.2.2.2) (BW D A (wf_X4_readToken cI cB cJ cZ q_this q_bytes length token value start end_ bytes)) A) ([.ref q_this] : List Value).toArray s 0 0 A) (F0 m 134 ls [.int j6, .ref q_this]) := by
  obtain ⟨hx, hb, hr, hml, hown, hts, hE, hlk, hnm⟩ := id C0
  have ik4 : ∀ w ∈ u_ws RX4 TX4 6, w ∈ wsX4_readToken := by decide +kernel
  unfold f_X4_readToken_J134 at h
  refine va_put (D := D) (ci := 4) (v := .int j6) (ty := .int) (C := RX4) (T := TX4) (N := 6) hx hb hts ik4 tyX4 tyX4_ok nmX4 hown hE.1.1 hP hD hS 0 rfl rfl 2 (by decide) (hts (.fieldLink RX4 19 "FortyHouses$Reader" "token" "I") (by decide +kernel)) (fun _ h9 => h9) rfl (by decide +kernel) rfl rfl (Nat.le_of_ble_eq_true rfl) dX4_readToken_134 (fun H locs hP hD hS => ?_)
  have hP : va_P D vwCl [(q_this, .inr (4, [.ref q_bytes, .int length, .int j6, .int 0, .int o3, .int o3])), (q_bytes, .inl (cB, 300, .inl bytes))] H := hP
  have hD : va_D A [(q_this, .inr (4, [.ref q_bytes, .int length, .int j6, .int 0, .int o3, .int o3])), (q_bytes, .inl (cB, 300, .inl bytes))] := hD
  refine lv_aload_n hx hb dX4_readToken_137 rfl (lv_at hl 0 rfl) ?_
  refine lv_dup hx hb dX4_readToken_138 rfl ?_
  refine va_get (D := D) (ci := 4) (v := .int o3) (C := RX4) (T := TX4) (N := 6) hx hb hts ik4 hown hE.1.1 hP 0 rfl rfl 5 (by decide) (hts (.fieldLink RX4 28 "FortyHouses$Reader" "end" "I") (by decide +kernel)) (fun _ h9 => h9) rfl dX4_readToken_139 ?_
  refine lv_iconst (v := 1) hx hb dX4_readToken_142 (by decide) ?_
  refine lv_iadd hx hb dX4_readToken_143 ?_
  refine lv_topi (fun v7 ex => ?_)
  have h := nm_of ex h
  refine va_put (D := D) (ci := 4) (v := .int v7) (ty := .int) (C := RX4) (T := TX4) (N := 6) hx hb hts ik4 tyX4 tyX4_ok nmX4 hown hE.1.1 hP hD hS 0 rfl rfl 5 (by decide) (hts (.fieldLink RX4 28 "FortyHouses$Reader" "end" "I") (by decide +kernel)) (fun _ h9 => h9) rfl (by decide +kernel) rfl rfl (Nat.le_of_ble_eq_true rfl) dX4_readToken_144 (fun H locs hP hD hS => ?_)
  have hP : va_P D vwCl [(q_this, .inr (4, [.ref q_bytes, .int length, .int j6, .int 0, .int o3, .int v7])), (q_bytes, .inl (cB, 300, .inl bytes))] H := hP
  have hD : va_D A [(q_this, .inr (4, [.ref q_bytes, .int length, .int j6, .int 0, .int o3, .int v7])), (q_bytes, .inl (cB, 300, .inl bytes))] := hD
  exact mu_vret (wf := wf_X4_readToken cI cB cJ cZ q_this q_bytes length token value start end_ bytes) (j6, 0, o3, v7) hx hb hr hlk hP hD hS h dX4_readToken_147
set_option maxHeartbeats 4000000 in
set_option maxRecDepth 100000 in
theorem c_X4_readToken (l : Launch) (D : va_G) (cI cB cJ cZ : ClassId) (aK aV : Nat → Nat) (N : Nat) (q_this : Nat) (q_bytes : Nat) (length : Int32) (token : Int32) (value : Int32) (start : Int32) (end_ : Int32) (bytes : Nat → Int32) (sz : Nat) {post : Int32 → Int32 → Int32 → Int32 → Prop} (h : f_X4_readToken N length end_ bytes post) : Met l yX4_readToken wsX4_readToken { frames := 7, cells := 0, slots := 0, locals := 148 } (PW D cI cB cJ cZ aK aV [.ref q_this] [(q_this, .inr (4, [.ref q_bytes, .int length, .int token, .int value, .int start, .int end_])), (q_bytes, .inl (cB, 300, .inl bytes))] sz) (va_Qv (fun (u : Int32 × Int32 × Int32 × Int32) => post u.1 u.2.1 u.2.2.1 u.2.2.2) (BW D (va_A [(q_this, .inr (4, [.ref q_bytes, .int length, .int token, .int value, .int start, .int end_])), (q_bytes, .inl (cB, 300, .inl bytes))] sz) (wf_X4_readToken cI cB cJ cZ q_this q_bytes length token value start end_ bytes)) (va_A [(q_this, .inr (4, [.ref q_bytes, .int length, .int token, .int value, .int start, .int end_])), (q_bytes, .inl (cB, 300, .inl bytes))] sz)) 0 0 (va_A [(q_this, .inr (4, [.ref q_bytes, .int length, .int token, .int value, .int start, .int end_])), (q_bytes, .inl (cB, 300, .inl bytes))] sz) := by
  refine mu_enter (Qc := fun A => (va_Qv (fun (u : Int32 × Int32 × Int32 × Int32) => post u.1 u.2.1 u.2.2.1 u.2.2.2) (BW D A (wf_X4_readToken cI cB cJ cZ q_this q_bytes length token value start end_ bytes)) A)) (cc := cX4_readToken) (maxL := 1) (ret := none) (by decide) rfl (Nat.le_of_ble_eq_true rfl) ?_
  intro p e s m below meth c A C0 hA H locs hP hD hS ls hl
  have hl : lv_has ls 1 [(0, .ref q_this)] := hl
  unfold f_X4_readToken at h
  obtain ⟨hx, hb, hr, hml, hown, hts, hE, hlk, hnm⟩ := id C0
  have ik4 : ∀ w ∈ u_ws RX4 TX4 6, w ∈ wsX4_readToken := by decide +kernel
  refine lv_aload_n hx hb dX4_readToken_0 rfl (lv_at hl 0 rfl) ?_
  refine lv_aload_n hx hb dX4_readToken_1 rfl (lv_at hl 0 rfl) ?_
  refine va_get (D := D) (ci := 4) (v := .int end_) (C := RX4) (T := TX4) (N := 6) hx hb hts ik4 hown hE.1.1 hP 0 rfl rfl 5 (by decide) (hts (.fieldLink RX4 28 "FortyHouses$Reader" "end" "I") (by decide +kernel)) (fun _ h9 => h9) rfl dX4_readToken_2 ?_
  refine va_put (D := D) (ci := 4) (v := .int end_) (ty := .int) (C := RX4) (T := TX4) (N := 6) hx hb hts ik4 tyX4 tyX4_ok nmX4 hown hE.1.1 hP hD hS 0 rfl rfl 4 (by decide) (hts (.fieldLink RX4 25 "FortyHouses$Reader" "start" "I") (by decide +kernel)) (fun _ h9 => h9) rfl (by decide +kernel) rfl rfl (Nat.le_of_ble_eq_true rfl) dX4_readToken_5 (fun H locs hP hD hS => ?_)
  have hP : va_P D vwCl [(q_this, .inr (4, [.ref q_bytes, .int length, .int token, .int value, .int end_, .int end_])), (q_bytes, .inl (cB, 300, .inl bytes))] H := hP
  have hD : va_D A [(q_this, .inr (4, [.ref q_bytes, .int length, .int token, .int value, .int end_, .int end_])), (q_bytes, .inl (cB, 300, .inl bytes))] := hD
  refine w_X4_readToken_L8 l D cI cB cJ cZ aK aV N q_this q_bytes length token value start end_ bytes post C0 hA _ (fun o3 h H locs hP hD hS ls hl => ?_) N end_ h _ _ hP hD hS ls hl
  refine lv_aload_n hx hb dX4_readToken_46 rfl (lv_at hl 0 rfl) ?_
  refine lv_aload_n hx hb dX4_readToken_47 rfl (lv_at hl 0 rfl) ?_
  refine va_get (D := D) (ci := 4) (v := .int o3) (C := RX4) (T := TX4) (N := 6) hx hb hts ik4 hown hE.1.1 hP 0 rfl rfl 4 (by decide) (hts (.fieldLink RX4 25 "FortyHouses$Reader" "start" "I") (by decide +kernel)) (fun _ h9 => h9) rfl dX4_readToken_48 ?_
  refine va_put (D := D) (ci := 4) (v := .int o3) (ty := .int) (C := RX4) (T := TX4) (N := 6) hx hb hts ik4 tyX4 tyX4_ok nmX4 hown hE.1.1 hP hD hS 0 rfl rfl 5 (by decide) (hts (.fieldLink RX4 28 "FortyHouses$Reader" "end" "I") (by decide +kernel)) (fun _ h9 => h9) rfl (by decide +kernel) rfl rfl (Nat.le_of_ble_eq_true rfl) dX4_readToken_51 (fun H locs hP hD hS => ?_)
  have hP : va_P D vwCl [(q_this, .inr (4, [.ref q_bytes, .int length, .int token, .int value, .int o3, .int o3])), (q_bytes, .inl (cB, 300, .inl bytes))] H := hP
  have hD : va_D A [(q_this, .inr (4, [.ref q_bytes, .int length, .int token, .int value, .int o3, .int o3])), (q_bytes, .inl (cB, 300, .inl bytes))] := hD
  refine lv_aload_n hx hb dX4_readToken_54 rfl (lv_at hl 0 rfl) ?_
  refine lv_iconst (v := 0) hx hb dX4_readToken_55 (by decide) ?_
  refine va_put (D := D) (ci := 4) (v := .int 0) (ty := .int) (C := RX4) (T := TX4) (N := 6) hx hb hts ik4 tyX4 tyX4_ok nmX4 hown hE.1.1 hP hD hS 0 rfl rfl 3 (by decide) (hts (.fieldLink RX4 22 "FortyHouses$Reader" "value" "I") (by decide +kernel)) (fun _ h9 => h9) rfl (by decide +kernel) rfl rfl (Nat.le_of_ble_eq_true rfl) dX4_readToken_56 (fun H locs hP hD hS => ?_)
  have hP : va_P D vwCl [(q_this, .inr (4, [.ref q_bytes, .int length, .int token, .int 0, .int o3, .int o3])), (q_bytes, .inl (cB, 300, .inl bytes))] H := hP
  have hD : va_D A [(q_this, .inr (4, [.ref q_bytes, .int length, .int token, .int 0, .int o3, .int o3])), (q_bytes, .inl (cB, 300, .inl bytes))] := hD
  refine lv_aload_n hx hb dX4_readToken_59 rfl (lv_at hl 0 rfl) ?_
  refine va_get (D := D) (ci := 4) (v := .int o3) (C := RX4) (T := TX4) (N := 6) hx hb hts ik4 hown hE.1.1 hP 0 rfl rfl 4 (by decide) (hts (.fieldLink RX4 25 "FortyHouses$Reader" "start" "I") (by decide +kernel)) (fun _ h9 => h9) rfl dX4_readToken_60 ?_
  refine lv_aload_n hx hb dX4_readToken_63 rfl (lv_at hl 0 rfl) ?_
  refine va_get (D := D) (ci := 4) (v := .int length) (C := RX4) (T := TX4) (N := 6) hx hb hts ik4 hown hE.1.1 hP 0 rfl rfl 1 (by decide) (hts (.fieldLink RX4 15 "FortyHouses$Reader" "length" "I") (by decide +kernel)) (fun _ h9 => h9) rfl dX4_readToken_64 ?_
  refine lv_icmp_lt (tgt := 78) hx hb dX4_readToken_67 (by decide) (fun c1 => ?_) (fun c1 => ?_)
  · have h := ite_t c1 h
    refine lv_aload_n hx hb dX4_readToken_78 rfl (lv_at hl 0 rfl) ?_
    refine lv_aload_n hx hb dX4_readToken_79 rfl (lv_at hl 0 rfl) ?_
    refine va_get (D := D) (ci := 4) (v := .int o3) (C := RX4) (T := TX4) (N := 6) hx hb hts ik4 hown hE.1.1 hP 0 rfl rfl 4 (by decide) (hts (.fieldLink RX4 25 "FortyHouses$Reader" "start" "I") (by decide +kernel)) (fun _ h9 => h9) rfl dX4_readToken_80 ?_
    refine ro_Vi (C := RX4) (As := [.int o3]) (rest := []) ⟨hx, hb, hml, hown, hts⟩ hE hS hP [0, 1] (c_X4_isLetter l D cI cB cJ cZ aK aV N q_this q_bytes length token 0 o3 o3 bytes o3 h) (cwV 1 hts gX4_readToken_X4_isLetter rfl rfl rfl (by decide +kernel) ⟨(Nat.le_of_ble_eq_true rfl), (Nat.le_of_ble_eq_true rfl)⟩) rfl 0 rfl rfl rfl hl.1 rfl (Nat.le_of_ble_eq_true rfl) dX4_readToken_83 ⟨Nat.zero_le _, Nat.zero_le _⟩ (fun r4 h => ?_)
    obtain ⟨h, nbr4⟩ := h
    refine lv_if_eq (tgt := 96) hx hb dX4_readToken_86 (by decide) (fun c1 => ?_) (fun c1 => ?_)
    · have h := ite_t c1 h
      refine lv_aload_n hx hb dX4_readToken_96 rfl (lv_at hl 0 rfl) ?_
      refine lv_aload_n hx hb dX4_readToken_97 rfl (lv_at hl 0 rfl) ?_
      refine va_get (D := D) (ci := 4) (v := .int o3) (C := RX4) (T := TX4) (N := 6) hx hb hts ik4 hown hE.1.1 hP 0 rfl rfl 4 (by decide) (hts (.fieldLink RX4 25 "FortyHouses$Reader" "start" "I") (by decide +kernel)) (fun _ h9 => h9) rfl dX4_readToken_98 ?_
      refine ro_Vi (C := RX4) (As := [.int o3]) (rest := []) ⟨hx, hb, hml, hown, hts⟩ hE hS hP [0, 1] (c_X4_isDigit l D cI cB cJ cZ aK aV N q_this q_bytes length token 0 o3 o3 bytes o3 h) (cwV 1 hts gX4_readToken_X4_isDigit rfl rfl rfl (by decide +kernel) ⟨(Nat.le_of_ble_eq_true rfl), (Nat.le_of_ble_eq_true rfl)⟩) rfl 0 rfl rfl rfl hl.1 rfl (Nat.le_of_ble_eq_true rfl) dX4_readToken_101 ⟨Nat.zero_le _, Nat.zero_le _⟩ (fun r5 h => ?_)
      obtain ⟨h, nbr5⟩ := h
      refine lv_if_eq (tgt := 114) hx hb dX4_readToken_104 (by decide) (fun c1 => ?_) (fun c1 => ?_)
      · have h := ite_t c1 h
        refine lv_aload_n hx hb dX4_readToken_114 rfl (lv_at hl 0 rfl) ?_
        refine lv_aload_n hx hb dX4_readToken_115 rfl (lv_at hl 0 rfl) ?_
        refine va_get (D := D) (ci := 4) (v := .ref q_bytes) (C := RX4) (T := TX4) (N := 6) hx hb hts ik4 hown hE.1.1 hP 0 rfl rfl 0 (by decide) (hts (.fieldLink RX4 11 "FortyHouses$Reader" "bytes" "[B") (by decide +kernel)) (fun _ h9 => h9) rfl dX4_readToken_116 ?_
        refine lv_aload_n hx hb dX4_readToken_119 rfl (lv_at hl 0 rfl) ?_
        refine va_get (D := D) (ci := 4) (v := .int o3) (C := RX4) (T := TX4) (N := 6) hx hb hts ik4 hown hE.1.1 hP 0 rfl rfl 4 (by decide) (hts (.fieldLink RX4 25 "FortyHouses$Reader" "start" "I") (by decide +kernel)) (fun _ h9 => h9) rfl dX4_readToken_120 ?_
        obtain ⟨hin, h⟩ := h
        refine va_bald hx hb hE.1.1 hP 1 1 rfl rfl hin dX4_readToken_123 ?_
        refine lv_bipush (v := 59) hx hb dX4_readToken_124 (by decide) ?_
        refine lv_icmp_ne (tgt := 133) hx hb dX4_readToken_126 (by decide) (fun c1 => ?_) (fun c1 => ?_)
        · have h := ite_t c1 h
          refine lv_iconst (v := 0) hx hb dX4_readToken_133 (by decide) ?_
          exact w_X4_readToken_J134 l D cI cB cJ cZ aK aV N q_this q_bytes length token value start end_ bytes post C0 hA o3 0 h _ _ hP hD hS ls hl
        · have h := ite_n c1 h
          refine lv_iconst (v := 2) hx hb dX4_readToken_129 (by decide) ?_
          refine lv_goto (tgt := 134) hx hb dX4_readToken_130 (by decide) ?_
          exact w_X4_readToken_J134 l D cI cB cJ cZ aK aV N q_this q_bytes length token value start end_ bytes post C0 hA o3 2 h _ _ hP hD hS ls hl
      · have h := ite_f c1 h
        refine lv_aload_n hx hb dX4_readToken_107 rfl (lv_at hl 0 rfl) ?_
        refine mu_Vv (C := RX4) (As := []) (rest := []) (wr := []) (wn := (fun u : Int32 × Int32 × Int32 => [(q_this, .inr (4, [.ref q_bytes, .int length, .int u.1, .int u.2.1, .int o3, .int u.2.2])), (q_bytes, .inl (cB, 300, .inl bytes))])) ⟨hx, hb, hml, hown, hts⟩ hE hP hD hS hA [0, 1] [] [0, 1] (c_X4_readNumber l D cI cB cJ cZ aK aV N q_this q_bytes length token 0 o3 o3 bytes H.size h) (cwV 0 hts gX4_readToken_X4_readNumber rfl rfl rfl (by decide +kernel) ⟨(Nat.le_of_ble_eq_true rfl), (Nat.le_of_ble_eq_true rfl)⟩) rfl rfl (by decide) (by decide) (by decide) (by decide) (fun _ => rfl) 0 rfl rfl rfl hl.1 rfl (Nat.le_of_ble_eq_true rfl) dX4_readToken_108 ⟨Nat.zero_le _, Nat.zero_le _⟩ (fun u H locs h hP hD hS => ?_)
        obtain ⟨u8, u9, u10⟩ := u
        dsimp only at h
        have hP : va_P D vwCl [(q_this, .inr (4, [.ref q_bytes, .int length, .int u8, .int u9, .int o3, .int u10])), (q_bytes, .inl (cB, 300, .inl bytes))] H := hP
        have hD : va_D A [(q_this, .inr (4, [.ref q_bytes, .int length, .int u8, .int u9, .int o3, .int u10])), (q_bytes, .inl (cB, 300, .inl bytes))] := hD
        refine lv_goto (tgt := 147) hx hb dX4_readToken_111 (by decide) ?_
        exact mu_vret (wf := wf_X4_readToken cI cB cJ cZ q_this q_bytes length token value start end_ bytes) (u8, u9, o3, u10) hx hb hr hlk hP hD hS h dX4_readToken_147
    · have h := ite_f c1 h
      refine lv_aload_n hx hb dX4_readToken_89 rfl (lv_at hl 0 rfl) ?_
      refine mu_Vv (C := RX4) (As := []) (rest := []) (wr := []) (wn := (fun u : Int32 × Int32 × Int32 => [(q_this, .inr (4, [.ref q_bytes, .int length, .int u.1, .int u.2.1, .int o3, .int u.2.2])), (q_bytes, .inl (cB, 300, .inl bytes))])) ⟨hx, hb, hml, hown, hts⟩ hE hP hD hS hA [0, 1] [] [0, 1] (c_X4_readWord l D cI cB cJ cZ aK aV N q_this q_bytes length token 0 o3 o3 bytes H.size h) (cwV 0 hts gX4_readToken_X4_readWord rfl rfl rfl (by decide +kernel) ⟨(Nat.le_of_ble_eq_true rfl), (Nat.le_of_ble_eq_true rfl)⟩) rfl rfl (by decide) (by decide) (by decide) (by decide) (fun _ => rfl) 0 rfl rfl rfl hl.1 rfl (Nat.le_of_ble_eq_true rfl) dX4_readToken_90 ⟨Nat.zero_le _, Nat.zero_le _⟩ (fun u H locs h hP hD hS => ?_)
      obtain ⟨u11, u12, u13⟩ := u
      dsimp only at h
      have hP : va_P D vwCl [(q_this, .inr (4, [.ref q_bytes, .int length, .int u11, .int u12, .int o3, .int u13])), (q_bytes, .inl (cB, 300, .inl bytes))] H := hP
      have hD : va_D A [(q_this, .inr (4, [.ref q_bytes, .int length, .int u11, .int u12, .int o3, .int u13])), (q_bytes, .inl (cB, 300, .inl bytes))] := hD
      refine lv_goto (tgt := 147) hx hb dX4_readToken_93 (by decide) ?_
      exact mu_vret (wf := wf_X4_readToken cI cB cJ cZ q_this q_bytes length token value start end_ bytes) (u11, u12, o3, u13) hx hb hr hlk hP hD hS h dX4_readToken_147
  · have h := ite_f c1 h
    refine lv_aload_n hx hb dX4_readToken_70 rfl (lv_at hl 0 rfl) ?_
    refine lv_iconst (v := 1) hx hb dX4_readToken_71 (by decide) ?_
    refine va_put (D := D) (ci := 4) (v := .int 1) (ty := .int) (C := RX4) (T := TX4) (N := 6) hx hb hts ik4 tyX4 tyX4_ok nmX4 hown hE.1.1 hP hD hS 0 rfl rfl 2 (by decide) (hts (.fieldLink RX4 19 "FortyHouses$Reader" "token" "I") (by decide +kernel)) (fun _ h9 => h9) rfl (by decide +kernel) rfl rfl (Nat.le_of_ble_eq_true rfl) dX4_readToken_72 (fun H locs hP hD hS => ?_)
    have hP : va_P D vwCl [(q_this, .inr (4, [.ref q_bytes, .int length, .int 1, .int 0, .int o3, .int o3])), (q_bytes, .inl (cB, 300, .inl bytes))] H := hP
    have hD : va_D A [(q_this, .inr (4, [.ref q_bytes, .int length, .int 1, .int 0, .int o3, .int o3])), (q_bytes, .inl (cB, 300, .inl bytes))] := hD
    refine lv_goto (tgt := 147) hx hb dX4_readToken_75 (by decide) ?_
    exact mu_vret (wf := wf_X4_readToken cI cB cJ cZ q_this q_bytes length token value start end_ bytes) (1, 0, o3, o3) hx hb hr hlk hP hD hS h dX4_readToken_147
abbrev wf_X4_readInto (cI cB cJ cZ : ClassId) (q_this : Nat) (q_bytes : Nat) (q_x1 : Nat) (q_x1_tenthsIf : Nat) (q_x1_tenthsWithout : Nat) (q_x1_conditions : Nat) (q_x1_tenthsElse : Nat) (length : Int32) (token : Int32) (value : Int32) (start : Int32) (end_ : Int32) (bytes : Nat → Int32) (x1_size : Int32) (x1_tenthsIf : Nat → Int32) (x1_tenthsWithout : Nat → Int32) (x1_conditions : Nat → Int32) (x1_tenthsElse : Nat → Int32) : Int32 × Int32 × Int32 × Int32 × Int32 × (Nat → Int32) × (Nat → Int32) × (Nat → Int32) × (Nat → Int32) → va_W := fun u => [(q_this, .inr (4, [.ref q_bytes, .int length, .int u.1, .int u.2.1, .int u.2.2.1, .int u.2.2.2.1])), (q_bytes, .inl (cB, 300, .inl bytes)), (q_x1, .inr (3, [.ref q_x1_tenthsIf, .ref q_x1_tenthsWithout, .ref q_x1_conditions, .ref q_x1_tenthsElse, .int u.2.2.2.2.1])), (q_x1_tenthsIf, .inl (cI, 6, .inl u.2.2.2.2.2.1)), (q_x1_tenthsWithout, .inl (cI, 6, .inl u.2.2.2.2.2.2.1)), (q_x1_conditions, .inl (cI, 6, .inl u.2.2.2.2.2.2.2.1)), (q_x1_tenthsElse, .inl (cI, 6, .inl u.2.2.2.2.2.2.2.2))]
set_option maxHeartbeats 4000000 in
set_option maxRecDepth 100000 in
theorem w_X4_readInto_B14 (l : Launch) (D : va_G) (cI cB cJ cZ : ClassId) (aK aV : Nat → Nat) (N : Nat) {p : Program} {e : Env} {s : State} {m : MethodId} {below : List Frame} {meth : Method} {c : Code} {A : Nat → Prop} (q_this : Nat) (q_bytes : Nat) (q_x1 : Nat) (q_x1_tenthsIf : Nat) (q_x1_tenthsWithout : Nat) (q_x1_conditions : Nat) (q_x1_tenthsElse : Nat) (length : Int32) (token : Int32) (value : Int32) (start : Int32) (end_ : Int32) (bytes : Nat → Int32) (x1_size : Int32) (x1_tenthsIf : Nat → Int32) (x1_tenthsWithout : Nat → Int32) (x1_conditions : Nat → Int32) (x1_tenthsElse : Nat → Int32) (post : Int32 → Int32 → Int32 → Int32 → Int32 → Int32 → (Nat → Int32) → (Nat → Int32) → (Nat → Int32) → (Nat → Int32) → Prop) (C0 : Cx p s m meth c ([.ref q_this, .ref q_x1] : List Value).toArray cX4_readInto 4 yX4_readInto.cls yX4_readInto.name (some .int) wsX4_readInto D cI cB cJ cZ aK aV A) (hA : ∀ q : Nat, s.heap.size ≤ q → A q)  (kb14 : Int32 → Int32 → Int32 → Int32 → Int32 → Int32 → Int32 → (Nat → Int32) → (Nat → Int32) → (Nat → Int32) → (Nat → Int32) → Prop) (hkb14 : ∀ (i1_ : Int32) (i2_ : Int32) (w3_ : Int32) (w4_ : Int32) (w5_ : Int32) (w6_ : Int32) (w7_ : Int32) (w8_ : Nat → Int32) (w9_ : Nat → Int32) (w10_ : Nat → Int32) (w11_ : Nat → Int32), kb14 i1_ i2_ w3_ w4_ w5_ w6_ w7_ w8_ w9_ w10_ w11_ → ∀ (H : Heap) (locs : List Loc), va_P D vwCl [(q_this, .inr (4, [.ref q_bytes, .int length, .int w5_, .int w6_, .int w7_, .int w4_])), (q_bytes, .inl (cB, 300, .inl bytes)), (q_x1, .inr (3, [.ref q_x1_tenthsIf, .ref q_x1_tenthsWithout, .ref q_x1_conditions, .ref q_x1_tenthsElse, .int w3_])), (q_x1_tenthsIf, .inl (cI, 6, .inl w8_)), (q_x1_tenthsWithout, .inl (cI, 6, .inl w9_)), (q_x1_conditions, .inl (cI, 6, .inl w10_)), (q_x1_tenthsElse, .inl (cI, 6, .inl w11_))] H → va_D A [(q_this, .inr (4, [.ref q_bytes, .int length, .int w5_, .int w6_, .int w7_, .int w4_])), (q_bytes, .inl (cB, 300, .inl bytes)), (q_x1, .inr (3, [.ref q_x1_tenthsIf, .ref q_x1_tenthsWithout, .ref q_x1_conditions, .ref q_x1_tenthsElse, .int w3_])), (q_x1_tenthsIf, .inl (cI, 6, .inl w8_)), (q_x1_tenthsWithout, .inl (cI, 6, .inl w9_)), (q_x1_conditions, .inl (cI, 6, .inl w10_)), (q_x1_tenthsElse, .inl (cI, 6, .inl w11_))] → va_S A s.heap H locs → ∀ ls : Array Slot, lv_has ls 4 [(0, .ref q_this), (1, .ref q_x1), (2, .int i1_), (3, .int i2_)] → W p l e { frames := 8, cells := 0, slots := 0, locals := 168 } s m ([.ref q_this, .ref q_x1] : List Value).toArray below meth c H locs 0 0 (MQ below (va_Qi (fun r (u : Int32 × Int32 × Int32 × Int32 × Int32 × (Nat → Int32) × (Nat → Int32) × (Nat → Int32) × (Nat → Int32)) => post r u.1 u.2.1 u.2.2.1 u.2.2.2.1 u.2.2.2.2.1 u.2.2.2.2.2.1 u.2.2.2.2.2.2.1 u.2.2.2.2.2.2.2.1 u.2.2.2.2.2.2.2.2) (BW D A (wf_X4_readInto cI cB cJ cZ q_this q_bytes q_x1 q_x1_tenthsIf q_x1_tenthsWithout q_x1_conditions q_x1_tenthsElse length token value start end_ bytes x1_size x1_tenthsIf x1_tenthsWithout x1_conditions x1_tenthsElse)) A) ([.ref q_this, .ref q_x1] : List Value).toArray s 0 0 A) (F0 m 14 ls [])) (i1 : Int32) (i2 : Int32) (w3 : Int32) (w4 : Int32) (w5 : Int32) (w6 : Int32) (w7 : Int32) (w8 : Nat → Int32) (w9 : Nat → Int32) (w10 : Nat → Int32) (w11 : Nat → Int32) (h : f_X4_readInto_B14 N length bytes post kb14 i1 i2 w3 w4 w5 w6 w7 w8 w9 w10 w11) (H : Heap) (locs : List Loc) (hP : va_P D vwCl [(q_this, .inr (4, [.ref q_bytes, .int length, .int w5, .int w6, .int w7, .int w4])), (q_bytes, .inl (cB, 300, .inl bytes)), (q_x1, .inr (3, [.ref q_x1_tenthsIf, .ref q_x1_tenthsWithout, .ref q_x1_conditions, .ref q_x1_tenthsElse, .int w3])), (q_x1_tenthsIf, .inl (cI, 6, .inl w8)), (q_x1_tenthsWithout, .inl (cI, 6, .inl w9)), (q_x1_conditions, .inl (cI, 6, .inl w10)), (q_x1_tenthsElse, .inl (cI, 6, .inl w11))] H) (hD : va_D A [(q_this, .inr (4, [.ref q_bytes, .int length, .int w5, .int w6, .int w7, .int w4])), (q_bytes, .inl (cB, 300, .inl bytes)), (q_x1, .inr (3, [.ref q_x1_tenthsIf, .ref q_x1_tenthsWithout, .ref q_x1_conditions, .ref q_x1_tenthsElse, .int w3])), (q_x1_tenthsIf, .inl (cI, 6, .inl w8)), (q_x1_tenthsWithout, .inl (cI, 6, .inl w9)), (q_x1_conditions, .inl (cI, 6, .inl w10)), (q_x1_tenthsElse, .inl (cI, 6, .inl w11))]) (hS : va_S A s.heap H locs) (ls : Array Slot) (hl : lv_has ls 4 [(0, .ref q_this), (1, .ref q_x1), (2, .int i1), (3, .int i2)]) : W p l e { frames := 8, cells := 0, slots := 0, locals := 168 } s m ([.ref q_this, .ref q_x1] : List Value).toArray below meth c H locs 0 0 (MQ below (va_Qi (fun r (u : Int32 × Int32 × Int32 × Int32 × Int32 × (Nat → Int32) × (Nat → Int32) × (Nat → Int32) × (Nat → Int32)) => post r u.1 u.2.1 u.2.2.1 u.2.2.2.1 u.2.2.2.2.1 u.2.2.2.2.2.1 u.2.2.2.2.2.2.1 u.2.2.2.2.2.2.2.1 u.2.2.2.2.2.2.2.2) (BW D A (wf_X4_readInto cI cB cJ cZ q_this q_bytes q_x1 q_x1_tenthsIf q_x1_tenthsWithout q_x1_conditions q_x1_tenthsElse length token value start end_ bytes x1_size x1_tenthsIf x1_tenthsWithout x1_conditions x1_tenthsElse)) A) ([.ref q_this, .ref q_x1] : List Value).toArray s 0 0 A) (F0 m 14 ls []) := by
  obtain ⟨hx, hb, hr, hml, hown, hts, hE, hlk, hnm⟩ := id C0
  have ik3 : ∀ w ∈ u_ws RX3 TX3 5, w ∈ wsX4_readInto := by decide +kernel
  have ik4 : ∀ w ∈ u_ws RX4 TX4 6, w ∈ wsX4_readInto := by decide +kernel
  unfold f_X4_readInto_B14 at h
  refine lv_iload_n hx hb dX4_readInto_14 rfl (lv_at hl 3 rfl) ?_
  refine lv_sipush (v := 300) hx hb dX4_readInto_15 (by decide) ?_
  refine lv_icmp_gt (tgt := 76) hx hb dX4_readInto_18 (by decide) (fun c1 => ?_) (fun c1 => ?_)
  · have h := ite_t c1 h
    refine lv_aload_n hx hb dX4_readInto_76 rfl (lv_at hl 0 rfl) ?_
    refine va_get (D := D) (ci := 4) (v := .int length) (C := RX4) (T := TX4) (N := 6) hx hb hts ik4 hown hE.1.1 hP 0 rfl rfl 1 (by decide) (hts (.fieldLink RX4 15 "FortyHouses$Reader" "length" "I") (by decide +kernel)) (fun _ h9 => h9) rfl dX4_readInto_77 ?_
    exact mu_iret (wf := wf_X4_readInto cI cB cJ cZ q_this q_bytes q_x1 q_x1_tenthsIf q_x1_tenthsWithout q_x1_conditions q_x1_tenthsElse length token value start end_ bytes x1_size x1_tenthsIf x1_tenthsWithout x1_conditions x1_tenthsElse) (w5, w6, w7, w4, w3, w8, w9, w10, w11) hx hb hr hlk hP hD hS h dX4_readInto_80
  · have h := ite_f c1 h
    refine lv_aload_n hx hb dX4_readInto_21 rfl (lv_at hl 0 rfl) ?_
    refine mu_Vv (C := RX4) (As := []) (rest := []) (wr := [(q_x1, .inr (3, [.ref q_x1_tenthsIf, .ref q_x1_tenthsWithout, .ref q_x1_conditions, .ref q_x1_tenthsElse, .int w3])), (q_x1_tenthsIf, .inl (cI, 6, .inl w8)), (q_x1_tenthsWithout, .inl (cI, 6, .inl w9)), (q_x1_conditions, .inl (cI, 6, .inl w10)), (q_x1_tenthsElse, .inl (cI, 6, .inl w11))]) (wn := (fun u : Int32 × Int32 × Int32 × Int32 => [(q_this, .inr (4, [.ref q_bytes, .int length, .int u.1, .int u.2.1, .int u.2.2.1, .int u.2.2.2])), (q_bytes, .inl (cB, 300, .inl bytes)), (q_x1, .inr (3, [.ref q_x1_tenthsIf, .ref q_x1_tenthsWithout, .ref q_x1_conditions, .ref q_x1_tenthsElse, .int w3])), (q_x1_tenthsIf, .inl (cI, 6, .inl w8)), (q_x1_tenthsWithout, .inl (cI, 6, .inl w9)), (q_x1_conditions, .inl (cI, 6, .inl w10)), (q_x1_tenthsElse, .inl (cI, 6, .inl w11))])) ⟨hx, hb, hml, hown, hts⟩ hE hP hD hS hA [0, 1] [2, 3, 4, 5, 6] [5, 6, 0, 1, 2, 3, 4] (c_X4_readToken l D cI cB cJ cZ aK aV N q_this q_bytes length w5 w6 w7 w4 bytes H.size h) (cwV 0 hts gX4_readInto_X4_readToken rfl rfl rfl (by decide +kernel) ⟨(Nat.le_of_ble_eq_true rfl), (Nat.le_of_ble_eq_true rfl)⟩) rfl rfl (by decide) (by decide) (by decide) (by decide) (fun _ => rfl) 0 rfl rfl rfl hl.1 rfl (Nat.le_of_ble_eq_true rfl) dX4_readInto_22 ⟨Nat.zero_le _, Nat.zero_le _⟩ (fun u H locs h hP hD hS => ?_)
    obtain ⟨u12, u13, u14, u15⟩ := u
    dsimp only at h
    have hP : va_P D vwCl [(q_this, .inr (4, [.ref q_bytes, .int length, .int u12, .int u13, .int u14, .int u15])), (q_bytes, .inl (cB, 300, .inl bytes)), (q_x1, .inr (3, [.ref q_x1_tenthsIf, .ref q_x1_tenthsWithout, .ref q_x1_conditions, .ref q_x1_tenthsElse, .int w3])), (q_x1_tenthsIf, .inl (cI, 6, .inl w8)), (q_x1_tenthsWithout, .inl (cI, 6, .inl w9)), (q_x1_conditions, .inl (cI, 6, .inl w10)), (q_x1_tenthsElse, .inl (cI, 6, .inl w11))] H := hP
    have hD : va_D A [(q_this, .inr (4, [.ref q_bytes, .int length, .int u12, .int u13, .int u14, .int u15])), (q_bytes, .inl (cB, 300, .inl bytes)), (q_x1, .inr (3, [.ref q_x1_tenthsIf, .ref q_x1_tenthsWithout, .ref q_x1_conditions, .ref q_x1_tenthsElse, .int w3])), (q_x1_tenthsIf, .inl (cI, 6, .inl w8)), (q_x1_tenthsWithout, .inl (cI, 6, .inl w9)), (q_x1_conditions, .inl (cI, 6, .inl w10)), (q_x1_tenthsElse, .inl (cI, 6, .inl w11))] := hD
    refine lv_aload_n hx hb dX4_readInto_25 rfl (lv_at hl 0 rfl) ?_
    refine va_get (D := D) (ci := 4) (v := .int u12) (C := RX4) (T := TX4) (N := 6) hx hb hts ik4 hown hE.1.1 hP 0 rfl rfl 2 (by decide) (hts (.fieldLink RX4 19 "FortyHouses$Reader" "token" "I") (by decide +kernel)) (fun _ h9 => h9) rfl dX4_readInto_26 ?_
    refine lv_iconst (v := 1) hx hb dX4_readInto_29 (by decide) ?_
    refine lv_icmp_ne (tgt := 46) hx hb dX4_readInto_30 (by decide) (fun c1 => ?_) (fun c1 => ?_)
    · have h := ite_t c1 h
      refine lv_aload_n hx hb dX4_readInto_46 rfl (lv_at hl 1 rfl) ?_
      refine lv_iload_n hx hb dX4_readInto_47 rfl (lv_at hl 2 rfl) ?_
      refine lv_aload_n hx hb dX4_readInto_48 rfl (lv_at hl 0 rfl) ?_
      refine va_get (D := D) (ci := 4) (v := .int u12) (C := RX4) (T := TX4) (N := 6) hx hb hts ik4 hown hE.1.1 hP 0 rfl rfl 2 (by decide) (hts (.fieldLink RX4 19 "FortyHouses$Reader" "token" "I") (by decide +kernel)) (fun _ h9 => h9) rfl dX4_readInto_49 ?_
      refine lv_aload_n hx hb dX4_readInto_52 rfl (lv_at hl 0 rfl) ?_
      refine va_get (D := D) (ci := 4) (v := .int u13) (C := RX4) (T := TX4) (N := 6) hx hb hts ik4 hown hE.1.1 hP 0 rfl rfl 3 (by decide) (hts (.fieldLink RX4 22 "FortyHouses$Reader" "value" "I") (by decide +kernel)) (fun _ h9 => h9) rfl dX4_readInto_53 ?_
      refine mu_Vi (C := RX3) (As := [.int i1, .int u12, .int u13]) (rest := []) (wr := [(q_this, .inr (4, [.ref q_bytes, .int length, .int u12, .int u13, .int u14, .int u15])), (q_bytes, .inl (cB, 300, .inl bytes))]) (wn := (fun u : Int32 × (Nat → Int32) × (Nat → Int32) × (Nat → Int32) × (Nat → Int32) => [(q_this, .inr (4, [.ref q_bytes, .int length, .int u12, .int u13, .int u14, .int u15])), (q_bytes, .inl (cB, 300, .inl bytes)), (q_x1, .inr (3, [.ref q_x1_tenthsIf, .ref q_x1_tenthsWithout, .ref q_x1_conditions, .ref q_x1_tenthsElse, .int u.1])), (q_x1_tenthsIf, .inl (cI, 6, .inl u.2.1)), (q_x1_tenthsWithout, .inl (cI, 6, .inl u.2.2.1)), (q_x1_conditions, .inl (cI, 6, .inl u.2.2.2.1)), (q_x1_tenthsElse, .inl (cI, 6, .inl u.2.2.2.2))])) ⟨hx, hb, hml, hown, hts⟩ hE hP hD hS hA [2, 3, 4, 5, 6] [0, 1] [0, 1, 2, 3, 4, 5, 6] (c_X3_take l D cI cB cJ cZ aK aV N q_x1 q_x1_tenthsIf q_x1_tenthsWithout q_x1_conditions q_x1_tenthsElse w3 w8 w9 w10 w11 i1 u12 u13 H.size h) (cwV 3 hts gX4_readInto_X3_take rfl rfl rfl (by decide +kernel) ⟨(Nat.le_of_ble_eq_true rfl), (Nat.le_of_ble_eq_true rfl)⟩) rfl rfl (by decide) (by decide) (by decide) (by decide) (fun _ => rfl) 2 rfl rfl rfl hl.1 rfl (Nat.le_of_ble_eq_true rfl) dX4_readInto_56 ⟨Nat.zero_le _, Nat.zero_le _⟩ (fun r16 u H locs h hP hD hS => ?_)
      obtain ⟨u17, u18, u19, u20, u21⟩ := u
      dsimp only at h
      have hP : va_P D vwCl [(q_this, .inr (4, [.ref q_bytes, .int length, .int u12, .int u13, .int u14, .int u15])), (q_bytes, .inl (cB, 300, .inl bytes)), (q_x1, .inr (3, [.ref q_x1_tenthsIf, .ref q_x1_tenthsWithout, .ref q_x1_conditions, .ref q_x1_tenthsElse, .int u17])), (q_x1_tenthsIf, .inl (cI, 6, .inl u18)), (q_x1_tenthsWithout, .inl (cI, 6, .inl u19)), (q_x1_conditions, .inl (cI, 6, .inl u20)), (q_x1_tenthsElse, .inl (cI, 6, .inl u21))] H := hP
      have hD : va_D A [(q_this, .inr (4, [.ref q_bytes, .int length, .int u12, .int u13, .int u14, .int u15])), (q_bytes, .inl (cB, 300, .inl bytes)), (q_x1, .inr (3, [.ref q_x1_tenthsIf, .ref q_x1_tenthsWithout, .ref q_x1_conditions, .ref q_x1_tenthsElse, .int u17])), (q_x1_tenthsIf, .inl (cI, 6, .inl u18)), (q_x1_tenthsWithout, .inl (cI, 6, .inl u19)), (q_x1_conditions, .inl (cI, 6, .inl u20)), (q_x1_tenthsElse, .inl (cI, 6, .inl u21))] := hD
      refine lv_istore_n (lv' := [(2, .int r16), (0, .ref q_this), (1, .ref q_x1), (3, .int i2)]) hx hb dX4_readInto_59 rfl hl (by decide) rfl (fun ls hl => ?_)
      refine lv_iload_n hx hb dX4_readInto_60 rfl (lv_at hl 0 rfl) ?_
      refine lv_iconst (v := (-1)) hx hb dX4_readInto_61 (by decide) ?_
      refine lv_icmp_ne (tgt := 70) hx hb dX4_readInto_62 (by decide) (fun c1 => ?_) (fun c1 => ?_)
      · have h := ite_t c1 h
        obtain ⟨v22, ex⟩ : ∃ y : Int32, y = (i2 + 1) := ⟨_, rfl⟩
        have h := nm_of ex h
        refine lv_iinc (v := v22) (lv' := [(3, .int v22), (2, .int r16), (0, .ref q_this), (1, .ref q_x1)]) hx hb dX4_readInto_70 hl (k := 3) rfl (by rw [ex]; rfl) (by decide) rfl (fun ls hl => ?_)
        refine lv_goto (tgt := 14) hx hb dX4_readInto_73 (by decide) ?_
        exact hkb14 r16 v22 u17 u15 u12 u13 u14 u18 u19 u20 u21 h _ _ hP hD hS ls (lv_sub hl [2, 3, 1, 0] rfl)
      · have h := ite_n c1 h
        refine lv_aload_n hx hb dX4_readInto_65 rfl (lv_at hl 1 rfl) ?_
        refine va_get (D := D) (ci := 4) (v := .int u14) (C := RX4) (T := TX4) (N := 6) hx hb hts ik4 hown hE.1.1 hP 0 rfl rfl 4 (by decide) (hts (.fieldLink RX4 25 "FortyHouses$Reader" "start" "I") (by decide +kernel)) (fun _ h9 => h9) rfl dX4_readInto_66 ?_
        exact mu_iret (wf := wf_X4_readInto cI cB cJ cZ q_this q_bytes q_x1 q_x1_tenthsIf q_x1_tenthsWithout q_x1_conditions q_x1_tenthsElse length token value start end_ bytes x1_size x1_tenthsIf x1_tenthsWithout x1_conditions x1_tenthsElse) (u12, u13, u14, u15, u17, u18, u19, u20, u21) hx hb hr hlk hP hD hS h dX4_readInto_69
    · have h := ite_n c1 h
      refine lv_iload_n hx hb dX4_readInto_33 rfl (lv_at hl 2 rfl) ?_
      refine lv_if_ne (tgt := 41) hx hb dX4_readInto_34 (by decide) (fun c1 => ?_) (fun c1 => ?_)
      · have h := ite_t c1 h
        refine lv_aload_n hx hb dX4_readInto_41 rfl (lv_at hl 0 rfl) ?_
        refine va_get (D := D) (ci := 4) (v := .int length) (C := RX4) (T := TX4) (N := 6) hx hb hts ik4 hown hE.1.1 hP 0 rfl rfl 1 (by decide) (hts (.fieldLink RX4 15 "FortyHouses$Reader" "length" "I") (by decide +kernel)) (fun _ h9 => h9) rfl dX4_readInto_42 ?_
        exact mu_iret (wf := wf_X4_readInto cI cB cJ cZ q_this q_bytes q_x1 q_x1_tenthsIf q_x1_tenthsWithout q_x1_conditions q_x1_tenthsElse length token value start end_ bytes x1_size x1_tenthsIf x1_tenthsWithout x1_conditions x1_tenthsElse) (u12, u13, u14, u15, w3, w8, w9, w10, w11) hx hb hr hlk hP hD hS h dX4_readInto_45
      · have h := ite_n c1 h
        refine lv_iconst (v := (-1)) hx hb dX4_readInto_37 (by decide) ?_
        refine lv_goto (tgt := 45) hx hb dX4_readInto_38 (by decide) ?_
        exact mu_iret (wf := wf_X4_readInto cI cB cJ cZ q_this q_bytes q_x1 q_x1_tenthsIf q_x1_tenthsWithout q_x1_conditions q_x1_tenthsElse length token value start end_ bytes x1_size x1_tenthsIf x1_tenthsWithout x1_conditions x1_tenthsElse) (u12, u13, u14, u15, w3, w8, w9, w10, w11) hx hb hr hlk hP hD hS h dX4_readInto_45
set_option maxHeartbeats 4000000 in
set_option maxRecDepth 100000 in
theorem w_X4_readInto_L14 (l : Launch) (D : va_G) (cI cB cJ cZ : ClassId) (aK aV : Nat → Nat) (N : Nat) {p : Program} {e : Env} {s : State} {m : MethodId} {below : List Frame} {meth : Method} {c : Code} {A : Nat → Prop} (q_this : Nat) (q_bytes : Nat) (q_x1 : Nat) (q_x1_tenthsIf : Nat) (q_x1_tenthsWithout : Nat) (q_x1_conditions : Nat) (q_x1_tenthsElse : Nat) (length : Int32) (token : Int32) (value : Int32) (start : Int32) (end_ : Int32) (bytes : Nat → Int32) (x1_size : Int32) (x1_tenthsIf : Nat → Int32) (x1_tenthsWithout : Nat → Int32) (x1_conditions : Nat → Int32) (x1_tenthsElse : Nat → Int32) (post : Int32 → Int32 → Int32 → Int32 → Int32 → Int32 → (Nat → Int32) → (Nat → Int32) → (Nat → Int32) → (Nat → Int32) → Prop) (C0 : Cx p s m meth c ([.ref q_this, .ref q_x1] : List Value).toArray cX4_readInto 4 yX4_readInto.cls yX4_readInto.name (some .int) wsX4_readInto D cI cB cJ cZ aK aV A) (hA : ∀ q : Nat, s.heap.size ≤ q → A q)   : ∀ (n_ : Nat) (i1 : Int32) (i2 : Int32) (w3 : Int32) (w4 : Int32) (w5 : Int32) (w6 : Int32) (w7 : Int32) (w8 : Nat → Int32) (w9 : Nat → Int32) (w10 : Nat → Int32) (w11 : Nat → Int32), f_X4_readInto_L14 N length bytes post n_ i1 i2 w3 w4 w5 w6 w7 w8 w9 w10 w11 → ∀ (H : Heap) (locs : List Loc), va_P D vwCl [(q_this, .inr (4, [.ref q_bytes, .int length, .int w5, .int w6, .int w7, .int w4])), (q_bytes, .inl (cB, 300, .inl bytes)), (q_x1, .inr (3, [.ref q_x1_tenthsIf, .ref q_x1_tenthsWithout, .ref q_x1_conditions, .ref q_x1_tenthsElse, .int w3])), (q_x1_tenthsIf, .inl (cI, 6, .inl w8)), (q_x1_tenthsWithout, .inl (cI, 6, .inl w9)), (q_x1_conditions, .inl (cI, 6, .inl w10)), (q_x1_tenthsElse, .inl (cI, 6, .inl w11))] H → va_D A [(q_this, .inr (4, [.ref q_bytes, .int length, .int w5, .int w6, .int w7, .int w4])), (q_bytes, .inl (cB, 300, .inl bytes)), (q_x1, .inr (3, [.ref q_x1_tenthsIf, .ref q_x1_tenthsWithout, .ref q_x1_conditions, .ref q_x1_tenthsElse, .int w3])), (q_x1_tenthsIf, .inl (cI, 6, .inl w8)), (q_x1_tenthsWithout, .inl (cI, 6, .inl w9)), (q_x1_conditions, .inl (cI, 6, .inl w10)), (q_x1_tenthsElse, .inl (cI, 6, .inl w11))] → va_S A s.heap H locs → ∀ ls : Array Slot, lv_has ls 4 [(0, .ref q_this), (1, .ref q_x1), (2, .int i1), (3, .int i2)] → W p l e { frames := 8, cells := 0, slots := 0, locals := 168 } s m ([.ref q_this, .ref q_x1] : List Value).toArray below meth c H locs 0 0 (MQ below (va_Qi (fun r (u : Int32 × Int32 × Int32 × Int32 × Int32 × (Nat → Int32) × (Nat → Int32) × (Nat → Int32) × (Nat → Int32)) => post r u.1 u.2.1 u.2.2.1 u.2.2.2.1 u.2.2.2.2.1 u.2.2.2.2.2.1 u.2.2.2.2.2.2.1 u.2.2.2.2.2.2.2.1 u.2.2.2.2.2.2.2.2) (BW D A (wf_X4_readInto cI cB cJ cZ q_this q_bytes q_x1 q_x1_tenthsIf q_x1_tenthsWithout q_x1_conditions q_x1_tenthsElse length token value start end_ bytes x1_size x1_tenthsIf x1_tenthsWithout x1_conditions x1_tenthsElse)) A) ([.ref q_this, .ref q_x1] : List Value).toArray s 0 0 A) (F0 m 14 ls []) := by
  intro n_
  induction n_ with
  | zero => intro i1 i2 w3 w4 w5 w6 w7 w8 w9 w10 w11 h; exact h.elim
  | succ n_ ih =>
    intro i1 i2 w3 w4 w5 w6 w7 w8 w9 w10 w11 h H locs hP hD hS ls hl
    exact w_X4_readInto_B14 l D cI cB cJ cZ aK aV N q_this q_bytes q_x1 q_x1_tenthsIf q_x1_tenthsWithout q_x1_conditions q_x1_tenthsElse length token value start end_ bytes x1_size x1_tenthsIf x1_tenthsWithout x1_conditions x1_tenthsElse post C0 hA (f_X4_readInto_L14 N length bytes post n_) ih i1 i2 w3 w4 w5 w6 w7 w8 w9 w10 w11 h H locs hP hD hS ls hl
set_option maxHeartbeats 4000000 in
set_option maxRecDepth 100000 in
theorem c_X4_readInto (l : Launch) (D : va_G) (cI cB cJ cZ : ClassId) (aK aV : Nat → Nat) (N : Nat) (q_this : Nat) (q_bytes : Nat) (q_x1 : Nat) (q_x1_tenthsIf : Nat) (q_x1_tenthsWithout : Nat) (q_x1_conditions : Nat) (q_x1_tenthsElse : Nat) (length : Int32) (token : Int32) (value : Int32) (start : Int32) (end_ : Int32) (bytes : Nat → Int32) (x1_size : Int32) (x1_tenthsIf : Nat → Int32) (x1_tenthsWithout : Nat → Int32) (x1_conditions : Nat → Int32) (x1_tenthsElse : Nat → Int32) (sz : Nat) {post : Int32 → Int32 → Int32 → Int32 → Int32 → Int32 → (Nat → Int32) → (Nat → Int32) → (Nat → Int32) → (Nat → Int32) → Prop} (h : f_X4_readInto N length token value start bytes x1_tenthsIf x1_tenthsWithout x1_conditions x1_tenthsElse post) : Met l yX4_readInto wsX4_readInto { frames := 8, cells := 0, slots := 0, locals := 168 } (PW D cI cB cJ cZ aK aV [.ref q_this, .ref q_x1] [(q_this, .inr (4, [.ref q_bytes, .int length, .int token, .int value, .int start, .int end_])), (q_bytes, .inl (cB, 300, .inl bytes)), (q_x1, .inr (3, [.ref q_x1_tenthsIf, .ref q_x1_tenthsWithout, .ref q_x1_conditions, .ref q_x1_tenthsElse, .int x1_size])), (q_x1_tenthsIf, .inl (cI, 6, .inl x1_tenthsIf)), (q_x1_tenthsWithout, .inl (cI, 6, .inl x1_tenthsWithout)), (q_x1_conditions, .inl (cI, 6, .inl x1_conditions)), (q_x1_tenthsElse, .inl (cI, 6, .inl x1_tenthsElse))] sz) (va_Qi (fun r (u : Int32 × Int32 × Int32 × Int32 × Int32 × (Nat → Int32) × (Nat → Int32) × (Nat → Int32) × (Nat → Int32)) => post r u.1 u.2.1 u.2.2.1 u.2.2.2.1 u.2.2.2.2.1 u.2.2.2.2.2.1 u.2.2.2.2.2.2.1 u.2.2.2.2.2.2.2.1 u.2.2.2.2.2.2.2.2) (BW D (va_A [(q_this, .inr (4, [.ref q_bytes, .int length, .int token, .int value, .int start, .int end_])), (q_bytes, .inl (cB, 300, .inl bytes)), (q_x1, .inr (3, [.ref q_x1_tenthsIf, .ref q_x1_tenthsWithout, .ref q_x1_conditions, .ref q_x1_tenthsElse, .int x1_size])), (q_x1_tenthsIf, .inl (cI, 6, .inl x1_tenthsIf)), (q_x1_tenthsWithout, .inl (cI, 6, .inl x1_tenthsWithout)), (q_x1_conditions, .inl (cI, 6, .inl x1_conditions)), (q_x1_tenthsElse, .inl (cI, 6, .inl x1_tenthsElse))] sz) (wf_X4_readInto cI cB cJ cZ q_this q_bytes q_x1 q_x1_tenthsIf q_x1_tenthsWithout q_x1_conditions q_x1_tenthsElse length token value start end_ bytes x1_size x1_tenthsIf x1_tenthsWithout x1_conditions x1_tenthsElse)) (va_A [(q_this, .inr (4, [.ref q_bytes, .int length, .int token, .int value, .int start, .int end_])), (q_bytes, .inl (cB, 300, .inl bytes)), (q_x1, .inr (3, [.ref q_x1_tenthsIf, .ref q_x1_tenthsWithout, .ref q_x1_conditions, .ref q_x1_tenthsElse, .int x1_size])), (q_x1_tenthsIf, .inl (cI, 6, .inl x1_tenthsIf)), (q_x1_tenthsWithout, .inl (cI, 6, .inl x1_tenthsWithout)), (q_x1_conditions, .inl (cI, 6, .inl x1_conditions)), (q_x1_tenthsElse, .inl (cI, 6, .inl x1_tenthsElse))] sz)) 0 0 (va_A [(q_this, .inr (4, [.ref q_bytes, .int length, .int token, .int value, .int start, .int end_])), (q_bytes, .inl (cB, 300, .inl bytes)), (q_x1, .inr (3, [.ref q_x1_tenthsIf, .ref q_x1_tenthsWithout, .ref q_x1_conditions, .ref q_x1_tenthsElse, .int x1_size])), (q_x1_tenthsIf, .inl (cI, 6, .inl x1_tenthsIf)), (q_x1_tenthsWithout, .inl (cI, 6, .inl x1_tenthsWithout)), (q_x1_conditions, .inl (cI, 6, .inl x1_conditions)), (q_x1_tenthsElse, .inl (cI, 6, .inl x1_tenthsElse))] sz) := by
  refine mu_enter (Qc := fun A => (va_Qi (fun r (u : Int32 × Int32 × Int32 × Int32 × Int32 × (Nat → Int32) × (Nat → Int32) × (Nat → Int32) × (Nat → Int32)) => post r u.1 u.2.1 u.2.2.1 u.2.2.2.1 u.2.2.2.2.1 u.2.2.2.2.2.1 u.2.2.2.2.2.2.1 u.2.2.2.2.2.2.2.1 u.2.2.2.2.2.2.2.2) (BW D A (wf_X4_readInto cI cB cJ cZ q_this q_bytes q_x1 q_x1_tenthsIf q_x1_tenthsWithout q_x1_conditions q_x1_tenthsElse length token value start end_ bytes x1_size x1_tenthsIf x1_tenthsWithout x1_conditions x1_tenthsElse)) A)) (cc := cX4_readInto) (maxL := 4) (ret := (some .int)) (by decide) rfl (Nat.le_of_ble_eq_true rfl) ?_
  intro p e s m below meth c A C0 hA H locs hP hD hS ls hl
  have hl : lv_has ls 4 [(0, .ref q_this), (1, .ref q_x1)] := hl
  unfold f_X4_readInto at h
  obtain ⟨hx, hb, hr, hml, hown, hts, hE, hlk, hnm⟩ := id C0
  have ik3 : ∀ w ∈ u_ws RX3 TX3 5, w ∈ wsX4_readInto := by decide +kernel
  have ik4 : ∀ w ∈ u_ws RX4 TX4 6, w ∈ wsX4_readInto := by decide +kernel
  refine lv_aload_n hx hb dX4_readInto_0 rfl (lv_at hl 1 rfl) ?_
  refine lv_iconst (v := 0) hx hb dX4_readInto_1 (by decide) ?_
  refine va_put (D := D) (ci := 3) (v := .int 0) (ty := .int) (C := RX3) (T := TX3) (N := 5) hx hb hts ik3 tyX3 tyX3_ok nmX3 hown hE.1.1 hP hD hS 2 rfl rfl 4 (by decide) (hts (.fieldLink RX4 31 "FortyHouses$Laws" "size" "I") (by decide +kernel)) (fun _ h9 => h9) rfl (by decide +kernel) rfl rfl (Nat.le_of_ble_eq_true rfl) dX4_readInto_2 (fun H locs hP hD hS => ?_)
  have hP : va_P D vwCl [(q_this, .inr (4, [.ref q_bytes, .int length, .int token, .int value, .int start, .int end_])), (q_bytes, .inl (cB, 300, .inl bytes)), (q_x1, .inr (3, [.ref q_x1_tenthsIf, .ref q_x1_tenthsWithout, .ref q_x1_conditions, .ref q_x1_tenthsElse, .int 0])), (q_x1_tenthsIf, .inl (cI, 6, .inl x1_tenthsIf)), (q_x1_tenthsWithout, .inl (cI, 6, .inl x1_tenthsWithout)), (q_x1_conditions, .inl (cI, 6, .inl x1_conditions)), (q_x1_tenthsElse, .inl (cI, 6, .inl x1_tenthsElse))] H := hP
  have hD : va_D A [(q_this, .inr (4, [.ref q_bytes, .int length, .int token, .int value, .int start, .int end_])), (q_bytes, .inl (cB, 300, .inl bytes)), (q_x1, .inr (3, [.ref q_x1_tenthsIf, .ref q_x1_tenthsWithout, .ref q_x1_conditions, .ref q_x1_tenthsElse, .int 0])), (q_x1_tenthsIf, .inl (cI, 6, .inl x1_tenthsIf)), (q_x1_tenthsWithout, .inl (cI, 6, .inl x1_tenthsWithout)), (q_x1_conditions, .inl (cI, 6, .inl x1_conditions)), (q_x1_tenthsElse, .inl (cI, 6, .inl x1_tenthsElse))] := hD
  refine lv_aload_n hx hb dX4_readInto_5 rfl (lv_at hl 0 rfl) ?_
  refine lv_iconst (v := 0) hx hb dX4_readInto_6 (by decide) ?_
  refine va_put (D := D) (ci := 4) (v := .int 0) (ty := .int) (C := RX4) (T := TX4) (N := 6) hx hb hts ik4 tyX4 tyX4_ok nmX4 hown hE.1.1 hP hD hS 0 rfl rfl 5 (by decide) (hts (.fieldLink RX4 28 "FortyHouses$Reader" "end" "I") (by decide +kernel)) (fun _ h9 => h9) rfl (by decide +kernel) rfl rfl (Nat.le_of_ble_eq_true rfl) dX4_readInto_7 (fun H locs hP hD hS => ?_)
  have hP : va_P D vwCl [(q_this, .inr (4, [.ref q_bytes, .int length, .int token, .int value, .int start, .int 0])), (q_bytes, .inl (cB, 300, .inl bytes)), (q_x1, .inr (3, [.ref q_x1_tenthsIf, .ref q_x1_tenthsWithout, .ref q_x1_conditions, .ref q_x1_tenthsElse, .int 0])), (q_x1_tenthsIf, .inl (cI, 6, .inl x1_tenthsIf)), (q_x1_tenthsWithout, .inl (cI, 6, .inl x1_tenthsWithout)), (q_x1_conditions, .inl (cI, 6, .inl x1_conditions)), (q_x1_tenthsElse, .inl (cI, 6, .inl x1_tenthsElse))] H := hP
  have hD : va_D A [(q_this, .inr (4, [.ref q_bytes, .int length, .int token, .int value, .int start, .int 0])), (q_bytes, .inl (cB, 300, .inl bytes)), (q_x1, .inr (3, [.ref q_x1_tenthsIf, .ref q_x1_tenthsWithout, .ref q_x1_conditions, .ref q_x1_tenthsElse, .int 0])), (q_x1_tenthsIf, .inl (cI, 6, .inl x1_tenthsIf)), (q_x1_tenthsWithout, .inl (cI, 6, .inl x1_tenthsWithout)), (q_x1_conditions, .inl (cI, 6, .inl x1_conditions)), (q_x1_tenthsElse, .inl (cI, 6, .inl x1_tenthsElse))] := hD
  refine lv_iconst (v := 0) hx hb dX4_readInto_10 (by decide) ?_
  refine lv_istore_n (lv' := [(2, .int 0), (0, .ref q_this), (1, .ref q_x1)]) hx hb dX4_readInto_11 rfl hl (by decide) rfl (fun ls hl => ?_)
  refine lv_iconst (v := 0) hx hb dX4_readInto_12 (by decide) ?_
  refine lv_istore_n (lv' := [(3, .int 0), (2, .int 0), (0, .ref q_this), (1, .ref q_x1)]) hx hb dX4_readInto_13 rfl hl (by decide) rfl (fun ls hl => ?_)
  exact w_X4_readInto_L14 l D cI cB cJ cZ aK aV N q_this q_bytes q_x1 q_x1_tenthsIf q_x1_tenthsWithout q_x1_conditions q_x1_tenthsElse length token value start end_ bytes x1_size x1_tenthsIf x1_tenthsWithout x1_conditions x1_tenthsElse post C0 hA  N 0 0 0 0 token value start x1_tenthsIf x1_tenthsWithout x1_conditions x1_tenthsElse h _ _ hP hD hS ls (lv_sub hl [2, 3, 1, 0] rfl)
