/-! The String constants law, if, else: length and charAt of them; and FortyHouses.imageOf. -/
section STR
variable {p : Program} {l : Launch} {e : Env} {R : Room} {s : State} {m : MethodId} {args : Array Value} {below : List Frame} {meth : Method} {c : Code} {H : Heap} {locs : List Loc} {cells slots : Nat} {Q : State → Prop}
variable {cc : ByteArray} {pc : Nat} {ls : Array Slot} {rest st0 : List Value} {D : va_G} {cI cB cJ cZ : ClassId} {aK aV : Nat → Nat} {A : Nat → Prop} {nL : Nat} {own : String} {Ts : List Cond}
variable {y : MethodName} {bytes : ByteArray} {maxL n index : Nat} {ret : Option FieldType} {wy : List Cond} {rm : Room} {C : String} {As : List Value}
theorem ro_str {k : Nat} {post : Int32 → Prop} (S : CallFix p m c cc nL s args Ts own) (hE : EvA D cI cB cJ cZ aK aV A s) (hS : va_S A s.heap H locs) (hM : Met l y wy rm (PR D cI cB cJ cZ aK aV (.ref (aK k) :: As) []) (vp_Si post) 0 0 (fun _ => False)) (cw : CallW R s args own RJ0 index y bytes maxL ret wy rm 0 0 n) (hk : k < 3) (hn : As.length = n) (hsz : ls.size = nL) (hst : st0 = As.reverse ++ .ref (aK k) :: rest) (hroom : (rest.map fun v => v.category).sum ≤ 8) (hdg : decode cc pc = .ok (.invokevirtual index, 3)) (hf : cells ≤ R.cells ∧ slots ≤ R.slots)
    (kk : ∀ r : Int32, post r → W p l e R s m args below meth c H locs cells slots Q (F0 m (pc + 3) ls (.int r :: rest))) : W p l e R s m args below meth c H locs cells slots Q (F0 m pc ls st0) :=
  vp_callSi (W.runV (As := As) (rest := rest) S hM cw ⟨PR.blind, vk_recv hE.2.1 hk hS, fun U hU hW => ⟨rfl, ro_nil, hE.1.warm hW, hE.2.go hS hU hW (fun _ h => h.elim)⟩⟩ rfl hn hsz hst (lv_room hroom) hdg hf) kk
theorem ro_vret (hx : p.tables.exec = Jvm.exec) (hb : c.code = cc) (hr : meth.sig.returnType = none) (hk : meth.locks = false) (hdg : decode cc pc = .ok (.return_, 1)) : W p l e R s m args below meth c s.heap [] 0 0 (MQ below (va_Sv (fun _ => True)) args s 0 0 (fun _ => False)) (F0 m pc ls []) := W.vret hx hb hr (fun t ht _ => ⟨rfl, trivial, ht⟩) (fun q hq => by cases hq) hdg hk
end STR
theorem sLen_le : ∀ k, k < 3 → sLen k < 5 := by decide
theorem sCh_ok : ∀ k, k < 3 → ∀ j, j < 5 → ((sCh k j &&& 255).toUInt32 % 65536).toInt32 = sCh k j := by decide
theorem sCh_nc : ∀ k, k < 3 → ∀ j, j < 5 → narrow .char (.int (sCh k j)) = .int (sCh k j) := by decide
set_option maxHeartbeats 4000000 in
set_option maxRecDepth 100000 in
theorem c_J0_coder (l : Launch) (D : va_G) (cI cB cJ cZ : ClassId) (aK aV : Nat → Nat) (k : Nat) (hk : k < 3) : Met l yJ0_coder_7d493 wsJ0_coder_7d493 { frames := 0, cells := 0, slots := 0, locals := 0 } (PR D cI cB cJ cZ aK aV [.ref (aK k)] []) (vp_Si (fun r => r = 0)) 0 0 (fun _ => False) := by
  refine ro_enter (cc := cJ0_coder_7d493) (maxL := 1) (ret := (some .byte)) (by decide) rfl (Nat.le_of_ble_eq_true rfl) ?_
  intro p e s m below meth c C0 hP ls hl
  have hl : lv_has ls 1 [(0, .ref (aK k))] := hl
  obtain ⟨hx, hb, hr, hml, hown, hts, hE, hlk, hnm⟩ := id C0
  refine va_gets hx hb hE.2.2.2.1 va_S.rf hown (hts (.fieldLink RJ0 38 "java/lang/String" "COMPACT_STRINGS" "Z") (by decide +kernel)) (fun _ h9 => h9) dJ0_coder_7d493_0 ?_
  refine lv_if_eq (tgt := 13) hx hb dJ0_coder_7d493_3 (by decide) (fun c1 => absurd c1 (by decide)) (fun c1 => ?_)
  refine lv_aload_n hx hb dJ0_coder_7d493_6 rfl (lv_at hl 0 rfl) ?_
  refine vk_getf hx hb (hE.2.1.1 k hk).2.1 va_S.rf hown (hts (.fieldLink RJ0 15 "java/lang/String" "coder" "B") (by decide +kernel)) (fun _ h9 => h9) dJ0_coder_7d493_7 ?_
  refine lv_goto (tgt := 14) hx hb dJ0_coder_7d493_10 (by decide) ?_
  exact ro_zret hx hb hr rfl hlk rfl dJ0_coder_7d493_14
set_option maxHeartbeats 4000000 in
set_option maxRecDepth 100000 in
theorem c_J0_isLatin1 (l : Launch) (D : va_G) (cI cB cJ cZ : ClassId) (aK aV : Nat → Nat) (k : Nat) (hk : k < 3) : Met l yJ0_isLatin1_aae02 wsJ0_isLatin1_aae02 { frames := 0, cells := 0, slots := 0, locals := 0 } (PR D cI cB cJ cZ aK aV [.ref (aK k)] []) (vp_Si (fun r => r = 1)) 0 0 (fun _ => False) := by
  refine ro_enter (cc := cJ0_isLatin1_aae02) (maxL := 1) (ret := (some .boolean)) (by decide) rfl (Nat.le_of_ble_eq_true rfl) ?_
  intro p e s m below meth c C0 hP ls hl
  have hl : lv_has ls 1 [(0, .ref (aK k))] := hl
  obtain ⟨hx, hb, hr, hml, hown, hts, hE, hlk, hnm⟩ := id C0
  refine va_gets hx hb hE.2.2.2.1 va_S.rf hown (hts (.fieldLink RJ0 38 "java/lang/String" "COMPACT_STRINGS" "Z") (by decide +kernel)) (fun _ h9 => h9) dJ0_isLatin1_aae02_0 ?_
  refine lv_if_eq (tgt := 17) hx hb dJ0_isLatin1_aae02_3 (by decide) (fun c1 => absurd c1 (by decide)) (fun c1 => ?_)
  refine lv_aload_n hx hb dJ0_isLatin1_aae02_6 rfl (lv_at hl 0 rfl) ?_
  refine vk_getf hx hb (hE.2.1.1 k hk).2.1 va_S.rf hown (hts (.fieldLink RJ0 15 "java/lang/String" "coder" "B") (by decide +kernel)) (fun _ h9 => h9) dJ0_isLatin1_aae02_7 ?_
  refine lv_if_ne (tgt := 17) hx hb dJ0_isLatin1_aae02_10 (by decide) (fun c1 => absurd rfl c1) (fun c1 => ?_)
  refine lv_iconst (v := 1) hx hb dJ0_isLatin1_aae02_13 (by decide) ?_
  refine lv_goto (tgt := 18) hx hb dJ0_isLatin1_aae02_14 (by decide) ?_
  exact ro_zret hx hb hr rfl hlk rfl dJ0_isLatin1_aae02_18
set_option maxHeartbeats 4000000 in
set_option maxRecDepth 100000 in
theorem c_J0_length (l : Launch) (D : va_G) (cI cB cJ cZ : ClassId) (aK aV : Nat → Nat) (k : Nat) (hk : k < 3) : Met l yJ0_length_8abf5 wsJ0_length_8abf5 { frames := 1, cells := 0, slots := 0, locals := 20 } (PR D cI cB cJ cZ aK aV [.ref (aK k)] []) (vp_Si (fun r => r = nI (sLen k))) 0 0 (fun _ => False) := by
  refine ro_enter (cc := cJ0_length_8abf5) (maxL := 1) (ret := (some .int)) (by decide) rfl (Nat.le_of_ble_eq_true rfl) ?_
  intro p e s m below meth c C0 hP ls hl
  have hl : lv_has ls 1 [(0, .ref (aK k))] := hl
  obtain ⟨hx, hb, hr, hml, hown, hts, hE, hlk, hnm⟩ := id C0
  refine lv_aload_n hx hb dJ0_length_8abf5_0 rfl (lv_at hl 0 rfl) ?_
  refine vk_getf hx hb (hE.2.1.1 k hk).2.2.1 va_S.rf hown (hts (.fieldLink RJ0 9 "java/lang/String" "value" "[B") (by decide +kernel)) (fun _ h9 => h9) dJ0_length_8abf5_1 ?_
  refine va_tlen hx hb (hE.2.1.1 k hk).2.2.2 va_S.rf (v := nI (sLen k)) rfl dJ0_length_8abf5_4 ?_
  refine lv_aload_n hx hb dJ0_length_8abf5_5 rfl (lv_at hl 0 rfl) ?_
  refine ro_str (As := []) (rest := [.int (nI (sLen k))]) ⟨hx, hb, hml, hown, hts⟩ hE va_S.rf (c_J0_coder l D cI cB cJ cZ aK aV k hk) (cwV 0 hts gJ0_length_8abf5_J0_coder_7d493 rfl rfl rfl (by decide +kernel) ⟨(Nat.le_of_ble_eq_true rfl), (Nat.le_of_ble_eq_true rfl)⟩) hk rfl hl.1 rfl (Nat.le_of_ble_eq_true rfl) dJ0_length_8abf5_6 ⟨Nat.zero_le _, Nat.zero_le _⟩ (fun r9 h9 => ?_)
  subst h9
  refine lv_ishr hx hb dJ0_length_8abf5_9 ?_
  exact ro_iret hx hb hr hlk (sb_shr0 _) dJ0_length_8abf5_10
set_option maxHeartbeats 4000000 in
set_option maxRecDepth 100000 in
theorem c_J3_checkIndex (l : Launch) (D : va_G) (cI cB cJ cZ : ClassId) (aK aV : Nat → Nat) (i : Int32) (n : Nat) (hn : n < 2 ^ 31) (hin : vp_in i n) (v : Value) (hv : v = .null ∨ ∃ t : Nat, v = .ref t) : Met l yJ3_checkIndex_8e157 wsJ3_checkIndex_8e157 { frames := 0, cells := 0, slots := 0, locals := 0 } (PR D cI cB cJ cZ aK aV [.int i, .int (nI n), v] []) (vp_Si (fun r => r = i)) 0 0 (fun _ => False) := by
  obtain ⟨j, hj, rfl⟩ := vp_in_of hin hn
  have key : ∀ w : Value, (w = .null ∨ ∃ t : Nat, w = .ref t) → (lg_sl [Value.int (nI j), .int (nI n), w]).length ≤ 3 := by
    intro w hw
    rcases hw with rfl | ⟨t, rfl⟩ <;> exact Nat.le_of_ble_eq_true rfl
  refine ro_enter (cc := cJ3_checkIndex_8e157) (maxL := 3) (ret := (some .int)) (by decide) rfl (key v hv) ?_
  intro p e s m below meth c C0 hP ls hl
  have hl : lv_has ls 3 [(0, .int (nI j)), (1, .int (nI n))] := by
    rcases hv with rfl | ⟨t, rfl⟩
    · exact lv_sub hl [0, 1] rfl
    · exact lv_sub hl [0, 1] rfl
  obtain ⟨hx, hb, hr, hml, hown, hts, hE, hlk, hnm⟩ := id C0
  refine lv_iload_n hx hb dJ3_checkIndex_8e157_0 rfl (lv_at hl 0 rfl) ?_
  refine lv_if_lt (tgt := 9) hx hb dJ3_checkIndex_8e157_1 (by decide) (fun c1 => absurd c1 (nI_pos (by omega))) (fun c1 => ?_)
  refine lv_iload_n hx hb dJ3_checkIndex_8e157_4 rfl (lv_at hl 0 rfl) ?_
  refine lv_iload_n hx hb dJ3_checkIndex_8e157_5 rfl (lv_at hl 1 rfl) ?_
  refine lv_icmp_lt (tgt := 16) hx hb dJ3_checkIndex_8e157_6 (by decide) (fun c1 => ?_) (fun c1 => absurd (nI_lt hj hn) c1)
  refine lv_iload_n hx hb dJ3_checkIndex_8e157_16 rfl (lv_at hl 0 rfl) ?_
  exact ro_iret hx hb hr hlk rfl dJ3_checkIndex_8e157_17
set_option maxHeartbeats 4000000 in
set_option maxRecDepth 100000 in
theorem c_J0_checkIndex (l : Launch) (D : va_G) (cI cB cJ cZ : ClassId) (aK aV : Nat → Nat) (i : Int32) (n : Nat) (hn : n < 2 ^ 31) (hin : vp_in i n) : Met l yJ0_checkIndex_df160 wsJ0_checkIndex_df160 { frames := 1, cells := 0, slots := 0, locals := 22 } (PR D cI cB cJ cZ aK aV [.int i, .int (nI n)] []) (va_Sv (fun _ => True)) 0 0 (fun _ => False) := by
  refine ro_enter (cc := cJ0_checkIndex_df160) (maxL := 2) (ret := none) (by decide) rfl (Nat.le_of_ble_eq_true rfl) ?_
  intro p e s m below meth c C0 hP ls hl
  have hl : lv_has ls 2 [(0, .int i), (1, .int (nI n))] := hl
  obtain ⟨hx, hb, hr, hml, hown, hts, hE, hlk, hnm⟩ := id C0
  refine lv_iload_n hx hb dJ0_checkIndex_df160_0 rfl (lv_at hl 0 rfl) ?_
  refine lv_iload_n hx hb dJ0_checkIndex_df160_1 rfl (lv_at hl 1 rfl) ?_
  rcases hE.2.2.2.2 with hz | ⟨t, hz⟩
  · refine va_gets hx hb hz va_S.rf hown (hts (.fieldLink RJ0 1053 "jdk/internal/util/Preconditions" "SIOOBE_FORMATTER" "Ljava/util/function/BiFunction;") (by decide +kernel)) (fun _ h9 => h9) dJ0_checkIndex_df160_2 ?_
    refine ro_Si (As := [.int i, .int (nI n), .null]) (rest := []) ⟨hx, hb, hml, hown, hts⟩ hE va_S.rf (c_J3_checkIndex l D cI cB cJ cZ aK aV i n hn hin .null (Or.inl rfl)) (va_cwS 3 hts gJ0_checkIndex_df160_J3_checkIndex_8e157 rfl rfl rfl (by decide +kernel) ⟨(Nat.le_of_ble_eq_true rfl), (Nat.le_of_ble_eq_true rfl)⟩) rfl hl.1 rfl (Nat.le_of_ble_eq_true rfl) dJ0_checkIndex_df160_5 ⟨Nat.zero_le _, Nat.zero_le _⟩ (fun r9 h9 => ?_)
    refine lv_pop hx hb dJ0_checkIndex_df160_8 rfl ?_
    exact ro_vret hx hb hr hlk dJ0_checkIndex_df160_9
  · refine va_gets hx hb hz va_S.rf hown (hts (.fieldLink RJ0 1053 "jdk/internal/util/Preconditions" "SIOOBE_FORMATTER" "Ljava/util/function/BiFunction;") (by decide +kernel)) (fun _ h9 => h9) dJ0_checkIndex_df160_2 ?_
    refine ro_Si (As := [.int i, .int (nI n), .ref t]) (rest := []) ⟨hx, hb, hml, hown, hts⟩ hE va_S.rf (c_J3_checkIndex l D cI cB cJ cZ aK aV i n hn hin (.ref t) (Or.inr ⟨t, rfl⟩)) (va_cwS 3 hts gJ0_checkIndex_df160_J3_checkIndex_8e157 rfl rfl rfl (by decide +kernel) ⟨(Nat.le_of_ble_eq_true rfl), (Nat.le_of_ble_eq_true rfl)⟩) rfl hl.1 rfl (Nat.le_of_ble_eq_true rfl) dJ0_checkIndex_df160_5 ⟨Nat.zero_le _, Nat.zero_le _⟩ (fun r9 h9 => ?_)
    refine lv_pop hx hb dJ0_checkIndex_df160_8 rfl ?_
    exact ro_vret hx hb hr hlk dJ0_checkIndex_df160_9
set_option maxHeartbeats 4000000 in
set_option maxRecDepth 100000 in
theorem c_J1_charAt (l : Launch) (D : va_G) (cI cB cJ cZ : ClassId) (aK aV : Nat → Nat) (k : Nat) (hk : k < 3) (i : Int32) (hin : vp_in i (sLen k)) : Met l yJ1_charAt_3b067 wsJ1_charAt_3b067 { frames := 2, cells := 0, slots := 0, locals := 43 } (PR D cI cB cJ cZ aK aV [.ref (aV k), .int i] []) (vp_Si (fun r => r = sCh k i.toNatClampNeg)) 0 0 (fun _ => False) := by
  refine ro_enter (cc := cJ1_charAt_3b067) (maxL := 2) (ret := (some .char)) (by decide) rfl (Nat.le_of_ble_eq_true rfl) ?_
  intro p e s m below meth c C0 hP ls hl
  have hl : lv_has ls 2 [(0, .ref (aV k)), (1, .int i)] := hl
  obtain ⟨hx, hb, hr, hml, hown, hts, hE, hlk, hnm⟩ := id C0
  have hs5 := sLen_le k hk
  have hlt : i.toNatClampNeg < 5 := by
    obtain ⟨j, hj, rfl⟩ := vp_in_of hin (by omega)
    rw [nI_clamp (by omega)]; omega
  refine lv_iload_n hx hb dJ1_charAt_3b067_0 rfl (lv_at hl 1 rfl) ?_
  refine lv_aload_n hx hb dJ1_charAt_3b067_1 rfl (lv_at hl 0 rfl) ?_
  refine va_tlen hx hb (hE.2.1.1 k hk).2.2.2 va_S.rf (v := nI (sLen k)) rfl dJ1_charAt_3b067_2 ?_
  refine va_csv (post := fun _ => True) (W.runS (As := [.int i, .int (nI (sLen k))]) (rest := []) ⟨hx, hb, hml, hown, hts⟩ (c_J0_checkIndex l D cI cB cJ cZ aK aV i (sLen k) (by omega) hin) (va_cwS 2 hts gJ1_charAt_3b067_J0_checkIndex_df160 rfl rfl rfl (by decide +kernel) ⟨(Nat.le_of_ble_eq_true rfl), (Nat.le_of_ble_eq_true rfl)⟩) ⟨PR.blind, fun U hU hW => ⟨rfl, ro_nil, hE.1.warm hW, hE.2.go va_S.rf hU hW (fun _ h => h.elim)⟩⟩ rfl rfl hl.1 rfl (lv_room (Nat.le_of_ble_eq_true rfl)) dJ1_charAt_3b067_3 ⟨Nat.zero_le _, Nat.zero_le _⟩) (fun _ => ?_)
  refine lv_aload_n hx hb dJ1_charAt_3b067_6 rfl (lv_at hl 0 rfl) ?_
  refine lv_iload_n hx hb dJ1_charAt_3b067_7 rfl (lv_at hl 1 rfl) ?_
  refine va_tb hx hb (hE.2.1.1 k hk).2.2.2 va_S.rf hin (v := .int (sCh k i.toNatClampNeg)) rfl dJ1_charAt_3b067_8 ?_
  refine lv_sipush (v := 255) hx hb dJ1_charAt_3b067_9 (by decide) ?_
  refine lv_iand hx hb dJ1_charAt_3b067_12 ?_
  refine lv_i2c (v := sCh k i.toNatClampNeg) hx hb dJ1_charAt_3b067_13 (sCh_ok k hk _ hlt) ?_
  exact ro_zret hx hb hr (sCh_nc k hk _ hlt) hlk rfl dJ1_charAt_3b067_14
set_option maxHeartbeats 4000000 in
set_option maxRecDepth 100000 in
theorem c_J0_charAt (l : Launch) (D : va_G) (cI cB cJ cZ : ClassId) (aK aV : Nat → Nat) (k : Nat) (hk : k < 3) (i : Int32) (hin : vp_in i (sLen k)) : Met l yJ0_charAt_5068e wsJ0_charAt_5068e { frames := 4, cells := 0, slots := 0, locals := 85 } (PR D cI cB cJ cZ aK aV [.ref (aK k), .int i] []) (vp_Si (fun r => r = sCh k i.toNatClampNeg)) 0 0 (fun _ => False) := by
  refine ro_enter (cc := cJ0_charAt_5068e) (maxL := 2) (ret := (some .char)) (by decide) rfl (Nat.le_of_ble_eq_true rfl) ?_
  intro p e s m below meth c C0 hP ls hl
  have hl : lv_has ls 2 [(0, .ref (aK k)), (1, .int i)] := hl
  obtain ⟨hx, hb, hr, hml, hown, hts, hE, hlk, hnm⟩ := id C0
  have hs5 := sLen_le k hk
  have hlt : i.toNatClampNeg < 5 := by
    obtain ⟨j, hj, rfl⟩ := vp_in_of hin (by omega)
    rw [nI_clamp (by omega)]; omega
  refine lv_aload_n hx hb dJ0_charAt_5068e_0 rfl (lv_at hl 0 rfl) ?_
  refine ro_str (As := []) (rest := []) ⟨hx, hb, hml, hown, hts⟩ hE va_S.rf (c_J0_isLatin1 l D cI cB cJ cZ aK aV k hk) (cwV 0 hts gJ0_charAt_5068e_J0_isLatin1_aae02 rfl rfl rfl (by decide +kernel) ⟨(Nat.le_of_ble_eq_true rfl), (Nat.le_of_ble_eq_true rfl)⟩) hk rfl hl.1 rfl (Nat.le_of_ble_eq_true rfl) dJ0_charAt_5068e_1 ⟨Nat.zero_le _, Nat.zero_le _⟩ (fun r9 h9 => ?_)
  subst h9
  refine lv_if_eq (tgt := 16) hx hb dJ0_charAt_5068e_4 (by decide) (fun c1 => absurd c1 (by decide)) (fun c1 => ?_)
  refine lv_aload_n hx hb dJ0_charAt_5068e_7 rfl (lv_at hl 0 rfl) ?_
  refine vk_getf hx hb (hE.2.1.1 k hk).2.2.1 va_S.rf hown (hts (.fieldLink RJ0 9 "java/lang/String" "value" "[B") (by decide +kernel)) (fun _ h9 => h9) dJ0_charAt_5068e_8 ?_
  refine lv_iload_n hx hb dJ0_charAt_5068e_11 rfl (lv_at hl 1 rfl) ?_
  refine ro_Si (As := [.ref (aV k), .int i]) (rest := []) ⟨hx, hb, hml, hown, hts⟩ hE va_S.rf (c_J1_charAt l D cI cB cJ cZ aK aV k hk i hin) (va_cwS 2 hts gJ0_charAt_5068e_J1_charAt_3b067 rfl rfl rfl (by decide +kernel) ⟨(Nat.le_of_ble_eq_true rfl), (Nat.le_of_ble_eq_true rfl)⟩) rfl hl.1 rfl (Nat.le_of_ble_eq_true rfl) dJ0_charAt_5068e_12 ⟨Nat.zero_le _, Nat.zero_le _⟩ (fun r9 h9 => ?_)
  subst h9
  exact ro_zret hx hb hr (sCh_nc k hk _ hlt) hlk rfl dJ0_charAt_5068e_15
set_option maxHeartbeats 4000000 in
set_option maxRecDepth 100000 in
theorem c_X5_imageOf_0 (l : Launch) (D : va_G) (cI cB cJ cZ : ClassId) (aK aV : Nat → Nat) (q_this q_now q_firstImage q_secondImage q_text q_ruling q_spare : Nat) (slack : Int32) (asked : Int64) (x1 : Int32) (h0 : x1 = 0) : Met l yX5_imageOf wsX5_imageOf { frames := 0, cells := 0, slots := 0, locals := 0 } (PR D cI cB cJ cZ aK aV [.ref q_this, .int x1] [(q_this, .inr (5, [.ref q_now, .ref q_firstImage, .ref q_secondImage, .ref q_text, .ref q_ruling, .ref q_spare, .int slack, .long asked]))]) (va_Sr (fun k => k = q_firstImage) (fun k => .ref k)) 0 0 (fun _ => False) := by
  refine ro_enter (cc := cX5_imageOf) (maxL := 2) (ret := (some (.object "FortyHouses$Books"))) (by decide) rfl (Nat.le_of_ble_eq_true rfl) ?_
  intro p e s m below meth c C0 hP ls hl
  have hl : lv_has ls 2 [(0, .ref q_this), (1, .int x1)] := hl
  obtain ⟨hx, hb, hr, hml, hown, hts, hE, hlk, hnm⟩ := id C0
  have ik5 : ∀ w ∈ u_ws RX5 TX5 8, w ∈ wsX5_imageOf := by decide +kernel
  refine lv_iload_n hx hb dX5_imageOf_0 rfl (lv_at hl 1 rfl) ?_
  refine lv_if_ne (tgt := 11) hx hb dX5_imageOf_1 (by decide) (fun c1 => absurd h0 c1) (fun c1 => ?_)
  refine lv_aload_n hx hb dX5_imageOf_4 rfl (lv_at hl 0 rfl) ?_
  refine va_get (D := D) (ci := 5) (v := .ref q_firstImage) (C := RX5) (T := TX5) (N := 8) hx hb hts ik5 hown hE.1.1 hP 0 rfl rfl 1 (by decide) (hts (.fieldLink RX5 16 "FortyHouses" "firstImage" "LFortyHouses$Books;") (by decide +kernel)) (fun _ h9 => h9) rfl dX5_imageOf_5 ?_
  refine lv_goto (tgt := 15) hx hb dX5_imageOf_8 (by decide) ?_
  exact W.aret hx hb hr (Or.inl ⟨_, rfl⟩) (Or.inr ⟨_, rfl⟩) (fun t ht _ => ⟨q_firstImage, rfl, rfl, ht⟩) (fun q hq => by cases hq) dX5_imageOf_15 hlk
set_option maxHeartbeats 4000000 in
set_option maxRecDepth 100000 in
theorem c_X5_imageOf_1 (l : Launch) (D : va_G) (cI cB cJ cZ : ClassId) (aK aV : Nat → Nat) (q_this q_now q_firstImage q_secondImage q_text q_ruling q_spare : Nat) (slack : Int32) (asked : Int64) (x1 : Int32) (h0 : ¬ x1 = 0) : Met l yX5_imageOf wsX5_imageOf { frames := 0, cells := 0, slots := 0, locals := 0 } (PR D cI cB cJ cZ aK aV [.ref q_this, .int x1] [(q_this, .inr (5, [.ref q_now, .ref q_firstImage, .ref q_secondImage, .ref q_text, .ref q_ruling, .ref q_spare, .int slack, .long asked]))]) (va_Sr (fun k => k = q_secondImage) (fun k => .ref k)) 0 0 (fun _ => False) := by
  refine ro_enter (cc := cX5_imageOf) (maxL := 2) (ret := (some (.object "FortyHouses$Books"))) (by decide) rfl (Nat.le_of_ble_eq_true rfl) ?_
  intro p e s m below meth c C0 hP ls hl
  have hl : lv_has ls 2 [(0, .ref q_this), (1, .int x1)] := hl
  obtain ⟨hx, hb, hr, hml, hown, hts, hE, hlk, hnm⟩ := id C0
  have ik5 : ∀ w ∈ u_ws RX5 TX5 8, w ∈ wsX5_imageOf := by decide +kernel
  refine lv_iload_n hx hb dX5_imageOf_0 rfl (lv_at hl 1 rfl) ?_
  refine lv_if_ne (tgt := 11) hx hb dX5_imageOf_1 (by decide) (fun c1 => ?_) (fun c1 => absurd c1 h0)
  refine lv_aload_n hx hb dX5_imageOf_11 rfl (lv_at hl 0 rfl) ?_
  refine va_get (D := D) (ci := 5) (v := .ref q_secondImage) (C := RX5) (T := TX5) (N := 8) hx hb hts ik5 hown hE.1.1 hP 0 rfl rfl 2 (by decide) (hts (.fieldLink RX5 19 "FortyHouses" "secondImage" "LFortyHouses$Books;") (by decide +kernel)) (fun _ h9 => h9) rfl dX5_imageOf_12 ?_
  exact W.aret hx hb hr (Or.inl ⟨_, rfl⟩) (Or.inr ⟨_, rfl⟩) (fun t ht _ => ⟨q_secondImage, rfl, rfl, ht⟩) (fun q hq => by cases hq) dX5_imageOf_15 hlk
