/-! The tokens of a text: class and model read the same. -/
def TX (t : Nat) (bs tx : Nat → Int32) (T : Nat → Nat) : Prop := t ≤ 300 ∧ ∀ i, i < t → T i < 256 ∧ tx i = nI (T i) ∧ bs i = bt (T i)
theorem JT.TX {t : Nat} {bs tx : Nat → Int32} (h : JT t bs tx) : TX t bs tx (fun i => (tx i).toNatClampNeg) := by
  refine ⟨h.1, fun i hi => ?_⟩
  obtain ⟨u, h1, h2, h3⟩ := h.2 i hi
  have e : (tx i).toNatClampNeg = u := by rw [h2, nI_clamp (by omega)]
  simp only [e]
  exact ⟨h1, h2, h3⟩
theorem bt_eq {u c : Nat} (hu : u < 256) (hc : c < 128) : bt u = nI c ↔ u = c := by
  rw [← Int32.toInt_inj, bt_toInt hu, nI_toInt (by omega)]
  split <;> omega
theorem bt_lt {u c : Nat} (hu : u < 256) (hc : c < 128) : bt u < nI c ↔ (u < c ∨ 128 ≤ u) := by
  rw [Int32.lt_iff_toInt_lt, bt_toInt hu, nI_toInt (by omega)]
  split <;> omega
theorem bt_gt {u c : Nat} (hu : u < 256) (hc : c < 128) : nI c < bt u ↔ (c < u ∧ u < 128) := by
  rw [Int32.lt_iff_toInt_lt, bt_toInt hu, nI_toInt (by omega)]
  split <;> omega
theorem e_letter {N t i : Nat} {bs tx : Nat → Int32} {T : Nat → Nat} {post : Int32 → Prop} (hT : TX t bs tx T) (hi : i < t) (h1 : (97 ≤ T i ∧ T i ≤ 122) → post 1) (h0 : ¬ (97 ≤ T i ∧ T i ≤ 122) → post 0) : f_X4_isLetter N bs (nI i) post := by
  have ht := hT.1
  obtain ⟨z1, z2, z3⟩ := hT.2 i hi
  unfold f_X4_isLetter
  rw [nI_clamp (by omega), z3]
  have v : vp_in (nI i) 300 := vpn (by omega) (by omega)
  refine ⟨v, is_ (fun q => h0 ?_) (fun q => ⟨v, is_ (fun q2 => h0 ?_) (fun q2 => h1 ?_)⟩)⟩
  · have := (bt_lt (c := 97) z1 (by omega)).mp q; omega
  · have := (bt_gt (c := 122) z1 (by omega)).mp q2; omega
  · have a1 : ¬ (T i < 97 ∨ 128 ≤ T i) := fun z => q ((bt_lt (c := 97) z1 (by omega)).mpr z)
    have a2 : ¬ (122 < T i ∧ T i < 128) := fun z => q2 ((bt_gt (c := 122) z1 (by omega)).mpr z)
    omega
theorem e_digit {N t i : Nat} {bs tx : Nat → Int32} {T : Nat → Nat} {post : Int32 → Prop} (hT : TX t bs tx T) (hi : i < t) (h1 : (48 ≤ T i ∧ T i ≤ 57) → post 1) (h0 : ¬ (48 ≤ T i ∧ T i ≤ 57) → post 0) : f_X4_isDigit N bs (nI i) post := by
  have ht := hT.1
  obtain ⟨z1, z2, z3⟩ := hT.2 i hi
  unfold f_X4_isDigit
  rw [nI_clamp (by omega), z3]
  have v : vp_in (nI i) 300 := vpn (by omega) (by omega)
  refine ⟨v, is_ (fun q => h0 ?_) (fun q => ⟨v, is_ (fun q2 => h0 ?_) (fun q2 => h1 ?_)⟩)⟩
  · have := (bt_lt (c := 48) z1 (by omega)).mp q; omega
  · have := (bt_gt (c := 57) z1 (by omega)).mp q2; omega
  · have a1 : ¬ (T i < 48 ∨ 128 ≤ T i) := fun z => q ((bt_lt (c := 48) z1 (by omega)).mpr z)
    have a2 : ¬ (57 < T i ∧ T i < 128) := fun z => q2 ((bt_gt (c := 57) z1 (by omega)).mpr z)
    omega
theorem e_byte {N t i : Nat} {bs tx : Nat → Int32} {T : Nat → Nat} {post : Int32 → Prop} (hT : TX t bs tx T) (hi : i < 1000) (h1 : i < t → post (nI (T i))) (h0 : t ≤ i → post (-1)) : f_X6_byteAt N (nI t) tx (nI i) post := by
  have ht := hT.1
  unfold f_X6_byteAt
  rcases Nat.lt_or_ge i t with q | q
  · refine il_f q (by omega) ⟨vpn (by omega) (by omega), ?_⟩
    rw [nI_clamp (by omega), (hT.2 i q).2.1]; exact h1 q
  · exact il_t q (by omega) (h0 q)
theorem e_inN {N u a b : Nat} {post : Int32 → Prop} (hu : u < 256) (ha : a < 256) (hb : b < 256) (h1 : (a ≤ u ∧ u ≤ b) → post 1) (h0 : ¬ (a ≤ u ∧ u ≤ b) → post 0) : f_X6_in N (nI u) (nI a) (nI b) post :=
  e_in (fun q1 q2 => h1 ⟨(nI_leI (by omega) (by omega)).mp q1, (nI_leI (by omega) (by omega)).mp q2⟩) (fun q => h0 (fun z => q ⟨nI_le z.1 (by omega), nI_le z.2 (by omega)⟩))
theorem e_inM {N a b : Nat} {post : Int32 → Prop} (ha : a < 256) (h0 : post 0) : f_X6_in N (-1) (nI a) (nI b) post :=
  e_in (fun q1 _ => by
    have z := Int32.le_iff_toInt_le.mp q1
    rw [nI_toInt (by omega), show (-1 : Int32).toInt = -1 from rfl] at z
    omega) (fun _ => h0)
/-- how far a property goes -/
theorem scan (P : Nat → Bool) {t : Nat} : ∀ d e, e + d = t → ∃ o, e ≤ o ∧ o ≤ t ∧ (o < t → P o = false) ∧ ∀ j, e ≤ j → j < o → P j = true
  | 0, e, h => ⟨e, by omega, by omega, fun q => absurd q (by omega), fun j h1 h2 => absurd h2 (by omega)⟩
  | d + 1, e, h => by
    cases q : P e
    · exact ⟨e, by omega, by omega, fun _ => q, fun j h1 h2 => absurd h2 (by omega)⟩
    · obtain ⟨o, h1, h2, h3, h4⟩ := scan P (t := t) d (e + 1) (by omega)
      refine ⟨o, by omega, h2, h3, fun j j1 j2 => ?_⟩
      by_cases z : j = e
      · rw [z]; exact q
      · exact h4 j (by omega) j2
def sp (T : Nat → Nat) (i : Nat) : Bool := decide (T i = 32)
def le_ (T : Nat → Nat) (i : Nat) : Bool := decide (97 ≤ T i ∧ T i ≤ 122)
def di (T : Nat → Nat) (i : Nat) : Bool := decide (48 ≤ T i ∧ T i ≤ 57)
/-- spaces -/
theorem e_sp {N t e o : Nat} {bs tx : Nat → Int32} {T : Nat → Nat} {ke : Int32 → Prop} (hN : 5000 ≤ N) (hT : TX t bs tx T) (h1 : e ≤ o) (h2 : o ≤ t) (h3 : o < t → sp T o = false) (h4 : ∀ j, e ≤ j → j < o → sp T j = true) (h : ke (nI o)) : f_X4_readToken_L8 N (nI t) bs ke N (nI e) := by
  have ht := hT.1
  refine lq1 (f_X4_readToken_L8 N (nI t) bs ke) (fun K a => f_X4_readToken_B8 N (nI t) bs K ke a) (fun _ _ => Iff.rfl) (fun i => nI (e + i)) (o - e) (fun i hi K hK => ?_) (fun K => ?_) N (by omega)
  · unfold f_X4_readToken_B8
    obtain ⟨z1, z2, z3⟩ := hT.2 (e + i) (by omega)
    have s := of_decide_eq_true (h4 (e + i) (by omega) (by omega))
    refine il_f (by omega) (by omega) ⟨vpn (by omega) (by omega), ?_⟩
    rw [nI_clamp (by omega), z3]
    refine im (nn ((bt_eq (c := 32) z1 (by omega)).mpr s)) (nmi ?_)
    rw [nI_1]; exact hK
  · unfold f_X4_readToken_B8
    rw [show e + (o - e) = o by omega]
    rcases Nat.lt_or_ge o t with q | q
    · obtain ⟨z1, z2, z3⟩ := hT.2 o q
      have s := of_decide_eq_false (h3 q)
      refine il_f q (by omega) ⟨vpn (by omega) (by omega), ?_⟩
      rw [nI_clamp (by omega), z3]
      exact ip (fun z => s ((bt_eq (c := 32) z1 (by omega)).mp z)) h
    · exact il_t q (by omega) h
theorem e_msp {N t e o : Nat} {bs tx : Nat → Int32} {T : Nat → Nat} {ke : Int32 → Prop} (hN : 5000 ≤ N) (hT : TX t bs tx T) (h1 : e ≤ o) (h2 : o ≤ t) (h3 : o < t → sp T o = false) (h4 : ∀ j, e ≤ j → j < o → sp T j = true) (h : ke (nI o)) : f_X6_advances_L0 N (nI t) tx ke N (nI e) := by
  have ht := hT.1
  refine lq1 (f_X6_advances_L0 N (nI t) tx ke) (fun K a => f_X6_advances_B0 N (nI t) tx K ke a) (fun _ _ => Iff.rfl) (fun i => nI (e + i)) (o - e) (fun i hi K hK => ?_) (fun K => ?_) N (by omega)
  · unfold f_X6_advances_B0
    have s := of_decide_eq_true (h4 (e + i) (by omega) (by omega))
    refine e_byte hT (by omega) (fun _ => ?_) (fun q => absurd q (by omega))
    rw [s]
    refine im (nn rfl) (nmi ?_)
    rw [nI_1]; exact hK
  · unfold f_X6_advances_B0
    rw [show e + (o - e) = o by omega]
    refine e_byte hT (by omega) (fun q => ?_) (fun q => ip (by decide) h)
    have z1 := (hT.2 o q).1
    have s := of_decide_eq_false (h3 q)
    exact ip (fun z => s ((nI_eq (b := 32) (by omega) (by omega)).mp z)) h
/-- letters -/
theorem e_lt {N t e o : Nat} {bs tx : Nat → Int32} {T : Nat → Nat} {ke : Int32 → Prop} (hN : 5000 ≤ N) (hT : TX t bs tx T) (h1 : e ≤ o) (h2 : o ≤ t) (h3 : o < t → le_ T o = false) (h4 : ∀ j, e ≤ j → j < o → le_ T j = true) (h : ke (nI o)) : f_X4_readWord_L0 N (nI t) bs ke N (nI e) := by
  have ht := hT.1
  refine lq1 (f_X4_readWord_L0 N (nI t) bs ke) (fun K a => f_X4_readWord_B0 N (nI t) bs K ke a) (fun _ _ => Iff.rfl) (fun i => nI (e + i)) (o - e) (fun i hi K hK => ?_) (fun K => ?_) N (by omega)
  · unfold f_X4_readWord_B0
    have s := of_decide_eq_true (h4 (e + i) (by omega) (by omega))
    refine il_f (by omega) (by omega) (e_letter hT (by omega) (fun _ => im n10 (nmi ?_)) (fun z => absurd s z))
    rw [nI_1]; exact hK
  · unfold f_X4_readWord_B0
    rw [show e + (o - e) = o by omega]
    rcases Nat.lt_or_ge o t with q | q
    · exact il_f q (by omega) (e_letter hT q (fun z => absurd z (of_decide_eq_false (h3 q))) (fun _ => ip rfl h))
    · exact il_t q (by omega) h
theorem e_mlt {N t e o : Nat} {bs tx : Nat → Int32} {T : Nat → Nat} {ke : Int32 → Prop} (hN : 5000 ≤ N) (hT : TX t bs tx T) (h1 : e ≤ o) (h2 : o ≤ t) (h3 : o < t → le_ T o = false) (h4 : ∀ j, e ≤ j → j < o → le_ T j = true) (h : ke (nI o)) : f_X6_advances_L66 N (nI t) tx ke N (nI e) := by
  have ht := hT.1
  refine lq1 (f_X6_advances_L66 N (nI t) tx ke) (fun K a => f_X6_advances_B66 N (nI t) tx K ke a) (fun _ _ => Iff.rfl) (fun i => nI (e + i)) (o - e) (fun i hi K hK => ?_) (fun K => ?_) N (by omega)
  · unfold f_X6_advances_B66
    have s := of_decide_eq_true (h4 (e + i) (by omega) (by omega))
    refine e_byte hT (by omega) (fun q => e_inN (a := 97) (b := 122) (hT.2 _ q).1 (by omega) (by omega) (fun _ => im n10 (nmi ?_)) (fun z => absurd s z)) (fun q => absurd q (by omega))
    rw [nI_1]; exact hK
  · unfold f_X6_advances_B66
    rw [show e + (o - e) = o by omega]
    exact e_byte hT (by omega) (fun q => e_inN (a := 97) (b := 122) (hT.2 _ q).1 (by omega) (by omega) (fun z => absurd z (of_decide_eq_false (h3 q))) (fun _ => ip rfl h)) (fun q => e_inM (a := 97) (b := 122) (by omega) (ip rfl h))
/-- digits -/
def nv (T : Nat → Nat) (e : Nat) : Nat → Nat
  | 0 => 0
  | j + 1 => if nv T e j ≤ 99 then 10 * nv T e j + T (e + j) - 48 else nv T e j
theorem nv_b {T : Nat → Nat} {e : Nat} : ∀ m, (∀ j, e ≤ j → j < e + m → di T j = true) → nv T e m ≤ 999
  | 0, _ => by show 0 ≤ 999; omega
  | m + 1, h => by
    have ih := nv_b m (fun j h1 h2 => h j h1 (by omega))
    have s := of_decide_eq_true (h (e + m) (by omega) (by omega))
    unfold nv
    split <;> omega
theorem ten_s {v u : Nat} (h : 48 ≤ u) : (10 * nI v + nI u - 48 : Int32) = nI (10 * v + u - 48) := by
  show nI 10 * nI v + nI u - nI 48 = _
  rw [pk_mul, nI_add, pk_sub (by omega)]
theorem e_di {N t e o : Nat} {bs tx : Nat → Int32} {T : Nat → Nat} {ke : Int32 → Int32 → Prop} (hN : 5000 ≤ N) (hT : TX t bs tx T) (h1 : e ≤ o) (h2 : o ≤ t) (h3 : o < t → di T o = false) (h4 : ∀ j, e ≤ j → j < o → di T j = true) (h : ke (nI (min 100 (nv T e (o - e)))) (nI o)) : f_X4_readNumber_L0 N (nI t) bs ke N 0 (nI e) := by
  have ht := hT.1
  refine lq2 (f_X4_readNumber_L0 N (nI t) bs ke) (fun K a b => f_X4_readNumber_B0 N (nI t) bs K ke a b) (fun _ _ _ => Iff.rfl) (fun i => nI (min 100 (nv T e i))) (fun i => nI (e + i)) (o - e) (fun i hi K hK => ?_) (fun K => ?_) N (by omega)
  · unfold f_X4_readNumber_B0
    have s := of_decide_eq_true (h4 (e + i) (by omega) (by omega))
    obtain ⟨z1, z2, z3⟩ := hT.2 (e + i) (by omega)
    have z3' : bs (e + i) = nI (T (e + i)) := by rw [z3, bt, if_pos (by omega)]
    have nb := nv_b (T := T) (e := e) i (fun j j1 j2 => h4 j j1 (by omega))
    refine il_f (by omega) (by omega) (e_digit hT (by omega) (fun _ => im n10 ⟨vpn (by omega) (by omega), nmi (nmi ?_)⟩) (fun z => absurd s z))
    rw [nI_1, nI_clamp (by omega), z3', ten_s s.1]
    have e : (if nI (10 * min 100 (nv T e i) + T (e + i) - 48) < 100 then nI (10 * min 100 (nv T e i) + T (e + i) - 48) else 100) = nI (min 100 (nv T e (i + 1))) := by
      by_cases q : 10 * min 100 (nv T e i) + T (e + i) - 48 < 100
      · rw [if_pos (show nI (10 * min 100 (nv T e i) + T (e + i) - 48) < (100 : Int32) from nI_lt (b := 100) q (by omega))]
        congr 1
        rw [show nv T e (i + 1) = (if nv T e i ≤ 99 then 10 * nv T e i + T (e + i) - 48 else nv T e i) from rfl]
        split <;> omega
      · rw [if_neg (show ¬ nI (10 * min 100 (nv T e i) + T (e + i) - 48) < (100 : Int32) from nI_nlt (b := 100) (by omega) (by omega))]
        show nI 100 = _
        congr 1
        rw [show nv T e (i + 1) = (if nv T e i ≤ 99 then 10 * nv T e i + T (e + i) - 48 else nv T e i) from rfl]
        split <;> omega
    rw [e]; exact hK
  · unfold f_X4_readNumber_B0
    rw [show e + (o - e) = o by omega]
    rcases Nat.lt_or_ge o t with q | q
    · exact il_f q (by omega) (e_digit hT q (fun z => absurd z (of_decide_eq_false (h3 q))) (fun _ => ip rfl h))
    · exact il_t q (by omega) h
theorem e_mdi {N t e o : Nat} {bs tx : Nat → Int32} {T : Nat → Nat} {ke : Int32 → Int32 → Prop} (hN : 5000 ≤ N) (hT : TX t bs tx T) (h1 : e ≤ o) (h2 : o ≤ t) (h3 : o < t → di T o = false) (h4 : ∀ j, e ≤ j → j < o → di T j = true) (h : ke (nI o) (nI (nv T e (o - e)))) : f_X6_advances_L129 N (nI t) tx ke N (nI e) 0 := by
  have ht := hT.1
  refine lq2 (f_X6_advances_L129 N (nI t) tx ke) (fun K a b => f_X6_advances_B129 N (nI t) tx K ke a b) (fun _ _ _ => Iff.rfl) (fun i => nI (e + i)) (fun i => nI (nv T e i)) (o - e) (fun i hi K hK => ?_) (fun K => ?_) N (by omega)
  · unfold f_X6_advances_B129 f_X6_advances_J183
    have s := of_decide_eq_true (h4 (e + i) (by omega) (by omega))
    have nb := nv_b (T := T) (e := e) i (fun j j1 j2 => h4 j j1 (by omega))
    refine e_byte hT (by omega) (fun q => e_inN (a := 48) (b := 57) (hT.2 _ q).1 (by omega) (by omega) (fun _ => im n10 ?_) (fun z => absurd s z)) (fun q => absurd q (by omega))
    simp only [nv] at hK
    by_cases w : nv T e i ≤ 99
    · rw [if_pos w] at hK
      refine il_t (b := 99) w (by omega) (e_byte hT (by omega) (fun _ => nmi ?_) (fun q => absurd q (by omega)))
      rw [nI_1, ten_s s.1]; exact hK
    · rw [if_neg w] at hK
      refine il_f (b := 99) (by omega) (by omega) (nmi ?_)
      rw [nI_1]; exact hK
  · unfold f_X6_advances_B129
    rw [show e + (o - e) = o by omega]
    exact e_byte hT (by omega) (fun q => e_inN (a := 48) (b := 57) (hT.2 _ q).1 (by omega) (by omega) (fun z => absurd z (of_decide_eq_false (h3 q))) (fun _ => ip rfl h)) (fun q => e_inM (a := 48) (b := 57) (by omega) (ip rfl h))
/-- runs of conditions -/
def rs (T : Nat → Nat) (st : Nat) : Nat → Bool × Nat
  | 0 => (true, 0)
  | j + 1 => if (rs T st j).1 = true ∧ T (st + j) ≤ 102 ∧ (rs T st j).2.testBit (T (st + j) - 97) = false then (true, (rs T st j).2 ||| 2 ^ (T (st + j) - 97)) else (false, (rs T st j).2)
theorem rs_lt {T : Nat → Nat} {st : Nat} : ∀ m, (∀ j, j < m → 97 ≤ T (st + j)) → (rs T st m).2 < 2 ^ 6
  | 0, _ => by show 0 < 64; omega
  | m + 1, h => by
    have ih := rs_lt m (fun j hj => h j (by omega))
    unfold rs
    split
    · rename_i q
      refine Nat.or_lt_two_pow ih ?_
      exact Nat.pow_lt_pow_right (by omega) (by have := h m (by omega); omega)
    · exact ih
theorem rs_down {T : Nat → Nat} {st : Nat} {m : Nat} (h : (rs T st m).1 = false) : ∀ d, (rs T st (m + d)).1 = false
  | 0 => h
  | d + 1 => by
    have ih := rs_down h d
    show (rs T st (m + d + 1)).1 = false
    unfold rs
    rw [if_neg (fun z => by rw [ih] at z; exact absurd z.1 (by decide))]
theorem rs_pos {T : Nat → Nat} {st : Nat} : ∀ m, (rs T st (m + 1)).1 = true → (rs T st (m + 1)).2 ≠ 0 := by
  intro m h z
  unfold rs at h z
  by_cases q : (rs T st m).1 = true ∧ T (st + m) ≤ 102 ∧ (rs T st m).2.testBit (T (st + m) - 97) = false
  · rw [if_pos q] at z
    have t := tb_or (rs T st m).2 (T (st + m) - 97) (T (st + m) - 97)
    have z' : (rs T st m).2 ||| 2 ^ (T (st + m) - 97) = 0 := z
    rw [z', Nat.zero_testBit, decide_eq_true rfl, Bool.or_true] at t
    exact absurd t (by decide)
  · rw [if_neg q] at h
    exact absurd h Bool.false_ne_true
theorem sub97 {u : Nat} (h : 97 ≤ u) : (nI u - 97 : Int32) = nI (u - 97) := pk_sub (b := 97) h
theorem e_run {N t st o : Nat} {bs tx : Nat → Int32} {T : Nat → Nat} {post : Int32 → Int32 → Prop} (hT : TX t bs tx T) (h2 : o ≤ t) (h4 : ∀ j, st ≤ j → j < o → le_ T j = true) (p1 : (rs T st (o - st)).1 = true → post 7 (nI (rs T st (o - st)).2)) (p0 : (rs T st (o - st)).1 = false → ∀ w, post 0 w) : ∀ r j fuel, st + j + r = o → r < fuel → (rs T st j).1 = true → f_X4_readRun_L11 N (nI o) bs post fuel (nI (st + j)) (nI (rs T st j).2) := by
  have ht := hT.1
  intro r
  induction r with
  | zero =>
    intro j fuel hj hf hr
    obtain ⟨f, rfl⟩ : ∃ f, fuel = f + 1 := ⟨fuel - 1, by omega⟩
    show f_X4_readRun_B11 N (nI o) bs post _ (nI (st + j)) (nI (rs T st j).2)
    unfold f_X4_readRun_B11
    have e : o - st = j := by omega
    rw [e] at p1
    exact il_t (by omega) (by omega) (p1 hr)
  | succ r ih =>
    intro j fuel hj hf hr
    obtain ⟨f, rfl⟩ : ∃ f, fuel = f + 1 := ⟨fuel - 1, by omega⟩
    show f_X4_readRun_B11 N (nI o) bs post _ (nI (st + j)) (nI (rs T st j).2)
    unfold f_X4_readRun_B11
    have s := of_decide_eq_true (h4 (st + j) (by omega) (by omega))
    obtain ⟨z1, z2, z3⟩ := hT.2 (st + j) (by omega)
    have z3' : bs (st + j) = nI (T (st + j)) := by rw [z3, bt, if_pos (by omega)]
    have hl := rs_lt (T := T) (st := st) j (fun i hi => (of_decide_eq_true (h4 (st + i) (by omega) (by omega))).1)
    have bad : ¬ ((rs T st j).1 = true ∧ T (st + j) ≤ 102 ∧ (rs T st j).2.testBit (T (st + j) - 97) = false) → ∀ w, post 0 w := by
      intro q
      apply p0
      have e : (rs T st (j + 1)).1 = false := by unfold rs; rw [if_neg q]
      have := rs_down e (o - st - (j + 1))
      rw [show j + 1 + (o - st - (j + 1)) = o - st by omega] at this
      exact this
    refine il_f (by omega) (by omega) ⟨vpn (by omega) (by omega), nmi ?_⟩
    rw [nI_clamp (by omega), z3', sub97 s.1]
    rcases Nat.lt_or_ge (T (st + j) - 97) 6 with q | q
    · refine il_f (a := 6) q (by omega) (is_ (fun w => nmi (nmi ?_)) (fun w => bad (fun z => ?_) _))
      · have w' : (rs T st j).2.testBit (T (st + j) - 97) = false := by
          cases e : (rs T st j).2.testBit (T (st + j) - 97)
          · rfl
          · exact absurd ((bP_nI (by omega) (by omega)).mpr e) w
        have good : (rs T st j).1 = true ∧ T (st + j) ≤ 102 ∧ (rs T st j).2.testBit (T (st + j) - 97) = false := ⟨hr, by omega, w'⟩
        have e : rs T st (j + 1) = (true, (rs T st j).2 ||| 2 ^ (T (st + j) - 97)) := by rw [rs, if_pos good]
        have := ih (j + 1) f (by omega) (by omega) (by rw [e])
        rw [e] at this
        rw [shl1 _ (by omega), fa_or, nI_1]
        exact this
      · have w' := (bP_nI (by omega) (by omega)).mp (Classical.not_not.mp w)
        rw [w'] at z
        exact absurd z.2.2 (by decide)
    · exact il_t (a := 6) q (by omega) (bad (fun z => by omega) _)
def b01 (b : Bool) : Int32 := if b = true then 1 else 0
theorem e_mrun {N t st o : Nat} {bs tx : Nat → Int32} {T : Nat → Nat} {ke : Int32 → Int32 → Int32 → Prop} (hN : 5000 ≤ N) (hT : TX t bs tx T) (h1 : st ≤ o) (h2 : o ≤ t) (h4 : ∀ j, st ≤ j → j < o → le_ T j = true) (h : ke (nI (rs T st (o - st)).2) (b01 (rs T st (o - st)).1) (nI (o - st))) : f_X6_words_L7 N (nI st) tx (nI (o - st)) ke N 0 1 0 := by
  have ht := hT.1
  refine lq3 (f_X6_words_L7 N (nI st) tx (nI (o - st)) ke) (fun K u v w => f_X6_words_B7 N (nI st) tx (nI (o - st)) K ke u v w) (fun _ _ _ _ => Iff.rfl) (fun j => nI (rs T st j).2) (fun j => b01 (rs T st j).1) nI (o - st) (fun j hj K hK => ?_) (fun K => ?_) N (by omega)
  · unfold f_X6_words_B7 f_X6_words_J55 f_X6_words_J72
    have s := of_decide_eq_true (h4 (st + j) (by omega) (by omega))
    obtain ⟨z1, z2, z3⟩ := hT.2 (st + j) (by omega)
    have hl := rs_lt (T := T) (st := st) j (fun i hi => (of_decide_eq_true (h4 (st + i) (by omega) (by omega))).1)
    have go : ¬ ((rs T st j).1 = true ∧ T (st + j) ≤ 102 ∧ (rs T st j).2.testBit (T (st + j) - 97) = false) → K (nI (rs T st j).2) 0 (nI (j + 1)) := by
      intro q
      have e : rs T st (j + 1) = (false, (rs T st j).2) := by rw [rs, if_neg q]
      rw [e] at hK; exact hK
    refine il_f hj (by omega) ?_
    rw [nI_add, nI_clamp (by omega), z2, nI_1]
    refine ⟨vpn (by omega) (by omega), nmi ?_⟩
    rw [sub97 s.1]
    cases hb : (rs T st j).1
    · refine ip rfl (ip rfl (nmi (nmi ?_)))
      rw [Int32.or_zero]
      exact go (fun z => by rw [hb] at z; exact absurd z.1 (by decide))
    · refine im n10 ?_
      rcases Nat.lt_or_ge 102 (T (st + j)) with q | q
      · refine it_t (a := 102) q (by omega) (ip rfl (nmi (nmi ?_)))
        rw [Int32.or_zero]
        exact go (fun z => by omega)
      · refine it_f (a := 102) q (by omega) ?_
        rw [bitv (by omega) (by omega)]
        rcases bit01 (rs T st j).2 (T (st + j) - 97) with ⟨t1, t2⟩ | ⟨t1, t2⟩
        · rw [t2]
          refine ip (by decide) (ip rfl (nmi (nmi ?_)))
          rw [Int32.or_zero]
          exact go (fun z => by rw [t1] at z; exact absurd z.2.2 (by decide))
        · rw [t2]
          refine im (by decide) (im n10 (nmi (nmi ?_)))
          have e : rs T st (j + 1) = (true, (rs T st j).2 ||| 2 ^ (T (st + j) - 97)) := by rw [rs, if_pos ⟨hb, q, t1⟩]
          rw [e] at hK
          rw [shl1 _ (by omega), fa_or]; exact hK
  · unfold f_X6_words_B7
    exact il_t (Nat.le_refl _) (by omega) h
/-- the three words -/
def wc (x i : Nat) : Nat := (([[108, 97, 119], [105, 102], [101, 108, 115, 101]] : List (List Nat)).getD x []).getD i 0
def wn (x : Nat) : Nat := ([3, 2, 4] : List Nat).getD x 0
theorem wn_eq : ∀ x, x < 3 → sLen x = wn x := by decide
theorem wc_eq : ∀ x, x < 3 → ∀ i, i < wn x → sCh x i = nI (wc x i) ∧ wc x i < 128 := by decide
theorem wn_b : ∀ x, x < 3 → wn x < 5 := by decide
def isW (T : Nat → Nat) (st m x : Nat) : Prop := m = wn x ∧ ∀ i, i < wn x → T (st + i) = wc x i
theorem e_word {N t st o x : Nat} {bs tx : Nat → Int32} {T : Nat → Nat} {post : Int32 → Prop} (hN : 5000 ≤ N) (hT : TX t bs tx T) (hx : x < 3) (h1 : st ≤ o) (h2 : o ≤ t) (p1 : isW T st (o - st) x → post 1) (p0 : ¬ isW T st (o - st) x → post 0) : f_X4_isWord N (nI st) (nI o) bs x post := by
  have ht := hT.1
  have hb := wn_b x hx
  unfold f_X4_isWord
  rw [pk_sub h1, wn_eq x hx]
  by_cases q : o - st = wn x
  · refine ip (by rw [q]) ?_
    have key : ∀ r i fuel, i + r = wn x → r < fuel → (∀ j, j < i → T (st + j) = wc x j) → f_X4_isWord_L20 N (nI st) bs x post fuel (nI i) := by
      intro r
      induction r with
      | zero =>
        intro i fuel hi hf hm
        obtain ⟨f, rfl⟩ : ∃ f, fuel = f + 1 := ⟨fuel - 1, by omega⟩
        show f_X4_isWord_B20 N (nI st) bs x post _ (nI i)
        unfold f_X4_isWord_B20
        rw [wn_eq x hx]
        exact il_t (by omega) (by omega) (p1 ⟨q, fun j hj => hm j (by omega)⟩)
      | succ r ih =>
        intro i fuel hi hf hm
        obtain ⟨f, rfl⟩ : ∃ f, fuel = f + 1 := ⟨fuel - 1, by omega⟩
        show f_X4_isWord_B20 N (nI st) bs x post _ (nI i)
        unfold f_X4_isWord_B20
        rw [wn_eq x hx]
        obtain ⟨z1, z2, z3⟩ := hT.2 (st + i) (by omega)
        obtain ⟨c1, c2⟩ := wc_eq x hx i (by omega)
        refine il_f (by omega) (by omega) ?_
        rw [nI_add, nI_clamp (by omega), nI_clamp (by omega), z3, c1, nI_1]
        refine ⟨vpn (by omega) (by omega), vpn (by omega) (by omega), is_ (fun w => nmi (ih (i + 1) f (by omega) (by omega) (fun j hj => ?_))) (fun w => p0 (fun z => w ((bt_eq z1 c2).mpr (z.2 i (by omega)))))⟩
        by_cases e : j = i
        · rw [e]; exact (bt_eq z1 c2).mp w
        · exact hm j (by omega)
    exact key (wn x) 0 N (by omega) (by omega) (fun j hj => absurd hj (by omega))
  · exact im (fun z => q ((nI_eq (by omega) (by omega)).mp z)) (p0 (fun z => q z.1))
theorem e_byteQ {N t i c : Nat} {bs tx : Nat → Int32} {T : Nat → Nat} {P Q : Prop} (hT : TX t bs tx T) (hi : i < t) (hc : c < 128) (h0 : T i ≠ c → P) (h1 : T i = c → Q) : f_X6_byteAt N (nI t) tx (nI i) (fun r => if ¬ r = nI c then P else Q) := by
  have ht := hT.1
  have z := (hT.2 i hi).1
  refine e_byte hT (by omega) (fun _ => is_ (fun q => h0 (fun w => q (by rw [w]))) (fun q => h1 ((nI_eq (by omega) (by omega)).mp (Classical.not_not.mp q)))) (fun q => absurd q (by omega))
theorem isW0 {T : Nat → Nat} {st m : Nat} : isW T st m 0 ↔ m = 3 ∧ T st = 108 ∧ T (st + 1) = 97 ∧ T (st + 2) = 119 := by
  constructor
  · intro h; exact ⟨h.1, h.2 0 (by decide), h.2 1 (by decide), h.2 2 (by decide)⟩
  · rintro ⟨h1, h2, h3, h4⟩
    refine ⟨h1, fun i hi => ?_⟩
    have : i < 3 := hi
    rcases (show i = 0 ∨ i = 1 ∨ i = 2 by omega) with rfl | rfl | rfl
    · exact h2
    · exact h3
    · exact h4
theorem isW1 {T : Nat → Nat} {st m : Nat} : isW T st m 1 ↔ m = 2 ∧ T st = 105 ∧ T (st + 1) = 102 := by
  constructor
  · intro h; exact ⟨h.1, h.2 0 (by decide), h.2 1 (by decide)⟩
  · rintro ⟨h1, h2, h3⟩
    refine ⟨h1, fun i hi => ?_⟩
    have : i < 2 := hi
    rcases (show i = 0 ∨ i = 1 by omega) with rfl | rfl
    · exact h2
    · exact h3
theorem isW2 {T : Nat → Nat} {st m : Nat} : isW T st m 2 ↔ m = 4 ∧ T st = 101 ∧ T (st + 1) = 108 ∧ T (st + 2) = 115 ∧ T (st + 3) = 101 := by
  constructor
  · intro h; exact ⟨h.1, h.2 0 (by decide), h.2 1 (by decide), h.2 2 (by decide), h.2 3 (by decide)⟩
  · rintro ⟨h1, h2, h3, h4, h5⟩
    refine ⟨h1, fun i hi => ?_⟩
    have : i < 4 := hi
    rcases (show i = 0 ∨ i = 1 ∨ i = 2 ∨ i = 3 by omega) with rfl | rfl | rfl | rfl
    · exact h2
    · exact h3
    · exact h4
    · exact h5
theorem e_mw0 {N t st o : Nat} {bs tx : Nat → Int32} {T : Nat → Nat} {post : Int32 → Prop} (hT : TX t bs tx T) (h1 : st ≤ o) (h2 : o ≤ t) (p1 : isW T st (o - st) 0 → post 1) (p0 : ¬ isW T st (o - st) 0 → post 0) : f_X6_isWord N (nI t) (nI st) tx (nI (o - st)) 108 97 119 0 post := by
  have ht := hT.1
  rw [isW0] at p1 p0
  unfold f_X6_isWord f_X6_isWord_J19
  refine ip rfl (im (by decide) (is_ (fun q => p0 (fun z => q (by rw [z.1]; rfl))) (fun q => ?_)))
  have m : o - st = 3 := (nI_eq (b := 3) (by omega) (by omega)).mp (Classical.not_not.mp q)
  refine e_byteQ (c := 108) hT (by omega) (by omega) (fun z => p0 (fun w => z w.2.1)) (fun c0 => ?_)
  rw [nI_1]
  refine e_byteQ (c := 97) hT (by omega) (by omega) (fun z => p0 (fun w => z w.2.2.1)) (fun c1 => im (by decide) ?_)
  rw [show (nI st + 2 : Int32) = nI (st + 2) from nI_add st 2]
  exact e_byteQ (c := 119) hT (by omega) (by omega) (fun z => p0 (fun w => z w.2.2.2)) (fun c2 => ip rfl (p1 ⟨m, c0, c1, c2⟩))
theorem e_mw1 {N t st o : Nat} {bs tx : Nat → Int32} {T : Nat → Nat} {post : Int32 → Prop} (hT : TX t bs tx T) (h1 : st ≤ o) (h2 : o ≤ t) (p1 : isW T st (o - st) 1 → post 1) (p0 : ¬ isW T st (o - st) 1 → post 0) : f_X6_isWord N (nI t) (nI st) tx (nI (o - st)) 105 102 0 0 post := by
  have ht := hT.1
  rw [isW1] at p1 p0
  unfold f_X6_isWord f_X6_isWord_J19
  refine ip rfl (ip rfl (is_ (fun q => p0 (fun z => q (by rw [z.1]; rfl))) (fun q => ?_)))
  have m : o - st = 2 := (nI_eq (b := 2) (by omega) (by omega)).mp (Classical.not_not.mp q)
  refine e_byteQ (c := 105) hT (by omega) (by omega) (fun z => p0 (fun w => z w.2.1)) (fun c0 => ?_)
  rw [nI_1]
  exact e_byteQ (c := 102) hT (by omega) (by omega) (fun z => p0 (fun w => z w.2.2)) (fun c1 => ip rfl (ip rfl (p1 ⟨m, c0, c1⟩)))
theorem e_mw2 {N t st o : Nat} {bs tx : Nat → Int32} {T : Nat → Nat} {post : Int32 → Prop} (hT : TX t bs tx T) (h1 : st ≤ o) (h2 : o ≤ t) (p1 : isW T st (o - st) 2 → post 1) (p0 : ¬ isW T st (o - st) 2 → post 0) : f_X6_isWord N (nI t) (nI st) tx (nI (o - st)) 101 108 115 101 post := by
  have ht := hT.1
  rw [isW2] at p1 p0
  unfold f_X6_isWord f_X6_isWord_J19
  refine im (by decide) (is_ (fun q => p0 (fun z => q (by rw [z.1]; rfl))) (fun q => ?_))
  have m : o - st = 4 := (nI_eq (b := 4) (by omega) (by omega)).mp (Classical.not_not.mp q)
  refine e_byteQ (c := 101) hT (by omega) (by omega) (fun z => p0 (fun w => z w.2.1)) (fun c0 => ?_)
  rw [nI_1]
  refine e_byteQ (c := 108) hT (by omega) (by omega) (fun z => p0 (fun w => z w.2.2.1)) (fun c1 => im (by decide) ?_)
  rw [show (nI st + 2 : Int32) = nI (st + 2) from nI_add st 2, show (nI st + 3 : Int32) = nI (st + 3) from nI_add st 3]
  exact e_byteQ (c := 115) hT (by omega) (by omega) (fun z => p0 (fun w => z w.2.2.2.1)) (fun c2 => im (by decide) (e_byteQ (c := 101) hT (by omega) (by omega) (fun z => p0 (fun w => z w.2.2.2.2)) (fun c3 => p1 ⟨m, c0, c1, c2, c3⟩)))
/-- no word is a run -/
theorem run_le {T : Nat → Nat} {st : Nat} : ∀ m, (rs T st m).1 = true → ∀ j, j < m → T (st + j) ≤ 102
  | 0, _, j, hj => absurd hj (by omega)
  | m + 1, h, j, hj => by
    unfold rs at h
    by_cases q : (rs T st m).1 = true ∧ T (st + m) ≤ 102 ∧ (rs T st m).2.testBit (T (st + m) - 97) = false
    · by_cases e : j = m
      · rw [e]; exact q.2.1
      · exact run_le m q.1 j (by omega)
    · rw [if_neg q] at h; exact absurd h Bool.false_ne_true
/-- a token: its kind by the model's number -/
def cc (k : Nat) : Int32 := nI (([1, 4, 5, 6, 7, 3, 2, 0] : List Nat).getD k 0)
def Tok (N t e : Nat) (bs tx : Nat → Int32) (kd v st en : Nat) : Prop := kd ≤ 7 ∧ e ≤ st ∧ en ≤ t ∧ (kd ≠ 0 → st < en) ∧ (kd = 0 → st = t ∧ en = t) ∧ (kd = 4 → 1 ≤ v ∧ v ≤ 63) ∧ (kd = 5 → v ≤ 99) ∧ (∀ post : Int32 → Int32 → Int32 → Int32 → Prop, (∀ v', (kd = 4 ∨ kd = 5 → v' = nI v) → post (cc kd) v' (nI st) (nI en)) → f_X4_readToken N (nI t) (nI e) bs post) ∧ (∀ (val : Int32) (post : Int32 → Int32 → Int32 → Int32 → Prop), (∀ v', (kd = 4 ∨ kd = 5 → v' = nI v) → post (nI en) (nI kd) (nI st) v') → f_X6_advances N (nI t) (nI e) val tx post)
theorem no45 {k : Nat} (h : k ≠ 4) (h' : k ≠ 5) {P : Prop} : k = 4 ∨ k = 5 → P := fun q => q.elim (fun q => absurd q h) (fun q => absurd q h')
theorem tok {N t e : Nat} {bs tx : Nat → Int32} {T : Nat → Nat} (hN : 5000 ≤ N) (hT : TX t bs tx T) (he : e ≤ t) : ∃ kd v st en, Tok N t e bs tx kd v st en := by
  have ht := hT.1
  obtain ⟨o, o1, o2, o3, o4⟩ := scan (t := t) (sp T) (t - e) e (by omega)
  rcases Nat.lt_or_ge o t with q | q
  · obtain ⟨z1, z2, z3⟩ := hT.2 o q
    have pos : (0 : Int32) ≤ nI (T o) := nI_pos' (by omega)
    by_cases hl : 97 ≤ T o ∧ T o ≤ 122
    · -- a word
      obtain ⟨w, w1, w2, w3, w4⟩ := scan (t := t) (le_ T) (t - o) o (by omega)
      have wo : o < w := by
        apply Classical.byContradiction
        intro z
        have e : w = o := by omega
        have := of_decide_eq_false (w3 (by omega))
        rw [e] at this
        exact this hl
      have cls : ∀ post : Int32 → Int32 → Int32 → Int32 → Prop, f_X4_readWord N (nI t) 0 (nI o) (nI o) bs (fun u11 u12 u13 => post u11 u12 (nI o) u13) → f_X4_readToken N (nI t) (nI e) bs post := by
        intro post h
        unfold f_X4_readToken
        exact e_sp hN hT o1 o2 o3 o4 (it_t q (by omega) (e_letter hT q (fun _ => im n10 h) (fun z => absurd hl z)))
      have cls2 : ∀ post : Int32 → Int32 → Int32 → Prop, (isW T o (w - o) 0 → post 4 0 (nI w)) → (isW T o (w - o) 1 → post 5 0 (nI w)) → (isW T o (w - o) 2 → post 6 0 (nI w)) → (¬ isW T o (w - o) 0 → ¬ isW T o (w - o) 1 → ¬ isW T o (w - o) 2 → f_X4_readRun N 0 (nI o) (nI w) bs (fun u8 u9 => post u8 u9 (nI w))) → f_X4_readWord N (nI t) 0 (nI o) (nI o) bs post := by
        intro post h0 h1 h2 h3
        unfold f_X4_readWord
        exact e_lt hN hT w1 w2 w3 w4 (e_word hN hT (by omega) w1 w2 (fun y => im n10 (h0 y)) (fun y0 => ip rfl (e_word hN hT (by omega) w1 w2 (fun y => im n10 (h1 y)) (fun y1 => ip rfl (e_word hN hT (by omega) w1 w2 (fun y => im n10 (h2 y)) (fun y2 => ip rfl (h3 y0 y1 y2)))))))
      have mdl : ∀ (val : Int32) (post : Int32 → Int32 → Int32 → Int32 → Prop), f_X6_words N (nI t) (nI o) tx (nI (w - o)) (fun u25 u26 => post (nI w) u25 (nI o) u26) → f_X6_advances N (nI t) (nI e) val tx post := by
        intro val post h
        unfold f_X6_advances
        refine e_msp hN hT o1 o2 o3 o4 (e_byte hT (by omega) (fun _ => ip pos (e_inN (a := 97) (b := 122) z1 (by omega) (by omega) (fun _ => im n10 (e_mlt hN hT w1 w2 w3 w4 ?_)) (fun z => absurd hl z))) (fun z => absurd z (by omega)))
        rw [pk_sub w1]; exact h
      have mdl2 : ∀ post : Int32 → Int32 → Prop, ((rs T o (w - o)).1 = true → post 4 (nI (rs T o (w - o)).2)) → ((rs T o (w - o)).1 = false → f_X6_isWord N (nI t) (nI o) tx (nI (w - o)) 108 97 119 0 (fun r13 : Int32 => (if r13 = 0 then f_X6_isWord N (nI t) (nI o) tx (nI (w - o)) 105 102 0 0 (fun r14 : Int32 => (if r14 = 0 then f_X6_isWord N (nI t) (nI o) tx (nI (w - o)) 101 108 115 101 (fun r15 : Int32 => (if r15 = 0 then post 7 (nI (rs T o (w - o)).2) else post 3 (nI (rs T o (w - o)).2))) else post 2 (nI (rs T o (w - o)).2))) else post 1 (nI (rs T o (w - o)).2)))) → f_X6_words N (nI t) (nI o) tx (nI (w - o)) post := by
        intro post h1 h0
        unfold f_X6_words
        refine e_mrun hN hT w1 w2 w4 ?_
        cases hr : (rs T o (w - o)).1
        · exact ip rfl (h0 hr)
        · exact im n10 (h1 hr)
      have ml : ∀ j, j < w - o → 97 ≤ T (o + j) := fun j hj => (of_decide_eq_true (w4 (o + j) (by omega) (by omega))).1
      have rl := rs_lt (T := T) (st := o) (w - o) ml
      by_cases y0 : isW T o (w - o) 0
      · have nr : (rs T o (w - o)).1 = false := by
          cases hr : (rs T o (w - o)).1
          · rfl
          · have y := isW0.mp y0
            have := run_le (w - o) hr 0 (by omega)
            rw [Nat.add_zero, y.2.1] at this; omega
        refine ⟨1, 0, o, w, by omega, o1, w2, fun _ => wo, fun z => absurd z (by omega), fun z => absurd z (by omega), fun z => absurd z (by omega), fun post h => cls post (cls2 _ (fun _ => h _ (no45 (by omega) (by omega))) (fun y1 => ?_) (fun y2 => ?_) (fun y _ _ => absurd y0 y)), fun val post h => mdl val post (mdl2 _ (fun z => by rw [nr] at z; exact absurd z (by decide)) (fun _ => e_mw0 hT w1 w2 (fun _ => im n10 (h _ (no45 (by omega) (by omega)))) (fun z => absurd y0 z)))⟩
        · have a := isW0.mp y0; have b := isW1.mp y1; omega
        · have a := isW0.mp y0; have b := isW2.mp y2; omega
      · by_cases y1 : isW T o (w - o) 1
        · have nr : (rs T o (w - o)).1 = false := by
            cases hr : (rs T o (w - o)).1
            · rfl
            · have y := isW1.mp y1
              have := run_le (w - o) hr 0 (by omega)
              rw [Nat.add_zero, y.2.1] at this; omega
          refine ⟨2, 0, o, w, by omega, o1, w2, fun _ => wo, fun z => absurd z (by omega), fun z => absurd z (by omega), fun z => absurd z (by omega), fun post h => cls post (cls2 _ (fun y => absurd y y0) (fun _ => h _ (no45 (by omega) (by omega))) (fun y2 => ?_) (fun _ y _ => absurd y1 y)), fun val post h => mdl val post (mdl2 _ (fun z => by rw [nr] at z; exact absurd z (by decide)) (fun _ => e_mw0 hT w1 w2 (fun z => absurd z y0) (fun _ => ip rfl (e_mw1 hT w1 w2 (fun _ => im n10 (h _ (no45 (by omega) (by omega)))) (fun z => absurd y1 z)))))⟩
          have a := isW1.mp y1; have b := isW2.mp y2; omega
        · by_cases y2 : isW T o (w - o) 2
          · have nr : (rs T o (w - o)).1 = false := by
              cases hr : (rs T o (w - o)).1
              · rfl
              · have y := isW2.mp y2
                have := run_le (w - o) hr 1 (by omega)
                rw [y.2.2.1] at this; omega
            exact ⟨3, 0, o, w, by omega, o1, w2, fun _ => wo, fun z => absurd z (by omega), fun z => absurd z (by omega), fun z => absurd z (by omega), fun post h => cls post (cls2 _ (fun y => absurd y y0) (fun y => absurd y y1) (fun _ => h _ (no45 (by omega) (by omega))) (fun _ _ y => absurd y2 y)), fun val post h => mdl val post (mdl2 _ (fun z => by rw [nr] at z; exact absurd z (by decide)) (fun _ => e_mw0 hT w1 w2 (fun z => absurd z y0) (fun _ => ip rfl (e_mw1 hT w1 w2 (fun z => absurd z y1) (fun _ => ip rfl (e_mw2 hT w1 w2 (fun _ => im n10 (h _ (no45 (by omega) (by omega)))) (fun z => absurd y2 z)))))))⟩
          · cases hr : (rs T o (w - o)).1
            · exact ⟨7, 0, o, w, by omega, o1, w2, fun _ => wo, fun z => absurd z (by omega), fun z => absurd z (by omega), fun z => absurd z (by omega), fun post h => cls post (cls2 _ (fun y => absurd y y0) (fun y => absurd y y1) (fun y => absurd y y2) (fun _ _ _ => e_run hT w2 w4 (fun z => by rw [hr] at z; exact absurd z (by decide)) (fun _ u => h _ (no45 (by omega) (by omega))) (w - o) 0 N (by omega) (by omega) rfl)), fun val post h => mdl val post (mdl2 _ (fun z => by rw [hr] at z; exact absurd z (by decide)) (fun _ => e_mw0 hT w1 w2 (fun z => absurd z y0) (fun _ => ip rfl (e_mw1 hT w1 w2 (fun z => absurd z y1) (fun _ => ip rfl (e_mw2 hT w1 w2 (fun z => absurd z y2) (fun _ => ip rfl (h _ (no45 (by omega) (by omega))))))))))⟩
            · have pz := rs_pos (T := T) (st := o) (w - o - 1) (by rw [show w - o - 1 + 1 = w - o by omega]; exact hr)
              rw [show w - o - 1 + 1 = w - o by omega] at pz
              exact ⟨4, (rs T o (w - o)).2, o, w, by omega, o1, w2, fun _ => wo, fun z => absurd z (by omega), fun _ => by omega, fun z => absurd z (by omega), fun post h => cls post (cls2 _ (fun y => absurd y y0) (fun y => absurd y y1) (fun y => absurd y y2) (fun _ _ _ => e_run hT w2 w4 (fun _ => h _ (fun _ => rfl)) (fun z => by rw [hr] at z; exact absurd z (by decide)) (w - o) 0 N (by omega) (by omega) rfl)), fun val post h => mdl val post (mdl2 _ (fun _ => h _ (fun _ => rfl)) (fun z => by rw [hr] at z; exact absurd z (by decide)))⟩
    · by_cases hd : 48 ≤ T o ∧ T o ≤ 57
      · -- a number
        obtain ⟨w, w1, w2, w3, w4⟩ := scan (t := t) (di T) (t - o) o (by omega)
        have wo : o < w := by
          apply Classical.byContradiction
          intro z
          have e : w = o := by omega
          have := of_decide_eq_false (w3 (by omega))
          rw [e] at this
          exact this hd
        have nb := nv_b (T := T) (e := o) (w - o) (fun j j1 j2 => w4 j j1 (by omega))
        have z3' : bs o = nI (T o) := by rw [z3, bt, if_pos (by omega)]
        have cls : ∀ post : Int32 → Int32 → Int32 → Int32 → Prop, ((T o = 48 ∧ 1 < w - o) → post 0 (nI (min 100 (nv T o (w - o)))) (nI o) (nI w)) → (¬ (T o = 48 ∧ 1 < w - o) → 99 < nv T o (w - o) → post 0 (nI (min 100 (nv T o (w - o)))) (nI o) (nI w)) → (¬ (T o = 48 ∧ 1 < w - o) → nv T o (w - o) ≤ 99 → post 3 (nI (nv T o (w - o))) (nI o) (nI w)) → f_X4_readToken N (nI t) (nI e) bs post := by
          intro post h1 h2 h3
          unfold f_X4_readToken
          refine e_sp hN hT o1 o2 o3 o4 (it_t q (by omega) (e_letter hT q (fun z => absurd z hl) (fun _ => ip rfl (e_digit hT q (fun _ => im n10 ?_) (fun z => absurd hd z)))))
          unfold f_X4_readNumber f_X4_readNumber_J96 f_X4_readNumber_J116
          refine e_di hN hT w1 w2 w3 w4 ⟨vpn (by omega) (by omega), ?_⟩
          rw [nI_clamp (by omega), z3', pk_sub w1]
          have num : ¬ (T o = 48 ∧ 1 < w - o) → (if ¬ (0 : Int32) = 0 then post 0 (nI (min 100 (nv T o (w - o)))) (nI o) (nI w) else (if nI (min 100 (nv T o (w - o))) ≤ 99 then post 3 (nI (min 100 (nv T o (w - o)))) (nI o) (nI w) else post 0 (nI (min 100 (nv T o (w - o)))) (nI o) (nI w))) := by
            intro nz
            refine im (nn rfl) ?_
            rcases Nat.lt_or_ge 99 (nv T o (w - o)) with y | y
            · exact il_f (b := 99) (by omega) (by omega) (h2 nz y)
            · rw [show min 100 (nv T o (w - o)) = nv T o (w - o) by omega]
              exact il_t (b := 99) y (by omega) (h3 nz y)
          refine is_ (fun y => num (fun z => y (by rw [z.1]; rfl))) (fun y => ?_)
          have t0 : T o = 48 := (nI_eq (b := 48) (by omega) (by omega)).mp (Classical.not_not.mp y)
          rcases Nat.lt_or_ge 1 (w - o) with x | x
          · exact il_f (b := 1) x (by omega) (ip n10 (h1 ⟨t0, x⟩))
          · exact il_t (b := 1) x (by omega) (num (fun z => by omega))
        have mdl : ∀ (val : Int32) (post : Int32 → Int32 → Int32 → Int32 → Prop), (99 < nv T o (w - o) → post (nI w) 7 (nI o) (nI (nv T o (w - o)))) → (nv T o (w - o) ≤ 99 → (T o = 48 ∧ 1 < w - o) → post (nI w) 7 (nI o) (nI (nv T o (w - o)))) → (nv T o (w - o) ≤ 99 → ¬ (T o = 48 ∧ 1 < w - o) → post (nI w) 5 (nI o) (nI (nv T o (w - o)))) → f_X6_advances N (nI t) (nI e) val tx post := by
          intro val post h1 h2 h3
          unfold f_X6_advances f_X6_advances_J234
          refine e_msp hN hT o1 o2 o3 o4 (e_byte hT (by omega) (fun _ => ip pos (e_inN (a := 97) (b := 122) z1 (by omega) (by omega) (fun z => absurd z hl) (fun _ => ip rfl (e_inN (a := 48) (b := 57) z1 (by omega) (by omega) (fun _ => im n10 (e_mdi hN hT w1 w2 w3 w4 ?_)) (fun z => absurd hd z))))) (fun z => absurd z (by omega)))
          rw [pk_sub w1]
          rcases Nat.lt_or_ge 99 (nv T o (w - o)) with y | y
          · exact it_t (a := 99) y (by omega) (h1 y)
          · refine it_f (a := 99) y (by omega) (is_ (fun x => h3 y (fun z => x (by rw [z.1]; rfl))) (fun x => ?_))
            have t0 : T o = 48 := (nI_eq (b := 48) (by omega) (by omega)).mp (Classical.not_not.mp x)
            rcases Nat.lt_or_ge 1 (w - o) with x | x
            · exact il_f (b := 1) x (by omega) (h2 y ⟨t0, x⟩)
            · exact il_t (b := 1) x (by omega) (h3 y (fun z => by omega))
        by_cases g : nv T o (w - o) ≤ 99 ∧ ¬ (T o = 48 ∧ 1 < w - o)
        · exact ⟨5, nv T o (w - o), o, w, by omega, o1, w2, fun _ => wo, fun z => absurd z (by omega), fun z => absurd z (by omega), fun _ => g.1, fun post h => cls post (fun z => absurd z g.2) (fun _ z => absurd z (by omega)) (fun _ _ => h _ (fun _ => rfl)), fun val post h => mdl val post (fun z => absurd z (by omega)) (fun _ z => absurd z g.2) (fun _ _ => h _ (fun _ => rfl))⟩
        · exact ⟨7, 0, o, w, by omega, o1, w2, fun _ => wo, fun z => absurd z (by omega), fun z => absurd z (by omega), fun z => absurd z (by omega), fun post h => cls post (fun _ => h _ (no45 (by omega) (by omega))) (fun _ _ => h _ (no45 (by omega) (by omega))) (fun a b => absurd ⟨b, a⟩ g), fun val post h => mdl val post (fun _ => h _ (no45 (by omega) (by omega))) (fun _ _ => h _ (no45 (by omega) (by omega))) (fun a b => absurd ⟨a, b⟩ g)⟩
      · -- another sign
        have cls : ∀ post : Int32 → Int32 → Int32 → Int32 → Prop, (T o = 59 → post 2 0 (nI o) (nI (o + 1))) → (T o ≠ 59 → post 0 0 (nI o) (nI (o + 1))) → f_X4_readToken N (nI t) (nI e) bs post := by
          intro post h1 h0
          unfold f_X4_readToken f_X4_readToken_J134
          refine e_sp hN hT o1 o2 o3 o4 (it_t q (by omega) (e_letter hT q (fun z => absurd z hl) (fun _ => ip rfl (e_digit hT q (fun z => absurd z hd) (fun _ => ip rfl ⟨vpn (by omega) (by omega), ?_⟩)))))
          rw [nI_clamp (by omega), z3, nI_1]
          exact is_ (fun y => nmi (h0 (fun z => y ((bt_eq (c := 59) z1 (by omega)).mpr z)))) (fun y => nmi (h1 ((bt_eq (c := 59) z1 (by omega)).mp (Classical.not_not.mp y))))
        have mdl : ∀ (val : Int32) (post : Int32 → Int32 → Int32 → Int32 → Prop), (T o = 59 → post (nI (o + 1)) 6 (nI o) val) → (T o ≠ 59 → post (nI (o + 1)) 7 (nI o) val) → f_X6_advances N (nI t) (nI e) val tx post := by
          intro val post h1 h0
          unfold f_X6_advances f_X6_advances_J264
          refine e_msp hN hT o1 o2 o3 o4 (e_byte hT (by omega) (fun _ => ip pos (e_inN (a := 97) (b := 122) z1 (by omega) (by omega) (fun z => absurd z hl) (fun _ => ip rfl (e_inN (a := 48) (b := 57) z1 (by omega) (by omega) (fun z => absurd z hd) (fun _ => ip rfl (nmi ?_)))))) (fun z => absurd z (by omega)))
          rw [nI_1]
          exact is_ (fun y => h0 (fun z => y (by rw [z]; rfl))) (fun y => h1 ((nI_eq (b := 59) (by omega) (by omega)).mp (Classical.not_not.mp y)))
        by_cases g : T o = 59
        · exact ⟨6, 0, o, o + 1, by omega, o1, by omega, fun _ => by omega, fun z => absurd z (by omega), fun z => absurd z (by omega), fun z => absurd z (by omega), fun post h => cls post (fun _ => h _ (no45 (by omega) (by omega))) (fun z => absurd g z), fun val post h => mdl val post (fun _ => h _ (no45 (by omega) (by omega))) (fun z => absurd g z)⟩
        · exact ⟨7, 0, o, o + 1, by omega, o1, by omega, fun _ => by omega, fun z => absurd z (by omega), fun z => absurd z (by omega), fun z => absurd z (by omega), fun post h => cls post (fun z => absurd z g) (fun _ => h _ (no45 (by omega) (by omega))), fun val post h => mdl val post (fun z => absurd z g) (fun _ => h _ (no45 (by omega) (by omega)))⟩
  · have eo : o = t := by omega
    refine ⟨0, 0, o, o, by omega, o1, o2, fun z => absurd rfl z, fun _ => ⟨eo, eo⟩, fun z => absurd z (by omega), fun z => absurd z (by omega), fun post h => ?_, fun val post h => ?_⟩
    · unfold f_X4_readToken
      exact e_sp hN hT o1 o2 o3 o4 (it_f q (by omega) (h _ (no45 (by omega) (by omega))))
    · unfold f_X6_advances
      exact e_msp hN hT o1 o2 o3 o4 (e_byte hT (by omega) (fun z => absurd z (by omega)) (fun _ => im (by decide) (h _ (no45 (by omega) (by omega)))))
