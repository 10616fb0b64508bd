/-! The text: type, clear, trace. -/
def bt (u : Nat) : Int32 := if u < 128 then nI u else nI u - nI 256
def JT (t : Nat) (bs tx : Nat → Int32) : Prop := t ≤ 300 ∧ ∀ i, i < t → ∃ u : Nat, u < 256 ∧ tx i = nI u ∧ bs i = bt u
theorem bt_toInt {u : Nat} (h : u < 256) : (bt u).toInt = if u < 128 then (u : Int) else (u : Int) - 256 := by
  unfold bt
  by_cases q : u < 128
  · rw [if_pos q, if_pos q, nI_toInt (by omega)]
  · rw [if_neg q, if_neg q, pk_sub_toInt (by omega) (by omega)]; rfl
theorem by_two (w : Int64) : ∃ u : Nat, u < 256 ∧ (w &&& 255).toInt32 = nI u ∧ w.toInt32.toInt8.toInt32 = bt u := by
  refine ⟨w.toBitVec.toNat % 256, Nat.mod_lt _ (by omega), ?_, ?_⟩
  · have e : w &&& 255 = lN (w.toBitVec.toNat % 256) := by
      apply Int64.toBitVec_inj.1
      apply BitVec.eq_of_toNat_eq
      have h1 : (w &&& 255).toBitVec.toNat = w.toBitVec.toNat &&& 255 := by
        show (w.toBitVec &&& 255#64).toNat = _
        rw [BitVec.toNat_and]; rfl
      have h2 : (lN (w.toBitVec.toNat % 256)).toBitVec.toNat = w.toBitVec.toNat % 256 := by
        show (BitVec.ofNat 64 (w.toBitVec.toNat % 256)).toNat = _
        rw [BitVec.toNat_ofNat]
        exact Nat.mod_eq_of_lt (by have := Nat.mod_lt w.toBitVec.toNat (show 0 < 256 by omega); omega)
      rw [h1, h2]
      exact Nat.and_two_pow_sub_one_eq_mod _ 8
    rw [e, lN_i]
  · apply Int32.toInt_inj.mp
    rw [bt_toInt (Nat.mod_lt _ (by omega)), Int8.toInt_toInt32, Int32.toInt_toInt8, Int64.toInt_toInt32, Int.bmod_bmod_of_dvd (by decide)]
    have hw : w.toInt = if 2 * w.toBitVec.toNat < 2 ^ 64 then (w.toBitVec.toNat : Int) else (w.toBitVec.toNat : Int) - (2 ^ 64 : Nat) := BitVec.toInt_eq_toNat_cond w.toBitVec
    rw [Int.bmod_def, hw]
    by_cases q : 2 * w.toBitVec.toNat < 2 ^ 64
    · rw [if_pos q]; split <;> split <;> omega
    · rw [if_neg q]; split <;> split <;> omega
def shW (x : Int64) (n j : Nat) : Int64 := x >>> ((8 * (nI (n - j) - 1) : Int32).toInt64 &&& 63)
def bsS (x : Int64) (n t : Nat) (bs : Nat → Int32) : Nat → Nat → Int32
  | 0 => bs
  | j + 1 => upd (bsS x n t bs j) (t + j) (shW x n j).toInt32.toInt8.toInt32
def txS (x : Int64) (n t : Nat) (tx : Nat → Int32) : Nat → Nat → Int32
  | 0 => tx
  | j + 1 => upd (txS x n t tx j) (t + j) (shW x n j &&& 255).toInt32
theorem JT_S {x : Int64} {n t : Nat} {bs tx : Nat → Int32} (hT : JT t bs tx) (h : t + n ≤ 300) : ∀ j, j ≤ n → JT (t + j) (bsS x n t bs j) (txS x n t tx j)
  | 0, _ => hT
  | j + 1, hj => by
    have ih := JT_S (x := x) hT h j (by omega)
    refine ⟨by omega, fun i hi => ?_⟩
    by_cases e : i = t + j
    · obtain ⟨u, h1, h2, h3⟩ := by_two (shW x n j)
      exact ⟨u, h1, by rw [e, txS, up_s, h2], by rw [e, bsS, up_s, h3]⟩
    · obtain ⟨u, h1, h2, h3⟩ := ih.2 i (by omega)
      exact ⟨u, h1, by rw [txS, up_n e, h2], by rw [bsS, up_n e, h3]⟩
theorem neg_m1 : (nI 0 - 1 : Int32) < 0 := by decide
theorem p_type {N t : Nat} {bs tx : Nat → Int32} {x1 : Int64} {x2 : Int32} (hN : 5000 ≤ N) (hT : JT t bs tx) {K : Int32 → Int32 → (Nat → Int32) → Int32 → Int32 → Int32 → (Nat → Int32) → Prop} (hK : ∀ r t' bs' tx', JT t' bs' tx' → K r (nI t') bs' r 0 (nI t') tx') : f_X5_type N (nI t) bs x1 x2 (fun r l b => f_X6_type N (nI t) tx x1 x2 (fun r2 th l2 t2 => K r l b r2 th l2 t2)) := by
  have ht := hT.1
  have same := fun r => hK r t bs tx hT
  unfold f_X5_type f_X6_type
  refine e_within (fun a1 a2 => ip n10 ?_) (fun q => im n00 (e_in (fun a1 a2 => absurd ⟨a1, a2⟩ q) (fun _ => im n00 (same _))))
  obtain ⟨n, hn, en⟩ := i32_in (n := 8) (by omega) (Int32.le_trans (show (0 : Int32) ≤ 1 by decide) a1) a2
  have inn : ∀ P : Int32 → Prop, P 1 → f_X6_in N x2 1 8 P := fun P h => e_in (fun _ _ => h) (fun z => absurd ⟨a1, a2⟩ z)
  have es : nI t + x2 = nI (t + n) := by rw [en, nI_add]
  have e1 : x2 - 1 = nI (n - 0) - 1 := by rw [en]; rfl
  rw [es]
  rcases Nat.lt_or_ge 300 (t + n) with q | q
  · exact il_f (b := 300) q (by omega) (inn _ (ip n10 (il_f (b := 300) q (by omega) (same _))))
  · refine il_t (b := 300) q (by omega) ?_
    unfold f_X4_append
    refine nmi ?_
    rw [e1]
    refine lq3 (f_X4_append_L5 N x1 _) (fun K' u v w => f_X4_append_B5 N x1 K' _ u v w) (fun _ _ _ _ => Iff.rfl) (fun j => nI (n - j) - 1) (fun j => bsS x1 n t bs j) (fun j => nI (t + j)) n (fun j hj K' hK' => ?_) (fun K' => ?_) N (by omega)
    · unfold f_X4_append_B5
      have e2 : nI (n - j) - 1 = nI (n - (j + 1)) := by rw [sub1 (by omega)]; congr 1
      refine im (by rw [e2]; exact nI_pos (by omega)) (nmi ⟨vpn (by omega) (by omega), nmi (nmi ?_)⟩)
      rw [nI_clamp (by omega), nI_1, pk_vb]
      have e3 : nI (n - j) - 1 + -1 = nI (n - (j + 1)) - 1 := by rw [e2, Int32.sub_eq_add_neg]
      rw [e3]
      exact hK'
    · unfold f_X4_append_B5
      rw [Nat.sub_self]
      refine ip neg_m1 (inn _ (ip n10 (il_t (b := 300) q (by omega) (nmi ?_))))
      refine lq3 (f_X6_type_L37 N x1 _) (fun K' u v w => f_X6_type_B37 N x1 K' _ u v w) (fun _ _ _ _ => Iff.rfl) (fun j => nI (n - j) - 1) (fun j => txS x1 n t tx j) (fun j => nI (t + j)) n (fun j hj K' hK' => ?_) (fun K' => ?_) N (by omega)
      · unfold f_X6_type_B37
        have e2 : nI (n - j) - 1 = nI (n - (j + 1)) := by rw [sub1 (by omega)]; congr 1
        refine im (by rw [e2]; exact nI_pos (by omega)) (nmi ⟨vpn (by omega) (by omega), nmi (nmi ?_)⟩)
        rw [nI_clamp (by omega), nI_1]
        have e3 : nI (n - j) - 1 + -1 = nI (n - (j + 1)) - 1 := by rw [e2, Int32.sub_eq_add_neg]
        rw [e3]
        exact hK'
      · unfold f_X6_type_B37
        rw [Nat.sub_self]
        exact ip neg_m1 (hK _ (t + n) _ _ (JT_S hT q n (Nat.le_refl n)))
theorem p_clear {N t : Nat} {K : Int32 → Int32 → Int32 → Int32 → Int32 → Prop} (hK : ∀ r, K r 0 r 0 0) : f_X5_clear N (nI t) (fun r l => f_X6_clear N (nI t) (fun r2 th l2 => K r l r2 th l2)) := hK _
theorem JT.nil (bs tx : Nat → Int32) : JT 0 bs tx := ⟨by omega, fun i hi => absurd hi (by omega)⟩
theorem p_trace {N : Nat} {tr : Int64} {K : Int64 → Int64 → Int32 → Prop} (hK : ∀ r, K r r 0) : f_X5_trace N tr (fun r => f_X6_trace N tr (fun r2 th => K r r2 th)) := hK _
