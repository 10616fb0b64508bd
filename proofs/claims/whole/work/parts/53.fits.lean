/-! laws as they stand: tenths, misfit, best; type, clear, trace. -/
def JL (k : Nat) (ti tw tc te law : Nat → Int32) : Prop := k ≤ 6 ∧ ∀ i, i < k → (law (4 * i) = ti i ∧ law (4 * i + 1) = tw i ∧ law (4 * i + 2) = tc i ∧ (tc i ≠ 0 → law (4 * i + 3) = te i)) ∧ (∃ x y z : Nat, ti i = nI x ∧ tw i = nI y ∧ tc i = nI z ∧ x ≤ 10 ∧ y ≤ 10 ∧ z ≤ 63) ∧ (tc i ≠ 0 → ∃ w : Nat, te i = nI w ∧ w ≤ 10)
def wtv (ti tc te : Nat → Int32) (i : Nat) (had : Int32) : Int32 := if (had &&& tc i) = tc i then ti i else te i
theorem and_0 (x : Int32) : x &&& 0 = 0 := by simp
theorem wtv_num {k : Nat} {ti tw tc te law : Nat → Int32} (hL : JL k ti tw tc te law) {i : Nat} (hi : i < k) (had : Int32) : ∃ w : Nat, wtv ti tc te i had = nI w ∧ w ≤ 10 := by
  obtain ⟨-, ⟨x, y, z, ex, ey, ez, hx, hy, hz⟩, h⟩ := hL.2 i hi
  unfold wtv
  by_cases q : (had &&& tc i) = tc i
  · rw [if_pos q]; exact ⟨x, ex, hx⟩
  · rw [if_neg q]
    exact h (fun z => q (by rw [z]; exact and_0 had))
theorem e_with {N i : Nat} {ti tc te : Nat → Int32} {had : Int32} {post : Int32 → Prop} (hi : i < 6) (h : post (wtv ti tc te i had)) : f_X3_tenthsWith N ti tc te (nI i) had post := by
  unfold f_X3_tenthsWith
  rw [nI_clamp (by omega)]
  have v : vp_in (nI i) 6 := vpn hi (by omega)
  unfold wtv at h
  refine ⟨v, v, is_ (fun q => ⟨v, ?_⟩) (fun q => ⟨v, ?_⟩)⟩
  · rw [if_neg q] at h; exact h
  · rw [if_pos (Classical.not_not.mp q)] at h; exact h
theorem l4 (i : Nat) : (4 * nI i : Int32) = nI (4 * i) := by show nI 4 * nI i = _; rw [pk_mul]
theorem l4w (i w : Nat) : (4 * nI i + nI w : Int32) = nI (4 * i + w) := by rw [l4, nI_add]
theorem e_mwith {N k i : Nat} {ti tw tc te law : Nat → Int32} {had : Int32} {post : Int32 → Prop} (hL : JL k ti tw tc te law) (hi : i < k) (h : post (wtv ti tc te i had)) : f_X6_with N law (nI i) had post := by
  have hk := hL.1
  obtain ⟨⟨l0, l1, l2, l3⟩, -, -⟩ := hL.2 i hi
  unfold f_X6_with
  rw [show (4 * nI i + 2 : Int32) = nI (4 * i + 2) from l4w i 2, show (4 * nI i + 3 : Int32) = nI (4 * i + 3) from l4w i 3, l4, nI_clamp (by omega), nI_clamp (by omega), nI_clamp (by omega), l0, l2]
  unfold wtv at h
  refine ⟨vpn (by omega) (by omega), vpn (by omega) (by omega), is_ (fun q => ⟨vpn (by omega) (by omega), ?_⟩) (fun q => ⟨vpn (by omega) (by omega), ?_⟩)⟩
  · rw [if_neg q] at h
    rw [l3 (fun z => q (by rw [z]; exact and_0 had))]; exact h
  · rw [if_pos (Classical.not_not.mp q)] at h; exact h
theorem e_hasL {N n : Nat} {x : Int32} {post : Int32 → Prop} (hn : n < 2 ^ 31) (h1 : ∀ i, i < n → x = nI i → post 1) (h0 : (x < 0 ∨ nI n ≤ x) → post 0) : f_X3_has N (nI n) x post := e_has (N := N) hn h1 h0
theorem e_isLaw {N n : Nat} {x : Int32} {post : Int32 → Prop} (hn : n ≤ 6) (h1 : ∀ i, i < n → x = nI i → post 1) (h0 : (x < 0 ∨ nI n ≤ x) → post 0) : f_X6_isLaw N (nI n) x post := by
  unfold f_X6_isLaw
  rcases i32_cases x (n := n) (by omega) with ⟨i, hi, rfl⟩ | h
  · refine e_in (fun _ _ => h1 i hi rfl) (fun q => absurd ⟨nI_pos' (by omega), ?_⟩ q)
    rw [sub1 (by omega)]
    exact nI_le (by omega) (by omega)
  · exact e_in (fun q1 q2 => (no_ix (by omega) h q1 q2).elim) (fun _ => h0 h)
theorem not_ix {i n : Nat} (hi : i < n) (hn : n < 2 ^ 31) (q : nI i < 0 ∨ nI n ≤ nI i) : False := by
  rcases q with q | q
  · exact nI_pos (by omega) q
  · exact nI_ge hi hn q
theorem p_tenths {N k : Nat} {ti tw tc te law : Nat → Int32} (hL : JL k ti tw tc te law) {x1 x2 x3 : Int32} {K : Int32 → Int32 → Int32 → Prop} (hK : ∀ r, K r r 0) : f_X5_tenths N (nI k) ti tw tc te x1 x2 x3 (fun r => f_X6_tenths N (nI k) law x1 x2 x3 (fun r2 t => K r r2 t)) := by
  have hk := hL.1
  unfold f_X5_tenths f_X6_tenths
  refine e_hasL (by omega) (fun i hi e => im n10 ?_) (fun q => ip rfl (e_isLaw hk (fun i hi e => (not_ix hi (by omega) (by rw [← e]; exact q)).elim) (fun _ => ip rfl (hK _))))
  subst e
  have ml : ∀ P : Int32 → Prop, P 1 → f_X6_isLaw N (nI k) (nI i) P := fun P h => e_isLaw hk (fun _ _ _ => h) (fun q => (not_ix hi (by omega) q).elim)
  refine e_within (fun a1 a2 => im n10 ?_) (fun q => ip rfl (ml _ (im n10 (e_in (fun a1 a2 => absurd ⟨a1, a2⟩ q) (fun _ => ip rfl (hK _))))))
  refine e_within (fun a3 a4 => ip n10 ?_) (fun q => im n00 (ml _ (im n10 (e_in (fun _ _ => im n10 (e_in (fun a3 a4 => absurd ⟨a3, a4⟩ q) (fun _ => im n00 (hK _)))) (fun z => absurd ⟨a1, a2⟩ z)))))
  refine is_ (fun q => ⟨vpn (by omega) (by omega), ?_⟩) (fun q => e_with (by omega) ?_)
  · rw [nI_clamp (by omega)]
    refine ml _ (im n10 (e_in (fun _ _ => im n10 (e_in (fun _ _ => ip n10 (ip q ?_)) (fun z => absurd ⟨a3, a4⟩ z))) (fun z => absurd ⟨a1, a2⟩ z)))
    rw [show (4 * nI i + 1 : Int32) = nI (4 * i + 1) from l4w i 1, nI_clamp (by omega), (hL.2 i hi).1.2.1]
    exact ⟨vpn (by omega) (by omega), hK _⟩
  · exact ml _ (im n10 (e_in (fun _ _ => im n10 (e_in (fun _ _ => ip n10 (im q (e_mwith hL hi (hK _)))) (fun z => absurd ⟨a3, a4⟩ z))) (fun z => absurd ⟨a1, a2⟩ z)))
/-- misfit -/
def ab (x : Int32) : Int32 := nI x.toInt.natAbs
def mfS (p a b c ti tw tc te : Nat → Int32) (i : Nat) : Nat → Int32
  | 0 => 0
  | h + 1 => (mfS p a b c ti tw tc te i h + ab (10 * a h - wtv ti tc te i (c h) * p h)) + ab (10 * b h - tw i * p h)
theorem mf_t {A W P : Nat} (hA : A ≤ 12) (hW : W ≤ 10) (hP : P ≤ 12) : (10 * nI A - nI W * nI P : Int32).toInt = 10 * A - W * P ∧ W * P ≤ 120 := by
  have hWP : W * P ≤ 10 * 12 := Nat.mul_le_mul hW hP
  show (nI 10 * nI A - nI W * nI P : Int32).toInt = _ ∧ _
  rw [pk_mul, pk_mul, pk_sub_toInt (by omega) (by omega)]
  exact ⟨by omega, hWP⟩
theorem e_misf {N n k i : Nat} {p a b c s ti tw tc te law : Nat → Int32} {post : Int32 → Prop} (hN : 5000 ≤ N) (hJ : JH n p a b c s) (hL : JL k ti tw tc te law) (hi : i < k) (h : post (mfS p a b c ti tw tc te i n)) : f_X3_misfitOf N ti tw tc te (nI n) p a b c (nI i) post := by
  have hn := hJ.1
  have hk := hL.1
  refine lq2 (f_X3_misfitOf_L5 N ti tw tc te (nI n) p a b c (nI i) (fun o8 o9 => post o8)) (fun K u v => f_X3_misfitOf_B5 N ti tw tc te (nI n) p a b c (nI i) K (fun o8 o9 => post o8) u v) (fun _ _ _ => Iff.rfl) (fun j => mfS p a b c ti tw tc te i j) nI n (fun j hj K hK => ?_) (fun K => ?_) N (by omega)
  · unfold f_X3_misfitOf_B5
    have v : vp_in (nI j) 12 := vpn (by omega) (by omega)
    obtain ⟨P, A, B, C, eP, eA, eB, -, h1, h2, h3, h4, -⟩ := hJ.nums hj
    obtain ⟨W, eW, hW⟩ := wtv_num hL hi (c j)
    obtain ⟨-, ⟨x, y, z, ex, ey, ez, hx, hy, hz⟩, -⟩ := hL.2 i hi
    have m1 := mf_t (A := A) (W := W) (P := P) (by omega) hW h2
    have m2 := mf_t (A := B) (W := y) (P := P) (by omega) hy h2
    refine il_f hj (by omega) ⟨v, nmi ⟨v, v, e_with (by omega) (nmi ⟨v, vpn (by omega) (by omega), nmi (nmi ?_)⟩)⟩⟩
    simp only [mfS] at hK
    rw [nI_clamp (show j < 2 ^ 31 by omega), nI_clamp (show i < 2 ^ 31 by omega), nI_1]
    rw [abs_c, abs_c]
    · exact hK
    · rw [eB, ey, eP, m2.1]; omega
    · rw [eA, eW, eP, m1.1]; omega
  · unfold f_X3_misfitOf_B5
    exact il_t (Nat.le_refl n) (by omega) h
theorem e_mmisf {N n k i : Nat} {p a b c s ti tw tc te law : Nat → Int32} {post : Int32 → Prop} (hN : 5000 ≤ N) (hJ : JH n p a b c s) (hL : JL k ti tw tc te law) (hi : i < k) (h : post (mfS p a b c ti tw tc te i n)) : f_X6_misfitOf N s law (nI i) post := by
  have hn := hJ.1
  have hk := hL.1
  refine lq2 (f_X6_misfitOf_L4 N s law (nI i) (fun o8 o9 => post o8)) (fun K u v => f_X6_misfitOf_B4 N s law (nI i) K (fun o8 o9 => post o8) u v) (fun _ _ _ => Iff.rfl) (fun j => mfS p a b c ti tw tc te i j) nI n (fun j hj K hK => ?_) (fun K => ?_) N (by omega)
  · unfold f_X6_misfitOf_B4
    rw [cl0, hJ.2.1]
    have zz := (hJ.2.2 j hj).1
    obtain ⟨P, A, B, C, eP, eA, eB, -, h1, h2, h3, h4, -⟩ := hJ.nums hj
    obtain ⟨W, eW, hW⟩ := wtv_num hL hi (c j)
    obtain ⟨l, ⟨x, y, z, ex, ey, ez, hx, hy, hz⟩, -⟩ := hL.2 i hi
    have m1 := mf_t (A := A) (W := W) (P := P) (by omega) hW h2
    have m2 := mf_t (A := B) (W := y) (P := P) (by omega) hy h2
    refine il_f hj (by omega) (e_of (w := 1) (by omega) (by omega) (e_of (w := 3) (by omega) (by omega) (e_mwith hL hi (e_of (w := 0) (by omega) (by omega) ?_))))
    rw [zz.1, zz.2.1, zz.2.2.2]
    simp only [mfS] at hK
    refine e_msize (by rw [eA, eW, eP, m1.1]; omega) (nmi (e_of (w := 2) (by omega) (by omega) ?_))
    rw [show (4 * nI i + 1 : Int32) = nI (4 * i + 1) from l4w i 1, nI_clamp (by omega), l.2.1, zz.2.2.1]
    refine ⟨vpn (by omega) (by omega), e_of (w := 0) (by omega) (by omega) ?_⟩
    rw [zz.1]
    refine e_msize (by rw [eB, ey, eP, m2.1]; omega) (nmi (nmi ?_))
    rw [nI_1]; exact hK
  · unfold f_X6_misfitOf_B4
    rw [cl0, hJ.2.1]
    exact il_t (Nat.le_refl n) (by omega) h
theorem mfS_num {n k i : Nat} {p a b c s ti tw tc te law : Nat → Int32} (hJ : JH n p a b c s) (hL : JL k ti tw tc te law) (hi : i < k) : ∀ j, j ≤ n → ∃ m : Nat, m ≤ 240 * j ∧ mfS p a b c ti tw tc te i j = nI m
  | 0, _ => ⟨0, by omega, rfl⟩
  | j + 1, hj => by
    obtain ⟨m, hm, e⟩ := mfS_num hJ hL hi j (by omega)
    obtain ⟨P, A, B, C, eP, eA, eB, -, h1, h2, h3, h4, -⟩ := hJ.nums (show j < n by omega)
    obtain ⟨W, eW, hW⟩ := wtv_num hL hi (c j)
    obtain ⟨-, ⟨x, y, z, ex, ey, ez, hx, hy, hz⟩, -⟩ := hL.2 i hi
    have m1 := mf_t (A := A) (W := W) (P := P) (by omega) hW h2
    have m2 := mf_t (A := B) (W := y) (P := P) (by omega) hy h2
    refine ⟨m + (10 * (A : Int) - W * P).natAbs + (10 * (B : Int) - y * P).natAbs, ?_, ?_⟩
    · have e1 : ((W * P : Nat) : Int) = (W : Int) * P := by simp
      have e2 : ((y * P : Nat) : Int) = (y : Int) * P := by simp
      omega
    · rw [mfS, e, ab, ab, eP, eA, eB, eW, ey, m1.1, m2.1, nI_add, nI_add]
theorem p_misfit {N n k : Nat} {p a b c s ti tw tc te law : Nat → Int32} (hN : 5000 ≤ N) (hJ : JH n p a b c s) (hL : JL k ti tw tc te law) {x1 : Int32} {K : Int32 → Int32 → Int32 → Prop} (hK : ∀ r, K r r 0) : f_X5_misfit N (nI n) p a b c (nI k) ti tw tc te x1 (fun r => f_X6_misfit N (nI k) s law x1 (fun r2 t => K r r2 t)) := by
  have hk := hL.1
  unfold f_X5_misfit f_X6_misfit
  refine e_hasL (by omega) (fun i hi e => im n10 ?_) (fun q => ip rfl (e_isLaw hk (fun i hi e => (not_ix hi (by omega) (by rw [← e]; exact q)).elim) (fun _ => ip rfl (hK _))))
  subst e
  exact e_misf hN hJ hL hi (e_isLaw hk (fun _ _ _ => im n10 (e_mmisf hN hJ hL hi (hK _))) (fun q => (not_ix hi (by omega) q).elim))
/-- best -/
def cb (mf : Nat → Int32) : Nat → Nat
  | 0 => 0
  | m + 1 => if mf (cb mf m) ≤ mf m then cb mf m else m
theorem cb_lt (mf : Nat → Int32) : ∀ j, cb mf (j + 1) ≤ j
  | 0 => by show (if mf 0 ≤ mf 0 then 0 else 0) ≤ 0; split <;> omega
  | j + 1 => by
    have := cb_lt mf j
    unfold cb
    split
    · omega
    · omega
theorem e_close {N n k : Nat} {p a b c s ti tw tc te law : Nat → Int32} {post : Int32 → Prop} (hN : 5000 ≤ N) (hJ : JH n p a b c s) (hL : JL k ti tw tc te law) (h0 : 0 < k) (h : post (nI (cb (fun i => mfS p a b c ti tw tc te i n) k))) : f_X3_closestTo N (nI k) ti tw tc te (nI n) p a b c post := by
  have hk := hL.1
  unfold f_X3_closestTo
  refine e_misf (i := 0) hN hJ hL h0 ?_
  generalize hM : (fun i => mfS p a b c ti tw tc te i n) = M at *
  have eM : ∀ i, mfS p a b c ti tw tc te i n = M i := fun i => by rw [← hM]
  have c1 : cb M 1 = 0 := Nat.le_zero.mp (cb_lt M 0)
  suffices key : f_X3_closestTo_L12 N (nI k) ti tw tc te (nI n) p a b c (fun o9 o10 o11 => post o9) N (nI (cb M (1 + 0))) (M (cb M (1 + 0))) (nI (1 + 0)) by
    rw [show 1 + 0 = 1 from rfl, c1] at key
    rw [eM 0]; exact key
  refine lq3 (f_X3_closestTo_L12 N (nI k) ti tw tc te (nI n) p a b c (fun o9 o10 o11 => post o9)) (fun K u v w => f_X3_closestTo_B12 N (nI k) ti tw tc te (nI n) p a b c K (fun o9 o10 o11 => post o9) u v w) (fun _ _ _ _ => Iff.rfl) (fun j => nI (cb M (1 + j))) (fun j => M (cb M (1 + j))) (fun j => nI (1 + j)) (k - 1) (fun j hj K hK => ?_) (fun K => ?_) N (by omega)
  · unfold f_X3_closestTo_B12 f_X3_closestTo_J42
    refine il_f (by omega) (by omega) (e_misf hN hJ hL (by omega) ?_)
    rw [eM, nI_1]
    rw [show 1 + (j + 1) = (1 + j) + 1 by omega] at hK
    simp only [cb] at hK
    refine is_ (fun q => nmi ?_) (fun q => nmi ?_)
    · rw [if_pos q] at hK; exact hK
    · rw [if_neg q] at hK; exact hK
  · unfold f_X3_closestTo_B12
    rw [show 1 + (k - 1) = k by omega]
    exact il_t (Nat.le_refl k) (by omega) h
theorem ne9 {x : Nat} (h : x < 2 ^ 31) : ¬ nI x = -9 := fun q => nI_pos h (by rw [q]; decide)
theorem e_mbest {N n k : Nat} {p a b c s ti tw tc te law : Nat → Int32} {post : Int32 → Prop} (hN : 5000 ≤ N) (hJ : JH n p a b c s) (hL : JL k ti tw tc te law) (h : post (if k = 0 then -9 else nI (cb (fun i => mfS p a b c ti tw tc te i n) k))) : f_X6_bestLaw N (nI k) s law post := by
  have hk := hL.1
  generalize hM : (fun i => mfS p a b c ti tw tc te i n) = M at *
  have eM : ∀ i, mfS p a b c ti tw tc te i n = M i := fun i => by rw [← hM]
  refine lq2 (f_X6_bestLaw_L5 N (nI k) s law (fun o7 o8 => post o7)) (fun K u v => f_X6_bestLaw_B5 N (nI k) s law K (fun o7 o8 => post o7) u v) (fun _ _ _ => Iff.rfl) (fun j => if j = 0 then -9 else nI (cb M j)) nI k (fun j hj K hK => ?_) (fun K => ?_) N (by omega)
  · unfold f_X6_bestLaw_B5 f_X6_bestLaw_J37
    rw [if_neg (Nat.succ_ne_zero j)] at hK
    refine il_f hj (by omega) ?_
    by_cases z : j = 0
    · subst z
      rw [if_pos rfl]
      have c1 : cb M 1 = 0 := Nat.le_zero.mp (cb_lt M 0)
      refine ip rfl (nmi ?_)
      rw [c1] at hK; exact hK
    · rw [if_neg z]
      obtain ⟨j', rfl⟩ : ∃ j', j = j' + 1 := ⟨j - 1, by omega⟩
      have hc := cb_lt M j'
      refine im (ne9 (by omega)) (e_mmisf hN hJ hL hj (e_mmisf hN hJ hL (by omega) ?_))
      rw [eM, eM, nI_1]
      rw [cb] at hK
      refine is_ (fun q => nmi ?_) (fun q => nmi ?_)
      · rw [if_pos q] at hK; exact hK
      · rw [if_neg q] at hK; exact hK
  · unfold f_X6_bestLaw_B5
    exact il_t (Nat.le_refl k) (by omega) h
def smN (mf : Nat → Int32) (lim : Int32) : Nat → Nat
  | 0 => 0
  | j + 1 => if lim < mf j then smN mf lim j else smN mf lim j ||| 2 ^ j
theorem smN_lt (mf : Nat → Int32) (lim : Int32) : ∀ j, smN mf lim j < 2 ^ j
  | 0 => by show 0 < 1; omega
  | j + 1 => by
    have ih := smN_lt mf lim j
    have h3 := Nat.pow_succ (n := 2) (m := j)
    unfold smN
    split
    · omega
    · exact Nat.or_lt_two_pow (by omega) (by omega)
theorem smN_has {mf : Nat → Int32} {lim : Int32} {i : Nat} (hi : ¬ lim < mf i) : ∀ j, i < j → (smN mf lim j).testBit i = true
  | 0, h => absurd h (by omega)
  | j + 1, h => by
    unfold smN
    by_cases e : i = j
    · rw [← e, if_neg hi, tb_or, decide_eq_true rfl, Bool.or_true]
    · have ih := smN_has hi j (by omega)
      split
      · exact ih
      · rw [tb_or, ih]; rfl
theorem e_poss {N n k : Nat} {p a b c s ti tw tc te law : Nat → Int32} {sp : Int32} {post : Int32 → Prop} (hN : 5000 ≤ N) (hJ : JH n p a b c s) (hL : JL k ti tw tc te law) (h0 : 0 < k) (h : post (nI (smN (fun i => mfS p a b c ti tw tc te i n) (mfS p a b c ti tw tc te (cb (fun i => mfS p a b c ti tw tc te i n) k) n + sp) k))) : f_X3_possible N (nI k) ti tw tc te (nI n) p a b c sp post := by
  have hk := hL.1
  have hc := cb_lt (fun i => mfS p a b c ti tw tc te i n) (k - 1)
  rw [show k - 1 + 1 = k by omega] at hc
  unfold f_X3_possible
  refine e_close hN hJ hL h0 (e_misf hN hJ hL (by omega) (nmi ?_))
  generalize mfS p a b c ti tw tc te (cb (fun i => mfS p a b c ti tw tc te i n) k) n + sp = lim at *
  generalize hM : (fun i => mfS p a b c ti tw tc te i n) = M at *
  have eM : ∀ i, mfS p a b c ti tw tc te i n = M i := fun i => by rw [← hM]
  refine lq2 (f_X3_possible_L19 N (nI k) ti tw tc te (nI n) p a b c lim (fun o10 o11 => post o10)) (fun K u v => f_X3_possible_B19 N (nI k) ti tw tc te (nI n) p a b c lim K (fun o10 o11 => post o10) u v) (fun _ _ _ => Iff.rfl) (fun j => nI (smN M lim j)) nI k (fun j hj K hK => ?_) (fun K => ?_) N (by omega)
  · unfold f_X3_possible_B19 f_X3_possible_J48
    refine il_f hj (by omega) (e_misf hN hJ hL hj ?_)
    rw [eM, nI_1]
    simp only [smN] at hK
    refine is_ (fun q => nmi ?_) (fun q => nmi (nmi ?_))
    · rw [if_pos q] at hK; exact hK
    · rw [if_neg q] at hK
      rw [shl1 j (by omega), fa_or]; exact hK
  · unfold f_X3_possible_B19
    exact il_t (Nat.le_refl k) (by omega) h
theorem e_mmay {N n k : Nat} {p a b c s ti tw tc te law : Nat → Int32} {sp : Int32} {post : Int32 → Prop} (hN : 5000 ≤ N) (hJ : JH n p a b c s) (hL : JL k ti tw tc te law) (h : post (nI (smN (fun i => mfS p a b c ti tw tc te i n) (mfS p a b c ti tw tc te (cb (fun i => mfS p a b c ti tw tc te i n) k) n + sp) k))) : f_X6_mayBe N (nI k) sp s law post := by
  have hk := hL.1
  unfold f_X6_mayBe
  refine e_mbest hN hJ hL ?_
  rcases Nat.eq_zero_or_pos k with z | z
  · subst z
    obtain ⟨f, rfl⟩ : ∃ f, N = f + 1 := ⟨N - 1, by omega⟩
    show f_X6_mayBe_B9 _ (nI 0) sp s law _ _ _ 0 (nI 0)
    unfold f_X6_mayBe_B9
    exact il_t (Nat.le_refl 0) (by omega) h
  · rw [if_neg (show k ≠ 0 by omega)]
    have hc := cb_lt (fun i => mfS p a b c ti tw tc te i n) (k - 1)
    rw [show k - 1 + 1 = k by omega] at hc
    generalize hcb : cb (fun i => mfS p a b c ti tw tc te i n) k = j0 at *
    generalize hli : mfS p a b c ti tw tc te j0 n + sp = lim at *
    generalize hM : (fun i => mfS p a b c ti tw tc te i n) = M at *
    have eM : ∀ i, mfS p a b c ti tw tc te i n = M i := fun i => by rw [← hM]
    refine lq2 (f_X6_mayBe_L9 N (nI k) sp s law (nI j0) (fun o10 o11 => post o10)) (fun K u v => f_X6_mayBe_B9 N (nI k) sp s law (nI j0) K (fun o10 o11 => post o10) u v) (fun _ _ _ => Iff.rfl) (fun j => nI (smN M lim j)) nI k (fun j hj K hK => ?_) (fun K => ?_) N (by omega)
    · unfold f_X6_mayBe_B9 f_X6_mayBe_J43
      refine il_f hj (by omega) (e_mmisf hN hJ hL hj (e_mmisf hN hJ hL (by omega) ?_))
      rw [hli, eM, nI_1]
      simp only [smN] at hK
      refine is_ (fun q => nmi (nmi ?_)) (fun q => nmi (nmi ?_))
      · rw [if_pos q] at hK
        rw [Int32.or_zero]; exact hK
      · rw [if_neg q] at hK
        rw [shl1 j (by omega), fa_or]; exact hK
    · unfold f_X6_mayBe_B9
      exact il_t (Nat.le_refl k) (by omega) h
/-- heaps -/
def hpF (ti tc te : Nat → Int32) (S : Nat) (had : Int32) (v l : Nat) : Bool := S.testBit l && decide (wtv ti tc te l had = nI v)
def hpN (ti tc te : Nat → Int32) (S k : Nat) (had : Int32) (v : Nat) : Nat := ct (hpF ti tc te S had v) k
def ghN (ti tc te : Nat → Int32) (S k : Nat) (had : Int32) : Nat → Nat
  | 0 => 0
  | v + 1 => if ghN ti tc te S k had v < hpN ti tc te S k had v then hpN ti tc te S k had v else ghN ti tc te S k had v
theorem ghN_le (ti tc te : Nat → Int32) (S k : Nat) (had : Int32) : ∀ v, ghN ti tc te S k had v ≤ k
  | 0 => by show 0 ≤ k; omega
  | v + 1 => by
    have := ghN_le ti tc te S k had v
    have h2 : hpN ti tc te S k had v ≤ k := ct_le _ k
    unfold ghN
    split <;> omega
theorem e_heap {N k S v : Nat} {ti tc te : Nat → Int32} {had : Int32} {post : Int32 → Prop} (hN : 5000 ≤ N) (hk : k ≤ 6) (hS : S < 2 ^ 31) (h : post (nI (hpN ti tc te S k had v))) : f_X3_heapOf N (nI k) ti tc te (nI S) had (nI v) post := by
  refine lq2 (f_X3_heapOf_L6 N (nI k) ti tc te (nI S) had (nI v) (fun o7 o8 => post o7)) (fun K u w => f_X3_heapOf_B6 N (nI k) ti tc te (nI S) had (nI v) K (fun o7 o8 => post o7) u w) (fun _ _ _ => Iff.rfl) (fun j => nI (ct (hpF ti tc te S had v) j)) nI k (fun j hj K hK => ?_) (fun K => ?_) N (by omega)
  · unfold f_X3_heapOf_B6 f_X3_heapOf_J39
    refine il_f hj (by omega) ?_
    simp only [ct] at hK
    rw [nI_1]
    refine is_ (fun q => nmi ?_) (fun q => e_with (by omega) (is_ (fun w => nmi ?_) (fun w => nmi (nmi ?_))))
    · have t : S.testBit j = false := by
        cases e : S.testBit j
        · rfl
        · exact absurd ((bP_nI hS (by omega)).mpr e) q
      have e : hpF ti tc te S had v j = false := by unfold hpF; rw [t]; rfl
      simp only [e, Bool.false_eq_true, if_false, Nat.add_zero] at hK
      exact hK
    · have e : hpF ti tc te S had v j = false := by unfold hpF; rw [decide_eq_false w, Bool.and_false]
      simp only [e, Bool.false_eq_true, if_false, Nat.add_zero] at hK
      exact hK
    · have t : S.testBit j = true := (bP_nI hS (by omega)).mp (Classical.not_not.mp q)
      have e : hpF ti tc te S had v j = true := by unfold hpF; rw [t, decide_eq_true (Classical.not_not.mp w)]; rfl
      simp only [e, if_true] at hK
      rw [nI_1]; exact hK
  · unfold f_X3_heapOf_B6
    exact il_t (Nat.le_refl k) (by omega) h
theorem e_great {N k S : Nat} {ti tc te : Nat → Int32} {had : Int32} {post : Int32 → Prop} (hN : 5000 ≤ N) (hk : k ≤ 6) (hS : S < 2 ^ 31) (h : post (nI (ghN ti tc te S k had 11))) : f_X3_greatestHeap N (nI k) ti tc te (nI S) had post := by
  refine lq2 (f_X3_greatestHeap_L5 N (nI k) ti tc te (nI S) had (fun o6 o7 => post o6)) (fun K u w => f_X3_greatestHeap_B5 N (nI k) ti tc te (nI S) had K (fun o6 o7 => post o6) u w) (fun _ _ _ => Iff.rfl) (fun j => nI (ghN ti tc te S k had j)) nI 11 (fun j hj K hK => ?_) (fun K => ?_) N (by omega)
  · unfold f_X3_greatestHeap_B5
    refine it_f (a := 10) (by omega) (by omega) (e_heap hN hk hS (nmi (nmi ?_)))
    have b1 := ghN_le ti tc te S k had j
    have b2 : hpN ti tc te S k had j ≤ k := ct_le _ k
    rw [nI_1]
    simp only [ghN] at hK
    by_cases q : ghN ti tc te S k had j < hpN ti tc te S k had j
    · rw [if_pos q] at hK
      rw [if_pos (nI_lt q (by omega))]; exact hK
    · rw [if_neg q] at hK
      rw [if_neg (nI_nlt (by omega) (by omega))]; exact hK
  · unfold f_X3_greatestHeap_B5
    exact it_t (a := 10) (by omega) (by omega) h
def nt (g : Nat → Nat) : Nat → Nat
  | 0 => 0
  | m + 1 => if g (nt g m) ≤ g m then nt g m else m
theorem nt_lt (g : Nat → Nat) : ∀ j, nt g (j + 1) ≤ j
  | 0 => by show (if g 0 ≤ g 0 then 0 else 0) ≤ 0; split <;> omega
  | j + 1 => by
    have := nt_lt g j
    unfold nt
    split <;> omega
theorem e_next {N k S : Nat} {ti tc te : Nat → Int32} {post : Int32 → Prop} (hN : 5000 ≤ N) (hk : k ≤ 6) (hS : S < 2 ^ 31) (h : post (nI (nt (fun j => ghN ti tc te S k (nI j) 11) 64))) : f_X3_nextToTry N (nI k) ti tc te (nI S) post := by
  have gl : ∀ j, ghN ti tc te S k (nI j) 11 ≤ k := fun j => ghN_le ti tc te S k (nI j) 11
  generalize hG : (fun j => ghN ti tc te S k (nI j) 11) = G at *
  have eG : ∀ j, ghN ti tc te S k (nI j) 11 = G j := fun j => by rw [← hG]
  have c1 : nt G 1 = 0 := Nat.le_zero.mp (nt_lt G 0)
  have gl' : ∀ j, G j ≤ k := fun j => by rw [← eG]; exact gl j
  refine lq3 (f_X3_nextToTry_L8 N (nI k) ti tc te (nI S) (fun o8 o9 o10 => post o8)) (fun K u v w => f_X3_nextToTry_B8 N (nI k) ti tc te (nI S) K (fun o8 o9 o10 => post o8) u v w) (fun _ _ _ _ => Iff.rfl) (fun j => nI (nt G j)) (fun j => if j = 0 then 7 else nI (G (nt G j))) nI 64 (fun j hj K hK => ?_) (fun K => ?_) N (by omega)
  · unfold f_X3_nextToTry_B8 f_X3_nextToTry_J36
    refine it_f (a := 63) (by omega) (by omega) (e_great hN hk hS ?_)
    rw [eG, nI_1]
    rw [if_neg (Nat.succ_ne_zero j)] at hK
    have g1 := gl' j
    have g2 := gl' (nt G j)
    by_cases z : j = 0
    · subst z
      rw [if_pos rfl]
      refine il_f (a := 7) (by omega) (by omega) (nmi ?_)
      rw [c1] at hK; exact hK
    · rw [if_neg z]
      simp only [nt] at hK
      by_cases q : G (nt G j) ≤ G j
      · refine il_t q (by omega) (nmi ?_)
        rw [if_pos q] at hK; exact hK
      · refine il_f (by omega) (by omega) (nmi ?_)
        rw [if_neg q] at hK; exact hK
  · unfold f_X3_nextToTry_B8
    exact it_t (a := 63) (by omega) (by omega) h
theorem e_mheap {N k S v : Nat} {ti tw tc te law : Nat → Int32} {had : Int32} {ke : Int32 → Int32 → Prop} (hN : 5000 ≤ N) (hL : JL k ti tw tc te law) (hS : S < 2 ^ 31) (h : ke (nI (hpN ti tc te S k had v)) (nI k)) : f_X6_parting_L39 N (nI k) law (nI S) had (nI v) ke N 0 0 := by
  have hk := hL.1
  refine lq2 (f_X6_parting_L39 N (nI k) law (nI S) had (nI v) ke) (fun K u w => f_X6_parting_B39 N (nI k) law (nI S) had (nI v) K ke u w) (fun _ _ _ => Iff.rfl) (fun j => nI (ct (hpF ti tc te S had v) j)) nI k (fun j hj K hK => ?_) (fun K => ?_) N (by omega)
  · unfold f_X6_parting_B39 f_X6_parting_J77
    refine il_f hj (by omega) ?_
    simp only [ct] at hK
    rw [nI_1]
    refine is_ (fun q => nmi (nmi ?_)) (fun q => e_mwith hL hj (is_ (fun w => nmi (nmi ?_)) (fun w => nmi (nmi ?_))))
    · have t : S.testBit j = false := by
        cases e : S.testBit j
        · rfl
        · exact absurd ((bP_nI hS (by omega)).mpr e) q
      have e : hpF ti tc te S had v j = false := by unfold hpF; rw [t]; rfl
      simp only [e, Bool.false_eq_true, if_false, Nat.add_zero] at hK
      rw [Int32.add_zero]; exact hK
    · have e : hpF ti tc te S had v j = false := by unfold hpF; rw [decide_eq_false w, Bool.and_false]
      simp only [e, Bool.false_eq_true, if_false, Nat.add_zero] at hK
      rw [Int32.add_zero]; exact hK
    · have t : S.testBit j = true := (bP_nI hS (by omega)).mp (Classical.not_not.mp q)
      have e : hpF ti tc te S had v j = true := by unfold hpF; rw [t, decide_eq_true (Classical.not_not.mp w)]; rfl
      simp only [e, if_true] at hK
      rw [nI_1]; exact hK
  · unfold f_X6_parting_B39
    exact il_t (Nat.le_refl k) (by omega) h
theorem e_mgreat {N k S : Nat} {ti tw tc te law : Nat → Int32} {had : Int32} {ke : Int32 → Int32 → Prop} (hN : 5000 ≤ N) (hL : JL k ti tw tc te law) (hS : S < 2 ^ 31) (h : ke (nI (ghN ti tc te S k had 11)) (nI 11)) : f_X6_parting_L26 N (nI k) law (nI S) had ke N 0 0 := by
  have hk := hL.1
  refine lq2 (f_X6_parting_L26 N (nI k) law (nI S) had ke) (fun K u w => f_X6_parting_B26 N (nI k) law (nI S) had K ke u w) (fun _ _ _ => Iff.rfl) (fun j => nI (ghN ti tc te S k had j)) nI 11 (fun j hj K hK => ?_) (fun K => ?_) N (by omega)
  · unfold f_X6_parting_B26 f_X6_parting_J100
    refine il_f (a := 11) (by omega) (by omega) (e_mheap hN hL hS ?_)
    have b1 := ghN_le ti tc te S k had j
    have b2 : hpN ti tc te S k had j ≤ k := ct_le _ k
    rw [nI_1]
    simp only [ghN] at hK
    by_cases q : ghN ti tc te S k had j < hpN ti tc te S k had j
    · rw [if_pos q] at hK
      exact il_f q (by omega) (nmi hK)
    · rw [if_neg q] at hK
      exact il_t (by omega) (by omega) (nmi hK)
  · unfold f_X6_parting_B26
    exact il_t (a := 11) (by omega) (by omega) h
theorem e_mpart {N k S : Nat} {ti tw tc te law : Nat → Int32} {hp : Int32} {ke : Int32 → Int32 → Int32 → Prop} (hN : 5000 ≤ N) (hL : JL k ti tw tc te law) (hS : S < 2 ^ 31) (h0 : S = 0 → ke (-9) 0 hp) (h1 : S ≠ 0 → ke (nI (nt (fun j => ghN ti tc te S k (nI j) 11) 64)) (nI 64) (nI (ghN ti tc te S k (nI (nt (fun j => ghN ti tc te S k (nI j) 11) 64)) 11))) : f_X6_parting_L10 N (nI k) law (nI S) ke N (-9) 0 hp := by
  by_cases z0 : S = 0
  · obtain ⟨f, rfl⟩ : ∃ f, N = f + 1 := ⟨N - 1, by omega⟩
    show f_X6_parting_B10 _ (nI k) law (nI S) _ ke (-9) (nI 0) hp
    unfold f_X6_parting_B10
    exact il_f (a := 64) (by omega) (by omega) (ip (by rw [z0]; rfl) (h0 z0))
  · have h := h1 z0
    have gl : ∀ j, ghN ti tc te S k (nI j) 11 ≤ k := fun j => ghN_le ti tc te S k (nI j) 11
    have hk := hL.1
    generalize hG : (fun j => ghN ti tc te S k (nI j) 11) = G at *
    have eG : ∀ j, ghN ti tc te S k (nI j) 11 = G j := fun j => by rw [← hG]
    have c1 : nt G 1 = 0 := Nat.le_zero.mp (nt_lt G 0)
    have gl' : ∀ j, G j ≤ k := fun j => by rw [← eG]; exact gl j
    rw [eG] at h
    refine lq3 (f_X6_parting_L10 N (nI k) law (nI S) ke) (fun K u v w => f_X6_parting_B10 N (nI k) law (nI S) K ke u v w) (fun _ _ _ _ => Iff.rfl) (fun j => if j = 0 then -9 else nI (nt G j)) nI (fun j => if j = 0 then hp else nI (G (nt G j))) 64 (fun j hj K hK => ?_) (fun K => ?_) N (by omega)
    · unfold f_X6_parting_B10 f_X6_parting_J131
      refine il_f (a := 64) (by omega) (by omega) (im (fun q => z0 ((z_nI hS).mp q)) (e_mgreat hN hL hS ?_))
      rw [eG, nI_1]
      simp only [if_neg (Nat.succ_ne_zero j)] at hK
      have g1 := gl' j
      have g2 := gl' (nt G j)
      by_cases z : j = 0
      · subst z
        simp only [if_pos rfl]
        refine ip rfl (nmi ?_)
        rw [c1] at hK; exact hK
      · simp only [if_neg z]
        obtain ⟨j', rfl⟩ : ∃ j', j = j' + 1 := ⟨j - 1, by omega⟩
        have hc := nt_lt G j'
        refine im (ne9 (by omega)) ?_
        rw [nt] at hK
        by_cases q : G (nt G (j' + 1)) ≤ G (j' + 1)
        · refine il_t q (by omega) (nmi ?_)
          rw [if_pos q] at hK; exact hK
        · refine il_f (by omega) (by omega) (nmi ?_)
          rw [if_neg q] at hK; exact hK
    · unfold f_X6_parting_B10
      exact il_t (a := 64) (by omega) (by omega) h
theorem p_best {N n k : Nat} {p a b c s ti tw tc te law : Nat → Int32} {sp hp : Int32} (hN : 5000 ≤ N) (hJ : JH n p a b c s) (hL : JL k ti tw tc te law) (hs : ∃ v : Nat, sp = nI v ∧ v ≤ 999) {x1 : Int32} {K : Int32 → Int32 → Int32 → Int32 → Prop} (hK : ∀ r u, K r r 0 u) : f_X5_best N sp (nI n) p a b c (nI k) ti tw tc te x1 (fun r => f_X6_best N (nI k) sp hp s law x1 (fun r2 t u => K r r2 t u)) := by
  have hk := hL.1
  have hn := hJ.1
  unfold f_X5_best f_X6_best f_X6_parting
  refine e_within (fun a1 a2 => ip n10 ?_) (fun q => im n00 (e_in (fun a1 a2 => absurd ⟨a1, a2⟩ q) (fun _ => im n00 (hK _ _))))
  obtain ⟨w, hw, ew⟩ := i32_in (n := 3) (by omega) a1 a2
  have inn : ∀ P : Int32 → Prop, P 1 → f_X6_in N x1 0 3 P := fun P h => e_in (fun _ _ => h) (fun z => absurd ⟨a1, a2⟩ z)
  have x0 : x1 = 0 ↔ w = 0 := by rw [ew]; exact z_nI (by omega)
  have x1_ : x1 = 1 ↔ w = 1 := by rw [ew]; exact nI_eq (b := 1) (by omega) (by omega)
  have x2_ : x1 = 2 ↔ w = 2 := by rw [ew]; exact nI_eq (b := 2) (by omega) (by omega)
  have xl : (2 : Int32) ≤ x1 ↔ 2 ≤ w := by rw [ew]; exact nI_leI (a := 2) (by omega) (by omega)
  have sl := smN_lt (fun i => mfS p a b c ti tw tc te i n) (mfS p a b c ti tw tc te (cb (fun i => mfS p a b c ti tw tc te i n) k) n + sp) k
  have hk2 := p12 (show k ≤ 12 by omega)
  refine is_ (fun kq => ?_) (fun kq => ?_)
  · have k0 : 0 < k := Nat.pos_of_ne_zero (fun z => kq (by rw [z]; rfl))
    refine is_ (fun q0 => ?_) (fun q0 => ?_)
    · refine e_poss hN hJ hL k0 ?_
      have Snz : smN (fun i => mfS p a b c ti tw tc te i n) (mfS p a b c ti tw tc te (cb (fun i => mfS p a b c ti tw tc te i n) k) n + sp) k ≠ 0 := by
        intro z
        have hc := cb_lt (fun i => mfS p a b c ti tw tc te i n) (k - 1)
        rw [show k - 1 + 1 = k by omega] at hc
        have t := smN_has (mf := fun i => mfS p a b c ti tw tc te i n) (lim := mfS p a b c ti tw tc te (cb (fun i => mfS p a b c ti tw tc te i n) k) n + sp) (i := cb (fun i => mfS p a b c ti tw tc te i n) k) (by
          obtain ⟨m, hm, em⟩ := mfS_num hJ hL (show cb (fun i => mfS p a b c ti tw tc te i n) k < k by omega) n (Nat.le_refl n)
          obtain ⟨v, ev, hv⟩ := hs
          show ¬ _ < mfS p a b c ti tw tc te (cb (fun i => mfS p a b c ti tw tc te i n) k) n
          rw [em, ev, nI_add]
          exact nI_nlt (by omega) (by omega)) k (by omega)
        rw [z, Nat.zero_testBit] at t
        exact absurd t (by decide)
      generalize hS : smN (fun i => mfS p a b c ti tw tc te i n) (mfS p a b c ti tw tc te (cb (fun i => mfS p a b c ti tw tc te i n) k) n + sp) k = S at *
      have may : ∀ P : Int32 → Prop, P (nI S) → f_X6_mayBe N (nI k) sp s law P := fun P h => e_mmay hN hJ hL (by rw [hS]; exact h)
      have w0 : w ≠ 0 := fun z => q0 (x0.mpr z)
      refine is_ (fun q1 => ?_) (fun q1 => ?_)
      · have w1 : w ≠ 1 := fun z => q1 (x1_.mpr z)
        refine e_next hN hk (by omega) ?_
        have n64 := nt_lt (fun j => ghN ti tc te S k (nI j) 11) 63
        refine is_ (fun q2 => ?_) (fun q2 => ?_)
        · refine e_great hN hk (by omega) (inn _ (ip n10 (ip (xl.mpr (by omega)) (may _ (e_mpart hN hL (by omega) (fun z => absurd z Snz) (fun _ => im q2 (ip (ne9 ?_) (hK _ _))))))))
          have : nt (fun j => ghN ti tc te S k (nI j) 11) 64 ≤ 63 := n64
          omega
        · exact inn _ (ip n10 (ip (xl.mpr (by omega)) (may _ (e_mpart hN hL (by omega) (fun z => absurd z Snz) (fun _ => ip (Classical.not_not.mp q2) (hK _ _))))))
      · have w1 := x1_.mp (Classical.not_not.mp q1)
        exact inn _ (ip n10 (im (fun z => absurd (xl.mp z) (by omega)) (ip q0 (may _ (hK _ _)))))
    · have w0 := x0.mp (Classical.not_not.mp q0)
      refine e_close hN hJ hL k0 (inn _ (ip n10 (im (fun z => absurd (xl.mp z) (by omega)) (im q0 (e_mbest hN hJ hL ?_)))))
      rw [if_neg (show k ≠ 0 by omega)]; exact hK _ _
  · have k0 : k = 0 := (z_nI (by omega)).mp (Classical.not_not.mp kq)
    have hS : smN (fun i => mfS p a b c ti tw tc te i n) (mfS p a b c ti tw tc te (cb (fun i => mfS p a b c ti tw tc te i n) k) n + sp) k = 0 := by rw [k0]; rfl
    have may : ∀ P : Int32 → Prop, P (nI 0) → f_X6_mayBe N (nI k) sp s law P := fun P h => e_mmay hN hJ hL (by rw [hS]; exact h)
    refine is_ (fun q1 => ?_) (fun q1 => ?_)
    · have w1 : w ≠ 1 := fun z => q1 (x1_.mpr z)
      refine inn _ (ip n10 (is_ (fun ql => may _ (e_mpart (S := 0) hN hL (by omega) (fun _ => ?_) (fun z => absurd rfl z))) (fun ql => ?_)))
      · exact is_ (fun _ => hK _ _) (fun _ => im (nn rfl) (hK _ _))
      · have wl : ¬ 2 ≤ w := fun z => ql (xl.mpr z)
        refine im (nn (x0.mpr (by omega))) (e_mbest hN hJ hL ?_)
        rw [if_pos k0]; exact hK _ _
    · have w1 := x1_.mp (Classical.not_not.mp q1)
      exact inn _ (ip n10 (im (fun z => absurd (xl.mp z) (by omega)) (ip (fun z => absurd (x0.mp z) (by omega)) (may _ (hK _ _)))))
