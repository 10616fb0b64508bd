/-! sure, need. -/
theorem e_power {N b e : Nat} {post : Int64 → Prop} (hN : 5000 ≤ N) (hb : b < 2 ^ 31) (he : e < 100) (h : post (lN (b ^ e))) : f_X5_power N (nI b) (nI e) post := by
  refine lq2 (f_X5_power_L5 N (nI b) (nI e) (fun o5 o6 => post o5)) (fun K u v => f_X5_power_B5 N (nI b) (nI e) K (fun o5 o6 => post o5) u v) (fun _ _ _ => Iff.rfl) (fun i => lN (b ^ i)) nI e (fun i hi K hK => ?_) (fun K => ?_) N (by omega)
  · unfold f_X5_power_B5
    refine il_f hi (by omega) (nmi (nmi ?_))
    rw [nI_l hb, lN_mul, nI_1, ← Nat.pow_succ]; exact hK
  · unfold f_X5_power_B5
    exact il_t (Nat.le_refl e) (by omega) h
theorem e_mpower {N b e : Nat} {post : Int64 → Prop} (hN : 5000 ≤ N) (he : e < 100) (h : post (lN (b ^ e))) : f_X6_power N (lN b) (nI e) post := by
  refine lq2 (f_X6_power_L5 N (lN b) (nI e) (fun o5 o6 => post o5)) (fun K u v => f_X6_power_B5 N (lN b) (nI e) K (fun o5 o6 => post o5) u v) (fun _ _ _ => Iff.rfl) (fun i => lN (b ^ i)) nI e (fun i hi K hK => ?_) (fun K => ?_) N (by omega)
  · unfold f_X6_power_B5
    refine il_f hi (by omega) (nmi (nmi ?_))
    rw [lN_mul, nI_1, ← Nat.pow_succ]; exact hK
  · unfold f_X6_power_B5
    exact il_t (Nat.le_refl e) (by omega) h
def rwF (x n k : Nat) : Int64 := lN (bin n k) * lN (x ^ k) * lN ((10 - x) ^ (n - k))
theorem e_rows {N x n k : Nat} {post : Int64 → Prop} (hN : 5000 ≤ N) (hx : x ≤ 10) (hn : n ≤ 9) (hk : k ≤ n) (h : post (rwF x n k)) : f_X5_rowsWith N (nI x) (nI n) (nI k) post := by
  unfold f_X5_rowsWith
  refine e_choose hN (by omega) (by omega) (e_power hN (by omega) (by omega) ?_)
  rw [show (10 : Int32) - nI x = nI (10 - x) from pk_sub (a := 10) hx, pk_sub hk]
  exact e_power hN (by omega) (by omega) h
theorem e_mrows {N x n k : Nat} {t : Nat → Int64} {post : Int64 → Prop} (hN : 5000 ≤ N) (hT : JB t) (hx : x ≤ 10) (hn : n ≤ 9) (hk : k ≤ n) (h : post (rwF x n k)) : f_X6_rows N t (nI x) (nI n) (nI k) post := by
  unfold f_X6_rows
  rw [nI_l (by omega)]
  refine e_mchoose hT (by omega) (by omega) (e_mpower hN (by omega) ?_)
  rw [show (10 : Int64) - lN x = lN (10 - x) from lN_sub (a := 10) hx, pk_sub hk]
  exact e_mpower hN (by omega) h
/-- how far -/
def Bd (n : Nat) (D : Int) (a : Nat) : Nat := min (n + 1) ((a : Int) + 1 - D).toNat
def Bp (n : Nat) (D : Int) : Nat → Nat
  | 0 => 0
  | a + 1 => Bd n D a
theorem Bp_le (n : Nat) (D : Int) : ∀ a, Bp n D a ≤ Bd n D a
  | 0 => Nat.zero_le _
  | a + 1 => by show Bd n D a ≤ Bd n D (a + 1); unfold Bd; omega
theorem sub_t {a : Nat} {d : Int32} (ha : a < 100) (h1 : -9 ≤ d.toInt) (h2 : d.toInt ≤ 9) : (nI a - d).toInt = (a : Int) - d.toInt := by
  rw [Int32.toInt_sub, nI_toInt (by omega), Int.bmod_eq_of_le (by omega) (by omega)]
theorem sub_l {a b : Nat} {d : Int32} (ha : a < 100) (hb : b < 100) (h1 : -9 ≤ d.toInt) (h2 : d.toInt ≤ 9) : (nI a - d) < nI b ↔ (a : Int) - d.toInt < b := by
  rw [Int32.lt_iff_toInt_lt, sub_t ha h1 h2, nI_toInt (by omega)]
theorem sub_r {a b : Nat} {d : Int32} (ha : a < 100) (hb : b < 100) : (nI a - nI b) < d ↔ (a : Int) - b < d.toInt := by
  rw [Int32.lt_iff_toInt_lt, pk_sub_toInt (by omega) (by omega)]
def SY (y n m : Nat) : Int64 := sL (fun b => rwF y n b) m
def sv (x y n : Nat) (D : Int) (m : Nat) : Int64 := sL (fun a => rwF x n a * SY y n (Bd n D a)) m
theorem e_sureIn {N y n a b0 : Nat} {d : Int32} {ke : Int64 → Int32 → Prop} (hN : 5000 ≤ N) (hy : y ≤ 10) (hn : n ≤ 9) (ha : a ≤ n) (h1 : -9 ≤ d.toInt) (h2 : d.toInt ≤ 9) (hb : b0 ≤ Bd n d.toInt a) (h : ke (SY y n (Bd n d.toInt a)) (nI (Bd n d.toInt a))) : f_X5_sureRows_L18 N (nI y) (nI n) d (nI a) ke N (SY y n b0) (nI b0) := by
  have hB : Bd n d.toInt a ≤ n + 1 := Nat.min_le_left _ _
  refine lq2 (f_X5_sureRows_L18 N (nI y) (nI n) d (nI a) ke) (fun K u v => f_X5_sureRows_B18 N (nI y) (nI n) d (nI a) K ke u v) (fun _ _ _ => Iff.rfl) (fun i => SY y n (b0 + i)) (fun i => nI (b0 + i)) (Bd n d.toInt a - b0) (fun i hi K hK => ?_) (fun K => ?_) N (by omega)
  · unfold f_X5_sureRows_B18
    have hlt : b0 + i < Bd n d.toInt a := by omega
    have hle : ((b0 + i : Nat) : Int) ≤ (a : Int) - d.toInt := by unfold Bd at hlt; omega
    refine it_f (by omega) (by omega) (im (fun q => absurd ((sub_l (by omega) (by omega) h1 h2).mp q) (by omega)) (e_rows hN hy hn (by omega) (nmi (nmi ?_))))
    rw [nI_1]; exact hK
  · unfold f_X5_sureRows_B18
    have e : b0 + (Bd n d.toInt a - b0) = Bd n d.toInt a := by omega
    rw [e]
    rcases Nat.lt_or_ge n (Bd n d.toInt a) with q | q
    · exact it_t q (by omega) h
    · refine it_f q (by omega) (ip ((sub_l (by omega) (by omega) h1 h2).mpr ?_) h)
      unfold Bd at q ⊢; omega
theorem e_sureRows {N x y n : Nat} {d : Int32} {post : Int64 → Prop} (hN : 5000 ≤ N) (hx : x ≤ 10) (hy : y ≤ 10) (hn : n ≤ 9) (h1 : -9 ≤ d.toInt) (h2 : d.toInt ≤ 9) (h : post (sv x y n d.toInt (n + 1))) : f_X5_sureRows N (nI x) (nI y) (nI n) d post := by
  refine lq4 (f_X5_sureRows_L12 N (nI x) (nI y) (nI n) d (fun o15 o16 o17 o18 => post o15)) (fun K u v w z => f_X5_sureRows_B12 N (nI x) (nI y) (nI n) d K (fun o15 o16 o17 o18 => post o15) u v w z) (fun _ _ _ _ _ => Iff.rfl) (fun a => sv x y n d.toInt a) (fun a => SY y n (Bp n d.toInt a)) (fun a => nI (Bp n d.toInt a)) nI (n + 1) (fun a ha K hK => ?_) (fun K => ?_) N (by omega)
  · unfold f_X5_sureRows_B12
    refine it_f (by omega) (by omega) (e_sureIn hN hy hn (by omega) h1 h2 (Bp_le n _ a) (e_rows hN hx hn (by omega) (nmi (nmi ?_))))
    rw [nI_1]; exact hK
  · unfold f_X5_sureRows_B12
    exact it_t (by omega) (by omega) h
def inF (x y n : Nat) (D : Int) (a b : Nat) : Int64 := if (a : Int) - b < D then 0 else rwF x n a * rwF y n b
theorem inF_sum (x y n : Nat) (D : Int) (a : Nat) : ∀ m, sL (inF x y n D a) m = rwF x n a * SY y n (min m ((a : Int) + 1 - D).toNat)
  | 0 => by rw [Nat.zero_min]; exact (Int64.mul_zero).symm
  | m + 1 => by
    rw [sL, inF_sum x y n D a m, inF]
    by_cases q : (a : Int) - m < D
    · rw [if_pos q, show min (m + 1) ((a : Int) + 1 - D).toNat = min m ((a : Int) + 1 - D).toNat by omega]
      exact Int64.add_zero _
    · rw [if_neg q, show min (m + 1) ((a : Int) + 1 - D).toNat = m + 1 by omega, show min m ((a : Int) + 1 - D).toNat = m by omega, ← Int64.mul_add]
      rfl
theorem e_msureIn {N x y n a : Nat} {d : Int32} {t : Nat → Int64} {v : Int64} {ke : Int64 → Int32 → Prop} (hN : 5000 ≤ N) (hT : JB t) (hx : x ≤ 10) (hy : y ≤ 10) (hn : n ≤ 9) (ha : a ≤ n) (h : ∀ z, ke (v + rwF x n a * SY y n (Bd n d.toInt a)) z) : f_X6_sureOf_L15 N t (nI x) (nI y) (nI n) d (nI a) ke N v 0 := by
  suffices key : f_X6_sureOf_L15 N t (nI x) (nI y) (nI n) d (nI a) ke N (v + sL (inF x y n d.toInt a) 0) (nI 0) by
    rw [show v + sL (inF x y n d.toInt a) 0 = v from Int64.add_zero v] at key; exact key
  refine lq2 (f_X6_sureOf_L15 N t (nI x) (nI y) (nI n) d (nI a) ke) (fun K u w => f_X6_sureOf_B15 N t (nI x) (nI y) (nI n) d (nI a) K ke u w) (fun _ _ _ => Iff.rfl) (fun b => v + sL (inF x y n d.toInt a) b) nI (n + 1) (fun b hb K hK => ?_) (fun K => ?_) N (by omega)
  · unfold f_X6_sureOf_B15 f_X6_sureOf_J54
    refine it_f (by omega) (by omega) (is_ (fun q => nmi (nmi ?_)) (fun q => e_mrows hN hT hx hn (by omega) (e_mrows hN hT hy hn (by omega) (nmi (nmi ?_)))))
    · have q' := (sub_r (by omega) (by omega)).mp q
      simp only [sL] at hK
      rw [inF, if_pos q', ← Int64.add_assoc] at hK
      rw [nI_1]; exact hK
    · have q' := fun z => q ((sub_r (by omega) (by omega)).mpr z)
      simp only [sL] at hK
      rw [inF, if_neg q', ← Int64.add_assoc] at hK
      rw [nI_1]; exact hK
  · unfold f_X6_sureOf_B15
    refine it_t (by omega) (by omega) ?_
    rw [inF_sum]; exact h _
theorem e_sureOf {N x y n : Nat} {d : Int32} {t : Nat → Int64} {post : Int64 → Prop} (hN : 5000 ≤ N) (hT : JB t) (hx : x ≤ 10) (hy : y ≤ 10) (hn : n ≤ 9) (h : post (sv x y n d.toInt (n + 1))) : f_X6_sureOf N t (nI x) (nI y) (nI n) d post := by
  refine lq2 (f_X6_sureOf_L6 N t (nI x) (nI y) (nI n) d (fun o13 o14 => post o13)) (fun K u w => f_X6_sureOf_B6 N t (nI x) (nI y) (nI n) d K (fun o13 o14 => post o13) u w) (fun _ _ _ => Iff.rfl) (fun a => sv x y n d.toInt a) nI (n + 1) (fun a ha K hK => ?_) (fun K => ?_) N (by omega)
  · unfold f_X6_sureOf_B6
    refine it_f (by omega) (by omega) (e_msureIn hN hT hx hy hn (by omega) (fun z => nmi ?_))
    rw [nI_1]; exact hK
  · unfold f_X6_sureOf_B6
    exact it_t (by omega) (by omega) h
theorem e_tens {N : Nat} {x1 x2 : Int32} {post : Int32 → Prop} (h1 : ∀ x y, x ≤ 10 → y ≤ 10 → x1 = nI x → x2 = nI y → post 1) (h0 : ¬ ((0 ≤ x1 ∧ x1 ≤ 10) ∧ 0 ≤ x2 ∧ x2 ≤ 10) → post 0) : f_X5_areTenths N x1 x2 post := by
  unfold f_X5_areTenths
  refine e_within (fun a1 a2 => im n10 (e_within (fun a3 a4 => im n10 ?_) (fun q => ip rfl (h0 (fun z => q z.2))))) (fun q => ip rfl (h0 (fun z => q z.1)))
  obtain ⟨x, hx, ex⟩ := i32_in (n := 10) (by omega) a1 a2
  obtain ⟨y, hy, ey⟩ := i32_in (n := 10) (by omega) a3 a4
  exact h1 x y hx hy ex ey
theorem e_mtens {N : Nat} {x1 x2 : Int32} {post : Int32 → Prop} (h1 : ∀ x y, x ≤ 10 → y ≤ 10 → x1 = nI x → x2 = nI y → post 1) (h0 : ¬ ((0 ≤ x1 ∧ x1 ≤ 10) ∧ 0 ≤ x2 ∧ x2 ≤ 10) → post 0) : f_X6_areTenths N x1 x2 post := by
  unfold f_X6_areTenths
  refine e_in (fun a1 a2 => im n10 (e_in (fun a3 a4 => im n10 ?_) (fun q => ip rfl (h0 (fun z => q z.2))))) (fun q => ip rfl (h0 (fun z => q z.1)))
  obtain ⟨x, hx, ex⟩ := i32_in (n := 10) (by omega) a1 a2
  obtain ⟨y, hy, ey⟩ := i32_in (n := 10) (by omega) a3 a4
  exact h1 x y hx hy ex ey
theorem d9 {d : Int32} (h1 : -9 ≤ d) (h2 : d ≤ 9) : -9 ≤ d.toInt ∧ d.toInt ≤ 9 := ⟨Int32.le_iff_toInt_le.mp h1, Int32.le_iff_toInt_le.mp h2⟩
theorem ten_ok {x : Nat} (h : x ≤ 10) : 0 ≤ nI x ∧ nI x ≤ 10 := ⟨nI_pos' (by omega), nI_le (b := 10) h (by omega)⟩
theorem p_sure {N : Nat} {t : Nat → Int64} (hT : JB t) (hN : 5000 ≤ N) {x1 x2 x3 x4 : Int32} {K : Int64 → Int64 → Int32 → Prop} (hK : ∀ r, K r r 0) : f_X5_sure N x1 x2 x3 x4 (fun r => f_X6_sure N t x1 x2 x3 x4 (fun r2 u => K r r2 u)) := by
  unfold f_X5_sure f_X6_sure
  refine e_tens (fun x y hx hy ex ey => im n10 ?_) (fun q => ip rfl (e_mtens (fun x y hx hy ex ey => absurd ⟨by rw [ex]; exact ten_ok hx, by rw [ey]; exact ten_ok hy⟩ q) (fun _ => ip rfl (hK _))))
  subst ex; subst ey
  have mt : ∀ P : Int32 → Prop, P 1 → f_X6_areTenths N (nI x) (nI y) P := fun P h => e_mtens (fun _ _ _ _ _ _ => h) (fun q => absurd ⟨ten_ok hx, ten_ok hy⟩ q)
  refine e_within (fun a1 a2 => im n10 ?_) (fun q => ip rfl (mt _ (im n10 (e_in (fun a1 a2 => absurd ⟨a1, a2⟩ q) (fun _ => ip rfl (hK _))))))
  obtain ⟨n, hn, en⟩ := i32_in (n := 9) (by omega) (Int32.le_trans (show (0 : Int32) ≤ 1 by decide) a1) a2
  refine e_within (fun a3 a4 => im n10 ?_) (fun q => ip rfl (mt _ (im n10 (e_in (fun _ _ => im n10 (e_in (fun a3 a4 => absurd ⟨a3, a4⟩ q) (fun _ => ip rfl (hK _)))) (fun z => absurd ⟨a1, a2⟩ z)))))
  obtain ⟨d1, d2⟩ := d9 a3 a4
  have mo : ∀ P : Int64 → Prop, P (sv x y n x4.toInt (n + 1)) → f_X6_sureOf N t (nI x) (nI y) x3 x4 P := by
    intro P h; rw [en]; exact e_sureOf hN hT hx hy hn h
  have cl : ∀ P : Int64 → Prop, P (sv x y n x4.toInt (n + 1)) → f_X5_sureRows N (nI x) (nI y) x3 x4 P := by
    intro P h; rw [en]; exact e_sureRows hN hx hy hn d1 d2 h
  exact cl _ (mt _ (im n10 (e_in (fun _ _ => im n10 (e_in (fun _ _ => im n10 (mo _ (hK _))) (fun z => absurd ⟨a3, a4⟩ z))) (fun z => absurd ⟨a1, a2⟩ z))))
/-- need -/
def fs (P : Nat → Prop) [DecidablePred P] : Nat → Nat → Int32
  | 0, _ => -9
  | m + 1, i => if P i then fs P m (i + 1) else nI i
abbrev ndP (x y : Nat) (d h : Int32) (n : Nat) : Prop := lg_cmp (sv x y n d.toInt (n + 1)) (h.toInt64 * lN (10 ^ (2 * n - 2))) < 0
theorem two_2 {n : Nat} (h : 1 ≤ n) : (2 * nI n - 2 : Int32) = nI (2 * n - 2) := by rw [two_n]; exact pk_sub (b := 2) (by omega)
theorem e_need {N x y : Nat} {d hh : Int32} {post : Int32 → Prop} (hN : 5000 ≤ N) (hx : x ≤ 10) (hy : y ≤ 10) (h1 : -9 ≤ d.toInt) (h2 : d.toInt ≤ 9) : ∀ m i fuel, i + m = 10 → 1 ≤ i → m < fuel → post (fs (ndP x y d hh) m i) → f_X5_need_L31 N (nI x) (nI y) d hh post fuel (nI i) := by
  intro m
  induction m with
  | zero =>
    intro i fuel hi h1i hf h
    obtain ⟨f, rfl⟩ : ∃ f, fuel = f + 1 := ⟨fuel - 1, by omega⟩
    show f_X5_need_B31 N (nI x) (nI y) d hh post _ (nI i)
    unfold f_X5_need_B31
    exact it_t (a := 9) (by omega) (by omega) h
  | succ m ih =>
    intro i fuel hi h1i hf h
    obtain ⟨f, rfl⟩ : ∃ f, fuel = f + 1 := ⟨fuel - 1, by omega⟩
    show f_X5_need_B31 N (nI x) (nI y) d hh post _ (nI i)
    unfold f_X5_need_B31
    refine it_f (a := 9) (by omega) (by omega) (e_sureRows hN hx hy (by omega) h1 h2 ?_)
    rw [two_2 h1i]
    refine e_power (b := 10) hN (by omega) (by omega) ?_
    unfold fs at h
    refine is_ (fun q => nmi ?_) (fun q => ?_)
    · rw [nI_1]
      rw [if_pos (show ndP x y d hh i from q)] at h
      exact ih (i + 1) f (by omega) (by omega) (by omega) h
    · rw [if_neg (show ¬ ndP x y d hh i from q)] at h
      exact h
theorem e_mneed {N x y : Nat} {d hh : Int32} {t : Nat → Int64} {post : Int32 → Int32 → Prop} (hN : 5000 ≤ N) (hT : JB t) (hx : x ≤ 10) (hy : y ≤ 10) : ∀ m i fuel, i + m = 10 → 1 ≤ i → m < fuel → post (fs (ndP x y d hh) m i) 0 → f_X6_need_L40 N t (nI x) (nI y) d hh post fuel (nI i) := by
  intro m
  induction m with
  | zero =>
    intro i fuel hi h1i hf h
    obtain ⟨f, rfl⟩ : ∃ f, fuel = f + 1 := ⟨fuel - 1, by omega⟩
    show f_X6_need_B40 N t (nI x) (nI y) d hh post _ (nI i)
    unfold f_X6_need_B40
    exact il_t (a := 10) (by omega) (by omega) h
  | succ m ih =>
    intro i fuel hi h1i hf h
    obtain ⟨f, rfl⟩ : ∃ f, fuel = f + 1 := ⟨fuel - 1, by omega⟩
    show f_X6_need_B40 N t (nI x) (nI y) d hh post _ (nI i)
    unfold f_X6_need_B40
    refine il_f (a := 10) (by omega) (by omega) (e_sureOf hN hT hx hy (by omega) ?_)
    rw [two_2 h1i]
    refine e_mpower (b := 10) hN (by omega) ?_
    unfold fs at h
    refine is_ (fun q => nmi ?_) (fun q => ?_)
    · rw [nI_1]
      rw [if_pos (show ndP x y d hh i from q)] at h
      exact ih (i + 1) f (by omega) (by omega) (by omega) h
    · rw [if_neg (show ¬ ndP x y d hh i from q)] at h
      exact h
theorem p_need {N : Nat} {t : Nat → Int64} (hT : JB t) (hN : 5000 ≤ N) {x1 x2 x3 x4 : Int32} {K : Int32 → Int32 → Int32 → Prop} (hK : ∀ r, K r r 0) : f_X5_need N x1 x2 x3 x4 (fun r => f_X6_need N t x1 x2 x3 x4 (fun r2 u => K r r2 u)) := by
  unfold f_X5_need f_X6_need
  refine e_tens (fun x y hx hy ex ey => im n10 ?_) (fun q => ip rfl (e_mtens (fun x y hx hy ex ey => absurd ⟨by rw [ex]; exact ten_ok hx, by rw [ey]; exact ten_ok hy⟩ q) (fun _ => ip rfl (hK _))))
  subst ex; subst ey
  have mt : ∀ P : Int32 → Prop, P 1 → f_X6_areTenths N (nI x) (nI y) P := fun P h => e_mtens (fun _ _ _ _ _ _ => h) (fun q => absurd ⟨ten_ok hx, ten_ok hy⟩ q)
  refine e_within (fun a1 a2 => im n10 ?_) (fun q => ip rfl (mt _ (im n10 (e_in (fun a1 a2 => absurd ⟨a1, a2⟩ q) (fun _ => ip rfl (hK _))))))
  obtain ⟨d1, d2⟩ := d9 a1 a2
  refine e_within (fun a3 a4 => ip n10 ?_) (fun q => im n00 (mt _ (im n10 (e_in (fun _ _ => im n10 (e_in (fun a3 a4 => absurd ⟨a3, a4⟩ q) (fun _ => im n00 (hK _)))) (fun z => absurd ⟨a1, a2⟩ z)))))
  exact e_need hN hx hy d1 d2 9 1 N (by omega) (by omega) (by omega) (mt _ (im n10 (e_in (fun _ _ => im n10 (e_in (fun _ _ => ip n10 (e_mneed hN hT hx hy 9 1 N (by omega) (by omega) (by omega) (hK _))) (fun z => absurd ⟨a3, a4⟩ z))) (fun z => absurd ⟨a1, a2⟩ z))))
