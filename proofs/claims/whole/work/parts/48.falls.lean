/-! falls, bears: what stands on what is down. -/
theorem z_nI {x : Nat} (h : x < 2 ^ 31) : nI x = 0 ↔ x = 0 := nI_eq (b := 0) h (by omega)
def aR (g : Nat → Nat) (d : Nat) : Nat → Nat
  | 0 => d
  | i + 1 => if g i &&& d = 0 then aR g d i else aR g d i ||| 2 ^ i
def mR (g : Nat → Nat) (d : Nat) : Nat → Nat
  | 0 => 0
  | i + 1 => if d.testBit i = true then mR g d i else if g i &&& d = 0 then mR g d i else mR g d i ||| 2 ^ i
theorem tb_or (x i j : Nat) : (x ||| 2 ^ i).testBit j = (x.testBit j || decide (i = j)) := by rw [Nat.testBit_or, Nat.testBit_two_pow]
theorem aR_tb (g : Nat → Nat) (d j : Nat) : ∀ n, (aR g d n).testBit j = (d.testBit j || (decide (j < n) && !decide (g j &&& d = 0)))
  | 0 => by simp [aR]
  | n + 1 => by
    unfold aR
    by_cases q : g n &&& d = 0
    · rw [if_pos q, aR_tb g d j n]
      by_cases e : j = n
      · subst e; simp [q]
      · have : decide (j < n + 1) = decide (j < n) := decide_eq_decide.mpr (by omega)
        rw [this]
    · rw [if_neg q, tb_or, aR_tb g d j n]
      by_cases e : j = n
      · subst e; simp [q]
      · have h1 : decide (j < n + 1) = decide (j < n) := decide_eq_decide.mpr (by omega)
        have h2 : decide (n = j) = false := decide_eq_false (by omega)
        rw [h1, h2, Bool.or_false]
theorem mR_tb (g : Nat → Nat) (d j : Nat) : ∀ n, (mR g d n).testBit j = (!d.testBit j && (decide (j < n) && !decide (g j &&& d = 0)))
  | 0 => by simp [mR]
  | n + 1 => by
    unfold mR
    have h1 : j ≠ n → decide (j < n + 1) = decide (j < n) := fun e => decide_eq_decide.mpr (by omega)
    by_cases t : d.testBit n = true
    · rw [if_pos t, mR_tb g d j n]
      by_cases e : j = n
      · subst e; simp [t]
      · rw [h1 e]
    · rw [if_neg t]
      by_cases q : g n &&& d = 0
      · rw [if_pos q, mR_tb g d j n]
        by_cases e : j = n
        · subst e; simp [q]
        · rw [h1 e]
      · rw [if_neg q, tb_or, mR_tb g d j n]
        by_cases e : j = n
        · subst e; simp [q, t]
        · have h2 : decide (n = j) = false := decide_eq_false (by omega)
          rw [h1 e, h2, Bool.or_false]
theorem am_or (g : Nat → Nat) (d n : Nat) : d ||| mR g d n = aR g d n := by
  apply Nat.eq_of_testBit_eq
  intro j
  rw [Nat.testBit_or, aR_tb, mR_tb]
  cases d.testBit j <;> simp
theorem am_0 (g : Nat → Nat) (d n : Nat) : mR g d n = 0 ↔ aR g d n = d := by
  constructor
  · intro h; rw [← am_or, h, Nat.or_zero]
  · intro h
    apply Nat.eq_of_testBit_eq
    intro j
    have hj := congrArg (fun x => x.testBit j) h
    simp only [aR_tb] at hj
    rw [mR_tb, Nat.zero_testBit]
    cases hd : d.testBit j <;> rw [hd] at hj <;> simp at hj ⊢
    exact hj
theorem tb_lt {x n : Nat} (h : ∀ j, n ≤ j → x.testBit j = false) : x < 2 ^ n := by
  apply Nat.lt_pow_two_of_testBit
  intro j hj; exact h j hj
theorem lt_tb {x n j : Nat} (h : x < 2 ^ n) (hj : n ≤ j) : x.testBit j = false := Nat.testBit_lt_two_pow (Nat.lt_of_lt_of_le h (Nat.pow_le_pow_right (by omega) hj))
theorem aR_lt {g : Nat → Nat} {d n : Nat} (h : d < 2 ^ n) : aR g d n < 2 ^ n := by
  apply tb_lt
  intro j hj
  rw [aR_tb, lt_tb h hj]
  simp; omega
theorem mR_lt {g : Nat → Nat} {d n : Nat} : mR g d n < 2 ^ n := by
  apply tb_lt
  intro j hj
  rw [mR_tb]
  simp; omega
def itF (g : Nat → Nat) (k d : Nat) : Nat → Nat
  | 0 => d
  | j + 1 => aR g (itF g k d j) k
theorem itF_lt {g : Nat → Nat} {k d : Nat} (h : d < 2 ^ k) : ∀ j, itF g k d j < 2 ^ k
  | 0 => h
  | j + 1 => aR_lt (itF_lt h j)
theorem ct_mono {f g : Nat → Bool} (h : ∀ i, f i = true → g i = true) : ∀ n, ct f n ≤ ct g n
  | 0 => Nat.le_refl 0
  | n + 1 => by
    have ih := ct_mono h n
    rw [ct, ct]
    cases hf : f n
    · simp; omega
    · rw [h n hf]; simp; exact ih
theorem ct_strict {f g : Nat → Bool} (h : ∀ i, f i = true → g i = true) {j : Nat} (h1 : f j = false) (h2 : g j = true) : ∀ n, j < n → ct f n + 1 ≤ ct g n
  | 0, q => absurd q (by omega)
  | n + 1, q => by
    rw [ct, ct]
    by_cases e : j = n
    · have := ct_mono h n
      rw [← e, h1, h2]; simp; rw [e]; exact this
    · have ih := ct_strict h h1 h2 n (by omega)
      cases hf : f n
      · simp; omega
      · rw [h n hf]; simp; omega
theorem grow {g : Nat → Nat} {d k : Nat} (hd : d < 2 ^ k) (h : aR g d k ≠ d) : ct (fun i => d.testBit i) k + 1 ≤ ct (fun i => (aR g d k).testBit i) k := by
  have hs : ∀ i, d.testBit i = true → (aR g d k).testBit i = true := by
    intro i hi; rw [aR_tb, hi]; rfl
  have : ∃ j, d.testBit j ≠ (aR g d k).testBit j := by
    apply Classical.byContradiction
    intro q
    apply h
    apply Nat.eq_of_testBit_eq
    intro j
    apply Classical.byContradiction
    intro w
    exact q ⟨j, fun z => w z.symm⟩
  obtain ⟨j, hj⟩ := this
  have h1 : d.testBit j = false := by
    cases hq : d.testBit j
    · rfl
    · exact absurd (hq.trans (hs j hq).symm) hj
  have h2 : (aR g d k).testBit j = true := by
    cases hq : (aR g d k).testBit j
    · exact absurd (h1.trans hq.symm) hj
    · rfl
  have hjk : j < k := by
    rcases Nat.lt_or_ge j k with q | q
    · exact q
    · rw [lt_tb (aR_lt hd) q] at h2; exact absurd h2 (by decide)
  exact ct_strict hs h1 h2 k hjk
theorem halt {g : Nat → Nat} {d k : Nat} (hd : d < 2 ^ k) : ∃ R, R ≤ k ∧ itF g k d (R + 1) = itF g k d R ∧ ∀ j, j < R → itF g k d (j + 1) ≠ itF g k d j := by
  have key : ∀ m, (∀ j, j < m → itF g k d (j + 1) ≠ itF g k d j) → m ≤ ct (fun i => (itF g k d m).testBit i) k := by
    intro m
    induction m with
    | zero => intro _; omega
    | succ m ih =>
      intro h
      have := grow (itF_lt hd m) (h m (by omega))
      have := ih (fun j hj => h j (by omega))
      show m + 1 ≤ ct (fun i => (aR g (itF g k d m) k).testBit i) k
      omega
  have ex : ∃ R, itF g k d (R + 1) = itF g k d R := by
    apply Classical.byContradiction
    intro q
    have := key (k + 1) (fun j _ e => q ⟨j, e⟩)
    have := ct_le (fun i => (itF g k d (k + 1)).testBit i) k
    omega
  obtain ⟨R, h1, h2⟩ := pk_least _ ex
  have := key R (fun j hj => h2 j hj)
  have := ct_le (fun i => (itF g k d R).testBit i) k
  exact ⟨R, by omega, h1, h2⟩
theorem itF_st {g : Nat → Nat} {d k R : Nat} (h : itF g k d (R + 1) = itF g k d R) : ∀ j, itF g k d (R + j) = itF g k d R
  | 0 => rfl
  | j + 1 => by
    show aR g (itF g k d (R + j)) k = _
    rw [itF_st h j]; exact h
/-- the mirrors -/
theorem e_after {N k d : Nat} {gr : Nat → Int32} {g : Nat → Nat} {post : Int32 → Prop} (hN : 5000 ≤ N) (hk : k ≤ 16) (hg : ∀ i, i < k → gr i = nI (g i)) (hd : d < 2 ^ k) (h : post (nI (aR g d k))) : f_X1_afterRound N (nI k) gr (nI d) post := by
  have hk2 := p2_le hk
  refine lq2 (f_X1_afterRound_L4 N (nI k) gr (nI d) (fun o6 o7 => post o6)) (fun K u v => f_X1_afterRound_B4 N (nI k) gr (nI d) K (fun o6 o7 => post o6) u v) (fun _ _ _ => Iff.rfl) (fun j => nI (aR g d j)) nI k (fun j hj K hK => ?_) (fun K => ?_) N (by omega)
  · unfold f_X1_afterRound_B4 f_X1_afterRound_J29
    refine il_f hj (by omega) ⟨vpn (by omega) (by omega), ?_⟩
    rw [nI_clamp (by omega), hg j hj, fa_and]
    have hb : g j &&& d ≤ d := Nat.and_le_right
    refine is_ (fun q => nmi ?_) (fun q => nmi (nmi ?_))
    · have q' := (z_nI (by omega)).mp q
      rw [nI_1]
      simp only [aR, if_pos q'] at hK
      exact hK
    · have q' : ¬ g j &&& d = 0 := fun z => q (by rw [z]; rfl)
      rw [nI_1, shl1 j (by omega), fa_or]
      simp only [aR, if_neg q'] at hK
      exact hK
  · unfold f_X1_afterRound_B4
    exact il_t (Nat.le_refl k) (by omega) h
theorem e_down {N k d : Nat} {gr : Nat → Int32} {g : Nat → Nat} {x : Int32} {post : Int32 → Prop} (hN : 5000 ≤ N) (hk : k ≤ 16) (hg : ∀ i, i < k → gr i = nI (g i)) (hd : d < 2 ^ k) (ex : x &&& aB k = nI d) (h : post (nI (itF g k d k))) : f_X1_down N (nI k) gr x post := by
  show f_X1_down_L8 N (nI k) gr (fun o6 o7 => post o6) N (x &&& aB k) 0
  rw [ex]
  refine lq2 (f_X1_down_L8 N (nI k) gr (fun o6 o7 => post o6)) (fun K u v => f_X1_down_B8 N (nI k) gr K (fun o6 o7 => post o6) u v) (fun _ _ _ => Iff.rfl) (fun j => nI (itF g k d j)) nI k (fun j hj K hK => ?_) (fun K => ?_) N (by omega)
  · unfold f_X1_down_B8
    refine il_f hj (by omega) (e_after hN hk hg (itF_lt hd j) (nmi ?_))
    rw [nI_1]; exact hK
  · unfold f_X1_down_B8
    exact il_t (Nat.le_refl k) (by omega) h
theorem e_rounds {N k d R : Nat} {gr : Nat → Int32} {g : Nat → Nat} {x : Int32} {post : Int32 → Prop} (hN : 5000 ≤ N) (hk : k ≤ 16) (hg : ∀ i, i < k → gr i = nI (g i)) (hd : d < 2 ^ k) (ex : x &&& aB k = nI d) (hR : R ≤ k) (h1 : itF g k d (R + 1) = itF g k d R) (h2 : ∀ j, j < R → itF g k d (j + 1) ≠ itF g k d j) (h : post (nI R)) : f_X1_rounds N (nI k) gr x post := by
  have hk2 := p2_le hk
  show f_X1_rounds_L8 N (nI k) gr post N (x &&& aB k) 0
  rw [ex]
  refine lq2 (f_X1_rounds_L8 N (nI k) gr post) (fun K u v => f_X1_rounds_B8 N (nI k) gr post K u v) (fun _ _ _ => Iff.rfl) (fun j => nI (itF g k d j)) nI R (fun j hj K hK => ?_) (fun K => ?_) N (by omega)
  · unfold f_X1_rounds_B8
    refine il_f (show j < k by omega) (by omega) (e_after hN hk hg (itF_lt hd j) (ip ?_ (nmi ?_)))
    · intro q
      have b1 := itF_lt (g := g) hd j
      have b2 := itF_lt (g := g) hd (j + 1)
      exact h2 j hj ((nI_eq (by show aR g (itF g k d j) k < _; have : aR g (itF g k d j) k < 2 ^ k := b2; omega) (by omega)).mp q)
    · rw [nI_1]; exact hK
  · unfold f_X1_rounds_B8
    rcases Nat.lt_or_ge R k with q | q
    · refine il_f q (by omega) (e_after hN hk hg (itF_lt hd R) (im (nn ?_) h))
      exact congrArg nI h1
    · have e : R = k := by omega
      subst e
      exact il_t (Nat.le_refl R) (by omega) h
theorem e_more_ {N k d : Nat} {pr mk cm gr s : Nat → Int32} {g : Nat → Nat} {ke : Int32 → Int32 → Prop} (hN : 5000 ≤ N) (hF : JF k pr mk cm gr s) (hg : ∀ i, i < k → gr i = nI (g i)) (hd : d < 2 ^ k) (h : ke (nI (mR g d k)) (nI k)) : f_X6_fallen_L30 N s (nI d) ke N 0 0 := by
  have hk := hF.1
  have hk2 := p2_le hk
  refine lq2 (f_X6_fallen_L30 N s (nI d) ke) (fun K u v => f_X6_fallen_B30 N s (nI d) K ke u v) (fun _ _ _ => Iff.rfl) (fun j => nI (mR g d j)) nI k (fun j hj K hK => ?_) (fun K => ?_) N (by omega)
  · unfold f_X6_fallen_B30 f_X6_fallen_J73
    rw [cl49, hF.2.1]
    have hb : g j &&& d ≤ d := Nat.and_le_right
    refine il_f hj (by omega) ?_
    rw [bitv (by omega) (by omega)]
    rcases bit01 d j with ⟨t1, t2⟩ | ⟨t1, t2⟩
    · rw [t2]
      refine ip (by decide) (nmi (nmi ?_))
      simp only [mR, if_pos t1] at hK
      rw [Int32.or_zero, nI_1]; exact hK
    · rw [t2]
      refine im (by decide) (e_told_ (w := 3) (by omega) (by omega) ?_)
      rw [(hF.2.2 j hj).1.2.2.2, hg j hj, fa_and]
      simp only [mR, t1, if_neg (show ¬ false = true by decide)] at hK
      refine is_ (fun q => nmi (nmi ?_)) (fun q => nmi (nmi ?_))
      · have q' := (z_nI (by omega)).mp q
        rw [if_pos q'] at hK
        rw [Int32.or_zero, nI_1]; exact hK
      · have q' : ¬ g j &&& d = 0 := fun z => q (by rw [z]; rfl)
        rw [if_neg q'] at hK
        rw [nI_1, shl1 j (by omega), fa_or]; exact hK
  · unfold f_X6_fallen_B30
    rw [cl49, hF.2.1]
    exact il_t (Nat.le_refl k) (by omega) h
def mm (g : Nat → Nat) (k d : Nat) : Nat → Nat
  | 0 => 1
  | j + 1 => mR g (itF g k d j) k
theorem e_fallen {N k d R : Nat} {pr mk cm gr s : Nat → Int32} {g : Nat → Nat} {x : Int32} {post : Int32 → Prop} (hN : 5000 ≤ N) (hF : JF k pr mk cm gr s) (hg : ∀ i, i < k → gr i = nI (g i)) (hd : d < 2 ^ k) (ex : x &&& aB k = nI d) (hR : R ≤ k) (h1 : itF g k d (R + 1) = itF g k d R) (h2 : ∀ j, j < R → itF g k d (j + 1) ≠ itF g k d j) (h : post (nI (itF g k d R + 65536 * R))) : f_X6_fallen N s x post := by
  have hk := hF.1
  have hk2 := p2_le hk
  unfold f_X6_fallen
  rw [cl49, hF.2.1]
  refine nmi ?_
  show f_X6_fallen_L19 N s _ N (x &&& aB k) 0 1
  rw [ex]
  have nz : ∀ i, i ≤ R → mm g k d i ≠ 0 := by
    intro i hi
    cases i with
    | zero => exact Nat.one_ne_zero
    | succ i => exact fun q => h2 i (by omega) ((am_0 g _ k).mp q)
  have ml : ∀ i, mm g k d i < 2 ^ 31 := by
    intro i
    cases i with
    | zero => show 1 < 2 ^ 31; omega
    | succ i => have := mR_lt (g := g) (d := itF g k d i) (n := k); show mR g (itF g k d i) k < _; omega
  refine lq3 (f_X6_fallen_L19 N s _) (fun K u v w => f_X6_fallen_B19 N s K _ u v w) (fun _ _ _ _ => Iff.rfl) (fun j => nI (itF g k d j)) (fun j => nI (min j R)) (fun j => nI (mm g k d j)) (R + 1) (fun j hj K hK => ?_) (fun K => ?_) N (by omega)
  · unfold f_X6_fallen_B19 f_X6_fallen_J98
    refine im (fun q => nz j (by omega) ((z_nI (ml j)).mp q)) (e_more_ hN hF hg (itF_lt hd j) (nmi ?_))
    rw [fa_or, am_or]
    have hl := ml (j + 1)
    refine is_ (fun q => nmi ?_) (fun q => nmi ?_)
    · have q' : mm g k d (j + 1) = 0 := (z_nI hl).mp q
      have e : j = R := by
        apply Classical.byContradiction
        intro z
        exact nz (j + 1) (by omega) q'
      rw [Int32.add_zero]
      rw [show min (j + 1) R = min j R by omega] at hK
      exact hK
    · have e : j < R := by
        apply Classical.byContradiction
        intro z
        have : j = R := by omega
        subst this
        exact q (congrArg nI ((am_0 g _ k).mpr h1))
      rw [show min (j + 1) R = j + 1 by omega] at hK
      rw [show min j R = j by omega, nI_1]
      exact hK
  · unfold f_X6_fallen_B19
    refine ip (congrArg nI ((am_0 g _ k).mpr h1)) ?_
    show post (nI (itF g k d (R + 1)) + (65536 * nI (min (R + 1) R)))
    rw [h1, show min (R + 1) R = R by omega, show (65536 : Int32) = nI 65536 from rfl, pk_mul, nI_add]
    exact h
theorem JF.gg {k : Nat} {pr mk cm gr s : Nat → Int32} (hF : JF k pr mk cm gr s) : ∀ i, i < k → gr i = nI ((gr i).toNatClampNeg) := by
  intro i hi
  obtain ⟨g, e, hg, -⟩ := (hF.2.2 i hi).2.2.2.2.2.2
  have hk := hF.1
  have : g < 65536 := Nat.lt_of_lt_of_le hg (p2_le (by omega))
  rw [e, nI_clamp (by omega)]
theorem p_falls {N k : Nat} {pr mk cm gr s : Nat → Int32} {x1 x2 : Int32} (hN : 5000 ≤ N) (hF : JF k pr mk cm gr s) {K : Int32 → Int32 → Int32 → Prop} (hK : ∀ r, K r r 0) : f_X5_falls N (nI k) gr x1 x2 (fun r => f_X6_falls N s x1 x2 (fun r2 t => K r r2 t)) := by
  have hk := hF.1
  have hk2 := p2_le hk
  obtain ⟨d, hd, ex⟩ := cutS (show k < 17 by omega) x1
  obtain ⟨R, hR, h1, h2⟩ := halt (g := fun i => (gr i).toNatClampNeg) hd
  have hl := itF_lt (g := fun i => (gr i).toNatClampNeg) hd R
  have e65 : (65536 : Int32) = nI 65536 := rfl
  unfold f_X5_falls f_X6_falls
  refine is_ (fun q => ?_) (fun q0 => is_ (fun q => ?_) (fun q1 => ?_))
  · refine e_down hN hk hF.gg hd ex ?_
    refine e_in (fun _ _ => ip n10 (im (nn q) ?_)) (fun z => absurd (by rw [q]; decide) z)
    refine e_fallen hN hF hF.gg hd ex hR h1 h2 ?_
    rw [e65, rem_nI (by omega) (by omega) (by omega)]
    have e1 := itF_st h1 (k - R)
    rw [show R + (k - R) = k by omega] at e1
    rw [e1, show (itF (fun i => (gr i).toNatClampNeg) k d R + 65536 * R) % 65536 = itF (fun i => (gr i).toNatClampNeg) k d R by omega]
    exact hK _
  · refine e_rounds hN hk hF.gg hd ex hR h1 h2 ?_
    refine e_in (fun _ _ => ip n10 (ip q0 ?_)) (fun z => absurd (by rw [q]; decide) z)
    refine e_fallen hN hF hF.gg hd ex hR h1 h2 ?_
    rw [e65, pk_div (by omega) (by omega) (by omega), show (itF (fun i => (gr i).toNatClampNeg) k d R + 65536 * R) / 65536 = R by omega]
    exact hK _
  · refine e_in (fun a1 a2 => ?_) (fun _ => im n00 (hK _))
    obtain ⟨w, hw, e⟩ := i32_in (n := 1) (by omega) a1 a2
    rcases (show w = 0 ∨ w = 1 by omega) with rfl | rfl
    · exact absurd e q0
    · exact absurd e q1
/-- the first of most -/
def bm (w : Nat → Nat) : Nat → Nat × Nat
  | 0 => (0, 0)
  | i + 1 => if w i ≤ (bm w i).2 then bm w i else (i, w i)
theorem bm_le {w : Nat → Nat} (h : ∀ i, w i ≤ 16) : ∀ i, (bm w i).2 ≤ 16
  | 0 => by show 0 ≤ 16; omega
  | i + 1 => by
    unfold bm
    by_cases q : w i ≤ (bm w i).2
    · rw [if_pos q]; exact bm_le h i
    · rw [if_neg q]; exact h i
theorem itF_has {g : Nat → Nat} {k d i : Nat} (h : d.testBit i = true) : ∀ j, (itF g k d j).testBit i = true
  | 0 => h
  | j + 1 => by show (aR g (itF g k d j) k).testBit i = true; rw [aR_tb, itF_has h j]; rfl
theorem one_cut : ∀ k, k < 17 → ∀ i, i < k → (nI (2 ^ i)) &&& aB k = nI (2 ^ i) := by decide
theorem p_bears {N k : Nat} {pr mk cm gr s : Nat → Int32} (hN : 5000 ≤ N) (hF : JF k pr mk cm gr s) {K : Int32 → Int32 → Int32 → Prop} (hK : ∀ r, K r r 0) : f_X5_bears N (nI k) gr (fun r => f_X6_bears N s (fun r2 t => K r r2 t)) := by
  have hk := hF.1
  have hk2 := p2_le hk
  generalize hG : (fun i => (gr i).toNatClampNeg) = G
  have hg : ∀ i, i < k → gr i = nI (G i) := by rw [← hG]; exact hF.gg
  let w : Nat → Nat := fun i => pc (itF G k (2 ^ i) k)
  have wl : ∀ i, w i ≤ 16 := fun i => pc_le _
  have bl := bm_le wl
  have cutE : ∀ j, j < k → (1 <<< (nI j &&& 31) : Int32) &&& aB k = nI (2 ^ j) := fun j hj => by rw [shl1 j (by omega)]; exact one_cut k (by omega) j hj
  have dl : ∀ j, j < k → 2 ^ j < 2 ^ k := fun j hj => Nat.pow_lt_pow_right (by omega) hj
  have e65 : (65536 : Int32) = nI 65536 := rfl
  have w0 : 0 < k → 1 ≤ w 0 := by
    intro _
    have t : (2 ^ 0).testBit 0 = true := by decide
    exact ct_pos (i := 0) (by omega) (itF_has t k)
  have md : ∀ r : Int32, K r (if k = 0 then -9 else nI (bm w k).1) 0 → f_X6_bears N s (fun r2 t => K r r2 t) := by
    intro r h
    refine lq3 (f_X6_bears_L12 N s (fun o9 o10 o11 => K r o9 0)) (fun K' u v z => f_X6_bears_B12 N s K' (fun o9 o10 o11 => K r o9 0) u v z) (fun _ _ _ _ => Iff.rfl) (fun j => if j = 0 then -9 else nI (bm w j).1) (fun j => nI (bm w j).2) nI k (fun j hj K' hK' => ?_) (fun K' => ?_) N (by omega)
    · unfold f_X6_bears_B12 f_X6_bears_J49 f_X6_bears_J62
      rw [cl49, hF.2.1]
      refine il_f hj (by omega) ?_
      obtain ⟨R, hR, h1, h2⟩ := halt (g := G) (dl j hj)
      have hl := itF_lt (g := G) (dl j hj) R
      refine e_fallen hN hF hg (dl j hj) (cutE j hj) hR h1 h2 ?_
      rw [e65, rem_nI (by omega) (by omega) (by omega)]
      have e1 := itF_st h1 (k - R)
      rw [show R + (k - R) = k by omega] at e1
      rw [show (itF G k (2 ^ j) R + 65536 * R) % 65536 = itF G k (2 ^ j) k by rw [e1]; omega]
      refine e_ones hN (by rw [e1]; omega) ?_
      have hb := bl j
      have hw := wl j
      have hw2 : pc (itF G k (2 ^ j) k) ≤ 16 := wl j
      rw [if_neg (Nat.succ_ne_zero j)] at hK'
      rcases Nat.lt_or_ge (bm w j).2 (w j) with q | q
      · refine il_f q (by omega) (il_f q (by omega) (nmi ?_))
        simp only [bm, if_neg (show ¬ w j ≤ (bm w j).2 by omega)] at hK'
        rw [nI_1]; exact hK'
      · refine il_t q (by omega) (il_t q (by omega) (nmi ?_))
        simp only [bm, if_pos q] at hK'
        have j0 : j ≠ 0 := by
          intro z
          subst z
          have := w0 hj
          have : w 0 ≤ 0 := q
          omega
        rw [nI_1, if_neg j0]; exact hK'
    · unfold f_X6_bears_B12
      rw [cl49, hF.2.1]
      exact il_t (Nat.le_refl k) (by omega) h
  unfold f_X5_bears
  refine is_ (fun q => ?_) (fun q => ?_)
  · have k0 : k ≠ 0 := fun z => q (by rw [z]; rfl)
    refine lq3 (f_X1_mostBearing_L6 N (nI k) gr _) (fun K' u v z => f_X1_mostBearing_B6 N (nI k) gr K' _ u v z) (fun _ _ _ _ => Iff.rfl) (fun j => nI (bm w j).1) (fun j => nI (bm w j).2) nI k (fun j hj K' hK' => ?_) (fun K' => ?_) N (by omega)
    · unfold f_X1_mostBearing_B6 f_X1_mostBearing_J37
      have hl := itF_lt (g := G) (dl j hj) k
      have hb := bl j
      have hw := wl j
      have hw2 : pc (itF G k (2 ^ j) k) ≤ 16 := wl j
      refine il_f hj (by omega) (e_down hN hk hg (dl j hj) (cutE j hj) (e_bitCount (by omega) ?_))
      rcases Nat.lt_or_ge (bm w j).2 (w j) with q | q
      · refine il_f q (by omega) (nmi ?_)
        simp only [bm, if_neg (show ¬ w j ≤ (bm w j).2 by omega)] at hK'
        rw [nI_1]; exact hK'
      · refine il_t q (by omega) (nmi ?_)
        simp only [bm, if_pos q] at hK'
        rw [nI_1]; exact hK'
    · unfold f_X1_mostBearing_B6
      refine il_t (Nat.le_refl k) (by omega) (md _ ?_)
      rw [if_neg k0]; exact hK _
  · have k0 : k = 0 := (z_nI (by omega)).mp (Classical.not_not.mp q)
    refine md _ ?_
    rw [if_pos k0]; exact hK _
