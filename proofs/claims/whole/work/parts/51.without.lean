/-! Sets of houses and the others; without. -/
theorem fa_xor (a b : Nat) : nI a ^^^ nI b = nI (a ^^^ b) := by
  apply Int32.toBitVec_inj.1
  show BitVec.ofNat 32 a ^^^ BitVec.ofNat 32 b = BitVec.ofNat 32 (a ^^^ b)
  apply BitVec.eq_of_getLsbD_eq
  intro i hi
  simp [hi]
theorem lqi {A : Type} (L : Nat → A → Prop) (Bd : (A → Prop) → A → Prop) (hL : ∀ n a, L (n + 1) a ↔ Bd (L n) a) (I : Nat → A → Prop) (n : Nat) (step : ∀ i, i < n → ∀ a, I i a → ∀ K : A → Prop, (∀ a', I (i + 1) a' → K a') → Bd K a) (fin : ∀ a, I n a → ∀ K : A → Prop, Bd K a) : ∀ fuel, n < fuel → ∀ a, I 0 a → L fuel a := by
  have key : ∀ d i fuel a, i + d = n → d < fuel → I i a → L fuel a := by
    intro d
    induction d with
    | zero => intro i fuel a hi hf ha; obtain ⟨f, rfl⟩ : ∃ f, fuel = f + 1 := ⟨fuel - 1, by omega⟩; rw [hL]; have e : i = n := (by omega); subst e; exact fin a ha _
    | succ d ih => intro i fuel a hi hf ha; obtain ⟨f, rfl⟩ : ∃ f, fuel = f + 1 := ⟨fuel - 1, by omega⟩; rw [hL]; exact step i (by omega) a ha _ (fun a' ha' => ih (i + 1) f a' (by omega) (by omega) ha')
  intro fuel hf a ha
  exact key n 0 fuel a (by omega) hf ha
theorem e_all {N n : Nat} {post : Int32 → Prop} (h : post (aB n)) : f_X2_all N (nI n) post := h
/-- the others of a set -/
def oth (n g : Nat) : Nat := (2 ^ n - 1) &&& (g ^^^ 4294967295)
theorem oth_eq {n g : Nat} (hn : n < 17) : aB n &&& (nI g ^^^ (-1)) = nI (oth n g) := by
  rw [aB_eq n hn, show (-1 : Int32) = nI 4294967295 by decide, fa_xor, fa_and]; rfl
theorem oth_tb {n g i : Nat} (hi : i < 32) : (oth n g).testBit i = (decide (i < n) && !g.testBit i) := by
  unfold oth
  rw [Nat.testBit_and, Nat.testBit_xor, Nat.testBit_two_pow_sub_one, show (4294967295 : Nat) = 2 ^ 32 - 1 by decide, Nat.testBit_two_pow_sub_one]
  simp [hi]
theorem oth_lt (n g : Nat) : oth n g < 2 ^ n := by
  have : oth n g ≤ 2 ^ n - 1 := Nat.and_le_left
  have := Nat.two_pow_pos n
  omega
theorem p12 {n : Nat} (h : n ≤ 12) : 2 ^ n ≤ 4096 := Nat.pow_le_pow_right (n := 2) (by omega) h
theorem all_tb {n i : Nat} : (2 ^ n - 1).testBit i = decide (i < n) := Nat.testBit_two_pow_sub_one n i
theorem gS_nI {f : Nat → Int32} {g i : Nat} (hg : g < 2 ^ 31) (hi : i < 32) : gS f (nI g) i = if g.testBit i = true then f i else 0 := by
  unfold gS
  by_cases q : g.testBit i = true
  · rw [if_pos ((bP_nI hg hi).mpr q), if_pos q]
  · rw [if_neg (fun z => q ((bP_nI hg hi).mp z)), if_neg q]
theorem oS_split {f : Nat → Int32} {n g : Nat} (hn : n ≤ 12) (hg : g < 2 ^ n) : ∀ m, m ≤ n → oS f (aB n) m = oS f (nI g) m + oS f (nI (oth n g)) m := by
  have hp := p12 hn
  have ho := oth_lt n g
  intro m
  induction m with
  | zero => intro _; rfl
  | succ m ih =>
    intro hm
    have e := ih (by omega)
    show oS f (aB n) m + gS f (aB n) m = (oS f (nI g) m + gS f (nI g) m) + (oS f (nI (oth n g)) m + gS f (nI (oth n g)) m)
    rw [e, gS_t (aB_bit n (by omega) m (by omega)), gS_nI (by omega) (by omega), gS_nI (by omega) (by omega), oth_tb (by omega), show decide (m < n) = true from decide_eq_true (by omega)]
    cases g.testBit m
    · simp only [Bool.not_false, Bool.and_true, if_true, Bool.false_eq_true, if_false, Int32.add_zero]
      rw [Int32.add_assoc]
    · simp only [Bool.not_true, Bool.and_false, if_true, Bool.false_eq_true, if_false, Int32.add_zero]
      rw [Int32.add_assoc, Int32.add_assoc, Int32.add_comm (f m)]
theorem ne_bit {n g : Nat} (hg : g < 2 ^ n) (h : g ≠ 0) : ∃ i, i < n ∧ g.testBit i = true := by
  apply Classical.byContradiction
  intro q
  apply h
  apply Nat.eq_of_testBit_eq
  intro i
  rw [Nat.zero_testBit]
  rcases Nat.lt_or_ge i n with w | w
  · cases e : g.testBit i
    · rfl
    · exact absurd ⟨i, w, e⟩ q
  · exact lt_tb hg w
/-- people of a set, as a number -/
theorem pN {n g : Nat} {p : Nat → Int32} (hp : ∀ i, i < n → 1 ≤ p i ∧ p i ≤ 12) (hn : n ≤ 12) (hg : g < 2 ^ n) : ∃ v : Nat, v ≤ 144 ∧ oS p (nI g) n = nI v ∧ (v = 0 ↔ g = 0) := by
  obtain ⟨v, h1, h2, h3⟩ := oS_num hp (nI g)
  have := p12 hn
  refine ⟨v, by omega, h2, fun z => ?_, fun z => ?_⟩
  · apply Classical.byContradiction
    intro q
    obtain ⟨i, hi, hb⟩ := ne_bit hg q
    exact h3.mp z i hi ((bP_nI (by omega) (by omega)).mpr hb)
  · refine h3.mpr (fun i hi q => ?_)
    have := (bP_nI (by omega) (by omega)).mp q
    rw [z, Nat.zero_testBit] at this
    exact absurd this (by decide)
theorem oth_0 {n g : Nat} (hn : n ≤ 12) (hg : g < 2 ^ n) : oth n g = 0 ↔ g = 2 ^ n - 1 := by
  have hp := p12 hn
  constructor
  · intro h
    apply Nat.eq_of_testBit_eq
    intro i
    rw [all_tb]
    rcases Nat.lt_or_ge i n with w | w
    · have e := oth_tb (n := n) (g := g) (i := i) (by omega)
      rw [h, Nat.zero_testBit, decide_eq_true w, Bool.true_and] at e
      rw [decide_eq_true w]
      cases q : g.testBit i
      · rw [q] at e; exact absurd e (by decide)
      · rfl
    · rw [lt_tb hg w, decide_eq_false (by omega)]
  · intro h
    apply Nat.eq_of_testBit_eq
    intro i
    rw [Nat.zero_testBit]
    rcases Nat.lt_or_ge i n with w | w
    · rw [oth_tb (by omega), h, all_tb, decide_eq_true w]; rfl
    · exact lt_tb (oth_lt n g) w
theorem mb {a : Int} {P : Nat} (h1 : -144 ≤ a) (h2 : a ≤ 144) (hP : P ≤ 144) : -20736 ≤ a * P ∧ a * P ≤ 20736 := by
  have hz : (0 : Int) ≤ P := Int.natCast_nonneg P
  have e1 := Int.mul_le_mul_of_nonneg_right h2 hz
  have e2 := Int.mul_le_mul_of_nonneg_right h1 hz
  constructor <;> omega
/-- the gap's upper number -/
theorem u32 {x y : Int32} {P p : Nat} (h1 : -144 ≤ x.toInt) (h2 : x.toInt ≤ 144) (h3 : -144 ≤ y.toInt) (h4 : y.toInt ≤ 144) (hP : P ≤ 144) (hp : p ≤ 144) : (x * nI P - y * nI p).toInt = x.toInt * P - y.toInt * p := by
  have m1 := mb h1 h2 hP
  have m2 := mb h3 h4 hp
  rw [Int32.toInt_sub, Int32.toInt_mul, Int32.toInt_mul, nI_toInt (by omega), nI_toInt (by omega), Int.bmod_eq_of_le (n := x.toInt * P) (by omega) (by omega), Int.bmod_eq_of_le (n := y.toInt * p) (by omega) (by omega), Int.bmod_eq_of_le (by omega) (by omega)]
theorem u64 {x y : Int32} {P p : Nat} (h1 : -144 ≤ x.toInt) (h2 : x.toInt ≤ 144) (h3 : -144 ≤ y.toInt) (h4 : y.toInt ≤ 144) (hP : P ≤ 144) (hp : p ≤ 144) : (x.toInt64 * lN P - y.toInt64 * lN p).toInt = x.toInt * P - y.toInt * p := by
  have m1 := mb h1 h2 hP
  have m2 := mb h3 h4 hp
  rw [Int64.toInt_sub, Int64.toInt_mul, Int64.toInt_mul, lN_toInt (by omega), lN_toInt (by omega), Int32.toInt_toInt64, Int32.toInt_toInt64, Int.bmod_eq_of_le (n := x.toInt * P) (by omega) (by omega), Int.bmod_eq_of_le (n := y.toInt * p) (by omega) (by omega), Int.bmod_eq_of_le (by omega) (by omega)]
theorem abs64 {z : Int64} (h1 : -100000 ≤ z.toInt) (h2 : z.toInt ≤ 100000) : (if 0 < z then z else -z) = lN z.toInt.natAbs := by
  apply Int64.toInt_inj.mp
  rw [lN_toInt (by omega)]
  have h0 : (0 : Int64).toInt = 0 := rfl
  by_cases q : 0 < z
  · rw [if_pos q]
    have := Int64.lt_iff_toInt_lt.mp q
    rw [h0] at this
    omega
  · rw [if_neg q, Int64.toInt_neg]
    have w : ¬ (0 : Int) < z.toInt := fun w => q (Int64.lt_iff_toInt_lt.mpr (by rw [h0]; exact w))
    rw [Int.bmod_eq_of_le (by omega) (by omega)]
    omega
theorem neg1 {F p : Nat} (hF : F < 2 ^ 31) (h0 : 0 < p) (hp : p < 2 ^ 31) : ¬ lN F * 1 ≤ (-1) * lN p := by
  rw [Int64.mul_one, Int64.le_iff_toInt_le, Int64.toInt_mul, lN_toInt hF, lN_toInt hp, show (-1 : Int64).toInt = -1 from rfl, Int.bmod_eq_of_le (by omega) (by omega)]
  omega
def wo (F Q : Nat → Nat) : Nat → Nat × Nat × Nat
  | 0 => (0, 0, 0)
  | i + 1 => if i = 0 ∨ ¬ F i * (wo F Q i).2.2 ≤ (wo F Q i).2.1 * Q i then (i, F i, Q i) else wo F Q i
theorem wo_b {F Q : Nat → Nat} (hF : ∀ i, F i ≤ 41472) (hQ : ∀ i, Q i ≤ 144) : ∀ i, (wo F Q i).2.1 ≤ 41472 ∧ (wo F Q i).2.2 ≤ 144
  | 0 => ⟨by show 0 ≤ 41472; omega, by show 0 ≤ 144; omega⟩
  | i + 1 => by
    unfold wo
    by_cases q : i = 0 ∨ ¬ F i * (wo F Q i).2.2 ≤ (wo F Q i).2.1 * Q i
    · rw [if_pos q]; exact ⟨hF i, hQ i⟩
    · rw [if_neg q]; exact wo_b hF hQ i
theorem lmul_le {a b c d : Nat} (ha : a < 2 ^ 30) (hb : b < 2 ^ 30) (hc : c < 2 ^ 30) (hd : d < 2 ^ 30) : lN a * lN b ≤ lN c * lN d ↔ a * b ≤ c * d := by
  have h1 : a * b ≤ 2 ^ 30 * 2 ^ 30 := Nat.mul_le_mul (by omega) (by omega)
  have h2 : c * d ≤ 2 ^ 30 * 2 ^ 30 := Nat.mul_le_mul (by omega) (by omega)
  rw [lN_mul, lN_mul, pk_lLE (by omega) (by omega)]
theorem p_without {N n : Nat} {p a b c s : Nat → Int32} {u0 d0 : Int32} (hJ : JH n p a b c s) (hN : 5000 ≤ N) {K : Int32 → Int32 → Int32 → Int32 → Int32 → Prop} (hK : ∀ r u d, K r r 0 u d) : f_X5_without N (nI n) p a b (fun r => f_X6_without N u0 d0 s (fun r2 t u d => K r r2 t u d)) := by
  have hn := hJ.1
  have hp := p12 hn
  have hs := hJ.2.1
  unfold f_X5_without
  rcases Nat.lt_or_ge n 2 with q | q
  · refine il_f (a := 2) q (by omega) ?_
    obtain ⟨f, rfl⟩ : ∃ f, N = f + 1 := ⟨N - 1, by omega⟩
    unfold f_X6_without
    show f_X6_without_B18 _ s _ _ (-9) (-1) 1 (nI 0) u0 d0
    unfold f_X6_without_B18
    rw [cl0, hs]
    rcases Nat.eq_zero_or_pos n with w | w
    · exact il_t (by omega) (by omega) (hK _ _ _)
    · exact il_f w (by omega) (il_t (b := 1) (by omega) (by omega) (hK _ _ _))
  · refine il_t (a := 2) q (by omega) ?_
    have hA : 2 ^ n - 1 < 2 ^ n := by have := Nat.two_pow_pos n; omega
    obtain ⟨P, hP, eP, zP⟩ := pN hJ.pb hn hA
    rw [← aB_eq n (by omega)] at eP
    have P0 : 0 < P := Nat.pos_of_ne_zero (fun z => by
      have := zP.mp z
      have : 2 ^ 2 ≤ 2 ^ n := Nat.pow_le_pow_right (by omega) q
      omega)
    have hE := eO_b hJ (aB n) n (Nat.le_refl n)
    generalize hEA : oS (fun i => a i - b i) (aB n) n = E at hE
    let Z : Nat → Int32 := fun i => nI (oth n (2 ^ i))
    have zl : ∀ i, oth n (2 ^ i) < 2 ^ n := fun i => oth_lt n _
    have eZ : ∀ i, i < 12 → aB n &&& ((1 <<< (nI i &&& 31)) ^^^ (-1)) = Z i := fun i hi => by rw [shl1 i (by omega), oth_eq (by omega)]
    have nz : ∀ i, oth n (2 ^ i) ≠ 0 := by
      intro i z
      have t : (oth n (2 ^ i)).testBit (if i = 0 then 1 else 0) = true := by
        by_cases w : i = 0
        · rw [if_pos w, oth_tb (by omega), w, decide_eq_true (by omega)]; decide
        · rw [if_neg w, oth_tb (by omega), Nat.testBit_two_pow, decide_eq_true (show 0 < n by omega), decide_eq_false w]; rfl
      rw [z, Nat.zero_testBit] at t
      exact absurd t (by decide)
    have hQ : ∀ i, ∃ v : Nat, v ≤ 144 ∧ 0 < v ∧ oS p (Z i) n = nI v := fun i => by
      obtain ⟨v, h1, h2, h3⟩ := pN hJ.pb hn (zl i)
      exact ⟨v, h1, Nat.pos_of_ne_zero (fun z => nz i (h3.mp z)), h2⟩
    let Q : Nat → Nat := fun i => Classical.choose (hQ i)
    have Qs : ∀ i, Q i ≤ 144 ∧ 0 < Q i ∧ oS p (Z i) n = nI (Q i) := fun i => Classical.choose_spec (hQ i)
    let e : Nat → Int32 := fun i => oS (fun i => a i - b i) (Z i) n
    have eb : ∀ i, -144 ≤ (e i).toInt ∧ (e i).toInt ≤ 144 := fun i => by
      have := eO_b hJ (Z i) n (Nat.le_refl n)
      show -144 ≤ (oS (fun i => a i - b i) (Z i) n).toInt ∧ (oS (fun i => a i - b i) (Z i) n).toInt ≤ 144
      omega
    let F : Nat → Nat := fun i => ((e i).toInt * P - E.toInt * Q i).natAbs
    have Fb : ∀ i, F i ≤ 41472 := fun i => by
      have m1 := mb (eb i).1 (eb i).2 hP
      have m2 := mb (a := E.toInt) (by omega) (by omega) (Qs i).1
      show ((e i).toInt * P - E.toInt * Q i).natAbs ≤ 41472
      omega
    have wb := wo_b Fb (fun i => (Qs i).1)
    have u3 : ∀ i, (e i * nI P - E * nI (Q i)).toInt = (e i).toInt * P - E.toInt * Q i := fun i => u32 (eb i).1 (eb i).2 (by omega) (by omega) hP (Qs i).1
    have u6 : ∀ i, ((e i).toInt64 * lN P - E.toInt64 * lN (Q i)).toInt = (e i).toInt * P - E.toInt * Q i := fun i => u64 (eb i).1 (eb i).2 (by omega) (by omega) hP (Qs i).1
    have f6 : ∀ i, (if 0 < ((e i).toInt64 * lN P - E.toInt64 * lN (Q i)) then ((e i).toInt64 * lN P - E.toInt64 * lN (Q i)) else -((e i).toInt64 * lN P - E.toInt64 * lN (Q i))) = lN (F i) := fun i => by
      have := Fb i
      rw [abs64 (by rw [u6]; have : ((e i).toInt * P - E.toInt * Q i).natAbs ≤ 41472 := this; omega) (by rw [u6]; have : ((e i).toInt * P - E.toInt * Q i).natAbs ≤ 41472 := this; omega), u6]
    show f_X2_leftOut N (nI n) p a b _
    unfold f_X2_leftOut
    show f_X2_peopleOf N (nI n) p (aB n) _
    refine e_peopleOf hn hN ?_
    show f_X2_excessOf N (nI n) a b (aB n) _
    refine e_excessOf hn hN ?_
    rw [eP, hEA]
    refine lq4 (f_X2_leftOut_L31 N (nI n) p a b (nI P) E _) (fun K' x y z w => f_X2_leftOut_B31 N (nI n) p a b (nI P) E K' _ x y z w) (fun _ _ _ _ _ => Iff.rfl) (fun i => nI (wo F Q i).1) (fun i => if i = 0 then -1 else lN (wo F Q i).2.1) (fun i => if i = 0 then 1 else lN (wo F Q i).2.2) nI n (fun i hi K' hK' => ?_) (fun K' => ?_) N (by omega)
    · unfold f_X2_leftOut_B31 f_X2_leftOut_J108
      refine il_f hi (by omega) (e_all ?_)
      rw [eZ i (by omega)]
      refine nmi (e_peopleOf hn hN ?_)
      rw [(Qs i).2.2]
      refine nmi (e_excessOf hn hN ?_)
      have hq := Qs i
      have hf := Fb i
      have hw := wb i
      rw [nI_l (by omega), nI_l (by omega)]
      show nm (if 0 < ((e i).toInt64 * lN P - E.toInt64 * lN (Q i)) then ((e i).toInt64 * lN P - E.toInt64 * lN (Q i)) else -((e i).toInt64 * lN P - E.toInt64 * lN (Q i))) _
      rw [f6 i]
      refine nmi ?_
      simp only [if_neg (Nat.succ_ne_zero i)] at hK'
      by_cases z : i = 0
      · simp only [if_pos z]
        refine im (fun w => neg1 (by omega) hq.2.1 (by omega) ((lg_cmp_le _ _).mp w)) (nmi ?_)
        simp only [wo, if_pos (Or.inl z : i = 0 ∨ ¬ F i * (wo F Q i).2.2 ≤ (wo F Q i).2.1 * Q i)] at hK'
        rw [nI_1]; exact hK'
      · simp only [if_neg z]
        refine is_ (fun w => nmi ?_) (fun w => nmi ?_)
        · have w' := (lmul_le (by omega) (by omega) (by omega) (by omega)).mp ((lg_cmp_le _ _).mp w)
          simp only [wo, if_neg (show ¬ (i = 0 ∨ ¬ F i * (wo F Q i).2.2 ≤ (wo F Q i).2.1 * Q i) from fun y => y.elim z (fun y => y w'))] at hK'
          rw [nI_1]; exact hK'
        · have w' : ¬ F i * (wo F Q i).2.2 ≤ (wo F Q i).2.1 * Q i := fun y => w ((lg_cmp_le _ _).mpr ((lmul_le (by omega) (by omega) (by omega) (by omega)).mpr y))
          simp only [wo, if_pos (Or.inr w' : i = 0 ∨ ¬ F i * (wo F Q i).2.2 ≤ (wo F Q i).2.1 * Q i)] at hK'
          rw [nI_1]; exact hK'
    · unfold f_X2_leftOut_B31
      refine il_t (Nat.le_refl n) (by omega) ?_
      refine lqi (A := Int32 × Int64 × Int64 × Int32 × Int32 × Int32) (fun m x => f_X6_without_L18 N s _ m x.1 x.2.1 x.2.2.1 x.2.2.2.1 x.2.2.2.2.1 x.2.2.2.2.2) (fun K' x => f_X6_without_B18 N s (fun a b c d e f => K' (a, b, c, d, e, f)) _ x.1 x.2.1 x.2.2.1 x.2.2.2.1 x.2.2.2.2.1 x.2.2.2.2.2) (fun _ _ => Iff.rfl) (fun i x => x.1 = (if i = 0 then -9 else nI (wo F Q i).1) ∧ x.2.1 = (if i = 0 then -1 else lN (wo F Q i).2.1) ∧ x.2.2.1 = (if i = 0 then 1 else lN ((wo F Q i).2.2 * P)) ∧ x.2.2.2.1 = nI i) n (fun i hi x hx K' hK' => ?_) (fun x hx K' => ?_) N (by omega) (-9, -1, 1, 0, u0, d0) ⟨rfl, rfl, rfl, rfl⟩
      · obtain ⟨x1, x2, x3, x4, x5, x6⟩ := x
        obtain ⟨h1, h2, h3, h4⟩ := hx
        simp only at h1 h2 h3 h4
        subst h1; subst h2; subst h3; subst h4
        show f_X6_without_B18 N s _ _ _ _ _ (nI i) x5 x6
        unfold f_X6_without_B18 f_X6_without_J131
        rw [cl0, hs]
        refine il_f hi (by omega) (il_f (b := 1) (by omega) (by omega) ?_)
        unfold f_X6_everyHouse
        rw [cl0, hs]
        have hq := Qs i
        have hf := Fb i
        have hw := wb i
        have hPQ : Q i * P ≤ 144 * 144 := Nat.mul_le_mul hq.1 hP
        have hWP : (wo F Q i).2.2 * P ≤ 144 * 144 := Nat.mul_le_mul hw.2 hP
        have body : ∀ (r8 r12 : Int32), f_X6_size N ((e i * nI P) - (E * nI (Q i))) (fun r15 : Int32 => nm r15.toInt64 (fun v16 : Int64 => nm ((nI (Q i)).toInt64 * (nI P).toInt64) (fun v17 : Int64 => (if (lg_cmp (v16 * (if i = 0 then 1 else lN ((wo F Q i).2.2 * P))) ((if i = 0 then -1 else lN (wo F Q i).2.1) * v17)) ≤ 0 then nm (nI i + 1) (fun v21 : Int32 => K' ((if i = 0 then -9 else nI (wo F Q i).1), (if i = 0 then -1 else lN (wo F Q i).2.1), (if i = 0 then 1 else lN ((wo F Q i).2.2 * P)), v21, e i, nI (Q i))) else nm (nI i + 1) (fun v21 : Int32 => K' (nI i, v16, v17, v21, e i, nI (Q i))))))) := by
          intro _ _
          refine e_msize (by rw [u3]; have : ((e i).toInt * P - E.toInt * Q i).natAbs ≤ 41472 := hf; omega) ?_
          rw [u3]
          show nm (nI (F i)).toInt64 _
          rw [nI_l (by omega), nI_l (by omega), nI_l (by omega), lN_mul, nI_1]
          refine nmi (nmi ?_)
          by_cases z : i = 0
          · simp only [if_pos z]
            refine im (fun w => neg1 (by omega) (Nat.mul_pos hq.2.1 P0) (by omega) ((lg_cmp_le _ _).mp w)) (nmi (hK' _ ?_))
            simp only [wo, if_pos (Or.inl z : i = 0 ∨ ¬ F i * (wo F Q i).2.2 ≤ (wo F Q i).2.1 * Q i), if_neg (Nat.succ_ne_zero i)]
            exact ⟨trivial, trivial, trivial, trivial⟩
          · simp only [if_neg z]
            have lift : F i * ((wo F Q i).2.2 * P) ≤ (wo F Q i).2.1 * (Q i * P) ↔ F i * (wo F Q i).2.2 ≤ (wo F Q i).2.1 * Q i := by
              rw [← Nat.mul_assoc, ← Nat.mul_assoc]
              exact ⟨fun y => Nat.le_of_mul_le_mul_right y P0, fun y => Nat.mul_le_mul_right P y⟩
            refine is_ (fun w => nmi (hK' _ ?_)) (fun w => nmi (hK' _ ?_))
            · have w' := lift.mp ((lmul_le (by omega) (by omega) (by omega) (by omega)).mp ((lg_cmp_le _ _).mp w))
              simp only [wo, if_neg (show ¬ (i = 0 ∨ ¬ F i * (wo F Q i).2.2 ≤ (wo F Q i).2.1 * Q i) from fun y => y.elim z (fun y => y w')), if_neg (Nat.succ_ne_zero i)]
              exact ⟨trivial, trivial, trivial, trivial⟩
            · have w' : ¬ F i * (wo F Q i).2.2 ≤ (wo F Q i).2.1 * Q i := fun y => w ((lg_cmp_le _ _).mpr ((lmul_le (by omega) (by omega) (by omega) (by omega)).mpr (lift.mpr y)))
              simp only [wo, if_pos (Or.inr w' : i = 0 ∨ ¬ F i * (wo F Q i).2.2 ≤ (wo F Q i).2.1 * Q i), if_neg (Nat.succ_ne_zero i)]
              exact ⟨trivial, trivial, trivial, trivial⟩
        have inner : ∀ r8 : Int32, f_X6_counts N s (aB n &&& ((1 <<< (nI i &&& 31)) ^^^ (-1))) (fun (r12 : Int32) (u13 : Int32) (u14 : Int32) => f_X6_size N ((u13 * nI P) - (E * u14)) (fun r15 : Int32 => nm r15.toInt64 (fun v16 : Int64 => nm (u14.toInt64 * (nI P).toInt64) (fun v17 : Int64 => (if (lg_cmp (v16 * (if i = 0 then 1 else lN ((wo F Q i).2.2 * P))) ((if i = 0 then -1 else lN (wo F Q i).2.1) * v17)) ≤ 0 then nm (nI i + 1) (fun v21 : Int32 => K' ((if i = 0 then -9 else nI (wo F Q i).1), (if i = 0 then -1 else lN (wo F Q i).2.1), (if i = 0 then 1 else lN ((wo F Q i).2.2 * P)), v21, u13, u14)) else nm (nI i + 1) (fun v21 : Int32 => K' (nI i, v16, v17, v21, u13, u14))))))) := by
          intro r8
          rw [eZ i (by omega)]
          refine e_counts hJ hN (fun _ => ?_) (fun _ => ?_)
          · rw [hq.2.2]; exact body r8 0
          · rw [hq.2.2]; exact body r8 1
        refine e_counts hJ hN (fun _ => ?_) (fun _ => ?_)
        · rw [eP, hEA]; exact inner 0
        · rw [eP, hEA]; exact inner 1
      · obtain ⟨x1, x2, x3, x4, x5, x6⟩ := x
        obtain ⟨h1, h2, h3, h4⟩ := hx
        simp only at h1 h2 h3 h4
        subst h1; subst h2; subst h3; subst h4
        show f_X6_without_B18 N s _ _ _ _ _ (nI n) x5 x6
        unfold f_X6_without_B18
        rw [cl0, hs]
        refine il_t (Nat.le_refl n) (by omega) ?_
        rw [if_neg (show n ≠ 0 by omega)]
        exact hK _ _ _
