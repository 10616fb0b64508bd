/-! can; same; how many are alike. -/
abbrev cQ (x1 x2 : Int32) (i : Nat) : Prop := (((200 * nI i) + x2) / (2 * x2)) = x1
def cA (x1 x2 : Int32) : Nat → Int32
  | 0 => 0
  | i + 1 => cA x1 x2 i ||| (if cQ x1 x2 i then 1 else 0)
theorem cA_01 (x1 x2 : Int32) : ∀ i, (cA x1 x2 i = 0 ∧ ∀ k, k < i → ¬ cQ x1 x2 k) ∨ (cA x1 x2 i = 1 ∧ ∃ k, k < i ∧ cQ x1 x2 k)
  | 0 => Or.inl ⟨rfl, fun k hk => absurd hk (by omega)⟩
  | i + 1 => by
    have ih := cA_01 x1 x2 i
    rw [cA]
    by_cases q : cQ x1 x2 i
    · rw [if_pos q]
      refine Or.inr ⟨?_, i, by omega, q⟩
      rcases ih with ⟨h, -⟩ | ⟨h, -⟩ <;> rw [h] <;> decide
    · rw [if_neg q]
      rcases ih with ⟨h, h2⟩ | ⟨h, k, h2, h3⟩
      · refine Or.inl ⟨by rw [h]; decide, fun k hk => ?_⟩
        rcases Nat.lt_or_ge k i with w | w
        · exact h2 k w
        · have : k = i := by omega
          subst this; exact q
      · exact Or.inr ⟨by rw [h]; decide, k, by omega, h3⟩
theorem p_can {N : Nat} (hN : 5000 ≤ N) {x1 x2 : Int32} {k : Int32 → Int32 → Int32 → Prop} (hk : ∀ r, k r r 0) : f_X5_can N x1 x2 (fun r => f_X6_can N x1 x2 (fun r2 t => k r r2 t)) := by
  have bad : ¬ ((0 ≤ x1 ∧ x1 ≤ 100) ∧ (1 ≤ x2 ∧ x2 ≤ 99)) → f_X6_can N x1 x2 (fun r2 t => k (-1) r2 t) := by
    intro q
    unfold f_X6_can
    exact e_in (fun a1 a2 => im n10 (e_in (fun a3 a4 => absurd ⟨⟨a1, a2⟩, a3, a4⟩ q) (fun _ => im n00 (hk _)))) (fun _ => ip rfl (hk _))
  unfold f_X5_can
  refine e_within (fun a1 a2 => im n10 (e_within (fun a3 a4 => ip n10 ?_) (fun q => im n00 (bad (fun z => q z.2))))) (fun q => ip rfl (bad (fun z => q z.1)))
  obtain ⟨n, hn, e⟩ := i32_in (n := 99) (by omega) (Int32.le_trans (by decide) a3) a4
  have hn1 : 1 ≤ n := by rw [e] at a3; exact (nI_leI (a := 1) (by omega) (by omega)).mp a3
  have hd : ¬ (2 * x2) = 0 := by
    rw [e]
    show ¬ nI 2 * nI n = 0
    rw [pk_mul]
    exact ne0_nI (by omega) (by omega)
  have fin : ∀ r : Int32, ((r = 0 ∧ ∀ k, k < n + 1 → ¬ cQ x1 x2 k) ∨ (r = 1 ∧ ∃ k, k < n + 1 ∧ cQ x1 x2 k)) → f_X6_can N x1 x2 (fun r2 t => k r r2 t) := by
    intro r hr
    unfold f_X6_can
    refine e_in (fun _ _ => im n10 (e_in (fun _ _ => ip n10 ?_) (fun q => absurd ⟨a3, a4⟩ q))) (fun q => absurd ⟨a1, a2⟩ q)
    refine lq2 (f_X6_can_L32 N x1 x2 (fun o8 o9 => (if o8 = 0 then k r 0 0 else k r 1 0))) (fun K a b => f_X6_can_B32 N x1 x2 K (fun o8 o9 => (if o8 = 0 then k r 0 0 else k r 1 0)) a b) (fun _ _ _ => Iff.rfl) (fun i => cA x1 x2 i) nI (n + 1) (fun i hi K hK => ?_) (fun K => ?_) N (by omega)
    · unfold f_X6_can_B32 f_X6_can_J60
      rw [cA] at hK
      refine im (by rw [e]; exact nI_nlt (by omega) (by omega)) ⟨hd, is_ (fun q => ?_) (fun q => ?_)⟩
      · rw [if_neg q] at hK
        show K _ (nI i + 1)
        rw [nI_1]; exact hK
      · rw [if_pos (Classical.not_not.mp q)] at hK
        show K _ (nI i + 1)
        rw [nI_1]; exact hK
    · unfold f_X6_can_B32
      refine ip (by rw [e]; exact nI_lt (by omega) (by omega)) ?_
      rcases hr with ⟨r0, hr⟩ | ⟨r1, w, hw, hr⟩
      · rcases cA_01 x1 x2 (n + 1) with ⟨h, -⟩ | ⟨-, w, hw, h⟩
        · exact ip h (by rw [r0]; exact hk 0)
        · exact absurd h (hr w hw)
      · rcases cA_01 x1 x2 (n + 1) with ⟨-, h⟩ | ⟨h, -⟩
        · exact absurd hr (h w hw)
        · exact im (by rw [h]; decide) (by rw [r1]; exact hk 1)
  by_cases hex : ∃ w, w < n + 1 ∧ cQ x1 x2 w
  · obtain ⟨w, ⟨hw, hq⟩, hl⟩ := pk_least (fun w => w < n + 1 ∧ cQ x1 x2 w) hex
    refine lq1 (f_X5_can_L24 N x1 x2 (fun r => f_X6_can N x1 x2 (fun r2 t => k r r2 t))) (fun K a => f_X5_can_B24 N x1 x2 (fun r => f_X6_can N x1 x2 (fun r2 t => k r r2 t)) K a) (fun _ _ => Iff.rfl) nI w (fun i hi K hK => ?_) (fun K => ?_) N (by omega)
    · unfold f_X5_can_B24
      refine im (by rw [e]; exact nI_nlt (by omega) (by omega)) ⟨hd, ip (fun q => hl i hi ⟨by omega, q⟩) (nmi ?_)⟩
      rw [nI_1]; exact hK
    · unfold f_X5_can_B24
      exact im (by rw [e]; exact nI_nlt (by omega) (by omega)) ⟨hd, im (fun q => q hq) (fin 1 (Or.inr ⟨rfl, hex⟩))⟩
  · have hno : ∀ w, w < n + 1 → ¬ cQ x1 x2 w := fun w hw q => hex ⟨w, hw, q⟩
    refine lq1 (f_X5_can_L24 N x1 x2 (fun r => f_X6_can N x1 x2 (fun r2 t => k r r2 t))) (fun K a => f_X5_can_B24 N x1 x2 (fun r => f_X6_can N x1 x2 (fun r2 t => k r r2 t)) K a) (fun _ _ => Iff.rfl) nI (n + 1) (fun i hi K hK => ?_) (fun K => ?_) N (by omega)
    · unfold f_X5_can_B24
      refine im (by rw [e]; exact nI_nlt (by omega) (by omega)) ⟨hd, ip (hno i hi) (nmi ?_)⟩
      rw [nI_1]; exact hK
    · unfold f_X5_can_B24
      exact ip (by rw [e]; exact nI_lt (by omega) (by omega)) (fin 0 (Or.inl ⟨rfl, hno⟩))
/-! counts -/
def ct (f : Nat → Bool) : Nat → Nat
  | 0 => 0
  | n + 1 => ct f n + (if f n then 1 else 0)
def sN (f : Nat → Nat) : Nat → Nat
  | 0 => 0
  | n + 1 => sN f n + f n
theorem ct_le (f : Nat → Bool) : ∀ n, ct f n ≤ n
  | 0 => Nat.le_refl 0
  | n + 1 => by have := ct_le f n; rw [ct]; split <;> omega
theorem ct_cong {f g : Nat → Bool} : ∀ {n : Nat}, (∀ i, i < n → f i = g i) → ct f n = ct g n
  | 0, _ => rfl
  | n + 1, h => by rw [ct, ct, ct_cong (fun i hi => h i (by omega)), h n (by omega)]
theorem sN_cong {f g : Nat → Nat} : ∀ {n : Nat}, (∀ i, i < n → f i = g i) → sN f n = sN g n
  | 0, _ => rfl
  | n + 1, h => by rw [sN, sN, sN_cong (fun i hi => h i (by omega)), h n (by omega)]
theorem sN_add (f g : Nat → Nat) : ∀ n, sN (fun i => f i + g i) n = sN f n + sN g n
  | 0 => rfl
  | n + 1 => by rw [sN, sN, sN, sN_add f g n]; omega
theorem sN_ct (f : Nat → Bool) : ∀ n, sN (fun i => if f i then 1 else 0) n = ct f n
  | 0 => rfl
  | n + 1 => by rw [sN, ct, sN_ct f n]
theorem ct_pos {f : Nat → Bool} {i : Nat} : ∀ {n : Nat}, i < n → f i = true → 1 ≤ ct f n
  | 0, h, _ => absurd h (by omega)
  | n + 1, h, q => by
    rw [ct]
    rcases Nat.lt_or_ge i n with w | w
    · have := ct_pos w q; omega
    · have : i = n := by omega
      subst this; rw [q]; simp
theorem pairs_sum (R : Nat → Nat → Bool) (hs : ∀ i j, R i j = R j i) (hr : ∀ i, R i i = true) : ∀ n, sN (fun i => ct (R i) n) n = n + 2 * sN (fun i => ct (R i) i) n
  | 0 => rfl
  | n + 1 => by
    have ih := pairs_sum R hs hr n
    have e1 : sN (fun i => ct (R i) (n + 1)) n = sN (fun i => ct (R i) n) n + ct (R n) n := by
      rw [show (fun i => ct (R i) (n + 1)) = (fun i => ct (R i) n + (if R i n then 1 else 0)) from rfl, sN_add, sN_ct]
      exact congrArg (fun z => _ + z) (ct_cong (fun i _ => hs i n))
    rw [sN, e1, ih, sN, ct, hr]
    simp
    omega
theorem sum_less {f : Nat → Nat} : ∀ {n : Nat}, (∀ i, i < n → 1 ≤ f i) → sN (fun i => f i - 1) n + n = sN f n
  | 0, _ => rfl
  | n + 1, h => by
    have := sum_less (n := n) (fun i hi => h i (by omega))
    have := h n (by omega)
    rw [sN, sN]; omega
theorem sN_bound {f : Nat → Nat} {c : Nat} : ∀ {n : Nat}, (∀ i, i < n → f i ≤ c) → sN f n ≤ n * c
  | 0, _ => by rw [sN]; omega
  | n + 1, h => by
    have := sN_bound (n := n) (c := c) (fun i hi => h i (by omega))
    have := h n (by omega)
    rw [sN, Nat.add_mul]; omega
def al (p a b : Nat → Int32) (i j : Nat) : Bool := decide (p i = p j) && (decide (a i = a j) && decide (b i = b j))
theorem al_s (p a b : Nat → Int32) (i j : Nat) : al p a b i j = al p a b j i := by
  unfold al
  rw [decide_eq_decide.mpr (eq_comm (a := p i)), decide_eq_decide.mpr (eq_comm (a := a i)), decide_eq_decide.mpr (eq_comm (a := b i))]
theorem al_r (p a b : Nat → Int32) (i : Nat) : al p a b i i = true := by simp [al]
theorem e_areAlike {N i j : Nat} {p a b : Nat → Int32} {post : Int32 → Prop} (hi : i < 12) (hj : j < 12) (h1 : al p a b i j = true → post 1) (h0 : al p a b i j = false → post 0) : f_X2_areAlike N p a b (nI i) (nI j) post := by
  have vi : vp_in (nI i) 12 := vpn hi (by omega)
  have vj : vp_in (nI j) 12 := vpn hj (by omega)
  unfold f_X2_areAlike
  rw [nI_clamp (by omega), nI_clamp (by omega)]
  refine ⟨vi, vj, is_ (fun q => h0 (by simp [al, q])) (fun q => ⟨vi, vj, is_ (fun q2 => h0 (by simp [al, q2])) (fun q2 => ⟨vi, vj, is_ (fun q3 => h0 (by simp [al, q3])) (fun q3 => h1 ?_)⟩)⟩)⟩
  simp [al, Classical.not_not.mp q, Classical.not_not.mp q2, Classical.not_not.mp q3]
theorem e_isSame {N n i j : Nat} {p a b c s : Nat → Int32} {post : Int32 → Prop} (hJ : JH n p a b c s) (hi : i < n) (hj : j < n) (h1 : al p a b i j = true → post 1) (h0 : al p a b i j = false → post 0) : f_X6_isSame N s (nI i) (nI j) post := by
  have hn := hJ.1
  have zi := (hJ.2.2 i hi).1
  have zj := (hJ.2.2 j hj).1
  unfold f_X6_isSame
  refine e_of (w := 0) (by omega) (by omega) (e_of (w := 0) (by omega) (by omega) ?_)
  rw [zi.1, zj.1]
  refine is_ (fun q => h0 (by simp [al, q])) (fun q => e_of (w := 1) (by omega) (by omega) (e_of (w := 1) (by omega) (by omega) ?_))
  rw [zi.2.1, zj.2.1]
  refine is_ (fun q2 => h0 (by simp [al, q2])) (fun q2 => e_of (w := 2) (by omega) (by omega) (e_of (w := 2) (by omega) (by omega) ?_))
  rw [zi.2.2.1, zj.2.2.1]
  refine is_ (fun q3 => h0 (by simp [al, q3])) (fun q3 => h1 ?_)
  simp [al, Classical.not_not.mp q, Classical.not_not.mp q2, Classical.not_not.mp q3]
theorem ct_t {f : Nat → Bool} {i : Nat} (h : f i = true) : nI (ct f i) + 1 = nI (ct f (i + 1)) := by rw [nI_1, ct, h]; rfl
theorem ct_f {f : Nat → Bool} {i : Nat} (h : f i = false) : nI (ct f i) + 0 = nI (ct f (i + 1)) := by rw [Int32.add_zero, ct, h]; simp
theorem e_alikeTo {N n i : Nat} {p a b : Nat → Int32} {post : Int32 → Prop} (hN : 5000 ≤ N) (hn : n ≤ 12) (hi : i < 12) (h : post (nI (ct (al p a b i) n))) : f_X2_alikeTo N (nI n) p a b (nI i) post := by
  refine lq2 (f_X2_alikeTo_L4 N (nI n) p a b (nI i) (fun o7 o8 => post o7)) (fun K u v => f_X2_alikeTo_B4 N (nI n) p a b (nI i) K (fun o7 o8 => post o7) u v) (fun _ _ _ => Iff.rfl) (fun j => nI (ct (al p a b i) j)) nI n (fun j hj K hK => ?_) (fun K => ?_) N (by omega)
  · unfold f_X2_alikeTo_B4 f_X2_alikeTo_J27
    refine il_f hj (by omega) (e_areAlike hi (by omega) (fun q => im n10 ?_) (fun q => ip rfl ?_))
    · show K (nI (ct (al p a b i) j) + 1) (nI j + 1)
      rw [ct_t q, nI_1]; exact hK
    · show K (nI (ct (al p a b i) j) + 0) (nI j + 1)
      rw [ct_f q, nI_1]; exact hK
  · unfold f_X2_alikeTo_B4
    exact il_t (Nat.le_refl n) (by omega) h
theorem e_alikePairs {N n : Nat} {p a b : Nat → Int32} {post : Int32 → Prop} (hN : 5000 ≤ N) (hn : n ≤ 12) (h : post (nI (sN (fun i => ct (al p a b i) i) n))) : f_X2_alikePairs N (nI n) p a b post := by
  have h1 : ∀ i, i < n → 1 ≤ ct (al p a b i) n := fun i hi => ct_pos hi (al_r p a b i)
  have key : sN (fun i => ct (al p a b i) n - 1) n = 2 * sN (fun i => ct (al p a b i) i) n := by
    have e1 := pairs_sum (al p a b) (al_s p a b) (al_r p a b) n
    have e2 := sum_less h1
    omega
  have hb : sN (fun i => ct (al p a b i) n - 1) n ≤ n * 12 := sN_bound (fun i _ => by have := ct_le (al p a b i) n; omega)
  refine lq2 (f_X2_alikePairs_L4 N (nI n) p a b (fun o6 o7 => post (o6 / 2))) (fun K u v => f_X2_alikePairs_B4 N (nI n) p a b K (fun o6 o7 => post (o6 / 2)) u v) (fun _ _ _ => Iff.rfl) (fun j => nI (sN (fun i => ct (al p a b i) n - 1) j)) nI n (fun j hj K hK => ?_) (fun K => ?_) N (by omega)
  · unfold f_X2_alikePairs_B4
    refine il_f hj (by omega) (e_alikeTo hN hn (by omega) ?_)
    show K _ (nI j + 1)
    rw [nI_1, sub1 (h1 j hj), nI_add]; exact hK
  · unfold f_X2_alikePairs_B4
    refine il_t (Nat.le_refl n) (by omega) ?_
    show post (nI (sN (fun i => ct (al p a b i) n - 1) n) / nI 2)
    rw [pk_div (by omega) (by omega) (by omega), key, Nat.mul_div_cancel_left _ (by omega)]
    exact h
theorem e_msame {N n : Nat} {p a b c s : Nat → Int32} {post : Int32 → Int32 → Prop} (hN : 5000 ≤ N) (hJ : JH n p a b c s) (h : post (nI (sN (fun i => ct (al p a b i) i) n)) 0) : f_X6_same N s post := by
  have hn := hJ.1
  have hs := hJ.2.1
  refine lq2 (f_X6_same_L9 N s (fun o12 o13 => post o12 0)) (fun K u v => f_X6_same_B9 N s K (fun o12 o13 => post o12 0) u v) (fun _ _ _ => Iff.rfl) (fun j => nI (sN (fun i => ct (al p a b i) i) j)) nI n (fun j hj K hK => ?_) (fun K => ?_) N (by omega)
  · unfold f_X6_same_B9
    rw [cl0, hs]
    refine il_f hj (by omega) ?_
    refine lq2 (f_X6_same_L21 N s (nI j) (fun o9 o10 => nm (nI j + 1) (fun v11 => K o9 v11))) (fun K2 u v => f_X6_same_B21 N s (nI j) K2 (fun o9 o10 => nm (nI j + 1) (fun v11 => K o9 v11)) u v) (fun _ _ _ => Iff.rfl) (fun i => nI (sN (fun i => ct (al p a b i) i) j + ct (al p a b j) i)) nI j (fun i hi K2 hK2 => ?_) (fun K2 => ?_) N (by omega)
    · unfold f_X6_same_B21 f_X6_same_J41
      refine il_f hi (by omega) (e_isSame hJ hj (by omega) (fun q => im n10 ?_) (fun q => ip rfl ?_))
      · show K2 _ (nI i + 1)
        rw [nI_1, nI_1]; rw [ct, q] at hK2; exact hK2
      · show K2 _ (nI i + 1)
        rw [nI_1, Int32.add_zero]; rw [ct, q] at hK2; exact hK2
    · unfold f_X6_same_B21
      refine il_t (Nat.le_refl j) (by omega) ?_
      show K _ (nI j + 1)
      rw [nI_1]; exact hK
  · unfold f_X6_same_B9
    rw [cl0, hs]
    exact il_t (Nat.le_refl n) (by omega) h
theorem p_same {N n : Nat} {p a b c s : Nat → Int32} (hJ : JH n p a b c s) (hN : 5000 ≤ N) {k : Int32 → Int32 → Int32 → Prop} (hk : ∀ r, k r r 0) : f_X5_same N (nI n) p a b (fun r => f_X6_same N s (fun r2 t => k r r2 t)) :=
  e_alikePairs hN hJ.1 (e_msame hN hJ (hk _))
