/-! Sums over sets of houses; least terms; more. -/
abbrev bP (x : Int32) (i : Nat) : Prop := ((x >>> (nI i &&& 31)) &&& 1) = 1
def gS (f : Nat → Int32) (x : Int32) (i : Nat) : Int32 := if bP x i then f i else 0
def oS (f : Nat → Int32) (x : Int32) (n : Nat) : Int32 := sI (gS f x) n
theorem gS_t {f : Nat → Int32} {x : Int32} {i : Nat} (h : bP x i) : gS f x i = f i := if_pos h
theorem gS_f {f : Nat → Int32} {x : Int32} {i : Nat} (h : ¬ bP x i) : gS f x i = 0 := if_neg h
theorem oS_t {f : Nat → Int32} {x : Int32} {i : Nat} (h : bP x i) : oS f x i + f i = oS f x (i + 1) := by show _ = sI _ i + gS f x i; rw [gS_t h]; rfl
theorem oS_f {f : Nat → Int32} {x : Int32} {i : Nat} (h : ¬ bP x i) : oS f x i = oS f x (i + 1) := by show _ = sI _ i + gS f x i; rw [gS_f h, Int32.add_zero]; rfl
theorem e_peopleOf {N n : Nat} {p : Nat → Int32} {x : Int32} {post : Int32 → Prop} (hn : n ≤ 12) (hN : 5000 ≤ N) (h : post (oS p x n)) : f_X2_peopleOf N (nI n) p x post := by
  refine lq2 (f_X2_peopleOf_L4 N (nI n) p x (fun o6 o7 => post o6)) (fun K a b => f_X2_peopleOf_B4 N (nI n) p x K (fun o6 o7 => post o6) a b) (fun _ _ _ => Iff.rfl) (fun i => oS p x i) nI n (fun i hi K hK => ?_) (fun K => ?_) N (by omega)
  · unfold f_X2_peopleOf_B4 f_X2_peopleOf_J30
    refine il_f hi (by omega) (is_ (fun q => ?_) (fun q => ?_))
    · show K _ (nI i + 1)
      rw [nI_1, oS_f q]; exact hK
    · refine ⟨vpn (by omega) (by omega), nmi (nmi ?_)⟩
      rw [nI_clamp (by omega), nI_1, oS_t (Classical.not_not.mp q)]; exact hK
  · unfold f_X2_peopleOf_B4
    exact il_t (Nat.le_refl n) (by omega) h
theorem e_excessOf {N n : Nat} {a b : Nat → Int32} {x : Int32} {post : Int32 → Prop} (hn : n ≤ 12) (hN : 5000 ≤ N) (h : post (oS (fun i => a i - b i) x n)) : f_X2_excessOf N (nI n) a b x post := by
  refine lq2 (f_X2_excessOf_L4 N (nI n) a b x (fun o6 o7 => post o6)) (fun K a' b' => f_X2_excessOf_B4 N (nI n) a b x K (fun o6 o7 => post o6) a' b') (fun _ _ _ => Iff.rfl) (fun i => oS (fun i => a i - b i) x i) nI n (fun i hi K hK => ?_) (fun K => ?_) N (by omega)
  · unfold f_X2_excessOf_B4 f_X2_excessOf_J37
    refine il_f hi (by omega) (is_ (fun q => ?_) (fun q => ?_))
    · show K _ (nI i + 1)
      rw [nI_1, oS_f q]; exact hK
    · refine ⟨vpn (by omega) (by omega), vpn (by omega) (by omega), nmi (nmi ?_)⟩
      rw [nI_clamp (by omega), nI_1, show a i - b i = (fun i => a i - b i) i from rfl, oS_t (Classical.not_not.mp q)]; exact hK
  · unfold f_X2_excessOf_B4
    exact il_t (Nat.le_refl n) (by omega) h
/-- what a set's people are, as a number -/
theorem oS_num {n : Nat} {p : Nat → Int32} (hp : ∀ i, i < n → 1 ≤ p i ∧ p i ≤ 12) (x : Int32) : ∃ v : Nat, v ≤ 12 * n ∧ oS p x n = nI v ∧ (v = 0 ↔ ∀ i, i < n → ¬ bP x i) := by
  induction n with
  | zero => exact ⟨0, by omega, rfl, fun _ i hi => absurd hi (by omega), fun _ => rfl⟩
  | succ n ih =>
    obtain ⟨v, h1, h2, h3⟩ := ih (fun i hi => hp i (by omega))
    by_cases q : bP x n
    · obtain ⟨j, hj, e⟩ := i32_in (x := p n) (n := 12) (by omega) (Int32.le_trans (show (0 : Int32) ≤ 1 by decide) (hp n (by omega)).1) (hp n (by omega)).2
      have hj1 : 1 ≤ j := by
        have z := (hp n (by omega)).1
        rw [e] at z
        exact (nI_leI (a := 1) (by omega) (by omega)).mp z
      refine ⟨v + j, by omega, ?_, fun z => absurd z (by omega), fun z => absurd q (z n (by omega))⟩
      rw [← oS_t q, h2, e, nI_add]
    · refine ⟨v, by omega, by rw [← oS_f q, h2], fun z i hi => ?_, fun z => h3.mpr (fun i hi => z i (by omega))⟩
      rcases Nat.lt_or_ge i n with w | w
      · exact h3.mp z i w
      · have : i = n := by omega
        subst this; exact q
theorem JH.pb {n : Nat} {p a b c s : Nat → Int32} (h : JH n p a b c s) : ∀ i, i < n → 1 ≤ p i ∧ p i ≤ 12 := fun i hi => ⟨(h.2.2 i hi).2.1, (h.2.2 i hi).2.2.1⟩
theorem e_counts {N n : Nat} {p a b c s : Nat → Int32} {x : Int32} {post : Int32 → Int32 → Int32 → Prop} (hJ : JH n p a b c s) (hN : 5000 ≤ N) (h0 : oS p x n = 0 → post 0 (oS (fun i => a i - b i) x n) (oS p x n)) (h1 : ¬ oS p x n = 0 → post 1 (oS (fun i => a i - b i) x n) (oS p x n)) : f_X6_counts N s x post := by
  obtain ⟨hn, hs, hh⟩ := id hJ
  have fin : (if oS p x n ≤ 0 then post 0 (oS (fun i => a i - b i) x n) (oS p x n) else post 1 (oS (fun i => a i - b i) x n) (oS p x n)) := by
    obtain ⟨v, hv, e, -⟩ := oS_num hJ.pb x
    refine is_ (fun q => h0 ?_) (fun q => h1 (fun z => q (by rw [z]; decide)))
    rw [e] at q ⊢
    have : v ≤ 0 := (nI_leI (b := 0) (by omega) (by omega)).mp q
    rw [show v = 0 by omega]; rfl
  refine lq3 (f_X6_counts_L12 N s x (fun o12 o13 o14 => (if o14 ≤ 0 then post 0 o13 o14 else post 1 o13 o14))) (fun K i u d => f_X6_counts_B12 N s x K (fun o12 o13 o14 => (if o14 ≤ 0 then post 0 o13 o14 else post 1 o13 o14)) i u d) (fun _ _ _ _ => Iff.rfl) nI (fun i => oS (fun i => a i - b i) x i) (fun i => oS p x i) n (fun i hi K hK => ?_) (fun K => ?_) N (by omega)
  · unfold f_X6_counts_B12 f_X6_counts_J68
    rw [cl0, hs]
    have z := (hh i hi).1
    refine il_f hi (by omega) (is_ (fun q => ?_) (fun q => ?_))
    · show K (nI i + 1) _ _
      rw [nI_1, oS_f q, oS_f q]; exact hK
    · have q' := Classical.not_not.mp q
      refine e_of (w := 1) (by omega) (by omega) (e_of (w := 2) (by omega) (by omega) (nmi (e_of (w := 0) (by omega) (by omega) (nmi (nmi ?_)))))
      rw [nI_1, z.1, z.2.1, z.2.2.1, oS_t q', oS_t q']; exact hK
  · unfold f_X6_counts_B12
    rw [cl0, hs]
    exact il_t (Nat.le_refl n) (by omega) fin
/-! the greatest common divisor -/
theorem gd_half {b c : Nat} (h : 0 < c) (hc : c < b) : 2 * (b % c) < b := by
  rcases Nat.lt_or_ge b (2 * c) with q | q
  · have e : b % c = b - c := by rw [Nat.mod_eq_sub_mod (by omega), Nat.mod_eq_of_lt (by omega)]
    omega
  · have := Nat.mod_lt b h
    omega
theorem rem_nI {a b : Nat} (ha : a < 2 ^ 31) (h0 : 0 < b) (hb : b < 2 ^ 31) : nI a - nI a / nI b * nI b = nI (a % b) := pk_rem ha h0 hb
theorem ne0_nI {b : Nat} (h : 0 < b) (hb : b < 2 ^ 31) : ¬ nI b = 0 := nI_ne0 h hb
theorem gd_stop {N a i fuel : Nat} {ke : Int32 → Int32 → Int32 → Prop} (hi : i < 64) (h : ∀ z w, ke (nI a) z w) : f_X5_greatestDivisor_L7 N ke (fuel + 1) (nI a) (nI 0) (nI i) := by
  show f_X5_greatestDivisor_B7 N _ ke (nI a) (nI 0) (nI i)
  unfold f_X5_greatestDivisor_B7
  exact il_f (a := 64) hi (by omega) (ip rfl (h _ _))
theorem gd_step {N a b i fuel : Nat} {ke : Int32 → Int32 → Int32 → Prop} (hi : i < 64) (ha : a < 2 ^ 31) (h0 : 0 < b) (hb : b < 2 ^ 31) (h : f_X5_greatestDivisor_L7 N ke fuel (nI b) (nI (a % b)) (nI (i + 1))) : f_X5_greatestDivisor_L7 N ke (fuel + 1) (nI a) (nI b) (nI i) := by
  show f_X5_greatestDivisor_B7 N _ ke (nI a) (nI b) (nI i)
  unfold f_X5_greatestDivisor_B7
  refine il_f (a := 64) hi (by omega) (im (ne0_nI h0 hb) ⟨ne0_nI h0 hb, nmi (nmi ?_)⟩)
  rw [rem_nI ha h0 hb, nI_1]
  exact h
theorem gd_loop {N : Nat} {ke : Int32 → Int32 → Int32 → Prop} : ∀ (k a b i fuel : Nat), b < 2 ^ k → a < 2 ^ 31 → b < 2 ^ 31 → i + 2 * k < 64 → 2 * k < fuel → (∀ z w, ke (nI (Nat.gcd a b)) z w) → f_X5_greatestDivisor_L7 N ke fuel (nI a) (nI b) (nI i) := by
  intro k
  induction k with
  | zero =>
    intro a b i fuel hb ha hb2 hi hf h
    obtain ⟨f, rfl⟩ : ∃ f, fuel = f + 1 := ⟨fuel - 1, by omega⟩
    have e : b = 0 := by omega
    subst e
    exact gd_stop (by omega) (by rw [Nat.gcd_zero_right] at h; exact h)
  | succ k ih =>
    intro a b i fuel hb ha hb2 hi hf h
    obtain ⟨f, rfl⟩ : ∃ f, fuel = f + 2 := ⟨fuel - 2, by omega⟩
    rcases Nat.eq_zero_or_pos b with e | e
    · subst e
      exact gd_stop (by omega) (by rw [Nat.gcd_zero_right] at h; exact h)
    · refine gd_step (by omega) ha e hb2 ?_
      have hlt := Nat.mod_lt a e
      rcases Nat.eq_zero_or_pos (a % b) with q | q
      · rw [q]
        refine gd_stop (by omega) ?_
        rw [Nat.gcd_comm, Nat.gcd_rec, q, Nat.gcd_zero_left] at h
        exact h
      · refine gd_step (by omega) hb2 q (by omega) ?_
        have := gd_half q hlt
        refine ih (a % b) (b % (a % b)) (i + 1 + 1) f (by rw [Nat.pow_succ] at hb; omega) (by omega) (by have := Nat.mod_lt b q; omega) (by omega) (by omega) ?_
        have e2 : Nat.gcd (a % b) (b % (a % b)) = Nat.gcd a b := by
          rw [Nat.gcd_comm (a % b), ← Nat.gcd_rec, ← Nat.gcd_rec b a, Nat.gcd_comm]
        rw [e2]; exact h
theorem e_gd {N a b : Nat} {post : Int32 → Prop} (hN : 5000 ≤ N) (ha : a < 2 ^ 31) (hb : b < 2 ^ 20) (h : post (nI (Nat.gcd a b))) : f_X5_greatestDivisor N (nI a) (nI b) post :=
  gd_loop 20 a b 0 N hb ha (by omega) (by omega) (by omega) (fun _ _ => h)
theorem mg_stop {N a fuel : Nat} {ke : Int32 → Int32 → Prop} (h : ∀ z, ke (nI a) z) : f_X6_gcd_L7 N ke (fuel + 1) (nI a) (nI 0) := by
  show f_X6_gcd_B7 N _ ke (nI a) (nI 0)
  unfold f_X6_gcd_B7
  exact ip rfl (h _)
theorem mg_step {N a b fuel : Nat} {ke : Int32 → Int32 → Prop} (ha : a < 2 ^ 31) (h0 : 0 < b) (hb : b < 2 ^ 31) (h : f_X6_gcd_L7 N ke fuel (nI b) (nI (a % b))) : f_X6_gcd_L7 N ke (fuel + 1) (nI a) (nI b) := by
  show f_X6_gcd_B7 N _ ke (nI a) (nI b)
  unfold f_X6_gcd_B7
  refine im (ne0_nI h0 hb) ⟨ne0_nI h0 hb, nmi ?_⟩
  rw [rem_nI ha h0 hb]
  exact h
theorem mg_loop {N : Nat} {ke : Int32 → Int32 → Prop} : ∀ (k a b fuel : Nat), b < 2 ^ k → a < 2 ^ 31 → b < 2 ^ 31 → 2 * k < fuel → (∀ z, ke (nI (Nat.gcd a b)) z) → f_X6_gcd_L7 N ke fuel (nI a) (nI b) := by
  intro k
  induction k with
  | zero =>
    intro a b fuel hb ha hb2 hf h
    obtain ⟨f, rfl⟩ : ∃ f, fuel = f + 1 := ⟨fuel - 1, by omega⟩
    have e : b = 0 := by omega
    subst e
    exact mg_stop (by rw [Nat.gcd_zero_right] at h; exact h)
  | succ k ih =>
    intro a b fuel hb ha hb2 hf h
    obtain ⟨f, rfl⟩ : ∃ f, fuel = f + 2 := ⟨fuel - 2, by omega⟩
    rcases Nat.eq_zero_or_pos b with e | e
    · subst e
      exact mg_stop (by rw [Nat.gcd_zero_right] at h; exact h)
    · refine mg_step ha e hb2 ?_
      have hlt := Nat.mod_lt a e
      rcases Nat.eq_zero_or_pos (a % b) with q | q
      · rw [q]
        refine mg_stop ?_
        rw [Nat.gcd_comm, Nat.gcd_rec, q, Nat.gcd_zero_left] at h
        exact h
      · refine mg_step hb2 q (by omega) ?_
        have := gd_half q hlt
        refine ih (a % b) (b % (a % b)) f (by rw [Nat.pow_succ] at hb; omega) (by omega) (by have := Nat.mod_lt b q; omega) (by omega) ?_
        have e2 : Nat.gcd (a % b) (b % (a % b)) = Nat.gcd a b := by
          rw [Nat.gcd_comm (a % b), ← Nat.gcd_rec, ← Nat.gcd_rec b a, Nat.gcd_comm]
        rw [e2]; exact h
/-- the size of a number that is not the least -/
theorem abs_c {x : Int32} (h : -2147483648 < x.toInt) : (if 0 ≤ x then x else 0 - x) = nI x.toInt.natAbs := by
  apply Int32.toInt_inj.mp
  have hx := x.toInt_lt
  have hz : (0 : Int32).toInt = 0 := rfl
  rw [nI_toInt (by omega)]
  by_cases q : 0 ≤ x
  · rw [if_pos q]
    have := Int32.le_iff_toInt_le.mp q
    rw [hz] at this
    omega
  · rw [if_neg q, Int32.toInt_sub, hz]
    have w : ¬ (0 : Int) ≤ x.toInt := fun w => q (Int32.le_iff_toInt_le.mpr (by rw [hz]; exact w))
    rw [Int.bmod_eq_of_le (by omega) (by omega)]
    omega
theorem neg_c {x : Int32} : (0 : Int32) - x = -x := Int32.zero_sub x
theorem e_msize {N : Nat} {x : Int32} {post : Int32 → Prop} (hx : -2147483648 < x.toInt) (h : post (nI x.toInt.natAbs)) : f_X6_size N x post := by
  unfold f_X6_size
  rw [← abs_c hx] at h
  by_cases q : 0 ≤ x
  · rw [if_pos q] at h ⊢; exact h
  · rw [if_neg q] at h ⊢; rw [← neg_c]; exact h
/-- a fraction in least terms, on both sides alike: what is answered -/
def lt (u : Int32) (d : Nat) (w : Int32) : Int32 := if ¬ w = 0 then nI d / nI (Nat.gcd u.toInt.natAbs d) else u / nI (Nat.gcd u.toInt.natAbs d)
theorem gcd_ok {u : Int32} {d : Nat} (h0 : 0 < d) (hd : d < 2 ^ 20) : ¬ nI (Nat.gcd u.toInt.natAbs d) = 0 := by
  have h1 : 0 < Nat.gcd u.toInt.natAbs d := Nat.gcd_pos_of_pos_right _ h0
  have h2 : Nat.gcd u.toInt.natAbs d ≤ d := Nat.gcd_le_right _ h0
  exact ne0_nI h1 (by omega)
theorem abs_lt {u : Int32} (hu : -2147483648 < u.toInt) : u.toInt.natAbs < 2 ^ 31 := by
  have := u.toInt_lt
  omega
theorem e_least {N d : Nat} {u w : Int32} {post : Int32 → Prop} (hN : 5000 ≤ N) (hu : -2147483648 < u.toInt) (h0 : 0 < d) (hd : d < 2 ^ 20) (h : post (lt u d w)) : f_X5_inLeastTerms N u (nI d) w post := by
  unfold f_X5_inLeastTerms
  rw [abs_c hu]
  refine e_gd hN (abs_lt hu) hd (ip (gcd_ok h0 hd) ?_)
  unfold lt at h
  by_cases q : ¬ w = 0
  · rw [if_pos q] at h ⊢; exact ⟨gcd_ok h0 hd, h⟩
  · rw [if_neg q] at h ⊢; exact ⟨gcd_ok h0 hd, h⟩
theorem e_told {N d : Nat} {u w : Int32} {post : Int32 → Prop} (hN : 5000 ≤ N) (hu : -2147483648 < u.toInt) (h0 : 0 < d) (hd : d < 2 ^ 20) (h : post (lt u d w)) : f_X6_told N u (nI d) w post := by
  unfold f_X6_told f_X6_gcd
  refine e_msize hu (mg_loop 20 _ d N hd (abs_lt hu) (by omega) (by omega) (fun _ => ?_))
  unfold lt at h
  by_cases q : ¬ w = 0
  · rw [if_pos q] at h ⊢; exact ⟨gcd_ok h0 hd, h⟩
  · rw [if_neg q] at h ⊢; exact ⟨gcd_ok h0 hd, h⟩
/-- how far the excess may go -/
theorem eO_b {n : Nat} {p a b c s : Nat → Int32} (hJ : JH n p a b c s) (x : Int32) : ∀ m, m ≤ n → -(12 * (m : Int)) ≤ (oS (fun i => a i - b i) x m).toInt ∧ (oS (fun i => a i - b i) x m).toInt ≤ 12 * m := by
  have hn := hJ.1
  intro m
  induction m with
  | zero => intro _; exact ⟨Int.le_refl 0, Int.le_refl 0⟩
  | succ m ih =>
    intro hm
    obtain ⟨h1, h2⟩ := ih (by omega)
    have z := (hJ.2.2 m (by omega)).2
    have zp := Int32.le_iff_toInt_le.mp z.2.1
    have z1 := Int32.le_iff_toInt_le.mp z.2.2.1
    have z2 := Int32.le_iff_toInt_le.mp z.2.2.2.1
    have z3 := Int32.le_iff_toInt_le.mp z.2.2.2.2.1
    have z4 := Int32.le_iff_toInt_le.mp z.2.2.2.2.2.1
    have e12 : (12 : Int32).toInt = 12 := rfl
    have e0 : (0 : Int32).toInt = 0 := rfl
    rw [e12] at zp
    rw [e0] at z1 z3
    by_cases q : bP x m
    · rw [← oS_t q, Int32.toInt_add, Int32.toInt_sub]
      rw [Int.bmod_eq_of_le (n := (a m).toInt - (b m).toInt) (by omega) (by omega), Int.bmod_eq_of_le (by omega) (by omega)]
      omega
    · rw [← oS_f q]; omega
theorem p_more {N n : Nat} {p a b c s : Nat → Int32} {u0 d0 : Int32} (hJ : JH n p a b c s) (hN : 5000 ≤ N) {x1 x2 : Int32} {k : Int32 → Int32 → Int32 → Int32 → Int32 → Prop} (hk : ∀ r u d, k r r 0 u d) : f_X5_more N (nI n) p a b x1 x2 (fun r => f_X6_more N u0 d0 s x1 x2 (fun r2 t u d => k r r2 t u d)) := by
  have hn := hJ.1
  obtain ⟨v, hv, e, -⟩ := oS_num hJ.pb x1
  have hE := eO_b hJ x1 n (Nat.le_refl n)
  unfold f_X5_more
  refine e_peopleOf hn hN ?_
  refine e_within (fun b1 b2 => im n10 (is_ (fun q => ?_) (fun q => ?_))) (fun q => ip rfl ?_)
  · refine e_excessOf hn hN ?_
    rw [e] at q ⊢
    have hv0 : 0 < v := Nat.pos_of_ne_zero (fun z => q (by rw [z]; rfl))
    refine e_least hN (by omega) hv0 (by omega) ?_
    unfold f_X6_more
    refine e_in (fun _ _ => im n10 ?_) (fun z => absurd ⟨b1, b2⟩ z)
    refine e_counts hJ hN (fun z => absurd (e.symm.trans z) q) (fun _ => im n10 ?_)
    rw [e]
    exact e_told hN (by omega) hv0 (by omega) (hk _ _ _)
  · have q' := Classical.not_not.mp q
    unfold f_X6_more
    refine e_in (fun _ _ => im n10 ?_) (fun z => absurd ⟨b1, b2⟩ z)
    exact e_counts hJ hN (fun _ => ip rfl (hk _ _ _)) (fun z => absurd q' z)
  · unfold f_X6_more
    exact e_in (fun b1 b2 => absurd ⟨b1, b2⟩ q) (fun _ => ip rfl (hk _ _ _))
