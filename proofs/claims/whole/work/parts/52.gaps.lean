/-! between, priced. -/
def hvN (C : Nat → Nat) (c : Nat) : Nat → Nat
  | 0 => 0
  | i + 1 => hvN C c i ||| ((C i / 2 ^ c % 2) * 2 ^ i)
theorem hvN_lt (C : Nat → Nat) (c : Nat) : ∀ n, hvN C c n < 2 ^ n
  | 0 => by show 0 < 1; omega
  | n + 1 => by
    have h1 := hvN_lt C c n
    have h2 : (C n / 2 ^ c % 2) * 2 ^ n ≤ 1 * 2 ^ n := Nat.mul_le_mul_right _ (by omega)
    have h3 := Nat.pow_succ (n := 2) (m := n)
    exact Nat.or_lt_two_pow (by omega) (by omega)
theorem shlb {v i : Nat} (hv : v < 2) (hi : i < 12) : nI v <<< (nI i &&& 31) = nI (v * 2 ^ i) := by
  refine pk_shlN _ i (s_l i (by omega)) ?_
  have h1 : 2 ^ i ≤ 4096 := p12 (by omega)
  have h2 : v * 2 ^ i ≤ 1 * 4096 := Nat.mul_le_mul (by omega) h1
  omega
theorem JH.cc {n : Nat} {p a b c s : Nat → Int32} (h : JH n p a b c s) : ∀ i, i < n → c i = nI ((c i).toNatClampNeg) ∧ (c i).toNatClampNeg ≤ 63 := by
  intro i hi
  obtain ⟨P, A, B, C, -, -, -, e, -, -, -, -, h6⟩ := h.nums hi
  rw [e, nI_clamp (by omega)]
  exact ⟨rfl, h6⟩
theorem e_having {N n c : Nat} {cs : Nat → Int32} {C : Nat → Nat} {post : Int32 → Prop} (hN : 5000 ≤ N) (hn : n ≤ 12) (hc : c < 6) (hC : ∀ i, i < n → cs i = nI (C i) ∧ C i ≤ 63) (h : post (nI (hvN C c n))) : f_X2_having N (nI n) cs (nI c) post := by
  refine lq2 (f_X2_having_L4 N (nI n) cs (nI c) (fun o5 o6 => post o5)) (fun K u v => f_X2_having_B4 N (nI n) cs (nI c) K (fun o5 o6 => post o5) u v) (fun _ _ _ => Iff.rfl) (fun j => nI (hvN C c j)) nI n (fun j hj K hK => ?_) (fun K => ?_) N (by omega)
  · unfold f_X2_having_B4
    have z := hC j hj
    refine il_f hj (by omega) ⟨vpn (by omega) (by omega), nmi (nmi ?_)⟩
    rw [nI_clamp (by omega), z.1, bitv (by omega) (by omega), shlb (by omega) (by omega), fa_or, nI_1]
    exact hK
  · unfold f_X2_having_B4
    exact il_t (Nat.le_refl n) (by omega) h
theorem e_mhaving {N n c : Nat} {p a b cs s : Nat → Int32} {C : Nat → Nat} {post : Int32 → Prop} (hN : 5000 ≤ N) (hJ : JH n p a b cs s) (hc : c < 6) (hC : ∀ i, i < n → cs i = nI (C i) ∧ C i ≤ 63) (h : post (nI (hvN C c n))) : f_X6_having N s (nI c) post := by
  have hn := hJ.1
  refine lq2 (f_X6_having_L4 N s (nI c) (fun o5 o6 => post o5)) (fun K u v => f_X6_having_B4 N s (nI c) K (fun o5 o6 => post o5) u v) (fun _ _ _ => Iff.rfl) (fun j => nI (hvN C c j)) nI n (fun j hj K hK => ?_) (fun K => ?_) N (by omega)
  · unfold f_X6_having_B4
    rw [cl0, hJ.2.1]
    have z := hC j hj
    refine il_f hj (by omega) (e_of (w := 3) (by omega) (by omega) (nmi (nmi ?_)))
    rw [(hJ.2.2 j hj).1.2.2.2, z.1, bitv (by omega) (by omega), shlb (by omega) (by omega), fa_or, nI_1]
    exact hK
  · unfold f_X6_having_B4
    rw [cl0, hJ.2.1]
    exact il_t (Nat.le_refl n) (by omega) h
abbrev prt (n g : Nat) : Prop := g ≠ 0 ∧ g ≠ 2 ^ n - 1
theorem e_parted {N n c : Nat} {cs : Nat → Int32} {C : Nat → Nat} {post : Int32 → Prop} (hN : 5000 ≤ N) (hn : n ≤ 12) (hc : c < 6) (hC : ∀ i, i < n → cs i = nI (C i) ∧ C i ≤ 63) (h1 : prt n (hvN C c n) → post 1) (h0 : ¬ prt n (hvN C c n) → post 0) : f_X2_isParted N (nI n) cs (nI c) post := by
  have hl := hvN_lt C c n
  have hp := p12 hn
  unfold f_X2_isParted
  refine e_having hN hn hc hC (is_ (fun q => h0 (fun z => z.1 ((z_nI (by omega)).mp q))) (fun q => e_all ?_))
  rw [aB_eq n (by omega)]
  refine is_ (fun w => h0 (fun z => z.2 ((nI_eq (by omega) (by omega)).mp w))) (fun w => h1 ⟨fun z => q (by rw [z]; rfl), fun z => w (by rw [z])⟩)
theorem e_mall {N n : Nat} {s : Nat → Int32} {post : Int32 → Prop} (hs : s 0 = nI n) (h : post (aB n)) : f_X6_everyHouse N s post := by
  unfold f_X6_everyHouse
  rw [cl0, hs]; exact h
/-- the two numbers of a gap -/
abbrev eX (a b : Nat → Int32) : Nat → Int32 := fun i => a i - b i
def gU (p a b : Nat → Int32) (n g : Nat) : Int32 := oS (eX a b) (nI g) n * oS p (aB n) n - oS (eX a b) (aB n) n * oS p (nI g) n
def gL (p : Nat → Int32) (n g : Nat) : Int32 := oS p (nI g) n * (oS p (aB n) n - oS p (nI g) n)
theorem e_gU {N n g : Nat} {p a b : Nat → Int32} {post : Int32 → Prop} (hN : 5000 ≤ N) (hn : n ≤ 12) (h : post (gU p a b n g)) : f_X2_gapUpper N (nI n) p a b (nI g) post := by
  unfold f_X2_gapUpper
  exact e_excessOf hn hN (e_all (e_peopleOf hn hN (e_all (e_excessOf hn hN (e_peopleOf hn hN h)))))
theorem e_gL {N n g : Nat} {p : Nat → Int32} {post : Int32 → Prop} (hN : 5000 ≤ N) (hn : n ≤ 12) (h : post (gL p n g)) : f_X2_gapLower N (nI n) p (nI g) post := by
  unfold f_X2_gapLower
  exact e_peopleOf hn hN (e_all (e_peopleOf hn hN (e_peopleOf hn hN h)))
theorem asub {x y : Int32} : x + y - x = y := by rw [Int32.add_comm, Int32.add_sub_cancel]
theorem rng1 {e e' p p' : Int32} : e * (p + p') - (e + e') * p = e * p' - e' * p := by
  rw [Int32.mul_add, Int32.add_mul, Int32.sub_eq_add_neg, Int32.neg_add, Int32.sub_eq_add_neg, Int32.sub_eq_add_neg]
  rw [Int32.add_comm (e * p) (e * p'), Int32.add_assoc, ← Int32.add_assoc (e * p), Int32.add_right_neg, Int32.zero_add]
theorem gU_eq {n g : Nat} {p a b : Nat → Int32} (hn : n ≤ 12) (hg : g < 2 ^ n) : oS (eX a b) (nI g) n * oS p (nI (oth n g)) n - oS (eX a b) (nI (oth n g)) n * oS p (nI g) n = gU p a b n g := by
  unfold gU
  rw [oS_split hn hg n (Nat.le_refl n), oS_split hn hg n (Nat.le_refl n), rng1]
theorem gL_eq {n g : Nat} {p : Nat → Int32} (hn : n ≤ 12) (hg : g < 2 ^ n) : oS p (nI g) n * oS p (nI (oth n g)) n = gL p n g := by
  unfold gL
  rw [oS_split hn hg n (Nat.le_refl n), asub]
theorem e_betw {N n g : Nat} {p a b c s : Nat → Int32} {post : Int32 → Int32 → Int32 → Prop} (hN : 5000 ≤ N) (hJ : JH n p a b c s) (hg : g < 2 ^ n) (h1 : prt n g → post 1 (gU p a b n g) (gL p n g)) (h0 : ¬ prt n g → ∀ u d, post 0 u d) : f_X6_betweens N s (nI g) post := by
  have hn := hJ.1
  unfold f_X6_betweens
  refine e_mall hJ.2.1 ?_
  rw [oth_eq (by omega)]
  obtain ⟨v, hv, ev, zv⟩ := pN hJ.pb hn (oth_lt n g)
  obtain ⟨w, hw, ew, zw⟩ := pN hJ.pb hn hg
  refine e_counts hJ hN (fun q => im n00 (h0 ?_ _ _)) (fun q => ip n10 (e_counts hJ hN (fun q2 => im n00 (h0 ?_ _ _)) (fun q2 => ip n10 (nmi (nmi ?_)))))
  · rw [ev] at q
    exact fun z => z.2 ((oth_0 hn hg).mp (zv.mp ((z_nI (by omega)).mp q)))
  · rw [ew] at q2
    exact fun z => z.1 (zw.mp ((z_nI (by omega)).mp q2))
  · have hpr : prt n g := by
      refine ⟨fun z => q2 ?_, fun z => q ?_⟩
      · rw [ew, zw.mpr z]; rfl
      · rw [ev, zv.mpr ((oth_0 hn hg).mpr z)]; rfl
    rw [show (fun i => a i - b i) = eX a b from rfl, gU_eq hn hg, gL_eq hn hg]
    exact h1 hpr
theorem gL_num {n g : Nat} {p : Nat → Int32} (hp : ∀ i, i < n → 1 ≤ p i ∧ p i ≤ 12) (hn : n ≤ 12) (hg : g < 2 ^ n) (hpr : prt n g) : ∃ d : Nat, 0 < d ∧ d < 2 ^ 20 ∧ gL p n g = nI d := by
  obtain ⟨v, hv, ev, zv⟩ := pN hp hn (oth_lt n g)
  obtain ⟨w, hw, ew, zw⟩ := pN hp hn hg
  refine ⟨w * v, Nat.mul_pos (Nat.pos_of_ne_zero (fun z => hpr.1 (zw.mp z))) (Nat.pos_of_ne_zero (fun z => hpr.2 ((oth_0 hn hg).mp (zv.mp z)))), ?_, ?_⟩
  · have : w * v ≤ 144 * 144 := Nat.mul_le_mul hw hv
    omega
  · rw [← gL_eq hn hg, ev, ew, pk_mul]
theorem gU_b {n g : Nat} {p a b c s : Nat → Int32} (hJ : JH n p a b c s) (hg : g < 2 ^ n) : -2147483648 < (gU p a b n g).toInt := by
  have hn := hJ.1
  obtain ⟨w, hw, ew, zw⟩ := pN hJ.pb hn hg
  obtain ⟨P, hP, eP, -⟩ := pN hJ.pb hn (show 2 ^ n - 1 < 2 ^ n by have := Nat.two_pow_pos n; omega)
  rw [← aB_eq n (by omega)] at eP
  have e1 := eO_b hJ (nI g) n (Nat.le_refl n)
  have e2 := eO_b hJ (aB n) n (Nat.le_refl n)
  unfold gU
  rw [ew, eP]
  have m1 := mb (a := (oS (eX a b) (nI g) n).toInt) (by show -144 ≤ (oS (fun i => a i - b i) (nI g) n).toInt; omega) (by show (oS (fun i => a i - b i) (nI g) n).toInt ≤ 144; omega) hP
  have m2 := mb (a := (oS (eX a b) (aB n) n).toInt) (by show -144 ≤ (oS (fun i => a i - b i) (aB n) n).toInt; omega) (by show (oS (fun i => a i - b i) (aB n) n).toInt ≤ 144; omega) hw
  rw [u32 (by show -144 ≤ (oS (fun i => a i - b i) (nI g) n).toInt; omega) (by show (oS (fun i => a i - b i) (nI g) n).toInt ≤ 144; omega) (by show -144 ≤ (oS (fun i => a i - b i) (aB n) n).toInt; omega) (by show (oS (fun i => a i - b i) (aB n) n).toInt ≤ 144; omega) hP hw]
  omega
theorem p_between {N n : Nat} {p a b c s : Nat → Int32} {u0 d0 : Int32} (hJ : JH n p a b c s) (hN : 5000 ≤ N) {x1 x2 : Int32} {K : Int32 → Int32 → Int32 → Int32 → Int32 → Prop} (hK : ∀ r u d, K r r 0 u d) : f_X5_between N (nI n) p a b c x1 x2 (fun r => f_X6_between N u0 d0 s x1 x2 (fun r2 t u d => K r r2 t u d)) := by
  have hn := hJ.1
  unfold f_X5_between f_X6_between f_X6_isCondition
  refine e_within (fun a1 a2 => im n10 ?_) (fun q => ip rfl (e_in (fun a1 a2 => absurd ⟨a1, a2⟩ q) (fun _ => ip rfl (hK _ _ _))))
  refine e_within (fun a3 a4 => im n10 ?_) (fun q => ip rfl (e_in (fun _ _ => im n10 (e_in (fun a3 a4 => absurd ⟨a3, a4⟩ q) (fun _ => ip rfl (hK _ _ _)))) (fun z => absurd ⟨a1, a2⟩ z)))
  obtain ⟨k, hk, ek⟩ := i32_in (n := 5) (by omega) a1 a2
  have mo : ∀ P : Int32 → Prop, P (nI (hvN (fun i => (c i).toNatClampNeg) k n)) → f_X6_having N s x1 P := fun P h => by rw [ek]; exact e_mhaving hN hJ (by omega) hJ.cc h
  have inn : ∀ P : Int32 → Prop, P 1 → f_X6_in N x2 0 1 P := fun P h => e_in (fun _ _ => h) (fun z => absurd ⟨a3, a4⟩ z)
  have inn1 : ∀ P : Int32 → Prop, P 1 → f_X6_in N x1 0 5 P := fun P h => e_in (fun _ _ => h) (fun z => absurd ⟨a1, a2⟩ z)
  have hl := hvN_lt (fun i => (c i).toNatClampNeg) k n
  have cl : ∀ P : Int32 → Prop, P (nI (hvN (fun i => (c i).toNatClampNeg) k n)) → f_X2_having N (nI n) c x1 P := fun P h => by rw [ek]; exact e_having hN hn (by omega) hJ.cc h
  have cp : ∀ P : Int32 → Prop, (prt n (hvN (fun i => (c i).toNatClampNeg) k n) → P 1) → (¬ prt n (hvN (fun i => (c i).toNatClampNeg) k n) → P 0) → f_X2_isParted N (nI n) c x1 P := fun P h h' => by rw [ek]; exact e_parted hN hn (by omega) hJ.cc h h'
  refine cp _ (fun q => ip n10 ?_) (fun q => im n00 (inn1 _ (im n10 (inn _ (im n10 (mo _ (e_betw hN hJ hl (fun z => absurd z q) (fun _ u d => ip rfl (hK _ _ _)))))))))
  obtain ⟨d, d0', d1, ed⟩ := gL_num hJ.pb hn hl q
  refine cl _ (e_gU hN hn (e_gL hN hn ?_))
  rw [ed]
  refine e_least hN (gU_b hJ hl) d0' d1 (inn1 _ (im n10 (inn _ (im n10 (mo _ (e_betw hN hJ hl (fun _ => im n10 ?_) (fun z => absurd q z)))))))
  rw [ed]
  exact e_told hN (gU_b hJ hl) d0' d1 (hK _ _ _)
/-! priced -/
theorem pc_0 {n g : Nat} (hn : n ≤ 16) (hg : g < 2 ^ n) (h : pc g = 0) : g = 0 := by
  apply Classical.byContradiction
  intro q
  obtain ⟨i, hi, hb⟩ := ne_bit hg q
  have := ct_pos (f := fun i => g.testBit i) (n := 16) (show i < 16 by omega) hb
  unfold pc at h
  omega
theorem pc_full {n g : Nat} (hn : n ≤ 16) (hg : g < 2 ^ n) (h : pc g = pc (2 ^ n - 1)) : g = 2 ^ n - 1 := by
  apply Classical.byContradiction
  intro q
  have sub : ∀ i, g.testBit i = true → (2 ^ n - 1).testBit i = true := by
    intro i hi
    rw [all_tb]
    rcases Nat.lt_or_ge i n with w | w
    · exact decide_eq_true w
    · rw [lt_tb hg w] at hi; exact absurd hi (by decide)
  have ex : ∃ i, i < n ∧ g.testBit i = false := by
    apply Classical.byContradiction
    intro z
    apply q
    apply Nat.eq_of_testBit_eq
    intro i
    rw [all_tb]
    rcases Nat.lt_or_ge i n with w | w
    · rw [decide_eq_true w]
      cases e : g.testBit i
      · exact absurd ⟨i, w, e⟩ z
      · rfl
    · rw [lt_tb hg w, decide_eq_false (by omega)]
  obtain ⟨i, hi, hb⟩ := ex
  have := ct_strict (f := fun i => g.testBit i) (g := fun i => (2 ^ n - 1).testBit i) sub hb (by show (2 ^ n - 1).testBit i = true; rw [all_tb]; exact decide_eq_true hi) 16 (by omega)
  unfold pc at h
  omega
theorem prt_pc {n g h : Nat} (hn : n ≤ 16) (hg : g < 2 ^ n) (hh : h < 2 ^ n) (e : pc h = pc g) (hp : prt n g) : prt n h := by
  refine ⟨fun z => hp.1 (pc_0 hn hg ?_), fun z => hp.2 (pc_full hn hg ?_)⟩
  · rw [← e, z]; decide
  · rw [← e, z]
/-- how many sets have k -/
theorem ct_app (f : Nat → Bool) (m : Nat) : ∀ k, ct f (m + k) = ct f m + ct (fun i => f (m + i)) k
  | 0 => rfl
  | k + 1 => by
    show ct f (m + k) + _ = ct f m + (ct _ k + _)
    rw [ct_app f m k, Nat.add_assoc]; rfl
theorem pc_hi {n s : Nat} (hn : n < 16) (hs : s < 2 ^ n) : pc (2 ^ n + s) = pc s + 1 := by
  rw [Nat.add_comm, ← Nat.or_two_pow_eq_add_of_lt hs, pc_or hn (lt_tb hs (Nat.le_refl n))]
theorem cnt : ∀ n, n ≤ 12 → ∀ k, ct (fun s => decide (pc s = k)) (2 ^ n) = bin n k
  | 0, _, 0 => by decide
  | 0, _, k + 1 => by
    show ct _ 1 = 0
    have p0 : pc 0 = 0 := by decide
    have : decide (pc 0 = k + 1) = false := decide_eq_false (by omega)
    simp only [ct, this]; rfl
  | n + 1, hn, k => by
    rw [Nat.pow_succ, Nat.mul_two, ct_app, cnt n (by omega) k]
    have e : ct (fun i => decide (pc (2 ^ n + i) = k)) (2 ^ n) = ct (fun i => decide (pc i + 1 = k)) (2 ^ n) := ct_cong (fun i hi => by rw [pc_hi (by omega) hi])
    rw [e]
    cases k with
    | zero =>
      rw [bin_0, bin_0]
      have : ct (fun i => decide (pc i + 1 = 0)) (2 ^ n) = ct (fun _ => false) (2 ^ n) := ct_cong (fun i hi => decide_eq_false (by omega))
      rw [this]
      have z : ∀ m, ct (fun _ => false) m = 0 := by
        intro m
        induction m with
        | zero => rfl
        | succ m ih => rw [ct, ih]; rfl
      rw [z]
    | succ k =>
      have : ct (fun i => decide (pc i + 1 = k + 1)) (2 ^ n) = ct (fun i => decide (pc i = k)) (2 ^ n) := ct_cong (fun i hi => decide_eq_decide.mpr (by omega))
      rw [this, cnt n (by omega) k, bin_s, Nat.add_comm]
/-- at least the told gap -/
abbrev atl (p a b : Nat → Int32) (n g : Nat) (x : Nat) : Prop := ¬ lg_cmp ((gU p a b n x).toInt64 * (gL p n g).toInt64) ((gU p a b n g).toInt64 * (gL p n x).toInt64) < 0
def f0 (p a b : Nat → Int32) (n g : Nat) (x : Nat) : Bool := decide (pc x = pc g) && decide (atl p a b n g x)
def f2 (p a b : Nat → Int32) (C : Nat → Nat) (n g : Nat) (k : Nat) : Bool := decide (prt n (hvN C k n)) && decide (atl p a b n g (hvN C k n))
theorem e_sets {N n g : Nat} {p a b c s : Nat → Int32} {post : Int32 → Prop} (hN : 5000 ≤ N) (hJ : JH n p a b c s) (hg : g < 2 ^ n) (h : post (nI (ct (f0 p a b n g) (2 ^ n)))) : f_X2_setsWithGapOf N (nI n) p a b (nI g) post := by
  have hn := hJ.1
  have hp := p12 hn
  have hp0 := Nat.two_pow_pos n
  unfold f_X2_setsWithGapOf
  refine e_bitCount (by omega) (e_gU hN hn (nmi (e_gL hN hn (nmi (e_all (e_peopleOf hn hN (e_excessOf hn hN ?_)))))))
  have gp := pc_le g
  refine lq2 (f_X2_setsWithGapOf_L48 N (nI n) p a b (nI (pc g)) (gU p a b n g).toInt64 (gL p n g).toInt64 (aB n) (oS p (aB n) n) (oS (eX a b) (aB n) n) (fun o20 o21 => post o20)) (fun K u v => f_X2_setsWithGapOf_B48 N (nI n) p a b (nI (pc g)) (gU p a b n g).toInt64 (gL p n g).toInt64 (aB n) (oS p (aB n) n) (oS (eX a b) (aB n) n) K (fun o20 o21 => post o20) u v) (fun _ _ _ => Iff.rfl) (fun x => nI (ct (f0 p a b n g) x)) nI (2 ^ n) (fun x hx K hK => ?_) (fun K => ?_) N (by omega)
  · unfold f_X2_setsWithGapOf_B48 f_X2_setsWithGapOf_J121 f_X2_setsWithGapOf_J124
    rw [aB_eq n (by omega)]
    have xp := pc_le x
    refine it_f (by omega) (by omega) (e_bitCount (by omega) (is_ (fun q => nmi ?_) (fun q => ?_)))
    · have q' : ¬ pc x = pc g := fun z => q (by rw [z])
      rw [nI_1]
      simp only [ct, f0, decide_eq_false q', Bool.false_and, Bool.false_eq_true, if_false, Nat.add_zero] at hK
      exact hK
    · have q' : pc x = pc g := (nI_eq (by omega) (by omega)).mp (Classical.not_not.mp q)
      rw [← aB_eq n (by omega)]
      refine e_peopleOf hn hN (e_excessOf hn hN (nmi (nmi ?_)))
      show (if (lg_cmp ((gU p a b n x).toInt64 * (gL p n g).toInt64) ((gU p a b n g).toInt64 * (gL p n x).toInt64)) < 0 then _ else _)
      refine is_ (fun w => nmi (nmi ?_)) (fun w => nmi (nmi ?_))
      · simp only [ct, f0, decide_eq_true q', decide_eq_false (show ¬ atl p a b n g x from fun z => z w), Bool.true_and, Bool.false_eq_true, if_false, Nat.add_zero] at hK
        rw [nI_1, Int32.add_zero]; exact hK
      · simp only [ct, f0, decide_eq_true q', decide_eq_true (show atl p a b n g x from w), Bool.true_and, if_true] at hK
        rw [nI_1, nI_1]; exact hK
  · unfold f_X2_setsWithGapOf_B48
    rw [aB_eq n (by omega)]
    exact it_t (by omega) (by omega) h
theorem e_conds {N n g : Nat} {p a b c s : Nat → Int32} {C : Nat → Nat} {post : Int32 → Prop} (hN : 5000 ≤ N) (hJ : JH n p a b c s) (hC : ∀ i, i < n → c i = nI (C i) ∧ C i ≤ 63) (h : post (nI (ct (f2 p a b C n g) 6))) : f_X2_conditionsWithGapOf N (nI n) p a b c (nI g) post := by
  have hn := hJ.1
  unfold f_X2_conditionsWithGapOf
  refine e_gU hN hn (nmi (e_gL hN hn (nmi ?_)))
  refine lq2 (f_X2_conditionsWithGapOf_L21 N (nI n) p a b c (gU p a b n g).toInt64 (gL p n g).toInt64 (fun o14 o15 => post o14)) (fun K u v => f_X2_conditionsWithGapOf_B21 N (nI n) p a b c (gU p a b n g).toInt64 (gL p n g).toInt64 K (fun o14 o15 => post o14) u v) (fun _ _ _ => Iff.rfl) (fun x => nI (ct (f2 p a b C n g) x)) nI 6 (fun x hx K hK => ?_) (fun K => ?_) N (by omega)
  · unfold f_X2_conditionsWithGapOf_B21 f_X2_conditionsWithGapOf_J71
    refine il_f (a := 6) hx (by omega) (e_having hN hn hx hC (e_parted hN hn hx hC (fun q => im n10 ?_) (fun q => ip rfl (nmi ?_))))
    · refine e_gU hN hn (e_gL hN hn (is_ (fun w => nmi ?_) (fun w => nmi (nmi ?_))))
      · simp only [ct, f2, decide_eq_true q, decide_eq_false (show ¬ atl p a b n g (hvN C x n) from fun z => z w), Bool.true_and, Bool.false_eq_true, if_false, Nat.add_zero] at hK
        rw [nI_1]; exact hK
      · simp only [ct, f2, decide_eq_true q, decide_eq_true (show atl p a b n g (hvN C x n) from w), Bool.true_and, if_true] at hK
        rw [nI_1, nI_1]; exact hK
    · simp only [ct, f2, decide_eq_false q, Bool.false_and, Bool.false_eq_true, if_false, Nat.add_zero] at hK
      rw [nI_1]; exact hK
  · unfold f_X2_conditionsWithGapOf_B21
    exact il_t (a := 6) (by omega) (by omega) h
theorem e_atL {N n g x : Nat} {p a b c s : Nat → Int32} {post : Int32 → Int32 → Int32 → Prop} (hN : 5000 ≤ N) (hJ : JH n p a b c s) (hx : x < 2 ^ n) (h1 : prt n x → atl p a b n g x → ∀ u d, post 1 u d) (h0 : ¬ (prt n x ∧ atl p a b n g x) → ∀ u d, post 0 u d) : f_X6_isAtLeast N s (nI x) (gU p a b n g).toInt64 (gL p n g).toInt64 post := by
  unfold f_X6_isAtLeast
  refine e_betw hN hJ hx (fun q => im n10 (is_ (fun w => h0 (fun z => z.2 w) _ _) (fun w => h1 q w _ _))) (fun q u d => ip rfl (h0 (fun z => q z.1) _ _))
theorem p_priced {N n : Nat} {p a b c s : Nat → Int32} {u0 d0 : Int32} (hJ : JH n p a b c s) (hN : 5000 ≤ N) {x1 x2 : Int32} {K : Int32 → Int32 → Int32 → Int32 → Int32 → Prop} (hK : ∀ r u d, K r r 0 u d) : f_X5_priced N (nI n) p a b c x1 x2 (fun r => f_X6_priced N u0 d0 s x1 x2 (fun r2 t u d => K r r2 t u d)) := by
  have hn := hJ.1
  have hp := p12 hn
  have hp0 := Nat.two_pow_pos n
  unfold f_X5_priced f_X6_priced f_X6_isCondition
  refine e_within (fun a1 a2 => im n10 ?_) (fun q => ip rfl (e_in (fun a1 a2 => absurd ⟨a1, a2⟩ q) (fun _ => ip rfl (hK _ _ _))))
  refine e_within (fun a3 a4 => ip n10 ?_) (fun q => im n00 (e_in (fun _ _ => im n10 (e_in (fun a3 a4 => absurd ⟨a3, a4⟩ q) (fun _ => im n00 (hK _ _ _)))) (fun z => absurd ⟨a1, a2⟩ z)))
  obtain ⟨k, hk, ek⟩ := i32_in (n := 5) (by omega) a1 a2
  have mo : ∀ P : Int32 → Prop, P (nI (hvN (fun i => (c i).toNatClampNeg) k n)) → f_X6_having N s x1 P := fun P h => by rw [ek]; exact e_mhaving hN hJ (by omega) hJ.cc h
  have inn : ∀ P : Int32 → Prop, P 1 → f_X6_in N x2 0 2 P := fun P h => e_in (fun _ _ => h) (fun z => absurd ⟨a3, a4⟩ z)
  have inn1 : ∀ P : Int32 → Prop, P 1 → f_X6_in N x1 0 5 P := fun P h => e_in (fun _ _ => h) (fun z => absurd ⟨a1, a2⟩ z)
  have hl := hvN_lt (fun i => (c i).toNatClampNeg) k n
  have cl : ∀ P : Int32 → Prop, P (nI (hvN (fun i => (c i).toNatClampNeg) k n)) → f_X2_having N (nI n) c x1 P := fun P h => by rw [ek]; exact e_having hN hn (by omega) hJ.cc h
  have cp : ∀ P : Int32 → Prop, (prt n (hvN (fun i => (c i).toNatClampNeg) k n) → P 1) → (¬ prt n (hvN (fun i => (c i).toNatClampNeg) k n) → P 0) → f_X2_isParted N (nI n) c x1 P := fun P h h' => by rw [ek]; exact e_parted hN hn (by omega) hJ.cc h h'
  refine cp _ (fun q => ip n10 ?_) (fun q => im n00 (inn1 _ (im n10 (inn _ (ip n10 (mo _ (e_betw hN hJ hl (fun z => absurd z q) (fun _ u d => im n00 (hK _ _ _)))))))))
  refine cl _ ?_
  generalize hC : (fun i => (c i).toNatClampNeg) = C at *
  have hcc : ∀ i, i < n → c i = nI (C i) ∧ C i ≤ 63 := by rw [← hC]; exact hJ.cc
  generalize hG : hvN C k n = g at *
  have mdl : ∀ r : Int32, (∀ o46 o47, if ¬ x2 = 0 then (if ¬ x2 = 1 then K r (nI (ct (f2 p a b C n g) 6)) 0 o46 o47 else K r (nI (bin n (pc g))) 0 o46 o47) else K r (nI (ct (f0 p a b n g) (2 ^ n))) 0 o46 o47) → f_X6_betweens N s (nI g) (fun (r4 : Int32) (u5 : Int32) (u6 : Int32) => (if ¬ r4 = 0 then nm u5.toInt64 (fun v7 : Int64 => nm u6.toInt64 (fun v8 : Int64 => f_X6_priced_L63 N s (nI g) v7 v8 (fun (o28 : Int32) (o29 : Int32) (o30 : Int32) (o31 : Int32) (o32 : Int32) => f_X6_priced_L122 N s v7 v8 (fun (o44 : Int32) (o45 : Int32) (o46 : Int32) (o47 : Int32) => (if ¬ x2 = 0 then (if ¬ x2 = 1 then K r o44 0 o46 o47 else K r o28 0 o46 o47) else K r o29 0 o46 o47)) N 0 0 o31 o32) N 0 0 0 u5 u6)) else K r (-2) 0 u5 u6)) := by
    intro r h
    refine e_betw hN hJ hl (fun _ => ip n10 (nmi (nmi ?_))) (fun z => absurd q z)
    refine lqi (A := Int32 × Int32 × Int32 × Int32 × Int32) (fun m x => f_X6_priced_L63 N s (nI g) _ _ _ m x.1 x.2.1 x.2.2.1 x.2.2.2.1 x.2.2.2.2) (fun K' x => f_X6_priced_B63 N s (nI g) _ _ (fun a b c d e => K' (a, b, c, d, e)) _ x.1 x.2.1 x.2.2.1 x.2.2.2.1 x.2.2.2.2) (fun _ _ => Iff.rfl) (fun i x => x.1 = nI (ct (fun s => decide (pc s = pc g)) i) ∧ x.2.1 = nI (ct (f0 p a b n g) i) ∧ x.2.2.1 = nI i) (2 ^ n) (fun i hi x hx K' hK' => ?_) (fun x hx K' => ?_) N (by omega) (0, 0, 0, gU p a b n g, gL p n g) ⟨rfl, rfl, rfl⟩
    · obtain ⟨y1, y2, y3, y4, y5⟩ := x
      obtain ⟨h1, h2, h3⟩ := hx
      simp only at h1 h2 h3
      subst h1; subst h2; subst h3
      show f_X6_priced_B63 N s (nI g) _ _ _ _ _ _ (nI i) y4 y5
      unfold f_X6_priced_B63 f_X6_priced_J107 f_X6_priced_J110
      refine e_mall hJ.2.1 ?_
      rw [aB_eq n (by omega)]
      have ip_ := pc_le i
      have gp_ := pc_le g
      refine it_f (by omega) (by omega) (e_ones hN (by omega) (e_ones hN (by omega) (is_ (fun w => nmi (hK' _ ?_)) (fun w => nmi ?_))))
      · have w' : ¬ pc i = pc g := fun z => w (by rw [z])
        simp only [ct, f0, decide_eq_false w', Bool.false_and, Bool.false_eq_true, if_false, Nat.add_zero, nI_1]
        exact ⟨trivial, trivial, trivial⟩
      · have w' : pc i = pc g := (nI_eq (by omega) (by omega)).mp (Classical.not_not.mp w)
        refine e_atL hN hJ hi (fun z1 z2 u d => im n10 (nmi (nmi (hK' _ ?_)))) (fun z u d => ip rfl (nmi (nmi (hK' _ ?_))))
        · simp only [ct, f0, decide_eq_true w', decide_eq_true z2, Bool.true_and, if_true, nI_1]
          exact ⟨trivial, trivial, trivial⟩
        · have z' : ¬ atl p a b n g i := fun y => z ⟨prt_pc (by omega) hl hi w' q, y⟩
          simp only [ct, f0, decide_eq_true w', decide_eq_false z', Bool.true_and, Bool.false_eq_true, if_false, if_true, Nat.add_zero, nI_1, Int32.add_zero]
          exact ⟨trivial, trivial, trivial⟩
    · obtain ⟨y1, y2, y3, y4, y5⟩ := x
      obtain ⟨h1, h2, h3⟩ := hx
      simp only at h1 h2 h3
      subst h1; subst h2; subst h3
      show f_X6_priced_B63 N s (nI g) _ _ _ _ _ _ (nI (2 ^ n)) y4 y5
      unfold f_X6_priced_B63
      refine e_mall hJ.2.1 ?_
      rw [aB_eq n (by omega), cnt n hn]
      refine it_t (by omega) (by omega) ?_
      refine lqi (A := Int32 × Int32 × Int32 × Int32) (fun m x => f_X6_priced_L122 N s _ _ _ m x.1 x.2.1 x.2.2.1 x.2.2.2) (fun K' x => f_X6_priced_B122 N s _ _ (fun a b c d => K' (a, b, c, d)) _ x.1 x.2.1 x.2.2.1 x.2.2.2) (fun _ _ => Iff.rfl) (fun i x => x.1 = nI (ct (f2 p a b C n g) i) ∧ x.2.1 = nI i) 6 (fun i hi x hx K' hK' => ?_) (fun x hx K' => ?_) N (by omega) (0, 0, y4, y5) ⟨rfl, rfl⟩
      · obtain ⟨z1, z2, z3, z4⟩ := x
        obtain ⟨h1, h2⟩ := hx
        simp only at h1 h2
        subst h1; subst h2
        show f_X6_priced_B122 N s _ _ _ _ _ (nI i) z3 z4
        unfold f_X6_priced_B122 f_X6_priced_J153
        refine il_f (a := 6) hi (by omega) (e_mhaving hN hJ hi hcc ?_)
        refine e_atL hN hJ (hvN_lt C i n) (fun w1 w2 u d => im n10 (nmi (nmi (hK' _ ?_)))) (fun w u d => ip rfl (nmi (nmi (hK' _ ?_))))
        · simp only [ct, f2, decide_eq_true w1, decide_eq_true w2, Bool.true_and, if_true, nI_1]
          exact ⟨trivial, trivial⟩
        · have e : f2 p a b C n g i = false := by
            unfold f2
            by_cases y : prt n (hvN C i n)
            · rw [decide_eq_true y, decide_eq_false (fun y2 => w ⟨y, y2⟩)]; rfl
            · rw [decide_eq_false y]; rfl
          simp only [ct, e, Bool.false_eq_true, if_false, Nat.add_zero, nI_1, Int32.add_zero]
          exact ⟨trivial, trivial⟩
      · obtain ⟨z1, z2, z3, z4⟩ := x
        obtain ⟨h1, h2⟩ := hx
        simp only at h1 h2
        subst h1; subst h2
        show f_X6_priced_B122 N s _ _ _ _ _ (nI 6) z3 z4
        unfold f_X6_priced_B122
        exact il_t (a := 6) (by omega) (by omega) (h _ _)
  refine is_ (fun w => e_sets hN hJ hl (inn1 _ (im n10 (inn _ (ip n10 (mo _ (mdl _ (fun _ _ => im (nn w) (hK _ _ _))))))))) (fun w0 => is_ (fun w => ?_) (fun w1 => e_conds hN hJ hcc (inn1 _ (im n10 (inn _ (ip n10 (mo _ (mdl _ (fun _ _ => ip w0 (ip w1 (hK _ _ _))))))))))) 
  have gp := pc_le g
  refine e_bitCount (by omega) (e_choose hN (by omega) (by omega) ?_)
  rw [lN_i]
  exact inn1 _ (im n10 (inn _ (ip n10 (mo _ (mdl _ (fun _ _ => ip w0 (im (nn w) (hK _ _ _))))))))
