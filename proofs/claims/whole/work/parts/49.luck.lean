/-! Binomials: the triangle, luck, sure, need. -/
def bin : Nat → Nat → Nat
  | _, 0 => 1
  | 0, _ + 1 => 0
  | n + 1, k + 1 => bin n k + bin n (k + 1)
theorem bin_0 (n : Nat) : bin n 0 = 1 := by cases n <;> rfl
theorem bin_s (n k : Nat) : bin (n + 1) (k + 1) = bin n k + bin n (k + 1) := rfl
theorem bin_gt : ∀ (n k : Nat), n < k → bin n k = 0
  | 0, 0, h => absurd h (by omega)
  | 0, k + 1, _ => rfl
  | n + 1, 0, h => absurd h (by omega)
  | n + 1, k + 1, h => by rw [bin_s, bin_gt n k (by omega), bin_gt n (k + 1) (by omega)]
theorem bin_m : ∀ (n k : Nat), (k + 1) * bin (n + 1) (k + 1) = (n + 1) * bin n k
  | 0, 0 => rfl
  | 0, k + 1 => by rw [bin_gt (0 + 1) (k + 1 + 1) (by omega), bin_gt 0 (k + 1) (by omega), Nat.mul_zero, Nat.mul_zero]
  | n + 1, 0 => by
    have h := bin_m n 0
    rw [bin_s (n + 1) 0]
    rw [bin_0] at h ⊢
    simp only [Nat.zero_add, Nat.one_mul, Nat.mul_one] at h ⊢
    omega
  | n + 1, k + 1 => by
    have h1 := bin_m n k
    have h2 := bin_m n (k + 1)
    have e1 : (k + 1 + 1) * bin (n + 1 + 1) (k + 1 + 1) = (k + 1) * bin (n + 1) (k + 1) + bin (n + 1) (k + 1) + (k + 1 + 1) * bin (n + 1) (k + 1 + 1) := by
      rw [bin_s (n + 1) (k + 1), Nat.mul_add, Nat.add_mul (k + 1) 1, Nat.one_mul]
    have e2 : (n + 1 + 1) * bin (n + 1) (k + 1) = (n + 1) * bin n k + (n + 1) * bin n (k + 1) + bin (n + 1) (k + 1) := by
      rw [Nat.add_mul (n + 1) 1, Nat.one_mul]
      conv => lhs; lhs; rw [bin_s n k, Nat.mul_add]
    rw [e1, e2, h1, h2]; omega
theorem bin_le : ∀ (n k : Nat), bin n k ≤ 2 ^ n
  | n, 0 => by rw [bin_0]; exact Nat.one_le_two_pow
  | 0, k + 1 => Nat.zero_le _
  | n + 1, k + 1 => by
    have h1 := bin_le n k
    have h2 := bin_le n (k + 1)
    rw [bin_s, Nat.pow_succ]; omega
theorem p24 {n : Nat} (h : n ≤ 24) : 2 ^ n ≤ 16777216 := Nat.pow_le_pow_right (n := 2) (by omega) h
theorem e_choose {N a b : Nat} {post : Int64 → Prop} (hN : 5000 ≤ N) (ha : a ≤ 24) (hb : b < 2 ^ 20) (h : post (lN (bin a b))) : f_X5_choose N (nI a) (nI b) post := by
  unfold f_X5_choose
  refine im (nI_pos (by omega)) ?_
  rcases Nat.lt_or_ge a b with q | q
  · refine il_f q (by omega) ?_
    rw [bin_gt a b q] at h; exact h
  · refine il_t q (by omega) ?_
    suffices key : f_X5_choose_L16 N (nI a) (nI b) (fun o5 o6 => post o5) N (lN (bin (a - b + 0) 0)) (nI (1 + 0)) by
      rw [bin_0] at key; exact key
    refine lq2 (f_X5_choose_L16 N (nI a) (nI b) (fun o5 o6 => post o5)) (fun K u v => f_X5_choose_B16 N (nI a) (nI b) K (fun o5 o6 => post o5) u v) (fun _ _ _ => Iff.rfl) (fun i => lN (bin (a - b + i) i)) (fun i => nI (1 + i)) b (fun i hi K hK => ?_) (fun K => ?_) N (by omega)
    · unfold f_X5_choose_B16
      refine it_f (by omega) (by omega) ?_
      rw [nI_l (by omega), pk_sub q, nI_add, nI_l (by omega), lN_mul]
      refine ⟨fun z => absurd ((pk_lEQ (b := 0) (by omega) (by omega)).mp z) (by omega), nmi (nmi ?_)⟩
      have e := bin_m (a - b + i) i
      have hl := bin_le (a - b + i) i
      have hp := p24 (show a - b + i ≤ 24 by omega)
      have hm : bin (a - b + i) i * (a - b + (1 + i)) = (1 + i) * bin (a - b + (i + 1)) (i + 1) := by
        rw [show a - b + (1 + i) = a - b + i + 1 by omega, Nat.mul_comm, ← e, Nat.add_comm 1 i]; rfl
      have hle : bin (a - b + i) i * (a - b + (1 + i)) ≤ 16777216 * 25 := Nat.mul_le_mul (by omega) (by omega)
      rw [pk_lDiv (by omega) (by omega) (by omega), hm, Nat.mul_div_cancel_left _ (by omega), nI_1]
      exact hK
    · unfold f_X5_choose_B16
      refine it_t (by omega) (by omega) ?_
      rw [show a - b + b = a by omega]; exact h
def JB (t : Nat → Int64) : Prop := ∀ n k, k ≤ n → n < 25 → t (25 * n + k) = lN (bin n k)
theorem e_mchoose {N a b : Nat} {t : Nat → Int64} {post : Int64 → Prop} (hB : JB t) (ha : a ≤ 24) (hb : b < 2 ^ 20) (h : post (lN (bin a b))) : f_X6_choose N t (nI a) (nI b) post := by
  unfold f_X6_choose
  refine im (nI_pos (by omega)) ?_
  rcases Nat.lt_or_ge a b with q | q
  · refine il_f q (by omega) ?_
    rw [bin_gt a b q] at h; exact h
  · refine il_t q (by omega) ?_
    have e : (25 * nI a + nI b : Int32) = nI (25 * a + b) := by show nI 25 * nI a + nI b = _; rw [pk_mul, nI_add]
    rw [e, nI_clamp (by omega), hB a b q (by omega)]
    exact ⟨vpn (by omega) (by omega), h⟩
/-- luck -/
theorem JH.nums {n : Nat} {p a b c s : Nat → Int32} (h : JH n p a b c s) {i : Nat} (hi : i < n) : ∃ P A B C : Nat, p i = nI P ∧ a i = nI A ∧ b i = nI B ∧ c i = nI C ∧ 1 ≤ P ∧ P ≤ 12 ∧ A ≤ P ∧ B ≤ P ∧ C ≤ 63 := by
  obtain ⟨z1, z2, z3, z4, z5, z6, z7, z8⟩ := (h.2.2 i hi).2
  obtain ⟨P, hP, eP⟩ := i32_in (n := 12) (by omega) (Int32.le_trans (show (0 : Int32) ≤ 1 by decide) z1) z2
  rw [eP] at z1 z4 z6
  obtain ⟨A, hA, eA⟩ := i32_in (by omega) z3 z4
  obtain ⟨B, hB, eB⟩ := i32_in (by omega) z5 z6
  obtain ⟨C, hC, eC⟩ := i32_in (n := 63) (by omega) z7 z8
  exact ⟨P, A, B, C, eP, eA, eB, eC, (nI_leI (a := 1) (by omega) (by omega)).mp z1, hP, hA, hB, hC⟩
def lkF (P A B : Nat) (i : Nat) : Int64 := lN (bin (A + B) (A + i)) * lN (bin (2 * P - (A + B)) (P - (A + i)))
theorem two_n (P : Nat) : (2 * nI P : Int32) = nI (2 * P) := by show nI 2 * nI P = _; rw [pk_mul]
theorem e_lk {N P A B : Nat} {ke : Int64 → Int32 → Prop} (hN : 5000 ≤ N) (hP : P ≤ 12) (hA : A ≤ P) (hB : B ≤ P) (h : ∀ z, ke (sL (lkF P A B) (P + 1 - A)) z) : f_X2_waysOfLuck_L32 N (nI P) (nI (A + B)) ke N 0 (nI A) := by
  refine lq2 (f_X2_waysOfLuck_L32 N (nI P) (nI (A + B)) ke) (fun K u v => f_X2_waysOfLuck_B32 N (nI P) (nI (A + B)) K ke u v) (fun _ _ _ => Iff.rfl) (fun i => sL (lkF P A B) i) (fun i => nI (A + i)) (P + 1 - A) (fun i hi K hK => ?_) (fun K => ?_) N (by omega)
  · unfold f_X2_waysOfLuck_B32
    refine it_f (by omega) (by omega) (e_choose hN (by omega) (by omega) ?_)
    rw [two_n, pk_sub (by omega), pk_sub (by omega)]
    refine e_choose hN (by omega) (by omega) (nmi (nmi ?_))
    rw [nI_1]; exact hK
  · unfold f_X2_waysOfLuck_B32
    exact it_t (by omega) (by omega) (h _)
theorem e_mlk {N P A B : Nat} {t : Nat → Int64} {ke : Int64 → Int32 → Prop} (hN : 5000 ≤ N) (hT : JB t) (hP : P ≤ 12) (hA : A ≤ P) (hB : B ≤ P) (h : ∀ z, ke (sL (lkF P A B) (P + 1 - A)) z) : f_X6_luck_L57 N t (nI P) (nI (A + B)) ke N 0 (nI A) := by
  refine lq2 (f_X6_luck_L57 N t (nI P) (nI (A + B)) ke) (fun K u v => f_X6_luck_B57 N t (nI P) (nI (A + B)) K ke u v) (fun _ _ _ => Iff.rfl) (fun i => sL (lkF P A B) i) (fun i => nI (A + i)) (P + 1 - A) (fun i hi K hK => ?_) (fun K => ?_) N (by omega)
  · unfold f_X6_luck_B57
    refine it_f (by omega) (by omega) (e_mchoose hT (by omega) (by omega) ?_)
    rw [two_n, pk_sub (by omega), pk_sub (by omega)]
    refine e_mchoose hT (by omega) (by omega) (nmi (nmi ?_))
    rw [nI_1]; exact hK
  · unfold f_X6_luck_B57
    exact it_t (by omega) (by omega) (h _)
theorem p_luck {N n : Nat} {p a b c s : Nat → Int32} {t : Nat → Int64} (hJ : JH n p a b c s) (hT : JB t) (hN : 5000 ≤ N) {x1 x2 : Int32} {K : Int32 → Int32 → Int32 → Prop} (hK : ∀ r, K r r 0) : f_X5_luck N (nI n) p a b x1 x2 (fun r => f_X6_luck N s t x1 x2 (fun r2 u => K r r2 u)) := by
  have hn := hJ.1
  unfold f_X5_luck f_X6_luck
  refine e_has (by omega) (fun i hi e => im n10 ?_) (fun q => ip rfl ?_)
  · subst e
    have hv : vp_in (nI i) 12 := vpn (by omega) (by omega)
    obtain ⟨P, A, B, C, eP, eA, eB, -, h1, h2, h3, h4, -⟩ := hJ.nums hi
    have z := (hJ.2.2 i hi).1
    have mo : ∀ (r : Int32), (if ¬ x2 = 0 then K r (lN (bin (2 * P) P)).toInt32 0 else K r (sL (lkF P A B) (P + 1 - A)).toInt32 0) → (0 ≤ x2 ∧ x2 ≤ 1) → f_X6_isHouse N s (nI i) (fun r1 : Int32 => (if r1 = 0 then K r (-1) 0 else f_X6_in N x2 0 1 (fun r2 : Int32 => (if ¬ r2 = 0 then f_X6_of N s (nI i) 0 (fun r3 : Int32 => f_X6_of N s (nI i) 1 (fun r4 : Int32 => f_X6_of N s (nI i) 2 (fun r5 : Int32 => nm (r4 + r5) (fun v6 : Int32 => f_X6_of N s (nI i) 1 (fun r7 : Int32 => f_X6_luck_L57 N t r3 v6 (fun (o14 : Int64) (o15 : Int32) => (if ¬ x2 = 0 then f_X6_choose N t (2 * r3) r3 (fun r17 : Int64 => f_X6_luck_J114 N (fun r2 u => K r r2 u) r17) else f_X6_luck_J114 N (fun r2 u => K r r2 u) o14)) N 0 r7))))) else K r (-1) 0)))) := by
      intro r h hx
      refine e_isHouse hn hJ.2.1 (fun _ _ _ => im n10 ?_) (fun q => ?_)
      · refine e_in (fun _ _ => ip n10 ?_) (fun q => absurd hx q)
        refine e_of (w := 0) (by omega) (by omega) (e_of (w := 1) (by omega) (by omega) (e_of (w := 2) (by omega) (by omega) (nmi (e_of (w := 1) (by omega) (by omega) ?_))))
        rw [z.1, z.2.1, z.2.2.1, eP, eA, eB, nI_add]
        refine e_mlk hN hT h2 h3 h4 (fun _ => ?_)
        by_cases q : ¬ x2 = 0
        · rw [if_pos q] at h ⊢
          rw [two_n]
          exact e_mchoose hT (by omega) (by omega) h
        · rw [if_neg q] at h ⊢; exact h
      · rcases q with q | q
        · exact absurd q (nI_pos (by omega))
        · exact absurd q (nI_ge hi (by omega))
    refine e_within (fun a1 a2 => ip n10 (is_ (fun q => ?_) (fun q => ?_))) (fun q => im n00 ?_)
    · refine ⟨hv, hv, ?_⟩
      rw [nI_clamp (by omega), eP, two_n]
      refine e_choose hN (by omega) (by omega) (mo _ ?_ ⟨a1, a2⟩)
      rw [if_pos q]; exact hK _
    · refine ⟨hv, nmi ⟨hv, hv, nmi ⟨hv, nmi ?_⟩⟩⟩
      rw [nI_clamp (by omega), eP, eA, eB, nI_add]
      refine e_lk hN h2 h3 h4 (fun _ => mo _ ?_ ⟨a1, a2⟩)
      rw [if_neg q]; exact hK _
    · exact e_isHouse hn hJ.2.1 (fun _ _ _ => im n10 (e_in (fun a1 a2 => absurd ⟨a1, a2⟩ q) (fun _ => im n00 (hK _)))) (fun _ => ip rfl (hK _))
  · refine e_isHouse hn hJ.2.1 (fun i hi e => ?_) (fun _ => ip rfl (hK _))
    subst e
    rcases q with q | q
    · exact absurd q (nI_pos (by omega))
    · exact absurd q (nI_ge hi (by omega))
/-- the triangle -/
theorem x25 (n : Nat) : (25 * nI n : Int32) = nI (25 * n) := by show nI 25 * nI n = _; rw [pk_mul]
def Tn (n k : Nat) (w : Nat → Int64) : Prop := (∀ m j, j ≤ m → m < n → w (25 * m + j) = lN (bin m j)) ∧ ∀ j, j < k → w (25 * n + j) = lN (bin n j)
theorem Tn_step {n k : Nat} {w : Nat → Int64} (h : Tn n k w) (hn : n < 25) (hk : k < 25) {v : Int64} (hv : v = lN (bin n k)) : Tn n (k + 1) (vp_updL w (25 * n + k) v) := by
  refine ⟨fun m j hj hm => ?_, fun j hj => ?_⟩
  · rw [pk_uLn (by omega)]; exact h.1 m j hj hm
  · by_cases e : j = k
    · rw [e, pk_uLs]; exact hv
    · rw [pk_uLn (by omega)]; exact h.2 j (by omega)
theorem tri_in {N n : Nat} {ke : Int32 → (Nat → Int64) → Prop} (hn : n < 25) (h : ∀ z w, Tn n (n + 1) w → ke z w) : ∀ r k fuel w, k + r = n + 1 → 1 ≤ k → r < fuel → Tn n k w → f_X6_init_L80 N (nI n) ke fuel (nI k) w := by
  intro r
  induction r with
  | zero =>
    intro k fuel w hk h1 hf hT
    obtain ⟨f, rfl⟩ : ∃ f, fuel = f + 1 := ⟨fuel - 1, by omega⟩
    show f_X6_init_B80 N (nI n) _ ke (nI k) w
    unfold f_X6_init_B80
    have e : k = n + 1 := by omega
    subst e
    exact it_t (by omega) (by omega) (h _ _ hT)
  | succ r ih =>
    intro k fuel w hk h1 hf hT
    obtain ⟨f, rfl⟩ : ∃ f, fuel = f + 1 := ⟨fuel - 1, by omega⟩
    show f_X6_init_B80 N (nI n) _ ke (nI k) w
    unfold f_X6_init_B80 f_X6_init_J132
    have e1 : (25 * (nI n - 1) : Int32) + nI k = nI (25 * (n - 1) + k) := by rw [sub1 (by omega), x25, nI_add]
    have e2 : nI (25 * (n - 1) + k) - 1 = nI (25 * (n - 1) + (k - 1)) := by rw [sub1 (by omega)]; congr 1; omega
    refine it_f (by omega) (by omega) ?_
    rw [e1, e2, x25, nI_add, nI_clamp (by omega), nI_clamp (by omega), nI_clamp (by omega), nI_1]
    refine ⟨vpn (by omega) (by omega), ?_⟩
    have o1 := hT.1 (n - 1) (k - 1) (by omega) (by omega)
    obtain ⟨n', rfl⟩ : ∃ n', n = n' + 1 := ⟨n - 1, by omega⟩
    obtain ⟨k', rfl⟩ : ∃ k', k = k' + 1 := ⟨k - 1, by omega⟩
    simp only [Nat.add_sub_cancel] at o1 ⊢
    rcases Nat.lt_or_ge (k' + 1) (n' + 1) with q | q
    · refine il_f q (by omega) ⟨vpn (by omega) (by omega), nmi ⟨vpn (by omega) (by omega), nmi (ih (k' + 1 + 1) f _ (by omega) (by omega) (by omega) (Tn_step hT hn (by omega) ?_))⟩⟩
      have o2 := hT.1 n' (k' + 1) (by omega) (by omega)
      rw [o1, o2, lN_add, bin_s]
    · refine il_t q (by omega) (nmi ⟨vpn (by omega) (by omega), nmi (ih (k' + 1 + 1) f _ (by omega) (by omega) (by omega) (Tn_step hT hn (by omega) ?_))⟩)
      rw [o1, bin_s, bin_gt n' (k' + 1) (by omega)]; exact Int64.add_zero _
theorem tri_out {N : Nat} {post : (Nat → Int64) → Prop} (hN : 5000 ≤ N) (h : ∀ w, JB w → post w) : ∀ r n fuel w, n + r = 25 → r < fuel → (∀ m j, j ≤ m → m < n → w (25 * m + j) = lN (bin m j)) → f_X6_init_L62 N post fuel (nI n) w := by
  intro r
  induction r with
  | zero =>
    intro n fuel w hn hf hT
    obtain ⟨f, rfl⟩ : ∃ f, fuel = f + 1 := ⟨fuel - 1, by omega⟩
    show f_X6_init_B62 N post _ (nI n) w
    unfold f_X6_init_B62
    have e : n = 25 := by omega
    subst e
    exact il_t (a := 25) (by omega) (by omega) (h w (fun m k hk hm => hT m k hk hm))
  | succ r ih =>
    intro n fuel w hn hf hT
    obtain ⟨f, rfl⟩ : ∃ f, fuel = f + 1 := ⟨fuel - 1, by omega⟩
    show f_X6_init_B62 N post _ (nI n) w
    unfold f_X6_init_B62
    refine il_f (a := 25) (by omega) (by omega) ?_
    rw [x25, nI_clamp (by omega), nI_1]
    refine ⟨vpn (by omega) (by omega), ?_⟩
    refine tri_in (by omega) (fun z w' hw => nmi (ih (n + 1) f w' (by omega) (by omega) (fun m j hj hm => ?_))) n 1 N _ (by omega) (by omega) (by omega) ?_
    · rcases Nat.lt_or_ge m n with q | q
      · exact hw.1 m j hj q
      · have e : m = n := by omega
        subst e
        exact hw.2 j (by omega)
    · refine Tn_step (n := n) (k := 0) ⟨hT, fun j hj => absurd hj (by omega)⟩ (by omega) (by omega) ?_
      rw [bin_0]; rfl
theorem p_init {N : Nat} {post : (Nat → Int64) → Prop} (hN : 5000 ≤ N) (h : ∀ w, JB w → post w) : f_X6_init N post :=
  tri_out hN h 25 0 N _ (by omega) (by omega) (fun m j hj hm => absurd hm (by omega))
