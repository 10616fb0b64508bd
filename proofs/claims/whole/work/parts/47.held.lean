/-! held; stands. -/
abbrev sqT (T cm : Nat → Int32) (i : Nat) : Int32 := (T i - (100 * cm i)) * (T i - (100 * cm i))
theorem e_squares {N k : Nat} {T cm : Nat → Int32} {post : Int32 → Prop} (hN : 5000 ≤ N) (hk : k ≤ 16) (h : post (sI (sqT T cm) k)) : f_X1_squaresOff N (nI k) cm T post := by
  refine lq2 (f_X1_squaresOff_L4 N (nI k) cm T (fun o6 o7 => post o6)) (fun K u v => f_X1_squaresOff_B4 N (nI k) cm T K (fun o6 o7 => post o6) u v) (fun _ _ _ => Iff.rfl) (fun j => sI (sqT T cm) j) nI k (fun j hj K hK => ?_) (fun K => ?_) N (by omega)
  · unfold f_X1_squaresOff_B4
    refine il_f hj (by omega) ⟨vpn (by omega) (by omega), vpn (by omega) (by omega), nmi (nmi (nmi ?_))⟩
    rw [nI_clamp (by omega), nI_1]; exact hK
  · unfold f_X1_squaresOff_B4
    exact il_t (Nat.le_refl k) (by omega) h
/-- the told row of a side -/
def TW (w k : Nat) (T s : Nat → Int32) : Prop := w < 2 ∧ ∀ i, i < k → s (50 + 4 * i + w) = T i
theorem m_squares {N k w : Nat} {pr mk cm gr T s : Nat → Int32} {ke : Int32 → Int32 → Prop} (hN : 5000 ≤ N) (hF : JF k pr mk cm gr s) (hT : TW w k T s) (h : ke (sI (sqT T cm) k) (nI k)) : f_X6_held_L66 N s (nI w) ke N 0 0 := by
  have hk := hF.1
  refine lq2 (f_X6_held_L66 N s (nI w) ke) (fun K u v => f_X6_held_B66 N s (nI w) K ke u v) (fun _ _ _ => Iff.rfl) (fun j => sI (sqT T cm) j) nI k (fun j hj K hK => ?_) (fun K => ?_) N (by omega)
  · unfold f_X6_held_B66
    rw [cl49, hF.2.1]
    refine il_f hj (by omega) (e_told_ (by omega) (by have := hT.1; omega) (e_told_ (w := 2) (by omega) (by omega) (nmi (nmi (nmi ?_)))))
    rw [hT.2 j hj, (hF.2.2 j hj).1.2.2.1, nI_1]; exact hK
  · unfold f_X6_held_B66
    rw [cl49, hF.2.1]
    exact il_t (Nat.le_refl k) (by omega) h
/-- pairs -/
def tm (T cm : Nat → Int32) (i j : Nat) : Int32 := if cm i = 1 then (if cm j = 0 then (if T i ≤ T j then (if ¬ T i = T j then 0 else 1) else 2) else 0) else 0
theorem e_compare {N : Nat} {x y : Int32} {post : Int32 → Prop} (h : ∀ r, 1 + r = (if x ≤ y then (if ¬ x = y then 0 else 1) else 2) → post r) : f_J6_compare_7cf53 N x y post := by
  unfold f_J6_compare_7cf53
  refine is_ (fun q => is_ (fun q2 => h _ ?_) (fun q2 => h _ ?_)) (fun q => h _ ?_)
  · rw [if_neg (fun z => q2 (Int32.le_antisymm z q))]; decide
  · have e := Classical.not_not.mp q2
    rw [if_pos (by rw [e]; exact Int32.le_refl y), if_neg (fun z => z e)]; decide
  · rw [if_pos (Int32.le_of_lt (Int32.not_le.mp q)), if_pos (fun z => q (by rw [z]; exact Int32.le_refl y))]; decide
theorem e_pairs {N k : Nat} {T cm : Nat → Int32} {post : Int32 → Prop} (hN : 5000 ≤ N) (hk : k ≤ 16) (h : post (sI (fun i => sI (tm T cm i) k) k)) : f_X1_pairsRight N (nI k) cm T post := by
  refine lq2 (f_X1_pairsRight_L4 N (nI k) cm T (fun o12 o13 => post o12)) (fun K u v => f_X1_pairsRight_B4 N (nI k) cm T K (fun o12 o13 => post o12) u v) (fun _ _ _ => Iff.rfl) (fun j => sI (fun i => sI (tm T cm i) k) j) nI k (fun i hi K hK => ?_) (fun K => ?_) N (by omega)
  · unfold f_X1_pairsRight_B4
    refine il_f hi (by omega) ?_
    have e0 : sI (fun i => sI (tm T cm i) k) i = sI (fun i => sI (tm T cm i) k) i + sI (tm T cm i) 0 := (Int32.add_zero _).symm
    rw [e0]
    refine lq2 (f_X1_pairsRight_L15 N (nI k) cm T (nI i) (fun o9 o10 => nm (nI i + 1) (fun v11 => K o9 v11))) (fun K2 u v => f_X1_pairsRight_B15 N (nI k) cm T (nI i) K2 (fun o9 o10 => nm (nI i + 1) (fun v11 => K o9 v11)) u v) (fun _ _ _ => Iff.rfl) (fun j => sI (fun i => sI (tm T cm i) k) i + sI (tm T cm i) j) nI k (fun j hj K2 hK2 => ?_) (fun K2 => ?_) N (by omega)
    · unfold f_X1_pairsRight_B15 f_X1_pairsRight_J59
      have vi : vp_in (nI i) 16 := vpn (by omega) (by omega)
      have vj : vp_in (nI j) 16 := vpn (by omega) (by omega)
      rw [nI_clamp (show i < 2 ^ 31 by omega), nI_clamp (show j < 2 ^ 31 by omega)]
      rw [sI, ← Int32.add_assoc] at hK2
      refine il_f hj (by omega) ⟨vi, is_ (fun q => ?_) (fun q => ⟨vj, is_ (fun q2 => ?_) (fun q2 => ⟨vi, vj, e_compare (fun r hr => nmi ?_)⟩)⟩)⟩
      · show K2 _ (nI j + 1)
        have : tm T cm i j = 0 := if_neg q
        rw [this, Int32.add_zero] at hK2
        rw [nI_1]; exact hK2
      · show K2 _ (nI j + 1)
        have : tm T cm i j = 0 := by unfold tm; rw [if_pos (Classical.not_not.mp q), if_neg q2]
        rw [this, Int32.add_zero] at hK2
        rw [nI_1]; exact hK2
      · show K2 _ (nI j + 1)
        have : tm T cm i j = 1 + r := by unfold tm; rw [if_pos (Classical.not_not.mp q), if_pos (Classical.not_not.mp q2)]; exact hr.symm
        rw [this] at hK2
        rw [nI_1]; exact hK2
    · unfold f_X1_pairsRight_B15
      refine il_t (Nat.le_refl k) (by omega) ?_
      show K _ (nI i + 1)
      rw [nI_1]; exact hK
  · unfold f_X1_pairsRight_B4
    exact il_t (Nat.le_refl k) (by omega) h
theorem m_pairs {N k w : Nat} {pr mk cm gr T s : Nat → Int32} {post : Int32 → Prop} (hN : 5000 ≤ N) (hF : JF k pr mk cm gr s) (hT : TW w k T s) (h : post (sI (fun i => sI (tm T cm i) k) k)) : f_X6_right N s (nI w) post := by
  have hk := hF.1
  have hw := hT.1
  refine lq2 (f_X6_right_L4 N s (nI w) (fun o18 o19 => post o18)) (fun K u v => f_X6_right_B4 N s (nI w) K (fun o18 o19 => post o18) u v) (fun _ _ _ => Iff.rfl) (fun j => sI (fun i => sI (tm T cm i) k) j) nI k (fun i hi K hK => ?_) (fun K => ?_) N (by omega)
  · unfold f_X6_right_B4
    rw [cl49, hF.2.1]
    refine il_f hi (by omega) ?_
    have e0 : sI (fun i => sI (tm T cm i) k) i = sI (fun i => sI (tm T cm i) k) i + sI (tm T cm i) 0 := (Int32.add_zero _).symm
    rw [e0]
    refine lq2 (f_X6_right_L18 N s (nI w) (nI i) (fun o15 o16 => nm (nI i + 1) (fun v17 => K o15 v17))) (fun K2 u v => f_X6_right_B18 N s (nI w) (nI i) K2 (fun o15 o16 => nm (nI i + 1) (fun v17 => K o15 v17)) u v) (fun _ _ _ => Iff.rfl) (fun j => sI (fun i => sI (tm T cm i) k) i + sI (tm T cm i) j) nI k (fun j hj K2 hK2 => ?_) (fun K2 => ?_) N (by omega)
    · unfold f_X6_right_B18 f_X6_right_J92 f_X6_right_J94
      rw [cl49, hF.2.1]
      rw [sI, ← Int32.add_assoc] at hK2
      refine il_f hj (by omega) (e_told_ (w := 2) (by omega) (by omega) ?_)
      rw [(hF.2.2 i hi).1.2.2.1]
      refine is_ (fun q => ?_) (fun q => e_told_ (w := 2) (by omega) (by omega) ?_)
      · show K2 _ (nI j + 1)
        have : tm T cm i j = 0 := if_neg q
        rw [this, Int32.add_zero] at hK2
        rw [nI_1]; exact hK2
      rw [(hF.2.2 j hj).1.2.2.1]
      refine is_ (fun q2 => ?_) (fun q2 => e_told_ (by omega) (by omega) (e_told_ (by omega) (by omega) ?_))
      · show K2 _ (nI j + 1)
        have : tm T cm i j = 0 := by unfold tm; rw [if_pos (Classical.not_not.mp q), if_neg q2]
        rw [this, Int32.add_zero] at hK2
        rw [nI_1]; exact hK2
      rw [hT.2 i hi, hT.2 j hj]
      have e : tm T cm i j = (if T i ≤ T j then (if ¬ T i = T j then 0 else 1) else 2) := by unfold tm; rw [if_pos (Classical.not_not.mp q), if_pos (Classical.not_not.mp q2)]
      rw [e] at hK2
      refine is_ (fun q3 => e_told_ (by omega) (by omega) (e_told_ (by omega) (by omega) ?_)) (fun q3 => ?_)
      · rw [hT.2 i hi, hT.2 j hj]
        rw [if_pos q3] at hK2
        refine is_ (fun q4 => ?_) (fun q4 => ?_)
        · rw [if_pos q4] at hK2
          show K2 _ (nI j + 1)
          rw [nI_1]; exact hK2
        · rw [if_neg q4] at hK2
          show K2 _ (nI j + 1)
          rw [nI_1]; exact hK2
      · rw [if_neg q3] at hK2
        show K2 _ (nI j + 1)
        rw [nI_1]; exact hK2
    · unfold f_X6_right_B18
      rw [cl49, hF.2.1]
      refine il_t (Nat.le_refl k) (by omega) ?_
      show K _ (nI i + 1)
      rw [nI_1]; exact hK
  · unfold f_X6_right_B4
    rw [cl49, hF.2.1]
    exact il_t (Nat.le_refl k) (by omega) h
/-- right by a cut -/
def rt (T cm : Nat → Int32) (c : Int32) (i : Nat) : Bool := decide ((if T i < c then (0 : Int32) else 1) = cm i)
theorem e_rightBy {N k : Nat} {T cm : Nat → Int32} {c : Int32} {post : Int32 → Prop} (hN : 5000 ≤ N) (hk : k ≤ 16) (h : post (nI (ct (rt T cm c) k))) : f_X1_rightBy N (nI k) cm T c post := by
  refine lq2 (f_X1_rightBy_L5 N (nI k) cm T c (fun o7 o8 => post o7)) (fun K u v => f_X1_rightBy_B5 N (nI k) cm T c K (fun o7 o8 => post o7) u v) (fun _ _ _ => Iff.rfl) (fun j => nI (ct (rt T cm c) j)) nI k (fun j hj K hK => ?_) (fun K => ?_) N (by omega)
  · unfold f_X1_rightBy_B5 f_X1_rightBy_J27 f_X1_rightBy_J47
    have vj : vp_in (nI j) 16 := vpn (by omega) (by omega)
    rw [nI_clamp (show j < 2 ^ 31 by omega)]
    have go : ∀ z : Int32, z = (if T j < c then (0 : Int32) else 1) → (vp_in (nI j) 16 ∧ (if ¬ z = cm j then nm (nI (ct (rt T cm c) j) + 0) (fun v5 => nm (nI j + 1) (fun v6 => K v5 v6)) else nm (nI (ct (rt T cm c) j) + 1) (fun v5 => nm (nI j + 1) (fun v6 => K v5 v6)))) := by
      intro z hz
      refine ⟨vj, is_ (fun q => ?_) (fun q => ?_)⟩
      · show K _ (nI j + 1)
        rw [ct_f (by unfold rt; rw [← hz]; simp [q]), nI_1]; exact hK
      · show K _ (nI j + 1)
        rw [ct_t (by unfold rt; rw [← hz]; simp [Classical.not_not.mp q]), nI_1]; exact hK
    refine il_f hj (by omega) ⟨vj, is_ (fun q => go 0 (by rw [if_pos q])) (fun q => go 1 (by rw [if_neg q]))⟩
  · unfold f_X1_rightBy_B5
    exact il_t (Nat.le_refl k) (by omega) h
theorem m_rightBy {N k w : Nat} {pr mk cm gr T s : Nat → Int32} {c : Int32} {ke : Int32 → Int32 → Prop} (hN : 5000 ≤ N) (hF : JF k pr mk cm gr s) (hT : TW w k T s) (h : ke (nI (ct (rt T cm c) k)) (nI k)) : f_X6_cut_L21 N s (nI w) c ke N 0 0 := by
  have hk := hF.1
  have hw := hT.1
  refine lq2 (f_X6_cut_L21 N s (nI w) c ke) (fun K u v => f_X6_cut_B21 N s (nI w) c K ke u v) (fun _ _ _ => Iff.rfl) (fun j => nI (ct (rt T cm c) j)) nI k (fun j hj K hK => ?_) (fun K => ?_) N (by omega)
  · unfold f_X6_cut_B21 f_X6_cut_J51 f_X6_cut_J67 f_X6_cut_J75
    rw [cl49, hF.2.1]
    have z := (hF.2.2 j hj)
    have go : ∀ y : Int32, y = (if T j < c then (0 : Int32) else 1) → f_X6_told_ N s (nI j) 2 (fun r8 => (if ¬ r8 = 1 then (if ¬ y = 0 then nm (nI (ct (rt T cm c) j) + 0) (fun v11 => nm (nI j + 1) (fun v12 => K v11 v12)) else nm (nI (ct (rt T cm c) j) + 1) (fun v11 => nm (nI j + 1) (fun v12 => K v11 v12))) else (if ¬ y = 1 then nm (nI (ct (rt T cm c) j) + 0) (fun v11 => nm (nI j + 1) (fun v12 => K v11 v12)) else nm (nI (ct (rt T cm c) j) + 1) (fun v11 => nm (nI j + 1) (fun v12 => K v11 v12))))) := by
      intro y hy
      have end_ : ∀ x : Int32, x = cm j → (if ¬ y = x then nm (nI (ct (rt T cm c) j) + 0) (fun v11 => nm (nI j + 1) (fun v12 => K v11 v12)) else nm (nI (ct (rt T cm c) j) + 1) (fun v11 => nm (nI j + 1) (fun v12 => K v11 v12))) := by
        intro x hx
        refine is_ (fun q => ?_) (fun q => ?_)
        · show K _ (nI j + 1)
          rw [ct_f (by unfold rt; rw [← hy, ← hx]; simp [q]), nI_1]; exact hK
        · show K _ (nI j + 1)
          rw [ct_t (by unfold rt; rw [← hy, ← hx]; simp [Classical.not_not.mp q]), nI_1]; exact hK
      refine e_told_ (w := 2) (by omega) (by omega) ?_
      rw [z.1.2.2.1]
      rcases z.2.2.2.2.2.1 with e | e
      · exact ip (by rw [e]; decide) (end_ 0 e.symm)
      · exact im (nn e) (end_ 1 e.symm)
    refine il_f hj (by omega) (e_told_ (by omega) (by omega) ?_)
    rw [hT.2 j hj]
    exact is_ (fun q => go 0 (by rw [if_pos q])) (fun q => go 1 (by rw [if_neg q]))
  · unfold f_X6_cut_B21
    rw [cl49, hF.2.1]
    exact il_t (Nat.le_refl k) (by omega) h
/-- the cut, and how many are right by it -/
def cF (T cm : Nat → Int32) (k : Nat) : Nat → Int32 × Int32
  | 0 => (0, -1)
  | c + 1 => if nI (ct (rt T cm (nI c)) k) ≤ (cF T cm k c).2 then cF T cm k c else (nI c, nI (ct (rt T cm (nI c)) k))
theorem cF_ok {T cm : Nat → Int32} {k : Nat} (hk : k ≤ 16) : ∀ c, 0 < c → ∃ f, f < c ∧ (cF T cm k c).1 = nI f ∧ (cF T cm k c).2 = nI (ct (rt T cm (nI f)) k)
  | 0, h => absurd h (by omega)
  | c + 1, _ => by
    rw [cF]
    by_cases q : nI (ct (rt T cm (nI c)) k) ≤ (cF T cm k c).2
    · rw [if_pos q]
      rcases Nat.eq_zero_or_pos c with e | e
      · subst e
        exfalso
        have hl := ct_le (rt T cm (nI 0)) k
        have q2 : nI (ct (rt T cm (nI 0)) k) ≤ -1 := q
        exact absurd (Int32.le_trans (nI_pos' (by omega)) q2) (by decide)
      · obtain ⟨f, h1, h2, h3⟩ := cF_ok (T := T) (cm := cm) hk c e
        exact ⟨f, by omega, h2, h3⟩
    · rw [if_neg q]
      exact ⟨c, by omega, rfl, rfl⟩
theorem e_cut {N k : Nat} {T cm : Nat → Int32} {post : Int32 → Prop} (hN : 5000 ≤ N) (hk : k ≤ 16) (h : post (cF T cm k 102).1) : f_X1_cut N (nI k) cm T post := by
  refine lq3 (f_X1_cut_L7 N (nI k) cm T (fun o8 o9 o10 => post o8)) (fun K u v x => f_X1_cut_B7 N (nI k) cm T K (fun o8 o9 o10 => post o8) u v x) (fun _ _ _ _ => Iff.rfl) (fun j => (cF T cm k j).1) (fun j => (cF T cm k j).2) nI 102 (fun j hj K hK => ?_) (fun K => ?_) N (by omega)
  · unfold f_X1_cut_B7 f_X1_cut_J35
    rw [cF] at hK
    refine it_f (a := 101) (by omega) (by omega) (e_rightBy hN hk (is_ (fun q => ?_) (fun q => ?_)))
    · rw [if_pos q] at hK
      show K _ _ (nI j + 1)
      rw [nI_1]; exact hK
    · rw [if_neg q] at hK
      show K _ _ (nI j + 1)
      rw [nI_1]; exact hK
  · unfold f_X1_cut_B7
    exact it_t (a := 101) (by omega) (by omega) h
theorem m_cut {N k w : Nat} {pr mk cm gr T s : Nat → Int32} {post : Int32 → Int32 → Prop} (hN : 5000 ≤ N) (hF : JF k pr mk cm gr s) (hT : TW w k T s) (h : post (cF T cm k 102).1 (cF T cm k 102).2) : f_X6_cut N s (nI w) post := by
  refine lq3 (f_X6_cut_L9 N s (nI w) (fun o18 o19 o20 => post o18 o20)) (fun K u v x => f_X6_cut_B9 N s (nI w) K (fun o18 o19 o20 => post o18 o20) u v x) (fun _ _ _ _ => Iff.rfl) (fun j => (cF T cm k j).1) nI (fun j => (cF T cm k j).2) 102 (fun j hj K hK => ?_) (fun K => ?_) N (by omega)
  · unfold f_X6_cut_B9 f_X6_cut_J98 f_X6_cut_J118
    rw [cF] at hK
    refine il_f (a := 102) hj (by omega) (m_rightBy hN hF hT (is_ (fun q => ip q ?_) (fun q => im q ?_)))
    · rw [if_pos q] at hK
      show K _ (nI j + 1) _
      rw [nI_1]; exact hK
    · rw [if_neg q] at hK
      show K _ (nI j + 1) _
      rw [nI_1]; exact hK
  · unfold f_X6_cut_B9
    exact il_t (a := 102) (Nat.le_refl 102) (by omega) h
theorem held_row {N k w : Nat} {pr mk cm gr T s : Nat → Int32} {cr x2 : Int32} {K : Int32 → Int32 → Int32 → Int32 → Prop} (hN : 5000 ≤ N) (hF : JF k pr mk cm gr s) (hT : TW w k T s) (hK : ∀ r c, K r r 0 c) : (if x2 = 0 then f_X1_squaresOff N (nI k) cm T (fun r7 => f_X6_held N cr s (nI w) x2 (fun r2 t c => K r7 r2 t c)) else (if x2 = 1 then f_X1_pairsRight N (nI k) cm T (fun r8 => f_X6_held N cr s (nI w) x2 (fun r2 t c => K r8 r2 t c)) else (if x2 = 2 then f_X1_cut N (nI k) cm T (fun r9 => f_X6_held N cr s (nI w) x2 (fun r2 t c => K r9 r2 t c)) else (if x2 = 3 then f_X1_cut N (nI k) cm T (fun r10 => f_X1_rightBy N (nI k) cm T r10 (fun r11 => f_X6_held N cr s (nI w) x2 (fun r2 t c => K r11 r2 t c))) else f_X6_held N cr s (nI w) x2 (fun r2 t c => K (-1) r2 t c))))) := by
  have hk := hF.1
  have hw := hT.1
  have run : ∀ (v : Nat), v ≤ 3 → x2 = nI v → ∀ post : Int32 → Int32 → Int32 → Prop, (if ¬ x2 = 1 then (if x2 ≤ 1 then f_X6_held_L66 N s (nI w) (fun o10 o11 => post o10 0 cr) N 0 0 else f_X6_cut N s (nI w) (fun r12 u13 => (if ¬ x2 = 2 then post u13 0 u13 else post r12 0 u13))) else f_X6_right N s (nI w) (fun r14 => post r14 0 cr)) → f_X6_held N cr s (nI w) x2 post := by
    intro v hv e post h
    unfold f_X6_held
    refine e_in (fun _ _ => im n10 (e_in (fun _ _ => ip n10 h) (fun q => absurd ⟨by rw [e]; exact nI_pos' (by omega), by rw [e]; exact nI_le (b := 3) (by omega) (by omega)⟩ q))) (fun q => absurd ⟨nI_pos' (by omega), nI_le (b := 1) (by omega) (by omega)⟩ q)
  refine is_ (fun e => e_squares hN hk (run 0 (by omega) e _ (ip (by rw [e]; decide) (ip (by rw [e]; decide) (m_squares hN hF hT (hK _ _)))))) (fun e0 => is_ (fun e => e_pairs hN hk (run 1 (by omega) e _ (im (nn e) (m_pairs hN hF hT (hK _ _))))) (fun e1 => is_ (fun e => e_cut hN hk (run 2 (by omega) e _ (ip e1 (im (by rw [e]; decide) (m_cut hN hF hT (im (nn e) (hK _ _))))))) (fun e2 => is_ (fun e => e_cut hN hk (e_rightBy hN hk (run 3 (by omega) e _ (ip e1 (im (by rw [e]; decide) (m_cut hN hF hT (ip e2 ?_))))))) (fun e3 => ?_))))
  · obtain ⟨f, h1, h2, h3⟩ := cF_ok (T := T) (cm := cm) hk 102 (by omega)
    rw [h2, h3]; exact hK _ _
  · unfold f_X6_held
    refine e_in (fun _ _ => im n10 (e_in (fun q1 q2 => ?_) (fun _ => im n00 (hK _ _)))) (fun q => absurd ⟨nI_pos' (by omega), nI_le (b := 1) (by omega) (by omega)⟩ q)
    exfalso
    obtain ⟨v, hv, e⟩ := i32_in (n := 3) (by omega) q1 q2
    rcases (show v = 0 ∨ v = 1 ∨ v = 2 ∨ v = 3 by omega) with rfl | rfl | rfl | rfl
    · exact e0 e
    · exact e1 e
    · exact e2 e
    · exact e3 e
theorem p_held {N k : Nat} {pr mk cm gr s : Nat → Int32} {cr x1 x2 : Int32} (hN : 5000 ≤ N) (hF : JF k pr mk cm gr s) {K : Int32 → Int32 → Int32 → Int32 → Prop} (hK : ∀ r c, K r r 0 c) : f_X5_held N (nI k) pr mk cm x1 x2 (fun r => f_X6_held N cr s x1 x2 (fun r2 t c => K r r2 t c)) := by
  unfold f_X5_held
  refine e_within (fun q1 q2 => ip n10 ?_) (fun q => im n00 ?_)
  · obtain ⟨w, hw, rfl⟩ := i32_in (n := 1) (by omega) q1 q2
    rcases (show w = 0 ∨ w = 1 by omega) with rfl | rfl
    · exact im (by decide) (held_row (w := 0) hN hF ⟨by omega, fun i hi => (hF.2.2 i hi).1.1⟩ hK)
    · exact ip (by decide) (held_row (w := 1) hN hF ⟨by omega, fun i hi => (hF.2.2 i hi).1.2.1⟩ hK)
  · unfold f_X6_held
    exact e_in (fun q1 q2 => absurd ⟨q1, q2⟩ q) (fun _ => ip rfl (hK _ _))
/-- stands -/
theorem pc_or {g o : Nat} (ho : o < 16) (h : g.testBit o = false) : pc (g ||| 2 ^ o) = pc g + 1 := by
  have key : ∀ n, ct (fun i => (g ||| 2 ^ o).testBit i) n = ct (fun i => g.testBit i) n + (if o < n then 1 else 0) := by
    intro n
    induction n with
    | zero => rfl
    | succ n ih =>
      rw [ct, ct, ih, Nat.testBit_or, Nat.testBit_two_pow]
      rcases Nat.lt_trichotomy o n with q | q | q
      · rw [if_pos q, if_pos (show o < n + 1 by omega)]
        have : decide (o = n) = false := by simp; omega
        rw [this, Bool.or_false]; omega
      · subst q
        rw [if_neg (Nat.lt_irrefl o), if_pos (Nat.lt_succ_self o), h]
        simp
      · rw [if_neg (show ¬ o < n by omega), if_neg (show ¬ o < n + 1 by omega)]
        have : decide (o = n) = false := by simp; omega
        rw [this, Bool.or_false]; omega
  unfold pc
  rw [key, if_pos ho]
theorem p_stands {N k : Nat} {pr mk cm gr s : Nat → Int32} {x1 x2 : Int32} (hN : 5000 ≤ N) (hF : JF k pr mk cm gr s) {K : Int32 → (Nat → Int32) → Int32 → Int32 → (Nat → Int32) → Prop} (hK : ∀ r gr' s', JF k pr mk cm gr' s' → (∀ j, j < 49 → s' j = s j) → K r gr' r 0 s') : f_X5_stands N (nI k) gr x1 x2 (fun r gr' => f_X6_stands N s x1 x2 (fun r2 t s' => K r gr' r2 t s')) := by
  have hk := hF.1
  have same := fun r => hK r gr s hF (fun _ _ => rfl)
  have nh : ∀ i, i < k → ¬ (nI i < 0 ∨ nI k ≤ nI i) := by
    intro i hi q
    rcases q with q | q
    · exact absurd q (nI_pos (by omega))
    · exact absurd q (nI_ge hi (by omega))
  have isF : ∀ (x : Int32) (post : Int32 → Prop), (∀ i, i < k → x = nI i → post 1) → ((x < 0 ∨ nI k ≤ x) → post 0) → f_X6_isFinding N s x post := by
    intro x post h1 h0
    unfold f_X6_isFinding
    rw [cl49, hF.2.1]
    rcases i32_cases x (n := k) (by omega) with ⟨i, hi, rfl⟩ | h
    · refine e_in (fun _ _ => h1 i hi rfl) (fun q => absurd ⟨nI_pos' (by omega), ?_⟩ q)
      rw [sub1 (by omega)]
      exact nI_le (by omega) (by omega)
    · exact e_in (fun q1 q2 => (no_ix (by omega) h q1 q2).elim) (fun _ => h0 h)
  have hasF : ∀ (x : Int32) (post : Int32 → Prop), (∀ i, i < k → x = nI i → post 1) → ((x < 0 ∨ nI k ≤ x) → post 0) → f_X1_has N (nI k) x post := fun x post h1 h0 => e_has (N := N) (by omega) h1 h0
  unfold f_X5_stands
  refine hasF _ _ (fun i hi e => im n10 ?_) (fun q => ip rfl ?_)
  · subst e
    have z := hF.2.2 i hi
    obtain ⟨g, eg, hg, hp⟩ := z.2.2.2.2.2.2
    have hg16 : g < 65536 := Nat.lt_of_lt_of_le hg (p2_le (by omega))
    have vi : vp_in (nI i) 16 := vpn (by omega) (by omega)
    have hc : (nI i).toNatClampNeg = i := nI_clamp (by omega)
    have bad : ¬ (0 ≤ x2 ∧ x2 ≤ nI i - 1) → f_X6_stands N s (nI i) x2 (fun r2 t s' => K (-1) gr r2 t s') := by
      intro q
      unfold f_X6_stands
      exact isF _ _ (fun _ _ _ => im n10 (e_in (fun q1 q2 => absurd ⟨q1, q2⟩ q) (fun _ => ip rfl (same _)))) (fun q => absurd q (nh i hi))
    refine e_within (fun q1 q2 => im n10 ?_) (fun q => ip rfl (bad q))
    have hi0 : 0 < i := by
      rcases Nat.eq_zero_or_pos i with e | e
      · subst e; exact absurd (Int32.le_trans q1 q2) (by decide)
      · exact e
    rw [sub1 hi0] at q2
    obtain ⟨o, ho, rfl⟩ := i32_in (n := i - 1) (by omega) q1 q2
    unfold f_X1_isOn
    rw [hc, eg]
    have open_ : ∀ post : Int32 → Int32 → (Nat → Int32) → Prop, (if ¬ ((nI g >>> (nI o &&& 31)) &&& 1) = 1 then f_X6_told_ N s (nI i) 3 (fun r4 => f_X6_ones N r4 (fun r5 => (if ¬ r5 = 3 then (vp_in ((50 + (4 * nI i)) + 3) 114 ∧ nm ((s ((50 + (4 * nI i)) + 3 : Int32).toNatClampNeg) ||| (1 <<< (nI o &&& 31))) (fun v6 => (vp_in ((50 + (4 * nI i)) + 3) 114 ∧ f_X6_told_ N (upd s ((50 + (4 * nI i)) + 3 : Int32).toNatClampNeg v6) (nI i) 3 (fun r7 => f_X6_ones N r7 (fun r8 => post r8 0 (upd s ((50 + (4 * nI i)) + 3 : Int32).toNatClampNeg v6)))))) else post (-3) 0 s))) else post (-1) 0 s) → f_X6_stands N s (nI i) (nI o) post := by
      intro post h
      unfold f_X6_stands
      refine isF _ _ (fun _ _ _ => im n10 (e_in (fun _ _ => im n10 (e_told_ (w := 3) (by omega) (by omega) ?_)) (fun q => ?_))) (fun q => absurd q (nh i hi))
      · rw [z.1.2.2.2, eg]; exact h
      · rw [sub1 hi0] at q; exact absurd ⟨q1, q2⟩ q
    refine ⟨vi, is_ (fun q => ip rfl ?_) (fun q => im n10 (open_ _ (im q (same _))))⟩
    unfold f_X1_isLaden
    rw [hc, eg]
    refine ⟨vi, e_bitCount hg16 ?_⟩
    have e3 : ((50 + (4 * nI i)) + 3 : Int32) = nI (50 + 4 * i + 3) := off4 (b := 50) (w := 3)
    rcases Nat.lt_or_ge (pc g) 3 with hp3 | hp3
    · refine it_t (b := 3) hp3 (by omega) (ip rfl ?_)
      unfold f_X1_setOn
      rw [hc, eg]
      have hb : g.testBit o = false := by
        rcases Bool.eq_false_or_eq_true (g.testBit o) with w | w
        · exact absurd ((bP_nI (by omega) (by omega)).mpr w) q
        · exact w
      have hg' : g ||| 2 ^ o < 2 ^ i := Nat.or_lt_two_pow hg (Nat.pow_lt_pow_right (by omega) (by omega))
      have hg16' : g ||| 2 ^ o < 65536 := Nat.lt_of_lt_of_le hg' (p2_le (by omega))
      refine ⟨vi, nmi ⟨vi, vi, ?_⟩⟩
      rw [shl1 o (by omega), fa_or, up_s]
      refine e_bitCount hg16' (open_ _ (ip q ?_))
      refine e_told_ (w := 3) (by omega) (by omega) ?_
      rw [z.1.2.2.2, eg]
      refine e_ones hN (by omega) (ip (fun w => absurd ((nI_eq (b := 3) (by omega) (by omega)).mp w) (by omega)) ?_)
      rw [e3, nI_clamp (by omega), z.1.2.2.2, eg, shl1 o (by omega), fa_or]
      refine ⟨vpn (by omega) (by omega), nmi ⟨vpn (by omega) (by omega), e_told_ (w := 3) (by omega) (by omega) ?_⟩⟩
      rw [up_s]
      refine e_ones hN (by omega) (hK _ _ _ ⟨hk, by rw [up_n (by omega)]; exact hF.2.1, fun j hj => ?_⟩ (fun j hj => up_n (by omega)))
      have y := hF.2.2 j hj
      rcases Nat.decEq j i with w | w
      · rw [up_n (f := gr) w, up_n (by omega), up_n (by omega), up_n (by omega), up_n (by omega)]
        exact y
      · subst w
        rw [up_s (f := gr), up_n (by omega), up_n (by omega), up_n (by omega), up_s]
        exact ⟨⟨y.1.1, y.1.2.1, y.1.2.2.1, rfl⟩, y.2.1, y.2.2.1, y.2.2.2.1, y.2.2.2.2.1, y.2.2.2.2.2.1, _, rfl, hg', by rw [pc_or (by omega) hb]; omega⟩
    · refine it_f (b := 3) hp3 (by have := pc_le g; omega) (im n10 (open_ _ (ip q ?_)))
      refine e_told_ (w := 3) (by omega) (by omega) ?_
      rw [z.1.2.2.2, eg]
      refine e_ones hN (by omega) (im (nn ?_) (same _))
      rw [show pc g = 3 by omega]; rfl
  · unfold f_X6_stands
    exact isF _ _ (fun i hi e => absurd q (by subst e; exact nh i hi)) (fun _ => ip rfl (same _))
