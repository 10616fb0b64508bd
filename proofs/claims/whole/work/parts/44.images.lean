/-! Findings' coupling, all houses, weight, span, count, keep, back. -/
def pc (g : Nat) : Nat := ct (fun i => g.testBit i) 16
def JF (k : Nat) (pr mk cm gr s : Nat → Int32) : Prop := k ≤ 16 ∧ s 49 = nI k ∧ ∀ i, i < k → (s (50 + 4 * i + 0) = pr i ∧ s (50 + 4 * i + 1) = mk i ∧ s (50 + 4 * i + 2) = cm i ∧ s (50 + 4 * i + 3) = gr i) ∧ (0 ≤ pr i ∧ pr i ≤ 100 ∧ 0 ≤ mk i ∧ mk i ≤ 100 ∧ (cm i = 0 ∨ cm i = 1) ∧ ∃ g : Nat, gr i = nI g ∧ g < 2 ^ i ∧ pc g ≤ 3)
theorem JH.congr {n : Nat} {p a b c s p' a' b' c' s' : Nat → Int32} (h : JH n p a b c s) (hp : ∀ i, i < n → p' i = p i) (ha : ∀ i, i < n → a' i = a i) (hb : ∀ i, i < n → b' i = b i) (hc : ∀ i, i < n → c' i = c i) (hs : ∀ j, j < 49 → s' j = s j) : JH n p' a' b' c' s' := by
  obtain ⟨h1, h2, h3⟩ := h
  refine ⟨h1, by rw [hs 0 (by omega)]; exact h2, fun i hi => ?_⟩
  rw [hs _ (by omega), hs _ (by omega), hs _ (by omega), hs _ (by omega), hp i hi, ha i hi, hb i hi, hc i hi]
  exact h3 i hi
theorem JF.congr {k : Nat} {pr mk cm gr s pr' mk' cm' gr' s' : Nat → Int32} (h : JF k pr mk cm gr s) (hp : ∀ i, i < k → pr' i = pr i) (ha : ∀ i, i < k → mk' i = mk i) (hb : ∀ i, i < k → cm' i = cm i) (hc : ∀ i, i < k → gr' i = gr i) (hs : ∀ j, 49 ≤ j → j < 114 → s' j = s j) : JF k pr' mk' cm' gr' s' := by
  obtain ⟨h1, h2, h3⟩ := h
  refine ⟨h1, by rw [hs 49 (by omega) (by omega)]; exact h2, fun i hi => ?_⟩
  rw [hs _ (by omega) (by omega), hs _ (by omega) (by omega), hs _ (by omega) (by omega), hs _ (by omega) (by omega), hp i hi, ha i hi, hb i hi, hc i hi]
  exact h3 i hi
theorem e_told_ {N i w : Nat} {s : Nat → Int32} {post : Int32 → Prop} (hi : i < 16) (hw : w < 4) (h : post (s (50 + 4 * i + w))) : f_X6_told_ N s (nI i) (nI w) post := by
  show vp_in ((nI 50 + nI 4 * nI i) + nI w) 114 ∧ post (s ((nI 50 + nI 4 * nI i) + nI w).toNatClampNeg)
  rw [off4, nI_clamp (by omega)]
  exact ⟨vpn (by omega) (by omega), h⟩
/-- all of n -/
abbrev aB (n : Nat) : Int32 := (1 <<< (nI n &&& 31)) - 1
theorem aB_eq : ∀ n, n < 17 → aB n = nI (2 ^ n - 1) := by decide
theorem aB_bit : ∀ n, n < 17 → ∀ i, i < n → bP (aB n) i := by decide
theorem oS_all {f : Nat → Int32} {n : Nat} (hn : n < 17) : oS f (aB n) n = sI f n := sI_cong (fun i hi => gS_t (aB_bit n hn i hi))
/-- weight -/
theorem small_eq : ∀ j, j < 13 → (if 0 < (nI j - 3) then (nI j - 3) else 0) = (if 3 ≤ nI j then nI j - 3 else 0) := by decide
theorem e_mweight {N n i : Nat} {p a b c s : Nat → Int32} {ke : Int32 → Int32 → Prop} (hN : 5000 ≤ N) (hJ : JH n p a b c s) (hi : i < n) (h : ke (nI (ct (al p a b i) n)) (nI n)) : f_X6_weight_L38 N s (nI i) ke N 0 0 := by
  have hn := hJ.1
  refine lq2 (f_X6_weight_L38 N s (nI i) ke) (fun K u v => f_X6_weight_B38 N s (nI i) K ke u v) (fun _ _ _ => Iff.rfl) (fun j => nI (ct (al p a b i) j)) nI n (fun j hj K hK => ?_) (fun K => ?_) N (by omega)
  · unfold f_X6_weight_B38 f_X6_weight_J66
    rw [cl0, hJ.2.1]
    refine il_f hj (by omega) (e_isSame hJ hi hj (fun q => im n10 ?_) (fun q => ip rfl ?_))
    · show K (nI (ct (al p a b i) j) + 1) (nI j + 1)
      rw [ct_t q, nI_1]; exact hK
    · show K (nI (ct (al p a b i) j) + 0) (nI j + 1)
      rw [ct_f q, nI_1]; exact hK
  · unfold f_X6_weight_B38
    rw [cl0, hJ.2.1]
    exact il_t (Nat.le_refl n) (by omega) h
theorem nn {x k : Int32} (h : x = k) : ¬ ¬ x = k := fun q => q h
theorem p_weight {N n : Nat} {p a b c s : Nat → Int32} {tr : Int64} (hJ : JH n p a b c s) (hN : 5000 ≤ N) {x1 x2 : Int32} {k : Int32 → Int64 → Int32 → Int32 → Int64 → Prop} (hk : ∀ r t, k r t r 0 t) : f_X5_weight N tr (nI n) p a b x1 x2 (fun r u => f_X6_weight N tr s x1 x2 (fun r2 t u2 => k r u r2 t u2)) := by
  have hn := hJ.1
  have hs := hJ.2.1
  have bad : ((x2 < 0 ∨ nI n ≤ x2) ∨ ¬ (0 ≤ x1 ∧ x1 ≤ 6)) → f_X6_weight N tr s x1 x2 (fun r2 t u2 => k (-1) tr r2 t u2) := by
    intro q
    unfold f_X6_weight
    refine e_in (fun a1 a2 => im n10 ?_) (fun _ => ip rfl (hk _ _))
    refine e_isHouse hn hs (fun i hi e => ?_) (fun _ => im n00 (hk _ _))
    subst e
    rcases q with (q | q) | q
    · exact absurd q (nI_pos (by omega))
    · exact absurd q (nI_ge hi (by omega))
    · exact absurd ⟨a1, a2⟩ q
  unfold f_X5_weight
  refine e_has (by omega) (fun i hi e => ip n10 ?_) (fun q => im n00 (bad (Or.inl q)))
  subst e
  have z := (hJ.2.2 i hi)
  have hv : vp_in (nI i) 12 := vpn (by omega) (by omega)
  have hc : (nI i).toNatClampNeg = i := nI_clamp (by omega)
  have run : ∀ w : Nat, w < 7 → x1 = nI w → ∀ (r : Int32) (t : Int64), (f_X6_weight_L38 N s (nI i) (fun o10 o11 => (if ¬ x1 = 0 then (if ¬ x1 = 1 then (if ¬ x1 = 2 then (if ¬ x1 = 3 then (if ¬ x1 = 4 then (if ¬ x1 = 5 then f_X6_weight_J146 N tr s x1 (nI i) (fun r2 t2 u2 => k r t r2 t2 u2) (p i) o10 1000001 else f_X6_weight_J146 N tr s x1 (nI i) (fun r2 t2 u2 => k r t r2 t2 u2) (p i) o10 100001) else f_X6_weight_J146 N tr s x1 (nI i) (fun r2 t2 u2 => k r t r2 t2 u2) (p i) o10 10101) else f_X6_weight_J146 N tr s x1 (nI i) (fun r2 t2 u2 => k r t r2 t2 u2) (p i) o10 1101) else f_X6_weight_J146 N tr s x1 (nI i) (fun r2 t2 u2 => k r t r2 t2 u2) (p i) o10 101) else f_X6_weight_J146 N tr s x1 (nI i) (fun r2 t2 u2 => k r t r2 t2 u2) (p i) o10 11) else f_X6_weight_J146 N tr s x1 (nI i) (fun r2 t2 u2 => k r t r2 t2 u2) (p i) o10 1)) N 0 0) → f_X6_weight N tr s x1 (nI i) (fun r2 t2 u2 => k r t r2 t2 u2) := by
    intro w hw e r t h
    unfold f_X6_weight
    refine e_in (fun _ _ => im n10 ?_) (fun q => absurd ⟨by rw [e]; exact nI_pos' (by omega), by rw [e]; exact nI_le (b := 6) (by omega) (by omega)⟩ q)
    refine e_isHouse hn hs (fun _ _ _ => ip n10 ?_) (fun q => ?_)
    · refine e_of (w := 0) (by omega) (by omega) ?_
      rw [z.1.1]; exact h
    · rcases q with q | q
      · exact absurd q (nI_pos (by omega))
      · exact absurd q (nI_ge hi (by omega))
  have nw : ∀ w v : Nat, w < 7 → v < 7 → w ≠ v → ¬ nI w = nI v := fun w v hw hv h q => h ((nI_eq (by omega) (by omega)).mp q)
  refine is_ (fun e => ?_) (fun e0 => is_ (fun e => ?_) (fun e1 => is_ (fun e => ?_) (fun e2 => is_ (fun e => ?_) (fun e3 => is_ (fun e => ?_) (fun e4 => is_ (fun e => ?_) (fun e5 => is_ (fun e => ?_) (fun e6 => ?_)))))))
  · unfold f_X5_houseWeight
    refine nmi ⟨hv, ?_⟩
    rw [hc]
    refine run 0 (by omega) e _ _ (e_mweight hN hJ hi ?_)
    refine im (nn e) ?_
    unfold f_X6_weight_J146
    exact nmi (im (nn e) (hk _ _))
  · unfold f_X5_firstWeight f_X5_houseWeight
    refine nmi (nmi ⟨hv, ?_⟩)
    rw [hc, Int64.add_assoc]
    refine run 1 (by omega) e _ _ (e_mweight hN hJ hi ?_)
    refine ip e0 (im (nn e) ?_)
    unfold f_X6_weight_J146
    exact nmi (ip e0 (im (nn e) (hk _ _)))
  · unfold f_X5_closeWeight f_X5_houseWeight
    refine nmi (nmi ⟨hv, ?_⟩)
    rw [hc, Int64.add_assoc]
    refine run 2 (by omega) e _ _ (e_mweight hN hJ hi ?_)
    refine ip e0 (ip e1 (im (nn e) ?_))
    unfold f_X6_weight_J146
    exact nmi (ip e0 (ip e1 (im (nn e) (hk _ _))))
  · unfold f_X5_scepticWeight f_X5_closeWeight f_X5_houseWeight
    refine nmi (nmi (nmi ⟨hv, hv, ?_⟩))
    rw [hc, Int64.add_assoc, Int64.add_assoc]
    refine run 3 (by omega) e _ _ (e_mweight hN hJ hi ?_)
    refine ip e0 (ip e1 (ip e2 (im (nn e) ?_)))
    unfold f_X6_weight_J146
    refine nmi (ip e0 (ip e1 (ip e2 (im (nn e) (e_of (w := 2) (by omega) (by omega) ?_)))))
    rw [z.1.2.2.1]; exact hk _ _
  · unfold f_X5_believingWeight f_X5_closeWeight f_X5_houseWeight
    refine nmi (nmi (nmi ⟨hv, hv, ?_⟩))
    rw [hc, Int64.add_assoc, Int64.add_assoc]
    refine run 4 (by omega) e _ _ (e_mweight hN hJ hi ?_)
    refine ip e0 (ip e1 (ip e2 (ip e3 (im (nn e) ?_))))
    unfold f_X6_weight_J146
    refine nmi (ip e0 (ip e1 (ip e2 (ip e3 (im (nn e) (e_of (w := 1) (by omega) (by omega) ?_))))))
    rw [z.1.2.1]; exact hk _ _
  · unfold f_X5_smallWeight f_X5_houseWeight
    refine nmi (nmi ⟨hv, ?_⟩)
    obtain ⟨j, hj, ej⟩ := i32_in (x := p i) (n := 12) (by omega) (Int32.le_trans (show (0 : Int32) ≤ 1 by decide) z.2.1) z.2.2.1
    rw [hc, Int64.add_assoc, ej, small_eq j (by omega)]
    refine run 5 (by omega) e _ _ (e_mweight hN hJ hi ?_)
    refine ip e0 (ip e1 (ip e2 (ip e3 (ip e4 (im (nn e) ?_)))))
    unfold f_X6_weight_J146
    refine nmi (ip e0 (ip e1 (ip e2 (ip e3 (ip e4 (im (nn e) ?_))))))
    rw [ej]
    by_cases q : 3 ≤ nI j
    · rw [if_pos q, if_pos q]; exact hk _ _
    · rw [if_neg q, if_neg q]; exact hk _ _
  · unfold f_X5_faultyWeight f_X5_houseWeight
    refine nmi (nmi ⟨hv, e_alikeTo hN hn (by omega) ?_⟩)
    rw [hc, Int64.add_assoc]
    refine run 6 (by omega) e _ _ (e_mweight hN hJ hi ?_)
    refine ip e0 (ip e1 (ip e2 (ip e3 (ip e4 (ip e5 ?_)))))
    unfold f_X6_weight_J146
    exact nmi (ip e0 (ip e1 (ip e2 (ip e3 (ip e4 (ip e5 (hk _ _)))))))
  · refine bad (Or.inr (fun q => ?_))
    obtain ⟨w, hw, e⟩ := i32_in (n := 6) (by omega) q.1 q.2
    rcases (show w = 0 ∨ w = 1 ∨ w = 2 ∨ w = 3 ∨ w = 4 ∨ w = 5 ∨ w = 6 by omega) with rfl | rfl | rfl | rfl | rfl | rfl | rfl
    · exact e0 e
    · exact e1 e
    · exact e2 e
    · exact e3 e
    · exact e4 e
    · exact e5 e
    · exact e6 e
/-- span -/
theorem p_span {N : Nat} {sp x1 : Int32} {k : Int32 → Int32 → Int32 → Int32 → Int32 → Prop} (hk : ∀ r s, k r s r 0 s) : f_X5_span N sp x1 (fun r s => f_X6_span N sp x1 (fun r2 t s2 => k r s r2 t s2)) := by
  unfold f_X5_span f_X6_span
  exact e_within (fun a1 a2 => ip n10 (e_in (fun _ _ => ip n10 (hk _ _)) (fun q => absurd ⟨a1, a2⟩ q))) (fun q => im n00 (e_in (fun a1 a2 => absurd ⟨a1, a2⟩ q) (fun _ => im n00 (hk _ _))))
/-- count -/
theorem sI_mul (c : Int32) (f : Nat → Int32) : ∀ n, sI (fun i => c * f i) n = c * sI f n
  | 0 => (Int32.mul_zero).symm
  | n + 1 => by rw [sI, sI, sI_mul c f n, Int32.mul_add]
theorem e_came {N k : Nat} {cm : Nat → Int32} {post : Int32 → Prop} (hN : 5000 ≤ N) (hk : k ≤ 16) (h : post (sI cm k)) : f_X1_cameCount N (nI k) cm post := by
  refine lq2 (f_X1_cameCount_L4 N (nI k) cm (fun o5 o6 => post o5)) (fun K u v => f_X1_cameCount_B4 N (nI k) cm K (fun o5 o6 => post o5) u v) (fun _ _ _ => Iff.rfl) (fun j => sI cm j) nI k (fun j hj K hK => ?_) (fun K => ?_) N (by omega)
  · unfold f_X1_cameCount_B4
    refine il_f hj (by omega) ⟨vpn (by omega) (by omega), nmi (nmi ?_)⟩
    rw [nI_clamp (by omega), nI_1]; exact hK
  · unfold f_X1_cameCount_B4
    exact il_t (Nat.le_refl k) (by omega) h
theorem p_count {N n kf t l : Nat} {p a b c pr mk cm gr s : Nat → Int32} (hJ : JH n p a b c s) (hF : JF kf pr mk cm gr s) (hN : 5000 ≤ N) {x1 : Int32} {k : Int32 → Int32 → Int32 → Prop} (hk : ∀ r, k r r 0) : f_X5_count N (nI n) p (nI kf) cm (nI t) (nI l) x1 (fun r => f_X6_count N (nI t) (nI l) s x1 (fun r2 t2 => k r r2 t2)) := by
  have hn := hJ.1
  have hkf := hF.1
  have run : ∀ r : Int32, (if ¬ x1 = 0 then (if ¬ x1 = 1 then (if ¬ x1 = 2 then (if ¬ x1 = 3 then (if ¬ x1 = 4 then (if ¬ x1 = 5 then k r (-1) 0 else k r (nI t) 0) else k r (sI cm kf) 0) else k r (nI kf) 0) else k r (nI l) 0) else k r (sI (fun i => 2 * p i) n) 0) else k r (nI n) 0) → f_X6_count N (nI t) (nI l) s x1 (fun r2 t2 => k r r2 t2) := by
    intro r h
    refine lq2 (f_X6_count_L12 N s _) (fun K u v => f_X6_count_B12 N s K _ u v) (fun _ _ _ => Iff.rfl) (fun j => sI (fun i => 2 * p i) j) nI n (fun j hj K hK => ?_) (fun K => ?_) N (by omega)
    · unfold f_X6_count_B12
      rw [cl0, hJ.2.1]
      refine il_f hj (by omega) (e_of (w := 0) (by omega) (by omega) (nmi (nmi ?_)))
      rw [nI_1, (hJ.2.2 j hj).1.1]; exact hK
    · unfold f_X6_count_B12
      rw [cl0, hJ.2.1]
      refine il_t (Nat.le_refl n) (by omega) ?_
      refine lq2 (f_X6_count_L44 N s _) (fun K u v => f_X6_count_B44 N s K _ u v) (fun _ _ _ => Iff.rfl) (fun j => sI cm j) nI kf (fun j hj K hK => ?_) (fun K => ?_) N (by omega)
      · unfold f_X6_count_B44
        rw [cl49, hF.2.1]
        refine il_f hj (by omega) (e_told_ (w := 2) (by omega) (by omega) (nmi (nmi ?_)))
        rw [nI_1, (hF.2.2 j hj).1.2.2.1]; exact hK
      · unfold f_X6_count_B44
        rw [cl49, hF.2.1]
        exact il_t (Nat.le_refl kf) (by omega) h
  unfold f_X5_count
  refine is_ (fun e => run _ (im (nn e) (hk _))) (fun e0 => is_ (fun e => ?_) (fun e1 => is_ (fun e => run _ (ip e0 (ip e1 (im (nn e) (hk _))))) (fun e2 => is_ (fun e => run _ (ip e0 (ip e1 (ip e2 (im (nn e) (hk _)))))) (fun e3 => is_ (fun e => e_came hN hkf (run _ (ip e0 (ip e1 (ip e2 (ip e3 (im (nn e) (hk _)))))))) (fun e4 => is_ (fun e => run _ (ip e0 (ip e1 (ip e2 (ip e3 (ip e4 (im (nn e) (hk _)))))))) (fun e5 => run _ (ip e0 (ip e1 (ip e2 (ip e3 (ip e4 (ip e5 (hk _)))))))))))))
  show f_X2_peopleOf N (nI n) p (aB n) _
  refine e_peopleOf hn hN (run _ (ip e0 (im (nn e) ?_)))
  rw [oS_all (by omega), sI_mul]; exact hk _
/-- copies -/
theorem cpy_at {f g : Nat → Int32} {n : Nat} {i : Nat} (h : i < n) : va_cpy f g 0 0 n i = f i := by
  rw [pk_cpy_in (by omega) (by omega)]; congr 1; omega
def JI (x n k : Nat) (p a b c pr mk cm gr kept : Nat → Int32) : Prop := JH n p a b c (fun j => kept (114 * x + j)) ∧ JF k pr mk cm gr (fun j => kept (114 * x + j))
def wK (s kept : Nat → Int32) (x i : Nat) : Nat → Int32 := fun j => if 114 * x ≤ j ∧ j < 114 * x + i then s (j - 114 * x) else kept j
theorem wK_0 (s kept : Nat → Int32) (x : Nat) : wK s kept x 0 = kept := by
  funext j; unfold wK; rw [if_neg (by omega)]
theorem wK_s (s kept : Nat → Int32) (x i : Nat) : upd (wK s kept x i) (114 * x + i) (s i) = wK s kept x (i + 1) := by
  funext j
  unfold wK upd
  by_cases q : j = 114 * x + i
  · rw [if_pos q, if_pos (by omega), q, Nat.add_sub_cancel_left]
  · rw [if_neg q]
    show (if 114 * x ≤ j ∧ j < 114 * x + i then s (j - 114 * x) else kept j) = _
    by_cases w : 114 * x ≤ j ∧ j < 114 * x + i
    · rw [if_pos w, if_pos (by omega)]
    · rw [if_neg w, if_neg (by omega)]
theorem wK_in {s kept : Nat → Int32} {x j : Nat} (h : j < 114) : wK s kept x 114 (114 * x + j) = s j := by
  unfold wK; rw [if_pos (by omega), Nat.add_sub_cancel_left]
theorem wK_out {s kept : Nat → Int32} {x y j : Nat} (h : j < 114) (hxy : y ≠ x) : wK s kept x 114 (114 * y + j) = kept (114 * y + j) := by
  unfold wK; rw [if_neg (by rcases Nat.lt_or_gt_of_ne hxy with q | q <;> omega)]
theorem off114 {x i : Nat} : ((114 * nI x) + nI i : Int32) = nI (114 * x + i) := by show nI 114 * nI x + nI i = _; rw [pk_mul, nI_add]
theorem m_keep {N x : Nat} {s kept isK : Nat → Int32} {post : Int32 → Int32 → (Nat → Int32) → (Nat → Int32) → Prop} (hN : 5000 ≤ N) (hx : x < 2) (h : post (s 0 + s 49) 0 (wK s kept x 114) (upd isK x 1)) : f_X6_keep N s kept isK (nI x) post := by
  unfold f_X6_keep
  refine e_in (fun _ _ => ip n10 ?_) (fun q => absurd ⟨nI_pos' (by omega), nI_le (b := 1) (by omega) (by omega)⟩ q)
  rw [← wK_0 s kept x]
  refine lq2 (f_X6_keep_L18 N s (nI x) _) (fun K u v => f_X6_keep_B18 N s (nI x) K _ u v) (fun _ _ _ => Iff.rfl) nI (fun i => wK s kept x i) 114 (fun i hi K hK => ?_) (fun K => ?_) N (by omega)
  · unfold f_X6_keep_B18
    refine il_f (a := 114) hi (by omega) ⟨vpn (by omega) (by omega), nmi ?_⟩
    rw [off114]
    refine ⟨vpn (by omega) (by omega), nmi ?_⟩
    rw [nI_1, nI_clamp (by omega), nI_clamp (by omega), wK_s]; exact hK
  · unfold f_X6_keep_B18
    refine il_t (a := 114) (Nat.le_refl 114) (by omega) ⟨vpn (by omega) (by omega), ?_⟩
    rw [cl0, cl49, nI_clamp (by omega)]; exact h
theorem m_back {N x : Nat} {s kept isK : Nat → Int32} {post : Int32 → Int32 → (Nat → Int32) → Prop} (hN : 5000 ≤ N) (hx : x < 2) (h0 : isK x = 0 → post (-2) 0 s) (h : ¬ isK x = 0 → post (kept (114 * x + 0) + kept (114 * x + 49)) 0 (wK (fun j => kept (114 * x + j)) s 0 114)) : f_X6_back N s kept isK (nI x) post := by
  unfold f_X6_back
  refine e_in (fun _ _ => ip n10 ⟨vpn hx (by omega), ?_⟩) (fun q => absurd ⟨nI_pos' (by omega), nI_le (b := 1) (by omega) (by omega)⟩ q)
  rw [nI_clamp (by omega)]
  refine is_ (fun q => ?_) (fun q => h0 (Classical.not_not.mp q))
  have h := h q
  have e := wK_0 (fun j => kept (114 * x + j)) s 0
  rw [← e]
  refine lq2 (f_X6_back_L30 N kept (nI x) _) (fun K u v => f_X6_back_B30 N kept (nI x) K _ u v) (fun _ _ _ => Iff.rfl) nI (fun i => wK (fun j => kept (114 * x + j)) s 0 i) 114 (fun i hi K hK => ?_) (fun K => ?_) N (by omega)
  · unfold f_X6_back_B30
    refine il_f (a := 114) hi (by omega) ?_
    rw [off114]
    refine ⟨vpn (by omega) (by omega), nmi ⟨vpn (by omega) (by omega), nmi ?_⟩⟩
    rw [nI_1, nI_clamp (by omega), nI_clamp (by omega)]
    have w := wK_s (fun j => kept (114 * x + j)) s 0 i
    rw [show 114 * 0 + i = i by omega] at w
    rw [w]; exact hK
  · unfold f_X6_back_B30
    refine il_t (a := 114) (Nat.le_refl 114) (by omega) ?_
    show post (wK (fun j => kept (114 * x + j)) s 0 114 (0 : Int32).toNatClampNeg + wK (fun j => kept (114 * x + j)) s 0 114 (49 : Int32).toNatClampNeg) 0 _
    have w0 := wK_in (s := fun j => kept (114 * x + j)) (kept := s) (x := 0) (j := 0) (by omega)
    have w1 := wK_in (s := fun j => kept (114 * x + j)) (kept := s) (x := 0) (j := 49) (by omega)
    rw [show 114 * 0 + 0 = 0 by omega] at w0
    rw [show 114 * 0 + 49 = 49 by omega] at w1
    rw [cl0, cl49, w0, w1]; exact h
