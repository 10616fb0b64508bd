/-! laws: the reading of a text, class and model. -/
abbrev LA : Type := (Nat → Int32) × (Nat → Int32) × (Nat → Int32) × (Nat → Int32)
def tk (due kd v k : Nat) (A : LA) : Option (Nat × Nat × LA) :=
  if 6 ≤ k then none
  else if due = 0 then (if kd = 1 then some (1, k, A) else none)
  else if due = 1 then (if kd = 5 ∧ v ≤ 10 then some (2, k, (upd A.1 k (nI v), A.2.1, upd A.2.2.1 k 0, A.2.2.2)) else none)
  else if due = 2 then (if kd = 5 ∧ v ≤ 10 then some (3, k, (A.1, upd A.2.1 k (nI v), A.2.2.1, A.2.2.2)) else none)
  else if due = 3 then (if kd = 2 then some (4, k, A) else if kd = 6 then some (0, k + 1, A) else none)
  else if due = 4 then (if kd = 4 then some (5, k, (A.1, A.2.1, upd A.2.2.1 k (nI v), A.2.2.2)) else none)
  else if due = 5 then (if kd = 3 then some (6, k, A) else none)
  else if due = 6 then (if kd = 5 ∧ v ≤ 10 then some (7, k, (A.1, A.2.1, A.2.2.1, upd A.2.2.2 k (nI v))) else none)
  else (if kd = 6 then some (0, k + 1, A) else none)
def pr (kd v st en : Nat → Nat) : Nat → Nat → Nat → Nat → LA → Option Nat × Nat × LA
  | 0, _, _, k, A => (some 0, k, A)
  | f + 1, due, e, k, A => if kd e = 0 ∧ due = 0 then (none, k, A) else
    match tk due (kd e) (v e) k A with
    | none => (some (st e), k, A)
    | some z => pr kd v st en f z.1 (en e) z.2.1 z.2.2
theorem pr_ok {kd v st en : Nat → Nat} {f e k : Nat} {A : LA} (h : kd e = 0) : pr kd v st en (f + 1) 0 e k A = (none, k, A) := by
  rw [pr, if_pos ⟨h, rfl⟩]
theorem pr_no {kd v st en : Nat → Nat} {f due e k : Nat} {A : LA} (h : ¬ (kd e = 0 ∧ due = 0)) (ht : tk due (kd e) (v e) k A = none) : pr kd v st en (f + 1) due e k A = (some (st e), k, A) := by
  rw [pr, if_neg h, ht]
theorem pr_go {kd v st en : Nat → Nat} {f due e k d' k' : Nat} {A A' : LA} (h : ¬ (kd e = 0 ∧ due = 0)) (ht : tk due (kd e) (v e) k A = some (d', k', A')) : pr kd v st en (f + 1) due e k A = pr kd v st en f d' (en e) k' A' := by
  rw [pr, if_neg h, ht]
/-- codes of tokens -/
theorem tk0 {kd v k : Nat} {A : LA} (hk : k < 6) : tk 0 kd v k A = (if kd = 1 then some (1, k, A) else none) := by
  unfold tk; rw [if_neg (by omega)]; rfl
theorem tk1 {kd v k : Nat} {A : LA} (hk : k < 6) : tk 1 kd v k A = (if kd = 5 ∧ v ≤ 10 then some (2, k, (upd A.1 k (nI v), A.2.1, upd A.2.2.1 k 0, A.2.2.2)) else none) := by
  unfold tk; rw [if_neg (by omega)]; rfl
theorem tk2 {kd v k : Nat} {A : LA} (hk : k < 6) : tk 2 kd v k A = (if kd = 5 ∧ v ≤ 10 then some (3, k, (A.1, upd A.2.1 k (nI v), A.2.2.1, A.2.2.2)) else none) := by
  unfold tk; rw [if_neg (by omega)]; rfl
theorem tk3 {kd v k : Nat} {A : LA} (hk : k < 6) : tk 3 kd v k A = (if kd = 2 then some (4, k, A) else if kd = 6 then some (0, k + 1, A) else none) := by
  unfold tk; rw [if_neg (by omega)]; rfl
theorem tk4 {kd v k : Nat} {A : LA} (hk : k < 6) : tk 4 kd v k A = (if kd = 4 then some (5, k, (A.1, A.2.1, upd A.2.2.1 k (nI v), A.2.2.2)) else none) := by
  unfold tk; rw [if_neg (by omega)]; rfl
theorem tk5 {kd v k : Nat} {A : LA} (hk : k < 6) : tk 5 kd v k A = (if kd = 3 then some (6, k, A) else none) := by
  unfold tk; rw [if_neg (by omega)]; rfl
theorem tk6 {kd v k : Nat} {A : LA} (hk : k < 6) : tk 6 kd v k A = (if kd = 5 ∧ v ≤ 10 then some (7, k, (A.1, A.2.1, A.2.2.1, upd A.2.2.2 k (nI v))) else none) := by
  unfold tk; rw [if_neg (by omega)]; rfl
theorem tk7 {kd v k : Nat} {A : LA} (hk : k < 6) : tk 7 kd v k A = (if kd = 6 then some (0, k + 1, A) else none) := by
  unfold tk; rw [if_neg (by omega)]; rfl
theorem cc_t : ∀ k, k < 8 → (cc k = 4 ↔ k = 1) ∧ (cc k = 3 ↔ k = 5) ∧ (cc k = 5 ↔ k = 2) ∧ (cc k = 7 ↔ k = 4) ∧ (cc k = 6 ↔ k = 3) ∧ (cc k = 2 ↔ k = 6) ∧ (cc k = 1 ↔ k = 0) := by decide
theorem e_tT {N k : Nat} {A : LA} {x : Int32} {post : Int32 → Int32 → (Nat → Int32) → (Nat → Int32) → (Nat → Int32) → (Nat → Int32) → Prop} (hk : k < 6) {v' : Int32} (d : Nat) (hd : x = nI d) (h : (if d = 2 then post 3 (nI k) A.1 (upd A.2.1 k v') A.2.2.1 A.2.2.2 else if d = 6 then post 7 (nI k) A.1 A.2.1 A.2.2.1 (upd A.2.2.2 k v') else post 2 (nI k) (upd A.1 k v') A.2.1 (upd A.2.2.1 k 0) A.2.2.2)) (hd8 : d < 8) : f_X3_takeTenths N (nI k) A.1 A.2.1 A.2.2.1 A.2.2.2 x v' (fun r u2 u3 u4 u5 => post r (nI k) u2 u3 u4 u5) := by
  unfold f_X3_takeTenths
  rw [nI_clamp (by omega), hd]
  have vp : vp_in (nI k) 6 := vpn hk (by omega)
  by_cases q : d = 2
  · rw [if_pos q] at h
    refine im (nn (by rw [q]; rfl)) ⟨vp, h⟩
  · rw [if_neg q] at h
    refine ip (fun z => q ((nI_eq (b := 2) (by omega) (by omega)).mp z)) ?_
    by_cases w : d = 6
    · rw [if_pos w] at h
      exact im (nn (by rw [w]; rfl)) ⟨vp, h⟩
    · rw [if_neg w] at h
      exact ip (fun z => w ((nI_eq (b := 6) (by omega) (by omega)).mp z)) ⟨vp, vp, h⟩
theorem e_take {N due kd v k : Nat} {A : LA} {v' : Int32} {post : Int32 → Int32 → (Nat → Int32) → (Nat → Int32) → (Nat → Int32) → (Nat → Int32) → Prop} (hd : due < 8) (hkd : kd < 8) (hv : kd = 4 ∨ kd = 5 → v' = nI v) (hvb : v ≤ 99) (hk : k ≤ 6) (h0 : tk due kd v k A = none → post (-1) (nI k) A.1 A.2.1 A.2.2.1 A.2.2.2) (h1 : ∀ d' k' A', d' < 8 → k' ≤ 6 → tk due kd v k A = some (d', k', A') → post (nI d') (nI k') A'.1 A'.2.1 A'.2.2.1 A'.2.2.2) : f_X3_take N (nI k) A.1 A.2.1 A.2.2.1 A.2.2.2 (nI due) (cc kd) v' post := by
  obtain ⟨c4, c3, c5, c7, c6, c2, -⟩ := cc_t kd hkd
  have ten : ∀ {P Q : Prop} (_ : kd = 5), (10 < v → P) → (v ≤ 10 → Q) → (if (10 : Int32) < v' then P else Q) := by
    intro P Q e p q
    rw [hv (Or.inr e)]
    rcases Nat.lt_or_ge 10 v with w | w
    · exact it_t (a := 10) w (by omega) (p w)
    · exact it_f (a := 10) w (by omega) (q w)
  have nd : ∀ d, d < 8 → due ≠ d → ¬ nI due = nI d := fun d hd8 h z => h ((nI_eq (by omega) (by omega)).mp z)
  unfold f_X3_take f_X3_takeEnd
  rcases Nat.lt_or_ge k 6 with q | q
  · refine it_t (b := 6) q (by omega) ?_
    rcases (show due = 0 ∨ due = 1 ∨ due = 2 ∨ due = 3 ∨ due = 4 ∨ due = 5 ∨ due = 6 ∨ due = 7 by omega) with rfl | rfl | rfl | rfl | rfl | rfl | rfl | rfl
    · refine ip rfl (is_ (fun w => h0 ?_) (fun w => h1 1 k A (by omega) hk ?_))
      · rw [tk0 q, if_neg (fun z => w (c4.mpr z))]
      · rw [tk0 q, if_pos (c4.mp (Classical.not_not.mp w))]
    · refine im (nd 0 (by omega) (by omega)) (ip rfl (is_ (fun w => h0 ?_) (fun w => ten (c3.mp (Classical.not_not.mp w)) (fun g => h0 ?_) (fun g => e_tT q 1 rfl ?_ (by omega)))))
      · rw [tk1 q, if_neg (fun z => w (c3.mpr z.1))]
      · rw [tk1 q, if_neg (fun z => absurd z.2 (by omega))]
      · have k5 := c3.mp (Classical.not_not.mp w)
        rw [if_neg (show ¬ (1 = 2) by omega), if_neg (show ¬ (1 = 6) by omega), hv (Or.inr k5)]
        refine h1 2 k (upd A.1 k (nI v), A.2.1, upd A.2.2.1 k 0, A.2.2.2) (by omega) hk ?_
        rw [tk1 q, if_pos ⟨k5, g⟩]
    · refine im (nd 0 (by omega) (by omega)) (im (nd 1 (by omega) (by omega)) (ip rfl (is_ (fun w => h0 ?_) (fun w => ten (c3.mp (Classical.not_not.mp w)) (fun g => h0 ?_) (fun g => e_tT q 2 rfl ?_ (by omega))))))
      · rw [tk2 q, if_neg (fun z => w (c3.mpr z.1))]
      · rw [tk2 q, if_neg (fun z => absurd z.2 (by omega))]
      · have k5 := c3.mp (Classical.not_not.mp w)
        rw [if_pos rfl, hv (Or.inr k5)]
        refine h1 3 k (A.1, upd A.2.1 k (nI v), A.2.2.1, A.2.2.2) (by omega) hk ?_
        rw [tk2 q, if_pos ⟨k5, g⟩]
    · refine im (nd 0 (by omega) (by omega)) (im (nd 1 (by omega) (by omega)) (im (nd 2 (by omega) (by omega)) (ip rfl (is_ (fun w => is_ (fun g => nmi ?_) (fun g => h0 ?_)) (fun w => h1 4 k A (by omega) hk ?_)))))
      · rw [nI_1]
        refine h1 0 (k + 1) A (by omega) (by omega) ?_
        rw [tk3 q, if_neg (fun z => w (c5.mpr z)), if_pos (c2.mp g)]
      · rw [tk3 q, if_neg (fun z => w (c5.mpr z)), if_neg (fun z => g (c2.mpr z))]
      · rw [tk3 q, if_pos (c5.mp (Classical.not_not.mp w))]
    · refine im (nd 0 (by omega) (by omega)) (im (nd 1 (by omega) (by omega)) (im (nd 2 (by omega) (by omega)) (im (nd 3 (by omega) (by omega)) (ip rfl (is_ (fun w => h0 ?_) (fun w => ?_))))))
      · rw [tk4 q, if_neg (fun z => w (c7.mpr z))]
      · have k4 := c7.mp (Classical.not_not.mp w)
        unfold f_X3_takeConditions
        rw [nI_clamp (by omega), hv (Or.inl k4)]
        refine ⟨vpn q (by omega), h1 5 k (A.1, A.2.1, upd A.2.2.1 k (nI v), A.2.2.2) (by omega) hk ?_⟩
        rw [tk4 q, if_pos k4]
    · refine im (nd 0 (by omega) (by omega)) (im (nd 1 (by omega) (by omega)) (im (nd 2 (by omega) (by omega)) (im (nd 3 (by omega) (by omega)) (im (nd 4 (by omega) (by omega)) (ip rfl (is_ (fun w => h0 ?_) (fun w => h1 6 k A (by omega) hk ?_)))))))
      · rw [tk5 q, if_neg (fun z => w (c6.mpr z))]
      · rw [tk5 q, if_pos (c6.mp (Classical.not_not.mp w))]
    · refine im (nd 0 (by omega) (by omega)) (im (nd 1 (by omega) (by omega)) (im (nd 2 (by omega) (by omega)) (im (nd 3 (by omega) (by omega)) (im (nd 4 (by omega) (by omega)) (im (nd 5 (by omega) (by omega)) (ip rfl (is_ (fun w => h0 ?_) (fun w => ten (c3.mp (Classical.not_not.mp w)) (fun g => h0 ?_) (fun g => e_tT q 6 rfl ?_ (by omega))))))))))
      · rw [tk6 q, if_neg (fun z => w (c3.mpr z.1))]
      · rw [tk6 q, if_neg (fun z => absurd z.2 (by omega))]
      · have k5 := c3.mp (Classical.not_not.mp w)
        rw [if_neg (show ¬ (6 = 2) by omega), if_pos rfl, hv (Or.inr k5)]
        refine h1 7 k (A.1, A.2.1, A.2.2.1, upd A.2.2.2 k (nI v)) (by omega) hk ?_
        rw [tk6 q, if_pos ⟨k5, g⟩]
    · refine im (nd 0 (by omega) (by omega)) (im (nd 1 (by omega) (by omega)) (im (nd 2 (by omega) (by omega)) (im (nd 3 (by omega) (by omega)) (im (nd 4 (by omega) (by omega)) (im (nd 5 (by omega) (by omega)) (im (nd 6 (by omega) (by omega)) (is_ (fun g => nmi ?_) (fun g => h0 ?_))))))))
      · rw [nI_1]
        refine h1 0 (k + 1) A (by omega) (by omega) ?_
        rw [tk7 q, if_pos (c2.mp g)]
      · rw [tk7 q, if_neg (fun z => g (c2.mpr z))]
  · refine it_f (b := 6) q (by omega) (h0 ?_)
    unfold tk
    rw [if_pos q]
/-- the class's reading -/
def TT (N t : Nat) (bs tx : Nat → Int32) (kd v st en : Nat → Nat) : Prop := ∀ e, e ≤ t → Tok N t e bs tx (kd e) (v e) (st e) (en e) ∧ v e ≤ 99
theorem tk_end {due v k : Nat} {A : LA} (h : due ≠ 0) : tk due 0 v k A = none := by
  unfold tk
  by_cases q : 6 ≤ k
  · rw [if_pos q]
  · simp [if_neg q, h]
theorem e_read {N t : Nat} {bs tx : Nat → Int32} {kd v st en : Nat → Nat} {post : Int32 → Int32 → Int32 → Int32 → Int32 → Int32 → (Nat → Int32) → (Nat → Int32) → (Nat → Int32) → (Nat → Int32) → Prop} (ht : t ≤ 300) (hT : TT N t bs tx kd v st en) : ∀ f due i e k A fuel (w5 w6 w7 : Int32), f + i = 302 → i ≤ e → e ≤ t → due < 8 → k ≤ 6 → f < fuel → (∀ u2 u3 u4 u5, post (match (pr kd v st en f due e k A).1 with | none => (-1 : Int32) | some p => nI p) u2 u3 u4 u5 (nI (pr kd v st en f due e k A).2.1) (pr kd v st en f due e k A).2.2.1 (pr kd v st en f due e k A).2.2.2.1 (pr kd v st en f due e k A).2.2.2.2.1 (pr kd v st en f due e k A).2.2.2.2.2) → f_X4_readInto_L14 N (nI t) bs post fuel (nI due) (nI i) (nI k) (nI e) w5 w6 w7 A.1 A.2.1 A.2.2.1 A.2.2.2 := by
  intro f
  induction f with
  | zero => intro due i e k A fuel w5 w6 w7 h1 h2 h3; omega
  | succ f ih =>
    intro due i e k A fuel w5 w6 w7 h1 h2 h3 hd hk hf hp
    obtain ⟨g, rfl⟩ : ∃ g, fuel = g + 1 := ⟨fuel - 1, by omega⟩
    show f_X4_readInto_B14 N (nI t) bs post _ (nI due) (nI i) (nI k) (nI e) w5 w6 w7 A.1 A.2.1 A.2.2.1 A.2.2.2
    unfold f_X4_readInto_B14
    obtain ⟨⟨t0, t1, t2, t3, t4, t5, t6, t7, t8⟩, tv⟩ := hT e h3
    refine it_f (a := 300) (by omega) (by omega) (t7 _ (fun v' hv' => ?_))
    obtain ⟨-, -, -, -, -, -, c1⟩ := cc_t (kd e) (by omega)
    by_cases z : kd e = 0
    · refine im (nn (c1.mpr z)) ?_
      by_cases d0 : due = 0
      · subst d0
        rw [pr_ok z] at hp
        exact im (nn rfl) (hp _ _ _ _)
      · rw [pr_no (fun y => d0 y.2) (by rw [z]; exact tk_end d0)] at hp
        refine ip (fun y => d0 ((z_nI (by omega)).mp y)) ?_
        have := hp (cc (kd e)) v' (nI (st e)) (nI (en e))
        simp only [(t4 z).1] at this
        rw [(t4 z).1]
        exact this
    · refine ip (fun y => z (c1.mp y)) (e_take hd (by omega) hv' tv hk (fun h => ?_) (fun d' k' A' hd' hk' h => ?_))
      · rw [pr_no (fun y => z y.1) h] at hp
        exact im (nn rfl) (hp _ _ _ _)
      · rw [pr_go (fun y => z y.1) h] at hp
        refine ip (fun y => nI_pos (show d' < 2 ^ 31 by omega) (by rw [y]; decide)) (nmi ?_)
        rw [nI_1]
        have := t3 z
        exact ih d' (i + 1) (en e) k' A' g (cc (kd e)) v' (nI (st e)) (by omega) (by omega) t2 hd' hk' (by omega) hp
/-- the model's steps -/
theorem m_well {N : Nat} {post : Int32 → Prop} (h : post 1) : f_X6_isWell N (-1) post := by
  unfold f_X6_isWell; exact im (by decide) h
theorem m_ill {N p : Nat} {post : Int32 → Prop} (hp : p < 2 ^ 31) (h : post 0) : f_X6_isWell N (nI p) post := by
  unfold f_X6_isWell; exact ip (nI_pos' hp) h
abbrev VA (kd v : Nat → Nat) (e : Nat) (va : Int32) : Prop := kd e = 4 ∨ kd e = 5 → va = nI (v e)
theorem m_takes {N t e : Nat} {bs tx : Nat → Int32} {kd v st en : Nat → Nat} {tok_ pl va : Int32} {post : Int32 → Int32 → Int32 → Int32 → Int32 → Int32 → Prop} (hT : TT N t bs tx kd v st en) (he : e ≤ t) (h : ∀ va', VA kd v e va' → post va (nI (en e)) (nI (kd e)) (nI (st e)) va' (-1)) : f_X6_takes N (nI t) (nI e) tok_ pl va (-1) tx 1 post := by
  unfold f_X6_takes
  exact m_well (ip n10 (ip n10 ((hT e he).1.2.2.2.2.2.2.2.2 _ _ (fun v' hv' => h v' hv'))))
theorem m_takes0 {N : Nat} {ty nx tok_ pl va : Int32} {tx : Nat → Int32} {post : Int32 → Int32 → Int32 → Int32 → Int32 → Int32 → Prop} (h : post 0 nx tok_ pl va pl) : f_X6_takes N ty nx tok_ pl va (-1) tx 0 post := by
  unfold f_X6_takes
  exact m_well (ip n10 (im (nn rfl) h))
theorem m_takesF {N p : Nat} {ty nx tok_ pl va x : Int32} {tx : Nat → Int32} {post : Int32 → Int32 → Int32 → Int32 → Int32 → Int32 → Prop} (hp : p < 2 ^ 31) (h : post 0 nx tok_ pl va (nI p)) : f_X6_takes N ty nx tok_ pl va (nI p) tx x post := by
  unfold f_X6_takes
  exact m_ill hp (im (nn rfl) h)
theorem m_tenthF {N p : Nat} {ty nx tok_ pl va : Int32} {tx : Nat → Int32} {post : Int32 → Int32 → Int32 → Int32 → Int32 → Int32 → Prop} (hp : p < 2 ^ 31) (h : post 0 nx tok_ pl va (nI p)) : f_X6_tenth N ty nx tok_ pl va (nI p) tx post := by
  unfold f_X6_tenth f_X6_tenth_J23
  exact is_ (fun _ => m_takesF hp h) (fun _ => is_ (fun _ => m_takesF hp h) (fun _ => m_takesF hp h))
theorem m_tenth {N t e : Nat} {bs tx : Nat → Int32} {kd v st en : Nat → Nat} {va : Int32} {post : Int32 → Int32 → Int32 → Int32 → Int32 → Int32 → Prop} (ht : t ≤ 300) (hT : TT N t bs tx kd v st en) (he : e ≤ t) (hva : VA kd v e va) (h1 : (kd e = 5 ∧ v e ≤ 10) → en e ≤ t → ∀ va', VA kd v (en e) va' → post (nI (v e)) (nI (en (en e))) (nI (kd (en e))) (nI (st (en e))) va' (-1)) (h0 : ¬ (kd e = 5 ∧ v e ≤ 10) → post 0 (nI (en e)) (nI (kd e)) (nI (st e)) va (nI (st e))) : f_X6_tenth N (nI t) (nI (en e)) (nI (kd e)) (nI (st e)) va (-1) tx post := by
  obtain ⟨⟨t0, t1, t2, t3, t4, t5, t6, t7, t8⟩, tv⟩ := hT e he
  unfold f_X6_tenth f_X6_tenth_J23
  refine is_ (fun q => m_takes0 (h0 (fun z => q (by rw [z.1]; rfl)))) (fun q => ?_)
  have k5 : kd e = 5 := (nI_eq (b := 5) (by omega) (by omega)).mp (Classical.not_not.mp q)
  have e1 := hva (Or.inr k5)
  rw [e1] at h0 ⊢
  rcases Nat.lt_or_ge 10 (v e) with w | w
  · exact il_t (a := 11) (by omega) (by omega) (m_takes0 (h0 (fun z => by omega)))
  · exact il_f (a := 11) (by omega) (by omega) (m_takes hT t2 (fun va' hva' => h1 ⟨k5, w⟩ t2 va' hva'))
theorem m_137F {N p : Nat} {ty i5 r20 r26 j33 j34 nx tok_ pl va : Int32} {tx w11 : Nat → Int32} {kb : Int32 → Int32 → Int32 → Int32 → Int32 → Int32 → (Nat → Int32) → Prop} (hp : p < 2 ^ 31) (h : kb i5 (nI p) nx tok_ pl va w11) : f_X6_laws_J137 N ty tx i5 w11 r20 r26 kb j33 j34 (nI p) nx tok_ pl va := by
  unfold f_X6_laws_J137 f_X6_laws_J152 f_X6_laws_J214
  exact is_ (fun _ => m_takesF hp (m_ill hp (ip rfl h))) (fun _ => m_takesF hp (m_ill hp (ip rfl h)))
theorem off24 (k w : Nat) : ((24 + 4 * nI k : Int32) + nI w) = nI (24 + 4 * k + w) := off4 (b := 24)
/-- what an item writes -/
def wrL (k : Nat) (x y z w : Int32) (law : Nat → Int32) : Nat → Int32 := upd (upd (upd (upd law (24 + 4 * k) x) (24 + 4 * k + 1) y) (24 + 4 * k + 2) z) (24 + 4 * k + 3) w
theorem m_137 {N t e k : Nat} {bs tx law : Nat → Int32} {kd v st en : Nat → Nat} {r20 r26 j33 j34 va : Int32} {kb : Int32 → Int32 → Int32 → Int32 → Int32 → Int32 → (Nat → Int32) → Prop} (ht : t ≤ 300) (hT : TT N t bs tx kd v st en) (he : e ≤ t) (hk : k < 6) (h1 : kd e = 6 → en e ≤ t → ∀ va', VA kd v (en e) va' → kb (nI (k + 1)) (-1) (nI (en (en e))) (nI (kd (en e))) (nI (st (en e))) va' (wrL k r20 r26 j33 j34 law)) (h0 : kd e ≠ 6 → kb (nI k) (nI (st e)) (nI (en e)) (nI (kd e)) (nI (st e)) va law) : f_X6_laws_J137 N (nI t) tx (nI k) law r20 r26 kb j33 j34 (-1) (nI (en e)) (nI (kd e)) (nI (st e)) va := by
  obtain ⟨⟨t0, t1, t2, t3, t4, t5, t6, t7, t8⟩, tv⟩ := hT e he
  have st300 : st e ≤ 300 := by
    by_cases z : kd e = 0
    · have := (t4 z).1; omega
    · have := t3 z; omega
  unfold f_X6_laws_J137 f_X6_laws_J152 f_X6_laws_J214
  refine is_ (fun q => m_takes0 (m_ill (by omega) (ip rfl (h0 (fun z => q (by rw [z]; rfl)))))) (fun q => ?_)
  have k6 : kd e = 6 := (nI_eq (b := 6) (by omega) (by omega)).mp (Classical.not_not.mp q)
  refine m_takes hT t2 (fun va' hva' => m_well (im n10 (nmi ?_)))
  have e0 : (24 + 4 * nI k : Int32) = nI (24 + 4 * k) := by show nI 24 + nI 4 * nI k = _; rw [pk_mul, nI_add]
  rw [e0, show (nI (24 + 4 * k) + 1 : Int32) = nI (24 + 4 * k + 1) from nI_1 _, show (nI (24 + 4 * k) + 2 : Int32) = nI (24 + 4 * k + 2) from nI_add _ 2, show (nI (24 + 4 * k) + 3 : Int32) = nI (24 + 4 * k + 3) from nI_add _ 3, nI_1, nI_clamp (by omega), nI_clamp (by omega), nI_clamp (by omega), nI_clamp (by omega)]
  exact ⟨vpn (by omega) (by omega), vpn (by omega) (by omega), vpn (by omega) (by omega), vpn (by omega) (by omega), nmi (h1 k6 t2 va' hva')⟩
/-- what has been read, in both -/
def CL (k : Nat) (A : LA) (law0 law : Nat → Int32) : Prop := JL k A.1 A.2.1 A.2.2.1 A.2.2.2 (fun j => law (24 + j)) ∧ ∀ j, j < 24 → law j = law0 j
theorem wr_lo {k j : Nat} {x y z w : Int32} {law : Nat → Int32} (h : j < 24 + 4 * k) : wrL k x y z w law j = law j := by
  unfold wrL; rw [up4n (by omega) (by omega) (by omega) (by omega)]
theorem wr_at {k : Nat} {x y z w : Int32} {law : Nat → Int32} : wrL k x y z w law (24 + 4 * k) = x ∧ wrL k x y z w law (24 + (4 * k + 1)) = y ∧ wrL k x y z w law (24 + (4 * k + 2)) = z ∧ wrL k x y z w law (24 + (4 * k + 3)) = w := by
  unfold wrL
  refine ⟨?_, ?_, ?_, ?_⟩
  · rw [up_n (by omega), up_n (by omega), up_n (by omega), up_s]
  · rw [show 24 + (4 * k + 1) = 24 + 4 * k + 1 by omega, up_n (by omega), up_n (by omega), up_s]
  · rw [show 24 + (4 * k + 2) = 24 + 4 * k + 2 by omega, up_n (by omega), up_s]
  · rw [show 24 + (4 * k + 3) = 24 + 4 * k + 3 by omega, up_s]
theorem CL.add {k x y z w : Nat} {A A' : LA} {law0 law : Nat → Int32} (h : CL k A law0 law) (hk : k < 6) (hx : x ≤ 10) (hy : y ≤ 10) (hz : z ≤ 63) (hw : w ≤ 10) {te : Int32} (ht : nI z ≠ 0 → te = nI w) (e : ∀ i, i < k → A'.1 i = A.1 i ∧ A'.2.1 i = A.2.1 i ∧ A'.2.2.1 i = A.2.2.1 i ∧ A'.2.2.2 i = A.2.2.2 i) (e1 : A'.1 k = nI x) (e2 : A'.2.1 k = nI y) (e3 : A'.2.2.1 k = nI z) (e4 : A'.2.2.2 k = te) : CL (k + 1) A' law0 (wrL k (nI x) (nI y) (nI z) (nI w) law) := by
  obtain ⟨⟨h1, h2⟩, h3⟩ := h
  refine ⟨⟨by omega, fun i hi => ?_⟩, fun j hj => ?_⟩
  · by_cases q : i = k
    · subst q
      obtain ⟨a1, a2, a3, a4⟩ := wr_at (k := i) (x := nI x) (y := nI y) (z := nI z) (w := nI w) (law := law)
      simp only [a1, a2, a3, a4, e1, e2, e3, e4]
      exact ⟨⟨trivial, trivial, trivial, fun q => (ht q).symm⟩, ⟨x, y, z, rfl, rfl, rfl, hx, hy, hz⟩, fun q => ⟨w, ht q, hw⟩⟩
    · have i' : i < k := by omega
      obtain ⟨b1, b2, b3, b4⟩ := e i i'
      have := h2 i i'
      simp only at this
      simp only [wr_lo (show 24 + 4 * i < 24 + 4 * k by omega), wr_lo (show 24 + (4 * i + 1) < 24 + 4 * k by omega), wr_lo (show 24 + (4 * i + 2) < 24 + 4 * k by omega), wr_lo (show 24 + (4 * i + 3) < 24 + 4 * k by omega), b1, b2, b3, b4]
      exact this
  · rw [wr_lo (by omega)]; exact h3 j hj
/-- the model's reading -/
theorem e_mread {N t : Nat} {bs tx law0 : Nat → Int32} {kd v st en : Nat → Nat} {ke : Int32 → Int32 → Int32 → Int32 → Int32 → Int32 → (Nat → Int32) → Prop} {res : Option Nat × Nat × LA} (ht : t ≤ 300) (hT : TT N t bs tx kd v st en) (hok : ∀ nx tk_ pl va law, res.1 = none → CL res.2.1 res.2.2 law0 law → ke (nI res.2.1) (-1) nx tk_ pl va law) (hbad : ∀ p i5 nx tk_ pl va law, res.1 = some p → p ≤ 300 → (∀ j, j < 24 → law j = law0 j) → ke i5 (nI p) nx tk_ pl va law) : ∀ f e k A law va fuel, e ≤ t → t + 1 ≤ e + f → f + 2 ≤ fuel → k ≤ 6 → CL k A law0 law → VA kd v e va → pr kd v st en f 0 e k A = res → f_X6_laws_L21 N (nI t) tx ke fuel (nI k) (-1) (nI (en e)) (nI (kd e)) (nI (st e)) va law := by
  intro f
  induction f using Nat.strongRecOn with
  | ind f ih =>
    intro e k A law va fuel he hf hfu hk hC hva hr
    obtain ⟨f1, rfl⟩ : ∃ f1, f = f1 + 1 := ⟨f - 1, by omega⟩
    obtain ⟨g, rfl⟩ : ∃ g, fuel = g + 1 := ⟨fuel - 1, by omega⟩
    have sb : ∀ e, e ≤ t → st e ≤ 300 := by
      intro e he
      obtain ⟨⟨t0, t1, t2, t3, t4, -⟩, -⟩ := hT e he
      by_cases z : kd e = 0
      · have := (t4 z).1; omega
      · have := t3 z; omega
    have adv : ∀ e, e ≤ t → kd e ≠ 0 → e < en e ∧ en e ≤ t := by
      intro e he z
      obtain ⟨⟨t0, t1, t2, t3, t4, -⟩, -⟩ := hT e he
      have := t3 z
      exact ⟨by omega, t2⟩
    have kb8 : ∀ e, e ≤ t → kd e ≤ 7 := fun e he => (hT e he).1.1
    -- what a fault leads to
    have flt : ∀ (p : Nat) (i5 nx tk_ pl va' : Int32) (law' : Nat → Int32), res.1 = some p → p ≤ 300 → (∀ j, j < 24 → law' j = law0 j) → f_X6_laws_L21 N (nI t) tx ke g i5 (nI p) nx tk_ pl va' law' := by
      intro p i5 nx tk_ pl va' law' hp hp3 hl
      obtain ⟨g', rfl⟩ : ∃ g', g = g' + 1 := ⟨g - 1, by omega⟩
      show f_X6_laws_B21 N (nI t) tx _ ke i5 (nI p) nx tk_ pl va' law'
      unfold f_X6_laws_B21
      exact m_ill (by omega) (ip rfl (hbad p _ _ _ _ _ _ hp hp3 hl))
    show f_X6_laws_B21 N (nI t) tx _ ke (nI k) (-1) (nI (en e)) (nI (kd e)) (nI (st e)) va law
    unfold f_X6_laws_B21
    have k7 := kb8 e he
    refine m_well (im n10 ?_)
    by_cases z0 : kd e = 0
    · rw [pr_ok z0] at hr
      refine ip (by rw [z0]; rfl) ?_
      have a := hok (nI (en e)) (nI (kd e)) (nI (st e)) va law
      rw [← hr] at a
      exact a rfl hC
    · refine im (fun q => z0 ((z_nI (by omega)).mp q)) ?_
      have pz : ¬ (kd e = 0 ∧ 0 = 0) := fun q => z0 q.1
      have lo := hC.2
      -- the first token is not taken
      have no0 : tk 0 (kd e) (v e) k A = none → f_X6_laws_J55 N (nI t) tx (nI k) (-1) (nI (en e)) (nI (kd e)) (nI (st e)) va law (f_X6_laws_L21 N (nI t) tx ke g) 0 := by
        intro hn
        rw [pr_no pz hn] at hr
        have hp : res.1 = some (st e) := by rw [← hr]
        have s3 := sb e he
        unfold f_X6_laws_J55
        exact m_takes0 (m_tenthF (by omega) (m_tenthF (by omega) (m_ill (by omega) (ip rfl (m_137F (by omega) (flt _ _ _ _ _ _ _ hp s3 lo))))))
      refine is_ (fun q1 => no0 ?_) (fun q1 => ?_)
      · unfold tk
        by_cases y : 6 ≤ k
        · rw [if_pos y]
        · rw [if_neg y, if_pos rfl, if_neg (fun z => q1 (by rw [z]; rfl))]
      have kd1 : kd e = 1 := (nI_eq (b := 1) (by omega) (by omega)).mp (Classical.not_not.mp q1)
      rcases Nat.lt_or_ge k 6 with hk6 | hk6
      · refine il_f (a := 6) hk6 (by omega) ?_
        have n6 : ¬ 6 ≤ k := by omega
        have t0 : tk 0 (kd e) (v e) k A = some (1, k, A) := by rw [tk0 hk6, if_pos kd1]
        rw [pr_go pz t0] at hr
        obtain ⟨a1, a2⟩ := adv e he z0
        unfold f_X6_laws_J55
        refine m_takes hT a2 (fun va1 hva1 => ?_)
        generalize h_e1 : en e = e1 at *
        obtain ⟨f2, rfl⟩ : ∃ f2, f1 = f2 + 1 := ⟨f1 - 1, by omega⟩
        have s1 := sb e1 a2
        refine m_tenth ht hT a2 hva1 (fun g5 a3 va2 hva2 => ?_) (fun g5 => ?_)
        · -- with
          have t1 : tk 1 (kd e1) (v e1) k A = some (2, k, (upd A.1 k (nI (v e1)), A.2.1, upd A.2.2.1 k 0, A.2.2.2)) := by rw [tk1 hk6, if_pos g5]
          rw [pr_go (fun q => by omega) t1] at hr
          obtain ⟨b1, b2⟩ := adv e1 a2 (by omega)
          generalize h_e2 : en e1 = e2 at *
          obtain ⟨f3, rfl⟩ : ∃ f3, f2 = f3 + 1 := ⟨f2 - 1, by omega⟩
          have s2 := sb e2 b2
          refine m_tenth ht hT b2 hva2 (fun h5 b3 va3 hva3 => ?_) (fun h5 => ?_)
          · -- without
            have t2 : tk 2 (kd e2) (v e2) k (upd A.1 k (nI (v e1)), A.2.1, upd A.2.2.1 k 0, A.2.2.2) = some (3, k, (upd A.1 k (nI (v e1)), upd A.2.1 k (nI (v e2)), upd A.2.2.1 k 0, A.2.2.2)) := by rw [tk2 hk6, if_pos h5]
            rw [pr_go (fun q => by omega) t2] at hr
            obtain ⟨c1, c2⟩ := adv e2 b2 (by omega)
            generalize h_e3 : en e2 = e3 at *
            obtain ⟨f4, rfl⟩ : ∃ f4, f3 = f4 + 1 := ⟨f3 - 1, by omega⟩
            have s3 := sb e3 c2
            have k73 := kb8 e3 c2
            refine m_well (im n10 (is_ (fun q3 => ?_) (fun q3 => ?_)))
            · -- no if
              have nif : kd e3 ≠ 2 := fun z => q3 (by rw [z]; rfl)
              refine m_137 ht hT c2 hk6 (fun i6 d2 va4 hva4 => ?_) (fun i6 => ?_)
              · have t3 : tk 3 (kd e3) (v e3) k (upd A.1 k (nI (v e1)), upd A.2.1 k (nI (v e2)), upd A.2.2.1 k 0, A.2.2.2) = some (0, k + 1, (upd A.1 k (nI (v e1)), upd A.2.1 k (nI (v e2)), upd A.2.2.1 k 0, A.2.2.2)) := by rw [tk3 hk6, if_neg nif, if_pos i6]
                rw [pr_go (fun q => by omega) t3] at hr
                obtain ⟨d1, -⟩ := adv e3 c2 (by omega)
                refine ih f4 (by omega) (en e3) (k + 1) _ _ va4 g d2 (by omega) (by omega) (by omega) ?_ hva4 hr
                refine CL.add (x := v e1) (y := v e2) (z := 0) (w := v e1) hC hk6 g5.2 h5.2 (by omega) g5.2 (te := A.2.2.2 k) (fun q => absurd rfl q) (fun i hi => ⟨up_n (by omega), up_n (by omega), up_n (by omega), rfl⟩) up_s up_s up_s rfl
              · have t3 : tk 3 (kd e3) (v e3) k (upd A.1 k (nI (v e1)), upd A.2.1 k (nI (v e2)), upd A.2.2.1 k 0, A.2.2.2) = none := by rw [tk3 hk6, if_neg nif, if_neg i6]
                rw [pr_no (fun q => by omega) t3] at hr
                exact flt _ _ _ _ _ _ _ (by rw [← hr]) s3 lo
            · -- if
              have kif : kd e3 = 2 := (nI_eq (b := 2) (by omega) (by omega)).mp (Classical.not_not.mp q3)
              have t3 : tk 3 (kd e3) (v e3) k (upd A.1 k (nI (v e1)), upd A.2.1 k (nI (v e2)), upd A.2.2.1 k 0, A.2.2.2) = some (4, k, (upd A.1 k (nI (v e1)), upd A.2.1 k (nI (v e2)), upd A.2.2.1 k 0, A.2.2.2)) := by rw [tk3 hk6, if_pos kif]
              rw [pr_go (fun q => by omega) t3] at hr
              obtain ⟨d1, d2⟩ := adv e3 c2 (by omega)
              refine (hT _ d2).1.2.2.2.2.2.2.2.2 _ _ (fun va4 hva4 => ?_)
              generalize h_e4 : en e3 = e4 at *
              obtain ⟨f5, rfl⟩ : ∃ f5, f4 = f5 + 1 := ⟨f4 - 1, by omega⟩
              have s4 := sb e4 d2
              have k74 := kb8 e4 d2
              unfold f_X6_laws_J108
              refine is_ (fun q4 => ?_) (fun q4 => ?_)
              · have t4 : tk 4 (kd e4) (v e4) k (upd A.1 k (nI (v e1)), upd A.2.1 k (nI (v e2)), upd A.2.2.1 k 0, A.2.2.2) = none := by rw [tk4 hk6, if_neg (fun z => q4 (by rw [z]; rfl))]
                rw [pr_no (fun q => by omega) t4] at hr
                unfold f_X6_laws_J127
                exact m_takes0 (is_ (fun _ => m_takesF (by omega) (m_tenthF (by omega) (m_137F (by omega) (flt _ _ _ _ _ _ _ (by rw [← hr]) s4 lo)))) (fun _ => m_takesF (by omega) (m_tenthF (by omega) (m_137F (by omega) (flt _ _ _ _ _ _ _ (by rw [← hr]) s4 lo)))))
              · have k4 : kd e4 = 4 := (nI_eq (b := 4) (by omega) (by omega)).mp (Classical.not_not.mp q4)
                have t4 : tk 4 (kd e4) (v e4) k (upd A.1 k (nI (v e1)), upd A.2.1 k (nI (v e2)), upd A.2.2.1 k 0, A.2.2.2) = some (5, k, (upd A.1 k (nI (v e1)), upd A.2.1 k (nI (v e2)), upd (upd A.2.2.1 k 0) k (nI (v e4)), A.2.2.2)) := by rw [tk4 hk6, if_pos k4]
                rw [pr_go (fun q => by omega) t4] at hr
                obtain ⟨m1, m2⟩ := adv e4 d2 (by omega)
                have v4 := (hT e4 d2).1.2.2.2.2.2.1 k4
                have w4 := hva4 (Or.inl k4)
                refine m_takes hT m2 (fun va5 hva5 => ?_)
                generalize h_e5 : en e4 = e5 at *
                obtain ⟨f6, rfl⟩ : ∃ f6, f5 = f6 + 1 := ⟨f5 - 1, by omega⟩
                have s5 := sb e5 m2
                have k75 := kb8 e5 m2
                unfold f_X6_laws_J127
                refine is_ (fun q5 => ?_) (fun q5 => ?_)
                · have t5 : tk 5 (kd e5) (v e5) k (upd A.1 k (nI (v e1)), upd A.2.1 k (nI (v e2)), upd (upd A.2.2.1 k 0) k (nI (v e4)), A.2.2.2) = none := by rw [tk5 hk6, if_neg (fun z => q5 (by rw [z]; rfl))]
                  rw [pr_no (fun q => by omega) t5] at hr
                  exact m_takes0 (m_tenthF (by omega) (m_137F (by omega) (flt _ _ _ _ _ _ _ (by rw [← hr]) s5 lo)))
                · have k3 : kd e5 = 3 := (nI_eq (b := 3) (by omega) (by omega)).mp (Classical.not_not.mp q5)
                  have t5 : tk 5 (kd e5) (v e5) k (upd A.1 k (nI (v e1)), upd A.2.1 k (nI (v e2)), upd (upd A.2.2.1 k 0) k (nI (v e4)), A.2.2.2) = some (6, k, (upd A.1 k (nI (v e1)), upd A.2.1 k (nI (v e2)), upd (upd A.2.2.1 k 0) k (nI (v e4)), A.2.2.2)) := by rw [tk5 hk6, if_pos k3]
                  rw [pr_go (fun q => by omega) t5] at hr
                  obtain ⟨n1, n2⟩ := adv e5 m2 (by omega)
                  refine m_takes hT n2 (fun va6 hva6 => ?_)
                  generalize h_e6 : en e5 = e6 at *
                  obtain ⟨f7, rfl⟩ : ∃ f7, f6 = f7 + 1 := ⟨f6 - 1, by omega⟩
                  have s6 := sb e6 n2
                  refine m_tenth ht hT n2 hva6 (fun l5 r2 va7 hva7 => ?_) (fun l5 => ?_)
                  · have t6 : tk 6 (kd e6) (v e6) k (upd A.1 k (nI (v e1)), upd A.2.1 k (nI (v e2)), upd (upd A.2.2.1 k 0) k (nI (v e4)), A.2.2.2) = some (7, k, (upd A.1 k (nI (v e1)), upd A.2.1 k (nI (v e2)), upd (upd A.2.2.1 k 0) k (nI (v e4)), upd A.2.2.2 k (nI (v e6)))) := by rw [tk6 hk6, if_pos l5]
                    rw [pr_go (fun q => by omega) t6] at hr
                    obtain ⟨r1, -⟩ := adv e6 n2 (by omega)
                    generalize h_e7 : en e6 = e7 at *
                    obtain ⟨f8, rfl⟩ : ∃ f8, f7 = f8 + 1 := ⟨f7 - 1, by omega⟩
                    have s7 := sb e7 r2
                    refine m_137 ht hT r2 hk6 (fun i6 x2 va8 hva8 => ?_) (fun i6 => ?_)
                    · have t7 : tk 7 (kd e7) (v e7) k (upd A.1 k (nI (v e1)), upd A.2.1 k (nI (v e2)), upd (upd A.2.2.1 k 0) k (nI (v e4)), upd A.2.2.2 k (nI (v e6))) = some (0, k + 1, (upd A.1 k (nI (v e1)), upd A.2.1 k (nI (v e2)), upd (upd A.2.2.1 k 0) k (nI (v e4)), upd A.2.2.2 k (nI (v e6)))) := by rw [tk7 hk6, if_pos i6]
                      rw [pr_go (fun q => by omega) t7] at hr
                      obtain ⟨x1, -⟩ := adv e7 r2 (by omega)
                      rw [w4]
                      refine ih f8 (by omega) (en e7) (k + 1) _ _ va8 g x2 (by omega) (by omega) (by omega) ?_ hva8 hr
                      exact CL.add (x := v e1) (y := v e2) (z := v e4) (w := v e6) hC hk6 g5.2 h5.2 v4.2 l5.2 (te := nI (v e6)) (fun _ => rfl) (fun i hi => ⟨up_n (by omega), up_n (by omega), up2n (by omega) (by omega), up_n (by omega)⟩) up_s up_s up_s up_s
                    · have t7 : tk 7 (kd e7) (v e7) k (upd A.1 k (nI (v e1)), upd A.2.1 k (nI (v e2)), upd (upd A.2.2.1 k 0) k (nI (v e4)), upd A.2.2.2 k (nI (v e6))) = none := by rw [tk7 hk6, if_neg i6]
                      rw [pr_no (fun q => by omega) t7] at hr
                      exact flt _ _ _ _ _ _ _ (by rw [← hr]) s7 lo
                  · have t6 : tk 6 (kd e6) (v e6) k (upd A.1 k (nI (v e1)), upd A.2.1 k (nI (v e2)), upd (upd A.2.2.1 k 0) k (nI (v e4)), A.2.2.2) = none := by rw [tk6 hk6, if_neg l5]
                    rw [pr_no (fun q => by omega) t6] at hr
                    exact m_137F (by omega) (flt _ _ _ _ _ _ _ (by rw [← hr]) s6 lo)
          · have t2 : tk 2 (kd e2) (v e2) k (upd A.1 k (nI (v e1)), A.2.1, upd A.2.2.1 k 0, A.2.2.2) = none := by rw [tk2 hk6, if_neg h5]
            rw [pr_no (fun q => by omega) t2] at hr
            exact m_ill (by omega) (ip rfl (m_137F (by omega) (flt _ _ _ _ _ _ _ (by rw [← hr]) s2 lo)))
        · have t1 : tk 1 (kd e1) (v e1) k A = none := by rw [tk1 hk6, if_neg g5]
          rw [pr_no (fun q => by omega) t1] at hr
          exact m_tenthF (by omega) (m_ill (by omega) (ip rfl (m_137F (by omega) (flt _ _ _ _ _ _ _ (by rw [← hr]) s1 lo))))
      · exact il_t (a := 6) hk6 (by omega) (no0 (by unfold tk; rw [if_pos hk6]))
/-- the copy -/
def cp (law : Nat → Int32) (i : Nat) : Nat → Int32 := fun j => if j < i then law (24 + j) else law j
theorem cp_s (law : Nat → Int32) (i : Nat) : upd (cp law i) i (law (24 + i)) = cp law (i + 1) := by
  funext j
  unfold cp upd
  by_cases q : j = i
  · rw [if_pos q, if_pos (by omega), q]
  · rw [if_neg q]
    show (if j < i then law (24 + j) else law j) = _
    by_cases w : j < i
    · rw [if_pos w, if_pos (by omega)]
    · rw [if_neg w, if_neg (by omega)]
theorem e_copy {N : Nat} {law : Nat → Int32} {ke : Int32 → (Nat → Int32) → Prop} (hN : 5000 ≤ N) (h : ke (nI 24) (cp law 24)) : f_X6_laws_L234 N ke N 0 law := by
  have e0 : cp law 0 = law := by funext j; unfold cp; rw [if_neg (by omega)]
  suffices key : f_X6_laws_L234 N ke N (nI 0) (cp law 0) by rw [e0] at key; exact key
  refine lq2 (f_X6_laws_L234 N ke) (fun K u v => f_X6_laws_B234 N K ke u v) (fun _ _ _ => Iff.rfl) nI (fun i => cp law i) 24 (fun i hi K hK => ?_) (fun K => ?_) N (by omega)
  · unfold f_X6_laws_B234
    refine il_f (a := 24) hi (by omega) ?_
    rw [show (24 + nI i : Int32) = nI (24 + i) from nI_add 24 i, nI_clamp (by omega), nI_clamp (by omega), nI_1]
    refine ⟨vpn (by omega) (by omega), nmi ⟨vpn (by omega) (by omega), nmi ?_⟩⟩
    have e : cp law i (24 + i) = law (24 + i) := by unfold cp; rw [if_neg (by omega)]
    rw [e, cp_s]; exact hK
  · unfold f_X6_laws_B234
    exact il_t (a := 24) (by omega) (by omega) h
theorem pr_b {kd v st en : Nat → Nat} {t : Nat} (h1 : ∀ e, e ≤ t → st e ≤ 300 ∧ en e ≤ t) : ∀ f due e k A p, e ≤ t → (pr kd v st en f due e k A).1 = some p → p ≤ 300 := by
  intro f
  induction f with
  | zero => intro due e k A p _ h; have := Option.some.inj h; omega
  | succ f ih =>
    intro due e k A p he h
    rw [pr] at h
    by_cases q : kd e = 0 ∧ due = 0
    · rw [if_pos q] at h; exact absurd h (by simp)
    · rw [if_neg q] at h
      cases z : tk due (kd e) (v e) k A with
      | none => rw [z] at h; have := Option.some.inj h; have := (h1 e he).1; omega
      | some y => rw [z] at h; exact ih _ _ _ _ p (h1 e he).2 h
theorem p_laws {N t kl : Nat} {bs tx law sti stw stc ste : Nat → Int32} {tok_ val start va0 : Int32} {qr qs : Nat} (hN : 5000 ≤ N) (hT : JT t bs tx) {post : Int32 → Nat → Nat → Int32 → Int32 → Int32 → Int32 → Int32 → Int32 → (Nat → Int32) → (Nat → Int32) → (Nat → Int32) → (Nat → Int32) → Prop} (hok : ∀ k ti tw tc te u2 u3 u4 u5, (∀ P : Int32 → Int32 → Int32 → Int32 → Int32 → Int32 → Int32 → Int32 → Int32 → (Nat → Int32) → Prop, (∀ law' nx tk_ pl va fa, JL k ti tw tc te law' → P (nI k) 0 0 nx tk_ pl va fa (nI k) law') → f_X6_laws N (nI t) va0 (nI kl) tx law P) → post (nI k) qs qr 0 u2 u3 u4 u5 (nI k) ti tw tc te) (hbad : ∀ r u2 u3 u4 u5 u6 ti tw tc te, (∀ P : Int32 → Int32 → Int32 → Int32 → Int32 → Int32 → Int32 → Int32 → Int32 → (Nat → Int32) → Prop, (∀ law' nx tk_ pl va fa, (∀ j, j < 24 → law' j = law j) → P r 0 (nI t) nx tk_ pl va fa (nI kl) law') → f_X6_laws N (nI t) va0 (nI kl) tx law P) → post r qr qs (nI t) u2 u3 u4 u5 u6 ti tw tc te) : f_X5_laws N (nI t) tok_ val start bs sti stw stc ste qr qs post := by
  have ht := hT.1
  have hTX := hT.TX
  have ex : ∀ e, ∃ q : Nat × Nat × Nat × Nat, e ≤ t → Tok N t e bs tx q.1 q.2.1 q.2.2.1 q.2.2.2 ∧ q.2.1 ≤ 99 := by
    intro e
    by_cases he : e ≤ t
    · obtain ⟨kd, v, st, en, h⟩ := tok hN hTX he
      by_cases z : kd = 4 ∨ kd = 5
      · refine ⟨(kd, v, st, en), fun _ => ⟨h, ?_⟩⟩
        rcases z with z | z
        · have := h.2.2.2.2.2.1 z; show v ≤ 99; omega
        · exact h.2.2.2.2.2.2.1 z
      · obtain ⟨t0, t1, t2, t3, t4, t5, t6, t7, t8⟩ := h
        exact ⟨(kd, 0, st, en), fun _ => ⟨⟨t0, t1, t2, t3, t4, fun y => absurd (Or.inl y) z, fun y => absurd (Or.inr y) z, fun post h => t7 post (fun v' _ => h v' (fun y => absurd y z)), fun val post h => t8 val post (fun v' _ => h v' (fun y => absurd y z))⟩, by show 0 ≤ 99; omega⟩⟩
    · exact ⟨(0, 0, 0, 0), fun z => absurd z he⟩
  let q : Nat → Nat × Nat × Nat × Nat := fun e => Classical.choose (ex e)
  have hTT : TT N t bs tx (fun e => (q e).1) (fun e => (q e).2.1) (fun e => (q e).2.2.1) (fun e => (q e).2.2.2) := fun e he => Classical.choose_spec (ex e) he
  generalize (fun e => (q e).1) = kd at hTT
  generalize (fun e => (q e).2.1) = v at hTT
  generalize (fun e => (q e).2.2.1) = st at hTT
  generalize (fun e => (q e).2.2.2) = en at hTT
  unfold f_X5_laws f_X4_readInto
  refine e_read ht hTT 302 0 0 0 0 (sti, stw, stc, ste) N _ _ _ (by omega) (by omega) (by omega) (by omega) (by omega) (by omega) (fun u2 u3 u4 u5 => ?_)
  generalize hres : pr kd v st en 302 0 0 0 (sti, stw, stc, ste) = res
  have mdl : ∀ (P : Int32 → Int32 → Int32 → Int32 → Int32 → Int32 → Int32 → Int32 → Int32 → (Nat → Int32) → Prop), (∀ nx tk_ pl va law', res.1 = none → JL res.2.1 res.2.2.1 res.2.2.2.1 res.2.2.2.2.1 res.2.2.2.2.2 law' → P (nI res.2.1) 0 0 nx tk_ pl va (-1) (nI res.2.1) law') → (∀ p nx tk_ pl va law', res.1 = some p → (∀ j, j < 24 → law' j = law j) → P ((-10) - nI p) 0 (nI t) nx tk_ pl va (nI p) (nI kl) law') → f_X6_laws N (nI t) va0 (nI kl) tx law P := by
    intro P h1 h0
    unfold f_X6_laws
    refine (hTT 0 (by omega)).1.2.2.2.2.2.2.2.2 _ _ (fun va hva => ?_)
    refine e_mread (law0 := law) (res := res) ht hTT (fun nx tk_ pl va law' hr hC => m_well (ip n10 (e_copy hN (h1 _ _ _ _ _ hr ?_)))) (fun p i5 nx tk_ pl va law' hr hp hl => m_ill (by omega) (im (nn rfl) (h0 p _ _ _ _ _ hr hl))) 302 0 0 (sti, stw, stc, ste) law va N (by omega) (by omega) (by omega) (by omega) ⟨⟨by omega, fun i hi => absurd hi (by omega)⟩, fun _ _ => rfl⟩ hva hres
    have hk := hC.1.1
    refine ⟨hk, fun i hi => ?_⟩
    have e : ∀ j, j < 24 → cp law' 24 j = law' (24 + j) := fun j hj => by unfold cp; rw [if_pos hj]
    rw [e _ (by omega), e _ (by omega), e _ (by omega), e _ (by omega)]
    exact hC.1.2 i hi
  cases hr : res.1 with
  | none =>
    refine ip rfl (hok _ _ _ _ _ _ _ _ _ (fun P hP => mdl P (fun nx tk_ pl va law' _ hL => hP _ _ _ _ _ _ hL) (fun p _ _ _ _ _ z => by rw [hr] at z; exact absurd z (by simp))))
  | some p =>
    refine im ?_ (hbad _ _ _ _ _ _ _ _ _ _ (fun P hP => mdl P (fun _ _ _ _ _ z => by rw [hr] at z; exact absurd z (by simp)) (fun p' nx tk_ pl va law' z hl => ?_)))
    · have pb : p ≤ 300 := by
        refine pr_b (t := t) (fun e he => ?_) 302 0 0 0 (sti, stw, stc, ste) p (by omega) (by rw [hres]; exact hr)
        obtain ⟨⟨t0, t1, t2, t3, t4, -⟩, -⟩ := hTT e he
        refine ⟨?_, t2⟩
        by_cases z : kd e = 0
        · have := (t4 z).1; omega
        · have := t3 z; omega
      exact fun z => nI_pos (show p < 2 ^ 31 by omega) (by have z' : nI p = -1 := z; rw [z']; decide)
    · rw [hr] at z
      have e : p = p' := Option.some.inj z
      subst e
      exact hP _ _ _ _ _ _ hl
