/-! The houses of both sides: house, about, mend. -/
def JH (n : Nat) (p a b c s : Nat → Int32) : Prop := n ≤ 12 ∧ s 0 = nI n ∧ ∀ i, i < n → (s (1 + 4 * i + 0) = p i ∧ s (1 + 4 * i + 1) = a i ∧ s (1 + 4 * i + 2) = b i ∧ s (1 + 4 * i + 3) = c i) ∧ (1 ≤ p i ∧ p i ≤ 12 ∧ 0 ≤ a i ∧ a i ≤ p i ∧ 0 ≤ b i ∧ b i ≤ p i ∧ 0 ≤ c i ∧ c i ≤ 63)
theorem n10 : ¬ (1 : Int32) = 0 := by decide
theorem n00 : ¬ ¬ (0 : Int32) = 0 := by decide
theorem off4 {b i w : Nat} : ((nI b + nI 4 * nI i) + nI w) = nI (b + 4 * i + w) := by rw [pk_mul, nI_add, nI_add]
theorem e_of {N i w : Nat} {s : Nat → Int32} {post : Int32 → Prop} (hi : i < 12) (hw : w < 4) (h : post (s (1 + 4 * i + w))) : f_X6_of N s (nI i) (nI w) post := by
  show vp_in ((nI 1 + nI 4 * nI i) + nI w) 114 ∧ post (s ((nI 1 + nI 4 * nI i) + nI w).toNatClampNeg)
  rw [off4, nI_clamp (by omega)]
  exact ⟨vpn (by omega) (by omega), h⟩
theorem e_isHouse {N n : Nat} {s : Nat → Int32} {x : Int32} {post : Int32 → Prop} (hn : n ≤ 12) (hs : s 0 = nI n) (h1 : ∀ i, i < n → x = nI i → post 1) (h0 : (x < 0 ∨ nI n ≤ x) → post 0) : f_X6_isHouse N s x post := by
  unfold f_X6_isHouse
  rw [cl0, hs]
  rcases i32_cases x (n := n) (by omega) with ⟨i, hi, rfl⟩ | h
  · refine e_in (fun _ _ => h1 i hi rfl) (fun q => absurd ⟨nI_pos' (by omega), ?_⟩ q)
    rw [sub1 (by omega)]
    exact nI_le (by omega) (by omega)
  · exact e_in (fun q1 q2 => (no_ix (by omega) h q1 q2).elim) (fun _ => h0 h)
theorem e_has {N n : Nat} {x : Int32} {post : Int32 → Prop} (hn : n < 2 ^ 31) (h1 : ∀ i, i < n → x = nI i → post 1) (h0 : (x < 0 ∨ nI n ≤ x) → post 0) : f_X2_has N (nI n) x post := by
  unfold f_X2_has
  refine is_ (fun q => h0 (Or.inl q)) (fun q => is_ (fun q2 => h0 (Or.inr q2)) (fun q2 => ?_))
  rcases i32_cases x (n := n) hn with ⟨i, hi, e⟩ | h | h
  · exact h1 i hi e
  · exact absurd h q
  · exact absurd h q2
/-- what a house may be -/
def okH (x1 x2 x3 x4 : Int32) : Prop := (1 ≤ x1 ∧ x1 ≤ 12) ∧ (0 ≤ x2 ∧ x2 ≤ x1) ∧ (0 ≤ x3 ∧ x3 ≤ x1) ∧ (0 ≤ x4 ∧ x4 ≤ 63)
theorem x_house {N n : Nat} {p a b c : Nat → Int32} {x1 x2 x3 x4 : Int32} {post : Int32 → Int32 → (Nat → Int32) → (Nat → Int32) → (Nat → Int32) → (Nat → Int32) → Prop} (hn : n ≤ 12) (hb : ¬ okH x1 x2 x3 x4 → post (-1) (nI n) p a b c) (hf : okH x1 x2 x3 x4 → n = 12 → post (-3) (nI n) p a b c) (hg : okH x1 x2 x3 x4 → n < 12 → post (nI n) (nI (n + 1)) (upd p n x1) (upd a n x2) (upd b n x3) (upd c n x4)) : f_X5_house N (nI n) p a b c x1 x2 x3 x4 post := by
  unfold f_X5_house
  refine e_within (fun a1 a2 => im n10 ?_) (fun q => ip rfl (hb (fun z => q z.1)))
  refine e_within (fun a3 a4 => im n10 ?_) (fun q => ip rfl (hb (fun z => q z.2.1)))
  refine e_within (fun a5 a6 => im n10 ?_) (fun q => ip rfl (hb (fun z => q z.2.2.1)))
  refine e_within (fun a7 a8 => ip n10 ?_) (fun q => im n00 (hb (fun z => q z.2.2.2)))
  have ok : okH x1 x2 x3 x4 := ⟨⟨a1, a2⟩, ⟨a3, a4⟩, ⟨a5, a6⟩, ⟨a7, a8⟩⟩
  unfold f_X2_isFull
  rcases Nat.lt_or_ge n 12 with h | h
  · refine it_t (b := 12) h (by omega) (ip rfl ?_)
    unfold f_X2_add
    have hv : vp_in (nI n) 12 := vpn h (by omega)
    refine ⟨hv, hv, hv, hv, nmi ?_⟩
    rw [nI_1, nI_pred, nI_clamp (by omega)]
    exact hg ok h
  · have e : n = 12 := by omega
    exact it_f (b := 12) h (by omega) (im n10 (hf ok e))
theorem m_house {N n : Nat} {s : Nat → Int32} {x1 x2 x3 x4 : Int32} {post : Int32 → Int32 → (Nat → Int32) → Prop} (hn : n ≤ 12) (hs : s 0 = nI n) (hb : ¬ okH x1 x2 x3 x4 → post (-1) 0 s) (hf : okH x1 x2 x3 x4 → n = 12 → post (-3) 0 s) (hg : okH x1 x2 x3 x4 → n < 12 → post (nI n) 0 (upd (upd (upd (upd (upd s (1 + 4 * n + 0) x1) (1 + 4 * n + 1) x2) (1 + 4 * n + 2) x3) (1 + 4 * n + 3) x4) 0 (nI (n + 1)))) : f_X6_house N s x1 x2 x3 x4 post := by
  unfold f_X6_house
  rw [cl0, hs]
  refine e_in (fun a1 a2 => im n10 ?_) (fun q => ip rfl (hb (fun z => q z.1)))
  refine e_in (fun a3 a4 => im n10 ?_) (fun q => ip rfl (hb (fun z => q z.2.1)))
  refine e_in (fun a5 a6 => im n10 ?_) (fun q => ip rfl (hb (fun z => q z.2.2.1)))
  refine e_in (fun a7 a8 => ip n10 ?_) (fun q => im n00 (hb (fun z => q z.2.2.2)))
  have ok : okH x1 x2 x3 x4 := ⟨⟨a1, a2⟩, ⟨a3, a4⟩, ⟨a5, a6⟩, ⟨a7, a8⟩⟩
  rcases Nat.lt_or_ge n 12 with h | h
  · refine ip (fun q => absurd ((nI_eq (b := 12) (by omega) (by omega)).mp q) (by omega)) ?_
    have e0 : (1 : Int32) + 4 * nI n = nI (1 + 4 * n + 0) := by show nI 1 + nI 4 * nI n = _; rw [pk_mul, nI_add]; rfl
    have e1 : nI (1 + 4 * n + 0) + 1 = nI (1 + 4 * n + 1) := nI_1 _
    have e2 : nI (1 + 4 * n + 0) + 2 = nI (1 + 4 * n + 2) := by show _ + nI 2 = _; rw [nI_add]
    have e3 : nI (1 + 4 * n + 0) + 3 = nI (1 + 4 * n + 3) := by show _ + nI 3 = _; rw [nI_add]
    rw [e0]
    refine nmi ?_
    rw [e1, e2, e3]
    refine ⟨vpn (by omega) (by omega), vpn (by omega) (by omega), vpn (by omega) (by omega), vpn (by omega) (by omega), nmi ?_⟩
    rw [nI_clamp (by omega), nI_clamp (by omega), nI_clamp (by omega), nI_clamp (by omega)]
    have e4 : upd (upd (upd (upd s (1 + 4 * n + 0) x1) (1 + 4 * n + 1) x2) (1 + 4 * n + 2) x3) (1 + 4 * n + 3) x4 0 = nI n := (up4n (by omega) (by omega) (by omega) (by omega)).trans hs
    rw [e4, nI_1, up_s, nI_pred]
    exact hg ok h
  · have e : n = 12 := by omega
    exact im (fun q => q (by rw [e]; rfl)) (hf ok e)
theorem JH_add {n : Nat} {p a b c s : Nat → Int32} {x1 x2 x3 x4 : Int32} (hJ : JH n p a b c s) (h : n < 12) (ok : okH x1 x2 x3 x4) : JH (n + 1) (upd p n x1) (upd a n x2) (upd b n x3) (upd c n x4) (upd (upd (upd (upd (upd s (1 + 4 * n + 0) x1) (1 + 4 * n + 1) x2) (1 + 4 * n + 2) x3) (1 + 4 * n + 3) x4) 0 (nI (n + 1))) := by
  obtain ⟨h1, h2, h3⟩ := hJ
  refine ⟨by omega, up_s, fun i hi => ?_⟩
  rcases Nat.lt_or_ge i n with q | q
  · have z := h3 i q
    rw [up5n (j := 1 + 4 * i + 0) (by omega) (by omega) (by omega) (by omega) (by omega), up5n (j := 1 + 4 * i + 1) (by omega) (by omega) (by omega) (by omega) (by omega), up5n (j := 1 + 4 * i + 2) (by omega) (by omega) (by omega) (by omega) (by omega), up5n (j := 1 + 4 * i + 3) (by omega) (by omega) (by omega) (by omega) (by omega)]
    rw [up_n (f := p) (show i ≠ n by omega), up_n (f := a) (show i ≠ n by omega), up_n (f := b) (show i ≠ n by omega), up_n (f := c) (show i ≠ n by omega)]
    exact z
  · have e : i = n := by omega
    subst e
    rw [up_s (f := p), up_s (f := a), up_s (f := b), up_s (f := c)]
    refine ⟨⟨?_, ?_, ?_, ?_⟩, ok.1.1, ok.1.2, ok.2.1.1, ok.2.1.2, ok.2.2.1.1, ok.2.2.1.2, ok.2.2.2.1, ok.2.2.2.2⟩
    · rw [up_n (by omega), up_n (by omega), up_n (by omega), up_n (by omega), up_s]
    · rw [up_n (by omega), up_n (by omega), up_n (by omega), up_s]
    · rw [up_n (by omega), up_n (by omega), up_s]
    · rw [up_n (by omega), up_s]
theorem p_house {N n : Nat} {p a b c s : Nat → Int32} (hJ : JH n p a b c s) {x1 x2 x3 x4 : Int32} {k : Int32 → Int32 → (Nat → Int32) → (Nat → Int32) → (Nat → Int32) → (Nat → Int32) → Int32 → Int32 → (Nat → Int32) → Prop}
    (hk : ∀ r n' p' a' b' c' s', JH n' p' a' b' c' s' → (∀ j, 49 ≤ j → s' j = s j) → k r (nI n') p' a' b' c' r 0 s') : f_X5_house N (nI n) p a b c x1 x2 x3 x4 (fun r n' p' a' b' c' => f_X6_house N s x1 x2 x3 x4 (fun r2 t s' => k r n' p' a' b' c' r2 t s')) := by
  refine x_house hJ.1 (fun q => ?_) (fun ok q => ?_) (fun ok q => ?_)
  · exact m_house hJ.1 hJ.2.1 (fun _ => hk _ _ _ _ _ _ _ hJ (fun _ _ => rfl)) (fun ok _ => absurd ok q) (fun ok _ => absurd ok q)
  · exact m_house hJ.1 hJ.2.1 (fun z => absurd ok z) (fun _ _ => hk _ _ _ _ _ _ _ hJ (fun _ _ => rfl)) (fun _ z => absurd z (by omega))
  · refine m_house hJ.1 hJ.2.1 (fun z => absurd ok z) (fun _ z => absurd z (by omega)) (fun _ _ => hk _ _ _ _ _ _ _ (JH_add hJ q ok) (fun j hj => ?_))
    exact up5n (by omega) (by omega) (by omega) (by omega) (by omega)
/-- about -/
theorem p_about {N n : Nat} {p a b c s : Nat → Int32} (hJ : JH n p a b c s) {x1 x2 : Int32} {k : Int32 → Int32 → Int32 → Prop} (hk : ∀ r, k r r 0) : f_X5_about N (nI n) p a b c x1 x2 (fun r => f_X6_about N s x1 x2 (fun r2 t => k r r2 t)) := by
  obtain ⟨hn, hs, hh⟩ := hJ
  have bad : (x1 < 0 ∨ nI n ≤ x1) → f_X6_about N s x1 x2 (fun r2 t => k (-1) r2 t) := by
    intro q
    unfold f_X6_about
    refine e_isHouse hn hs (fun i hi e => ?_) (fun _ => ip rfl (hk _))
    subst e
    rcases q with q | q
    · exact absurd q (nI_pos (by omega))
    · exact absurd q (nI_ge hi (by omega))
  unfold f_X5_about
  refine e_has (by omega) (fun i hi e => ip n10 ?_) (fun q => im n00 (bad q))
  subst e
  have hv : vp_in (nI i) 12 := vpn (by omega) (by omega)
  rw [nI_clamp (by omega)]
  have good : ∀ w : Nat, w < 4 → x2 = nI w → ∀ r : Int32, s (1 + 4 * i + w) = r → f_X6_about N s (nI i) x2 (fun r2 t => k r r2 t) := by
    intro w hw e r er
    subst e
    unfold f_X6_about
    refine e_isHouse hn hs (fun _ _ _ => im n10 ?_) (fun q => ?_)
    · refine e_in (fun _ _ => im n10 (e_of (by omega) hw (by rw [er]; exact hk r))) (fun q => absurd ⟨nI_pos' (by omega), nI_le (b := 3) (by omega) (by omega)⟩ q)
    · rcases q with q | q
      · exact absurd q (nI_pos (by omega))
      · exact absurd q (nI_ge hi (by omega))
  refine is_ (fun e => ⟨hv, good 0 (by omega) e _ (hh i hi).1.1⟩) (fun c0 => is_ (fun e => ⟨hv, good 1 (by omega) e _ (hh i hi).1.2.1⟩) (fun c1 => is_ (fun e => ⟨hv, good 2 (by omega) e _ (hh i hi).1.2.2.1⟩) (fun c2 => is_ (fun e => ⟨hv, good 3 (by omega) e _ (hh i hi).1.2.2.2⟩) (fun c3 => ?_))))
  unfold f_X6_about
  refine e_isHouse hn hs (fun _ _ _ => im n10 ?_) (fun _ => ip rfl (hk _))
  refine e_in (fun q1 q2 => ?_) (fun _ => ip rfl (hk _))
  exfalso
  obtain ⟨w, hw, e⟩ := i32_in (n := 3) (by omega) q1 q2
  rcases (show w = 0 ∨ w = 1 ∨ w = 2 ∨ w = 3 by omega) with rfl | rfl | rfl | rfl
  · exact c0 e
  · exact c1 e
  · exact c2 e
  · exact c3 e
/-- mend -/
theorem p_mend {N n : Nat} {p a b c s : Nat → Int32} (hJ : JH n p a b c s) {x1 x2 x3 : Int32} {k : Int32 → (Nat → Int32) → (Nat → Int32) → Int32 → Int32 → (Nat → Int32) → Prop} (hk : ∀ r a' b' s', JH n p a' b' c s' → (∀ j, 49 ≤ j → s' j = s j) → k r a' b' r 0 s') : f_X5_mend N (nI n) p a b x1 x2 x3 (fun r a' b' => f_X6_mend N s x1 x2 x3 (fun r2 t s' => k r a' b' r2 t s')) := by
  obtain ⟨hn, hs, hh⟩ := id hJ
  have same := hk (-1) a b s hJ (fun _ _ => rfl)
  have nh : ∀ i, i < n → ¬ (nI i < 0 ∨ nI n ≤ nI i) := by
    intro i hi q
    rcases q with q | q
    · exact absurd q (nI_pos (by omega))
    · exact absurd q (nI_ge hi (by omega))
  unfold f_X5_mend
  refine e_has (by omega) (fun i hi e => im n10 ?_) (fun q => ip rfl ?_)
  · subst e
    have hv : vp_in (nI i) 12 := vpn (by omega) (by omega)
    have hc : (nI i).toNatClampNeg = i := nI_clamp (by omega)
    rw [hc]
    have z := hh i hi
    have bad : ¬ ((0 ≤ x2 ∧ x2 ≤ p i) ∧ (0 ≤ x3 ∧ x3 ≤ p i)) → f_X6_mend N s (nI i) x2 x3 (fun r2 t s' => k (-1) a b r2 t s') := by
      intro q
      unfold f_X6_mend
      refine e_isHouse hn hs (fun _ _ _ => im n10 ?_) (fun q => absurd q (nh i hi))
      refine e_of (w := 0) (by omega) (by omega) ?_
      rw [z.1.1]
      refine e_in (fun b1 b2 => im n10 ?_) (fun _ => ip rfl same)
      refine e_of (w := 0) (by omega) (by omega) ?_
      rw [z.1.1]
      refine e_in (fun b3 b4 => absurd ⟨⟨b1, b2⟩, b3, b4⟩ q) (fun _ => im n00 same)
    refine ⟨hv, e_within (fun b1 b2 => im n10 ?_) (fun q => ip rfl (bad (fun z => q z.1)))⟩
    refine ⟨hv, e_within (fun b3 b4 => ip n10 ?_) (fun q => im n00 (bad (fun z => q z.2)))⟩
    refine ⟨hv, hv, nmi ⟨hv, hv, ?_⟩⟩
    unfold f_X6_mend
    refine e_isHouse hn hs (fun _ _ _ => im n10 ?_) (fun q => absurd q (nh i hi))
    refine e_of (w := 0) (by omega) (by omega) ?_
    rw [z.1.1]
    refine e_in (fun _ _ => im n10 ?_) (fun q => absurd ⟨b1, b2⟩ q)
    refine e_of (w := 0) (by omega) (by omega) ?_
    rw [z.1.1]
    refine e_in (fun _ _ => ip n10 ?_) (fun q => absurd ⟨b3, b4⟩ q)
    refine e_of (w := 1) (by omega) (by omega) (e_of (w := 2) (by omega) (by omega) (nmi ?_))
    have e1 : ((1 + (4 * nI i)) + 1 : Int32) = nI (1 + 4 * i + 1) := off4 (b := 1) (w := 1)
    have e2 : ((1 + (4 * nI i)) + 2 : Int32) = nI (1 + 4 * i + 2) := off4 (b := 1) (w := 2)
    rw [e1, e2, nI_clamp (by omega), nI_clamp (by omega), z.1.2.1, z.1.2.2.1]
    refine ⟨vpn (by omega) (by omega), vpn (by omega) (by omega), ?_⟩
    refine hk _ _ _ _ ⟨hn, by rw [up2n (by omega) (by omega)]; exact hs, fun j hj => ?_⟩ (fun j hj => up2n (by omega) (by omega))
    have y := hh j hj
    rcases Nat.decEq j i with q | q
    · rw [up_n (f := a) q, up_n (f := b) q, up2n (j := 1 + 4 * j + 0) (by omega) (by omega), up2n (j := 1 + 4 * j + 1) (by omega) (by omega), up2n (j := 1 + 4 * j + 2) (by omega) (by omega), up2n (j := 1 + 4 * j + 3) (by omega) (by omega)]
      exact y
    · subst q
      rw [up_s (f := a), up_s (f := b)]
      refine ⟨⟨?_, ?_, ?_, ?_⟩, y.2.1, y.2.2.1, b1, b2, b3, b4, y.2.2.2.2.2.2.2⟩
      · rw [up2n (by omega) (by omega)]; exact y.1.1
      · rw [up_n (by omega), up_s]
      · rw [up_s]
      · rw [up2n (by omega) (by omega)]; exact y.1.2.2.2
  · unfold f_X6_mend
    exact e_isHouse hn hs (fun i hi e => absurd q (by subst e; exact nh i hi)) (fun _ => ip rfl same)
