/-! keep, back; finding, held. -/
theorem vpnar1 : vp_nar .boolean 1 = 1 := by decide
theorem JI.keep {x n k : Nat} {p a b c pr mk cm gr s kept q1 q2 q3 q4 q5 q6 q7 q8 : Nat → Int32} (h1 : JH n p a b c s) (h2 : JF k pr mk cm gr s) : JI x n k (va_cpy p q1 0 0 12) (va_cpy a q2 0 0 12) (va_cpy b q3 0 0 12) (va_cpy c q4 0 0 12) (va_cpy pr q5 0 0 16) (va_cpy mk q6 0 0 16) (va_cpy cm q7 0 0 16) (va_cpy gr q8 0 0 16) (wK s kept x 114) := by
  have hn := h1.1
  have hk := h2.1
  exact ⟨h1.congr (fun i hi => cpy_at (by omega)) (fun i hi => cpy_at (by omega)) (fun i hi => cpy_at (by omega)) (fun i hi => cpy_at (by omega)) (fun j hj => wK_in (by omega)), h2.congr (fun i hi => cpy_at (by omega)) (fun i hi => cpy_at (by omega)) (fun i hi => cpy_at (by omega)) (fun i hi => cpy_at (by omega)) (fun j _ hj => wK_in hj)⟩
theorem JI.other {x y n k : Nat} {p a b c pr mk cm gr s kept : Nat → Int32} (h : JI y n k p a b c pr mk cm gr kept) (hxy : y ≠ x) : JI y n k p a b c pr mk cm gr (wK s kept x 114) :=
  ⟨h.1.congr (fun _ _ => rfl) (fun _ _ => rfl) (fun _ _ => rfl) (fun _ _ => rfl) (fun j hj => wK_out (by omega) hxy), h.2.congr (fun _ _ => rfl) (fun _ _ => rfl) (fun _ _ => rfl) (fun _ _ => rfl) (fun j _ hj => wK_out hj hxy)⟩
theorem p_keep {N n k n0 k0 n1 k1 : Nat} {p a b c pr mk cm gr s kept isK p0 a0 b0 c0 pr0 mk0 cm0 gr0 p1 a1 b1 c1 pr1 mk1 cm1 gr1 : Nat → Int32} {f0 f1 : Int32} (hN : 5000 ≤ N) (hJ : JH n p a b c s) (hF : JF k pr mk cm gr s) (h0 : JI 0 n0 k0 p0 a0 b0 c0 pr0 mk0 cm0 gr0 kept) (h1 : JI 1 n1 k1 p1 a1 b1 c1 pr1 mk1 cm1 gr1 kept) (e0 : f0 = isK 0) (e1 : f1 = isK 1) {x1 : Int32}
    {K : Int32 → Int32 → Int32 → (Nat → Int32) → (Nat → Int32) → (Nat → Int32) → (Nat → Int32) → Int32 → (Nat → Int32) → (Nat → Int32) → (Nat → Int32) → (Nat → Int32) → Int32 → Int32 → (Nat → Int32) → (Nat → Int32) → (Nat → Int32) → (Nat → Int32) → Int32 → (Nat → Int32) → (Nat → Int32) → (Nat → Int32) → (Nat → Int32) → Int32 → Int32 → (Nat → Int32) → (Nat → Int32) → Prop}
    (hK : ∀ r f0 n0 p0 a0 b0 c0 k0 pr0 mk0 cm0 gr0 f1 n1 p1 a1 b1 c1 k1 pr1 mk1 cm1 gr1 kept isK, JI 0 n0 k0 p0 a0 b0 c0 pr0 mk0 cm0 gr0 kept → JI 1 n1 k1 p1 a1 b1 c1 pr1 mk1 cm1 gr1 kept → f0 = isK 0 → f1 = isK 1 → K r f0 (nI n0) p0 a0 b0 c0 (nI k0) pr0 mk0 cm0 gr0 f1 (nI n1) p1 a1 b1 c1 (nI k1) pr1 mk1 cm1 gr1 r 0 kept isK) :
    f_X5_keep N (nI n) p a b c (nI k) pr mk cm gr f0 (nI n0) p0 a0 b0 c0 (nI k0) pr0 mk0 cm0 gr0 f1 (nI n1) p1 a1 b1 c1 (nI k1) pr1 mk1 cm1 gr1 x1 (fun r f0 n0 p0 a0 b0 c0 k0 pr0 mk0 cm0 gr0 f1 n1 p1 a1 b1 c1 k1 pr1 mk1 cm1 gr1 => f_X6_keep N s kept isK x1 (fun r2 t kept isK => K r f0 n0 p0 a0 b0 c0 k0 pr0 mk0 cm0 gr0 f1 n1 p1 a1 b1 c1 k1 pr1 mk1 cm1 gr1 r2 t kept isK)) := by
  have es : s 0 + s 49 = nI n + nI k := by rw [hJ.2.1, hF.2.1]
  unfold f_X5_keep
  refine e_within (fun q1 q2 => ip n10 ?_) (fun q => im n00 ?_)
  · obtain ⟨x, hx, rfl⟩ := i32_in (n := 1) (by omega) q1 q2
    unfold f_X0_copyFrom f_X2_copyFrom f_X1_copyFrom f_X0_entries
    rcases (show x = 0 ∨ x = 1 by omega) with rfl | rfl
    · refine ip rfl (m_keep hN (by omega) ?_)
      rw [es]
      exact hK _ _ _ _ _ _ _ _ _ _ _ _ _ _ _ _ _ _ _ _ _ _ _ _ _ (JI.keep hJ hF) (h1.other (by omega)) up_s.symm (by rw [up_n (by omega)]; exact e1)
    · refine im (by decide) (m_keep hN (by omega) ?_)
      rw [es]
      exact hK _ _ _ _ _ _ _ _ _ _ _ _ _ _ _ _ _ _ _ _ _ _ _ _ _ (h0.other (by omega)) (JI.keep hJ hF) (by rw [up_n (by omega)]; exact e0) up_s.symm
  · unfold f_X6_keep
    exact e_in (fun q1 q2 => absurd ⟨q1, q2⟩ q) (fun _ => im n00 (hK _ _ _ _ _ _ _ _ _ _ _ _ _ _ _ _ _ _ _ _ _ _ _ _ _ h0 h1 e0 e1))
theorem wK0 {s kept : Nat → Int32} {j : Nat} (h : j < 114) : wK s kept 0 114 j = s j := by
  have := wK_in (s := s) (kept := kept) (x := 0) (j := j) h
  rw [show 114 * 0 + j = j by omega] at this
  exact this
theorem p_back {N n k n0 k0 n1 k1 : Nat} {p a b c pr mk cm gr s kept isK p0 a0 b0 c0 pr0 mk0 cm0 gr0 p1 a1 b1 c1 pr1 mk1 cm1 gr1 : Nat → Int32} {f0 f1 : Int32} (hN : 5000 ≤ N) (hJ : JH n p a b c s) (hF : JF k pr mk cm gr s) (h0 : JI 0 n0 k0 p0 a0 b0 c0 pr0 mk0 cm0 gr0 kept) (h1 : JI 1 n1 k1 p1 a1 b1 c1 pr1 mk1 cm1 gr1 kept) (e0 : f0 = isK 0) (e1 : f1 = isK 1) {x1 : Int32}
    {K : Int32 → Int32 → (Nat → Int32) → (Nat → Int32) → (Nat → Int32) → (Nat → Int32) → Int32 → (Nat → Int32) → (Nat → Int32) → (Nat → Int32) → (Nat → Int32) → Int32 → Int32 → (Nat → Int32) → Prop}
    (hK : ∀ r n p a b c k pr mk cm gr s, JH n p a b c s → JF k pr mk cm gr s → K r (nI n) p a b c (nI k) pr mk cm gr r 0 s) :
    f_X5_back N (nI n) p a b c (nI k) pr mk cm gr f0 (nI n0) p0 a0 b0 c0 (nI k0) pr0 mk0 cm0 gr0 f1 (nI n1) p1 a1 b1 c1 (nI k1) pr1 mk1 cm1 gr1 x1 (fun r n p a b c k pr mk cm gr => f_X6_back N s kept isK x1 (fun r2 t s => K r n p a b c k pr mk cm gr r2 t s)) := by
  have same := fun r => hK r n p a b c k pr mk cm gr s hJ hF
  have img : ∀ (x n0 k0 : Nat) (p0 a0 b0 c0 pr0 mk0 cm0 gr0 : Nat → Int32), JI x n0 k0 p0 a0 b0 c0 pr0 mk0 cm0 gr0 kept → K (nI n0 + nI k0) (nI n0) (va_cpy p0 p 0 0 12) (va_cpy a0 a 0 0 12) (va_cpy b0 b 0 0 12) (va_cpy c0 c 0 0 12) (nI k0) (va_cpy pr0 pr 0 0 16) (va_cpy mk0 mk 0 0 16) (va_cpy cm0 cm 0 0 16) (va_cpy gr0 gr 0 0 16) (kept (114 * x + 0) + kept (114 * x + 49)) 0 (wK (fun j => kept (114 * x + j)) s 0 114) := by
    intro x n0 k0 p0 a0 b0 c0 pr0 mk0 cm0 gr0 h
    have hn := h.1.1
    have hk := h.2.1
    have z1 : kept (114 * x + 0) = nI n0 := h.1.2.1
    have z2 : kept (114 * x + 49) = nI k0 := h.2.2.1
    rw [z1, z2]
    exact hK _ _ _ _ _ _ _ _ _ _ _ _ (h.1.congr (fun i hi => cpy_at (by omega)) (fun i hi => cpy_at (by omega)) (fun i hi => cpy_at (by omega)) (fun i hi => cpy_at (by omega)) (fun j hj => wK0 (by omega))) (h.2.congr (fun i hi => cpy_at (by omega)) (fun i hi => cpy_at (by omega)) (fun i hi => cpy_at (by omega)) (fun i hi => cpy_at (by omega)) (fun j _ hj => wK0 hj))
  unfold f_X5_back
  refine e_within (fun q1 q2 => ip n10 ?_) (fun q => im n00 ?_)
  · obtain ⟨x, hx, rfl⟩ := i32_in (n := 1) (by omega) q1 q2
    unfold f_X0_copyFrom f_X2_copyFrom f_X1_copyFrom f_X0_entries
    rcases (show x = 0 ∨ x = 1 by omega) with rfl | rfl
    · refine ip rfl (is_ (fun q => m_back hN (by omega) (fun z => absurd (e0.trans z) q) (fun _ => img 0 _ _ _ _ _ _ _ _ _ _ h0)) (fun q => m_back hN (by omega) (fun _ => same _) (fun z => absurd (fun w => z (e0.symm.trans w)) q)))
    · refine im (by decide) (is_ (fun q => m_back hN (by omega) (fun z => absurd (e1.trans z) q) (fun _ => img 1 _ _ _ _ _ _ _ _ _ _ h1)) (fun q => m_back hN (by omega) (fun _ => same _) (fun z => absurd (fun w => z (e1.symm.trans w)) q)))
  · unfold f_X6_back
    exact e_in (fun q1 q2 => absurd ⟨q1, q2⟩ q) (fun _ => im n00 (same _))
/-- finding -/
def okF (x1 x2 x3 : Int32) : Prop := (0 ≤ x1 ∧ x1 ≤ 100) ∧ (0 ≤ x2 ∧ x2 ≤ 100) ∧ (0 ≤ x3 ∧ x3 ≤ 1)
theorem x_finding {N n : Nat} {p a b c : Nat → Int32} {x1 x2 x3 : Int32} {post : Int32 → Int32 → (Nat → Int32) → (Nat → Int32) → (Nat → Int32) → (Nat → Int32) → Prop} (hn : n ≤ 16) (hb : ¬ okF x1 x2 x3 → post (-1) (nI n) p a b c) (hf : okF x1 x2 x3 → n = 16 → post (-3) (nI n) p a b c) (hg : okF x1 x2 x3 → n < 16 → post (nI n) (nI (n + 1)) (upd p n x1) (upd a n x2) (upd b n x3) (upd c n 0)) : f_X5_finding N (nI n) p a b c x1 x2 x3 post := by
  unfold f_X5_finding
  refine e_within (fun a1 a2 => im n10 ?_) (fun q => ip rfl (hb (fun z => q z.1)))
  refine e_within (fun a3 a4 => im n10 ?_) (fun q => ip rfl (hb (fun z => q z.2.1)))
  refine e_within (fun a5 a6 => ip n10 ?_) (fun q => im n00 (hb (fun z => q z.2.2)))
  have ok : okF x1 x2 x3 := ⟨⟨a1, a2⟩, ⟨a3, a4⟩, ⟨a5, a6⟩⟩
  unfold f_X1_isFull
  rcases Nat.lt_or_ge n 16 with h | h
  · refine it_t (b := 16) h (by omega) (ip rfl ?_)
    unfold f_X1_add
    have hv : vp_in (nI n) 16 := vpn h (by omega)
    refine ⟨hv, hv, hv, hv, nmi ?_⟩
    rw [nI_1, nI_pred, nI_clamp (by omega)]
    exact hg ok h
  · have e : n = 16 := by omega
    exact it_f (b := 16) h (by omega) (im n10 (hf ok e))
theorem m_finding {N n : Nat} {s : Nat → Int32} {x1 x2 x3 : Int32} {post : Int32 → Int32 → (Nat → Int32) → Prop} (hn : n ≤ 16) (hs : s 49 = nI n) (hb : ¬ okF x1 x2 x3 → post (-1) 0 s) (hf : okF x1 x2 x3 → n = 16 → post (-3) 0 s) (hg : okF x1 x2 x3 → n < 16 → post (nI n) 0 (upd (upd (upd (upd (upd s (50 + 4 * n + 0) x1) (50 + 4 * n + 1) x2) (50 + 4 * n + 2) x3) (50 + 4 * n + 3) 0) 49 (nI (n + 1)))) : f_X6_finding N s x1 x2 x3 post := by
  unfold f_X6_finding
  rw [cl49, hs]
  refine e_in (fun a1 a2 => im n10 ?_) (fun q => ip rfl (hb (fun z => q z.1)))
  refine e_in (fun a3 a4 => im n10 ?_) (fun q => ip rfl (hb (fun z => q z.2.1)))
  refine e_in (fun a5 a6 => ip n10 ?_) (fun q => im n00 (hb (fun z => q z.2.2)))
  have ok : okF x1 x2 x3 := ⟨⟨a1, a2⟩, ⟨a3, a4⟩, ⟨a5, a6⟩⟩
  rcases Nat.lt_or_ge n 16 with h | h
  · refine ip (fun q => absurd ((nI_eq (b := 16) (by omega) (by omega)).mp q) (by omega)) ?_
    have e0 : (50 : Int32) + 4 * nI n = nI (50 + 4 * n + 0) := by show nI 50 + nI 4 * nI n = _; rw [pk_mul, nI_add]; rfl
    have e1 : nI (50 + 4 * n + 0) + 1 = nI (50 + 4 * n + 1) := nI_1 _
    have e2 : nI (50 + 4 * n + 0) + 2 = nI (50 + 4 * n + 2) := by show _ + nI 2 = _; rw [nI_add]
    have e3 : nI (50 + 4 * n + 0) + 3 = nI (50 + 4 * n + 3) := by show _ + nI 3 = _; rw [nI_add]
    rw [e0]
    refine nmi ?_
    rw [e1, e2, e3]
    refine ⟨vpn (by omega) (by omega), vpn (by omega) (by omega), vpn (by omega) (by omega), vpn (by omega) (by omega), nmi ?_⟩
    rw [nI_clamp (by omega), nI_clamp (by omega), nI_clamp (by omega), nI_clamp (by omega)]
    have e4 : upd (upd (upd (upd s (50 + 4 * n + 0) x1) (50 + 4 * n + 1) x2) (50 + 4 * n + 2) x3) (50 + 4 * n + 3) 0 49 = nI n := (up4n (by omega) (by omega) (by omega) (by omega)).trans hs
    rw [e4, nI_1, up_s, nI_pred]
    exact hg ok h
  · have e : n = 16 := by omega
    exact im (fun q => q (by rw [e]; rfl)) (hf ok e)
theorem JF_add {n : Nat} {p a b c s : Nat → Int32} {x1 x2 x3 : Int32} (hJ : JF n p a b c s) (h : n < 16) (ok : okF x1 x2 x3) : JF (n + 1) (upd p n x1) (upd a n x2) (upd b n x3) (upd c n 0) (upd (upd (upd (upd (upd s (50 + 4 * n + 0) x1) (50 + 4 * n + 1) x2) (50 + 4 * n + 2) x3) (50 + 4 * n + 3) 0) 49 (nI (n + 1))) := by
  obtain ⟨h1, h2, h3⟩ := hJ
  refine ⟨by omega, up_s, fun i hi => ?_⟩
  rcases Nat.lt_or_ge i n with q | q
  · have z := h3 i q
    rw [up5n (j := 50 + 4 * i + 0) (by omega) (by omega) (by omega) (by omega) (by omega), up5n (j := 50 + 4 * i + 1) (by omega) (by omega) (by omega) (by omega) (by omega), up5n (j := 50 + 4 * i + 2) (by omega) (by omega) (by omega) (by omega) (by omega), up5n (j := 50 + 4 * i + 3) (by omega) (by omega) (by omega) (by omega) (by omega)]
    rw [up_n (f := p) (show i ≠ n by omega), up_n (f := a) (show i ≠ n by omega), up_n (f := b) (show i ≠ n by omega), up_n (f := c) (show i ≠ n by omega)]
    exact z
  · have e : i = n := by omega
    subst e
    rw [up_s (f := p), up_s (f := a), up_s (f := b), up_s (f := c)]
    refine ⟨⟨?_, ?_, ?_, ?_⟩, ok.1.1, ok.1.2, ok.2.1.1, ok.2.1.2, ?_, 0, rfl, Nat.two_pow_pos i, by decide⟩
    · rw [up_n (by omega), up_n (by omega), up_n (by omega), up_n (by omega), up_s]
    · rw [up_n (by omega), up_n (by omega), up_n (by omega), up_s]
    · rw [up_n (by omega), up_n (by omega), up_s]
    · rw [up_n (by omega), up_s]
    · obtain ⟨j, hj, e⟩ := i32_in (n := 1) (by omega) ok.2.2.1 ok.2.2.2
      rcases (show j = 0 ∨ j = 1 by omega) with rfl | rfl
      · exact Or.inl e
      · exact Or.inr e
theorem p_finding {N n : Nat} {p a b c s : Nat → Int32} (hJ : JF n p a b c s) {x1 x2 x3 : Int32} {k : Int32 → Int32 → (Nat → Int32) → (Nat → Int32) → (Nat → Int32) → (Nat → Int32) → Int32 → Int32 → (Nat → Int32) → Prop}
    (hk : ∀ r n' p' a' b' c' s', JF n' p' a' b' c' s' → (∀ j, j < 49 → s' j = s j) → k r (nI n') p' a' b' c' r 0 s') : f_X5_finding N (nI n) p a b c x1 x2 x3 (fun r n' p' a' b' c' => f_X6_finding N s x1 x2 x3 (fun r2 t s' => k r n' p' a' b' c' r2 t s')) := by
  refine x_finding hJ.1 (fun q => ?_) (fun ok q => ?_) (fun ok q => ?_)
  · exact m_finding hJ.1 hJ.2.1 (fun _ => hk _ _ _ _ _ _ _ hJ (fun _ _ => rfl)) (fun ok _ => absurd ok q) (fun ok _ => absurd ok q)
  · exact m_finding hJ.1 hJ.2.1 (fun z => absurd ok z) (fun _ _ => hk _ _ _ _ _ _ _ hJ (fun _ _ => rfl)) (fun _ z => absurd z (by omega))
  · refine m_finding hJ.1 hJ.2.1 (fun z => absurd ok z) (fun _ z => absurd z (by omega)) (fun _ _ => hk _ _ _ _ _ _ _ (JF_add hJ q ok) (fun j hj => ?_))
    exact up5n (by omega) (by omega) (by omega) (by omega) (by omega)
