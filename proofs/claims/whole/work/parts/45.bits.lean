/-! Bits: sets as numbers below 2^16; bitCount and ones. -/
theorem fa_and (a b : Nat) : nI a &&& nI b = nI (a &&& b) := by
  apply Int32.toBitVec_inj.1
  show BitVec.ofNat 32 a &&& BitVec.ofNat 32 b = BitVec.ofNat 32 (a &&& b)
  apply BitVec.eq_of_getLsbD_eq
  intro i hi
  simp [hi]
theorem fa_or (a b : Nat) : nI a ||| nI b = nI (a ||| b) := by
  apply Int32.toBitVec_inj.1
  show BitVec.ofNat 32 a ||| BitVec.ofNat 32 b = BitVec.ofNat 32 (a ||| b)
  apply BitVec.eq_of_getLsbD_eq
  intro i hi
  simp [hi]
theorem s_l : ∀ n, n < 32 → ((nI n &&& 31).toBitVec.smod 32).toNat = n := by decide +kernel
theorem shl1 : ∀ i, i < 17 → (1 : Int32) <<< (nI i &&& 31) = nI (2 ^ i) := by decide
theorem bitv {g i : Nat} (hg : g < 2 ^ 31) (hi : i < 32) : (nI g >>> (nI i &&& 31)) &&& 1 = nI (g / 2 ^ i % 2) := by
  rw [pk_shrN hg _ i (s_l i hi)]
  have hl : g / 2 ^ i < 2 ^ 32 := Nat.lt_of_le_of_lt (Nat.div_le_self _ _) (by omega)
  exact pk_andN hl 1 rfl
theorem bit01 (g i : Nat) : (g.testBit i = true ∧ g / 2 ^ i % 2 = 1) ∨ (g.testBit i = false ∧ g / 2 ^ i % 2 = 0) := by
  rw [Nat.testBit_eq_decide_div_mod_eq]
  rcases Nat.mod_two_eq_zero_or_one (g / 2 ^ i) with h | h
  · exact Or.inr ⟨by rw [h]; rfl, h⟩
  · exact Or.inl ⟨by rw [h]; rfl, h⟩
theorem bP_nI {g i : Nat} (hg : g < 2 ^ 31) (hi : i < 32) : bP (nI g) i ↔ g.testBit i = true := by
  show (nI g >>> (nI i &&& 31)) &&& 1 = 1 ↔ _
  rw [bitv hg hi]
  rcases bit01 g i with ⟨h1, h2⟩ | ⟨h1, h2⟩
  · rw [h1, h2]; exact ⟨fun _ => rfl, fun _ => rfl⟩
  · rw [h1, h2]; exact ⟨fun q => absurd q (by decide), fun q => absurd q (by decide)⟩
theorem bitB (g i : Nat) : g / 2 ^ i % 2 = (if g.testBit i then 1 else 0) := by
  rcases bit01 g i with ⟨h1, h2⟩ | ⟨h1, h2⟩ <;> rw [h1, h2] <;> rfl
/-- ones -/
theorem e_ones {N g : Nat} {post : Int32 → Prop} (hN : 5000 ≤ N) (hg : g < 2 ^ 31) (h : post (nI (pc g))) : f_X6_ones N (nI g) post := by
  refine lq2 (f_X6_ones_L4 N (nI g) (fun o5 o6 => post o5)) (fun K u v => f_X6_ones_B4 N (nI g) K (fun o5 o6 => post o5) u v) (fun _ _ _ => Iff.rfl) (fun j => nI (ct (fun i => g.testBit i) j)) nI 16 (fun j hj K hK => ?_) (fun K => ?_) N (by omega)
  · unfold f_X6_ones_B4
    refine il_f (a := 16) hj (by omega) (nmi (nmi ?_))
    rw [bitv hg (by omega), nI_1, nI_add, bitB]; exact hK
  · unfold f_X6_ones_B4
    exact il_t (a := 16) (Nat.le_refl 16) (by omega) h
/-- bitCount, as the machine's library does it -/
def sw (x : Nat) : Nat :=
  let v1 := x - ((x / 2) &&& 1431655765)
  let v2 := (v1 &&& 858993459) + ((v1 / 4) &&& 858993459)
  let v3 := (v2 + v2 / 16) &&& 252645135
  let v4 := v3 + v3 / 256
  let v5 := v4 + v4 / 65536
  v5 &&& 63
def pcn (g : Nat) : Nat := g % 2 + g / 2 % 2 + g / 4 % 2 + g / 8 % 2 + g / 16 % 2 + g / 32 % 2 + g / 64 % 2 + g / 128 % 2 + g / 256 % 2 + g / 512 % 2 + g / 1024 % 2 + g / 2048 % 2 + g / 4096 % 2 + g / 8192 % 2 + g / 16384 % 2 + g / 32768 % 2
def chk (lo : Nat) : Nat → Bool
  | 0 => true
  | n + 1 => Nat.beq (sw (lo + n)) (pcn (lo + n)) && chk lo n
theorem chk_ok {lo : Nat} : ∀ {n : Nat}, chk lo n = true → ∀ i, i < n → sw (lo + i) = pcn (lo + i)
  | 0, _, i, hi => absurd hi (by omega)
  | n + 1, h, i, hi => by
    rw [chk, Bool.and_eq_true] at h
    rcases Nat.lt_or_ge i n with q | q
    · exact chk_ok h.2 i q
    · have e : i = n := by omega
      rw [e]; exact Nat.eq_of_beq_eq_true h.1
theorem ck0 : chk 0 4096 = true := by decide +kernel
theorem ck1 : chk 4096 4096 = true := by decide +kernel
theorem ck2 : chk 8192 4096 = true := by decide +kernel
theorem ck3 : chk 12288 4096 = true := by decide +kernel
theorem ck4 : chk 16384 4096 = true := by decide +kernel
theorem ck5 : chk 20480 4096 = true := by decide +kernel
theorem ck6 : chk 24576 4096 = true := by decide +kernel
theorem ck7 : chk 28672 4096 = true := by decide +kernel
theorem ck8 : chk 32768 4096 = true := by decide +kernel
theorem ck9 : chk 36864 4096 = true := by decide +kernel
theorem ck10 : chk 40960 4096 = true := by decide +kernel
theorem ck11 : chk 45056 4096 = true := by decide +kernel
theorem ck12 : chk 49152 4096 = true := by decide +kernel
theorem ck13 : chk 53248 4096 = true := by decide +kernel
theorem ck14 : chk 57344 4096 = true := by decide +kernel
theorem ck15 : chk 61440 4096 = true := by decide +kernel
theorem sw_at {lo g : Nat} (h : chk lo 4096 = true) (h1 : lo ≤ g) (h2 : g < lo + 4096) : sw g = pcn g := by
  have := chk_ok h (g - lo) (by omega)
  rw [show lo + (g - lo) = g by omega] at this
  exact this
theorem sw_eq {g : Nat} (hg : g < 65536) : sw g = pcn g := by
  rcases (show (0 ≤ g ∧ g < 0 + 4096) ∨ (4096 ≤ g ∧ g < 4096 + 4096) ∨ (8192 ≤ g ∧ g < 8192 + 4096) ∨ (12288 ≤ g ∧ g < 12288 + 4096) ∨ (16384 ≤ g ∧ g < 16384 + 4096) ∨ (20480 ≤ g ∧ g < 20480 + 4096) ∨ (24576 ≤ g ∧ g < 24576 + 4096) ∨ (28672 ≤ g ∧ g < 28672 + 4096) ∨ (32768 ≤ g ∧ g < 32768 + 4096) ∨ (36864 ≤ g ∧ g < 36864 + 4096) ∨ (40960 ≤ g ∧ g < 40960 + 4096) ∨ (45056 ≤ g ∧ g < 45056 + 4096) ∨ (49152 ≤ g ∧ g < 49152 + 4096) ∨ (53248 ≤ g ∧ g < 53248 + 4096) ∨ (57344 ≤ g ∧ g < 57344 + 4096) ∨ (61440 ≤ g ∧ g < 61440 + 4096) by omega) with h | h | h | h | h | h | h | h | h | h | h | h | h | h | h | h
  · exact sw_at ck0 h.1 h.2
  · exact sw_at ck1 h.1 h.2
  · exact sw_at ck2 h.1 h.2
  · exact sw_at ck3 h.1 h.2
  · exact sw_at ck4 h.1 h.2
  · exact sw_at ck5 h.1 h.2
  · exact sw_at ck6 h.1 h.2
  · exact sw_at ck7 h.1 h.2
  · exact sw_at ck8 h.1 h.2
  · exact sw_at ck9 h.1 h.2
  · exact sw_at ck10 h.1 h.2
  · exact sw_at ck11 h.1 h.2
  · exact sw_at ck12 h.1 h.2
  · exact sw_at ck13 h.1 h.2
  · exact sw_at ck14 h.1 h.2
  · exact sw_at ck15 h.1 h.2
theorem pcn_eq (g : Nat) : pcn g = pc g := by
  unfold pc
  rw [← sN_ct]
  simp only [sN, ← bitB]
  unfold pcn
  simp only [Nat.pow_zero, Nat.div_one, Nat.reducePow, Nat.zero_add]
theorem ush {g : Nat} (hg : g < 2 ^ 32) (s : Int32) (k : Nat) (hs : ((s.toUInt32 &&& Int32.toUInt32 31).toBitVec % 32).toNat = k) : ((nI g).toUInt32 >>> (s.toUInt32 &&& Int32.toUInt32 31)).toInt32 = nI (g / 2 ^ k) := pk_ushrN hg s k hs
theorem e_bitCount {N g : Nat} {post : Int32 → Prop} (hg : g < 65536) (h : post (nI (pc g))) : f_J6_bitCount_0f7a4 N (nI g) post := by
  have hr : sw g = pc g := (sw_eq hg).trans (pcn_eq g)
  rw [← hr] at h
  have a1 : (g / 2) &&& 1431655765 ≤ g / 2 := Nat.and_le_left
  have b1 : g - ((g / 2) &&& 1431655765) ≤ g := Nat.sub_le _ _
  unfold f_J6_bitCount_0f7a4
  refine nmi (nmi (nmi (nmi (nmi ?_))))
  have e1 : nI g - (((nI g).toUInt32 >>> ((1 : Int32).toUInt32 &&& Int32.toUInt32 31)).toInt32 &&& 1431655765) = nI (g - ((g / 2) &&& 1431655765)) := by
    rw [ush (by omega) 1 1 (by decide), show (1431655765 : Int32) = nI 1431655765 from rfl, fa_and, Nat.pow_one, pk_sub (by omega)]
  rw [e1]
  generalize hv1 : g - ((g / 2) &&& 1431655765) = v1 at *
  have e2 : (nI v1 &&& 858993459) + (((nI v1).toUInt32 >>> ((2 : Int32).toUInt32 &&& Int32.toUInt32 31)).toInt32 &&& 858993459) = nI ((v1 &&& 858993459) + ((v1 / 4) &&& 858993459)) := by
    rw [ush (by omega) 2 2 (by decide), show (858993459 : Int32) = nI 858993459 from rfl, fa_and, fa_and, nI_add]
  rw [e2]
  have c1 : v1 &&& 858993459 ≤ v1 := Nat.and_le_left
  have c2 : (v1 / 4) &&& 858993459 ≤ v1 / 4 := Nat.and_le_left
  generalize hv2 : (v1 &&& 858993459) + ((v1 / 4) &&& 858993459) = v2 at *
  have e3 : (nI v2 + ((nI v2).toUInt32 >>> ((4 : Int32).toUInt32 &&& Int32.toUInt32 31)).toInt32) &&& 252645135 = nI ((v2 + v2 / 16) &&& 252645135) := by
    rw [ush (by omega) 4 4 (by decide), nI_add, show (252645135 : Int32) = nI 252645135 from rfl, fa_and]
  rw [e3]
  have d1 : (v2 + v2 / 16) &&& 252645135 ≤ v2 + v2 / 16 := Nat.and_le_left
  generalize hv3 : (v2 + v2 / 16) &&& 252645135 = v3 at *
  have e4 : nI v3 + ((nI v3).toUInt32 >>> ((8 : Int32).toUInt32 &&& Int32.toUInt32 31)).toInt32 = nI (v3 + v3 / 256) := by
    rw [ush (by omega) 8 8 (by decide), nI_add]
  rw [e4]
  generalize hv4 : v3 + v3 / 256 = v4 at *
  have e5 : nI v4 + ((nI v4).toUInt32 >>> ((16 : Int32).toUInt32 &&& Int32.toUInt32 31)).toInt32 = nI (v4 + v4 / 65536) := by
    rw [ush (by omega) 16 16 (by decide), nI_add]
  rw [e5, show (63 : Int32) = nI 63 from rfl, fa_and]
  have es : sw g = (v4 + v4 / 65536) &&& 63 := by
    subst hv4; subst hv3; subst hv2; subst hv1
    rfl
  rw [← es]; exact h
theorem pc_le (g : Nat) : pc g ≤ 16 := ct_le _ 16
/-- a set, cut to the first k -/
theorem aB_mask : ∀ k, k < 17 → (aB k).toBitVec.toNat = 2 ^ k - 1 := by decide
theorem cutS {k : Nat} (hk : k < 17) (x : Int32) : ∃ t : Nat, t < 2 ^ k ∧ x &&& aB k = nI t := by
  rw [pk_and x k (aB_mask k hk)]
  exact ⟨_, Nat.mod_lt _ (Nat.two_pow_pos k), rfl⟩
theorem p2_le {k : Nat} (hk : k ≤ 16) : 2 ^ k ≤ 65536 := by
  have := Nat.pow_le_pow_right (n := 2) (by omega) hk
  exact this
