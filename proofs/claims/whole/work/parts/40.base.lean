/-! PURE PART: loops by fuel, numbers. -/
theorem lq1 {A : Type} (L : Nat → A → Prop) (Bd : (A → Prop) → A → Prop) (hL : ∀ n a, L (n + 1) a ↔ Bd (L n) a) (Ia : Nat → A) (n : Nat) (step : ∀ i, i < n → ∀ K : A → Prop, K (Ia (i + 1)) → Bd K (Ia i)) (fin : ∀ K : A → Prop, Bd K (Ia n)) : ∀ fuel, n < fuel → L fuel (Ia 0) := by
  have key : ∀ d i fuel, i + d = n → d < fuel → L fuel (Ia i) := by
    intro d
    induction d with
    | zero => intro i fuel hi hf; obtain ⟨f, rfl⟩ : ∃ f, fuel = f + 1 := ⟨fuel - 1, by omega⟩; rw [hL]; have e : i = n := (by omega); rw [e]; exact fin _
    | succ d ih => intro i fuel hi hf; obtain ⟨f, rfl⟩ : ∃ f, fuel = f + 1 := ⟨fuel - 1, by omega⟩; rw [hL]; exact step i (by omega) _ (ih (i + 1) f (by omega) (by omega))
  intro fuel hf
  exact key n 0 fuel (by omega) hf
theorem lq2 {A B : Type} (L : Nat → A → B → Prop) (Bd : (A → B → Prop) → A → B → Prop) (hL : ∀ n a b, L (n + 1) a b ↔ Bd (L n) a b) (Ia : Nat → A) (Ib : Nat → B) (n : Nat) (step : ∀ i, i < n → ∀ K : A → B → Prop, K (Ia (i + 1)) (Ib (i + 1)) → Bd K (Ia i) (Ib i)) (fin : ∀ K : A → B → Prop, Bd K (Ia n) (Ib n)) : ∀ fuel, n < fuel → L fuel (Ia 0) (Ib 0) := by
  intro fuel hf
  exact lq1 (A := A × B) (fun n q => L n q.1 q.2) (fun K q => Bd (fun a b => K (a, b)) q.1 q.2) (fun n a => hL n a.1 a.2) (fun i => (Ia i, Ib i)) n (fun i hi K hK => step i hi (fun a b => K (a, b)) hK) (fun K => fin (fun a b => K (a, b))) fuel hf
theorem lq3 {A B C : Type} (L : Nat → A → B → C → Prop) (Bd : (A → B → C → Prop) → A → B → C → Prop) (hL : ∀ n a b c, L (n + 1) a b c ↔ Bd (L n) a b c) (Ia : Nat → A) (Ib : Nat → B) (Ic : Nat → C) (n : Nat) (step : ∀ i, i < n → ∀ K : A → B → C → Prop, K (Ia (i + 1)) (Ib (i + 1)) (Ic (i + 1)) → Bd K (Ia i) (Ib i) (Ic i)) (fin : ∀ K : A → B → C → Prop, Bd K (Ia n) (Ib n) (Ic n)) : ∀ fuel, n < fuel → L fuel (Ia 0) (Ib 0) (Ic 0) := by
  intro fuel hf
  exact lq1 (A := A × B × C) (fun n q => L n q.1 q.2.1 q.2.2) (fun K q => Bd (fun a b c => K (a, b, c)) q.1 q.2.1 q.2.2) (fun n a => hL n a.1 a.2.1 a.2.2) (fun i => (Ia i, Ib i, Ic i)) n (fun i hi K hK => step i hi (fun a b c => K (a, b, c)) hK) (fun K => fin (fun a b c => K (a, b, c))) fuel hf
theorem lq4 {A B C E : Type} (L : Nat → A → B → C → E → Prop) (Bd : (A → B → C → E → Prop) → A → B → C → E → Prop) (hL : ∀ n a b c d, L (n + 1) a b c d ↔ Bd (L n) a b c d) (Ia : Nat → A) (Ib : Nat → B) (Ic : Nat → C) (Ie : Nat → E) (n : Nat) (step : ∀ i, i < n → ∀ K : A → B → C → E → Prop, K (Ia (i + 1)) (Ib (i + 1)) (Ic (i + 1)) (Ie (i + 1)) → Bd K (Ia i) (Ib i) (Ic i) (Ie i)) (fin : ∀ K : A → B → C → E → Prop, Bd K (Ia n) (Ib n) (Ic n) (Ie n)) : ∀ fuel, n < fuel → L fuel (Ia 0) (Ib 0) (Ic 0) (Ie 0) := by
  intro fuel hf
  exact lq1 (A := A × B × C × E) (fun n q => L n q.1 q.2.1 q.2.2.1 q.2.2.2) (fun K q => Bd (fun a b c d => K (a, b, c, d)) q.1 q.2.1 q.2.2.1 q.2.2.2) (fun n a => hL n a.1 a.2.1 a.2.2.1 a.2.2.2) (fun i => (Ia i, Ib i, Ic i, Ie i)) n (fun i hi K hK => step i hi (fun a b c d => K (a, b, c, d)) hK) (fun K => fin (fun a b c d => K (a, b, c, d))) fuel hf
theorem lq5 {A B C E F : Type} (L : Nat → A → B → C → E → F → Prop) (Bd : (A → B → C → E → F → Prop) → A → B → C → E → F → Prop) (hL : ∀ n a b c d e, L (n + 1) a b c d e ↔ Bd (L n) a b c d e) (Ia : Nat → A) (Ib : Nat → B) (Ic : Nat → C) (Ie : Nat → E) (If : Nat → F) (n : Nat) (step : ∀ i, i < n → ∀ K : A → B → C → E → F → Prop, K (Ia (i + 1)) (Ib (i + 1)) (Ic (i + 1)) (Ie (i + 1)) (If (i + 1)) → Bd K (Ia i) (Ib i) (Ic i) (Ie i) (If i)) (fin : ∀ K : A → B → C → E → F → Prop, Bd K (Ia n) (Ib n) (Ic n) (Ie n) (If n)) : ∀ fuel, n < fuel → L fuel (Ia 0) (Ib 0) (Ic 0) (Ie 0) (If 0) := by
  intro fuel hf
  exact lq1 (A := A × B × C × E × F) (fun n q => L n q.1 q.2.1 q.2.2.1 q.2.2.2.1 q.2.2.2.2) (fun K q => Bd (fun a b c d e => K (a, b, c, d, e)) q.1 q.2.1 q.2.2.1 q.2.2.2.1 q.2.2.2.2) (fun n a => hL n a.1 a.2.1 a.2.2.1 a.2.2.2.1 a.2.2.2.2) (fun i => (Ia i, Ib i, Ic i, Ie i, If i)) n (fun i hi K hK => step i hi (fun a b c d e => K (a, b, c, d, e)) hK) (fun K => fin (fun a b c d e => K (a, b, c, d, e))) fuel hf
/-! tests of small numbers -/
theorem il_t {a b : Nat} {P Q : Prop} (h : a ≤ b) (hb : b < 2 ^ 31) (hp : P) : if nI a ≤ nI b then P else Q := by rw [if_pos (nI_le h hb)]; exact hp
theorem il_f {a b : Nat} {P Q : Prop} (h : b < a) (ha : a < 2 ^ 31) (hq : Q) : if nI a ≤ nI b then P else Q := by rw [if_neg (nI_ge h ha)]; exact hq
theorem it_t {a b : Nat} {P Q : Prop} (h : a < b) (hb : b < 2 ^ 31) (hp : P) : if nI a < nI b then P else Q := by rw [if_pos (nI_lt h hb)]; exact hp
theorem it_f {a b : Nat} {P Q : Prop} (h : b ≤ a) (ha : a < 2 ^ 31) (hq : Q) : if nI a < nI b then P else Q := by rw [if_neg (nI_nlt h ha)]; exact hq
theorem ip {c : Prop} [Decidable c] {P Q : Prop} (h : c) (hp : P) : if c then P else Q := by rw [if_pos h]; exact hp
theorem im {c : Prop} [Decidable c] {P Q : Prop} (h : ¬ c) (hq : Q) : if c then P else Q := by rw [if_neg h]; exact hq
theorem is_ {c : Prop} [Decidable c] {P Q : Prop} (hp : c → P) (hq : ¬ c → Q) : if c then P else Q := by
  by_cases h : c
  · exact ip h (hp h)
  · exact im h (hq h)
theorem vpn {n N : Nat} (h : n < N) (hN : N < 2 ^ 31) : vp_in (nI n) N := vp_in_nI h hN
theorem nlit (n : Nat) : (OfNat.ofNat n : Int32) = nI n := rfl
theorem cl0 : (0 : Int32).toNatClampNeg = 0 := rfl
theorem cl49 : (49 : Int32).toNatClampNeg = 49 := rfl
theorem nmi {α : Type} {e : α} {K : α → Prop} (h : K e) : nm e K := h
/-- sums -/
def sI (f : Nat → Int32) : Nat → Int32
  | 0 => 0
  | n + 1 => sI f n + f n
def sL (f : Nat → Int64) : Nat → Int64
  | 0 => 0
  | n + 1 => sL f n + f n
theorem sI_cong {f g : Nat → Int32} : ∀ {n : Nat}, (∀ i, i < n → f i = g i) → sI f n = sI g n
  | 0, _ => rfl
  | n + 1, h => by rw [sI, sI, sI_cong (fun i hi => h i (by omega)), h n (by omega)]
theorem sL_cong {f g : Nat → Int64} : ∀ {n : Nat}, (∀ i, i < n → f i = g i) → sL f n = sL g n
  | 0, _ => rfl
  | n + 1, h => by rw [sL, sL, sL_cong (fun i hi => h i (by omega)), h n (by omega)]
theorem up_s {f : Nat → Int32} {k : Nat} {x : Int32} : upd f k x k = x := by simp [upd]
theorem up_n {f : Nat → Int32} {k j : Nat} {x : Int32} (h : j ≠ k) : upd f k x j = f j := by simp [upd, h]
/-- within, in -/
theorem e_within {N : Nat} {x lo hi : Int32} {post : Int32 → Prop} (h1 : lo ≤ x → x ≤ hi → post 1) (h0 : ¬ (lo ≤ x ∧ x ≤ hi) → post 0) : f_X5_within N x lo hi post := by
  unfold f_X5_within
  refine is_ (fun h => h0 ?_) (fun h => is_ (fun h2 => h0 ?_) (fun h2 => h1 (Int32.not_lt.mp h) (Int32.not_lt.mp h2)))
  · intro q; exact absurd h (Int32.not_lt.mpr q.1)
  · intro q; exact absurd h2 (Int32.not_lt.mpr q.2)
theorem e_in {N : Nat} {x lo hi : Int32} {post : Int32 → Prop} (h1 : lo ≤ x → x ≤ hi → post 1) (h0 : ¬ (lo ≤ x ∧ x ≤ hi) → post 0) : f_X6_in N x lo hi post := e_within (N := N) h1 h0
theorem i32_of {x : Int32} (h : 0 ≤ x) : ∃ j : Nat, j < 2 ^ 31 ∧ x = nI j := nI_of (Int32.not_lt.mpr h)
theorem i32_in {x : Int32} {n : Nat} (hn : n < 2 ^ 31) (h : 0 ≤ x) (h2 : x ≤ nI n) : ∃ j : Nat, j ≤ n ∧ x = nI j := by
  obtain ⟨j, hj, rfl⟩ := i32_of h
  exact ⟨j, (nI_leI hj hn).mp h2, rfl⟩
theorem sub1 {n : Nat} (h : 0 < n) : nI n - 1 = nI (n - 1) := by
  obtain ⟨k, rfl⟩ : ∃ k, n = k + 1 := ⟨n - 1, by omega⟩
  exact nI_pred k
theorem i32_cases (x : Int32) {n : Nat} (hn : n < 2 ^ 31) : (∃ j : Nat, j < n ∧ x = nI j) ∨ (x < 0 ∨ nI n ≤ x) := by
  rcases pk_ix x hn with h | h | h
  · exact Or.inr (Or.inl h)
  · exact Or.inr (Or.inr h)
  · exact Or.inl h
theorem up2n {s : Nat → Int32} {k0 k1 j : Nat} {x0 x1 : Int32} (h0 : j ≠ k0) (h1 : j ≠ k1) : upd (upd s k0 x0) k1 x1 j = s j := by rw [up_n h1, up_n h0]
theorem up4n {s : Nat → Int32} {k0 k1 k2 k3 j : Nat} {x0 x1 x2 x3 : Int32} (h0 : j ≠ k0) (h1 : j ≠ k1) (h2 : j ≠ k2) (h3 : j ≠ k3) : upd (upd (upd (upd s k0 x0) k1 x1) k2 x2) k3 x3 j = s j := by rw [up_n h3, up_n h2, up2n h0 h1]
theorem up5n {s : Nat → Int32} {k0 k1 k2 k3 k4 j : Nat} {x0 x1 x2 x3 x4 : Int32} (h0 : j ≠ k0) (h1 : j ≠ k1) (h2 : j ≠ k2) (h3 : j ≠ k3) (h4 : j ≠ k4) : upd (upd (upd (upd (upd s k0 x0) k1 x1) k2 x2) k3 x3) k4 x4 j = s j := by rw [up_n h4, up4n h0 h1 h2 h3]
theorem no_ix {n : Nat} {x : Int32} (hn : n < 2 ^ 31) (h : x < 0 ∨ nI n ≤ x) (h1 : 0 ≤ x) (h2 : x ≤ nI n - 1) : False := by
  rcases h with h | h
  · exact absurd h (Int32.not_lt.mpr h1)
  · rcases Nat.eq_zero_or_pos n with e | e
    · subst e
      exact absurd (Int32.le_trans h1 h2) (by decide)
    · rw [sub1 e] at h2
      exact absurd (Int32.le_trans h h2) (nI_ge (by omega) hn)
