/-! A call in a large world: the world behind it, place by place. -/
def zW : List (Option Nat) → va_W → va_W → va_W
  | [], _, _ => []
  | _ :: _, [], _ => []
  | none :: os, c :: cs, w => c :: zW os cs w
  | some k :: os, c :: cs, w => (match w[k]? with | some q => q | none => c) :: zW os cs w
theorem zW_at : ∀ (os : List (Option Nat)) (cs w : va_W) (i : Nat) (q : Nat × va_E), (zW os cs w)[i]? = some q → ∃ (o : Option Nat) (c : Nat × va_E), os[i]? = some o ∧ cs[i]? = some c ∧ q = (match o with | none => c | some k => (match w[k]? with | some q => q | none => c)) := by
  intro os
  induction os with
  | nil => intro cs w i q h; simp [zW] at h
  | cons o os ih =>
    intro cs w i q h
    cases cs with
    | nil => cases o <;> simp [zW] at h
    | cons c cs =>
      cases i with
      | zero =>
        refine ⟨o, c, rfl, rfl, ?_⟩
        cases o with
        | none => simp [zW] at h; exact h.symm
        | some k => simp [zW] at h; exact h.symm
      | succ i =>
        have h2 : (zW os cs w)[i]? = some q := by
          cases o with
          | none => simpa [zW] using h
          | some k => simpa [zW] using h
        obtain ⟨o', c', g1, g2, g3⟩ := ih cs w i q h2
        exact ⟨o', c', by simpa using g1, by simpa using g2, g3⟩
theorem va_zip {A0 : Nat → Prop} {D : va_G} {cl : List vw_C} {ws wc w1 : va_W} {H H1 : Heap} (hP : va_P D cl ws H) (hD : va_D A0 ws) (isC : List Nat) (pos : List (Option Nat)) (hC : isC.map (fun i => ws[i]?) = wc.map some) (hno : ∀ i ∈ isC, ¬ pos[i]? = some none) (hlen : ∀ i k : Nat, pos[i]? = some (some k) → k < w1.length) (hinj : ∀ i j k : Nat, pos[i]? = some (some k) → pos[j]? = some (some k) → i = j)
    (hk : ∀ q : Nat, q < H.size → ¬ va_A wc H.size q → H1[q]? = H[q]?) (hF : ∀ q, va_A wc H.size q → A0 q) (hP1 : va_P D cl w1 H1) (hD1 : va_D (va_A wc H.size) w1) : va_P D cl (zW pos ws w1) H1 ∧ va_D A0 (zW pos ws w1) := by
  have apart : ∀ (i : Nat) (q : Nat × va_E), pos[i]? = some none → ws[i]? = some q → q.1 < H.size ∧ ¬ va_A wc H.size q.1 := by
    intro i q hp hq
    have hl := (hP i q hq).lt
    refine ⟨hl, fun h => ?_⟩
    rcases h with ⟨k2, e, h⟩ | h
    · have h1 : (isC.map (fun i => ws[i]?))[k2]? = some (some (q.1, e)) := by rw [hC, List.getElem?_map, h]; rfl
      rw [List.getElem?_map] at h1
      cases hi : isC[k2]? with
      | none => rw [hi] at h1; cases h1
      | some j =>
        rw [hi] at h1
        have hij := hD.1 i j q (q.1, e) hq (Option.some.inj h1) rfl
        subst hij
        exact hno i (List.mem_of_getElem? hi) hp
    · omega
  have one : ∀ (i : Nat) (q : Nat × va_E), (zW pos ws w1)[i]? = some q → (pos[i]? = some none ∧ ws[i]? = some q) ∨ ∃ k, pos[i]? = some (some k) ∧ w1[k]? = some q := by
    intro i q h
    obtain ⟨o, c, g1, g2, g3⟩ := zW_at pos ws w1 i q h
    cases o with
    | none => exact Or.inl ⟨g1, by rw [g3]; exact g2⟩
    | some k =>
      have hl := hlen i k g1
      refine Or.inr ⟨k, g1, ?_⟩
      have e := List.getElem?_eq_getElem hl
      have g4 : q = (match w1[k]? with | some q => q | none => c) := g3
      rw [e] at g4
      rw [e]
      exact congrArg some g4.symm
  refine ⟨fun i q h => ?_, fun i j x y hx hy hxy => ?_, fun i q h => ?_⟩
  · rcases one i q h with ⟨g1, g2⟩ | ⟨k, g1, g2⟩
    · obtain ⟨z1, z2⟩ := apart i q g1 g2
      exact (hP i q g2).kept (hk q.1 z1 z2)
    · exact hP1 k q g2
  · rcases one i x hx with ⟨g1, g2⟩ | ⟨k, g1, g2⟩ <;> rcases one j y hy with ⟨g3, g4⟩ | ⟨k', g3, g4⟩
    · exact hD.1 i j x y g2 g4 hxy
    · exact absurd (by rw [hxy]; exact hD1.2 k' y g4) (apart i x g1 g2).2
    · exact absurd (by rw [← hxy]; exact hD1.2 k x g2) (apart j y g3 g4).2
    · have e := hD1.1 k k' x y g2 g4 hxy
      subst e
      exact hinj i j k g1 g3
  · rcases one i q h with ⟨g1, g2⟩ | ⟨k, g1, g2⟩
    · exact hD.2 i q g2
    · exact hF q.1 (hD1.2 k q g2)
/-- the checks of the places, by program -/
def zOK (pos : List (Option Nat)) (isC : List Nat) (n : Nat) : Bool := (isC.all fun i => pos[i]? != some none) && (pos.all fun o => match o with | none => true | some k => decide (k < n)) && (List.range pos.length).all (fun i => (List.range pos.length).all fun j => match pos[i]?, pos[j]? with | some (some a), some (some b) => a != b || i == j | _, _ => true)
theorem zOK_1 {pos : List (Option Nat)} {isC : List Nat} {n : Nat} (h : zOK pos isC n = true) : ∀ i ∈ isC, ¬ pos[i]? = some none := by
  intro i hi e
  simp only [zOK, Bool.and_eq_true] at h
  have := List.all_eq_true.mp h.1.1 i hi
  rw [e] at this
  simp at this
theorem zOK_2 {pos : List (Option Nat)} {isC : List Nat} {n : Nat} (h : zOK pos isC n = true) : ∀ i k : Nat, pos[i]? = some (some k) → k < n := by
  intro i k e
  simp only [zOK, Bool.and_eq_true] at h
  have := List.all_eq_true.mp h.1.2 (some k) (List.mem_of_getElem? e)
  simpa using this
theorem zOK_3 {pos : List (Option Nat)} {isC : List Nat} {n : Nat} (h : zOK pos isC n = true) : ∀ i j k : Nat, pos[i]? = some (some k) → pos[j]? = some (some k) → i = j := by
  intro i j k e1 e2
  simp only [zOK, Bool.and_eq_true] at h
  have hi : i < pos.length := (List.getElem?_eq_some_iff.mp e1).1
  have hj : j < pos.length := (List.getElem?_eq_some_iff.mp e2).1
  have h1 := List.all_eq_true.mp h.2 i (List.mem_range.mpr hi)
  have h2 := List.all_eq_true.mp h1 j (List.mem_range.mpr hj)
  rw [e1, e2] at h2
  simpa using h2
section ZK
variable {p : Program} {l : Launch} {e : Env} {R : Room} {s : State} {m : MethodId} {args : Array Value} {below : List Frame} {meth : Method} {c : Code} {H : Heap} {locs : List Loc} {cells slots : Nat} {Q : State → Prop}
variable {cc : ByteArray} {pc : Nat} {ls : Array Slot} {rest st0 : List Value} {D : va_G} {cI cB cJ cZ : ClassId} {aK aV : Nat → Nat} {A : Nat → Prop} {ws wc : va_W} {nL : Nat} {own : String} {Ts : List Cond}
variable {y : MethodName} {bytes : ByteArray} {maxL n index : Nat} {ret : Option FieldType} {wy : List Cond} {rm : Room} {C : String} {b : Addr} {As : List Value}
theorem mz_Vi {S0 : Type} {post : Int32 → S0 → Prop} {w1 wn : S0 → va_W} (S : CallFix p m c cc nL s args Ts own) (hE : EvA D cI cB cJ cZ aK aV A s) (hP : va_P D vwCl ws H) (hD : va_D A ws) (hS : va_S A s.heap H locs) (hA : ∀ q : Nat, s.heap.size ≤ q → A q) (isC : List Nat) (pos : List (Option Nat)) (k1 : Nat) (hM : Met l y wy rm (PW D cI cB cJ cZ aK aV (.ref b :: As) wc H.size) (va_Qi post (BW D (va_A wc H.size) w1) (va_A wc H.size)) 0 0 (va_A wc H.size)) (cw : CallW R s args own C index y bytes maxL ret wy rm 0 0 n)
    (hC : isC.map (fun i => ws[i]?) = wc.map some) (hnc : va_nd isC = true) (hz : zOK pos isC k1 = true) (hl1 : ∀ u : S0, (w1 u).length = k1) (hw : ∀ u : S0, wn u = zW pos ws (w1 u)) {ci : Nat} {T : u_T} {Nf : Nat} {fs : List Value} (q0 : Nat) (hq : ws[q0]? = some (b, .inr (ci, fs))) (hci : vwCl[ci]? = some (C, T, Nf)) (hn : As.length = n) (hsz : ls.size = nL) (hst : st0 = As.reverse ++ .ref b :: rest) (hroom : (rest.map fun v => v.category).sum ≤ 8) (hdg : decode cc pc = .ok (.invokevirtual index, 3)) (hf : cells ≤ R.cells ∧ slots ≤ R.slots)
    (kk : ∀ (r : Int32) (u : S0) (H1 : Heap) (locs1 : List Loc), post r u → va_P D vwCl (wn u) H1 → va_D A (wn u) → va_S A s.heap H1 locs1 → W p l e R s m args below meth c H1 locs1 cells slots Q (F0 m (pc + 3) ls (.int r :: rest))) : W p l e R s m args below meth c H locs cells slots Q (F0 m pc ls st0) := by
  have hDc := hD.sub isC hnc hC
  have hFc := va_free (wc := wc) hD hS hA isC hC
  have hPc : va_P D vwCl wc H := fun k q hk => by
    have h1 : (isC.map (fun i => ws[i]?))[k]? = some (some q) := by rw [hC, List.getElem?_map, hk]; rfl
    rw [List.getElem?_map] at h1
    cases hi : isC[k]? with
    | none => rw [hi] at h1; cases h1
    | some i => rw [hi] at h1; exact hP i q (Option.some.inj h1)
  refine va_calli (va_runV (As := As) (rest := rest) S hM cw ⟨PW.blind, va_recv (q := (C, T, Nf)) hE.1.1 hP hci hq, fun U hU hW => ⟨rfl, by rw [hU], by rw [hU]; exact hPc, ⟨hE.1.warm hW, hE.2.go hS hU hW hFc⟩, hDc.weaken (fun _ _ _ _ => trivial)⟩⟩ rfl hn hsz hst (lv_room hroom) hdg hf) hS (fun q _ h => hFc q h) hFc (fun r u t H1 locs1 ht hvm hp hB hz1 hk1 hS1 => ?_)
  obtain ⟨hP1, hD1⟩ := hB
  rw [ht] at hP1
  obtain ⟨hP2, hD2⟩ := va_zip hP hD isC pos hC (zOK_1 hz) (fun i k h => by rw [hl1]; exact zOK_2 hz i k h) (zOK_3 hz) hk1 hFc hP1 hD1
  rw [← hw u] at hP2 hD2
  exact kk r u H1 locs1 hp hP2 hD2 hS1
theorem mz_Vl {S0 : Type} {post : Int64 → S0 → Prop} {w1 wn : S0 → va_W} (S : CallFix p m c cc nL s args Ts own) (hE : EvA D cI cB cJ cZ aK aV A s) (hP : va_P D vwCl ws H) (hD : va_D A ws) (hS : va_S A s.heap H locs) (hA : ∀ q : Nat, s.heap.size ≤ q → A q) (isC : List Nat) (pos : List (Option Nat)) (k1 : Nat) (hM : Met l y wy rm (PW D cI cB cJ cZ aK aV (.ref b :: As) wc H.size) (va_Ql post (BW D (va_A wc H.size) w1) (va_A wc H.size)) 0 0 (va_A wc H.size)) (cw : CallW R s args own C index y bytes maxL ret wy rm 0 0 n)
    (hC : isC.map (fun i => ws[i]?) = wc.map some) (hnc : va_nd isC = true) (hz : zOK pos isC k1 = true) (hl1 : ∀ u : S0, (w1 u).length = k1) (hw : ∀ u : S0, wn u = zW pos ws (w1 u)) {ci : Nat} {T : u_T} {Nf : Nat} {fs : List Value} (q0 : Nat) (hq : ws[q0]? = some (b, .inr (ci, fs))) (hci : vwCl[ci]? = some (C, T, Nf)) (hn : As.length = n) (hsz : ls.size = nL) (hst : st0 = As.reverse ++ .ref b :: rest) (hroom : (rest.map fun v => v.category).sum ≤ 8) (hdg : decode cc pc = .ok (.invokevirtual index, 3)) (hf : cells ≤ R.cells ∧ slots ≤ R.slots)
    (kk : ∀ (r : Int64) (u : S0) (H1 : Heap) (locs1 : List Loc), post r u → va_P D vwCl (wn u) H1 → va_D A (wn u) → va_S A s.heap H1 locs1 → W p l e R s m args below meth c H1 locs1 cells slots Q (F0 m (pc + 3) ls (.long r :: rest))) : W p l e R s m args below meth c H locs cells slots Q (F0 m pc ls st0) := by
  have hDc := hD.sub isC hnc hC
  have hFc := va_free (wc := wc) hD hS hA isC hC
  have hPc : va_P D vwCl wc H := fun k q hk => by
    have h1 : (isC.map (fun i => ws[i]?))[k]? = some (some q) := by rw [hC, List.getElem?_map, hk]; rfl
    rw [List.getElem?_map] at h1
    cases hi : isC[k]? with
    | none => rw [hi] at h1; cases h1
    | some i => rw [hi] at h1; exact hP i q (Option.some.inj h1)
  refine va_calll (va_runV (As := As) (rest := rest) S hM cw ⟨PW.blind, va_recv (q := (C, T, Nf)) hE.1.1 hP hci hq, fun U hU hW => ⟨rfl, by rw [hU], by rw [hU]; exact hPc, ⟨hE.1.warm hW, hE.2.go hS hU hW hFc⟩, hDc.weaken (fun _ _ _ _ => trivial)⟩⟩ rfl hn hsz hst (lv_room hroom) hdg hf) hS (fun q _ h => hFc q h) hFc (fun r u t H1 locs1 ht hvm hp hB hz1 hk1 hS1 => ?_)
  obtain ⟨hP1, hD1⟩ := hB
  rw [ht] at hP1
  obtain ⟨hP2, hD2⟩ := va_zip hP hD isC pos hC (zOK_1 hz) (fun i k h => by rw [hl1]; exact zOK_2 hz i k h) (zOK_3 hz) hk1 hFc hP1 hD1
  rw [← hw u] at hP2 hD2
  exact kk r u H1 locs1 hp hP2 hD2 hS1
end ZK
