/-! My own layer: one environment for all contracts, contracts of methods that read only (the heap stays) and of methods that write, their entries, returns and calls. -/
def nm {α : Type} (e : α) (K : α → Prop) : Prop := K e
theorem nm_of {α : Type} {e x : α} {K : α → Prop} (ex : x = e) (h : nm e K) : K x := by subst ex; exact h
theorem ite_t {c : Prop} [Decidable c] {a b : Prop} (hc : c) (h : if c then a else b) : a := by rw [if_pos hc] at h; exact h
theorem ite_f {c : Prop} [Decidable c] {a b : Prop} (hc : ¬ c) (h : if c then a else b) : b := by rw [if_neg hc] at h; exact h
theorem ite_n {c : Prop} [Decidable c] {a b : Prop} (hc : c) (h : if ¬ c then a else b) : b := by rw [if_neg (fun q => q hc)] at h; exact h
theorem sw_ne {x k : Int32} (h : ¬ x = k) : x.toInt ≠ k.toInt := fun q => h (Int32.toInt_inj.mp q)
def hostF : String := "FortyHouses"
def SK (aK aV : Nat → Nat) (A : Nat → Prop) (U : State) (H : Heap) : Prop := vk_S 3 [3, 2, 4] [[108, 97, 119], [105, 102], [101, 108, 115, 101]] aK aV A U H ∧ (vk_R RX4 56 "law" (aK 0) U ∧ vk_R RX4 62 "if" (aK 1) U ∧ vk_R RX4 64 "else" (aK 2) U) ∧ va_Z "java/lang/String" "COMPACT_STRINGS" "Z" (.int 1) A U H ∧ va_Zq "jdk/internal/util/Preconditions" "SIOOBE_FORMATTER" "Ljava/util/function/BiFunction;" A U H
theorem SK.calling {aK aV : Nat → Nat} {A : Nat → Prop} {U : State} {g : JFrame} {mk : MethodId} {a : Array Value} (h : SK aK aV A U U.heap) : SK aK aV A (U.calling g mk a) (U.calling g mk a).heap := by
  obtain ⟨h1, ⟨h2, h3, h4⟩, h5, h6⟩ := h
  exact ⟨vk_S.moved (u := U) (U := U.calling g mk a) (Vm.Alike.refl U.vm) h1, ⟨vk_R.same rfl h2, vk_R.same rfl h3, vk_R.same rfl h4⟩, va_Z.moved (u := U) (U := U.calling g mk a) (Vm.Alike.refl U.vm) h5, va_Zq.moved (u := U) (U := U.calling g mk a) (Vm.Alike.refl U.vm) h6⟩
/-- the constants' world at a later heap, in a warmer machine, for fewer cells that may change -/
theorem SK.go {aK aV : Nat → Nat} {A B : Nat → Prop} {s U : State} {H : Heap} {locs : List Loc} (h : SK aK aV A s s.heap) (hS : va_S A s.heap H locs) (hU : U.heap = H) (hW : s.WarmedH U.vm) (hB : ∀ q, B q → A q) : SK aK aV B U U.heap := by
  obtain ⟨h1, ⟨h2, h3, h4⟩, h5, h6⟩ := h
  subst hU
  exact ⟨((h1.kept hS.2.1).narrow hB).moved hW.alike, ⟨h2.warm hW, h3.warm hW, h4.warm hW⟩, ((h5.kept hS.2.1).narrow hB).moved hW.alike, ((h6.kept hS.2.1).narrow hB).moved hW.alike⟩
def Ev (D : va_G) (cI cB cJ cZ : ClassId) (U : State) : Prop :=
  va_K D vwCl [(cI, .int), (cB, .byte), (cJ, .long), (cZ, .boolean)] U ∧ va_Nw (.methodLinkNest RX2 49 yX5_choose hostF) U ∧ va_Nw (.methodLinkNest RX5 9 yX0_init hostF) U ∧ va_Nw (.methodLinkNest RX0 9 yX2_init hostF) U ∧ va_Nw (.methodLinkNest RX0 18 yX1_init hostF) U ∧ va_Nw (.methodLinkNest RX5 24 yX4_init hostF) U ∧ va_Nw (.methodLinkNest RX5 31 yX3_init hostF) U
theorem Ev.calling {D : va_G} {cI cB cJ cZ : ClassId} {U : State} {g : JFrame} {mk : MethodId} {a : Array Value} (h : Ev D cI cB cJ cZ U) : Ev D cI cB cJ cZ (U.calling g mk a) := by
  obtain ⟨h1, h2, h3, h4, h5, h6, h7⟩ := h
  exact ⟨va_K.moved (u := U) (U := U.calling g mk a) (Vm.Alike.refl U.vm) h1, va_Nw.same rfl rfl h2, va_Nw.same rfl rfl h3, va_Nw.same rfl rfl h4, va_Nw.same rfl rfl h5, va_Nw.same rfl rfl h6, va_Nw.same rfl rfl h7⟩
theorem Ev.warm {D : va_G} {cI cB cJ cZ : ClassId} {s U : State} (hW : s.WarmedH U.vm) (h : Ev D cI cB cJ cZ s) : Ev D cI cB cJ cZ U := by
  obtain ⟨h1, h2, h3, h4, h5, h6, h7⟩ := h
  exact ⟨va_K.moved hW.alike h1, va_Nw.warmM hW h2, va_Nw.warmM hW h3, va_Nw.warmM hW h4, va_Nw.warmM hW h5, va_Nw.warmM hW h6, va_Nw.warmM hW h7⟩
/-- the environment of a walk: tables, classes, constants; A: the cells that the walk may change -/
def EvA (D : va_G) (cI cB cJ cZ : ClassId) (aK aV : Nat → Nat) (A : Nat → Prop) (s : State) : Prop := Ev D cI cB cJ cZ s ∧ SK aK aV A s s.heap
/-- a start of a method that reads only -/
def PR (D : va_G) (cI cB cJ cZ : ClassId) (aK aV : Nat → Nat) (av : List Value) (ws : va_W) : Array Value → State → Prop := va_Pc av (fun U => va_P D vwCl ws U.heap ∧ Ev D cI cB cJ cZ U ∧ SK aK aV (fun _ => False) U U.heap)
theorem PR.blind {D : va_G} {cI cB cJ cZ : ClassId} {aK aV : Nat → Nat} {av : List Value} {ws : va_W} : FrameBlind (PR D cI cB cJ cZ aK aV av ws) := fun _ _ _ _ q => ⟨q.1, q.2.1, q.2.2.1.calling, q.2.2.2.calling⟩
/-- a start of a method that writes -/
def PW (D : va_G) (cI cB cJ cZ : ClassId) (aK aV : Nat → Nat) (av : List Value) (ws : va_W) (sz : Nat) : Array Value → State → Prop := va_Pc av (fun U => U.heap.size = sz ∧ va_P D vwCl ws U.heap ∧ (Ev D cI cB cJ cZ U ∧ SK aK aV (va_A ws sz) U U.heap) ∧ va_D (fun _ => True) ws)
theorem PW.blind {D : va_G} {cI cB cJ cZ : ClassId} {aK aV : Nat → Nat} {av : List Value} {ws : va_W} {sz : Nat} : FrameBlind (PW D cI cB cJ cZ aK aV av ws sz) := fun _ _ _ _ q => ⟨q.1, q.2.1, q.2.2.1, ⟨q.2.2.2.1.1.calling, q.2.2.2.1.2.calling⟩, q.2.2.2.2⟩
/-- the world behind a method that writes -/
def BW {S : Type} (D : va_G) (A : Nat → Prop) (ws : S → va_W) (u : S) (t : State) : Prop := va_P D vwCl (ws u) t.heap ∧ va_D A (ws u)
/-- what holds all along a method's walk -/
def Cx (p : Program) (s : State) (m : MethodId) (meth : Method) (c : Code) (args : Array Value) (cc : ByteArray) (maxL : Nat) (own nme : String) (ret : Option FieldType) (Ts : List Cond) (D : va_G) (cI cB cJ cZ : ClassId) (aK aV : Nat → Nat) (A : Nat → Prop) : Prop :=
  p.tables.exec = Jvm.exec ∧ c.code = cc ∧ meth.sig.returnType = ret ∧ c.maxLocals = maxL ∧ s.vm.findClass own = some m.cls ∧ (∀ w ∈ Ts, w.before args s = true) ∧ EvA D cI cB cJ cZ aK aV A s ∧ meth.locks = false ∧ meth.name = nme
theorem ro_enter {l : Launch} {y : MethodName} {ws ws' : List Cond} {rm : Room} {D : va_G} {cI cB cJ cZ : ClassId} {aK aV : Nat → Nat} {av : List Value} {W0 : va_W} {Qc : Array Value → State → Outcome → State → Prop} {cc : ByteArray} {maxL : Nat} {ret : Option FieldType} (hy : plainName y.cls = true) (hw : ws = Cond.code y cc maxL ret :: ws') (hlen : (lg_sl av).length ≤ maxL)
    (body : ∀ (p : Program) (e : Env) (s : State) (m : MethodId) (below : List Frame) (meth : Method) (c : Code), Cx p s m meth c av.toArray cc maxL y.cls y.name ret ws D cI cB cJ cZ aK aV (fun _ => False) → va_P D vwCl W0 s.heap → ∀ ls : Array Slot, lv_has ls maxL (lv_args 0 av) → W p l e rm s m av.toArray below meth c s.heap [] 0 0 (MQ below Qc av.toArray s 0 0 (fun _ => False)) (F0 m 0 ls [])) : Met l y ws rm (PR D cI cB cJ cZ aK aV av W0) Qc 0 0 (fun _ => False) := by
  refine Met.ofW (cc := cc) (maxL := maxL) (ret := ret) hy hw ?_
  intro p e s m args below meth c s₁ B hml hv
  obtain ⟨rfl, hP, hE, hE2⟩ := hv
  have hl := lv_entry av (n := maxL) hlen
  rw [lg_entry_eq]
  exact body p e s m below meth c ⟨B.exec, B.bytes, B.returns, hml, findClass_of_methodNamed B.named, atoms_spec (ws := ws) B.pre, ⟨hE, hE2⟩, B.notSynchronized, (name_of_methodNamed B.named B.method).1⟩ hP _ hl
theorem mu_enter {l : Launch} {y : MethodName} {ws ws' : List Cond} {rm : Room} {D : va_G} {cI cB cJ cZ : ClassId} {aK aV : Nat → Nat} {av : List Value} {W0 : va_W} {sz mc ms : Nat} {Qc : (Nat → Prop) → Array Value → State → Outcome → State → Prop} {cc : ByteArray} {maxL : Nat} {ret : Option FieldType} (hy : plainName y.cls = true) (hw : ws = Cond.code y cc maxL ret :: ws') (hlen : (lg_sl av).length ≤ maxL)
    (body : ∀ (p : Program) (e : Env) (s : State) (m : MethodId) (below : List Frame) (meth : Method) (c : Code) (A : Nat → Prop), Cx p s m meth c av.toArray cc maxL y.cls y.name ret ws D cI cB cJ cZ aK aV A → (∀ q : Nat, s.heap.size ≤ q → A q) → ∀ (H : Heap) (locs : List Loc), va_P D vwCl W0 H → va_D A W0 → va_S A s.heap H locs → ∀ ls : Array Slot, lv_has ls maxL (lv_args 0 av) → W p l e rm s m av.toArray below meth c H locs 0 0 (MQ below (Qc A) av.toArray s mc ms A) (F0 m 0 ls [])) : Met l y ws rm (PW D cI cB cJ cZ aK aV av W0 sz) (Qc (va_A W0 sz)) mc ms (va_A W0 sz) := by
  refine Met.ofW (cc := cc) (maxL := maxL) (ret := ret) hy hw ?_
  intro p e s m args below meth c s₁ B hml hv
  obtain ⟨rfl, hsz, hP, hE, hD⟩ := hv
  have hl := lv_entry av (n := maxL) hlen
  rw [lg_entry_eq]
  subst hsz
  exact body p e s m below meth c (va_A W0 s.heap.size) ⟨B.exec, B.bytes, B.returns, hml, findClass_of_methodNamed B.named, atoms_spec (ws := ws) B.pre, hE, B.notSynchronized, (name_of_methodNamed B.named B.method).1⟩ (fun q h => Or.inr h) s.heap [] hP (hD.self (sz := s.heap.size)) va_S.rf _ hl
section K2R
variable {p : Program} {l : Launch} {e : Env} {R : Room} {s : State} {m : MethodId} {args : Array Value} {below : List Frame} {meth : Method} {c : Code} {H : Heap} {locs : List Loc} {cells slots : Nat} {Q : State → Prop}
variable {cc : ByteArray} {pc : Nat} {ls : Array Slot} {rest st0 : List Value} {D : va_G} {cI cB cJ cZ : ClassId} {aK aV : Nat → Nat} {A : Nat → Prop} {ws wc wr : va_W} {nL : Nat} {own : String} {Ts : List Cond}
theorem ro_iret {post : Int32 → Prop} {v : Int32} (hx : p.tables.exec = Jvm.exec) (hb : c.code = cc) (hr : meth.sig.returnType = some .int) (hk : meth.locks = false) (h : post v) (hdg : decode cc pc = .ok (.ireturn, 1)) : W p l e R s m args below meth c s.heap [] 0 0 (MQ below (vp_Si post) args s 0 0 (fun _ => False)) (F0 m pc ls [.int v]) := W.iret hx hb hr (fun t ht _ => ⟨v, rfl, h, ht⟩) (fun q hq => by cases hq) hdg hk
theorem ro_zret {post : Int32 → Prop} {v : Int32} {ty : FieldType} (hx : p.tables.exec = Jvm.exec) (hb : c.code = cc) (hr : meth.sig.returnType = some ty) (hn : narrow ty (.int v) = .int v) (hk : meth.locks = false) (h : post v) (hdg : decode cc pc = .ok (.ireturn, 1)) : W p l e R s m args below meth c s.heap [] 0 0 (MQ below (vp_Si post) args s 0 0 (fun _ => False)) (F0 m pc ls [.int v]) := W.zret hx hb hr hn (fun t ht _ => ⟨v, rfl, h, ht⟩) (fun q hq => by cases hq) hdg hk
theorem ro_lret {post : Int64 → Prop} {v : Int64} (hx : p.tables.exec = Jvm.exec) (hb : c.code = cc) (hr : meth.sig.returnType = some .long) (hk : meth.locks = false) (h : post v) (hdg : decode cc pc = .ok (.lreturn, 1)) : W p l e R s m args below meth c s.heap [] 0 0 (MQ below (vp_Sl post) args s 0 0 (fun _ => False)) (F0 m pc ls [.long v]) := W.lret hx hb hr (fun t ht _ => ⟨v, rfl, h, ht⟩) (fun q hq => by cases hq) hdg hk
theorem mu_iret {S : Type} {post : Int32 → S → Prop} {wf : S → va_W} (u : S) {v : Int32} (hx : p.tables.exec = Jvm.exec) (hb : c.code = cc) (hr : meth.sig.returnType = some .int) (hk : meth.locks = false) (hP : va_P D vwCl (wf u) H) (hD : va_D A (wf u)) (hS : va_S A s.heap H locs) (h : post v u) (hdg : decode cc pc = .ok (.ireturn, 1)) : W p l e R s m args below meth c H locs cells slots (MQ below (va_Qi post (BW D A wf) A) args s cells slots A) (F0 m pc ls [.int v]) := W.iret hx hb hr (fun t ht hW => ⟨⟨v, u, rfl, h, by rw [ht]; exact hP, hD⟩, hS.F ht⟩) hS.2.2 hdg hk
theorem mu_zret {S : Type} {post : Int32 → S → Prop} {wf : S → va_W} (u : S) {v : Int32} {ty : FieldType} (hx : p.tables.exec = Jvm.exec) (hb : c.code = cc) (hr : meth.sig.returnType = some ty) (hn : narrow ty (.int v) = .int v) (hk : meth.locks = false) (hP : va_P D vwCl (wf u) H) (hD : va_D A (wf u)) (hS : va_S A s.heap H locs) (h : post v u) (hdg : decode cc pc = .ok (.ireturn, 1)) : W p l e R s m args below meth c H locs cells slots (MQ below (va_Qi post (BW D A wf) A) args s cells slots A) (F0 m pc ls [.int v]) := W.zret hx hb hr hn (fun t ht hW => ⟨⟨v, u, rfl, h, by rw [ht]; exact hP, hD⟩, hS.F ht⟩) hS.2.2 hdg hk
theorem mu_lret {S : Type} {post : Int64 → S → Prop} {wf : S → va_W} (u : S) {v : Int64} (hx : p.tables.exec = Jvm.exec) (hb : c.code = cc) (hr : meth.sig.returnType = some .long) (hk : meth.locks = false) (hP : va_P D vwCl (wf u) H) (hD : va_D A (wf u)) (hS : va_S A s.heap H locs) (h : post v u) (hdg : decode cc pc = .ok (.lreturn, 1)) : W p l e R s m args below meth c H locs cells slots (MQ below (va_Ql post (BW D A wf) A) args s cells slots A) (F0 m pc ls [.long v]) := W.lret hx hb hr (fun t ht hW => ⟨⟨v, u, rfl, h, by rw [ht]; exact hP, hD⟩, hS.F ht⟩) hS.2.2 hdg hk
theorem mu_vret {S : Type} {post : S → Prop} {wf : S → va_W} (u : S) (hx : p.tables.exec = Jvm.exec) (hb : c.code = cc) (hr : meth.sig.returnType = none) (hk : meth.locks = false) (hP : va_P D vwCl (wf u) H) (hD : va_D A (wf u)) (hS : va_S A s.heap H locs) (h : post u) (hdg : decode cc pc = .ok (.return_, 1)) : W p l e R s m args below meth c H locs cells slots (MQ below (va_Qv post (BW D A wf) A) args s cells slots A) (F0 m pc ls []) := W.vret hx hb hr (fun t ht hW => ⟨⟨u, rfl, h, by rw [ht]; exact hP, hD⟩, hS.F ht⟩) hS.2.2 hdg hk
variable {y : MethodName} {bytes : ByteArray} {maxL n index : Nat} {ret : Option FieldType} {wy : List Cond} {rm : Room} {C : String} {b : Addr} {As : List Value}
/-- a call of a method that reads only, on an object -/
theorem ro_Vi {post : Int32 → Prop} (S : CallFix p m c cc nL s args Ts own) (hE : EvA D cI cB cJ cZ aK aV A s) (hS : va_S A s.heap H locs) (hP : va_P D vwCl ws H) (pl : List Nat) (hM : Met l y wy rm (PR D cI cB cJ cZ aK aV (.ref b :: As) wc) (vp_Si post) 0 0 (fun _ => False)) (cw : CallW R s args own C index y bytes maxL ret wy rm 0 0 n) (hsub : pl.filterMap (fun i => ws[i]?) = wc) {ci : Nat} {T : u_T} {Nf : Nat} {fs : List Value} (q0 : Nat) (hq : ws[q0]? = some (b, .inr (ci, fs))) (hci : vwCl[ci]? = some (C, T, Nf)) (hn : As.length = n) (hsz : ls.size = nL) (hst : st0 = As.reverse ++ .ref b :: rest) (hroom : (rest.map fun v => v.category).sum ≤ 8) (hdg : decode cc pc = .ok (.invokevirtual index, 3)) (hf : cells ≤ R.cells ∧ slots ≤ R.slots)
    (kk : ∀ r : Int32, post r → W p l e R s m args below meth c H locs cells slots Q (F0 m (pc + 3) ls (.int r :: rest))) : W p l e R s m args below meth c H locs cells slots Q (F0 m pc ls st0) :=
  vp_callSi (W.runV (As := As) (rest := rest) S hM cw ⟨PR.blind, va_recv (q := (C, T, Nf)) hE.1.1 hP hci hq, fun U hU hW => ⟨rfl, by rw [hU]; exact hP.sub pl hsub, hE.1.warm hW, hE.2.go hS hU hW (fun _ h => h.elim)⟩⟩ rfl hn hsz hst (lv_room hroom) hdg hf) kk
theorem ro_Vl {post : Int64 → Prop} (S : CallFix p m c cc nL s args Ts own) (hE : EvA D cI cB cJ cZ aK aV A s) (hS : va_S A s.heap H locs) (hP : va_P D vwCl ws H) (pl : List Nat) (hM : Met l y wy rm (PR D cI cB cJ cZ aK aV (.ref b :: As) wc) (vp_Sl post) 0 0 (fun _ => False)) (cw : CallW R s args own C index y bytes maxL ret wy rm 0 0 n) (hsub : pl.filterMap (fun i => ws[i]?) = wc) {ci : Nat} {T : u_T} {Nf : Nat} {fs : List Value} (q0 : Nat) (hq : ws[q0]? = some (b, .inr (ci, fs))) (hci : vwCl[ci]? = some (C, T, Nf)) (hn : As.length = n) (hsz : ls.size = nL) (hst : st0 = As.reverse ++ .ref b :: rest) (hroom : (rest.map fun v => v.category).sum ≤ 8) (hdg : decode cc pc = .ok (.invokevirtual index, 3)) (hf : cells ≤ R.cells ∧ slots ≤ R.slots)
    (kk : ∀ r : Int64, post r → W p l e R s m args below meth c H locs cells slots Q (F0 m (pc + 3) ls (.long r :: rest))) : W p l e R s m args below meth c H locs cells slots Q (F0 m pc ls st0) :=
  vp_callSl (W.runV (As := As) (rest := rest) S hM cw ⟨PR.blind, va_recv (q := (C, T, Nf)) hE.1.1 hP hci hq, fun U hU hW => ⟨rfl, by rw [hU]; exact hP.sub pl hsub, hE.1.warm hW, hE.2.go hS hU hW (fun _ h => h.elim)⟩⟩ rfl hn hsz hst (lv_room hroom) hdg hf) kk
theorem ro_nil {D : va_G} {H : Heap} : va_P D vwCl [] H := fun k q h => by simp at h
/-- a call of a static method without a world -/
theorem ro_Si {post : Int32 → Prop} (S : CallFix p m c cc nL s args Ts own) (hE : EvA D cI cB cJ cZ aK aV A s) (hS : va_S A s.heap H locs) (hM : Met l y wy rm (PR D cI cB cJ cZ aK aV As []) (vp_Si post) 0 0 (fun _ => False)) (cw : CallB R s args own index y bytes maxL ret wy rm 0 0 n ∧ (Cond.static y).before args s = true) (hn : As.length = n) (hsz : ls.size = nL) (hst : st0 = As.reverse ++ rest) (hroom : (rest.map fun v => v.category).sum ≤ 8) (hdg : decode cc pc = .ok (.invokestatic index, 3)) (hf : cells ≤ R.cells ∧ slots ≤ R.slots)
    (kk : ∀ r : Int32, post r → W p l e R s m args below meth c H locs cells slots Q (F0 m (pc + 3) ls (.int r :: rest))) : W p l e R s m args below meth c H locs cells slots Q (F0 m pc ls st0) :=
  vp_callSi (W.runS (As := As) (rest := rest) S hM cw ⟨PR.blind, fun U hU hW => ⟨rfl, ro_nil, hE.1.warm hW, hE.2.go hS hU hW (fun _ h => h.elim)⟩⟩ rfl hn hsz hst (lv_room hroom) hdg hf) kk
theorem ro_Sl {post : Int64 → Prop} (S : CallFix p m c cc nL s args Ts own) (hE : EvA D cI cB cJ cZ aK aV A s) (hS : va_S A s.heap H locs) (hM : Met l y wy rm (PR D cI cB cJ cZ aK aV As []) (vp_Sl post) 0 0 (fun _ => False)) (cw : CallB R s args own index y bytes maxL ret wy rm 0 0 n ∧ (Cond.static y).before args s = true) (hn : As.length = n) (hsz : ls.size = nL) (hst : st0 = As.reverse ++ rest) (hroom : (rest.map fun v => v.category).sum ≤ 8) (hdg : decode cc pc = .ok (.invokestatic index, 3)) (hf : cells ≤ R.cells ∧ slots ≤ R.slots)
    (kk : ∀ r : Int64, post r → W p l e R s m args below meth c H locs cells slots Q (F0 m (pc + 3) ls (.long r :: rest))) : W p l e R s m args below meth c H locs cells slots Q (F0 m pc ls st0) :=
  vp_callSl (W.runS (As := As) (rest := rest) S hM cw ⟨PR.blind, fun U hU hW => ⟨rfl, ro_nil, hE.1.warm hW, hE.2.go hS hU hW (fun _ h => h.elim)⟩⟩ rfl hn hsz hst (lv_room hroom) hdg hf) kk
/-- the same by a nest mate's link -/
theorem ro_SNl {host : String} {post : Int64 → Prop} (S : CallFix p m c cc nL s args Ts own) (hE : EvA D cI cB cJ cZ aK aV A s) (hS : va_S A s.heap H locs) (hM : Met l y wy rm (PR D cI cB cJ cZ aK aV As []) (vp_Sl post) 0 0 (fun _ => False)) (cw : va_CN R s args own index y host bytes maxL ret wy rm 0 0 n ∧ (Cond.static y).before args s = true ∧ True) (hn : As.length = n) (hsz : ls.size = nL) (hst : st0 = As.reverse ++ rest) (hroom : (rest.map fun v => v.category).sum ≤ 8) (hdg : decode cc pc = .ok (.invokestatic index, 3)) (hf : cells ≤ R.cells ∧ slots ≤ R.slots)
    (kk : ∀ r : Int64, post r → W p l e R s m args below meth c H locs cells slots Q (F0 m (pc + 3) ls (.long r :: rest))) : W p l e R s m args below meth c H locs cells slots Q (F0 m pc ls st0) := by
  refine vp_callSl (post := post) (a := As.toArray) (rest := rest) ?_ kk
  intro T hT X
  obtain ⟨v, st₀, t, T', L, h0, X', hL, e1, e2, hq, st⟩ := va_runSN (As := As) (rest := rest) S hM cw ⟨PR.blind, fun U hU hW => ⟨rfl, ro_nil, hE.1.warm hW, hE.2.go hS hU hW (fun _ h => h.elim)⟩⟩ rfl hn hsz hst (lv_room hroom) hdg hf T hT X
  exact ⟨v, st₀, t, T', L, h0, X', hL, e1, hq, st⟩
/-- calls of methods that write -/
theorem mu_Vi {S0 : Type} {post : Int32 → S0 → Prop} {w1 wn : S0 → va_W} (S : CallFix p m c cc nL s args Ts own) (hE : EvA D cI cB cJ cZ aK aV A s) (hP : va_P D vwCl ws H) (hD : va_D A ws) (hS : va_S A s.heap H locs) (hA : ∀ q : Nat, s.heap.size ≤ q → A q) (isC isR pm : List Nat) (hM : Met l y wy rm (PW D cI cB cJ cZ aK aV (.ref b :: As) wc H.size) (va_Qi post (BW D (va_A wc H.size) w1) (va_A wc H.size)) 0 0 (va_A wc H.size)) (cw : CallW R s args own C index y bytes maxL ret wy rm 0 0 n)
    (hC : isC.map (fun i => ws[i]?) = wc.map some) (hR : isR.map (fun i => ws[i]?) = wr.map some) (hnc : va_nd isC = true) (hnr : va_nd isR = true) (hdis : ∀ i ∈ isR, i ∉ isC) (hnp : va_nd pm = true) (hpm : ∀ u : S0, pm.map (fun i => (wr ++ w1 u)[i]?) = (wn u).map some) {ci : Nat} {T : u_T} {Nf : Nat} {fs : List Value} (q0 : Nat) (hq : ws[q0]? = some (b, .inr (ci, fs))) (hci : vwCl[ci]? = some (C, T, Nf)) (hn : As.length = n) (hsz : ls.size = nL) (hst : st0 = As.reverse ++ .ref b :: rest) (hroom : (rest.map fun v => v.category).sum ≤ 8) (hdg : decode cc pc = .ok (.invokevirtual index, 3)) (hf : cells ≤ R.cells ∧ slots ≤ R.slots)
    (kk : ∀ (r : Int32) (u : S0) (H1 : Heap) (locs1 : List Loc), post r u → va_P D vwCl (wn u) H1 → va_D A (wn u) → va_S A s.heap H1 locs1 → W p l e R s m args below meth c H1 locs1 cells slots Q (F0 m (pc + 3) ls (.int r :: rest))) : W p l e R s m args below meth c H locs cells slots Q (F0 m pc ls st0) := by
  have hDc := hD.sub isC hnc hC
  have hFc := va_free (wc := wc) hD hS hA isC hC
  have hPc : va_P D vwCl wc H := fun k q hk => by
    have h1 : (isC.map (fun i => ws[i]?))[k]? = some (some q) := by rw [hC, List.getElem?_map, hk]; rfl
    rw [List.getElem?_map] at h1
    cases hi : isC[k]? with
    | none => rw [hi] at h1; cases h1
    | some i => rw [hi] at h1; exact hP i q (Option.some.inj h1)
  refine va_calli (va_runV (As := As) (rest := rest) S hM cw ⟨PW.blind, va_recv (q := (C, T, Nf)) hE.1.1 hP hci hq, fun U hU hW => ⟨rfl, by rw [hU], by rw [hU]; exact hPc, ⟨hE.1.warm hW, hE.2.go hS hU hW hFc⟩, hDc.weaken (fun _ _ _ _ => trivial)⟩⟩ rfl hn hsz hst (lv_room hroom) hdg hf) hS (fun q _ h => hFc q h) hFc (fun r u t H1 locs1 ht hvm hw hB hz1 hk1 hS1 => ?_)
  obtain ⟨hP1, hD1⟩ := hB
  rw [ht] at hP1
  obtain ⟨hP2, hD2⟩ := va_join (wr := wr) hP hD isC isR hC hR hnr hdis hk1 hFc hP1 hD1
  refine kk r u H1 locs1 hw (fun k q hk => ?_) (hD2.sub pm hnp (hpm u)) hS1
  have h1 : (pm.map (fun i => (wr ++ w1 u)[i]?))[k]? = some (some q) := by rw [hpm u, List.getElem?_map, hk]; rfl
  rw [List.getElem?_map] at h1
  cases hi : pm[k]? with
  | none => rw [hi] at h1; cases h1
  | some i => rw [hi] at h1; exact hP2 i q (Option.some.inj h1)
theorem mu_Vl {S0 : Type} {post : Int64 → S0 → Prop} {w1 wn : S0 → va_W} (S : CallFix p m c cc nL s args Ts own) (hE : EvA D cI cB cJ cZ aK aV A s) (hP : va_P D vwCl ws H) (hD : va_D A ws) (hS : va_S A s.heap H locs) (hA : ∀ q : Nat, s.heap.size ≤ q → A q) (isC isR pm : List Nat) (hM : Met l y wy rm (PW D cI cB cJ cZ aK aV (.ref b :: As) wc H.size) (va_Ql post (BW D (va_A wc H.size) w1) (va_A wc H.size)) 0 0 (va_A wc H.size)) (cw : CallW R s args own C index y bytes maxL ret wy rm 0 0 n)
    (hC : isC.map (fun i => ws[i]?) = wc.map some) (hR : isR.map (fun i => ws[i]?) = wr.map some) (hnc : va_nd isC = true) (hnr : va_nd isR = true) (hdis : ∀ i ∈ isR, i ∉ isC) (hnp : va_nd pm = true) (hpm : ∀ u : S0, pm.map (fun i => (wr ++ w1 u)[i]?) = (wn u).map some) {ci : Nat} {T : u_T} {Nf : Nat} {fs : List Value} (q0 : Nat) (hq : ws[q0]? = some (b, .inr (ci, fs))) (hci : vwCl[ci]? = some (C, T, Nf)) (hn : As.length = n) (hsz : ls.size = nL) (hst : st0 = As.reverse ++ .ref b :: rest) (hroom : (rest.map fun v => v.category).sum ≤ 8) (hdg : decode cc pc = .ok (.invokevirtual index, 3)) (hf : cells ≤ R.cells ∧ slots ≤ R.slots)
    (kk : ∀ (r : Int64) (u : S0) (H1 : Heap) (locs1 : List Loc), post r u → va_P D vwCl (wn u) H1 → va_D A (wn u) → va_S A s.heap H1 locs1 → W p l e R s m args below meth c H1 locs1 cells slots Q (F0 m (pc + 3) ls (.long r :: rest))) : W p l e R s m args below meth c H locs cells slots Q (F0 m pc ls st0) := by
  have hDc := hD.sub isC hnc hC
  have hFc := va_free (wc := wc) hD hS hA isC hC
  have hPc : va_P D vwCl wc H := fun k q hk => by
    have h1 : (isC.map (fun i => ws[i]?))[k]? = some (some q) := by rw [hC, List.getElem?_map, hk]; rfl
    rw [List.getElem?_map] at h1
    cases hi : isC[k]? with
    | none => rw [hi] at h1; cases h1
    | some i => rw [hi] at h1; exact hP i q (Option.some.inj h1)
  refine va_calll (va_runV (As := As) (rest := rest) S hM cw ⟨PW.blind, va_recv (q := (C, T, Nf)) hE.1.1 hP hci hq, fun U hU hW => ⟨rfl, by rw [hU], by rw [hU]; exact hPc, ⟨hE.1.warm hW, hE.2.go hS hU hW hFc⟩, hDc.weaken (fun _ _ _ _ => trivial)⟩⟩ rfl hn hsz hst (lv_room hroom) hdg hf) hS (fun q _ h => hFc q h) hFc (fun r u t H1 locs1 ht hvm hw hB hz1 hk1 hS1 => ?_)
  obtain ⟨hP1, hD1⟩ := hB
  rw [ht] at hP1
  obtain ⟨hP2, hD2⟩ := va_join (wr := wr) hP hD isC isR hC hR hnr hdis hk1 hFc hP1 hD1
  refine kk r u H1 locs1 hw (fun k q hk => ?_) (hD2.sub pm hnp (hpm u)) hS1
  have h1 : (pm.map (fun i => (wr ++ w1 u)[i]?))[k]? = some (some q) := by rw [hpm u, List.getElem?_map, hk]; rfl
  rw [List.getElem?_map] at h1
  cases hi : pm[k]? with
  | none => rw [hi] at h1; cases h1
  | some i => rw [hi] at h1; exact hP2 i q (Option.some.inj h1)
theorem mu_Vv {S0 : Type} {post : S0 → Prop} {w1 wn : S0 → va_W} (S : CallFix p m c cc nL s args Ts own) (hE : EvA D cI cB cJ cZ aK aV A s) (hP : va_P D vwCl ws H) (hD : va_D A ws) (hS : va_S A s.heap H locs) (hA : ∀ q : Nat, s.heap.size ≤ q → A q) (isC isR pm : List Nat) (hM : Met l y wy rm (PW D cI cB cJ cZ aK aV (.ref b :: As) wc H.size) (va_Qv post (BW D (va_A wc H.size) w1) (va_A wc H.size)) 0 0 (va_A wc H.size)) (cw : CallW R s args own C index y bytes maxL ret wy rm 0 0 n)
    (hC : isC.map (fun i => ws[i]?) = wc.map some) (hR : isR.map (fun i => ws[i]?) = wr.map some) (hnc : va_nd isC = true) (hnr : va_nd isR = true) (hdis : ∀ i ∈ isR, i ∉ isC) (hnp : va_nd pm = true) (hpm : ∀ u : S0, pm.map (fun i => (wr ++ w1 u)[i]?) = (wn u).map some) {ci : Nat} {T : u_T} {Nf : Nat} {fs : List Value} (q0 : Nat) (hq : ws[q0]? = some (b, .inr (ci, fs))) (hci : vwCl[ci]? = some (C, T, Nf)) (hn : As.length = n) (hsz : ls.size = nL) (hst : st0 = As.reverse ++ .ref b :: rest) (hroom : (rest.map fun v => v.category).sum ≤ 8) (hdg : decode cc pc = .ok (.invokevirtual index, 3)) (hf : cells ≤ R.cells ∧ slots ≤ R.slots)
    (kk : ∀ (u : S0) (H1 : Heap) (locs1 : List Loc), post u → va_P D vwCl (wn u) H1 → va_D A (wn u) → va_S A s.heap H1 locs1 → W p l e R s m args below meth c H1 locs1 cells slots Q (F0 m (pc + 3) ls rest)) : W p l e R s m args below meth c H locs cells slots Q (F0 m pc ls st0) := by
  have hDc := hD.sub isC hnc hC
  have hFc := va_free (wc := wc) hD hS hA isC hC
  have hPc : va_P D vwCl wc H := fun k q hk => by
    have h1 : (isC.map (fun i => ws[i]?))[k]? = some (some q) := by rw [hC, List.getElem?_map, hk]; rfl
    rw [List.getElem?_map] at h1
    cases hi : isC[k]? with
    | none => rw [hi] at h1; cases h1
    | some i => rw [hi] at h1; exact hP i q (Option.some.inj h1)
  refine va_callv (va_runV (As := As) (rest := rest) S hM cw ⟨PW.blind, va_recv (q := (C, T, Nf)) hE.1.1 hP hci hq, fun U hU hW => ⟨rfl, by rw [hU], by rw [hU]; exact hPc, ⟨hE.1.warm hW, hE.2.go hS hU hW hFc⟩, hDc.weaken (fun _ _ _ _ => trivial)⟩⟩ rfl hn hsz hst (lv_room hroom) hdg hf) hS (fun q _ h => hFc q h) hFc (fun u t H1 locs1 ht hvm hw hB hz1 hk1 hS1 => ?_)
  obtain ⟨hP1, hD1⟩ := hB
  rw [ht] at hP1
  obtain ⟨hP2, hD2⟩ := va_join (wr := wr) hP hD isC isR hC hR hnr hdis hk1 hFc hP1 hD1
  refine kk u H1 locs1 hw (fun k q hk => ?_) (hD2.sub pm hnp (hpm u)) hS1
  have h1 : (pm.map (fun i => (wr ++ w1 u)[i]?))[k]? = some (some q) := by rw [hpm u, List.getElem?_map, hk]; rfl
  rw [List.getElem?_map] at h1
  cases hi : pm[k]? with
  | none => rw [hi] at h1; cases h1
  | some i => rw [hi] at h1; exact hP2 i q (Option.some.inj h1)
end K2R
