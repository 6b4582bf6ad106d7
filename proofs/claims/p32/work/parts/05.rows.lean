/-! THE ROWS: fields, arrays, new cells, calls, returns, throws, over a list of cells wl that is written out after each. -/
def COK (C : String) (T : u_T) (N : Nat) (ty : Nat → FieldType) : Prop := (∀ w ∈ u_ws C T N, w ∈ lw_gw) ∧ (∀ k, k < N → parseFieldDescriptor (T k).2.2.1 = some (ty k)) ∧ (∀ a, a < N → ∀ b, b < N → a ≠ b → (T a).2.1 ≠ (T b).2.1)
def MOK (y : MethodName) (bytes : ByteArray) (maxL : Nat) (ret : Option FieldType) (n : Nat) : Prop := Cond.code y bytes maxL ret ∈ lw_gw ∧ Cond.initialized y.cls ∈ lw_gw ∧ (y.cls ≠ "java/lang/invoke/MethodHandle" ∧ y.cls ≠ "java/lang/invoke/VarHandle" ∧ (parseMethodDescriptor y.desc).map (fun d => d.parameters.length) = some n)
theorem w_toeq {p : Program} {l : Launch} {e : Env} {R : Room} {s : State} {m : MethodId} {args : Array Value} {below : List Frame} {meth : Method} {c : Code} {H : Heap} {locs : List Loc} {cells slots : Nat} {Q : State → Prop} {pc : Nat} {ls : Array Slot} {rest : List Value} {x y : Int32} (h : x = y) (k : W p l e R s m args below meth c H locs cells slots Q (F0 m pc ls (.int y :: rest))) : W p l e R s m args below meth c H locs cells slots Q (F0 m pc ls (.int x :: rest)) := h ▸ k
theorem w_toeql {p : Program} {l : Launch} {e : Env} {R : Room} {s : State} {m : MethodId} {args : Array Value} {below : List Frame} {meth : Method} {c : Code} {H : Heap} {locs : List Loc} {cells slots : Nat} {Q : State → Prop} {pc : Nat} {ls : Array Slot} {rest : List Value} {x y : Int64} (h : x = y) (k : W p l e R s m args below meth c H locs cells slots Q (F0 m pc ls (.long y :: rest))) : W p l e R s m args below meth c H locs cells slots Q (F0 m pc ls (.long x :: rest)) := h ▸ k
theorem w_tov {p : Program} {l : Launch} {e : Env} {R : Room} {s : State} {m : MethodId} {args : Array Value} {below : List Frame} {meth : Method} {c : Code} {H : Heap} {locs : List Loc} {cells slots : Nat} {Q : State → Prop} {pc : Nat} {ls : Array Slot} {rest : List Value} {x y : Value} (h : x = y) (k : W p l e R s m args below meth c H locs cells slots Q (F0 m pc ls (y :: rest))) : W p l e R s m args below meth c H locs cells slots Q (F0 m pc ls (x :: rest)) := h ▸ k
theorem nar_01 {v : Int32} (h : v = nI 0 ∨ v = nI 1) : narrow .boolean (.int v) = .int v := by rcases h with rfl | rfl <;> rfl
theorem fit_01 {v : Int32} (h : v = nI 0 ∨ v = nI 1) : fits .boolean (.int v) = true := by rcases h with rfl | rfl <;> rfl
section ROWS
variable {p : Program} {l : Launch} {e : Env} {R : Room} {s : State} {m : MethodId} {args : Array Value} {below : List Frame} {meth : Method} {c : Code} {H : Heap} {locs : List Loc} {cells slots : Nat} {Q : State → Prop}
variable {G : Nat → Nat} {D : va_G} {K : Nat → ClassId} {wl wc wr ws' : va_W} {A : Nat → Prop} {cc : ByteArray} {pc : Nat} {ls : Array Slot} {rest st : List Value} {a : Nat}
theorem va_P.to {H1 : Heap} (h : va_P D cl wl H1) (e : wl = ws') : va_P D cl ws' H1 := e ▸ h
theorem va_D.to {A : Nat → Prop} (h : va_D A wl) (e : wl = ws') : va_D A ws' := e ▸ h
theorem r_get (hx : p.tables.exec = Jvm.exec) (hb : c.code = cc) {own ref C : String} {T : u_T} {N ci index : Nat} {ty : Nat → FieldType} (hts : ∀ w ∈ lw_gw, w.before args s = true) (ok : COK C T N ty) (hown : s.vm.findClass own = some m.cls) (hK : va_K D cl (tys K) s) (hP : va_P D cl wl H) (q0 : Nat) {fs : List Value} (he : wl[q0]? = some (a, .inr (ci, fs))) (hc : cl[ci]? = some (C, T, N)) (k : Nat) (hk : k < N) (hlink : Cond.fieldLink own index ref (T k).2.1 (T k).2.2.1 ∈ lw_gw) (hsame : ∀ x, s.fieldFound? (T k).1 (T k).2.1 (T k).2.2.1 = some x → s.fieldFound? ref (T k).2.1 (T k).2.2.1 = some x) {v : Value} (hv : fs[k]? = some v) (hdg : decode cc pc = .ok (.getfield index, 3))
    (kk : W p l e R s m args below meth c H locs cells slots Q (F0 m (pc + 3) ls (v :: rest))) : W p l e R s m args below meth c H locs cells slots Q (F0 m pc ls (.ref a :: rest)) :=
  va_get hx hb hts ok.1 hown hK hP q0 he hc k hk (hts _ hlink) hsame hv hdg kk
theorem r_put (hx : p.tables.exec = Jvm.exec) (hb : c.code = cc) {own ref C : String} {T : u_T} {N ci index : Nat} {ty : Nat → FieldType} (hts : ∀ w ∈ lw_gw, w.before args s = true) (ok : COK C T N ty) (hown : s.vm.findClass own = some m.cls) (hK : va_K D cl (tys K) s) (hP : va_P D cl wl H) (hD : va_D A wl) (hS : va_S A s.heap H locs) (q0 : Nat) {fs : List Value} (he : wl[q0]? = some (a, .inr (ci, fs))) (hc : cl[ci]? = some (C, T, N)) (k : Nat) (hk : k < N) (hlink : Cond.fieldLink own index ref (T k).2.1 (T k).2.2.1 ∈ lw_gw) (hsame : ∀ x, s.fieldFound? (T k).1 (T k).2.1 (T k).2.2.1 = some x → s.fieldFound? ref (T k).2.1 (T k).2.2.1 = some x) (hfin : (T k).2.2.2 = false) {v : Value} (hn : narrow (ty k) v = v) (hfit : fits (ty k) v = true) (hl : k < fs.length) (hdg : decode cc pc = .ok (.putfield index, 3)) (e1 : wl.set q0 (a, .inr (ci, fs.set k v)) = ws')
    (kk : ∀ (H1 : Heap) (locs1 : List Loc), va_P D cl ws' H1 → va_D A ws' → va_S A s.heap H1 locs1 → W p l e R s m args below meth c H1 locs1 cells slots Q (F0 m (pc + 3) ls rest)) : W p l e R s m args below meth c H locs cells slots Q (F0 m pc ls (v :: .ref a :: rest)) := by
  subst e1
  exact va_put hx hb hts ok.1 ty ok.2.1 ok.2.2 hown hK hP hD hS q0 he hc k hk (hts _ hlink) hsame hfin (ok.2.1 k hk) hn hfit hl hdg kk
theorem r_putF (hx : p.tables.exec = Jvm.exec) (hb : c.code = cc) {own ref C : String} {T : u_T} {N ci index : Nat} {ty : Nat → FieldType} (hts : ∀ w ∈ lw_gw, w.before args s = true) (ok : COK C T N ty) (hown : s.vm.findClass own = some m.cls) (hK : va_K D cl (tys K) s) (hP : va_P D cl wl H) (hD : va_D A wl) (hS : va_S A s.heap H locs) (q0 : Nat) {fs : List Value} (he : wl[q0]? = some (a, .inr (ci, fs))) (hc : cl[ci]? = some (C, T, N)) (k : Nat) (hk : k < N) (hlink : Cond.fieldLink own index ref (T k).2.1 (T k).2.2.1 ∈ lw_gw) (hsame : ∀ x, s.fieldFound? (T k).1 (T k).2.1 (T k).2.2.1 = some x → s.fieldFound? ref (T k).2.1 (T k).2.2.1 = some x) (hfin : (T k).2.2.2 = true) (hin : meth.name = "<init>") (hdecl : (T k).1 = own) {v : Value} (hn : narrow (ty k) v = v) (hfit : fits (ty k) v = true) (hl : k < fs.length) (hdg : decode cc pc = .ok (.putfield index, 3)) (e1 : wl.set q0 (a, .inr (ci, fs.set k v)) = ws')
    (kk : ∀ (H1 : Heap) (locs1 : List Loc), va_P D cl ws' H1 → va_D A ws' → va_S A s.heap H1 locs1 → W p l e R s m args below meth c H1 locs1 cells slots Q (F0 m (pc + 3) ls rest)) : W p l e R s m args below meth c H locs cells slots Q (F0 m pc ls (v :: .ref a :: rest)) := by
  subst e1
  exact va_putF hx hb hts ok.1 ty ok.2.1 ok.2.2 hown hK hP hD hS q0 he hc k hk (hts _ hlink) hsame hfin hin hdecl (ok.2.1 k hk) hn hfit hl hdg kk
theorem r_new (hx : p.tables.exec = Jvm.exec) (hb : c.code = cc) {own C : String} {T : u_T} {N ci index : Nat} {ty : Nat → FieldType} (hts : ∀ w ∈ lw_gw, w.before args s = true) (ok : COK C T N ty) (hown : s.vm.findClass own = some m.cls) (hcl : Cond.classLink own index C ∈ lw_gw) (hinst : Cond.instantiable C N ∈ lw_gw) (hini : Cond.initialized C ∈ lw_gw) (hK : va_K D cl (tys K) s) (hP : va_P D cl wl H) (hD : va_D A wl) (hS : va_S A s.heap H locs) (hA : ∀ q, s.heap.size ≤ q → A q) (hc : cl[ci]? = some (C, T, N)) {fs : List Value} (hfs : ∀ j, j < N → defaultValue (ty j) = vp_V fs j) (hcells : cells + 1 ≤ R.cells) (hslots : slots + N ≤ R.slots) (hdg : decode cc pc = .ok (.new index, 3)) {w2 : Nat → va_W} (e1 : ∀ q, wl ++ [(q, .inr (ci, fs))] = w2 q)
    (kk : ∀ (q : Nat) (H1 : Heap), va_P D cl (w2 q) H1 → va_D A (w2 q) → va_S A s.heap H1 locs → W p l e R s m args below meth c H1 locs (cells + 1) (slots + N) Q (F0 m (pc + 3) ls (.ref q :: rest))) : W p l e R s m args below meth c H locs cells slots Q (F0 m pc ls rest) :=
  va_new hx hb hts ok.1 ty ok.2.1 hown (hts _ hcl) (hts _ hinst) (hts _ hini) hK hP hD hS hA hc hfs hcells hslots hdg (fun q H1 h1 h2 h3 => kk q H1 (e1 q ▸ h1) (e1 q ▸ h2) h3)
theorem ra_uniq {U : State} {c1 c2 : ClassId} {ty : FieldType} (h1 : va_RA U c1 ty) (h2 : va_RA U c2 ty) : c1 = c2 := by
  cases ty with
  | object C =>
    obtain ⟨_, _, -, -, -, e1⟩ := h1
    obtain ⟨_, _, -, -, -, e2⟩ := h2
    exact Option.some.inj (e1.symm.trans e2)
  | _ => exact Option.some.inj (Eq.trans (Eq.symm h1) h2)
theorem r_newa (hx : p.tables.exec = Jvm.exec) (hb : c.code = cc) {atype : ArrayType} (hts : ∀ w ∈ lw_gw, w.before args s = true) (harr : Cond.arrayClass (newarray.typeOf atype) ∈ lw_gw) {ty : FieldType} (hty : newarray.typeOf atype = ty) (hK : va_K D cl (tys K) s) (hP : va_P D cl wl H) (hD : va_D A wl) (hS : va_S A s.heap H locs) (hA : ∀ q, s.heap.size ≤ q → A q) (t0 : Nat) {cA : ClassId} (ht : (tys K)[t0]? = some (cA, ty)) {n : Int32} {N : Nat} {a0 : vp_A} (ha : ∀ cA : ClassId, vp_cell cA a0 = arrV cA N (fun _ => defaultValue ty)) (hn : ¬ n < 0) (hN : n.toNatClampNeg = N) (hby : N * componentBytes ty ≤ 536870912) (hcells : cells + 1 ≤ R.cells) (hslots : slots + N ≤ R.slots) (hdg : decode cc pc = .ok (.newarray atype, 2)) {w2 : Nat → va_W} (e1 : ∀ q, wl ++ [(q, .inl (cA, a0))] = w2 q)
    (kk : ∀ (q : Nat) (H1 : Heap), va_P D cl (w2 q) H1 → va_D A (w2 q) → va_S A s.heap H1 locs → W p l e R s m args below meth c H1 locs (cells + 1) (slots + N) Q (F0 m (pc + 2) ls (.ref q :: rest))) : W p l e R s m args below meth c H locs cells slots Q (F0 m pc ls (.int n :: rest)) :=
  va_newa hx hb (hts _ harr) hty hK hP hD hS hA ha hn hN hby hcells hslots hdg (fun q c2 H1 hK2 h1 h2 h3 => by
    have e2 : c2 = cA := ra_uniq (hK2.2 (tys K).length (c2, ty) (by rw [List.getElem?_append_right (Nat.le_refl _), Nat.sub_self]; rfl)).2 (hK.2 t0 _ ht).2
    subst e2
    exact kk q H1 (e1 q ▸ h1) (e1 q ▸ h2) h3)
theorem r_newq (hx : p.tables.exec = Jvm.exec) (hb : c.code = cc) {own C : String} {index : Nat} (hts : ∀ w ∈ lw_gw, w.before args s = true) (hown : s.vm.findClass own = some m.cls) (hcl : Cond.classLink own index C ∈ lw_gw) (hao : va_AO C s) (hK : va_K D cl (tys K) s) (hP : va_P D cl wl H) (hD : va_D A wl) (hS : va_S A s.heap H locs) (hA : ∀ q, s.heap.size ≤ q → A q) (t0 : Nat) {cA : ClassId} (ht : (tys K)[t0]? = some (cA, .object C)) {n : Int32} {N : Nat} (hn : ¬ n < 0) (hN : n.toNatClampNeg = N) (hby : N * 4 ≤ 536870912) (hcells : cells + 1 ≤ R.cells) (hslots : slots + N ≤ R.slots) (hdg : decode cc pc = .ok (.anewarray index, 3)) {w2 : Nat → va_W} (e1 : ∀ q, wl ++ [(q, .inl (cA, N, .inr (.inr (.inr (.inr (fun _ => none))))))] = w2 q)
    (kk : ∀ (q : Nat) (H1 : Heap), va_P D cl (w2 q) H1 → va_D A (w2 q) → va_S A s.heap H1 locs → W p l e R s m args below meth c H1 locs (cells + 1) (slots + N) Q (F0 m (pc + 3) ls (.ref q :: rest))) : W p l e R s m args below meth c H locs cells slots Q (F0 m pc ls (.int n :: rest)) :=
  va_newq hx hb hown (hts _ hcl) hao hK hP hD hS hA hn hN hby hcells hslots hdg (fun q c2 H1 hK2 h1 h2 h3 => by
    have e2 : c2 = cA := ra_uniq (hK2.2 (tys K).length (c2, .object C) (by rw [List.getElem?_append_right (Nat.le_refl _), Nat.sub_self]; rfl)).2 (hK.2 t0 _ ht).2
    subst e2
    exact kk q H1 (e1 q ▸ h1) (e1 q ▸ h2) h3)
theorem r_oinit (hx : p.tables.exec = Jvm.exec) (hb : c.code = cc) (hts : ∀ w ∈ lw_gw, w.before args s = true) {own : String} (hown : s.vm.findClass own = some m.cls) {idx : Nat} (hlink : Cond.methodLink own idx Lib.objectInit ∈ lw_gw) (hinst : Cond.instanceMethod Lib.objectInit ∈ lw_gw) (hcode : Cond.code Lib.objectInit ⟨#[0xb1]⟩ 1 none ∈ lw_gw) {nL : Nat} (hml : c.maxLocals = nL) (hls : ls.size = nL) (hdg : decode cc pc = .ok (.invokespecial idx, 3)) (hf : 1 ≤ R.frames) (hl : (rest.map fun v => v.category).sum + 12 ≤ R.locals)
    (k : W p l e R s m args below meth c H locs cells slots Q (F0 m (pc + 3) ls rest)) : W p l e R s m args below meth c H locs cells slots Q (F0 m pc ls (.ref a :: rest)) :=
  W.objInit hx hb hown (hts _ hlink) (hts _ hinst) (hts _ hcode) rfl (by rw [hml]; exact hls) rfl hdg hf (by show 2 * 0 + _ + 12 ≤ _; omega) k
/-- returns -/
theorem e_v (hx : p.tables.exec = Jvm.exec) (hb : c.code = cc) (hr : meth.sig.returnType = none) (hlk : meth.locks = false) (hP : va_P D cl wl H) (hD : va_D A wl) (hS : va_S A s.heap H locs) {w1 : (Nat → Nat) → va_W} (u : Nat → Nat) (e1 : wl = w1 u) {mc ms : Nat} (h1 : cells ≤ mc) (h2 : slots ≤ ms) (hdg : decode cc pc = .ok (.return_, 1)) : W p l e R s m args below meth c H locs cells slots (MQ below (CQv D w1 A) args s mc ms A) (F0 m pc ls []) :=
  W.widen h1 h2 (W.vret hx hb hr (fun t ht _ => ⟨⟨u, rfl, trivial, by rw [ht]; exact hP.to e1, hD.to e1⟩, hS.F ht⟩) hS.2.2 hdg hlk)
theorem e_i (hx : p.tables.exec = Jvm.exec) (hb : c.code = cc) (hr : meth.sig.returnType = some .int) (hlk : meth.locks = false) (hP : va_P D cl wl H) (hD : va_D A wl) (hS : va_S A s.heap H locs) {w1 : (Nat → Nat) → va_W} (u : Nat → Nat) (e1 : wl = w1 u) {mc ms : Nat} (h1 : cells ≤ mc) (h2 : slots ≤ ms) {v r : Int32} (hv : v = r) (hdg : decode cc pc = .ok (.ireturn, 1)) : W p l e R s m args below meth c H locs cells slots (MQ below (CQi r D w1 A) args s mc ms A) (F0 m pc ls [.int v]) :=
  W.widen h1 h2 (W.iret hx hb hr (fun t ht _ => ⟨⟨_, u, rfl, hv, by rw [ht]; exact hP.to e1, hD.to e1⟩, hS.F ht⟩) hS.2.2 hdg hlk)
theorem e_z (hx : p.tables.exec = Jvm.exec) (hb : c.code = cc) (hr : meth.sig.returnType = some .boolean) (hlk : meth.locks = false) (hP : va_P D cl wl H) (hD : va_D A wl) (hS : va_S A s.heap H locs) {w1 : (Nat → Nat) → va_W} (u : Nat → Nat) (e1 : wl = w1 u) {mc ms : Nat} (h1 : cells ≤ mc) (h2 : slots ≤ ms) {v r : Int32} (hv : v = r) (h01 : v = nI 0 ∨ v = nI 1) (hdg : decode cc pc = .ok (.ireturn, 1)) : W p l e R s m args below meth c H locs cells slots (MQ below (CQi r D w1 A) args s mc ms A) (F0 m pc ls [.int v]) :=
  W.widen h1 h2 (W.zret hx hb hr (nar_01 h01) (fun t ht _ => ⟨⟨_, u, rfl, hv, by rw [ht]; exact hP.to e1, hD.to e1⟩, hS.F ht⟩) hS.2.2 hdg hlk)
theorem e_l (hx : p.tables.exec = Jvm.exec) (hb : c.code = cc) (hr : meth.sig.returnType = some .long) (hlk : meth.locks = false) (hP : va_P D cl wl H) (hD : va_D A wl) (hS : va_S A s.heap H locs) {w1 : (Nat → Nat) → va_W} (u : Nat → Nat) (e1 : wl = w1 u) {mc ms : Nat} (h1 : cells ≤ mc) (h2 : slots ≤ ms) {v r : Int64} (hv : v = r) (hdg : decode cc pc = .ok (.lreturn, 1)) : W p l e R s m args below meth c H locs cells slots (MQ below (CQl r D w1 A) args s mc ms A) (F0 m pc ls [.long v]) :=
  W.widen h1 h2 (W.lret hx hb hr (fun t ht _ => ⟨⟨_, u, rfl, hv, by rw [ht]; exact hP.to e1, hD.to e1⟩, hS.F ht⟩) hS.2.2 hdg hlk)
theorem e_d (hx : p.tables.exec = Jvm.exec) (hb : c.code = cc) (hr : meth.sig.returnType = some .double) (hlk : meth.locks = false) (hP : va_P D cl wl H) (hD : va_D A wl) (hS : va_S A s.heap H locs) {w1 : (Nat → Nat) → va_W} (u : Nat → Nat) (e1 : wl = w1 u) {mc ms : Nat} (h1 : cells ≤ mc) (h2 : slots ≤ ms) {v r : UInt64} (hv : v = r) (hdg : decode cc pc = .ok (.dreturn, 1)) : W p l e R s m args below meth c H locs cells slots (MQ below (CQd r D w1 A) args s mc ms A) (F0 m pc ls [.double v]) :=
  W.widen h1 h2 (W.dret hx hb hr (fun t ht _ => ⟨⟨_, u, rfl, hv, by rw [ht]; exact hP.to e1, hD.to e1⟩, hS.F ht⟩) hS.2.2 hdg hlk)
theorem e_q (hx : p.tables.exec = Jvm.exec) (hb : c.code = cc) {rt : FieldType} (hr : meth.sig.returnType = some rt) (hrt : (∃ n, rt = .object n) ∨ ∃ t, rt = .array t) (hlk : meth.locks = false) (hP : va_P D cl wl H) (hD : va_D A wl) (hS : va_S A s.heap H locs) {w1 : (Nat → Nat) → va_W} (u : Nat → Nat) (e1 : wl = w1 u) {mc ms : Nat} (h1 : cells ≤ mc) (h2 : slots ≤ ms) {v : Value} {r : (Nat → Nat) → Option Nat} (hv : v = va_rf (r u)) (hdg : decode cc pc = .ok (.areturn, 1)) : W p l e R s m args below meth c H locs cells slots (MQ below (CQq r D w1 A) args s mc ms A) (F0 m pc ls [v]) := by
  subst hv
  exact W.widen h1 h2 (W.aret hx hb hr hrt (va_rf_or _) (fun t ht _ => ⟨⟨_, u, rfl, rfl, by rw [ht]; exact hP.to e1, hD.to e1⟩, hS.F ht⟩) hS.2.2 hdg hlk)
/-- a receiver out of the cells -/
theorem rcv (hK : va_K D cl (tys K) s) (hP : va_P D cl wl H) (q0 : Nat) {ci : Nat} {fs : List Value} {q : vw_C} {C : String} (he : wl[q0]? = some (a, .inr (ci, fs))) (hc : cl[ci]? = some q) (hq : q.1 = C) : ∃ cell : Cell, H[a]? = some cell ∧ cell.vm.isStatics = false ∧ s.vm.findClass C = some cell.cls := by
  subst hq
  exact va_recv hK hP hc he
section CALLS
variable {y : MethodName} {bytes : ByteArray} {maxL nL index n : Nat} {ret : Option FieldType} {rm : Room} {QQ : (Nat → Prop) → QSpec} {own cls : String} {b : Nat} {As : List Value}
theorem run_V (hx : p.tables.exec = Jvm.exec) (hb : c.code = cc) (hml : c.maxLocals = nL) (hown : s.vm.findClass own = some m.cls) (hts : ∀ w ∈ lw_gw, w.before args s = true) (hK : va_K D cl (tys K) s) (hP : va_P D cl wl H) (hD : va_D A wl) (hS : va_S A s.heap H locs) (hA : ∀ q, s.heap.size ≤ q → A q) (hm : Amb G A s s.heap)
    (hM : CM l y bytes maxL ret rm G D K (.ref b :: As) wc H.size QQ) (isC : List Nat) (hC : isC.map (fun i => wl[i]?) = wc.map some) (hn : va_nd isC = true) (ok : MOK y bytes maxL ret n) (h1 : Cond.methodLink own index y ∈ lw_gw) (h2 : Cond.instanceMethod y ∈ lw_gw) (h3 : Cond.selects y.cls y y ∈ lw_gw) (hrc : ∃ cell : Cell, H[b]? = some cell ∧ cell.vm.isStatics = false ∧ s.vm.findClass y.cls = some cell.cls)
    (hR : rm.frames + 1 ≤ R.frames ∧ 8 + (maxL + 11) + rm.locals ≤ R.locals) (hlen : As.length = n) (hls : ls.size = nL) (hst : st = As.reverse ++ .ref b :: rest) (hW : (rest.map fun v => v.category).sum ≤ 8) (hdg : decode cc pc = .ok (.invokevirtual index, 3)) (hf : cells + rm.cells ≤ R.cells ∧ slots + rm.slots ≤ R.slots) :
    va_Run p l e R s m args below meth c H locs cells slots rm.cells rm.slots (F0 m pc ls st) rest (QQ (va_A wc H.size) (Value.ref b :: As).toArray) (va_A wc H.size) :=
  va_runV (Ts := lw_gw) ⟨hx, hb, hml, hown, hts⟩ hM (cwV n hts (gi_app (fun _ h => h) (ms_c h1 (ms_c h2 (ms_c h3 (ms_c ok.2.1 ms_0)))) ok.1) rfl rfl rfl ⟨rfl, ok.2.2⟩ hR) ⟨cPre.blind, hrc, fun U hU hWu => ⟨rfl, cPre.of hK hP hD hS hA hm isC hC hn hU hWu⟩⟩ rfl hlen hls hst (lv_room hW) hdg hf
theorem run_S (hx : p.tables.exec = Jvm.exec) (hb : c.code = cc) (hml : c.maxLocals = nL) (hown : s.vm.findClass own = some m.cls) (hts : ∀ w ∈ lw_gw, w.before args s = true) (hK : va_K D cl (tys K) s) (hP : va_P D cl wl H) (hD : va_D A wl) (hS : va_S A s.heap H locs) (hA : ∀ q, s.heap.size ≤ q → A q) (hm : Amb G A s s.heap)
    (hM : CM l y bytes maxL ret rm G D K As wc H.size QQ) (isC : List Nat) (hC : isC.map (fun i => wl[i]?) = wc.map some) (hn : va_nd isC = true) (ok : MOK y bytes maxL ret n) (h1 : Cond.methodLink own index y ∈ lw_gw) (h2 : Cond.static y ∈ lw_gw)
    (hR : rm.frames + 1 ≤ R.frames ∧ 8 + (maxL + 11) + rm.locals ≤ R.locals) (hlen : As.length = n) (hls : ls.size = nL) (hst : st = As.reverse ++ rest) (hW : (rest.map fun v => v.category).sum ≤ 8) (hdg : decode cc pc = .ok (.invokestatic index, 3)) (hf : cells + rm.cells ≤ R.cells ∧ slots + rm.slots ≤ R.slots) :
    va_Run p l e R s m args below meth c H locs cells slots rm.cells rm.slots (F0 m pc ls st) rest (QQ (va_A wc H.size) As.toArray) (va_A wc H.size) :=
  va_runS (Ts := lw_gw) ⟨hx, hb, hml, hown, hts⟩ hM (va_cwS n hts (gi_app (fun _ h => h) (ms_c h1 (ms_c h2 (ms_c ok.2.1 ms_0))) ok.1) rfl rfl rfl ok.2.2 hR) ⟨cPre.blind, fun U hU hWu => ⟨rfl, cPre.of hK hP hD hS hA hm isC hC hn hU hWu⟩⟩ rfl hlen hls hst (lv_room hW) hdg hf
theorem run_I (hx : p.tables.exec = Jvm.exec) (hb : c.code = cc) (hml : c.maxLocals = nL) (hown : s.vm.findClass own = some m.cls) (hts : ∀ w ∈ lw_gw, w.before args s = true) (hK : va_K D cl (tys K) s) (hP : va_P D cl wl H) (hD : va_D A wl) (hS : va_S A s.heap H locs) (hA : ∀ q, s.heap.size ≤ q → A q) (hm : Amb G A s s.heap)
    (hM : CM l y bytes maxL none rm G D K (.ref b :: As) wc H.size QQ) (isC : List Nat) (hC : isC.map (fun i => wl[i]?) = wc.map some) (hn : va_nd isC = true) (ok : MOK y bytes maxL none n) (h1 : Cond.methodLink own index y ∈ lw_gw) (h2 : Cond.instanceMethod y ∈ lw_gw) (hy : y.name = "<init>")
    (hR : rm.frames + 1 ≤ R.frames ∧ 8 + (maxL + 11) + rm.locals ≤ R.locals) (hlen : As.length = n) (hls : ls.size = nL) (hst : st = As.reverse ++ .ref b :: rest) (hW : (rest.map fun v => v.category).sum ≤ 8) (hdg : decode cc pc = .ok (.invokespecial index, 3)) (hf : cells + rm.cells ≤ R.cells ∧ slots + rm.slots ≤ R.slots) :
    va_Run p l e R s m args below meth c H locs cells slots rm.cells rm.slots (F0 m pc ls st) rest (QQ (va_A wc H.size) (Value.ref b :: As).toArray) (va_A wc H.size) :=
  va_runI (Ts := lw_gw) ⟨hx, hb, hml, hown, hts⟩ hM (cwI n hts (gi (fun _ h => h) ok.1) rfl rfl rfl (hts _ ok.2.1) (hts _ h1) (hts _ h2) hy ok.2.2 hR) ⟨cPre.blind, fun U hU hWu => ⟨rfl, cPre.of hK hP hD hS hA hm isC hC hn hU hWu⟩⟩ rfl hlen hls hst (lv_room hW) hdg hf
theorem run_IN (hx : p.tables.exec = Jvm.exec) (hb : c.code = cc) (hml : c.maxLocals = nL) (hown : s.vm.findClass own = some m.cls) (hts : ∀ w ∈ lw_gw, w.before args s = true) (hK : va_K D cl (tys K) s) (hP : va_P D cl wl H) (hD : va_D A wl) (hS : va_S A s.heap H locs) (hA : ∀ q, s.heap.size ≤ q → A q) (hm : Amb G A s s.heap) {host : String}
    (hM : CM l y bytes maxL none rm G D K (.ref b :: As) wc H.size QQ) (isC : List Nat) (hC : isC.map (fun i => wl[i]?) = wc.map some) (hn : va_nd isC = true) (ok : MOK y bytes maxL none n) (h1 : Cond.methodLinkNest own index y host ∈ lw_aw) (h2 : Cond.instanceMethod y ∈ lw_gw) (hy : y.name = "<init>")
    (hR : rm.frames + 1 ≤ R.frames ∧ 8 + (maxL + 11) + rm.locals ≤ R.locals) (hlen : As.length = n) (hls : ls.size = nL) (hst : st = As.reverse ++ .ref b :: rest) (hW : (rest.map fun v => v.category).sum ≤ 8) (hdg : decode cc pc = .ok (.invokespecial index, 3)) (hf : cells + rm.cells ≤ R.cells ∧ slots + rm.slots ≤ R.slots) :
    va_Run p l e R s m args below meth c H locs cells slots rm.cells rm.slots (F0 m pc ls st) rest (QQ (va_A wc H.size) (Value.ref b :: As).toArray) (va_A wc H.size) :=
  va_runIN (Ts := lw_gw) ⟨hx, hb, hml, hown, hts⟩ hM ⟨va_cnB n hts (gi (fun _ h => h) ok.1) rfl rfl rfl (hm.1 _ h1) (hts _ ok.2.1) ok.2.2 hR, hy, hts _ h2⟩ ⟨cPre.blind, fun U hU hWu => ⟨rfl, cPre.of hK hP hD hS hA hm isC hC hn hU hWu⟩⟩ rfl hlen hls hst (lv_room hW) hdg hf
theorem run_SN (hx : p.tables.exec = Jvm.exec) (hb : c.code = cc) (hml : c.maxLocals = nL) (hown : s.vm.findClass own = some m.cls) (hts : ∀ w ∈ lw_gw, w.before args s = true) (hK : va_K D cl (tys K) s) (hP : va_P D cl wl H) (hD : va_D A wl) (hS : va_S A s.heap H locs) (hA : ∀ q, s.heap.size ≤ q → A q) (hm : Amb G A s s.heap) {host : String}
    (hM : CM l y bytes maxL ret rm G D K As wc H.size QQ) (isC : List Nat) (hC : isC.map (fun i => wl[i]?) = wc.map some) (hn : va_nd isC = true) (ok : MOK y bytes maxL ret n) (h1 : Cond.methodLinkNest own index y host ∈ lw_aw) (h2 : Cond.static y ∈ lw_gw)
    (hR : rm.frames + 1 ≤ R.frames ∧ 8 + (maxL + 11) + rm.locals ≤ R.locals) (hlen : As.length = n) (hls : ls.size = nL) (hst : st = As.reverse ++ rest) (hW : (rest.map fun v => v.category).sum ≤ 8) (hdg : decode cc pc = .ok (.invokestatic index, 3)) (hf : cells + rm.cells ≤ R.cells ∧ slots + rm.slots ≤ R.slots) :
    va_Run p l e R s m args below meth c H locs cells slots rm.cells rm.slots (F0 m pc ls st) rest (QQ (va_A wc H.size) As.toArray) (va_A wc H.size) :=
  va_runSN (Ts := lw_gw) ⟨hx, hb, hml, hown, hts⟩ hM ⟨va_cnB n hts (gi (fun _ h => h) ok.1) rfl rfl rfl (hm.1 _ h1) (hts _ ok.2.1) ok.2.2 hR, hts _ h2, trivial⟩ ⟨cPre.blind, fun U hU hWu => ⟨rfl, cPre.of hK hP hD hS hA hm isC hC hn hU hWu⟩⟩ rfl hlen hls hst (lv_room hW) hdg hf
theorem run_VN (hx : p.tables.exec = Jvm.exec) (hb : c.code = cc) (hml : c.maxLocals = nL) (hown : s.vm.findClass own = some m.cls) (hts : ∀ w ∈ lw_gw, w.before args s = true) (hK : va_K D cl (tys K) s) (hP : va_P D cl wl H) (hD : va_D A wl) (hS : va_S A s.heap H locs) (hA : ∀ q, s.heap.size ≤ q → A q) (hm : Amb G A s s.heap) {host : String}
    (hM : CM l y bytes maxL ret rm G D K (.ref b :: As) wc H.size QQ) (isC : List Nat) (hC : isC.map (fun i => wl[i]?) = wc.map some) (hn : va_nd isC = true) (ok : MOK y bytes maxL ret n) (h1 : Cond.methodLinkNest own index y host ∈ lw_aw) (h2 : Cond.instanceMethod y ∈ lw_gw) (h3 : Cond.selects y.cls y y ∈ lw_gw) (hrc : ∃ cell : Cell, H[b]? = some cell ∧ cell.vm.isStatics = false ∧ s.vm.findClass y.cls = some cell.cls)
    (hR : rm.frames + 1 ≤ R.frames ∧ 8 + (maxL + 11) + rm.locals ≤ R.locals) (hlen : As.length = n) (hls : ls.size = nL) (hst : st = As.reverse ++ .ref b :: rest) (hW : (rest.map fun v => v.category).sum ≤ 8) (hdg : decode cc pc = .ok (.invokevirtual index, 3)) (hf : cells + rm.cells ≤ R.cells ∧ slots + rm.slots ≤ R.slots) :
    va_Run p l e R s m args below meth c H locs cells slots rm.cells rm.slots (F0 m pc ls st) rest (QQ (va_A wc H.size) (Value.ref b :: As).toArray) (va_A wc H.size) :=
  va_runVN (Ts := lw_gw) ⟨hx, hb, hml, hown, hts⟩ hM ⟨va_cnB n hts (gi (fun _ h => h) ok.1) rfl rfl rfl (hm.1 _ h1) (hts _ ok.2.1) ok.2.2 hR, hts _ h2, hts _ h3⟩ ⟨cPre.blind, hrc, fun U hU hWu => ⟨rfl, cPre.of hK hP hD hS hA hm isC hC hn hU hWu⟩⟩ rfl hlen hls hst (lv_room hW) hdg hf
/-- what comes behind a call -/
theorem k_v {mc ms : Nat} {av : Array Value} {w1 : (Nat → Nat) → va_W} (hr : va_Run p l e R s m args below meth c H locs cells slots mc ms (F0 m pc ls st) rest (CQv D w1 (va_A wc H.size) av) (va_A wc H.size)) (hP : va_P D cl wl H) (hD : va_D A wl) (hS : va_S A s.heap H locs) (hA : ∀ q, s.heap.size ≤ q → A q) (isC isR : List Nat) (hC : isC.map (fun i => wl[i]?) = wc.map some) (hR : isR.map (fun i => wl[i]?) = wr.map some) (hn : va_nd isR = true) (hdis : ∀ i ∈ isR, i ∉ isC)
    {w2 : (Nat → Nat) → va_W} (e2 : ∀ u, wr ++ w1 u = w2 u) (kk : ∀ (u : Nat → Nat) (H1 : Heap) (locs1 : List Loc), va_P D cl (w2 u) H1 → va_D A (w2 u) → va_S A s.heap H1 locs1 → W p l e R s m args below meth c H1 locs1 (cells + mc) (slots + ms) Q (F0 m (pc + 3) ls rest)) : W p l e R s m args below meth c H locs cells slots Q (F0 m pc ls st) := by
  have hF := va_free hD hS hA isC hC
  refine va_callv hr hS (fun q _ h => hF q h) hF (fun u t H1 locs1 ht hvm hw hB hz1 hk1 hS1 => ?_)
  obtain ⟨hP1, hD1⟩ := hB
  rw [ht] at hP1
  obtain ⟨h1, h2⟩ := va_join hP hD isC isR hC hR hn hdis hk1 hF hP1 hD1
  exact kk u H1 locs1 (h1.to (e2 u)) (h2.to (e2 u)) hS1
theorem k_i {mc ms : Nat} {av : Array Value} {w1 : (Nat → Nat) → va_W} {r : Int32} (hr : va_Run p l e R s m args below meth c H locs cells slots mc ms (F0 m pc ls st) rest (CQi r D w1 (va_A wc H.size) av) (va_A wc H.size)) (hP : va_P D cl wl H) (hD : va_D A wl) (hS : va_S A s.heap H locs) (hA : ∀ q, s.heap.size ≤ q → A q) (isC isR : List Nat) (hC : isC.map (fun i => wl[i]?) = wc.map some) (hR : isR.map (fun i => wl[i]?) = wr.map some) (hn : va_nd isR = true) (hdis : ∀ i ∈ isR, i ∉ isC)
    {w2 : (Nat → Nat) → va_W} (e2 : ∀ u, wr ++ w1 u = w2 u) (kk : ∀ (u : Nat → Nat) (H1 : Heap) (locs1 : List Loc), va_P D cl (w2 u) H1 → va_D A (w2 u) → va_S A s.heap H1 locs1 → W p l e R s m args below meth c H1 locs1 (cells + mc) (slots + ms) Q (F0 m (pc + 3) ls (.int r :: rest))) : W p l e R s m args below meth c H locs cells slots Q (F0 m pc ls st) := by
  have hF := va_free hD hS hA isC hC
  refine va_calli hr hS (fun q _ h => hF q h) hF (fun z u t H1 locs1 ht hvm hw hB hz1 hk1 hS1 => ?_)
  obtain ⟨hP1, hD1⟩ := hB
  rw [ht] at hP1
  obtain ⟨h1, h2⟩ := va_join hP hD isC isR hC hR hn hdis hk1 hF hP1 hD1
  rw [hw]
  exact kk u H1 locs1 (h1.to (e2 u)) (h2.to (e2 u)) hS1
theorem k_l {mc ms : Nat} {av : Array Value} {w1 : (Nat → Nat) → va_W} {r : Int64} (hr : va_Run p l e R s m args below meth c H locs cells slots mc ms (F0 m pc ls st) rest (CQl r D w1 (va_A wc H.size) av) (va_A wc H.size)) (hP : va_P D cl wl H) (hD : va_D A wl) (hS : va_S A s.heap H locs) (hA : ∀ q, s.heap.size ≤ q → A q) (isC isR : List Nat) (hC : isC.map (fun i => wl[i]?) = wc.map some) (hR : isR.map (fun i => wl[i]?) = wr.map some) (hn : va_nd isR = true) (hdis : ∀ i ∈ isR, i ∉ isC)
    {w2 : (Nat → Nat) → va_W} (e2 : ∀ u, wr ++ w1 u = w2 u) (kk : ∀ (u : Nat → Nat) (H1 : Heap) (locs1 : List Loc), va_P D cl (w2 u) H1 → va_D A (w2 u) → va_S A s.heap H1 locs1 → W p l e R s m args below meth c H1 locs1 (cells + mc) (slots + ms) Q (F0 m (pc + 3) ls (.long r :: rest))) : W p l e R s m args below meth c H locs cells slots Q (F0 m pc ls st) := by
  have hF := va_free hD hS hA isC hC
  refine va_calll hr hS (fun q _ h => hF q h) hF (fun z u t H1 locs1 ht hvm hw hB hz1 hk1 hS1 => ?_)
  obtain ⟨hP1, hD1⟩ := hB
  rw [ht] at hP1
  obtain ⟨h1, h2⟩ := va_join hP hD isC isR hC hR hn hdis hk1 hF hP1 hD1
  rw [hw]
  exact kk u H1 locs1 (h1.to (e2 u)) (h2.to (e2 u)) hS1
theorem k_d {mc ms : Nat} {av : Array Value} {w1 : (Nat → Nat) → va_W} {r : UInt64} (hr : va_Run p l e R s m args below meth c H locs cells slots mc ms (F0 m pc ls st) rest (CQd r D w1 (va_A wc H.size) av) (va_A wc H.size)) (hP : va_P D cl wl H) (hD : va_D A wl) (hS : va_S A s.heap H locs) (hA : ∀ q, s.heap.size ≤ q → A q) (isC isR : List Nat) (hC : isC.map (fun i => wl[i]?) = wc.map some) (hR : isR.map (fun i => wl[i]?) = wr.map some) (hn : va_nd isR = true) (hdis : ∀ i ∈ isR, i ∉ isC)
    {w2 : (Nat → Nat) → va_W} (e2 : ∀ u, wr ++ w1 u = w2 u) (kk : ∀ (u : Nat → Nat) (H1 : Heap) (locs1 : List Loc), va_P D cl (w2 u) H1 → va_D A (w2 u) → va_S A s.heap H1 locs1 → W p l e R s m args below meth c H1 locs1 (cells + mc) (slots + ms) Q (F0 m (pc + 3) ls (.double r :: rest))) : W p l e R s m args below meth c H locs cells slots Q (F0 m pc ls st) := by
  have hF := va_free hD hS hA isC hC
  refine va_calld hr hS (fun q _ h => hF q h) hF (fun z u t H1 locs1 ht hvm hw hB hz1 hk1 hS1 => ?_)
  obtain ⟨hP1, hD1⟩ := hB
  rw [ht] at hP1
  obtain ⟨h1, h2⟩ := va_join hP hD isC isR hC hR hn hdis hk1 hF hP1 hD1
  rw [hw]
  exact kk u H1 locs1 (h1.to (e2 u)) (h2.to (e2 u)) hS1
theorem k_q {mc ms : Nat} {av : Array Value} {w1 : (Nat → Nat) → va_W} {r : (Nat → Nat) → Option Nat} (hr : va_Run p l e R s m args below meth c H locs cells slots mc ms (F0 m pc ls st) rest (CQq r D w1 (va_A wc H.size) av) (va_A wc H.size)) (hP : va_P D cl wl H) (hD : va_D A wl) (hS : va_S A s.heap H locs) (hA : ∀ q, s.heap.size ≤ q → A q) (isC isR : List Nat) (hC : isC.map (fun i => wl[i]?) = wc.map some) (hR : isR.map (fun i => wl[i]?) = wr.map some) (hn : va_nd isR = true) (hdis : ∀ i ∈ isR, i ∉ isC)
    {w2 : (Nat → Nat) → va_W} (e2 : ∀ u, wr ++ w1 u = w2 u) (kk : ∀ (u : Nat → Nat) (H1 : Heap) (locs1 : List Loc), va_P D cl (w2 u) H1 → va_D A (w2 u) → va_S A s.heap H1 locs1 → W p l e R s m args below meth c H1 locs1 (cells + mc) (slots + ms) Q (F0 m (pc + 3) ls (va_rf (r u) :: rest))) : W p l e R s m args below meth c H locs cells slots Q (F0 m pc ls st) := by
  have hF := va_free hD hS hA isC hC
  refine va_callq hr hS (fun q _ h => hF q h) hF (fun z u t H1 locs1 ht hvm hw hB hz1 hk1 hS1 => ?_)
  obtain ⟨hP1, hD1⟩ := hB
  rw [ht] at hP1
  obtain ⟨h1, h2⟩ := va_join hP hD isC isR hC hR hn hdis hk1 hF hP1 hD1
  rw [hw]
  exact kk u H1 locs1 (h1.to (e2 u)) (h2.to (e2 u)) hS1
end CALLS
end ROWS
/-! arrays, throws, calls that throw -/
section ROWS2
variable {p : Program} {l : Launch} {e : Env} {R : Room} {s : State} {m : MethodId} {args : Array Value} {below : List Frame} {meth : Method} {c : Code} {H : Heap} {locs : List Loc} {cells slots : Nat} {Q : State → Prop}
variable {G : Nat → Nat} {D : va_G} {K : Nat → ClassId} {wl wc wr ws' : va_W} {A : Nat → Prop} {cc : ByteArray} {pc : Nat} {ls : Array Slot} {rest st : List Value} {a : Nat}
theorem r_alen (hx : p.tables.exec = Jvm.exec) (hb : c.code = cc) (hK : va_K D cl (tys K) s) (hP : va_P D cl wl H) (q0 t0 : Nat) {cA : ClassId} {x : vp_A} (ha : wl[q0]? = some (a, .inl (cA, x))) {ty : FieldType} (ht : (tys K)[t0]? = some (cA, ty)) {n : Nat} (hn : x.1 = n) (hdg : decode cc pc = .ok (.arraylength, 1))
    (kk : W p l e R s m args below meth c H locs cells slots Q (F0 m (pc + 1) ls (.int (nI n) :: rest))) : W p l e R s m args below meth c H locs cells slots Q (F0 m pc ls (.ref a :: rest)) :=
  va_alen hx hb hK hP q0 t0 ha ht (by rw [hn]; rfl) hdg kk
theorem r_iald (hx : p.tables.exec = Jvm.exec) (hb : c.code = cc) (hK : va_K D cl (tys K) s) (hP : va_P D cl wl H) (q0 t0 : Nat) {cA : ClassId} {N k : Nat} {f : Nat → Int32} (ha : wl[q0]? = some (a, .inl (cA, N, .inl f))) (ht : (tys K)[t0]? = some (cA, .int)) (hk : k < N) (hN : N < 2 ^ 31) {v : Int32} (hv : f k = v) (hdg : decode cc pc = .ok (.iaload, 1))
    (kk : W p l e R s m args below meth c H locs cells slots Q (F0 m (pc + 1) ls (.int v :: rest))) : W p l e R s m args below meth c H locs cells slots Q (F0 m pc ls (.int (nI k) :: .ref a :: rest)) := by
  refine va_iald hx hb hK hP q0 t0 ha ht (vp_in_nI hk hN) hdg ?_
  rw [nI_clamp (Nat.lt_trans hk hN), hv]; exact kk
theorem r_zald (hx : p.tables.exec = Jvm.exec) (hb : c.code = cc) (hK : va_K D cl (tys K) s) (hP : va_P D cl wl H) (q0 t0 : Nat) {cA : ClassId} {N k : Nat} {f : Nat → Int32} (ha : wl[q0]? = some (a, .inl (cA, N, .inl f))) (ht : (tys K)[t0]? = some (cA, .boolean)) (hk : k < N) (hN : N < 2 ^ 31) {v : Int32} (hv : f k = v) (hdg : decode cc pc = .ok (.baload, 1))
    (kk : W p l e R s m args below meth c H locs cells slots Q (F0 m (pc + 1) ls (.int v :: rest))) : W p l e R s m args below meth c H locs cells slots Q (F0 m pc ls (.int (nI k) :: .ref a :: rest)) := by
  refine va_zald hx hb hK hP q0 t0 ha ht (vp_in_nI hk hN) hdg ?_
  rw [nI_clamp (Nat.lt_trans hk hN), hv]; exact kk
theorem r_aald (hx : p.tables.exec = Jvm.exec) (hb : c.code = cc) (hK : va_K D cl (tys K) s) (hP : va_P D cl wl H) (q0 t0 : Nat) {cA : ClassId} {C : String} {N k : Nat} {f : Nat → Option Nat} (ha : wl[q0]? = some (a, .inl (cA, N, .inr (.inr (.inr (.inr f)))))) (ht : (tys K)[t0]? = some (cA, .object C)) (hk : k < N) (hN : N < 2 ^ 31) {v : Value} (hv : va_rf (f k) = v) (hdg : decode cc pc = .ok (.aaload, 1))
    (kk : W p l e R s m args below meth c H locs cells slots Q (F0 m (pc + 1) ls (v :: rest))) : W p l e R s m args below meth c H locs cells slots Q (F0 m pc ls (.int (nI k) :: .ref a :: rest)) := by
  refine va_aldq hx hb hK hP q0 t0 ha ht (vp_in_nI hk hN) hdg ?_
  rw [nI_clamp (Nat.lt_trans hk hN), hv]; exact kk
theorem r_iast (hx : p.tables.exec = Jvm.exec) (hb : c.code = cc) (hK : va_K D cl (tys K) s) (hP : va_P D cl wl H) (hD : va_D A wl) (hS : va_S A s.heap H locs) (q0 t0 : Nat) {cA : ClassId} {N k : Nat} {f : Nat → Int32} (ha : wl[q0]? = some (a, .inl (cA, N, .inl f))) (ht : (tys K)[t0]? = some (cA, .int)) (hk : k < N) (hN : N < 2 ^ 31) {v : Int32} (hdg : decode cc pc = .ok (.iastore, 1)) (e1 : wl.set q0 (a, .inl (cA, N, .inl (upd f k v))) = ws')
    (kk : ∀ (H1 : Heap) (locs1 : List Loc), va_P D cl ws' H1 → va_D A ws' → va_S A s.heap H1 locs1 → W p l e R s m args below meth c H1 locs1 cells slots Q (F0 m (pc + 1) ls rest)) : W p l e R s m args below meth c H locs cells slots Q (F0 m pc ls (.int v :: .int (nI k) :: .ref a :: rest)) := by
  subst e1
  refine va_iast hx hb hK hP hD hS q0 t0 ha ht (vp_in_nI hk hN) hdg ?_
  rw [nI_clamp (Nat.lt_trans hk hN)]; exact kk
theorem r_zast (hx : p.tables.exec = Jvm.exec) (hb : c.code = cc) (hK : va_K D cl (tys K) s) (hP : va_P D cl wl H) (hD : va_D A wl) (hS : va_S A s.heap H locs) (q0 t0 : Nat) {cA : ClassId} {N k : Nat} {f : Nat → Int32} (ha : wl[q0]? = some (a, .inl (cA, N, .inl f))) (ht : (tys K)[t0]? = some (cA, .boolean)) (hk : k < N) (hN : N < 2 ^ 31) {v : Int32} (hv : v = nI 0 ∨ v = nI 1) (hdg : decode cc pc = .ok (.bastore, 1)) (e1 : wl.set q0 (a, .inl (cA, N, .inl (upd f k v))) = ws')
    (kk : ∀ (H1 : Heap) (locs1 : List Loc), va_P D cl ws' H1 → va_D A ws' → va_S A s.heap H1 locs1 → W p l e R s m args below meth c H1 locs1 cells slots Q (F0 m (pc + 1) ls rest)) : W p l e R s m args below meth c H locs cells slots Q (F0 m pc ls (.int v :: .int (nI k) :: .ref a :: rest)) := by
  subst e1
  refine va_zast hx hb hK hP hD hS q0 t0 ha ht (vp_in_nI hk hN) hdg ?_
  have h9 : vp_nar .boolean v = v := Value.int.inj (nar_01 hv)
  rw [nI_clamp (Nat.lt_trans hk hN), h9]; exact kk
theorem r_aastN (hx : p.tables.exec = Jvm.exec) (hb : c.code = cc) (hK : va_K D cl (tys K) s) (hP : va_P D cl wl H) (hD : va_D A wl) (hS : va_S A s.heap H locs) (q0 t0 : Nat) {cA : ClassId} {C : String} {N k : Nat} {f : Nat → Option Nat} (ha : wl[q0]? = some (a, .inl (cA, N, .inr (.inr (.inr (.inr f)))))) (ht : (tys K)[t0]? = some (cA, .object C)) (hk : k < N) (hN : N < 2 ^ 31) (hdg : decode cc pc = .ok (.aastore, 1)) (e1 : wl.set q0 (a, .inl (cA, N, .inr (.inr (.inr (.inr (va_up f k none)))))) = ws')
    (kk : ∀ (H1 : Heap) (locs1 : List Loc), va_P D cl ws' H1 → va_D A ws' → va_S A s.heap H1 locs1 → W p l e R s m args below meth c H1 locs1 cells slots Q (F0 m (pc + 1) ls rest)) : W p l e R s m args below meth c H locs cells slots Q (F0 m pc ls (.null :: .int (nI k) :: .ref a :: rest)) := by
  subst e1
  refine va_astqN hx hb hK hP hD hS q0 t0 ha ht (vp_in_nI hk hN) hdg ?_
  rw [nI_clamp (Nat.lt_trans hk hN)]; exact kk
/-- any thing that may stand in such an array -/
theorem r_aast (hx : p.tables.exec = Jvm.exec) (hb : c.code = cc) (hK : va_K D cl (tys K) s) (hP : va_P D cl wl H) (hD : va_D A wl) (hS : va_S A s.heap H locs) (q0 t0 : Nat) {cA : ClassId} {C : String} {N k v : Nat} {f : Nat → Option Nat} (ha : wl[q0]? = some (a, .inl (cA, N, .inr (.inr (.inr (.inr f)))))) (ht : (tys K)[t0]? = some (cA, .object C)) (hr : va_Any C s H v) (hk : k < N) (hN : N < 2 ^ 31) (hdg : decode cc pc = .ok (.aastore, 1)) (e1 : wl.set q0 (a, .inl (cA, N, .inr (.inr (.inr (.inr (va_up f k (some v))))))) = ws')
    (kk : ∀ (H1 : Heap) (locs1 : List Loc), va_P D cl ws' H1 → va_D A ws' → va_S A s.heap H1 locs1 → W p l e R s m args below meth c H1 locs1 cells slots Q (F0 m (pc + 1) ls rest)) : W p l e R s m args below meth c H locs cells slots Q (F0 m pc ls (.ref v :: .int (nI k) :: .ref a :: rest)) := by
  subst e1
  refine va_astqM hx hb hK hP hD hS q0 t0 ha ht hr (vp_in_nI hk hN) hdg ?_
  rw [nI_clamp (Nat.lt_trans hk hN)]; exact kk
theorem any_S (hK : va_K D cl (tys K) s) (hP : va_P D cl wl H) (q0 : Nat) {ci : Nat} {fs : List Value} {q : vw_C} {C : String} (he : wl[q0]? = some (a, .inr (ci, fs))) (hc : cl[ci]? = some q) (hq : q.1 = C) : va_Any C s H a := by
  subst hq
  exact va_rAny hK hP he hc (fun comp c0 h1 h2 => vb_asgS comp c0 h1 h2)
theorem any_C (hm : Amb G A s s.heap) (hK : va_K D cl (tys K) s) (hP : va_P D cl wl H) (q0 : Nat) {ci : Nat} {fs : List Value} {q : vw_C} {C E : String} (he : wl[q0]? = some (a, .inr (ci, fs))) (hc : cl[ci]? = some q) (hq : q.1 = C) (hw : Cond.castable C E ∈ lw_aw) : va_Any E s H a := by
  subst hq
  exact va_rAny hK hP he hc (fun comp c0 h1 h2 => vb_asgC (hm.1 _ hw) comp c0 h1 h2)
theorem hat_of {L : List Cond} (ps : List Nat) (h1 : L = ps.filterMap (fun i => lw_tbl[i]?)) (h2 : L.all (fun w => goodWord w || ambWord w) = true) : ∀ w ∈ L, w ∈ lw_gw ∨ w ∈ lw_aw := fun w hw => by
  have h3 := List.all_eq_true.mp h2 w hw
  have h4 : w ∈ lw_tbl := by
    rw [h1] at hw
    obtain ⟨i, -, hi⟩ := List.mem_filterMap.mp hw
    exact List.mem_of_getElem? hi
  simp only [Bool.or_eq_true] at h3
  exact h3.elim (fun h => Or.inl (gw_of h4 h)) (fun h => Or.inr (aw_of h4 h))
theorem amb_bef (hts : ∀ w ∈ lw_gw, w.before args s = true) (hm : Amb G A s s.heap) {w : Cond} (h : w ∈ lw_gw ∨ w ∈ lw_aw) : w.before args s = true :=
  h.elim (hts w) (fun h => (hm.1 w h).use (aw_onT (List.mem_filter.mp h).2))
theorem amb_ot {w : Cond} (h : w ∈ lw_gw ∨ w ∈ lw_aw) : vx_ot w = true := by
  unfold vx_ot
  rcases h with h | h
  · rw [(List.mem_filter.mp h).2, Bool.or_true]
  · rw [aw_onT (List.mem_filter.mp h).2, Bool.true_or]
theorem x_throw (hx : p.tables.exec = Jvm.exec) (hb : c.code = cc) (hl0 : l.stackTraces = false) {own cls text : String} {names : List String} {ik is ic mc ms nL : Nat} (htab : ∀ x ∈ c.exceptionTable.toList, False) (hml : c.maxLocals = nL) (hown : s.vm.findClass own = some m.cls) (hts : ∀ w ∈ lw_gw, w.before args s = true) (hlk : meth.locks = false) (hS : va_S A s.heap H locs) (hm : Amb G A s s.heap) (hls : ls.size = nL) (hcls : Bundle.fit cls = true) (hnames : ∀ n ∈ names, Bundle.fit n = true) (hk : Cond.classLink own ik cls ∈ lw_gw) (hini : Cond.initialized cls ∈ lw_gw) (hstr : (own, is, text) ∈ lw_strs) (hat : ∀ w ∈ vx_atS own ic cls names, w ∈ lw_gw ∨ w ∈ lw_aw)
    (d0 : decode cc pc = .ok (.new ik, 3)) (d3 : decode cc (pc + 3) = .ok (.dup, 1)) (d4 : decode cc (pc + 4) = .ok (.ldc is, 2)) (d6 : decode cc (pc + 6) = .ok (.invokespecial ic, 3)) (d9 : decode cc (pc + 9) = .ok (.athrow, 1)) (hf : names.length + 3 < R.frames) (hlo : (rest.map fun v => v.category).sum + (13 * (names.length + 1) + 43) ≤ R.locals) (hc : cells + 1 ≤ R.cells) (hs : slots + 6 ≤ R.slots) (h1 : cells + 1 ≤ mc) (h2 : slots + 6 ≤ ms) :
    W p l e R s m args below meth c H locs cells slots (vx_MQ below (CQ0 A) (CX cls A) args s mc ms A) (F0 m pc ls rest) := by
  obtain ⟨sa, hsa⟩ := hm.2.1 _ hstr
  refine vx_throwS hx hb hl0 hown hcls hnames (hts _ hk) (hts _ hini) hsa (fun w hw => amb_bef hts hm (hat w hw)) ?_ hm.2.2.2.1 hm.2.2.2.2 hS (by rw [hml]; exact hls) d0 d3 d4 d6 d9 (fun x hx9 => (htab x hx9).elim) hf hlo hc hs hlk ?_ hS.2.2 h1 h2
  · intro w hw
    rcases List.mem_cons.mp hw with rfl | hw
    · rfl
    rcases List.mem_cons.mp hw with rfl | hw
    · rfl
    exact amb_ot (hat w hw)
  · intro t _ hz hq
    exact ⟨(), trivial, rfl, Nat.le_trans hS.1 hz, fun q h3 h4 => (hq q (Nat.lt_of_lt_of_le h3 hS.1)).trans (hS.2.1 q h3 h4)⟩
theorem x_throwW (hx : p.tables.exec = Jvm.exec) (hb : c.code = cc) (hl0 : l.stackTraces = false) {own cls text : String} {names : List String} {ik is ic mc ms nL : Nat} (htab : ∀ x ∈ c.exceptionTable.toList, False) (hml : c.maxLocals = nL) (hown : s.vm.findClass own = some m.cls) (hts : ∀ w ∈ lw_gw, w.before args s = true) (hlk : meth.locks = false) (hS : va_S A s.heap H locs) (hm : Amb G A s s.heap) (hls : ls.size = nL) (hcls : Bundle.fit cls = true) (hnames : ∀ n ∈ names, Bundle.fit n = true) (hk : Cond.classLink own ik cls ∈ lw_gw) (hini : Cond.initialized cls ∈ lw_gw) (hstr : (own, is, text) ∈ lw_strs) (hat : ∀ w ∈ vx_atS own ic cls names, w ∈ lw_gw ∨ w ∈ lw_aw)
    (d0 : decode cc pc = .ok (.new ik, 3)) (d3 : decode cc (pc + 3) = .ok (.dup, 1)) (d4 : decode cc (pc + 4) = .ok (.ldc_w is, 3)) (d7 : decode cc (pc + 7) = .ok (.invokespecial ic, 3)) (d10 : decode cc (pc + 10) = .ok (.athrow, 1)) (hf : names.length + 3 < R.frames) (hlo : (rest.map fun v => v.category).sum + (13 * (names.length + 1) + 43) ≤ R.locals) (hc : cells + 1 ≤ R.cells) (hs : slots + 6 ≤ R.slots) (h1 : cells + 1 ≤ mc) (h2 : slots + 6 ≤ ms) :
    W p l e R s m args below meth c H locs cells slots (vx_MQ below (CQ0 A) (CX cls A) args s mc ms A) (F0 m pc ls rest) := by
  obtain ⟨sa, hsa⟩ := hm.2.1 _ hstr
  refine vx_throwSW hx hb hl0 hown hcls hnames (hts _ hk) (hts _ hini) hsa (fun w hw => amb_bef hts hm (hat w hw)) ?_ hm.2.2.2.1 hm.2.2.2.2 hS (by rw [hml]; exact hls) d0 d3 d4 d7 d10 (fun x hx9 => (htab x hx9).elim) hf hlo hc hs hlk ?_ hS.2.2 h1 h2
  · intro w hw
    rcases List.mem_cons.mp hw with rfl | hw
    · rfl
    rcases List.mem_cons.mp hw with rfl | hw
    · rfl
    exact amb_ot (hat w hw)
  · intro t _ hz hq
    exact ⟨(), trivial, rfl, Nat.le_trans hS.1 hz, fun q h3 h4 => (hq q (Nat.lt_of_lt_of_le h3 hS.1)).trans (hS.2.1 q h3 h4)⟩
section XCALLS
variable {y : MethodName} {bytes : ByteArray} {maxL nL index n : Nat} {ret : Option FieldType} {rm : Room} {own cls : String} {b : Nat} {As : List Value}
theorem xun_V (hx : p.tables.exec = Jvm.exec) (hb : c.code = cc) (hml : c.maxLocals = nL) (hown : s.vm.findClass own = some m.cls) (hts : ∀ w ∈ lw_gw, w.before args s = true) (hK : va_K D cl (tys K) s) (hP : va_P D cl wl H) (hD : va_D A wl) (hS : va_S A s.heap H locs) (hA : ∀ q, s.heap.size ≤ q → A q) (hm : Amb G A s s.heap)
    (hM : CMX l y bytes maxL ret rm G D K (.ref b :: As) wc H.size cls) (isC : List Nat) (hC : isC.map (fun i => wl[i]?) = wc.map some) (hn : va_nd isC = true) (ok : MOK y bytes maxL ret n) (h1 : Cond.methodLink own index y ∈ lw_gw) (h2 : Cond.instanceMethod y ∈ lw_gw) (h3 : Cond.selects y.cls y y ∈ lw_gw) (hrc : ∃ cell : Cell, H[b]? = some cell ∧ cell.vm.isStatics = false ∧ s.vm.findClass y.cls = some cell.cls)
    (hR : rm.frames + 1 ≤ R.frames ∧ 8 + (maxL + 11) + rm.locals ≤ R.locals) (hlen : As.length = n) (hls : ls.size = nL) (hst : st = As.reverse ++ .ref b :: rest) (hW : (rest.map fun v => v.category).sum ≤ 8) (hdg : decode cc pc = .ok (.invokevirtual index, 3)) (hf : cells + rm.cells ≤ R.cells ∧ slots + rm.slots ≤ R.slots) :
    vx_Run p l e R s m args below meth c H locs cells slots rm.cells rm.slots (F0 m pc ls st) rest (CQ0 (va_A wc H.size) (Value.ref b :: As).toArray) (CX cls (va_A wc H.size)) (va_A wc H.size) :=
  vx_runV (Ts := lw_gw) ⟨hx, hb, hml, hown, hts⟩ hM (cwV n hts (gi_app (fun _ h => h) (ms_c h1 (ms_c h2 (ms_c h3 (ms_c ok.2.1 ms_0)))) ok.1) rfl rfl rfl ⟨rfl, ok.2.2⟩ hR) ⟨cPre.blind, hrc, fun U hU hWu => ⟨rfl, cPre.of hK hP hD hS hA hm isC hC hn hU hWu⟩⟩ rfl hlen hls hst (lv_room hW) hdg hf
theorem xun_S (hx : p.tables.exec = Jvm.exec) (hb : c.code = cc) (hml : c.maxLocals = nL) (hown : s.vm.findClass own = some m.cls) (hts : ∀ w ∈ lw_gw, w.before args s = true) (hK : va_K D cl (tys K) s) (hP : va_P D cl wl H) (hD : va_D A wl) (hS : va_S A s.heap H locs) (hA : ∀ q, s.heap.size ≤ q → A q) (hm : Amb G A s s.heap)
    (hM : CMX l y bytes maxL ret rm G D K As wc H.size cls) (isC : List Nat) (hC : isC.map (fun i => wl[i]?) = wc.map some) (hn : va_nd isC = true) (ok : MOK y bytes maxL ret n) (h1 : Cond.methodLink own index y ∈ lw_gw) (h2 : Cond.static y ∈ lw_gw)
    (hR : rm.frames + 1 ≤ R.frames ∧ 8 + (maxL + 11) + rm.locals ≤ R.locals) (hlen : As.length = n) (hls : ls.size = nL) (hst : st = As.reverse ++ rest) (hW : (rest.map fun v => v.category).sum ≤ 8) (hdg : decode cc pc = .ok (.invokestatic index, 3)) (hf : cells + rm.cells ≤ R.cells ∧ slots + rm.slots ≤ R.slots) :
    vx_Run p l e R s m args below meth c H locs cells slots rm.cells rm.slots (F0 m pc ls st) rest (CQ0 (va_A wc H.size) As.toArray) (CX cls (va_A wc H.size)) (va_A wc H.size) :=
  vx_runS (Ts := lw_gw) ⟨hx, hb, hml, hown, hts⟩ hM (va_cwS n hts (gi_app (fun _ h => h) (ms_c h1 (ms_c h2 (ms_c ok.2.1 ms_0))) ok.1) rfl rfl rfl ok.2.2 hR) ⟨cPre.blind, fun U hU hWu => ⟨rfl, cPre.of hK hP hD hS hA hm isC hC hn hU hWu⟩⟩ rfl hlen hls hst (lv_room hW) hdg hf
/-- a callee throws, and nothing here catches it -/
theorem k_x {mc ms MC MS : Nat} {av : Array Value} (hr : vx_Run p l e R s m args below meth c H locs cells slots mc ms (F0 m pc ls st) rest (CQ0 (va_A wc H.size) av) (CX cls (va_A wc H.size)) (va_A wc H.size)) (htab : ∀ x ∈ c.exceptionTable.toList, False) (hlk : meth.locks = false) (hD : va_D A wl) (hS : va_S A s.heap H locs) (hA : ∀ q, s.heap.size ≤ q → A q) (isC : List Nat) (hC : isC.map (fun i => wl[i]?) = wc.map some) (h1 : cells + mc ≤ MC) (h2 : slots + ms ≤ MS) :
    W p l e R s m args below meth c H locs cells slots (vx_MQ below (CQ0 A) (CX cls A) args s MC MS A) (F0 m pc ls st) := by
  have hF := va_free hD hS hA isC hC
  refine vx_callv hr hS (fun q _ h => hF q h) hF (fun q _ h => hF q h) (fun E ce q9 u t H1 locs1 ht hvm hw hB hz1 hk1 hS1 hce hcv hcl => ?_) (fun u t H1 locs1 ht hvm hw hB hz1 hk1 hS1 => hw.elim)
  subst hB
  exact vx_out (fun x hx9 => (htab x hx9).elim) hlk hce hcv hcl (fun t2 ht2 _ => ⟨(), trivial, rfl, hS1.F ht2⟩) hS1.2.2 h1 h2
end XCALLS
end ROWS2
