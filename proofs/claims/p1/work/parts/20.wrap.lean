/-! methods with a table of handlers: called, and catching -/
def Ncs (U : State) : Prop := va_Nc "java/lang/IllegalStateException" "java/lang/IndexOutOfBoundsException" U ∧ va_Nc "java/lang/IllegalStateException" "java/lang/IllegalArgumentException" U ∧ va_Nc "java/lang/IllegalArgumentException" "java/lang/IndexOutOfBoundsException" U
theorem Ncs.moved {u U : State} (hv : u.vm.Alike U.vm) (h : Ncs u) : Ncs U := ⟨h.1.moved hv, h.2.1.moved hv, h.2.2.moved hv⟩
def cPreN (G : Nat → Nat) (D : va_G) (K : Nat → ClassId) (wc : va_W) (sz : Nat) (U : State) : Prop := cPre G D K wc sz U ∧ Ncs U
theorem cPreN.blind {av : List Value} {G : Nat → Nat} {D : va_G} {K : Nat → ClassId} {wc : va_W} {sz : Nat} : FrameBlind (va_Pc av (cPreN G D K wc sz)) := fun a U g mk q => by
  obtain ⟨q0, q1, q2⟩ := q
  exact ⟨q0, (cPre.blind a U g mk ⟨q0, q1⟩).2, Ncs.moved (u := U) (U := U.calling g mk a) (Vm.Alike.refl U.vm) q2⟩
def MOKH (y : MethodName) (bytes : ByteArray) (maxL : Nat) (ret : Option FieldType) (hh : List (Nat × Nat × Nat × Nat)) (n : Nat) : Prop := Cond.codeWith y bytes maxL ret hh ∈ lw_gw ∧ Cond.initialized y.cls ∈ lw_gw ∧ (y.cls ≠ "java/lang/invoke/MethodHandle" ∧ y.cls ≠ "java/lang/invoke/VarHandle" ∧ (parseMethodDescriptor y.desc).map (fun d => d.parameters.length) = some n)
abbrev CMH (l : Launch) (y : MethodName) (bytes : ByteArray) (maxL : Nat) (ret : Option FieldType) (hh : List (Nat × Nat × Nat × Nat)) (rm : Room) (G : Nat → Nat) (D : va_G) (K : Nat → ClassId) (av : List Value) (wc : va_W) (sz : Nat) (Q : (Nat → Prop) → QSpec) : Prop :=
  Met l y (.codeWith y bytes maxL ret hh :: lw_gw) rm (va_Pc av (cPreN G D K wc sz)) (Q (va_A wc sz)) rm.cells rm.slots (va_A wc sz)
theorem Met_ofWH {l : Launch} {y : MethodName} {ws ws' : List Cond} {rm : Room} {Pc : Array Value → State → Prop} {Qc : Array Value → State → Outcome → State → Prop} {mc ms : Nat} {free : Addr → Prop} {cc : ByteArray} {maxL : Nat} {ret : Option FieldType} {hh : List (Nat × Nat × Nat × Nat)}
    (hy : plainName y.cls = true) (hw : ws = Cond.codeWith y cc maxL ret hh :: ws')
    (body : ∀ p e s m args below meth c s₁, BodyLoose p l y (headSpec ws rm) cc maxL ret e s m args below meth c s₁ → c.maxLocals = maxL → Pc args s →
      W p l e (headSpec ws rm).room s m args below meth c s.heap [] 0 0 (MQ below Qc args s mc ms free) (entryFrame m args maxL)) : Met l y ws rm Pc Qc mc ms free := by
  refine MetFree.of_bodyS (code := cc) (maxLocals := maxL) (ret := ret) hy ?_ ?_
  · intro args s m h hn
    obtain ⟨m9, meth, c, hn9, h1, h2, h3, h4, -, h5, h6, -⟩ := Cond.codeWith_spec (atoms_spec (ws := ws) h _ (by rw [hw]; exact List.mem_cons_self))
    cases hn.symm.trans hn9
    exact ⟨meth, c, h1, h2, h3, h4, h5, h6⟩
  · intro p e s m args below meth c s₁ B hml hP _
    have hh0 : s₁.heap = s.heap := by rw [B.state]; rfl
    obtain ⟨t, a1, o, b1, b2, b3⟩ := body p e s m args below meth c s₁ B hml hP s₁ hh0 (Stand.of_body B)
    exact ⟨t, o, a1, b1, b2, ⟨b3.1, b3.2⟩⟩
theorem CMH_of {l : Launch} {y : MethodName} {bytes : ByteArray} {maxL : Nat} {ret : Option FieldType} {hh : List (Nat × Nat × Nat × Nat)} {rm : Room} {G : Nat → Nat} {D : va_G} {K : Nat → ClassId} {av : List Value} {wc : va_W} {sz : Nat} {Q : (Nat → Prop) → QSpec} {lv0 : List (Nat × Value)} (hy : plainName y.cls = true) (hlen : (lg_sl av).length ≤ maxL) (hlv : lv_args 0 av = lv0)
    (body : ∀ (p : Program) (e : Env) (s : State) (m : MethodId) (args : Array Value) (below : List Frame) (meth : Method) (c : Code) (A : Nat → Prop) (ls : Array Slot), p.tables.exec = Jvm.exec → c.code = bytes → meth.sig.returnType = ret → c.exceptionTable.toList = tableOf hh → Ncs s → c.maxLocals = maxL → s.vm.findClass y.cls = some m.cls → (∀ w ∈ lw_gw, w.before args s = true) → meth.locks = false → meth.name = y.name →
      va_P D cl wc s.heap → va_K D cl (tys K) s → va_D A wc → va_S A s.heap s.heap [] → (∀ q : Nat, s.heap.size ≤ q → A q) → Amb G A s s.heap → lv_has ls maxL lv0 → W p l e rm s m args below meth c s.heap [] 0 0 (MQ below (Q A) args s rm.cells rm.slots A) (F0 m 0 ls [])) : CMH l y bytes maxL ret hh rm G D K av wc sz Q := by
  refine Met_ofWH (cc := bytes) (maxL := maxL) (ret := ret) (hh := hh) hy rfl ?_
  intro p e s m args below meth c s₁ B hml hv
  obtain ⟨rfl, ⟨hsz, hP, hK, hD0, hm⟩, hnc⟩ := hv
  have hts := atoms_spec (ws := .codeWith y bytes maxL ret hh :: lw_gw) B.pre
  have htab := vx_table (x := y) B (hts _ List.mem_cons_self)
  subst hsz
  have hl := lv_entry av (n := maxL) hlen
  rw [hlv] at hl
  rw [lg_entry_eq]
  exact body p e s m _ below meth c _ _ B.exec B.bytes B.returns htab hnc hml (findClass_of_methodNamed B.named) (fun w hw => hts w (List.mem_cons_of_mem _ hw)) B.notSynchronized (name_of_methodNamed B.named B.method).1 hP hK hD0.self va_S.rf (fun q h => Or.inr h) hm hl
theorem hp_0 {P : ExceptionTableEntry → Prop} : ∀ z ∈ ([] : List ExceptionTableEntry), P z := fun _ h => nomatch h
theorem hp_c {P : ExceptionTableEntry → Prop} {a : ExceptionTableEntry} {l : List ExceptionTableEntry} (h : P a) (t : ∀ z ∈ l, P z) : ∀ z ∈ a :: l, P z := fun z hz => by
  rcases List.mem_cons.mp hz with rfl | hz
  · exact h
  · exact t z hz
section ROWS4
variable {p : Program} {l : Launch} {e : Env} {R : Room} {s : State} {m : MethodId} {args : Array Value} {below : List Frame} {meth : Method} {c : Code} {H : Heap} {locs : List Loc} {cells slots : Nat} {Q : State → Prop}
variable {G : Nat → Nat} {D : va_G} {K : Nat → ClassId} {wl wc wr ws' : va_W} {A : Nat → Prop} {cc : ByteArray} {pc : Nat} {ls : Array Slot} {rest st : List Value} {a : Nat}
variable {y : MethodName} {bytes : ByteArray} {maxL nL index n : Nat} {ret : Option FieldType} {rm : Room} {QQ : (Nat → Prop) → QSpec} {own cls : String} {b : Nat} {As : List Value}
theorem run_SW {hh : List (Nat × Nat × Nat × Nat)} (hnc : Ncs s) (hx : p.tables.exec = Jvm.exec) (hb : c.code = cc) (hml : c.maxLocals = nL) (hown : s.vm.findClass own = some m.cls) (hts : ∀ w ∈ lw_gw, w.before args s = true) (hK : va_K D cl (tys K) s) (hP : va_P D cl wl H) (hD : va_D A wl) (hS : va_S A s.heap H locs) (hA : ∀ q, s.heap.size ≤ q → A q) (hm : Amb G A s s.heap)
    (hM : CMH l y bytes maxL ret hh rm G D K As wc H.size QQ) (isC : List Nat) (hC : isC.map (fun i => wl[i]?) = wc.map some) (hn : va_nd isC = true) (ok : MOKH y bytes maxL ret hh n) (h1 : Cond.methodLink own index y ∈ lw_gw) (h2 : Cond.static y ∈ lw_gw)
    (hR : rm.frames + 1 ≤ R.frames ∧ 8 + (maxL + 11) + rm.locals ≤ R.locals) (hlen : As.length = n) (hls : ls.size = nL) (hst : st = As.reverse ++ rest) (hW : (rest.map fun v => v.category).sum ≤ 8) (hdg : decode cc pc = .ok (.invokestatic index, 3)) (hf : cells + rm.cells ≤ R.cells ∧ slots + rm.slots ≤ R.slots) :
    va_Run p l e R s m args below meth c H locs cells slots rm.cells rm.slots (F0 m pc ls st) rest (QQ (va_A wc H.size) As.toArray) (va_A wc H.size) :=
  vx_runSW (Ts := lw_gw) ⟨hx, hb, hml, hown, hts⟩ hM (vx_cwSW n hts (gi_app (fun _ h => h) (ms_c h1 (ms_c h2 (ms_c ok.2.1 ms_0))) ok.1) rfl rfl rfl ok.2.2 hR) ⟨cPreN.blind, fun U hU hWu => ⟨rfl, cPre.of hK hP hD hS hA hm isC hC hn hU hWu, hnc.moved hWu.alike⟩⟩ rfl hlen hls hst (lv_room hW) hdg hf
/-- a callee throws, and a row of this method's table takes it -/
theorem k_catch {mc ms : Nat} {av : Array Value} (pre : List ExceptionTableEntry) (x : ExceptionTableEntry) (suf : List ExceptionTableEntry) (hr : vx_Run p l e R s m args below meth c H locs cells slots mc ms (F0 m pc ls st) rest (CQ0 (va_A wc H.size) av) (CX cls (va_A wc H.size)) (va_A wc H.size)) (hown : s.vm.findClass own = some m.cls) (hts : ∀ w ∈ lw_gw, w.before args s = true) (hm : Amb G A s s.heap) (hP : va_P D cl wl H) (hD : va_D A wl) (hS : va_S A s.heap H locs) (hA : ∀ q, s.heap.size ≤ q → A q) (isC isR : List Nat) (hC : isC.map (fun i => wl[i]?) = wc.map some) (hR : isR.map (fun i => wl[i]?) = wr.map some) (hn : va_nd isR = true) (hdis : ∀ i ∈ isR, i ∉ isC)
    (hsplit : c.exceptionTable.toList = pre ++ x :: suf) (hpass : ∀ z ∈ pre, covers z pc = false ∨ (z.catchType ≠ 0 ∧ ∃ nm : String, (Cond.classLink own z.catchType nm).before args s = true ∧ va_Nc cls nm s)) (hx : covers x pc = true) (h0 : x.catchType ≠ 0) (hlink : Cond.classLink own x.catchType cls ∈ lw_gw) (hcast : Cond.castable cls cls ∈ lw_aw)
    (kk : ∀ (q : Nat) (H1 : Heap) (locs1 : List Loc), va_P D cl wr H1 → va_D A wr → va_S A s.heap H1 locs1 → W p l e R s m args below meth c H1 locs1 (cells + mc) (slots + ms) Q (F0 m x.handlerPc ls [.ref q])) : W p l e R s m args below meth c H locs cells slots Q (F0 m pc ls st) := by
  have hF := va_free hD hS hA isC hC
  refine vx_callv hr hS (fun q _ h => hF q h) hF (fun q _ h => hF q h) (fun E ce q9 u t H1 locs1 ht hvm hw hB hz1 hk1 hS1 hce hcv hcl => ?_) (fun u t H1 locs1 ht hvm hw hB hz1 hk1 hS1 => hw.elim)
  subst hB
  have e0 : va_D (va_A wc H.size) ([] : va_W) := ⟨fun i j p q h => by simp at h, fun k q h => by simp at h⟩
  have e1 : va_P D cl ([] : va_W) H1 := fun k q h => by simp at h
  obtain ⟨h1, h2⟩ := va_join hP hD isC isR hC hR hn hdis hk1 hF e1 e0
  rw [List.append_nil] at h1 h2
  exact vx_catch hown pre x suf hsplit hpass hx h0 (hts _ hlink) ((hm.1 _ hcast).use rfl) hce hcv hcl (kk q9 H1 locs1 h1 h2 hS1)
theorem r_last (hx : p.tables.exec = Jvm.exec) (hb : c.code = cc) (hK : va_K D cl (tys K) s) (hP : va_P D cl wl H) (hD : va_D A wl) (hS : va_S A s.heap H locs) (q0 t0 : Nat) {cA : ClassId} {N k : Nat} {f : Nat → Int64} (ha : wl[q0]? = some (a, .inl (cA, N, .inr (.inl f)))) (ht : (tys K)[t0]? = some (cA, .long)) (hk : k < N) (hN : N < 2 ^ 31) {v : Int64} (hdg : decode cc pc = .ok (.lastore, 1)) (e1 : wl.set q0 (a, .inl (cA, N, .inr (.inl (vp_updL f k v)))) = ws')
    (kk : ∀ (H1 : Heap) (locs1 : List Loc), va_P D cl ws' H1 → va_D A ws' → va_S A s.heap H1 locs1 → W p l e R s m args below meth c H1 locs1 cells slots Q (F0 m (pc + 1) ls rest)) : W p l e R s m args below meth c H locs cells slots Q (F0 m pc ls (.long v :: .int (nI k) :: .ref a :: rest)) := by
  subst e1
  refine va_last hx hb hK hP hD hS q0 t0 ha ht (vp_in_nI hk hN) hdg ?_
  rw [nI_clamp (Nat.lt_trans hk hN)]; exact kk
theorem r_lald (hx : p.tables.exec = Jvm.exec) (hb : c.code = cc) (hK : va_K D cl (tys K) s) (hP : va_P D cl wl H) (q0 t0 : Nat) {cA : ClassId} {N k : Nat} {f : Nat → Int64} (ha : wl[q0]? = some (a, .inl (cA, N, .inr (.inl f)))) (ht : (tys K)[t0]? = some (cA, .long)) (hk : k < N) (hN : N < 2 ^ 31) {v : Int64} (hv : f k = v) (hdg : decode cc pc = .ok (.laload, 1))
    (kk : W p l e R s m args below meth c H locs cells slots Q (F0 m (pc + 1) ls (.long v :: rest))) : W p l e R s m args below meth c H locs cells slots Q (F0 m pc ls (.int (nI k) :: .ref a :: rest)) := by
  refine va_lald hx hb hK hP q0 t0 ha ht (vp_in_nI hk hN) hdg ?_
  rw [nI_clamp (Nat.lt_trans hk hN), hv]; exact kk
end ROWS4
