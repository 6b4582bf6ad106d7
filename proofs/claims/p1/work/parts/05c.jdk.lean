/-! rows for what the reference takes of the JDK: calls by an interface, boxed ints of the cache, the empty list's array, copies -/
section ROWS3
variable {p : Program} {l : Launch} {e : Env} {R : Room} {s : State} {m : MethodId} {args : Array Value} {below : List Frame} {meth : Method} {c : Code} {H : Heap} {locs : List Loc} {cells slots : Nat} {Q : State → Prop}
variable {G : Nat → Nat} {D : va_G} {K : Nat → ClassId} {wl wc wr ws' : va_W} {A : Nat → Prop} {cc : ByteArray} {pc : Nat} {ls : Array Slot} {rest st : List Value} {a : Nat}
theorem rcvB (hm : Amb G A s s.heap) (hS : va_S A s.heap H locs) (k : Nat) (hk : k < 256) : ∃ cell : Cell, H[G (3 + k)]? = some cell ∧ cell.vm.isStatics = false ∧ s.vm.findClass "java/lang/Integer" = some cell.cls := by
  obtain ⟨cell, h1, h2, h3, -⟩ := (hm.2.2.2.2.2.1.2.2.2.1 k hk).kept hS.2.1
  exact ⟨cell, h1, h2, h3⟩
theorem rcvE (hm : Amb G A s s.heap) (hS : va_S A s.heap H locs) : ∃ cell : Cell, H[G 0]? = some cell ∧ cell.vm.isStatics = false ∧ s.vm.findClass "[Ljava/lang/Object;" = some cell.cls := by
  obtain ⟨cell, h1, h2, h3, -⟩ := hm.2.2.2.2.1.2.2.1.kept hS.2.1
  exact ⟨cell, h1, h2, h3⟩
theorem any_of (hm : Amb G A s s.heap) {C E : String} (h : ∃ cell : Cell, H[a]? = some cell ∧ cell.vm.isStatics = false ∧ s.vm.findClass C = some cell.cls) (hw : Cond.castable C E ∈ lw_aw) : va_Any E s H a := by
  obtain ⟨cell, h1, h2, h3⟩ := h
  obtain ⟨kC, hkC, -⟩ := Vm.findClass_spec h3
  exact ⟨cell, h1, h2, ⟨kC, hkC⟩, fun comp h => vb_asgC (hm.1 _ hw) comp _ h h3⟩
theorem rcvA (hK : va_K D cl (tys K) s) (hP : va_P D cl wl H) (q0 : Nat) {cA : ClassId} {x : vp_A} (he : wl[q0]? = some (a, .inl (cA, x))) {C : String} (hnm : s.vm.findClass C = some cA) : ∃ cell : Cell, H[a]? = some cell ∧ cell.vm.isStatics = false ∧ s.vm.findClass C = some cell.cls := by
  refine ⟨vp_cell cA x, hP q0 _ he, ?_, ?_⟩
  · obtain ⟨n, f | f | f | f | f⟩ := x <;> rfl
  · obtain ⟨n, f | f | f | f | f⟩ := x <;> exact hnm
theorem nm_int (hK : va_K D cl (tys K) s) : s.vm.findClass "[I" = some (K 2) := va_nm_int (hK.2 2 _ rfl).2
section CALLS5
variable {y x : MethodName} {bytes : ByteArray} {maxL nL index count n : Nat} {ret : Option FieldType} {rm : Room} {QQ : (Nat → Prop) → QSpec} {own C : String} {b : Nat} {As : List Value}
theorem run_F (hx : p.tables.exec = Jvm.exec) (hb : c.code = cc) (hml : c.maxLocals = nL) (hown : s.vm.findClass own = some m.cls) (hts : ∀ w ∈ lw_gw, w.before args s = true) (hK : va_K D cl (tys K) s) (hP : va_P D cl wl H) (hD : va_D A wl) (hS : va_S A s.heap H locs) (hA : ∀ q, s.heap.size ≤ q → A q) (hm : Amb G A s s.heap)
    (hM : CM l y bytes maxL ret rm G D K (.ref b :: As) wc H.size QQ) (isC : List Nat) (hC : isC.map (fun i => wl[i]?) = wc.map some) (hn : va_nd isC = true) (ok : MOK y bytes maxL ret n) (h1 : Cond.methodLink own index x ∈ lw_gw) (h3 : Cond.selects C x y ∈ lw_gw) (h2 : Cond.instanceMethod y ∈ lw_gw) (hF : va_Fw C x y s) (q0 : Nat) {ci : Nat} {fs : List Value} {q : vw_C} (he : wl[q0]? = some (b, .inr (ci, fs))) (hc : cl[ci]? = some q) (hq : q.1 = C) (hdx : x.cls ≠ "java/lang/invoke/MethodHandle" ∧ x.cls ≠ "java/lang/invoke/VarHandle" ∧ (parseMethodDescriptor x.desc).map (fun d => d.parameters.length) = some n)
    (hR : rm.frames + 1 ≤ R.frames ∧ 8 + (maxL + 11) + rm.locals ≤ R.locals) (hlen : As.length = n) (hls : ls.size = nL) (hst : st = As.reverse ++ .ref b :: rest) (hW : (rest.map fun v => v.category).sum ≤ 8) (hdg : decode cc pc = .ok (.invokeinterface index count, 5)) (hf : cells + rm.cells ≤ R.cells ∧ slots + rm.slots ≤ R.slots) :
    va_Run5 p l e R s m args below meth c H locs cells slots rm.cells rm.slots (F0 m pc ls st) rest (QQ (va_A wc H.size) (Value.ref b :: As).toArray) (va_A wc H.size) := by
  subst hq
  exact va_runF (Ts := lw_gw) (hK.1 ci _ hc).2 ⟨hx, hb, hml, hown, hts⟩ hM (va_cwF n hts (gi_app (fun _ h => h) (ms_c h1 (ms_c h3 (ms_c h2 (ms_c ok.2.1 ms_0)))) ok.1) rfl rfl rfl hF hdx hR) ⟨cPre.blind, va_recv hK hP hc he, fun U hU hWu => ⟨rfl, cPre.of hK hP hD hS hA hm isC hC hn hU hWu⟩⟩ rfl hlen hls hst (lv_room hW) hdg hf
theorem k5_i {mc ms : Nat} {av : Array Value} {w1 : (Nat → Nat) → va_W} {r : Int32} (hr : va_Run5 p l e R s m args below meth c H locs cells slots mc ms (F0 m pc ls st) rest (CQi r D w1 (va_A wc H.size) av) (va_A wc H.size)) (hP : va_P D cl wl H) (hD : va_D A wl) (hS : va_S A s.heap H locs) (hA : ∀ q, s.heap.size ≤ q → A q) (isC isR : List Nat) (hC : isC.map (fun i => wl[i]?) = wc.map some) (hR : isR.map (fun i => wl[i]?) = wr.map some) (hn : va_nd isR = true) (hdis : ∀ i ∈ isR, i ∉ isC)
    {w2 : (Nat → Nat) → va_W} (e2 : ∀ u, wr ++ w1 u = w2 u) (kk : ∀ (u : Nat → Nat) (H1 : Heap) (locs1 : List Loc), va_P D cl (w2 u) H1 → va_D A (w2 u) → va_S A s.heap H1 locs1 → W p l e R s m args below meth c H1 locs1 (cells + mc) (slots + ms) Q (F0 m (pc + 5) ls (.int r :: rest))) : W p l e R s m args below meth c H locs cells slots Q (F0 m pc ls st) := by
  have hF := va_free hD hS hA isC hC
  refine va_callFi hr hS (fun q _ h => hF q h) hF (fun z u t H1 locs1 ht hvm hw hB hz1 hk1 hS1 => ?_)
  obtain ⟨hP1, hD1⟩ := hB
  rw [ht] at hP1
  obtain ⟨h1, h2⟩ := va_join hP hD isC isR hC hR hn hdis hk1 hF hP1 hD1
  rw [hw]
  exact kk u H1 locs1 (h1.to (e2 u)) (h2.to (e2 u)) hS1
theorem k5_q {mc ms : Nat} {av : Array Value} {w1 : (Nat → Nat) → va_W} {r : (Nat → Nat) → Option Nat} (hr : va_Run5 p l e R s m args below meth c H locs cells slots mc ms (F0 m pc ls st) rest (CQq r D w1 (va_A wc H.size) av) (va_A wc H.size)) (hP : va_P D cl wl H) (hD : va_D A wl) (hS : va_S A s.heap H locs) (hA : ∀ q, s.heap.size ≤ q → A q) (isC isR : List Nat) (hC : isC.map (fun i => wl[i]?) = wc.map some) (hR : isR.map (fun i => wl[i]?) = wr.map some) (hn : va_nd isR = true) (hdis : ∀ i ∈ isR, i ∉ isC)
    {w2 : (Nat → Nat) → va_W} (e2 : ∀ u, wr ++ w1 u = w2 u) (kk : ∀ (u : Nat → Nat) (H1 : Heap) (locs1 : List Loc), va_P D cl (w2 u) H1 → va_D A (w2 u) → va_S A s.heap H1 locs1 → W p l e R s m args below meth c H1 locs1 (cells + mc) (slots + ms) Q (F0 m (pc + 5) ls (va_rf (r u) :: rest))) : W p l e R s m args below meth c H locs cells slots Q (F0 m pc ls st) := by
  have hF := va_free hD hS hA isC hC
  refine va_callFq hr hS (fun q _ h => hF q h) hF (fun z u t H1 locs1 ht hvm hw hB hz1 hk1 hS1 => ?_)
  obtain ⟨hP1, hD1⟩ := hB
  rw [ht] at hP1
  obtain ⟨h1, h2⟩ := va_join hP hD isC isR hC hR hn hdis hk1 hF hP1 hD1
  rw [hw]
  exact kk u H1 locs1 (h1.to (e2 u)) (h2.to (e2 u)) hS1
end CALLS5
theorem nfw : nativeFrameWords "java/lang/System" "arraycopy" 5 ≤ 60 := by decide
/-- a copy between arrays that hold the same everywhere -/
theorem r_copyc (hx : p.tables.exec = Jvm.exec) (hb : c.code = cc) (hml : c.maxLocals = ls.size) {own : String} {index : Nat} (hts : ∀ w ∈ lw_gw, w.before args s = true) (hown : s.vm.findClass own = some m.cls) (hlink : Cond.methodLink own index arraycopyName ∈ lw_gw) (hnat : Cond.native arraycopyName ∈ lw_gw) (hstat : Cond.static arraycopyName ∈ lw_gw) (hini : Cond.initialized "java/lang/System" ∈ lw_gw) (hK : va_K D cl (tys K) s) (hP : va_P D cl wl H) (hD : va_D A wl) (hS : va_S A s.heap H locs) (q0 q1 t0 : Nat) {a0 : Nat} {c0 : ClassId} {n0 n1 : Nat} {v : Int32} {ty : FieldType} (ha0 : wl[q0]? = some (a0, .inl (c0, n0, .inl (fun _ => v)))) (ha1 : wl[q1]? = some (a, .inl (c0, n1, .inl (fun _ => v)))) (ht0 : (tys K)[t0]? = some (c0, ty)) (hprim : refKind ty = false) {k : Nat} (h4 : k ≤ n0) (h5 : k ≤ n1) (hkk : k < 2 ^ 31) (hfit : fits ty (.int v) = true) (hf : 1 ≤ R.frames) (hlo : (rest.map fun v => v.category).sum + 71 ≤ R.locals) (hdg : decode cc pc = .ok (.invokestatic index, 3)) (e1 : wl.set q1 (a, .inl (c0, n1, .inl (fun _ => v))) = wl)
    (kk : ∀ (H1 : Heap) (locs1 : List Loc), va_P D cl wl H1 → va_D A wl → va_S A s.heap H1 locs1 → W p l e R s m args below meth c H1 locs1 cells slots Q (F0 m (pc + 3) ls rest)) : W p l e R s m args below meth c H locs cells slots Q (F0 m pc ls (.int (nI k) :: .int (nI 0) :: .ref a :: .int (nI 0) :: .ref a0 :: rest)) := by
  have hc0 : (nI 0).toNatClampNeg = 0 := nI_clamp (by decide)
  have hck : (nI k).toNatClampNeg = k := nI_clamp hkk
  refine va_copyi hx hb hml hown (hts _ hlink) (hts _ hnat) (hts _ hstat) (hts _ hini) hK hP hD hS q0 q1 t0 t0 ha0 ha1 ht0 ht0 hprim (nI_pos (by decide)) (nI_pos (by decide)) (nI_pos hkk) (by rw [hc0, hck]; omega) (by rw [hc0, hck]; omega) (fun _ _ => hfit) hf (by have := nfw; omega) hdg ?_
  have e2 : ∀ a b d, va_cpy (fun _ => v) (fun _ => v) a b d = (fun _ : Nat => v) := fun a b d => by funext j; unfold va_cpy; split <;> rfl
  intro H1 locs1 h1 h2 h3
  rw [e2] at h1 h2
  exact kk H1 locs1 (e1 ▸ h1) (e1 ▸ h2) h3
/-- nothing copied out of the empty list's array -/
theorem r_copyE (hx : p.tables.exec = Jvm.exec) (hb : c.code = cc) (hml : c.maxLocals = ls.size) {own : String} {index : Nat} (hts : ∀ w ∈ lw_gw, w.before args s = true) (hown : s.vm.findClass own = some m.cls) (hlink : Cond.methodLink own index arraycopyName ∈ lw_gw) (hnat : Cond.native arraycopyName ∈ lw_gw) (hstat : Cond.static arraycopyName ∈ lw_gw) (hini : Cond.initialized "java/lang/System" ∈ lw_gw) (hK : va_K D cl (tys K) s) (hm : Amb G A s s.heap) (hP : va_P D cl wl H) (hD : va_D A wl) (hS : va_S A s.heap H locs) (q1 t1 : Nat) {c1 : ClassId} {n1 : Nat} {E1 : String} (ha1 : wl[q1]? = some (a, .inl (c1, n1, .inr (.inr (.inr (.inr (fun _ => none))))))) (ht1 : (tys K)[t1]? = some (c1, .object E1)) (hf : 1 ≤ R.frames) (hlo : (rest.map fun v => v.category).sum + 71 ≤ R.locals) (hdg : decode cc pc = .ok (.invokestatic index, 3)) (e1 : wl.set q1 (a, .inl (c1, n1, .inr (.inr (.inr (.inr (fun _ => none)))))) = wl)
    (kk : ∀ (H1 : Heap) (locs1 : List Loc), va_P D cl wl H1 → va_D A wl → va_S A s.heap H1 locs1 → W p l e R s m args below meth c H1 locs1 cells slots Q (F0 m (pc + 3) ls rest)) : W p l e R s m args below meth c H locs cells slots Q (F0 m pc ls (.int (nI 0) :: .int (nI 0) :: .ref a :: .int (nI 0) :: .ref (G 0) :: rest)) := by
  have hc0 : (nI 0).toNatClampNeg = 0 := nI_clamp (by decide)
  refine va_copyg hx hb hml hown (hts _ hlink) (hts _ hnat) (hts _ hstat) (hts _ hini) hK hP hD hS q1 t1 hm.2.2.2.2.1.2.1 ha1 ht1 (nI_pos (by decide)) (nI_pos (by decide)) (nI_pos (by decide)) (by rw [hc0]; omega) (by rw [hc0]; omega) hf (by have := nfw; omega) hdg ?_
  have e2 : ∀ a b d, va_cpy (fun _ => none) (fun _ => none) a b d = (fun _ : Nat => (none : Option Nat)) := fun a b d => by funext j; unfold va_cpy; split <;> rfl
  intro H1 locs1 h1 h2 h3
  rw [e2] at h1 h2
  exact kk H1 locs1 (e1 ▸ h1) (e1 ▸ h2) h3
theorem r_clone (hx : p.tables.exec = Jvm.exec) (hb : c.code = cc) (hml : c.maxLocals = ls.size) {own : String} {index : Nat} (hts : ∀ w ∈ lw_gw, w.before args s = true) (hown : s.vm.findClass own = some m.cls) (hlink : Cond.methodLink own index ⟨"[I", "clone", "()Ljava/lang/Object;"⟩ ∈ lw_gw) (hsame : Cond.sameMethod "[I" "java/lang/Object" "clone" "()Ljava/lang/Object;" ∈ lw_gw) (hnat : Cond.native ⟨"java/lang/Object", "clone", "()Ljava/lang/Object;"⟩ ∈ lw_gw) (hinst : Cond.instanceMethod ⟨"java/lang/Object", "clone", "()Ljava/lang/Object;"⟩ ∈ lw_gw) (hsel : Cond.selects "[I" ⟨"[I", "clone", "()Ljava/lang/Object;"⟩ ⟨"java/lang/Object", "clone", "()Ljava/lang/Object;"⟩ ∈ lw_gw) (hm : Amb G A s s.heap) (hcl : Cond.castable "[I" "java/lang/Cloneable" ∈ lw_aw)
    (hK : va_K D cl (tys K) s) (hP : va_P D cl wl H) (hD : va_D A wl) (hS : va_S A s.heap H locs) (hA : ∀ q, s.heap.size ≤ q → A q) (q0 : Nat) {n : Nat} {f : Nat → Int32} (ha : wl[q0]? = some (a, .inl (K 2, n, .inl f))) (hf : 1 ≤ R.frames) (hlo : (rest.map fun v => v.category).sum + 14 ≤ R.locals) (hcells : cells + 1 ≤ R.cells) (hslots : slots + n ≤ R.slots) (hdg : decode cc pc = .ok (.invokevirtual index, 3)) {w2 : Nat → va_W} (e1 : ∀ q, wl ++ [(q, .inl (K 2, n, .inl f))] = w2 q)
    (kk : ∀ (q : Nat) (H1 : Heap), va_P D cl (w2 q) H1 → va_D A (w2 q) → va_S A s.heap H1 locs → W p l e R s m args below meth c H1 locs (cells + 1) (slots + n) Q (F0 m (pc + 3) ls (.ref q :: rest))) : W p l e R s m args below meth c H locs cells slots Q (F0 m pc ls (.ref a :: rest)) :=
  va_clone hx hb hml hown (hts _ hlink) (hts _ hsame) (hts _ hnat) (hts _ hinst) (hts _ hsel) (hm.1 _ hcl) hK hP hD hS hA q0 2 ha rfl (nm_int hK) (va_fit (fun _ _ => rfl)) hf hlo hcells hslots hdg (fun q H1 _ h1 h2 h3 => kk q H1 (e1 q ▸ h1) (e1 q ▸ h2) h3)
end ROWS3
theorem upd_c {k : Nat} {v : Int32} : upd (fun _ => v) k v = (fun _ => v) := by funext j; unfold upd; split <;> rfl
theorem up_c {α : Type} {k : Nat} {v : α} : va_up (fun _ => v) k v = (fun _ => v) := by funext j; unfold va_up; split <;> rfl
/-- an array's content by another function that is the same at its places -/
theorem nrm {D : va_G} {wl ws' : va_W} {H : Heap} {A : Nat → Prop} (hP : va_P D cl wl H) (hD : va_D A wl) (q0 : Nat) {a n : Nat} {cA : ClassId} {f g : Nat → Int32} (ha : wl[q0]? = some (a, .inl (cA, n, .inl f))) (h : ∀ j, j < n → f j = g j) (e1 : wl.set q0 (a, .inl (cA, n, .inl g)) = ws') : va_P D cl ws' H ∧ va_D A ws' := by
  subst e1
  have h0 : H[a]? = some (vp_cell cA (n, .inl f)) := hP q0 _ ha
  have e : vp_cell cA (n, .inl f) = vp_cell cA (n, .inl g) := by
    rw [vp_cell_i, vp_cell_i]
    unfold arrV
    congr 2
    funext j
    show Value.int (f j.val) = Value.int (g j.val)
    rw [h j.val j.isLt]
  rw [e] at h0
  exact ⟨hP.set hD ha h0 (fun _ _ => rfl), hD.set ha⟩
